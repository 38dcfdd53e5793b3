section
-- ===== PART A: goes FIRST, ahead of the names: the tables' words, and 'selects' of the private methods out of them =====
/-- a private method of a class that the tables say can be made, by its rows of tables_1 -/
def lw_okq (q : MethodName × Nat) : Prop := (q.1.cls ≠ "java/lang/invoke/MethodHandle" ∧ q.1.cls ≠ "java/lang/invoke/VarHandle") ∧ Cond.instantiable q.1.cls q.2 ∈ tables_1 ∧ Cond.privateMethod q.1 ∈ tables_1 ∧ Cond.instanceMethod q.1 ∈ tables_1
theorem lw_p0 : lw_okq (⟨"LimitBank$VectorText", "afterBlanks", "(I)I"⟩, 3) := ⟨⟨by decide +kernel, by decide +kernel⟩, List.mem_of_getElem? (i := 21) (by decide +kernel), List.mem_of_getElem? (i := 196) (by decide +kernel), List.mem_of_getElem? (i := 197) (by decide +kernel)⟩
theorem lw_p1 : lw_okq (⟨"LimitBank$VectorText", "byteAt", "(I)I"⟩, 3) := ⟨⟨by decide +kernel, by decide +kernel⟩, List.mem_of_getElem? (i := 21) (by decide +kernel), List.mem_of_getElem? (i := 200) (by decide +kernel), List.mem_of_getElem? (i := 201) (by decide +kernel)⟩
theorem lw_p2 : lw_okq (⟨"LimitBank$VectorText", "afterLetters", "(I)I"⟩, 3) := ⟨⟨by decide +kernel, by decide +kernel⟩, List.mem_of_getElem? (i := 21) (by decide +kernel), List.mem_of_getElem? (i := 205) (by decide +kernel), List.mem_of_getElem? (i := 206) (by decide +kernel)⟩
theorem lw_p3 : lw_okq (⟨"LimitBank$VectorText", "nameBetween", "(II)I"⟩, 3) := ⟨⟨by decide +kernel, by decide +kernel⟩, List.mem_of_getElem? (i := 21) (by decide +kernel), List.mem_of_getElem? (i := 212) (by decide +kernel), List.mem_of_getElem? (i := 213) (by decide +kernel)⟩
theorem lw_p4 : lw_okq (⟨"LimitBank$VectorText", "isBetween", "(Ljava/lang/String;II)Z"⟩, 3) := ⟨⟨by decide +kernel, by decide +kernel⟩, List.mem_of_getElem? (i := 21) (by decide +kernel), List.mem_of_getElem? (i := 223) (by decide +kernel), List.mem_of_getElem? (i := 224) (by decide +kernel)⟩
theorem lw_p5 : lw_okq (⟨"LimitBank$VectorText", "isDigit", "(I)Z"⟩, 3) := ⟨⟨by decide +kernel, by decide +kernel⟩, List.mem_of_getElem? (i := 21) (by decide +kernel), List.mem_of_getElem? (i := 275) (by decide +kernel), List.mem_of_getElem? (i := 276) (by decide +kernel)⟩
theorem lw_p6 : lw_okq (⟨"LimitBank$VectorText", "numberBetween", "(II)I"⟩, 3) := ⟨⟨by decide +kernel, by decide +kernel⟩, List.mem_of_getElem? (i := 21) (by decide +kernel), List.mem_of_getElem? (i := 279) (by decide +kernel), List.mem_of_getElem? (i := 280) (by decide +kernel)⟩
theorem lw_p7 : lw_okq (⟨"LimitBank$History", "dropOldest", "()V"⟩, 2) := ⟨⟨by decide +kernel, by decide +kernel⟩, List.mem_of_getElem? (i := 139) (by decide +kernel), List.mem_of_getElem? (i := 298) (by decide +kernel), List.mem_of_getElem? (i := 299) (by decide +kernel)⟩
theorem lw_p8 : lw_okq (⟨"LimitBank$Ledger", "fits", "(I)Z"⟩, 18) := ⟨⟨by decide +kernel, by decide +kernel⟩, List.mem_of_getElem? (i := 40) (by decide +kernel), List.mem_of_getElem? (i := 353) (by decide +kernel), List.mem_of_getElem? (i := 354) (by decide +kernel)⟩
theorem lw_p9 : lw_okq (⟨"LimitBank$Ledger", "addUse", "(LLimitBank$Claims;II)V"⟩, 18) := ⟨⟨by decide +kernel, by decide +kernel⟩, List.mem_of_getElem? (i := 40) (by decide +kernel), List.mem_of_getElem? (i := 375) (by decide +kernel), List.mem_of_getElem? (i := 376) (by decide +kernel)⟩
theorem lw_p10 : lw_okq (⟨"LimitBank", "makePlan", "()I"⟩, 6) := ⟨⟨by decide +kernel, by decide +kernel⟩, List.mem_of_getElem? (i := 13) (by decide +kernel), List.mem_of_getElem? (i := 405) (by decide +kernel), List.mem_of_getElem? (i := 406) (by decide +kernel)⟩
def lw_privs_1 : List (MethodName × Nat) := [(⟨"LimitBank$VectorText", "afterBlanks", "(I)I"⟩, 3), (⟨"LimitBank$VectorText", "byteAt", "(I)I"⟩, 3), (⟨"LimitBank$VectorText", "afterLetters", "(I)I"⟩, 3), (⟨"LimitBank$VectorText", "nameBetween", "(II)I"⟩, 3), (⟨"LimitBank$VectorText", "isBetween", "(Ljava/lang/String;II)Z"⟩, 3), (⟨"LimitBank$VectorText", "isDigit", "(I)Z"⟩, 3), (⟨"LimitBank$VectorText", "numberBetween", "(II)I"⟩, 3), (⟨"LimitBank$History", "dropOldest", "()V"⟩, 2), (⟨"LimitBank$Ledger", "fits", "(I)Z"⟩, 18), (⟨"LimitBank$Ledger", "addUse", "(LLimitBank$Claims;II)V"⟩, 18), (⟨"LimitBank", "makePlan", "()I"⟩, 6)]
theorem lw_r1 : ∀ q ∈ lw_privs_1, lw_okq q := List.forall_mem_cons.mpr ⟨lw_p0, List.forall_mem_cons.mpr ⟨lw_p1, List.forall_mem_cons.mpr ⟨lw_p2, List.forall_mem_cons.mpr ⟨lw_p3, List.forall_mem_cons.mpr ⟨lw_p4, List.forall_mem_cons.mpr ⟨lw_p5, List.forall_mem_cons.mpr ⟨lw_p6, List.forall_mem_cons.mpr ⟨lw_p7, List.forall_mem_cons.mpr ⟨lw_p8, List.forall_mem_cons.mpr ⟨lw_p9, List.forall_mem_cons.mpr ⟨lw_p10, fun _ h => absurd h List.not_mem_nil⟩⟩⟩⟩⟩⟩⟩⟩⟩⟩⟩
def lw_privs : List (MethodName × Nat) := lw_privs_1
def lw_tbl : List Cond := k2_sels lw_privs ++ tables_1
theorem lw_privs_ok : ∀ q ∈ lw_privs, lw_okq q := lw_r1
end
section
/-! ===== the abstract memory: cells are numbered in the order in which they are made; 16 is the first ===== -/
abbrev Mem : Type := Nat × (Nat → Nat → Int32) × (Nat → Nat → Nat) × (Nat → Int64)
def mN (M : Mem) : Nat := M.1
def mI (M : Mem) : Nat → Nat → Int32 := M.2.1
def mR (M : Mem) : Nat → Nat → Nat := M.2.2.1
def mL (M : Mem) : Nat → Int64 := M.2.2.2
def u2 {α : Type} (f : Nat → Nat → α) (a k : Nat) (v : α) : Nat → Nat → α := fun x y => if x = a ∧ y = k then v else f x y
def u1 {α : Type} (f : Nat → α) (a : Nat) (v : α) : Nat → α := fun x => if x = a then v else f x
def stI (M : Mem) (a k : Nat) (v : Int32) : Mem := (M.1, u2 M.2.1 a k v, M.2.2.1, M.2.2.2)
def stR (M : Mem) (a k : Nat) (v : Nat) : Mem := (M.1, M.2.1, u2 M.2.2.1 a k v, M.2.2.2)
def stL (M : Mem) (a : Nat) (v : Int64) : Mem := (M.1, M.2.1, M.2.2.1, u1 M.2.2.2 a v)
/-- a new cell, all zeros -/
def al (M : Mem) : Mem := (M.1 + 1, fun x y => if x = M.1 then 0 else M.2.1 x y, fun x y => if x = M.1 then 0 else M.2.2.1 x y, fun x => if x = M.1 then 0 else M.2.2.2 x)
/-- kinds: (1, n) ints, (2, n) ledgers, (3 + c, n) an object of class c -/
def ledK : List (Nat × Nat) := [(5, 18), (1, 4), (1, 4), (1, 4), (1, 6), (1, 6), (1, 6), (1, 24), (1, 24), (1, 24), (3, 3), (1, 240), (3, 3), (1, 144), (1, 6)]
def kdl : List (Nat × Nat) := [(7, 6), (6, 3), (1, 60), (1, 4)] ++ (ledK ++ (ledK ++ ([(4, 2), (2, 8)] ++ (ledK ++ (ledK ++ (ledK ++ (ledK ++ (ledK ++ (ledK ++ (ledK ++ (ledK ++ ([(1, 24), (1, 6)] ++ List.replicate 51 (1, 64)))))))))))))
def kd (i : Nat) : Nat × Nat := if i < 16 then (0, 0) else kdl.getD (i - 16) (0, 0)
theorem kd_lo {i : Nat} (h : ¬ (kd i).1 = 0) : 16 ≤ i := by
  unfold kd at h
  by_cases q : i < 16
  · rw [if_pos q] at h
    exact absurd rfl h
  · omega
def sl (n : Nat) : Nat := ((List.range (n - 16)).map fun j => (kd (j + 16)).2).sum
theorem sl_succ {n : Nat} (h : 16 ≤ n) : sl (n + 1) = sl n + (kd n).2 := by
  unfold sl
  rw [show n + 1 - 16 = (n - 16) + 1 by omega, List.range_succ, List.map_append, List.sum_append]
  simp [show n - 16 + 16 = n by omega]
theorem sl_mono {a b : Nat} (h : a ≤ b) : sl a ≤ sl b := by
  induction b with
  | zero => rw [Nat.le_zero.mp h]; exact Nat.le_refl _
  | succ b ih =>
    rcases Nat.lt_or_ge a (b + 1) with q | q
    · refine Nat.le_trans (ih (by omega)) ?_
      rcases Nat.lt_or_ge b 16 with z | z
      · have e1 : b - 16 = 0 := by omega
        have e2 : b + 1 - 16 = 0 := by omega
        simp [sl, e1, e2]
      · rw [sl_succ z]; omega
    · rw [show a = b + 1 by omega]; exact Nat.le_refl _
/-! ===== what is given around it: launch, script (address, length, ints), first address, classes, the two array classes, the four texts and their bytes, a static that is only carried ===== -/
abbrev Zt : Type := Launch × (Nat × Nat × (Nat → Int32)) × Nat × va_G × (ClassId × ClassId) × (Nat → Nat) × (Nat → Nat) × Option Nat
def zl (Z : Zt) : Launch := Z.1
def zb (Z : Zt) : Nat := Z.2.1.1
def zn (Z : Zt) : Nat := Z.2.1.2.1
def zx (Z : Zt) : Nat → Int32 := Z.2.1.2.2
def zo (Z : Zt) : Nat := Z.2.2.1
def zD (Z : Zt) : va_G := Z.2.2.2.1
def zcI (Z : Zt) : ClassId := Z.2.2.2.2.1.1
def zcL (Z : Zt) : ClassId := Z.2.2.2.2.1.2
def zK (Z : Zt) : Nat → Nat := Z.2.2.2.2.2.1
def zV (Z : Zt) : Nat → Nat := Z.2.2.2.2.2.2.1
def zF (Z : Zt) : Option Nat := Z.2.2.2.2.2.2.2
/-- the address of a number: 0 null, 1 the script, 2 .. 5 the texts, 6 .. 9 their bytes, 10 what is only carried, from 16 on the cells -/
def rfo (Z : Zt) (i : Nat) : Option Nat := if 16 ≤ i then some (zo Z + (i - 16)) else if i = 1 then some (zb Z) else if 2 ≤ i ∧ i < 6 then some (zK Z (i - 2)) else if 6 ≤ i ∧ i < 10 then some (zV Z (i - 6)) else if i = 10 then zF Z else none
def ad (Z : Zt) (i : Nat) : Value := va_rf (rfo Z i)
def cv (Z : Zt) (v : Value) : Value := match v with
  | .ref i => ad Z i
  | w => w
theorem ad_cell {Z : Zt} {i : Nat} (h : 16 ≤ i) : ad Z i = .ref (zo Z + (i - 16)) := by simp [ad, rfo, h, va_rf]
theorem rfo_cell {Z : Zt} {i : Nat} (h : 16 ≤ i) : rfo Z i = some (zo Z + (i - 16)) := by simp [rfo, h]
theorem ad_or (Z : Zt) (i : Nat) : ad Z i = .null ∨ ∃ a, ad Z i = .ref a := by
  unfold ad
  cases rfo Z i with
  | none => exact Or.inl rfl
  | some a => exact Or.inr ⟨a, rfl⟩
theorem ad_cat (Z : Zt) (i : Nat) : (ad Z i).category = 1 := by
  rcases ad_or Z i with h | ⟨a, h⟩ <;> rw [h] <;> rfl
theorem cv_cat (Z : Zt) (v : Value) : (cv Z v).category = v.category := by
  cases v with
  | ref i => exact ad_cat Z i
  | _ => rfl
def RX0 : String := "LimitBank$Claims"
def TX0 : u_T := fun k => match k with
  | 0 => ("LimitBank$Claims", "cells", "[I", true)
  | 1 => ("LimitBank$Claims", "most", "I", true)
  | _ => ("LimitBank$Claims", "size", "I", false)
def tyX0 : Nat → FieldType := fun k => match k with
  | 0 => .array .int
  | 1 => .int
  | _ => .int
def RX1 : String := "LimitBank$History"
def TX1 : u_T := fun k => match k with
  | 0 => ("LimitBank$History", "states", "[LLimitBank$Ledger;", true)
  | _ => ("LimitBank$History", "size", "I", false)
def tyX1 : Nat → FieldType := fun k => match k with
  | 0 => .array (.object "LimitBank$Ledger")
  | _ => .int
def RX2 : String := "LimitBank$Ledger"
def TX2 : u_T := fun k => match k with
  | 0 => ("LimitBank$Ledger", "capacity", "[I", true)
  | 1 => ("LimitBank$Ledger", "fund", "[I", true)
  | 2 => ("LimitBank$Ledger", "used", "[I", true)
  | 3 => ("LimitBank$Ledger", "weight", "[I", true)
  | 4 => ("LimitBank$Ledger", "points", "[I", true)
  | 5 => ("LimitBank$Ledger", "ruinedAt", "[I", true)
  | 6 => ("LimitBank$Ledger", "limit", "[I", true)
  | 7 => ("LimitBank$Ledger", "loan", "[I", true)
  | 8 => ("LimitBank$Ledger", "usedBy", "[I", true)
  | 9 => ("LimitBank$Ledger", "grants", "LLimitBank$Claims;", true)
  | 10 => ("LimitBank$Ledger", "demands", "LLimitBank$Claims;", true)
  | 11 => ("LimitBank$Ledger", "queue", "[I", true)
  | 12 => ("LimitBank$Ledger", "bankrupts", "I", false)
  | 13 => ("LimitBank$Ledger", "tenants", "I", false)
  | 14 => ("LimitBank$Ledger", "time", "I", false)
  | 15 => ("LimitBank$Ledger", "rest", "I", false)
  | 16 => ("LimitBank$Ledger", "nextNumber", "I", false)
  | _ => ("LimitBank$Ledger", "ruins", "I", false)
def tyX2 : Nat → FieldType := fun k => match k with
  | 0 => .array .int
  | 1 => .array .int
  | 2 => .array .int
  | 3 => .array .int
  | 4 => .array .int
  | 5 => .array .int
  | 6 => .array .int
  | 7 => .array .int
  | 8 => .array .int
  | 9 => .object "LimitBank$Claims"
  | 10 => .object "LimitBank$Claims"
  | 11 => .array .int
  | 12 => .int
  | 13 => .int
  | 14 => .int
  | 15 => .int
  | 16 => .int
  | _ => .int
def RX3 : String := "LimitBank$VectorText"
def TX3 : u_T := fun k => match k with
  | 0 => ("LimitBank$VectorText", "bytes", "[I", true)
  | 1 => ("LimitBank$VectorText", "units", "[I", true)
  | _ => ("LimitBank$VectorText", "length", "I", false)
def tyX3 : Nat → FieldType := fun k => match k with
  | 0 => .array .int
  | 1 => .array .int
  | _ => .int
def RX4 : String := "LimitBank"
def TX4 : u_T := fun k => match k with
  | 0 => ("LimitBank", "text", "LLimitBank$VectorText;", true)
  | 1 => ("LimitBank", "now", "LLimitBank$Ledger;", true)
  | 2 => ("LimitBank", "trial", "LLimitBank$Ledger;", true)
  | 3 => ("LimitBank", "history", "LLimitBank$History;", true)
  | 4 => ("LimitBank", "served", "[I", true)
  | _ => ("LimitBank", "ticksToRuin", "[I", true)
def tyX4 : Nat → FieldType := fun k => match k with
  | 0 => .object "LimitBank$VectorText"
  | 1 => .object "LimitBank$Ledger"
  | 2 => .object "LimitBank$Ledger"
  | 3 => .object "LimitBank$History"
  | 4 => .array .int
  | _ => .array .int
/-- the classes of the cells: claims, history, ledger, text, bank, model -/
def cls : List vw_C := [(RX0, TX0, 3), (RX1, TX1, 2), (RX2, TX2, 18), (RX3, TX3, 3), (RX4, TX4, 6)]
def cnm (ci : Nat) : String := (cls.getD ci ("", TX0, 0)).1
def cT (ci : Nat) : u_T := (cls.getD ci ("", TX0, 0)).2.1
def cW (ci : Nat) : Nat := (cls.getD ci ("", TX0, 0)).2.2
def cty (ci : Nat) : Nat → FieldType := [tyX0, tyX1, tyX2, tyX3, tyX4].getD ci tyX0
/-- how a field is kept: 0 an int, 1 a reference, 2 an int that never changes (in mR), 3 a long -/
def fkl : List (List Nat) := [[1, 2, 0], [1, 0], [1, 1, 1, 1, 1, 1, 1, 1, 1, 1, 1, 1, 0, 0, 0, 0, 0, 0], [1, 1, 0], [1, 1, 1, 1, 1, 1]]
def fk (ci k : Nat) : Nat := (fkl.getD ci []).getD k 0
def fv (Z : Zt) (M : Mem) (i ci k : Nat) : Value := if fk ci k = 0 then .int (mI M i k) else if fk ci k = 1 then ad Z (mR M i k) else if fk ci k = 2 then .int (nI (mR M i k)) else .long (mL M i)
def ce (Z : Zt) (M : Mem) (i : Nat) : va_E := if (kd i).1 = 1 then .inl (zcI Z, (kd i).2, .inl (mI M i)) else if (kd i).1 = 2 then .inl (zcL Z, (kd i).2, .inr (.inr (.inr (.inr (fun j => rfo Z (mR M i j)))))) else .inr ((kd i).1 - 3, (List.range (kd i).2).map (fv Z M i ((kd i).1 - 3)))
def wsZ (Z : Zt) (M : Mem) : va_W := (List.range (mN M - 16)).map fun j => (zo Z + j, ce Z M (j + 16))
def Ar (Z : Zt) : Nat → Prop := fun q => zo Z ≤ q
def Rep (Z : Zt) (M : Mem) (H : Heap) : Prop := va_P (zD Z) cls (wsZ Z M) H ∧ H.size = zo Z + (mN M - 16) ∧ 16 ≤ mN M
theorem wsZ_len (Z : Zt) (M : Mem) : (wsZ Z M).length = mN M - 16 := by simp [wsZ]
theorem wsZ_at {Z : Zt} {M : Mem} {i : Nat} (h : 16 ≤ i) (h2 : i < mN M) : (wsZ Z M)[i - 16]? = some (zo Z + (i - 16), ce Z M i) := by
  unfold wsZ
  rw [List.getElem?_map, List.getElem?_range (by omega)]
  simp [show i - 16 + 16 = i by omega]
theorem wsZ_get {Z : Zt} {M : Mem} {k : Nat} {q : Nat × va_E} (h : (wsZ Z M)[k]? = some q) : k < mN M - 16 ∧ q = (zo Z + k, ce Z M (k + 16)) := by
  have hl : k < (wsZ Z M).length := (List.getElem?_eq_some_iff.mp h).1
  rw [wsZ_len] at hl
  have h2 := wsZ_at (Z := Z) (M := M) (i := k + 16) (by omega) (by omega)
  rw [show k + 16 - 16 = k by omega] at h2
  exact ⟨hl, Option.some.inj (h.symm.trans h2)⟩
theorem wsD (Z : Zt) (M : Mem) : va_D (Ar Z) (wsZ Z M) := by
  refine ⟨fun i j p q hi hj e => ?_, fun k q h => ?_⟩
  · obtain ⟨-, rfl⟩ := wsZ_get hi
    obtain ⟨-, rfl⟩ := wsZ_get hj
    simp at e
    exact e
  · obtain ⟨-, rfl⟩ := wsZ_get h
    show zo Z ≤ zo Z + k
    omega
theorem wsZ_set {Z : Zt} {M M' : Mem} {i : Nat} (h : 16 ≤ i) (h2 : i < mN M) (hn : mN M' = mN M) (ho : ∀ j, j ≠ i → ce Z M' j = ce Z M j) : (wsZ Z M).set (i - 16) (zo Z + (i - 16), ce Z M' i) = wsZ Z M' := by
  apply List.ext_getElem?
  intro k
  by_cases hk : k = i - 16
  · subst hk
    rw [List.getElem?_set_self (by rw [wsZ_len]; omega), wsZ_at h (by rw [hn]; exact h2)]
  · rw [List.getElem?_set_ne (fun z => hk z.symm)]
    by_cases hl : k < mN M - 16
    · have a := wsZ_at (Z := Z) (M := M) (i := k + 16) (by omega) (by omega)
      have b := wsZ_at (Z := Z) (M := M') (i := k + 16) (by omega) (by omega)
      rw [show k + 16 - 16 = k by omega] at a b
      rw [a, b, ho _ (by omega)]
    · rw [List.getElem?_eq_none (by rw [wsZ_len]; omega), List.getElem?_eq_none (by rw [wsZ_len]; omega)]
theorem wsZ_push {Z : Zt} {M M' : Mem} (h : 16 ≤ mN M) (hn : mN M' = mN M + 1) (ho : ∀ j, j < mN M → ce Z M' j = ce Z M j) : wsZ Z M ++ [(zo Z + (mN M - 16), ce Z M' (mN M))] = wsZ Z M' := by
  unfold wsZ
  rw [hn, show mN M + 1 - 16 = (mN M - 16) + 1 by omega, List.range_succ, List.map_append]
  congr 1
  · apply List.map_congr_left
    intro j hj
    have := List.mem_range.mp hj
    rw [ho _ (by omega)]
  · simp [show mN M - 16 + 16 = mN M by omega]
theorem ce_stI {Z : Zt} {M : Mem} {i k j : Nat} {v : Int32} (h : j ≠ i) : ce Z (stI M i k v) j = ce Z M j := by
  have e : ∀ y, mI (stI M i k v) j y = mI M j y := fun y => by simp [mI, stI, u2, h]
  have e2 : mI (stI M i k v) j = mI M j := funext e
  have e3 : fv Z (stI M i k v) j = fv Z M j := by
    funext ci y
    unfold fv
    rw [e]
    rfl
  unfold ce
  rw [e2, e3]
  rfl
theorem ce_stR {Z : Zt} {M : Mem} {i k j : Nat} {v : Nat} (h : j ≠ i) : ce Z (stR M i k v) j = ce Z M j := by
  have e : ∀ y, mR (stR M i k v) j y = mR M j y := fun y => by simp [mR, stR, u2, h]
  have e3 : fv Z (stR M i k v) j = fv Z M j := by
    funext ci y
    unfold fv
    rw [e]
    rfl
  unfold ce
  rw [e3]
  simp only [e]
  rfl
theorem ce_stL {Z : Zt} {M : Mem} {i j : Nat} {v : Int64} (h : j ≠ i) : ce Z (stL M i v) j = ce Z M j := by
  have e : mL (stL M i v) j = mL M j := by simp [mL, stL, u1, h]
  have e3 : fv Z (stL M i v) j = fv Z M j := by
    funext ci y
    unfold fv
    rw [e]
    rfl
  unfold ce
  rw [e3]
  rfl
theorem ce_al {Z : Zt} {M : Mem} {j : Nat} (h : j < mN M) : ce Z (al M) j = ce Z M j := by
  have hne : ¬ j = M.1 := Nat.ne_of_lt h
  have e1 : mI (al M) j = mI M j := by funext y; simp [mI, al, hne]
  have e2 : ∀ y, mR (al M) j y = mR M j y := fun y => by simp [mR, al, hne]
  have e4 : mL (al M) j = mL M j := by simp [mL, al, hne]
  have e3 : fv Z (al M) j = fv Z M j := by
    funext ci y
    unfold fv
    rw [e1, e2, e4]
  unfold ce
  rw [e1, e3]
  simp only [e2]
theorem map_set_range {α : Type} (f g : Nat → α) (n k : Nat) (v : α) (hk : g k = v) (ho : ∀ j, j ≠ k → g j = f j) : ((List.range n).map f).set k v = (List.range n).map g := by
  apply List.ext_getElem?
  intro j
  by_cases hj : j = k
  · subst hj
    by_cases hl : j < n
    · rw [List.getElem?_set_self (by simpa using hl), List.getElem?_map, List.getElem?_range hl]
      simp [hk]
    · rw [List.getElem?_eq_none (by simp; omega), List.getElem?_eq_none (by simp; omega)]
  · rw [List.getElem?_set_ne (fun z => hj z.symm), List.getElem?_map, List.getElem?_map]
    by_cases hl : j < n
    · rw [List.getElem?_range hl]
      simp [ho j hj]
    · rw [List.getElem?_eq_none (by simp; omega)]
      rfl
theorem fv_get {Z : Zt} {M : Mem} {i ci n k : Nat} (hk : k < n) : ((List.range n).map (fv Z M i ci))[k]? = some (fv Z M i ci k) := by
  rw [List.getElem?_map, List.getElem?_range hk]
  rfl
theorem fits_ad (Z : Zt) (i : Nat) (ty : FieldType) (h : ty.isReference = true) : fits ty (ad Z i) = true ∧ narrow ty (ad Z i) = ad Z i := by
  rcases ad_or Z i with e | ⟨a, e⟩ <;> rw [e] <;> cases ty <;> first | exact ⟨rfl, rfl⟩ | simp [FieldType.isReference] at h
end
section
/-! ===== the words, and what stays given in every frame ===== -/
def WS : List Cond := lw_tbl.filter goodWord
theorem WS_of {w : Cond} (h : w ∈ lw_tbl) (g : goodWord w = true) : w ∈ WS := List.mem_filter.mpr ⟨h, g⟩
theorem WS_good : ∀ w ∈ WS, goodWord w = true := fun _ h => (List.mem_filter.mp h).2
theorem WS_tbl : ∀ w ∈ WS, w ∈ lw_tbl := fun _ h => (List.mem_filter.mp h).1
def nestL : List (String × Nat × MethodName × String) := [("LimitBank", 9, ⟨"LimitBank$VectorText", "<init>", "()V"⟩, "LimitBank"), ("LimitBank$VectorText", 44, ⟨"LimitBank", "within", "(III)Z"⟩, "LimitBank"), ("LimitBank$Ledger", 59, ⟨"LimitBank", "copy", "([I[I)V"⟩, "LimitBank"), ("LimitBank$Claims", 25, ⟨"LimitBank", "copy", "([I[I)V"⟩, "LimitBank"), ("LimitBank$Claims", 32, ⟨"LimitBank", "within", "(III)Z"⟩, "LimitBank"), ("LimitBank$Ledger", 89, ⟨"LimitBank", "slot", "(II)I"⟩, "LimitBank"), ("LimitBank$Ledger", 82, ⟨"LimitBank", "isResource", "(I)Z"⟩, "LimitBank")]
def nestW (q : String × Nat × MethodName × String) : Cond := .methodLinkNest q.1 q.2.1 q.2.2.1 q.2.2.2
def strL : List (Nat × String) := [(65, "cpu"), (67, "mem"), (69, "net"), (71, "disk")]
def lenL : List Nat := [3, 3, 3, 4]
def bytL : List (List Int32) := [[99, 112, 117], [109, 101, 109], [110, 101, 116], [100, 105, 115, 107]]
def tysZ (Z : Zt) : List (ClassId × FieldType) := [(zcI Z, .int), (zcL Z, .object RX2)]
def GS (Z : Zt) (U : State) : Prop := va_K (zD Z) cls (tysZ Z) U ∧ (∀ q ∈ nestL, va_Nw (nestW q) U) ∧ va_AO RX2 U ∧ (∀ i, i < 4 → vk_R RX3 (strL.getD i (0, "")).1 (strL.getD i (0, "")).2 (zK Z i) U) ∧ vk_S 4 lenL bytL (zK Z) (zV Z) (Ar Z) U U.heap ∧ va_Z "java/lang/String" "COMPACT_STRINGS" "Z" (.int 1) (Ar Z) U U.heap ∧ va_Z "jdk/internal/util/Preconditions" "SIOOBE_FORMATTER" "Ljava/util/function/BiFunction;" (va_rf (zF Z)) (Ar Z) U U.heap ∧ va_T .int (zb Z) (zn Z) (fun j => .int (zx Z j)) (Ar Z) U U.heap
theorem GS.step {Z : Zt} {s U : State} {H : Heap} {locs : List Loc} (h : GS Z s) (hS : va_S (Ar Z) s.heap H locs) (hU : U.heap = H) (hW : s.WarmedH U.vm) : GS Z U := by
  obtain ⟨h1, h2, h3, h4, h5, h6, h7, h8⟩ := h
  have hv := hW.alike
  refine ⟨va_K.moved hv h1, fun q hq => va_Nw.warmM hW (h2 q hq), va_AO.moved hv h3, fun i hi => (h4 i hi).warm hW, ?_, ?_, ?_, ?_⟩
  · rw [hU]; exact (vk_S.moved hv h5).kept hS.2.1
  · rw [hU]; exact (va_Z.moved hv h6).kept hS.2.1
  · rw [hU]; exact (va_Z.moved hv h7).kept hS.2.1
  · rw [hU]; exact (va_T.moved hv h8).kept hS.2.1
theorem GS.calling {Z : Zt} {U : State} {g : JFrame} {mk : MethodId} {a : Array Value} (h : GS Z U) : GS Z (U.calling g mk a) := by
  obtain ⟨h1, h2, h3, h4, h5, h6, h7, h8⟩ := h
  have hv : U.vm.Alike (U.calling g mk a).vm := Vm.Alike.refl U.vm
  exact ⟨va_K.moved (u := U) (U := U.calling g mk a) hv h1, fun q hq => va_Nw.same rfl (u := U) (U := U.calling g mk a) rfl (h2 q hq), va_AO.moved (u := U) (U := U.calling g mk a) hv h3, fun i hi => vk_R.same (u := U) (U := U.calling g mk a) rfl (h4 i hi), vk_S.moved (u := U) (U := U.calling g mk a) hv h5, va_Z.moved (u := U) (U := U.calling g mk a) hv h6, va_Z.moved (u := U) (U := U.calling g mk a) hv h7, va_T.moved (u := U) (U := U.calling g mk a) hv h8⟩
/-! ===== the locals, by their places ===== -/
def lget (l : List (Option Value)) (i : Nat) : Option Value := match l, i with
  | [], _ => none
  | x :: _, 0 => x
  | _ :: t, i + 1 => lget t i
def lkill (x : Option Value) : Option Value := match x with
  | some (.long _) => none
  | some (.double _) => none
  | y => y
def lset (l : List (Option Value)) (i : Nat) (v : Value) : List (Option Value) := match l, i with
  | [], _ => []
  | _ :: t, 0 => some v :: t
  | x :: t, 1 => lkill x :: lset t 0 v
  | x :: t, i + 2 => x :: lset t (i + 1) v
def lset2 (l : List (Option Value)) (i : Nat) (v : Value) : List (Option Value) := match l, i with
  | [], _ => []
  | [_], 0 => []
  | _ :: _ :: t, 0 => some v :: none :: t
  | x :: t, 1 => lkill x :: lset2 t 0 v
  | x :: t, i + 2 => x :: lset2 t (i + 1) v
def LH (Z : Zt) (la : Array Slot) (nL : Nat) (l : List (Option Value)) : Prop := la.size = nL ∧ lv_wf la ∧ ∀ (i : Nat) (v : Value), lget l i = some v → la[i]? = some (.val (cv Z v))
theorem lkill_some {x : Option Value} {v : Value} (h : lkill x = some v) : x = some v ∧ v.category = 1 := by
  cases x with
  | none => simp [lkill] at h
  | some w => cases w <;> simp [lkill] at h <;> subst h <;> exact ⟨rfl, rfl⟩
theorem lset_get : ∀ (l : List (Option Value)) (i : Nat) (v w : Value) (j : Nat), lget (lset l i v) j = some w → (j = i ∧ w = v) ∨ (j ≠ i ∧ lget l j = some w ∧ (j + 1 = i → w.category = 1))
  | [], i, v, w, j, h => by simp [lset, lget] at h
  | x :: t, 0, v, w, j, h => by
    cases j with
    | zero => simp [lset, lget] at h; exact Or.inl ⟨rfl, h.symm⟩
    | succ j => simp [lset, lget] at h; exact Or.inr ⟨by omega, by simpa [lget] using h, by omega⟩
  | x :: t, 1, v, w, j, h => by
    cases j with
    | zero =>
      simp only [lset, lget] at h
      obtain ⟨a, b⟩ := lkill_some h
      exact Or.inr ⟨by omega, by simpa [lget] using a, fun _ => b⟩
    | succ j =>
      simp only [lset, lget] at h
      rcases lset_get t 0 v w j h with ⟨a, b⟩ | ⟨a, b, c⟩
      · exact Or.inl ⟨by omega, b⟩
      · exact Or.inr ⟨by omega, by simpa [lget] using b, by omega⟩
  | x :: t, i + 2, v, w, j, h => by
    cases j with
    | zero => simp only [lset, lget] at h; exact Or.inr ⟨by omega, by simpa [lget] using h, by omega⟩
    | succ j =>
      simp only [lset, lget] at h
      rcases lset_get t (i + 1) v w j h with ⟨a, b⟩ | ⟨a, b, c⟩
      · exact Or.inl ⟨by omega, b⟩
      · exact Or.inr ⟨by omega, by simpa [lget] using b, fun z => c (by omega)⟩
theorem lset2_get : ∀ (l : List (Option Value)) (i : Nat) (v w : Value) (j : Nat), lget (lset2 l i v) j = some w → (j = i ∧ w = v) ∨ (j ≠ i ∧ j ≠ i + 1 ∧ lget l j = some w ∧ (j + 1 = i → w.category = 1))
  | [], i, v, w, j, h => by simp [lset2, lget] at h
  | [x], 0, v, w, j, h => by simp [lset2, lget] at h
  | x :: y :: t, 0, v, w, j, h => by
    match j with
    | 0 => simp [lset2, lget] at h; exact Or.inl ⟨rfl, h.symm⟩
    | 1 => simp [lset2, lget] at h
    | j + 2 => simp [lset2, lget] at h; exact Or.inr ⟨by omega, by omega, by simpa [lget] using h, by omega⟩
  | x :: t, 1, v, w, j, h => by
    cases j with
    | zero =>
      simp only [lset2, lget] at h
      obtain ⟨a, b⟩ := lkill_some h
      exact Or.inr ⟨by omega, by omega, by simpa [lget] using a, fun _ => b⟩
    | succ j =>
      simp only [lset2, lget] at h
      rcases lset2_get t 0 v w j h with ⟨a, b⟩ | ⟨a, a2, b, c⟩
      · exact Or.inl ⟨by omega, b⟩
      · exact Or.inr ⟨by omega, by omega, by simpa [lget] using b, by omega⟩
  | x :: t, i + 2, v, w, j, h => by
    cases j with
    | zero => simp only [lset2, lget] at h; exact Or.inr ⟨by omega, by omega, by simpa [lget] using h, by omega⟩
    | succ j =>
      simp only [lset2, lget] at h
      rcases lset2_get t (i + 1) v w j h with ⟨a, b⟩ | ⟨a, a2, b, c⟩
      · exact Or.inl ⟨by omega, b⟩
      · exact Or.inr ⟨by omega, by omega, by simpa [lget] using b, fun z => c (by omega)⟩
/-- the listed pairs of the kit's own form -/
def lpairs (Z : Zt) (l : List (Option Value)) : List (Nat × Value) := (List.range l.length).filterMap fun i => (lget l i).map fun v => (i, cv Z v)
theorem lget_lt : ∀ (l : List (Option Value)) (i : Nat) (v : Value), lget l i = some v → i < l.length
  | [], i, v, h => by simp [lget] at h
  | x :: t, 0, v, h => by simp
  | x :: t, i + 1, v, h => by simp only [lget] at h; have := lget_lt t i v h; simp; omega
theorem lpairs_mem {Z : Zt} {l : List (Option Value)} {i : Nat} {v : Value} (h : lget l i = some v) : (i, cv Z v) ∈ lpairs Z l := by
  unfold lpairs
  exact List.mem_filterMap.mpr ⟨i, List.mem_range.mpr (lget_lt l i v h), by rw [h]; rfl⟩
theorem LH.has {Z : Zt} {la : Array Slot} {nL : Nat} {l : List (Option Value)} (h : LH Z la nL l) : lv_has la nL (lpairs Z l) := by
  refine ⟨h.1, h.2.1, fun q hq => ?_⟩
  obtain ⟨i, -, hi⟩ := List.mem_filterMap.mp hq
  cases hg : lget l i with
  | none => rw [hg] at hi; simp at hi
  | some v =>
    rw [hg] at hi
    simp at hi
    rw [← hi]
    exact h.2.2 i v hg
theorem LH.set1 {Z : Zt} {la : Array Slot} {nL i : Nat} {l : List (Option Value)} {v : Value} (h : lv_has la nL ((i, cv Z v) :: (lpairs Z l).filter (fun q => !(q.1 == i) && !(q.1 + 1 == i && q.2.category == 2)))) : LH Z la nL (lset l i v) := by
  refine ⟨h.1, h.2.1, fun j w hw => ?_⟩
  rcases lset_get l i v w j hw with ⟨rfl, rfl⟩ | ⟨a, b, c⟩
  · exact h.2.2 (j, cv Z w) List.mem_cons_self
  · refine h.2.2 (j, cv Z w) (List.mem_cons_of_mem _ (List.mem_filter.mpr ⟨lpairs_mem b, ?_⟩))
    by_cases hj : j + 1 = i
    · have := c hj
      simp [a, cv_cat, this]
    · simp [a, hj]
theorem LH.set2 {Z : Zt} {la : Array Slot} {nL i : Nat} {l : List (Option Value)} {v : Value} (h : lv_has la nL ((i, cv Z v) :: (lpairs Z l).filter (fun q => !(q.1 == i) && (!(q.1 == i + 1) && !(q.1 + 1 == i && q.2.category == 2))))) : LH Z la nL (lset2 l i v) := by
  refine ⟨h.1, h.2.1, fun j w hw => ?_⟩
  rcases lset2_get l i v w j hw with ⟨rfl, rfl⟩ | ⟨a, a2, b, c⟩
  · exact h.2.2 (j, cv Z w) List.mem_cons_self
  · refine h.2.2 (j, cv Z w) (List.mem_cons_of_mem _ (List.mem_filter.mpr ⟨lpairs_mem b, ?_⟩))
    by_cases hj : j + 1 = i
    · have := c hj
      simp [a, a2, cv_cat, this]
    · simp [a, a2, hj]
/-! ===== a method: its name, bytes, locals, type of its answer ===== -/
abbrev Sig : Type := MethodName × ByteArray × Nat × Option FieldType
def FC (Z : Zt) (d : Nat) (sg : Sig) (R : Room) (p : Program) (s : State) (m : MethodId) (args : Array Value) (meth : Method) (c : Code) : Prop :=
  p.tables.exec = Jvm.exec ∧ c.code = sg.2.1 ∧ c.maxLocals = sg.2.2.1 ∧ s.vm.findClass sg.1.cls = some m.cls ∧ (∀ w ∈ WS, w.before args s = true) ∧ GS Z s ∧ d ≤ R.frames ∧ 36 * d ≤ R.locals ∧ meth.name = sg.1.name
/-- the return instruction that fits an answer -/
def rOK (sg : Sig) (pc : Nat) (r : Option Value) : Prop := match r with
  | none => decode sg.2.1 pc = .ok (.return_, 1) ∧ sg.2.2.2 = none
  | some (.int v) => decode sg.2.1 pc = .ok (.ireturn, 1) ∧ ∃ ty, sg.2.2.2 = some ty ∧ narrow ty (.int v) = .int v
  | some (.long _) => decode sg.2.1 pc = .ok (.lreturn, 1) ∧ sg.2.2.2 = some .long
  | some (.ref _) => decode sg.2.1 pc = .ok (.areturn, 1) ∧ ∃ ty, sg.2.2.2 = some ty ∧ ((∃ n, ty = .object n) ∨ ∃ t, ty = .array t)
  | _ => False
/-- from here the machine comes to the frame's end, with an answer and a memory that are in Q -/
def X (Z : Zt) (d : Nat) (sg : Sig) (n0 nF : Nat) (Q : Option Value → Mem → Prop) (pc : Nat) (lv : List (Option Value)) (st : List Value) (M : Mem) : Prop :=
  ∀ (p : Program) (e : Env) (R : Room) (s : State) (m : MethodId) (args : Array Value) (below : List Frame) (meth : Method) (c : Code) (Qe : State → Prop) (H : Heap) (locs : List Loc) (la : Array Slot),
    FC Z d sg R p s m args meth c → nF - n0 ≤ R.cells → sl nF - sl n0 ≤ R.slots → n0 ≤ mN M → mN M ≤ nF → Rep Z M H → va_S (Ar Z) s.heap H locs → LH Z la sg.2.2.1 lv →
    (∀ (r : Option Value) (M' : Mem) (H' : Heap) (locs' : List Loc) (la' : Array Slot) (pc' : Nat), Q r M' → n0 ≤ mN M' → mN M' ≤ nF → Rep Z M' H' → va_S (Ar Z) s.heap H' locs' → rOK sg pc' r →
      W p (zl Z) e R s m args below meth c H' locs' (mN M' - n0) (sl (mN M') - sl n0) Qe (F0 m pc' la' (r.map (cv Z)).toList)) →
    W p (zl Z) e R s m args below meth c H locs (mN M - n0) (sl (mN M) - sl n0) Qe (F0 m pc la (st.map (cv Z)))
section XR
variable {Z : Zt} {d : Nat} {sg : Sig} {n0 nF : Nat} {Q : Option Value → Mem → Prop} {pc : Nat} {lv : List (Option Value)} {st : List Value} {M : Mem}
theorem X_ret {r : Option Value} (hr : rOK sg pc r) (hq : Q r M) : X Z d sg n0 nF Q pc lv r.toList M := by
  intro p e R s m args below meth c Qe H locs la hF h1 h2 h3 h4 hR hS hL hE
  have := hE r M H locs la pc hq h3 h4 hR hS hr
  cases r <;> exact this
theorem X_iconst {v : Int32} (hd : decode sg.2.1 pc = .ok (.iconst v.toInt, 1)) (h : X Z d sg n0 nF Q (pc + 1) lv (.int v :: st) M) : X Z d sg n0 nF Q pc lv st M := by
  intro p e R s m args below meth c Qe H locs la hF h1 h2 h3 h4 hR hS hL hE
  exact lv_iconst hF.1 hF.2.1 hd (by simp) (h p e R s m args below meth c Qe H locs la hF h1 h2 h3 h4 hR hS hL hE)
theorem X_bipush {v : Int32} (hd : decode sg.2.1 pc = .ok (.bipush v.toInt, 2)) (hv : (Int8.ofInt v.toInt).toInt32 = v) (h : X Z d sg n0 nF Q (pc + 2) lv (.int v :: st) M) : X Z d sg n0 nF Q pc lv st M := by
  intro p e R s m args below meth c Qe H locs la hF h1 h2 h3 h4 hR hS hL hE
  exact lv_bipush hF.1 hF.2.1 hd hv (h p e R s m args below meth c Qe H locs la hF h1 h2 h3 h4 hR hS hL hE)
theorem X_sipush {v : Int32} (hd : decode sg.2.1 pc = .ok (.sipush v.toInt, 3)) (hv : (Int16.ofInt v.toInt).toInt32 = v) (h : X Z d sg n0 nF Q (pc + 3) lv (.int v :: st) M) : X Z d sg n0 nF Q pc lv st M := by
  intro p e R s m args below meth c Qe H locs la hF h1 h2 h3 h4 hR hS hL hE
  exact lv_sipush hF.1 hF.2.1 hd hv (h p e R s m args below meth c Qe H locs la hF h1 h2 h3 h4 hR hS hL hE)
theorem X_ldc {v : Int32} {ix : Nat} (hw : Cond.constant sg.1.cls ix v ∈ WS) (hd : decode sg.2.1 pc = .ok (.ldc ix, 2)) (h : X Z d sg n0 nF Q (pc + 2) lv (.int v :: st) M) : X Z d sg n0 nF Q pc lv st M := by
  intro p e R s m args below meth c Qe H locs la hF h1 h2 h3 h4 hR hS hL hE
  exact lv_ldc hF.1 hF.2.1 hF.2.2.2.1 (hF.2.2.2.2.1 _ hw) hd (h p e R s m args below meth c Qe H locs la hF h1 h2 h3 h4 hR hS hL hE)
theorem X_ldc2 {v : Int64} {ix : Nat} (hw : Cond.constantLong sg.1.cls ix v ∈ WS) (hd : decode sg.2.1 pc = .ok (.ldc2_w ix, 3)) (h : X Z d sg n0 nF Q (pc + 3) lv (.long v :: st) M) : X Z d sg n0 nF Q pc lv st M := by
  intro p e R s m args below meth c Qe H locs la hF h1 h2 h3 h4 hR hS hL hE
  exact lv_ldc2 hF.1 hF.2.1 hF.2.2.2.1 (hF.2.2.2.2.1 _ hw) hd (h p e R s m args below meth c Qe H locs la hF h1 h2 h3 h4 hR hS hL hE)
theorem X_ldcS {i : Nat} (hi : i < 4) (hc : sg.1.cls = RX3) (hd : decode sg.2.1 pc = .ok (.ldc (strL.getD i (0, "")).1, 2)) (h : X Z d sg n0 nF Q (pc + 2) lv (.ref (i + 2) :: st) M) : X Z d sg n0 nF Q pc lv st M := by
  intro p e R s m args below meth c Qe H locs la hF h1 h2 h3 h4 hR hS hL hE
  have hz := hF.2.2.2.2.2.1.2.2.2.1 i hi
  have e1 : cv Z (.ref (i + 2)) = .ref (zK Z i) := by
    show ad Z (i + 2) = _
    have a : ¬ 16 ≤ i + 2 := by omega
    have b : ¬ i + 2 = 1 := by omega
    have c : 2 ≤ i + 2 ∧ i + 2 < 6 := by omega
    unfold ad rfo
    rw [if_neg a, if_neg b, if_pos c, show i + 2 - 2 = i by omega]
    rfl
  refine va_ldcS hF.1 hF.2.1 hF.2.2.2.1 (by rw [hc]; exact hz) hd ?_
  have := h p e R s m args below meth c Qe H locs la hF h1 h2 h3 h4 hR hS hL hE
  rw [List.map_cons, e1] at this
  exact this
theorem X_iload {i : Nat} {x : Int32} (hd : decode sg.2.1 pc = .ok (.iload i, 2)) (hl : lget lv i = some (.int x)) (h : X Z d sg n0 nF Q (pc + 2) lv (.int x :: st) M) : X Z d sg n0 nF Q pc lv st M := by
  intro p e R s m args below meth c Qe H locs la hF h1 h2 h3 h4 hR hS hL hE
  exact lv_iload hF.1 hF.2.1 hd (hL.2.2 _ _ hl) (h p e R s m args below meth c Qe H locs la hF h1 h2 h3 h4 hR hS hL hE)
theorem X_iload_n {k : Fin 4} {x : Int32} (hd : decode sg.2.1 pc = .ok (.iload_n k, 1)) (hl : lget lv k = some (.int x)) (h : X Z d sg n0 nF Q (pc + 1) lv (.int x :: st) M) : X Z d sg n0 nF Q pc lv st M := by
  intro p e R s m args below meth c Qe H locs la hF h1 h2 h3 h4 hR hS hL hE
  exact lv_iload_n hF.1 hF.2.1 hd rfl (hL.2.2 _ _ hl) (h p e R s m args below meth c Qe H locs la hF h1 h2 h3 h4 hR hS hL hE)
theorem X_lload {i : Nat} {x : Int64} (hd : decode sg.2.1 pc = .ok (.lload i, 2)) (hl : lget lv i = some (.long x)) (h : X Z d sg n0 nF Q (pc + 2) lv (.long x :: st) M) : X Z d sg n0 nF Q pc lv st M := by
  intro p e R s m args below meth c Qe H locs la hF h1 h2 h3 h4 hR hS hL hE
  exact lv_lload hF.1 hF.2.1 hd (hL.2.2 _ _ hl) (h p e R s m args below meth c Qe H locs la hF h1 h2 h3 h4 hR hS hL hE)
theorem X_lload_n {k : Fin 4} {x : Int64} (hd : decode sg.2.1 pc = .ok (.lload_n k, 1)) (hl : lget lv k = some (.long x)) (h : X Z d sg n0 nF Q (pc + 1) lv (.long x :: st) M) : X Z d sg n0 nF Q pc lv st M := by
  intro p e R s m args below meth c Qe H locs la hF h1 h2 h3 h4 hR hS hL hE
  exact lv_lload_n hF.1 hF.2.1 hd rfl (hL.2.2 _ _ hl) (h p e R s m args below meth c Qe H locs la hF h1 h2 h3 h4 hR hS hL hE)
theorem X_aload {i x : Nat} (hd : decode sg.2.1 pc = .ok (.aload i, 2)) (hl : lget lv i = some (.ref x)) (h : X Z d sg n0 nF Q (pc + 2) lv (.ref x :: st) M) : X Z d sg n0 nF Q pc lv st M := by
  intro p e R s m args below meth c Qe H locs la hF h1 h2 h3 h4 hR hS hL hE
  have a := hL.2.2 _ _ hl
  have b := h p e R s m args below meth c Qe H locs la hF h1 h2 h3 h4 hR hS hL hE
  rw [List.map_cons] at b
  change la[i]? = some (.val (ad Z x)) at a
  change W p (zl Z) e R s m args below meth c H locs _ _ Qe (F0 m _ la (ad Z x :: _)) at b
  rcases ad_or Z x with z | ⟨y, z⟩ <;> rw [z] at a b
  · exact lv_aloadN hF.1 hF.2.1 hd a b
  · exact lv_aload hF.1 hF.2.1 hd a b
theorem X_aload_n {k : Fin 4} {x : Nat} (hd : decode sg.2.1 pc = .ok (.aload_n k, 1)) (hl : lget lv k = some (.ref x)) (h : X Z d sg n0 nF Q (pc + 1) lv (.ref x :: st) M) : X Z d sg n0 nF Q pc lv st M := by
  intro p e R s m args below meth c Qe H locs la hF h1 h2 h3 h4 hR hS hL hE
  have a := hL.2.2 _ _ hl
  have b := h p e R s m args below meth c Qe H locs la hF h1 h2 h3 h4 hR hS hL hE
  rw [List.map_cons] at b
  change la[(k : Nat)]? = some (.val (ad Z x)) at a
  change W p (zl Z) e R s m args below meth c H locs _ _ Qe (F0 m _ la (ad Z x :: _)) at b
  rcases ad_or Z x with z | ⟨y, z⟩ <;> rw [z] at a b
  · exact lv_aload_nN hF.1 hF.2.1 hd rfl a b
  · exact lv_aload_n hF.1 hF.2.1 hd rfl a b
theorem X_istore {i : Nat} {x : Int32} (hn : i < sg.2.2.1) (hd : decode sg.2.1 pc = .ok (.istore i, 2)) (h : X Z d sg n0 nF Q (pc + 2) (lset lv i (.int x)) st M) : X Z d sg n0 nF Q pc lv (.int x :: st) M := by
  intro p e R s m args below meth c Qe H locs la hF h1 h2 h3 h4 hR hS hL hE
  exact lv_istore hF.1 hF.2.1 hd hL.has hn rfl (fun la' hla => h p e R s m args below meth c Qe H locs la' hF h1 h2 h3 h4 hR hS (LH.set1 (v := .int x) hla) hE)
theorem X_istore_n {k : Fin 4} {x : Int32} (hn : (k : Nat) < sg.2.2.1) (hd : decode sg.2.1 pc = .ok (.istore_n k, 1)) (h : X Z d sg n0 nF Q (pc + 1) (lset lv k (.int x)) st M) : X Z d sg n0 nF Q pc lv (.int x :: st) M := by
  intro p e R s m args below meth c Qe H locs la hF h1 h2 h3 h4 hR hS hL hE
  exact lv_istore_n hF.1 hF.2.1 hd rfl hL.has hn rfl (fun la' hla => h p e R s m args below meth c Qe H locs la' hF h1 h2 h3 h4 hR hS (LH.set1 (v := .int x) hla) hE)
theorem X_lstore {i : Nat} {x : Int64} (hn : i + 1 < sg.2.2.1) (hd : decode sg.2.1 pc = .ok (.lstore i, 2)) (h : X Z d sg n0 nF Q (pc + 2) (lset2 lv i (.long x)) st M) : X Z d sg n0 nF Q pc lv (.long x :: st) M := by
  intro p e R s m args below meth c Qe H locs la hF h1 h2 h3 h4 hR hS hL hE
  exact lv_lstore hF.1 hF.2.1 hd hL.has hn rfl (fun la' hla => h p e R s m args below meth c Qe H locs la' hF h1 h2 h3 h4 hR hS (LH.set2 (v := .long x) hla) hE)
theorem X_lstore_n {k : Fin 4} {x : Int64} (hn : (k : Nat) + 1 < sg.2.2.1) (hd : decode sg.2.1 pc = .ok (.lstore_n k, 1)) (h : X Z d sg n0 nF Q (pc + 1) (lset2 lv k (.long x)) st M) : X Z d sg n0 nF Q pc lv (.long x :: st) M := by
  intro p e R s m args below meth c Qe H locs la hF h1 h2 h3 h4 hR hS hL hE
  exact lv_lstore_n hF.1 hF.2.1 hd rfl hL.has hn rfl (fun la' hla => h p e R s m args below meth c Qe H locs la' hF h1 h2 h3 h4 hR hS (LH.set2 (v := .long x) hla) hE)
theorem X_astore {i x : Nat} (hn : i < sg.2.2.1) (hd : decode sg.2.1 pc = .ok (.astore i, 2)) (h : X Z d sg n0 nF Q (pc + 2) (lset lv i (.ref x)) st M) : X Z d sg n0 nF Q pc lv (.ref x :: st) M := by
  intro p e R s m args below meth c Qe H locs la hF h1 h2 h3 h4 hR hS hL hE
  rw [List.map_cons]
  change W p (zl Z) e R s m args below meth c H locs _ _ Qe (F0 m _ la (ad Z x :: _))
  rcases ad_or Z x with z | ⟨y, z⟩
  · rw [z]
    exact lv_astoreN hF.1 hF.2.1 hd hL.has hn rfl (fun la' hla => h p e R s m args below meth c Qe H locs la' hF h1 h2 h3 h4 hR hS (LH.set1 (v := .ref x) (by show lv_has _ _ ((i, ad Z x) :: _); rw [z]; exact hla)) hE)
  · rw [z]
    exact lv_astore hF.1 hF.2.1 hd hL.has hn rfl (fun la' hla => h p e R s m args below meth c Qe H locs la' hF h1 h2 h3 h4 hR hS (LH.set1 (v := .ref x) (by show lv_has _ _ ((i, ad Z x) :: _); rw [z]; exact hla)) hE)
theorem X_astore_n {k : Fin 4} {x : Nat} (hn : (k : Nat) < sg.2.2.1) (hd : decode sg.2.1 pc = .ok (.astore_n k, 1)) (h : X Z d sg n0 nF Q (pc + 1) (lset lv k (.ref x)) st M) : X Z d sg n0 nF Q pc lv (.ref x :: st) M := by
  intro p e R s m args below meth c Qe H locs la hF h1 h2 h3 h4 hR hS hL hE
  rw [List.map_cons]
  change W p (zl Z) e R s m args below meth c H locs _ _ Qe (F0 m _ la (ad Z x :: _))
  rcases ad_or Z x with z | ⟨y, z⟩
  · rw [z]
    exact lv_astore_nN hF.1 hF.2.1 hd rfl hL.has hn rfl (fun la' hla => h p e R s m args below meth c Qe H locs la' hF h1 h2 h3 h4 hR hS (LH.set1 (v := .ref x) (by show lv_has _ _ (((k : Nat), ad Z x) :: _); rw [z]; exact hla)) hE)
  · rw [z]
    exact lv_astore_n hF.1 hF.2.1 hd rfl hL.has hn rfl (fun la' hla => h p e R s m args below meth c Qe H locs la' hF h1 h2 h3 h4 hR hS (LH.set1 (v := .ref x) (by show lv_has _ _ (((k : Nat), ad Z x) :: _); rw [z]; exact hla)) hE)
theorem X_iinc {i : Nat} {x v : Int32} (hn : i < sg.2.2.1) (hl : lget lv i = some (.int x)) (hd : decode sg.2.1 pc = .ok (.iinc i v.toInt, 3)) (h : X Z d sg n0 nF Q (pc + 3) (lset lv i (.int (x + v))) st M) : X Z d sg n0 nF Q pc lv st M := by
  intro p e R s m args below meth c Qe H locs la hF h1 h2 h3 h4 hR hS hL hE
  obtain ⟨k, hk⟩ := List.getElem?_of_mem (lpairs_mem (Z := Z) hl)
  exact lv_iinc (v := x + v) hF.1 hF.2.1 hd hL.has hk (by simp) hn rfl (fun la' hla => h p e R s m args below meth c Qe H locs la' hF h1 h2 h3 h4 hR hS (LH.set1 (v := .int (x + v)) hla) hE)
theorem X_iadd {x y : Int32} (hd : decode sg.2.1 pc = .ok (.iadd, 1)) (h : X Z d sg n0 nF Q (pc + 1) lv (.int (x + y) :: st) M) : X Z d sg n0 nF Q pc lv (.int y :: .int x :: st) M := by
  intro p e R s m args below meth c Qe H locs la hF h1 h2 h3 h4 hR hS hL hE
  exact lv_iadd hF.1 hF.2.1 hd (h p e R s m args below meth c Qe H locs la hF h1 h2 h3 h4 hR hS hL hE)
theorem X_isub {x y : Int32} (hd : decode sg.2.1 pc = .ok (.isub, 1)) (h : X Z d sg n0 nF Q (pc + 1) lv (.int (x - y) :: st) M) : X Z d sg n0 nF Q pc lv (.int y :: .int x :: st) M := by
  intro p e R s m args below meth c Qe H locs la hF h1 h2 h3 h4 hR hS hL hE
  exact lv_isub hF.1 hF.2.1 hd (h p e R s m args below meth c Qe H locs la hF h1 h2 h3 h4 hR hS hL hE)
theorem X_imul {x y : Int32} (hd : decode sg.2.1 pc = .ok (.imul, 1)) (h : X Z d sg n0 nF Q (pc + 1) lv (.int (x * y) :: st) M) : X Z d sg n0 nF Q pc lv (.int y :: .int x :: st) M := by
  intro p e R s m args below meth c Qe H locs la hF h1 h2 h3 h4 hR hS hL hE
  exact lv_imul hF.1 hF.2.1 hd (h p e R s m args below meth c Qe H locs la hF h1 h2 h3 h4 hR hS hL hE)
theorem X_idiv {x y : Int32} (hd : decode sg.2.1 pc = .ok (.idiv, 1)) (hy : ¬ y = 0) (h : X Z d sg n0 nF Q (pc + 1) lv (.int (x / y) :: st) M) : X Z d sg n0 nF Q pc lv (.int y :: .int x :: st) M := by
  intro p e R s m args below meth c Qe H locs la hF h1 h2 h3 h4 hR hS hL hE
  exact lv_idiv hF.1 hF.2.1 hd hy (h p e R s m args below meth c Qe H locs la hF h1 h2 h3 h4 hR hS hL hE)
theorem X_irem {x y : Int32} (hd : decode sg.2.1 pc = .ok (.irem, 1)) (hy : ¬ y = 0) (h : X Z d sg n0 nF Q (pc + 1) lv (.int (x - x / y * y) :: st) M) : X Z d sg n0 nF Q pc lv (.int y :: .int x :: st) M := by
  intro p e R s m args below meth c Qe H locs la hF h1 h2 h3 h4 hR hS hL hE
  exact lv_irem hF.1 hF.2.1 hd hy (h p e R s m args below meth c Qe H locs la hF h1 h2 h3 h4 hR hS hL hE)
theorem X_ineg {x : Int32} (hd : decode sg.2.1 pc = .ok (.ineg, 1)) (h : X Z d sg n0 nF Q (pc + 1) lv (.int (-x) :: st) M) : X Z d sg n0 nF Q pc lv (.int x :: st) M := by
  intro p e R s m args below meth c Qe H locs la hF h1 h2 h3 h4 hR hS hL hE
  exact lv_ineg hF.1 hF.2.1 hd (h p e R s m args below meth c Qe H locs la hF h1 h2 h3 h4 hR hS hL hE)
theorem X_iand {x y : Int32} (hd : decode sg.2.1 pc = .ok (.iand, 1)) (h : X Z d sg n0 nF Q (pc + 1) lv (.int (x &&& y) :: st) M) : X Z d sg n0 nF Q pc lv (.int y :: .int x :: st) M := by
  intro p e R s m args below meth c Qe H locs la hF h1 h2 h3 h4 hR hS hL hE
  exact lv_iand hF.1 hF.2.1 hd (h p e R s m args below meth c Qe H locs la hF h1 h2 h3 h4 hR hS hL hE)
theorem X_ior {x y : Int32} (hd : decode sg.2.1 pc = .ok (.ior, 1)) (h : X Z d sg n0 nF Q (pc + 1) lv (.int (x ||| y) :: st) M) : X Z d sg n0 nF Q pc lv (.int y :: .int x :: st) M := by
  intro p e R s m args below meth c Qe H locs la hF h1 h2 h3 h4 hR hS hL hE
  exact lv_ior hF.1 hF.2.1 hd (h p e R s m args below meth c Qe H locs la hF h1 h2 h3 h4 hR hS hL hE)
theorem X_ishl {x y : Int32} (hd : decode sg.2.1 pc = .ok (.ishl, 1)) (h : X Z d sg n0 nF Q (pc + 1) lv (.int (x <<< (y &&& 31)) :: st) M) : X Z d sg n0 nF Q pc lv (.int y :: .int x :: st) M := by
  intro p e R s m args below meth c Qe H locs la hF h1 h2 h3 h4 hR hS hL hE
  exact lv_ishl hF.1 hF.2.1 hd (h p e R s m args below meth c Qe H locs la hF h1 h2 h3 h4 hR hS hL hE)
theorem X_ishr {x y : Int32} (hd : decode sg.2.1 pc = .ok (.ishr, 1)) (h : X Z d sg n0 nF Q (pc + 1) lv (.int (x >>> (y &&& 31)) :: st) M) : X Z d sg n0 nF Q pc lv (.int y :: .int x :: st) M := by
  intro p e R s m args below meth c Qe H locs la hF h1 h2 h3 h4 hR hS hL hE
  exact lv_ishr hF.1 hF.2.1 hd (h p e R s m args below meth c Qe H locs la hF h1 h2 h3 h4 hR hS hL hE)
theorem X_i2l {x : Int32} (hd : decode sg.2.1 pc = .ok (.i2l, 1)) (h : X Z d sg n0 nF Q (pc + 1) lv (.long x.toInt64 :: st) M) : X Z d sg n0 nF Q pc lv (.int x :: st) M := by
  intro p e R s m args below meth c Qe H locs la hF h1 h2 h3 h4 hR hS hL hE
  exact lv_i2l hF.1 hF.2.1 hd rfl (h p e R s m args below meth c Qe H locs la hF h1 h2 h3 h4 hR hS hL hE)
theorem X_i2c {x : Int32} (hd : decode sg.2.1 pc = .ok (.i2c, 1)) (h : X Z d sg n0 nF Q (pc + 1) lv (.int (x.toUInt32 % 65536).toInt32 :: st) M) : X Z d sg n0 nF Q pc lv (.int x :: st) M := by
  intro p e R s m args below meth c Qe H locs la hF h1 h2 h3 h4 hR hS hL hE
  exact lv_i2c hF.1 hF.2.1 hd rfl (h p e R s m args below meth c Qe H locs la hF h1 h2 h3 h4 hR hS hL hE)
theorem X_ladd {x y : Int64} (hd : decode sg.2.1 pc = .ok (.ladd, 1)) (h : X Z d sg n0 nF Q (pc + 1) lv (.long (x + y) :: st) M) : X Z d sg n0 nF Q pc lv (.long y :: .long x :: st) M := by
  intro p e R s m args below meth c Qe H locs la hF h1 h2 h3 h4 hR hS hL hE
  exact lv_ladd hF.1 hF.2.1 hd (h p e R s m args below meth c Qe H locs la hF h1 h2 h3 h4 hR hS hL hE)
theorem X_lmul {x y : Int64} (hd : decode sg.2.1 pc = .ok (.lmul, 1)) (h : X Z d sg n0 nF Q (pc + 1) lv (.long (x * y) :: st) M) : X Z d sg n0 nF Q pc lv (.long y :: .long x :: st) M := by
  intro p e R s m args below meth c Qe H locs la hF h1 h2 h3 h4 hR hS hL hE
  exact lv_lmul hF.1 hF.2.1 hd (h p e R s m args below meth c Qe H locs la hF h1 h2 h3 h4 hR hS hL hE)
theorem X_lcmp {x y : Int64} (hd : decode sg.2.1 pc = .ok (.lcmp, 1)) (h : X Z d sg n0 nF Q (pc + 1) lv (.int (lg_cmp x y) :: st) M) : X Z d sg n0 nF Q pc lv (.long y :: .long x :: st) M := by
  intro p e R s m args below meth c Qe H locs la hF h1 h2 h3 h4 hR hS hL hE
  exact W.lcmp hF.1 hF.2.1 hd (h p e R s m args below meth c Qe H locs la hF h1 h2 h3 h4 hR hS hL hE)
theorem X_dup {v : Value} (hc : v.category = 1) (hd : decode sg.2.1 pc = .ok (.dup, 1)) (h : X Z d sg n0 nF Q (pc + 1) lv (v :: v :: st) M) : X Z d sg n0 nF Q pc lv (v :: st) M := by
  intro p e R s m args below meth c Qe H locs la hF h1 h2 h3 h4 hR hS hL hE
  exact lv_dup hF.1 hF.2.1 hd (by rw [cv_cat]; exact hc) (h p e R s m args below meth c Qe H locs la hF h1 h2 h3 h4 hR hS hL hE)
theorem X_dup2 {v w : Value} (hc : v.category = 1) (hc2 : w.category = 1) (hd : decode sg.2.1 pc = .ok (.dup2, 1)) (h : X Z d sg n0 nF Q (pc + 1) lv (v :: w :: v :: w :: st) M) : X Z d sg n0 nF Q pc lv (v :: w :: st) M := by
  intro p e R s m args below meth c Qe H locs la hF h1 h2 h3 h4 hR hS hL hE
  exact lv_dup2_11 hF.1 hF.2.1 hd (by rw [cv_cat]; exact hc) (by rw [cv_cat]; exact hc2) (h p e R s m args below meth c Qe H locs la hF h1 h2 h3 h4 hR hS hL hE)
theorem X_pop {v : Value} (hc : v.category = 1) (hd : decode sg.2.1 pc = .ok (.pop, 1)) (h : X Z d sg n0 nF Q (pc + 1) lv st M) : X Z d sg n0 nF Q pc lv (v :: st) M := by
  intro p e R s m args below meth c Qe H locs la hF h1 h2 h3 h4 hR hS hL hE
  exact lv_pop hF.1 hF.2.1 hd (by rw [cv_cat]; exact hc) (h p e R s m args below meth c Qe H locs la hF h1 h2 h3 h4 hR hS hL hE)
theorem X_goto {tgt : Nat} (hd : decode sg.2.1 pc = .ok (.goto ((tgt : Int) - pc), 3)) (h : X Z d sg n0 nF Q tgt lv st M) : X Z d sg n0 nF Q pc lv st M := by
  intro p e R s m args below meth c Qe H locs la hF h1 h2 h3 h4 hR hS hL hE
  exact lv_goto hF.1 hF.2.1 hd (by omega) (h p e R s m args below meth c Qe H locs la hF h1 h2 h3 h4 hR hS hL hE)
theorem X_if_eq {x : Int32} {tgt : Nat} (hd : decode sg.2.1 pc = .ok (.ifCond .eq ((tgt : Int) - pc), 3)) (ht : x = 0 → X Z d sg n0 nF Q tgt lv st M) (hf : ¬ x = 0 → X Z d sg n0 nF Q (pc + 3) lv st M) : X Z d sg n0 nF Q pc lv (.int x :: st) M := by
  intro p e R s m args below meth c Qe H locs la hF h1 h2 h3 h4 hR hS hL hE
  exact lv_if_eq hF.1 hF.2.1 hd (by omega) (fun q => ht q p e R s m args below meth c Qe H locs la hF h1 h2 h3 h4 hR hS hL hE) (fun q => hf q p e R s m args below meth c Qe H locs la hF h1 h2 h3 h4 hR hS hL hE)
theorem X_icmp_eq {x y : Int32} {tgt : Nat} (hd : decode sg.2.1 pc = .ok (.if_icmp .eq ((tgt : Int) - pc), 3)) (ht : x = y → X Z d sg n0 nF Q tgt lv st M) (hf : ¬ x = y → X Z d sg n0 nF Q (pc + 3) lv st M) : X Z d sg n0 nF Q pc lv (.int y :: .int x :: st) M := by
  intro p e R s m args below meth c Qe H locs la hF h1 h2 h3 h4 hR hS hL hE
  exact lv_icmp_eq hF.1 hF.2.1 hd (by omega) (fun q => ht q p e R s m args below meth c Qe H locs la hF h1 h2 h3 h4 hR hS hL hE) (fun q => hf q p e R s m args below meth c Qe H locs la hF h1 h2 h3 h4 hR hS hL hE)
theorem X_if_ne {x : Int32} {tgt : Nat} (hd : decode sg.2.1 pc = .ok (.ifCond .ne ((tgt : Int) - pc), 3)) (ht : ¬ x = 0 → X Z d sg n0 nF Q tgt lv st M) (hf : x = 0 → X Z d sg n0 nF Q (pc + 3) lv st M) : X Z d sg n0 nF Q pc lv (.int x :: st) M := by
  intro p e R s m args below meth c Qe H locs la hF h1 h2 h3 h4 hR hS hL hE
  exact lv_if_ne hF.1 hF.2.1 hd (by omega) (fun q => ht q p e R s m args below meth c Qe H locs la hF h1 h2 h3 h4 hR hS hL hE) (fun q => hf q p e R s m args below meth c Qe H locs la hF h1 h2 h3 h4 hR hS hL hE)
theorem X_icmp_ne {x y : Int32} {tgt : Nat} (hd : decode sg.2.1 pc = .ok (.if_icmp .ne ((tgt : Int) - pc), 3)) (ht : ¬ x = y → X Z d sg n0 nF Q tgt lv st M) (hf : x = y → X Z d sg n0 nF Q (pc + 3) lv st M) : X Z d sg n0 nF Q pc lv (.int y :: .int x :: st) M := by
  intro p e R s m args below meth c Qe H locs la hF h1 h2 h3 h4 hR hS hL hE
  exact lv_icmp_ne hF.1 hF.2.1 hd (by omega) (fun q => ht q p e R s m args below meth c Qe H locs la hF h1 h2 h3 h4 hR hS hL hE) (fun q => hf q p e R s m args below meth c Qe H locs la hF h1 h2 h3 h4 hR hS hL hE)
theorem X_if_lt {x : Int32} {tgt : Nat} (hd : decode sg.2.1 pc = .ok (.ifCond .lt ((tgt : Int) - pc), 3)) (ht : x < 0 → X Z d sg n0 nF Q tgt lv st M) (hf : ¬ x < 0 → X Z d sg n0 nF Q (pc + 3) lv st M) : X Z d sg n0 nF Q pc lv (.int x :: st) M := by
  intro p e R s m args below meth c Qe H locs la hF h1 h2 h3 h4 hR hS hL hE
  exact lv_if_lt hF.1 hF.2.1 hd (by omega) (fun q => ht q p e R s m args below meth c Qe H locs la hF h1 h2 h3 h4 hR hS hL hE) (fun q => hf q p e R s m args below meth c Qe H locs la hF h1 h2 h3 h4 hR hS hL hE)
theorem X_icmp_lt {x y : Int32} {tgt : Nat} (hd : decode sg.2.1 pc = .ok (.if_icmp .lt ((tgt : Int) - pc), 3)) (ht : x < y → X Z d sg n0 nF Q tgt lv st M) (hf : ¬ x < y → X Z d sg n0 nF Q (pc + 3) lv st M) : X Z d sg n0 nF Q pc lv (.int y :: .int x :: st) M := by
  intro p e R s m args below meth c Qe H locs la hF h1 h2 h3 h4 hR hS hL hE
  exact lv_icmp_lt hF.1 hF.2.1 hd (by omega) (fun q => ht q p e R s m args below meth c Qe H locs la hF h1 h2 h3 h4 hR hS hL hE) (fun q => hf q p e R s m args below meth c Qe H locs la hF h1 h2 h3 h4 hR hS hL hE)
theorem X_if_ge {x : Int32} {tgt : Nat} (hd : decode sg.2.1 pc = .ok (.ifCond .ge ((tgt : Int) - pc), 3)) (ht : 0 ≤ x → X Z d sg n0 nF Q tgt lv st M) (hf : ¬ 0 ≤ x → X Z d sg n0 nF Q (pc + 3) lv st M) : X Z d sg n0 nF Q pc lv (.int x :: st) M := by
  intro p e R s m args below meth c Qe H locs la hF h1 h2 h3 h4 hR hS hL hE
  exact lv_if_ge hF.1 hF.2.1 hd (by omega) (fun q => ht q p e R s m args below meth c Qe H locs la hF h1 h2 h3 h4 hR hS hL hE) (fun q => hf q p e R s m args below meth c Qe H locs la hF h1 h2 h3 h4 hR hS hL hE)
theorem X_icmp_ge {x y : Int32} {tgt : Nat} (hd : decode sg.2.1 pc = .ok (.if_icmp .ge ((tgt : Int) - pc), 3)) (ht : y ≤ x → X Z d sg n0 nF Q tgt lv st M) (hf : ¬ y ≤ x → X Z d sg n0 nF Q (pc + 3) lv st M) : X Z d sg n0 nF Q pc lv (.int y :: .int x :: st) M := by
  intro p e R s m args below meth c Qe H locs la hF h1 h2 h3 h4 hR hS hL hE
  exact lv_icmp_ge hF.1 hF.2.1 hd (by omega) (fun q => ht q p e R s m args below meth c Qe H locs la hF h1 h2 h3 h4 hR hS hL hE) (fun q => hf q p e R s m args below meth c Qe H locs la hF h1 h2 h3 h4 hR hS hL hE)
theorem X_if_gt {x : Int32} {tgt : Nat} (hd : decode sg.2.1 pc = .ok (.ifCond .gt ((tgt : Int) - pc), 3)) (ht : 0 < x → X Z d sg n0 nF Q tgt lv st M) (hf : ¬ 0 < x → X Z d sg n0 nF Q (pc + 3) lv st M) : X Z d sg n0 nF Q pc lv (.int x :: st) M := by
  intro p e R s m args below meth c Qe H locs la hF h1 h2 h3 h4 hR hS hL hE
  exact lv_if_gt hF.1 hF.2.1 hd (by omega) (fun q => ht q p e R s m args below meth c Qe H locs la hF h1 h2 h3 h4 hR hS hL hE) (fun q => hf q p e R s m args below meth c Qe H locs la hF h1 h2 h3 h4 hR hS hL hE)
theorem X_icmp_gt {x y : Int32} {tgt : Nat} (hd : decode sg.2.1 pc = .ok (.if_icmp .gt ((tgt : Int) - pc), 3)) (ht : y < x → X Z d sg n0 nF Q tgt lv st M) (hf : ¬ y < x → X Z d sg n0 nF Q (pc + 3) lv st M) : X Z d sg n0 nF Q pc lv (.int y :: .int x :: st) M := by
  intro p e R s m args below meth c Qe H locs la hF h1 h2 h3 h4 hR hS hL hE
  exact lv_icmp_gt hF.1 hF.2.1 hd (by omega) (fun q => ht q p e R s m args below meth c Qe H locs la hF h1 h2 h3 h4 hR hS hL hE) (fun q => hf q p e R s m args below meth c Qe H locs la hF h1 h2 h3 h4 hR hS hL hE)
theorem X_if_le {x : Int32} {tgt : Nat} (hd : decode sg.2.1 pc = .ok (.ifCond .le ((tgt : Int) - pc), 3)) (ht : x ≤ 0 → X Z d sg n0 nF Q tgt lv st M) (hf : ¬ x ≤ 0 → X Z d sg n0 nF Q (pc + 3) lv st M) : X Z d sg n0 nF Q pc lv (.int x :: st) M := by
  intro p e R s m args below meth c Qe H locs la hF h1 h2 h3 h4 hR hS hL hE
  exact lv_if_le hF.1 hF.2.1 hd (by omega) (fun q => ht q p e R s m args below meth c Qe H locs la hF h1 h2 h3 h4 hR hS hL hE) (fun q => hf q p e R s m args below meth c Qe H locs la hF h1 h2 h3 h4 hR hS hL hE)
theorem X_icmp_le {x y : Int32} {tgt : Nat} (hd : decode sg.2.1 pc = .ok (.if_icmp .le ((tgt : Int) - pc), 3)) (ht : x ≤ y → X Z d sg n0 nF Q tgt lv st M) (hf : ¬ x ≤ y → X Z d sg n0 nF Q (pc + 3) lv st M) : X Z d sg n0 nF Q pc lv (.int y :: .int x :: st) M := by
  intro p e R s m args below meth c Qe H locs la hF h1 h2 h3 h4 hR hS hL hE
  exact lv_icmp_le hF.1 hF.2.1 hd (by omega) (fun q => ht q p e R s m args below meth c Qe H locs la hF h1 h2 h3 h4 hR hS hL hE) (fun q => hf q p e R s m args below meth c Qe H locs la hF h1 h2 h3 h4 hR hS hL hE)
end XR
end
section
theorem clsW : ∀ ci, ci < 5 → ∀ w ∈ u_ws (cnm ci) (cT ci) (cW ci), w ∈ WS := by decide +kernel
theorem clsNm : ∀ ci, ci < 5 → ∀ a, a < cW ci → ∀ b, b < cW ci → a ≠ b → (cT ci a).2.1 ≠ (cT ci b).2.1 := by decide +kernel
theorem clsTy : ∀ ci, ci < 5 → ∀ k, k < cW ci → parseFieldDescriptor (cT ci k).2.2.1 = some (cty ci k) := by decide +kernel
theorem clsGet : ∀ ci, ci < 5 → cls[ci]? = some (cnm ci, cT ci, cW ci) := by
  intro ci h
  rcases (by omega : ci = 0 ∨ ci = 1 ∨ ci = 2 ∨ ci = 3 ∨ ci = 4) with h | h | h | h | h <;> subst h <;> rfl
/-- the type of a field fits how it is kept -/
theorem clsFk : ∀ ci, ci < 5 → ∀ k, k < cW ci → (fk ci k = 0 ∧ cty ci k = .int) ∨ (fk ci k = 1 ∧ (cty ci k).isReference = true) ∨ (fk ci k = 2 ∧ cty ci k = .int) ∨ (fk ci k = 3 ∧ cty ci k = .long) := by decide +kernel
def isO (M : Mem) (i ci : Nat) : Prop := i < mN M ∧ (kd i).1 = ci + 3 ∧ (kd i).2 = cW ci
def isA (M : Mem) (a : Nat) (i : Int32) : Prop := a < mN M ∧ (kd a).1 = 1 ∧ vp_in i (kd a).2
theorem isO.lo {M : Mem} {i ci : Nat} (h : isO M i ci) : 16 ≤ i := kd_lo (by rw [h.2.1]; omega)
theorem isA.lo {M : Mem} {a : Nat} {i : Int32} (h : isA M a i) : 16 ≤ a := kd_lo (by rw [h.2.1]; omega)
theorem isO.ce {Z : Zt} {M : Mem} {i ci : Nat} (h : isO M i ci) : ce Z M i = .inr (ci, (List.range (cW ci)).map (fv Z M i ci)) := by
  show (if (kd i).1 = 1 then _ else _) = _
  rw [h.2.1, h.2.2, if_neg (by omega), if_neg (by omega), show ci + 3 - 3 = ci by omega]
/-- what getfield pushes -/
def gval (M : Mem) (i ci k : Nat) : Value := if fk ci k = 0 then .int (mI M i k) else if fk ci k = 1 then .ref (mR M i k) else if fk ci k = 2 then .int (nI (mR M i k)) else .long (mL M i)
theorem gval_cv (Z : Zt) (M : Mem) (i ci k : Nat) : cv Z (gval M i ci k) = fv Z M i ci k := by
  unfold gval fv
  split
  · rfl
  · split
    · rfl
    · split <;> rfl
theorem Rep.at {Z : Zt} {M : Mem} {H : Heap} (h : Rep Z M H) {i : Nat} (h1 : 16 ≤ i) (h2 : i < mN M) : (wsZ Z M)[i - 16]? = some (zo Z + (i - 16), ce Z M i) := wsZ_at h1 h2
theorem isO_at {Z : Zt} {M : Mem} {i ci : Nat} (ho : isO M i ci) : (wsZ Z M)[i - 16]? = some (zo Z + (i - 16), .inr (ci, (List.range (cW ci)).map (fv Z M i ci))) := by
  rw [wsZ_at ho.lo ho.1, ho.ce]
theorem ce_arr {Z : Zt} {M : Mem} {a : Nat} (h : (kd a).1 = 1) : ce Z M a = .inl (zcI Z, (kd a).2, .inl (mI M a)) := by
  show (if (kd a).1 = 1 then _ else _) = _
  rw [if_pos h]
theorem ce_led {Z : Zt} {M : Mem} {a : Nat} (h : (kd a).1 = 2) : ce Z M a = .inl (zcL Z, (kd a).2, .inr (.inr (.inr (.inr (fun j => rfo Z (mR M a j)))))) := by
  show (if (kd a).1 = 1 then _ else _) = _
  rw [if_neg (by omega), if_pos h]
theorem arr_at {Z : Zt} {M : Mem} {a : Nat} (h1 : a < mN M) (h : (kd a).1 = 1) : (wsZ Z M)[a - 16]? = some (zo Z + (a - 16), .inl (zcI Z, (kd a).2, .inl (mI M a))) := by
  rw [wsZ_at (kd_lo (by omega)) h1, ce_arr h]
theorem led_at {Z : Zt} {M : Mem} {a : Nat} (h1 : a < mN M) (h : (kd a).1 = 2) : (wsZ Z M)[a - 16]? = some (zo Z + (a - 16), .inl (zcL Z, (kd a).2, .inr (.inr (.inr (.inr (fun j => rfo Z (mR M a j))))))) := by
  rw [wsZ_at (kd_lo (by omega)) h1, ce_led h]
theorem ad_of {Z : Zt} {M : Mem} {i : Nat} (h : 16 ≤ i) : cv Z (.ref i) = .ref (zo Z + (i - 16)) := ad_cell h
section XH
variable {Z : Zt} {d : Nat} {sg : Sig} {n0 nF : Nat} {Q : Option Value → Mem → Prop} {pc : Nat} {lv : List (Option Value)} {st : List Value} {M : Mem}
theorem X_getf {i ci k ix : Nat} (hci : ci < 5) (hk : k < cW ci) (hw : Cond.fieldLink sg.1.cls ix (cT ci k).1 (cT ci k).2.1 (cT ci k).2.2.1 ∈ WS) (hd : decode sg.2.1 pc = .ok (.getfield ix, 3)) (ho : isO M i ci) (h : X Z d sg n0 nF Q (pc + 3) lv (gval M i ci k :: st) M) : X Z d sg n0 nF Q pc lv (.ref i :: st) M := by
  intro p e R s m args below meth c Qe H locs la hF h1 h2 h3 h4 hR hS hL hE
  have kk := h p e R s m args below meth c Qe H locs la hF h1 h2 h3 h4 hR hS hL hE
  rw [List.map_cons, gval_cv] at kk
  rw [List.map_cons, ad_of (M := M) ho.lo]
  exact va_get (Ts := WS) hF.1 hF.2.1 hF.2.2.2.2.1 (clsW ci hci) hF.2.2.2.1 hF.2.2.2.2.2.1.1 hR.1 (i - 16) (isO_at ho) (clsGet ci hci) k hk (hF.2.2.2.2.1 _ hw) (fun _ h => h) (fv_get hk) hd kk
theorem Rep.set {Z : Zt} {M M' : Mem} {i : Nat} {H H1 : Heap} {e : va_E} (hR : Rep Z M H) (h : 16 ≤ i) (h2 : i < mN M) (hn : mN M' = mN M) (ho : ∀ j, j ≠ i → ce Z M' j = ce Z M j) (he : ce Z M' i = e) (hz : H1.size = H.size) (hP : va_P (zD Z) cls ((wsZ Z M).set (i - 16) (zo Z + (i - 16), e)) H1) : Rep Z M' H1 := by
  subst he
  rw [wsZ_set h h2 hn ho] at hP
  exact ⟨hP, by rw [hz, hR.2.1, hn], by rw [hn]; exact hR.2.2⟩
theorem va_P_size {Z : Zt} {H H1 : Heap} {A : Nat → Prop} {H0 : Heap} {locs locs1 : List Loc} (h : va_S A H0 H locs) (h' : va_S A H0 H1 locs1) : True := trivial
theorem X_putI {i ci k ix : Nat} {v : Int32} (hci : ci < 5) (hk : k < cW ci) (hf : (cT ci k).2.2.2 = false) (h0 : fk ci k = 0) (hty : cty ci k = .int) (hw : Cond.fieldLink sg.1.cls ix (cT ci k).1 (cT ci k).2.1 (cT ci k).2.2.1 ∈ WS) (hd : decode sg.2.1 pc = .ok (.putfield ix, 3)) (ho : isO M i ci) (h : X Z d sg n0 nF Q (pc + 3) lv st (stI M i k v)) : X Z d sg n0 nF Q pc lv (.int v :: .ref i :: st) M := by
  intro p e R s m args below meth c Qe H locs la hF h1 h2 h3 h4 hR hS hL hE
  rw [List.map_cons, List.map_cons, ad_of (M := M) ho.lo]
  have hap := va_apart (own := sg.1.cls) hF.2.2.2.2.1 (clsW ci hci) (cty ci) (clsTy ci hci) (clsNm ci hci) hF.2.2.2.2.2.1.1 (clsGet ci hci)
  obtain ⟨r, g1, cell, q1, q2, q3, q4⟩ := hR.1 (i - 16) _ (isO_at ho)
  have hr : r = (cnm ci, cT ci, cW ci) := Option.some.inj (g1.symm.trans (clsGet ci hci))
  subst hr
  obtain ⟨hSl, hfc, kC, hkC, hkind⟩ := hF.2.2.2.2.2.1.1.1 ci _ (clsGet ci hci)
  obtain ⟨cf, kf, fi, f, hi, hsl⟩ := hSl k hk
  have hlay := hF.2.2.2.2.1 _ (clsW ci hci _ (u_in_lay hk))
  unfold u_lay at hlay
  rw [if_neg (by rw [hf]; decide)] at hlay
  have hst := (u_facts hfc hkC (u_lays hF.2.2.2.2.1 (clsW ci hci) hk) hi).1
  have h6 := u_store (v := .int v) hfc hkC hkind hlay hi (clsTy ci hci k hk) (by rw [hty]; rfl) (by rw [hty]; rfl)
  refine W.putK hF.1 hF.2.1 (f := f) ⟨hF.2.2.2.1, hF.2.2.2.2.1 _ hw, ⟨_, _, _, hi⟩, hst⟩ (by rw [q2]; exact h6) q1 q3 (by rw [hsl]; exact k2_hasslot (q4 k hk)) rfl rfl hd fun H' e1 e2 e3 => ?_
  rw [hsl] at e1 ⊢
  have hl : k < ((List.range (cW ci)).map (fv Z M i ci)).length := by simpa using hk
  have hP := hR.1.set (wsD Z M) (isO_at ho) (e := .inr (ci, ((List.range (cW ci)).map (fv Z M i ci)).set k (.int v))) ⟨_, clsGet ci hci, t_OB.to (V := updV (vp_V ((List.range (cW ci)).map (fv Z M i ci))) k (.int v)) ⟨_, e1, q2, q3, t_set q4 hap hk (.int v)⟩ (fun j _ => vp_updV_set hl (.int v) j)⟩ e3
  have ho' : isO (stI M i k v) i ci := ho
  have hR' : Rep Z (stI M i k v) H' := Rep.set (M' := stI M i k v) hR ho.lo ho.1 rfl (fun j hj => ce_stI hj) (by
    rw [ho'.ce]
    congr 2
    refine (map_set_range _ _ _ _ _ ?_ ?_).symm
    · unfold fv
      rw [if_pos h0]
      simp [mI, stI, u2]
    · intro j hj
      unfold fv
      have e9 : mI (stI M i k v) i j = mI M i j := by simp [mI, stI, u2, hj]
      rw [e9]
      rfl) e2 hP
  exact h p e R s m args below meth c Qe H' _ la hF h1 h2 h3 h4 hR' (hS.put e2 e3 ((wsD Z M).2 (i - 16) _ (isO_at ho))) hL hE
theorem X_putJ {i ci k ix : Nat} {v : Int64} (hci : ci < 5) (hk : k < cW ci) (hf : (cT ci k).2.2.2 = false) (h0 : fk ci k = 3) (hu : ∀ j, j < cW ci → j ≠ k → fk ci j < 3) (hty : cty ci k = .long) (hw : Cond.fieldLink sg.1.cls ix (cT ci k).1 (cT ci k).2.1 (cT ci k).2.2.1 ∈ WS) (hd : decode sg.2.1 pc = .ok (.putfield ix, 3)) (ho : isO M i ci) (h : X Z d sg n0 nF Q (pc + 3) lv st (stL M i v)) : X Z d sg n0 nF Q pc lv (.long v :: .ref i :: st) M := by
  intro p e R s m args below meth c Qe H locs la hF h1 h2 h3 h4 hR hS hL hE
  rw [List.map_cons, List.map_cons, ad_of (M := M) ho.lo]
  have hap := va_apart (own := sg.1.cls) hF.2.2.2.2.1 (clsW ci hci) (cty ci) (clsTy ci hci) (clsNm ci hci) hF.2.2.2.2.2.1.1 (clsGet ci hci)
  obtain ⟨r, g1, cell, q1, q2, q3, q4⟩ := hR.1 (i - 16) _ (isO_at ho)
  have hr : r = (cnm ci, cT ci, cW ci) := Option.some.inj (g1.symm.trans (clsGet ci hci))
  subst hr
  obtain ⟨hSl, hfc, kC, hkC, hkind⟩ := hF.2.2.2.2.2.1.1.1 ci _ (clsGet ci hci)
  obtain ⟨cf, kf, fi, f, hi, hsl⟩ := hSl k hk
  have hlay := hF.2.2.2.2.1 _ (clsW ci hci _ (u_in_lay hk))
  unfold u_lay at hlay
  rw [if_neg (by rw [hf]; decide)] at hlay
  have hst := (u_facts hfc hkC (u_lays hF.2.2.2.2.1 (clsW ci hci) hk) hi).1
  have h6 := u_store (v := .long v) hfc hkC hkind hlay hi (clsTy ci hci k hk) (by rw [hty]; rfl) (by rw [hty]; rfl)
  refine W.putK hF.1 hF.2.1 (f := f) ⟨hF.2.2.2.1, hF.2.2.2.2.1 _ hw, ⟨_, _, _, hi⟩, hst⟩ (by rw [q2]; exact h6) q1 q3 (by rw [hsl]; exact k2_hasslot (q4 k hk)) rfl rfl hd fun H' e1 e2 e3 => ?_
  rw [hsl] at e1 ⊢
  have hl : k < ((List.range (cW ci)).map (fv Z M i ci)).length := by simpa using hk
  have hP := hR.1.set (wsD Z M) (isO_at ho) (e := .inr (ci, ((List.range (cW ci)).map (fv Z M i ci)).set k (.long v))) ⟨_, clsGet ci hci, t_OB.to (V := updV (vp_V ((List.range (cW ci)).map (fv Z M i ci))) k (.long v)) ⟨_, e1, q2, q3, t_set q4 hap hk (.long v)⟩ (fun j _ => vp_updV_set hl (.long v) j)⟩ e3
  have ho' : isO (stL M i v) i ci := ho
  have hR' : Rep Z (stL M i v) H' := Rep.set (M' := stL M i v) hR ho.lo ho.1 rfl (fun j hj => ce_stL hj) (by
    rw [ho'.ce]
    congr 2
    apply List.ext_getElem?
    intro j
    by_cases hjl : j < cW ci
    · rw [fv_get hjl]
      by_cases hj : j = k
      · subst hj
        rw [List.getElem?_set_self hl]
        unfold fv
        rw [if_neg (by omega), if_neg (by omega), if_neg (by omega)]
        simp [mL, stL, u1]
      · rw [List.getElem?_set_ne (fun z => hj z.symm), fv_get hjl]
        have := hu j hjl hj
        unfold fv
        rcases (by omega : fk ci j = 0 ∨ fk ci j = 1 ∨ fk ci j = 2) with z | z | z <;> rw [z] <;> rfl
    · rw [List.getElem?_eq_none (by simp; omega), List.getElem?_eq_none (by simp; omega)]) e2 hP
  exact h p e R s m args below meth c Qe H' _ la hF h1 h2 h3 h4 hR' (hS.put e2 e3 ((wsD Z M).2 (i - 16) _ (isO_at ho))) hL hE
/-- a final field, in the constructor -/
theorem X_putF {i ci k ix : Nat} {v : Value} {M' : Mem} (hci : ci < 5) (hk : k < cW ci) (hf : (cT ci k).2.2.2 = true) (hin : sg.1.name = "<init>") (hdc : (cT ci k).1 = sg.1.cls) (hn : narrow (cty ci k) (cv Z v) = cv Z v) (hfit : fits (cty ci k) (cv Z v) = true) (hw : Cond.fieldLink sg.1.cls ix (cT ci k).1 (cT ci k).2.1 (cT ci k).2.2.1 ∈ WS) (hd : decode sg.2.1 pc = .ok (.putfield ix, 3)) (ho : isO M i ci) (hM : mN M' = mN M ∧ (∀ j, j ≠ i → ce Z M' j = ce Z M j) ∧ fv Z M' i ci k = cv Z v ∧ ∀ j, j ≠ k → fv Z M' i ci j = fv Z M i ci j) (h : X Z d sg n0 nF Q (pc + 3) lv st M') : X Z d sg n0 nF Q pc lv (v :: .ref i :: st) M := by
  intro p e R s m args below meth c Qe H locs la hF h1 h2 h3 h4 hR hS hL hE
  obtain ⟨m1, m2, m3, m4⟩ := hM
  rw [List.map_cons, List.map_cons, ad_of (M := M) ho.lo]
  generalize cv Z v = w at hn hfit m3 ⊢
  have hap := va_apart (own := sg.1.cls) hF.2.2.2.2.1 (clsW ci hci) (cty ci) (clsTy ci hci) (clsNm ci hci) hF.2.2.2.2.2.1.1 (clsGet ci hci)
  obtain ⟨r, g1, cell, q1, q2, q3, q4⟩ := hR.1 (i - 16) _ (isO_at ho)
  have hr : r = (cnm ci, cT ci, cW ci) := Option.some.inj (g1.symm.trans (clsGet ci hci))
  subst hr
  obtain ⟨hSl, hfc, kC, hkC, hkind⟩ := hF.2.2.2.2.2.1.1.1 ci _ (clsGet ci hci)
  obtain ⟨cf, kf, fi, f, hi, hsl⟩ := hSl k hk
  have hlay := hF.2.2.2.2.1 _ (clsW ci hci _ (u_in_lay hk))
  unfold u_lay at hlay
  rw [if_pos hf] at hlay
  have hst := (u_facts hfc hkC (u_lays hF.2.2.2.2.1 (clsW ci hci) hk) hi).1
  have hcf : m.cls = cf := by
    obtain ⟨_, _, c', _, _, _, -, -, hf', -, -, -, hown2, -⟩ := Cond.laysFinal_spec hlay
    have e1 : c' = cf := by have := hi.symm.trans hf'; simp at this; exact this.1.symm
    rw [hdc] at hown2
    rw [← e1]; exact Option.some.inj (hF.2.2.2.1.symm.trans hown2)
  have h6 := u_fits (v := w) hfc hkC hkind (Or.inr hlay) hi (clsTy ci hci k hk) hn hfit
  refine W.putFinK hF.1 hF.2.1 hF.2.2.2.1 (hF.2.2.2.2.1 _ hw) hi hst hcf (by rw [hF.2.2.2.2.2.2.2.2]; exact hin) (by rw [q2]; exact h6) q1 q3 (by rw [hsl]; exact k2_hasslot (q4 k hk)) rfl rfl hd fun H' e1 e2 e3 => ?_
  rw [hsl] at e1 ⊢
  have hl : k < ((List.range (cW ci)).map (fv Z M i ci)).length := by simpa using hk
  have hP := hR.1.set (wsD Z M) (isO_at ho) (e := .inr (ci, ((List.range (cW ci)).map (fv Z M i ci)).set k w)) ⟨_, clsGet ci hci, t_OB.to (V := updV (vp_V ((List.range (cW ci)).map (fv Z M i ci))) k w) ⟨_, e1, q2, q3, t_set q4 hap hk w⟩ (fun j _ => vp_updV_set hl w j)⟩ e3
  have ho' : isO M' i ci := ⟨by rw [m1]; exact ho.1, ho.2⟩
  have hR' : Rep Z M' H' := Rep.set (M' := M') hR ho.lo ho.1 m1 m2 (by
    rw [ho'.ce]
    congr 2
    exact (map_set_range _ _ _ _ _ m3 m4).symm) e2 hP
  have hS' := hS.put (k := (zD Z).2 ci k) e2 e3 ((wsD Z M).2 (i - 16) _ (isO_at ho))
  have hx := h p e R s m args below meth c Qe H' (locs ++ [⟨zo Z + (i - 16), (zD Z).2 ci k⟩]) la hF h1 h2 (by rw [m1]; exact h3) (by rw [m1]; exact h4) hR' hS' hL hE
  rw [m1] at hx
  exact hx
theorem X_putR {i ci k ix r : Nat} (hci : ci < 5) (hk : k < cW ci) (hf : (cT ci k).2.2.2 = true) (h0 : fk ci k = 1) (hin : sg.1.name = "<init>") (hdc : (cT ci k).1 = sg.1.cls) (hw : Cond.fieldLink sg.1.cls ix (cT ci k).1 (cT ci k).2.1 (cT ci k).2.2.1 ∈ WS) (hd : decode sg.2.1 pc = .ok (.putfield ix, 3)) (ho : isO M i ci) (h : X Z d sg n0 nF Q (pc + 3) lv st (stR M i k r)) : X Z d sg n0 nF Q pc lv (.ref r :: .ref i :: st) M := by
  have hty : (cty ci k).isReference = true := by
    rcases clsFk ci hci k hk with z | z | z | z
    · omega
    · exact z.2
    · omega
    · omega
  refine X_putF (v := .ref r) (M' := stR M i k r) hci hk hf hin hdc (fits_ad Z r _ hty).2 (fits_ad Z r _ hty).1 hw hd ho ⟨rfl, fun j hj => ce_stR hj, ?_, fun j hj => ?_⟩ h
  · unfold fv
    rw [if_neg (by omega), if_pos h0]
    simp [mR, stR, u2, cv]
  · unfold fv
    have e9 : mR (stR M i k r) i j = mR M i j := by simp [mR, stR, u2, hj]
    rw [e9]
    rfl
theorem X_putC {i ci k ix n : Nat} (hci : ci < 5) (hk : k < cW ci) (hf : (cT ci k).2.2.2 = true) (h0 : fk ci k = 2) (hin : sg.1.name = "<init>") (hdc : (cT ci k).1 = sg.1.cls) (hw : Cond.fieldLink sg.1.cls ix (cT ci k).1 (cT ci k).2.1 (cT ci k).2.2.1 ∈ WS) (hd : decode sg.2.1 pc = .ok (.putfield ix, 3)) (ho : isO M i ci) (h : X Z d sg n0 nF Q (pc + 3) lv st (stR M i k n)) : X Z d sg n0 nF Q pc lv (.int (nI n) :: .ref i :: st) M := by
  have hty : cty ci k = .int := by
    rcases clsFk ci hci k hk with z | z | z | z
    · omega
    · omega
    · exact z.2
    · omega
  refine X_putF (v := .int (nI n)) (M' := stR M i k n) hci hk hf hin hdc (by rw [hty]; rfl) (by rw [hty]; rfl) hw hd ho ⟨rfl, fun j hj => ce_stR hj, ?_, fun j hj => ?_⟩ h
  · unfold fv
    rw [if_neg (by omega), if_neg (by omega), if_pos h0]
    simp [mR, stR, u2, cv]
  · unfold fv
    have e9 : mR (stR M i k n) i j = mR M i j := by simp [mR, stR, u2, hj]
    rw [e9]
    rfl
theorem X_iald {a : Nat} {i : Int32} (hd : decode sg.2.1 pc = .ok (.iaload, 1)) (ho : isA M a i) (h : X Z d sg n0 nF Q (pc + 1) lv (.int (mI M a i.toNatClampNeg) :: st) M) : X Z d sg n0 nF Q pc lv (.int i :: .ref a :: st) M := by
  intro p e R s m args below meth c Qe H locs la hF h1 h2 h3 h4 hR hS hL hE
  have kk := h p e R s m args below meth c Qe H locs la hF h1 h2 h3 h4 hR hS hL hE
  rw [List.map_cons, List.map_cons, ad_of (M := M) ho.lo]
  exact va_iald hF.1 hF.2.1 hF.2.2.2.2.2.1.1 hR.1 (a - 16) 0 (arr_at ho.1 ho.2.1) rfl ho.2.2 hd kk
theorem X_iast {a : Nat} {i v : Int32} (hd : decode sg.2.1 pc = .ok (.iastore, 1)) (ho : isA M a i) (h : X Z d sg n0 nF Q (pc + 1) lv st (stI M a i.toNatClampNeg v)) : X Z d sg n0 nF Q pc lv (.int v :: .int i :: .ref a :: st) M := by
  intro p e R s m args below meth c Qe H locs la hF h1 h2 h3 h4 hR hS hL hE
  rw [List.map_cons, List.map_cons, List.map_cons, ad_of (M := M) ho.lo]
  have hlt : i.toNatClampNeg < (kd a).2 := Nat.not_le.mp fun q => ho.2.2 (Or.inr q)
  refine W.iast hF.1 hF.2.1 (hR.1 (a - 16) _ (arr_at ho.1 ho.2.1)) ((hF.2.2.2.2.2.1.1.2 0 _ rfl).1 (kd a).2 (fun j => .int (mI M a j))) (fun q => by cases q) (by show ¬ (i < 0 ∨ (arrV _ _ _).slots.size ≤ _); rw [arrV_size]; exact ho.2.2) rfl rfl hd fun H1 e1 z oq => ?_
  have hP := hR.1.set (wsD Z M) (arr_at ho.1 ho.2.1) (e := .inl (zcI Z, (kd a).2, .inl (upd (mI M a) i.toNatClampNeg v))) (by
    show H1[zo Z + (a - 16)]? = some (vp_cell _ _)
    rw [e1, vp_cell_i, vp_cell_i, arrV_store]
    congr 2
    funext q
    by_cases hq : q = i.toNatClampNeg
    · subst hq
      simp [updV, upd]
    · simp [updV, upd, hq]) oq
  have hR' : Rep Z (stI M a i.toNatClampNeg v) H1 := Rep.set (M' := stI M a i.toNatClampNeg v) hR ho.lo ho.1 rfl (fun j hj => ce_stI hj) (by
    rw [ce_arr ho.2.1]
    congr 4
    funext q
    by_cases hq : q = i.toNatClampNeg
    · subst hq
      simp [upd, mI, stI, u2]
    · simp [upd, mI, stI, u2, hq]) z hP
  exact h p e R s m args below meth c Qe H1 _ la hF h1 h2 h3 h4 hR' (hS.put z oq ((wsD Z M).2 (a - 16) _ (arr_at ho.1 ho.2.1))) hL hE
theorem X_aald {a : Nat} {i : Int32} (hd : decode sg.2.1 pc = .ok (.aaload, 1)) (h1 : a < mN M) (h2 : (kd a).1 = 2) (h3 : vp_in i (kd a).2) (h : X Z d sg n0 nF Q (pc + 1) lv (.ref (mR M a i.toNatClampNeg) :: st) M) : X Z d sg n0 nF Q pc lv (.int i :: .ref a :: st) M := by
  intro p e R s m args below meth c Qe H locs la hF g1 g2 g3 g4 hR hS hL hE
  have kk := h p e R s m args below meth c Qe H locs la hF g1 g2 g3 g4 hR hS hL hE
  rw [List.map_cons, List.map_cons, ad_of (M := M) (kd_lo (by omega))]
  exact va_aldq hF.1 hF.2.1 hF.2.2.2.2.2.1.1 hR.1 (a - 16) 1 (led_at h1 h2) rfl h3 hd kk
theorem X_aast {a v : Nat} {i : Int32} (hd : decode sg.2.1 pc = .ok (.aastore, 1)) (h1 : a < mN M) (h2 : (kd a).1 = 2) (h3 : vp_in i (kd a).2) (hv : isO M v 2) (h : X Z d sg n0 nF Q (pc + 1) lv st (stR M a i.toNatClampNeg v)) : X Z d sg n0 nF Q pc lv (.ref v :: .int i :: .ref a :: st) M := by
  intro p e R s m args below meth c Qe H locs la hF g1 g2 g3 g4 hR hS hL hE
  have h16 : 16 ≤ a := kd_lo (by omega)
  rw [List.map_cons, List.map_cons, List.map_cons, ad_of (M := M) h16, ad_of (M := M) hv.lo]
  have hK := hF.2.2.2.2.2.1.1
  have hlt : i.toNatClampNeg < (kd a).2 := Nat.not_le.mp fun q => h3 (Or.inr q)
  have h0 : ¬ i < 0 := fun q => h3 (Or.inl q)
  obtain ⟨r', hr', cellV, q1, q2, q3, -⟩ := hR.1 (v - 16) _ (isO_at hv)
  have hcls := (hK.1 2 _ (clsGet 2 (by omega))).2
  obtain ⟨kA, comp, k1, k2, k3, -⟩ := (hK.2 1 _ rfl).2
  have hcomp : comp = (zD Z).1 2 := Option.some.inj (k3.symm.trans hcls.1)
  subst hcomp
  obtain ⟨kC, hkC, -⟩ := hcls.2
  refine W.aast hF.1 hF.2.1 (hR.1 (a - 16) _ (led_at h1 h2)) (fun q h => by cases h) (fun h => by cases h) k1 k2 rfl hkC ⟨h0, by show _ < (arrV _ _ _).slots.size; rw [arrV_size]; exact hlt⟩ q1 (fun q h => by rw [q3] at h; cases h) (by rw [q2]; exact hkC) (by rw [q2]; exact va_assign hcls) rfl rfl hd fun H1 e1 z oq => ?_
  have hP := hR.1.set (wsD Z M) (led_at h1 h2) (e := .inl (zcL Z, (kd a).2, .inr (.inr (.inr (.inr (va_up (fun j => rfo Z (mR M a j)) i.toNatClampNeg (some (zo Z + (v - 16))))))))) (by
    show H1[zo Z + (a - 16)]? = some (vp_cell _ _)
    rw [e1, vp_cell_q, vp_cell_q, arrV_store]
    congr 2
    funext q
    by_cases hq : q = i.toNatClampNeg
    · subst hq
      simp [updV, va_up, va_rf]
    · simp [updV, va_up, hq]) oq
  have hR' : Rep Z (stR M a i.toNatClampNeg v) H1 := Rep.set (M' := stR M a i.toNatClampNeg v) hR h16 h1 rfl (fun j hj => ce_stR hj) (by
    rw [ce_led h2]
    congr 7
    funext q
    by_cases hq : q = i.toNatClampNeg
    · subst hq
      simp [va_up, mR, stR, u2, rfo_cell hv.lo]
    · simp [va_up, mR, stR, u2, hq]) z hP
  exact h p e R s m args below meth c Qe H1 _ la hF g1 g2 g3 g4 hR' (hS.put z oq ((wsD Z M).2 (a - 16) _ (led_at h1 h2))) hL hE
end XH
end
section
section XA
variable {Z : Zt} {d : Nat} {sg : Sig} {n0 nF : Nat} {Q : Option Value → Mem → Prop} {pc : Nat} {lv : List (Option Value)} {st : List Value} {M : Mem}
theorem fv_al (Z : Zt) (M : Mem) (ci k : Nat) (hci : ci < 5) (hk : k < cW ci) : fv Z (al M) (mN M) ci k = defaultValue (cty ci k) := by
  have e1 : mI (al M) (mN M) k = 0 := by simp [mI, al, mN]
  have e2 : mR (al M) (mN M) k = 0 := by simp [mR, al, mN]
  have e3 : mL (al M) (mN M) = 0 := by simp [mL, al, mN]
  unfold fv
  rw [e1, e2, e3]
  rcases clsFk ci hci k hk with ⟨a, b⟩ | ⟨a, b⟩ | ⟨a, b⟩ | ⟨a, b⟩
  · rw [if_pos a, b]; rfl
  · rw [if_neg (by omega), if_pos a]
    have : ad Z 0 = .null := rfl
    rw [this]
    cases hc : cty ci k <;> rw [hc] at b <;> first | rfl | simp [FieldType.isReference] at b
  · rw [if_neg (by omega), if_neg (by omega), if_pos a, b]; rfl
  · rw [if_neg (by omega), if_neg (by omega), if_neg (by omega), b]; rfl
theorem X_new {ci ix : Nat} (hci : ci < 5) (hw : Cond.classLink sg.1.cls ix (cnm ci) ∈ WS) (hw2 : Cond.instantiable (cnm ci) (cW ci) ∈ WS) (hw3 : Cond.initialized (cnm ci) ∈ WS) (hd : decode sg.2.1 pc = .ok (.new ix, 3)) (hk : kd (mN M) = (ci + 3, cW ci)) (hn : mN M + 1 ≤ nF) (h : X Z d sg n0 nF Q (pc + 3) lv (.ref (mN M) :: st) (al M)) : X Z d sg n0 nF Q pc lv st M := by
  intro p e R s m args below meth c Qe H locs la hF h1 h2 h3 h4 hR hS hL hE
  have hts := hF.2.2.2.2.1
  have hKn := hF.2.2.2.2.2.1.1.1 ci _ (clsGet ci hci)
  have h16 := hR.2.2
  have hsl : sl (mN M + 1) = sl (mN M) + cW ci := by rw [sl_succ h16, hk]
  have hmo := sl_mono hn
  have hmo2 := sl_mono h3
  refine W.newcK hF.1 hF.2.1 hF.2.2.2.1 (hts _ hw) (hts _ hw2) (hts _ hw3) rfl hd (by omega) (by omega) hKn.2.1 rfl fun H1 kC hkC e1 z1 o1 => ?_
  have hkk : ∀ (k : Nat) (x : Nat × va_E), (wsZ Z M)[k]? = some x → H1[x.1]? = H[x.1]? := fun k x hx => o1 x.1 ((hR.1 k x hx).lt)
  have hce : ce Z (al M) (mN M) = .inr (ci, (List.range (cW ci)).map (fv Z (al M) (mN M) ci)) := by
    have ho : isO (al M) (mN M) ci := ⟨Nat.lt_succ_self _, by rw [hk], by rw [hk]⟩
    exact ho.ce
  have hP : va_P (zD Z) cls (wsZ Z M ++ [(zo Z + (mN M - 16), ce Z (al M) (mN M))]) H1 := by
    refine (hR.1.kept hkk).app (fun k x hx => ?_)
    have hz : k < 1 := (List.getElem?_eq_some_iff.mp hx).1
    rw [show k = 0 by omega] at hx
    cases hx
    rw [hce]
    refine ⟨_, clsGet ci hci, ?_⟩
    rw [hR.2.1] at e1
    refine (u_born (cty ci) hts (clsW ci hci) hKn hkC e1 (clsTy ci hci)).to fun j hj => ?_
    show _ = vp_V _ j
    unfold vp_V
    rw [List.getD_eq_getElem?_getD, fv_get hj, fv_al Z M ci j hci hj]
    rfl
  rw [wsZ_push h16 rfl (fun j hj => ce_al hj)] at hP
  have hR' : Rep Z (al M) H1 := ⟨hP, by rw [z1, hR.2.1]; show _ = zo Z + (mN M + 1 - 16); omega, by show 16 ≤ mN M + 1; omega⟩
  have hS' : va_S (Ar Z) s.heap H1 locs := ⟨Nat.le_trans hS.1 (by omega), fun x h1 h2 => (o1 x (Nat.lt_of_lt_of_le h1 hS.1)).trans (hS.2.1 x h1 h2), hS.2.2⟩
  have hx := h p e R s m args below meth c Qe H1 locs la hF h1 h2 (by show n0 ≤ mN M + 1; omega) hn hR' hS' hL hE
  rw [List.map_cons, ad_of (M := M) h16] at hx
  have ea : mN (al M) = mN M + 1 := rfl
  rw [ea, hsl, show mN M + 1 - n0 = mN M - n0 + 1 by omega, show sl (mN M) + cW ci - sl n0 = sl (mN M) - sl n0 + cW ci by omega] at hx
  rw [hR.2.1]
  exact hx
theorem X_newa {v : Int32} {len : Nat} (hw : Cond.arrayClass .int ∈ WS) (hd : decode sg.2.1 pc = .ok (.newarray .int, 2)) (hv : v = nI len) (hk : kd (mN M) = (1, len)) (hlen : len < 100000) (hn : mN M + 1 ≤ nF) (h : X Z d sg n0 nF Q (pc + 2) lv (.ref (mN M) :: st) (al M)) : X Z d sg n0 nF Q pc lv (.int v :: st) M := by
  intro p e R s m args below meth c Qe H locs la hF h1 h2 h3 h4 hR hS hL hE
  have hts := hF.2.2.2.2.1
  have h16 := hR.2.2
  have hsl : sl (mN M + 1) = sl (mN M) + len := by rw [sl_succ h16, hk]
  have hmo := sl_mono hn
  have hmo2 := sl_mono h3
  have hcl : v.toNatClampNeg = len := by rw [hv]; exact nI_clamp (by omega)
  refine va_newaK (atype := .int) hF.1 hF.2.1 (hts _ hw) rfl hd rfl (by rw [hv]; exact nI_pos (by omega)) hcl (by show len * 4 ≤ _; omega) (by omega) (by omega) rfl fun H1 cA e1 z1 o1 hAr hNm => ?_
  have hcA : cA = zcI Z := by
    have := (hF.2.2.2.2.2.1.1.2 0 _ rfl).2
    change s.vm.findClass ("[" ++ (FieldType.int).toString) = some (zcI Z) at this
    exact Option.some.inj (hNm.symm.trans this)
  subst hcA
  have hkk : ∀ (k : Nat) (x : Nat × va_E), (wsZ Z M)[k]? = some x → H1[x.1]? = H[x.1]? := fun k x hx => o1 x.1 ((hR.1 k x hx).lt)
  have hmi : mI (al M) (mN M) = fun _ => 0 := by funext k; simp [mI, al, mN]
  have hP : va_P (zD Z) cls (wsZ Z M ++ [(zo Z + (mN M - 16), ce Z (al M) (mN M))]) H1 := by
    refine (hR.1.kept hkk).app (fun k x hx => ?_)
    have hz : k < 1 := (List.getElem?_eq_some_iff.mp hx).1
    rw [show k = 0 by omega] at hx
    cases hx
    rw [ce_arr (by rw [hk]), hk, hmi]
    rw [hR.2.1] at e1
    show H1[_]? = some (vp_cell _ _)
    rw [vp_cell_i]
    exact e1
  rw [wsZ_push h16 rfl (fun j hj => ce_al hj)] at hP
  have hR' : Rep Z (al M) H1 := ⟨hP, by rw [z1, hR.2.1]; show _ = zo Z + (mN M + 1 - 16); omega, by show 16 ≤ mN M + 1; omega⟩
  have hS' : va_S (Ar Z) s.heap H1 locs := ⟨Nat.le_trans hS.1 (by omega), fun x h1 h2 => (o1 x (Nat.lt_of_lt_of_le h1 hS.1)).trans (hS.2.1 x h1 h2), hS.2.2⟩
  have hx := h p e R s m args below meth c Qe H1 locs la hF h1 h2 (by show n0 ≤ mN M + 1; omega) hn hR' hS' hL hE
  rw [List.map_cons, ad_of (M := M) h16] at hx
  have ea : mN (al M) = mN M + 1 := rfl
  rw [ea, hsl, show mN M + 1 - n0 = mN M - n0 + 1 by omega, show sl (mN M) + len - sl n0 = sl (mN M) - sl n0 + len by omega] at hx
  rw [hR.2.1]
  exact hx
theorem X_anew {v : Int32} {len ix : Nat} (hw : Cond.classLink sg.1.cls ix RX2 ∈ WS) (hd : decode sg.2.1 pc = .ok (.anewarray ix, 3)) (hv : v = nI len) (hk : kd (mN M) = (2, len)) (hlen : len < 100000) (hn : mN M + 1 ≤ nF) (h : X Z d sg n0 nF Q (pc + 3) lv (.ref (mN M) :: st) (al M)) : X Z d sg n0 nF Q pc lv (.int v :: st) M := by
  intro p e R s m args below meth c Qe H locs la hF h1 h2 h3 h4 hR hS hL hE
  have hts := hF.2.2.2.2.1
  have h16 := hR.2.2
  have hsl : sl (mN M + 1) = sl (mN M) + len := by rw [sl_succ h16, hk]
  have hmo := sl_mono hn
  have hmo2 := sl_mono h3
  have hcl : v.toNatClampNeg = len := by rw [hv]; exact nI_clamp (by omega)
  refine W.anew hF.1 hF.2.1 hF.2.2.2.1 (hts _ hw) (va_AO.use hF.2.2.2.2.2.1.2.2.1) rfl hd rfl (by rw [hv]; exact nI_pos (by omega)) (by rw [hcl]; omega) (by omega) (by rw [hcl]; omega) fun cA kA comp f1 f2 f3 f4 => ?_
  rw [hcl]
  generalize hH1 : H.push ({ cls := cA, slots := Array.replicate len .null, vm := .none } : Cell) = H1
  have z1 : H1.size = H.size + 1 := by rw [← hH1, Array.size_push]
  have e1 : H1[H.size]? = some (arrV cA len (fun _ => .null)) := by rw [← hH1, Array.getElem?_push_size, ← arrV_new]
  have o1 : ∀ q : Nat, q < H.size → H1[q]? = H[q]? := fun q hq => by rw [← hH1, Array.getElem?_push, if_neg (Nat.ne_of_lt hq)]
  have hcA : cA = zcL Z := by
    obtain ⟨kA', comp', k1, k2, k3, k4⟩ := (hF.2.2.2.2.2.1.1.2 1 _ rfl).2
    exact Option.some.inj (f1.symm.trans k4)
  subst hcA
  have hkk : ∀ (k : Nat) (x : Nat × va_E), (wsZ Z M)[k]? = some x → H1[x.1]? = H[x.1]? := fun k x hx => o1 x.1 ((hR.1 k x hx).lt)
  have hP : va_P (zD Z) cls (wsZ Z M ++ [(zo Z + (mN M - 16), ce Z (al M) (mN M))]) H1 := by
    refine (hR.1.kept hkk).app (fun k x hx => ?_)
    have hz : k < 1 := (List.getElem?_eq_some_iff.mp hx).1
    rw [show k = 0 by omega] at hx
    cases hx
    rw [ce_led (by rw [hk]), hk]
    rw [hR.2.1] at e1
    show H1[_]? = some (vp_cell _ _)
    rw [vp_cell_q, e1]
    congr 2
    funext j
    have : mR (al M) (mN M) j = 0 := by simp [mR, al, mN]
    rw [this]
    rfl
  rw [wsZ_push h16 rfl (fun j hj => ce_al hj)] at hP
  have hR' : Rep Z (al M) H1 := ⟨hP, by rw [z1, hR.2.1]; show _ = zo Z + (mN M + 1 - 16); omega, by show 16 ≤ mN M + 1; omega⟩
  have hS' : va_S (Ar Z) s.heap H1 locs := ⟨Nat.le_trans hS.1 (by omega), fun x h1 h2 => (o1 x (Nat.lt_of_lt_of_le h1 hS.1)).trans (hS.2.1 x h1 h2), hS.2.2⟩
  have hx := h p e R s m args below meth c Qe H1 locs la hF h1 h2 (by show n0 ≤ mN M + 1; omega) hn hR' hS' hL hE
  rw [List.map_cons, ad_of (M := M) h16] at hx
  have ea : mN (al M) = mN M + 1 := rfl
  rw [ea, hsl, show mN M + 1 - n0 = mN M - n0 + 1 by omega, show sl (mN M) + len - sl n0 = sl (mN M) - sl n0 + len by omega] at hx
  rw [hR.2.1]
  exact hx
theorem X_alen {a : Nat} (hd : decode sg.2.1 pc = .ok (.arraylength, 1)) (h1 : a < mN M) (h2 : (kd a).1 = 1) (h : X Z d sg n0 nF Q (pc + 1) lv (.int (nI (kd a).2) :: st) M) : X Z d sg n0 nF Q pc lv (.ref a :: st) M := by
  intro p e R s m args below meth c Qe H locs la hF g1 g2 g3 g4 hR hS hL hE
  have kk := h p e R s m args below meth c Qe H locs la hF g1 g2 g3 g4 hR hS hL hE
  rw [List.map_cons, ad_of (M := M) (kd_lo (by omega))]
  exact va_alen hF.1 hF.2.1 hF.2.2.2.2.2.1.1 hR.1 (a - 16) 0 (arr_at h1 h2) rfl rfl hd kk
/-- the script -/
theorem X_slen (hd : decode sg.2.1 pc = .ok (.arraylength, 1)) (h : X Z d sg n0 nF Q (pc + 1) lv (.int (nI (zn Z)) :: st) M) : X Z d sg n0 nF Q pc lv (.ref 1 :: st) M := by
  intro p e R s m args below meth c Qe H locs la hF g1 g2 g3 g4 hR hS hL hE
  have kk := h p e R s m args below meth c Qe H locs la hF g1 g2 g3 g4 hR hS hL hE
  exact va_tlen hF.1 hF.2.1 hF.2.2.2.2.2.1.2.2.2.2.2.2.2 hS rfl hd kk
theorem X_sld {i : Int32} (hd : decode sg.2.1 pc = .ok (.iaload, 1)) (hin : vp_in i (zn Z)) (h : X Z d sg n0 nF Q (pc + 1) lv (.int (zx Z i.toNatClampNeg) :: st) M) : X Z d sg n0 nF Q pc lv (.int i :: .ref 1 :: st) M := by
  intro p e R s m args below meth c Qe H locs la hF g1 g2 g3 g4 hR hS hL hE
  have kk := h p e R s m args below meth c Qe H locs la hF g1 g2 g3 g4 hR hS hL hE
  exact va_ti hF.1 hF.2.1 hF.2.2.2.2.2.1.2.2.2.2.2.2.2 hS hin rfl hd kk
/-- the texts and their bytes -/
theorem ad_str (Z : Zt) {i : Nat} (hi : i < 4) : ad Z (i + 2) = .ref (zK Z i) := by
  have a : ¬ 16 ≤ i + 2 := by omega
  have b : ¬ i + 2 = 1 := by omega
  have c : 2 ≤ i + 2 ∧ i + 2 < 6 := by omega
  unfold ad rfo
  rw [if_neg a, if_neg b, if_pos c, show i + 2 - 2 = i by omega]
  rfl
theorem ad_byt (Z : Zt) {i : Nat} (hi : i < 4) : ad Z (i + 6) = .ref (zV Z i) := by
  have a : ¬ 16 ≤ i + 6 := by omega
  have b : ¬ i + 6 = 1 := by omega
  have c : ¬ (2 ≤ i + 6 ∧ i + 6 < 6) := by omega
  have c2 : 6 ≤ i + 6 ∧ i + 6 < 10 := by omega
  unfold ad rfo
  rw [if_neg a, if_neg b, if_neg c, if_pos c2, show i + 6 - 6 = i by omega]
  rfl
theorem X_strV {i ix : Nat} (hi : i < 4) (hw : Cond.fieldLink sg.1.cls ix "java/lang/String" "value" "[B" ∈ WS) (hd : decode sg.2.1 pc = .ok (.getfield ix, 3)) (h : X Z d sg n0 nF Q (pc + 3) lv (.ref (i + 6) :: st) M) : X Z d sg n0 nF Q pc lv (.ref (i + 2) :: st) M := by
  intro p e R s m args below meth c Qe H locs la hF g1 g2 g3 g4 hR hS hL hE
  have kk := h p e R s m args below meth c Qe H locs la hF g1 g2 g3 g4 hR hS hL hE
  rw [List.map_cons] at kk ⊢
  change W p (zl Z) e R s m args below meth c H locs _ _ Qe (F0 m _ la (ad Z (i + 6) :: _)) at kk
  change W p (zl Z) e R s m args below meth c H locs _ _ Qe (F0 m _ la (ad Z (i + 2) :: _))
  rw [ad_byt Z hi] at kk
  rw [ad_str Z hi]
  exact vk_getf hF.1 hF.2.1 (hF.2.2.2.2.2.1.2.2.2.2.1.1 i hi).2.2.1 hS hF.2.2.2.1 (hF.2.2.2.2.1 _ hw) (fun _ h => h) hd kk
theorem X_strC {i ix : Nat} (hi : i < 4) (hw : Cond.fieldLink sg.1.cls ix "java/lang/String" "coder" "B" ∈ WS) (hd : decode sg.2.1 pc = .ok (.getfield ix, 3)) (h : X Z d sg n0 nF Q (pc + 3) lv (.int 0 :: st) M) : X Z d sg n0 nF Q pc lv (.ref (i + 2) :: st) M := by
  intro p e R s m args below meth c Qe H locs la hF g1 g2 g3 g4 hR hS hL hE
  have kk := h p e R s m args below meth c Qe H locs la hF g1 g2 g3 g4 hR hS hL hE
  rw [List.map_cons]
  change W p (zl Z) e R s m args below meth c H locs _ _ Qe (F0 m _ la (ad Z (i + 2) :: _))
  rw [ad_str Z hi]
  exact vk_getf hF.1 hF.2.1 (hF.2.2.2.2.2.1.2.2.2.2.1.1 i hi).2.1 hS hF.2.2.2.1 (hF.2.2.2.2.1 _ hw) (fun _ h => h) hd kk
theorem X_blen {i : Nat} (hi : i < 4) (hd : decode sg.2.1 pc = .ok (.arraylength, 1)) (h : X Z d sg n0 nF Q (pc + 1) lv (.int (nI (lenL.getD i 0)) :: st) M) : X Z d sg n0 nF Q pc lv (.ref (i + 6) :: st) M := by
  intro p e R s m args below meth c Qe H locs la hF g1 g2 g3 g4 hR hS hL hE
  have kk := h p e R s m args below meth c Qe H locs la hF g1 g2 g3 g4 hR hS hL hE
  rw [List.map_cons]
  change W p (zl Z) e R s m args below meth c H locs _ _ Qe (F0 m _ la (ad Z (i + 6) :: _))
  rw [ad_byt Z hi]
  exact va_tlen hF.1 hF.2.1 (hF.2.2.2.2.2.1.2.2.2.2.1.1 i hi).2.2.2 hS rfl hd kk
theorem X_bld {i : Nat} {j : Int32} (hi : i < 4) (hj : vp_in j (lenL.getD i 0)) (hd : decode sg.2.1 pc = .ok (.baload, 1)) (h : X Z d sg n0 nF Q (pc + 1) lv (.int ((bytL.getD i []).getD j.toNatClampNeg 0) :: st) M) : X Z d sg n0 nF Q pc lv (.int j :: .ref (i + 6) :: st) M := by
  intro p e R s m args below meth c Qe H locs la hF g1 g2 g3 g4 hR hS hL hE
  have kk := h p e R s m args below meth c Qe H locs la hF g1 g2 g3 g4 hR hS hL hE
  rw [List.map_cons, List.map_cons]
  change W p (zl Z) e R s m args below meth c H locs _ _ Qe (F0 m _ la (.int j :: ad Z (i + 6) :: _))
  rw [ad_byt Z hi]
  exact va_tb hF.1 hF.2.1 (hF.2.2.2.2.2.1.2.2.2.2.1.1 i hi).2.2.2 hS hj rfl hd kk
theorem X_compact {ix : Nat} (hw : Cond.fieldLink sg.1.cls ix "java/lang/String" "COMPACT_STRINGS" "Z" ∈ WS) (hd : decode sg.2.1 pc = .ok (.getstatic ix, 3)) (h : X Z d sg n0 nF Q (pc + 3) lv (.int 1 :: st) M) : X Z d sg n0 nF Q pc lv st M := by
  intro p e R s m args below meth c Qe H locs la hF g1 g2 g3 g4 hR hS hL hE
  have kk := h p e R s m args below meth c Qe H locs la hF g1 g2 g3 g4 hR hS hL hE
  exact va_gets hF.1 hF.2.1 hF.2.2.2.2.2.1.2.2.2.2.2.1 hS hF.2.2.2.1 (hF.2.2.2.2.1 _ hw) (fun _ h => h) hd kk
theorem X_format {ix : Nat} (hw : Cond.fieldLink sg.1.cls ix "jdk/internal/util/Preconditions" "SIOOBE_FORMATTER" "Ljava/util/function/BiFunction;" ∈ WS) (hd : decode sg.2.1 pc = .ok (.getstatic ix, 3)) (h : X Z d sg n0 nF Q (pc + 3) lv (.ref 10 :: st) M) : X Z d sg n0 nF Q pc lv st M := by
  intro p e R s m args below meth c Qe H locs la hF g1 g2 g3 g4 hR hS hL hE
  have kk := h p e R s m args below meth c Qe H locs la hF g1 g2 g3 g4 hR hS hL hE
  exact va_gets (v := va_rf (zF Z)) hF.1 hF.2.1 hF.2.2.2.2.2.1.2.2.2.2.2.2.1 hS hF.2.2.2.1 (hF.2.2.2.2.1 _ hw) (fun _ h => h) hd kk
end XA
end
section
/-! ===== contracts: a method, its arguments, the memory before; at its end an answer and a memory in Q, nF cells made in all ===== -/
def wk (sg : Sig) : List Cond := Cond.code sg.1 sg.2.1 sg.2.2.1 sg.2.2.2 :: WS
def rmk (d mc ms : Nat) : Room := { frames := d, cells := mc, slots := ms, locals := 36 * d }
def Pm (Z : Zt) (av : List Value) (M : Mem) : Array Value → State → Prop := va_Pc (av.map (cv Z)) (fun U => Rep Z M U.heap ∧ GS Z U)
def Qm (Z : Zt) (nF : Nat) (Q : Option Value → Mem → Prop) : Array Value → State → Outcome → State → Prop := fun _ st o t => (∃ (r : Option Value) (M' : Mem), o = .returned (r.map (cv Z)) ∧ Q r M' ∧ mN M' = nF ∧ Rep Z M' t.heap) ∧ va_F (Ar Z) st t
def GmA (Z : Zt) (d : Nat) (sg : Sig) (av : List Value) (M : Mem) (nF : Nat) (Q : Option Value → Mem → Prop) : Prop := mN M ≤ nF ∧ Met (zl Z) sg.1 (wk sg) (rmk d (nF - mN M) (sl nF - sl (mN M))) (Pm Z av M) (Qm Z nF Q) (nF - mN M) (sl nF - sl (mN M)) (Ar Z)
def Gm (Z : Zt) (d : Nat) (sg : Sig) (av : List Value) (M : Mem) (Q : Option Value → Mem → Prop) : Prop := GmA Z d sg av M (mN M) Q
theorem Pm_blind (Z : Zt) (av : List Value) (M : Mem) : FrameBlind (Pm Z av M) := fun _ _ _ _ q => ⟨q.1, q.2.1, GS.calling q.2.2⟩
theorem Gm.cons {Z : Zt} {d : Nat} {sg : Sig} {av : List Value} {M : Mem} {nF : Nat} {Q Q' : Option Value → Mem → Prop} (h : GmA Z d sg av M nF Q) (hq : ∀ r M', Q r M' → Q' r M') : GmA Z d sg av M nF Q' := by
  refine ⟨h.1, fun p e ha hc hk s m args below hf happ hP hw => ?_⟩
  obtain ⟨k, o, h1, h2, h3, ⟨⟨r, M', a, b, c, d⟩, f⟩, g⟩ := h.2 p e ha hc hk s m args below hf happ hP hw
  exact ⟨k, o, h1, h2, h3, ⟨⟨r, M', a, hq r M' b, c, d⟩, f⟩, g⟩
theorem wk_good {sg : Sig} (h : Cond.code sg.1 sg.2.1 sg.2.2.1 sg.2.2.2 ∈ WS) : GoodIn WS (wk sg) := by
  intro w hw
  rcases List.mem_cons.mp hw with rfl | hw
  · exact ⟨h, good_of_word (WS_good _ h)⟩
  · exact ⟨hw, good_of_word (WS_good _ hw)⟩
def argL (l : List Value) : List (Option Value) := match l with
  | [] => []
  | v :: t => if v.category = 2 then some v :: none :: argL t else some v :: argL t
theorem argL_len (Z : Zt) : ∀ l : List Value, (lg_sl (l.map (cv Z))).length = (argL l).length
  | [] => rfl
  | v :: t => by
    have ih := argL_len Z t
    by_cases h : v.category = 2
    · have e : lg_sl (((v :: t).map (cv Z))) = [.val (cv Z v), .second] ++ lg_sl (t.map (cv Z)) := by simp [lg_sl, cv_cat, h]
      rw [e, argL, if_pos h]
      simp [ih]
    · have e : lg_sl (((v :: t).map (cv Z))) = [.val (cv Z v)] ++ lg_sl (t.map (cv Z)) := by simp [lg_sl, cv_cat, h]
      rw [e, argL, if_neg h]
      simp [ih]
theorem lget_none : ∀ (n i : Nat) (v : Value), ¬ lget (List.replicate n none) i = some v
  | 0, i, v => by simp [lget]
  | n + 1, 0, v => by simp [List.replicate_succ, lget]
  | n + 1, i + 1, v => by rw [List.replicate_succ]; simp only [lget]; exact lget_none n i v
theorem argL_mem (Z : Zt) (n : Nat) : ∀ (l : List Value) (k i : Nat) (v : Value), lget (argL l ++ List.replicate n none) i = some v → (k + i, cv Z v) ∈ lv_args k (l.map (cv Z))
  | [], k, i, v, h => by simp only [argL, List.nil_append] at h; exact absurd h (lget_none n i v)
  | w :: t, k, i, v, h => by
    by_cases hc : w.category = 2
    · rw [argL, if_pos hc] at h
      simp only [List.map_cons, lv_args, cv_cat, hc, if_true]
      match i, h with
      | 0, h => simp [lget] at h; subst h; exact List.mem_cons_self
      | 1, h => simp [lget] at h
      | i + 2, h =>
        simp only [List.cons_append, lget] at h
        refine List.mem_cons_of_mem _ ?_
        have := argL_mem Z n t (k + 2) i v h
        rw [show k + (i + 2) = k + 2 + i by omega]
        exact this
    · rw [argL, if_neg hc] at h
      simp only [List.map_cons, lv_args, cv_cat, hc, if_false]
      match i, h with
      | 0, h => simp [lget] at h; subst h; exact List.mem_cons_self
      | i + 1, h =>
        simp only [List.cons_append, lget] at h
        refine List.mem_cons_of_mem _ ?_
        have := argL_mem Z n t (k + 1) i v h
        rw [show k + (i + 1) = k + 1 + i by omega]
        exact this
/-- a method's entry -/
theorem Gm_of {Z : Zt} {d : Nat} {sg : Sig} {av : List Value} {M : Mem} {nF : Nat} {Q : Option Value → Mem → Prop} {lv : List (Option Value)} (hy : plainName sg.1.cls = true) (hl : lv = argL av ++ List.replicate (sg.2.2.1 - (argL av).length) none) (hn : (argL av).length ≤ sg.2.2.1) (hM : mN M ≤ nF) (hQ : ∀ r M', Q r M' → mN M' = nF)
    (h : X Z d sg (mN M) nF Q 0 lv [] M) : GmA Z d sg av M nF Q := by
  refine ⟨hM, ?_⟩
  refine Met.ofW (cc := sg.2.1) (maxL := sg.2.2.1) (ret := sg.2.2.2) hy rfl ?_
  intro p e s m args below meth c s₁ B hml hv
  obtain ⟨rfl, hR, hG⟩ := hv
  have hx := B.exec
  have hb := B.bytes
  have hr := B.returns
  have hts := atoms_spec (ws := wk sg) B.pre
  have hown : s.vm.findClass sg.1.cls = some m.cls := findClass_of_methodNamed B.named
  have hin : meth.name = sg.1.name := (name_of_methodNamed B.named B.method).1
  have hlocks := B.notSynchronized
  have hFC : FC Z d sg (headSpec (wk sg) (rmk d (nF - mN M) (sl nF - sl (mN M)))).room p s m ((av.map (cv Z)).toArray) meth c := ⟨hx, hb, hml, hown, fun w hw => hts w (List.mem_cons_of_mem _ hw), hG, Nat.le_refl _, Nat.le_refl _, hin⟩
  have he := lv_entry (av.map (cv Z)) (n := sg.2.2.1) (by rw [argL_len]; exact hn)
  rw [lg_entry_eq]
  generalize hla : (lg_sl (av.map (cv Z)) ++ List.replicate (sg.2.2.1 - (lg_sl (av.map (cv Z))).length) Slot.unset).toArray = la at he ⊢
  have hL : LH Z la sg.2.2.1 lv := by
    refine ⟨he.1, he.2.1, fun i v hi => ?_⟩
    rw [hl] at hi
    have := he.2.2 _ (argL_mem Z _ av 0 i v hi)
    simpa using this
  have key := h p e _ s m _ below meth c (MQ below (Qm Z nF Q) ((av.map (cv Z)).toArray) s (nF - mN M) (sl nF - sl (mN M)) (Ar Z)) s.heap [] la hFC (Nat.le_refl _) (Nat.le_refl _) (Nat.le_refl _) hM hR va_S.rf hL (fun r M' H' locs' la' pc' hq h1 h2 hR' hS' hr' => ?_)
  · rw [Nat.sub_self, Nat.sub_self] at key
    exact key
  · have hMn := hQ r M' hq
    subst hMn
    have hpost : ∀ t : State, t.heap = H' → Qm Z (mN M') Q ((av.map (cv Z)).toArray) s (.returned (r.map (cv Z))) t := fun t ht => ⟨⟨r, M', rfl, hq, rfl, by rw [ht]; exact hR'⟩, by rw [va_F, ht]; exact ⟨hS'.1, hS'.2.1⟩⟩
    cases r with
    | none => exact W.vret hx hb (by rw [hr]; exact hr'.2) (fun t ht _ => hpost t ht) hS'.2.2 hr'.1 hlocks
    | some v =>
      cases v with
      | int v => exact W.zret hx hb (by rw [hr]; exact hr'.2.choose_spec.1) hr'.2.choose_spec.2 (fun t ht _ => hpost t ht) hS'.2.2 hr'.1 hlocks
      | long v => exact W.lret hx hb (by rw [hr]; exact hr'.2) (fun t ht _ => hpost t ht) hS'.2.2 hr'.1 hlocks
      | ref i => exact W.aret hx hb (by rw [hr]; exact hr'.2.choose_spec.1) hr'.2.choose_spec.2 (ad_or Z i) (fun t ht _ => hpost t ht) hS'.2.2 hr'.1 hlocks
      | _ => exact hr'.elim
/-! ===== calls ===== -/
def wsum (l : List Value) : Nat := (l.map fun v => v.category).sum
theorem wsum_cv (Z : Zt) (l : List Value) : ((l.map (cv Z)).map fun v => v.category).sum = wsum l := by
  unfold wsum
  rw [List.map_map]
  congr 1
  apply List.map_congr_left
  intro v _
  exact cv_cat Z v
section XC
variable {Z : Zt} {d : Nat} {sg : Sig} {n0 nF : Nat} {Q : Option Value → Mem → Prop} {pc : Nat} {lv : List (Option Value)} {st : List Value} {M : Mem}
/-- from a callee's run to the caller's next instruction -/
theorem W_call {p : Program} {e : Env} {R : Room} {s : State} {m : MethodId} {args : Array Value} {below : List Frame} {meth : Method} {c : Code} {Qe : State → Prop} {H : Heap} {locs : List Loc} {la : Array Slot} {mc ms k n : Nat} {st0 rest : List Value} {Qc : Option Value → Mem → Prop} {a : Array Value} (hr : va_Run p (zl Z) e R s m args below meth c H locs k n mc ms (F0 m pc la st0) rest (Qm Z nF Qc a) (Ar Z)) (hS : va_S (Ar Z) s.heap H locs)
    (kk : ∀ (r : Option Value) (M' : Mem) (H1 : Heap) (locs1 : List Loc), Qc r M' → mN M' = nF → Rep Z M' H1 → va_S (Ar Z) s.heap H1 locs1 → W p (zl Z) e R s m args below meth c H1 locs1 (k + mc) (n + ms) Qe (F0 m (pc + 3) la ((r.map (cv Z)).toList ++ rest))) : W p (zl Z) e R s m args below meth c H locs k n Qe (F0 m pc la st0) := by
  intro T hT X
  obtain ⟨v, st₀, t, T', L, h0, X', hL, e1, e2, ⟨⟨r, M', hv, hq, hn, hR⟩, hz, hk⟩, st⟩ := hr T hT X
  cases hv
  rw [h0] at hz hk
  obtain ⟨t2, a1, b1⟩ := kk r M' T'.heap (locs ++ L) hq hn (by rw [e1]; exact hR) ⟨Nat.le_trans hS.1 (by rw [e1]; exact hz), fun q h1 h2 => by rw [e1, hk q (Nat.lt_of_lt_of_le h1 hS.1) h2]; exact hS.2.1 q h1 h2, fun q hq => by
      rcases List.mem_append.mp hq with h | h
      · exact hS.2.2 q h
      · exact hL q h⟩ T' rfl X'
  exact ⟨t2, st t2 a1, b1⟩
theorem X_fin {p : Program} {e : Env} {R : Room} {s : State} {m : MethodId} {args : Array Value} {below : List Frame} {meth : Method} {c : Code} {Qe : State → Prop} {H1 : Heap} {locs1 : List Loc} {la : Array Slot} {rest : List Value} {r : Option Value} {M' : Mem} {pc' n1 : Nat}
    (hF : FC Z d sg R p s m args meth c) (h1 : nF - n0 ≤ R.cells) (h2 : sl nF - sl n0 ≤ R.slots) (h3 : n0 ≤ mN M) (h5 : mN M ≤ n1) (h4 : n1 ≤ nF) (hn : mN M' = n1) (hR' : Rep Z M' H1) (hS' : va_S (Ar Z) s.heap H1 locs1) (hL : LH Z la sg.2.2.1 lv)
    (hE : ∀ (r : Option Value) (M' : Mem) (H' : Heap) (locs' : List Loc) (la' : Array Slot) (pc' : Nat), Q r M' → n0 ≤ mN M' → mN M' ≤ nF → Rep Z M' H' → va_S (Ar Z) s.heap H' locs' → rOK sg pc' r → W p (zl Z) e R s m args below meth c H' locs' (mN M' - n0) (sl (mN M') - sl n0) Qe (F0 m pc' la' (r.map (cv Z)).toList))
    (hx : X Z d sg n0 nF Q pc' lv (r.toList ++ rest) M') : W p (zl Z) e R s m args below meth c H1 locs1 (mN M - n0 + (n1 - mN M)) (sl (mN M) - sl n0 + (sl n1 - sl (mN M))) Qe (F0 m pc' la ((r.map (cv Z)).toList ++ rest.map (cv Z))) := by
  subst hn
  have hmo := sl_mono h3
  have hmo2 := sl_mono h5
  have := hx p e R s m args below meth c Qe H1 locs1 la hF h1 h2 (by omega) h4 hR' hS' hL hE
  rw [show mN M - n0 + (mN M' - mN M) = mN M' - n0 by omega, show sl (mN M) - sl n0 + (sl (mN M') - sl (mN M)) = sl (mN M') - sl n0 by omega]
  rw [List.map_append] at this
  cases r <;> exact this
theorem Pm_pre {s : State} {H : Heap} {locs : List Loc} {av : List Value} (hR : Rep Z M H) (hG : GS Z s) (hS : va_S (Ar Z) s.heap H locs) : ∀ U : State, U.heap = H → s.WarmedH U.vm → Pm Z av M (av.map (cv Z)).toArray U := fun _ hU hW => ⟨rfl, by rw [hU]; exact hR, hG.step hS hU hW⟩
/-- an instance method of the receiver's own class -/
theorem X_callV {sg2 : Sig} {ci b n1 ix n : Nat} {av rest : List Value} {Qc : Option Value → Mem → Prop} (hci : ci < 5) (hcl : sg2.1.cls = cnm ci) (hmaxL : sg2.2.2.1 ≤ 17) (hpn : sg2.1.cls ≠ "java/lang/invoke/MethodHandle" ∧ sg2.1.cls ≠ "java/lang/invoke/VarHandle") (hnp : (parseMethodDescriptor sg2.1.desc).map (fun d => d.parameters.length) = some n) (hn : av.length = n)
    (hw1 : Cond.methodLink sg.1.cls ix sg2.1 ∈ WS) (hw2 : Cond.instanceMethod sg2.1 ∈ WS) (hw3 : Cond.selects sg2.1.cls sg2.1 sg2.1 ∈ WS) (hw4 : Cond.initialized sg2.1.cls ∈ WS) (hw5 : Cond.code sg2.1 sg2.2.1 sg2.2.2.1 sg2.2.2.2 ∈ WS) (hd : decode sg.2.1 pc = .ok (.invokevirtual ix, 3)) (hst : wsum rest ≤ 8) (ho : isO M b ci) (hG : GmA Z d sg2 (.ref b :: av) M n1 Qc) (h1n : n1 ≤ nF)
    (h : ∀ r M', Qc r M' → mN M' = n1 → X Z (d + 1) sg n0 nF Q (pc + 3) lv (r.toList ++ rest) M') : X Z (d + 1) sg n0 nF Q pc lv (av.reverse ++ .ref b :: rest) M := by
  intro p e R s m args below meth c Qe H locs la hF h1 h2 h3 h4 hR hS hL hE
  have hts := hF.2.2.2.2.1
  have hfr := hF.2.2.2.2.2.2.1
  have hlo := hF.2.2.2.2.2.2.2.1
  have hmo := sl_mono h1n
  have hmo2 := sl_mono h3
  have hmo3 := sl_mono hG.1
  have hrecv : ∃ cell : Cell, H[zo Z + (b - 16)]? = some cell ∧ cell.vm.isStatics = false ∧ s.vm.findClass sg2.1.cls = some cell.cls := by
    rw [hcl]
    exact va_recv (q := (cnm ci, cT ci, cW ci)) hF.2.2.2.2.2.1.1 hR.1 (clsGet ci hci) (isO_at ho)
  rw [show (av.reverse ++ Value.ref b :: rest).map (cv Z) = (av.map (cv Z)).reverse ++ .ref (zo Z + (b - 16)) :: rest.map (cv Z) by rw [List.map_append, List.map_cons, List.map_reverse, ad_of (M := M) ho.lo]]
  refine W_call (rest := rest.map (cv Z)) (a := (Value.ref (zo Z + (b - 16)) :: av.map (cv Z)).toArray) (va_runV (As := av.map (cv Z)) (C := sg2.1.cls) ⟨hF.1, hF.2.1, hF.2.2.1, hF.2.2.2.1, hts⟩ hG.2 ⟨callB_of n hts (wk_good hw5) rfl rfl rfl (hts _ hw4) (hts _ hw1) ⟨hpn.1, hpn.2, hnp⟩ ⟨by show d + 1 ≤ _; omega, by show 8 + (_ + 11) + 36 * d ≤ _; omega⟩, hts _ hw2, hts _ hw3⟩ ⟨Pm_blind _ _ _, hrecv, ?_⟩ rfl (by simpa using hn) (hL.1.trans rfl) rfl ?_ hd ⟨by omega, by omega⟩) hS (fun r M' H1 locs1 hq hn' hR' hS' => X_fin hF h1 h2 h3 hG.1 h1n hn' hR' hS' hL hE (h r M' hq hn'))
  · have := Pm_pre (av := .ref b :: av) hR hF.2.2.2.2.2.1 hS
    rw [List.map_cons, ad_of (M := M) ho.lo] at this
    exact this
  · exact lv_room (by rw [wsum_cv]; exact hst)
/-- an instance method of a text -/
theorem X_callT {sg2 : Sig} {i n1 ix n : Nat} {av rest : List Value} {Qc : Option Value → Mem → Prop} (hi : i < 4) (hcl : sg2.1.cls = "java/lang/String") (hmaxL : sg2.2.2.1 ≤ 17) (hnp : (parseMethodDescriptor sg2.1.desc).map (fun d => d.parameters.length) = some n) (hn : av.length = n)
    (hw1 : Cond.methodLink sg.1.cls ix sg2.1 ∈ WS) (hw2 : Cond.instanceMethod sg2.1 ∈ WS) (hw3 : Cond.selects sg2.1.cls sg2.1 sg2.1 ∈ WS) (hw4 : Cond.initialized sg2.1.cls ∈ WS) (hw5 : Cond.code sg2.1 sg2.2.1 sg2.2.2.1 sg2.2.2.2 ∈ WS) (hd : decode sg.2.1 pc = .ok (.invokevirtual ix, 3)) (hst : wsum rest ≤ 8) (hG : GmA Z d sg2 (.ref (i + 2) :: av) M n1 Qc) (h1n : n1 ≤ nF)
    (h : ∀ r M', Qc r M' → mN M' = n1 → X Z (d + 1) sg n0 nF Q (pc + 3) lv (r.toList ++ rest) M') : X Z (d + 1) sg n0 nF Q pc lv (av.reverse ++ .ref (i + 2) :: rest) M := by
  intro p e R s m args below meth c Qe H locs la hF h1 h2 h3 h4 hR hS hL hE
  have hts := hF.2.2.2.2.1
  have hfr := hF.2.2.2.2.2.2.1
  have hlo := hF.2.2.2.2.2.2.2.1
  have hmo := sl_mono h1n
  have hmo2 := sl_mono h3
  have hmo3 := sl_mono hG.1
  have hrecv : ∃ cell : Cell, H[zK Z i]? = some cell ∧ cell.vm.isStatics = false ∧ s.vm.findClass sg2.1.cls = some cell.cls := by
    rw [hcl]
    exact vk_recv hF.2.2.2.2.2.1.2.2.2.2.1 hi hS
  have hcv : cv Z (.ref (i + 2)) = .ref (zK Z i) := ad_str Z hi
  rw [show (av.reverse ++ Value.ref (i + 2) :: rest).map (cv Z) = (av.map (cv Z)).reverse ++ .ref (zK Z i) :: rest.map (cv Z) by rw [List.map_append, List.map_cons, List.map_reverse, hcv]]
  refine W_call (rest := rest.map (cv Z)) (a := (Value.ref (zK Z i) :: av.map (cv Z)).toArray) (va_runV (As := av.map (cv Z)) (C := sg2.1.cls) ⟨hF.1, hF.2.1, hF.2.2.1, hF.2.2.2.1, hts⟩ hG.2 ⟨callB_of n hts (wk_good hw5) rfl rfl rfl (hts _ hw4) (hts _ hw1) ⟨by rw [hcl]; decide, by rw [hcl]; decide, hnp⟩ ⟨by show d + 1 ≤ _; omega, by show 8 + (_ + 11) + 36 * d ≤ _; omega⟩, hts _ hw2, hts _ hw3⟩ ⟨Pm_blind _ _ _, hrecv, ?_⟩ rfl (by simpa using hn) (hL.1.trans rfl) rfl ?_ hd ⟨by omega, by omega⟩) hS (fun r M' H1 locs1 hq hn' hR' hS' => X_fin hF h1 h2 h3 hG.1 h1n hn' hR' hS' hL hE (h r M' hq hn'))
  · have := Pm_pre (av := .ref (i + 2) :: av) hR hF.2.2.2.2.2.1 hS
    rw [List.map_cons, hcv] at this
    exact this
  · exact lv_room (by rw [wsum_cv]; exact hst)
/-- a static method -/
theorem X_callS {sg2 : Sig} {n1 ix n : Nat} {av rest : List Value} {Qc : Option Value → Mem → Prop} (hmaxL : sg2.2.2.1 ≤ 17) (hpn : sg2.1.cls ≠ "java/lang/invoke/MethodHandle" ∧ sg2.1.cls ≠ "java/lang/invoke/VarHandle") (hnp : (parseMethodDescriptor sg2.1.desc).map (fun d => d.parameters.length) = some n) (hn : av.length = n)
    (hw1 : Cond.methodLink sg.1.cls ix sg2.1 ∈ WS) (hw2 : Cond.static sg2.1 ∈ WS) (hw4 : Cond.initialized sg2.1.cls ∈ WS) (hw5 : Cond.code sg2.1 sg2.2.1 sg2.2.2.1 sg2.2.2.2 ∈ WS) (hd : decode sg.2.1 pc = .ok (.invokestatic ix, 3)) (hst : wsum rest ≤ 8) (hG : GmA Z d sg2 av M n1 Qc) (h1n : n1 ≤ nF)
    (h : ∀ r M', Qc r M' → mN M' = n1 → X Z (d + 1) sg n0 nF Q (pc + 3) lv (r.toList ++ rest) M') : X Z (d + 1) sg n0 nF Q pc lv (av.reverse ++ rest) M := by
  intro p e R s m args below meth c Qe H locs la hF h1 h2 h3 h4 hR hS hL hE
  have hts := hF.2.2.2.2.1
  have hfr := hF.2.2.2.2.2.2.1
  have hlo := hF.2.2.2.2.2.2.2.1
  have hmo := sl_mono h1n
  have hmo2 := sl_mono h3
  have hmo3 := sl_mono hG.1
  rw [show (av.reverse ++ rest).map (cv Z) = (av.map (cv Z)).reverse ++ rest.map (cv Z) by rw [List.map_append, List.map_reverse]]
  exact W_call (rest := rest.map (cv Z)) (a := (av.map (cv Z)).toArray) (va_runS (As := av.map (cv Z)) ⟨hF.1, hF.2.1, hF.2.2.1, hF.2.2.2.1, hts⟩ hG.2 ⟨callB_of n hts (wk_good hw5) rfl rfl rfl (hts _ hw4) (hts _ hw1) ⟨hpn.1, hpn.2, hnp⟩ ⟨by show d + 1 ≤ _; omega, by show 8 + (_ + 11) + 36 * d ≤ _; omega⟩, hts _ hw2⟩ ⟨Pm_blind _ _ _, Pm_pre hR hF.2.2.2.2.2.1 hS⟩ rfl (by simpa using hn) (hL.1.trans rfl) rfl (lv_room (by rw [wsum_cv]; exact hst)) hd ⟨by omega, by omega⟩) hS (fun r M' H1 locs1 hq hn' hR' hS' => X_fin hF h1 h2 h3 hG.1 h1n hn' hR' hS' hL hE (h r M' hq hn'))
/-- a private static method of a nest mate -/
theorem X_callSN {sg2 : Sig} {n1 ix n : Nat} {host : String} {av rest : List Value} {Qc : Option Value → Mem → Prop} (hmaxL : sg2.2.2.1 ≤ 17) (hpn : sg2.1.cls ≠ "java/lang/invoke/MethodHandle" ∧ sg2.1.cls ≠ "java/lang/invoke/VarHandle") (hnp : (parseMethodDescriptor sg2.1.desc).map (fun d => d.parameters.length) = some n) (hn : av.length = n)
    (hw1 : (sg.1.cls, ix, sg2.1, host) ∈ nestL) (hw2 : Cond.static sg2.1 ∈ WS) (hw4 : Cond.initialized sg2.1.cls ∈ WS) (hw5 : Cond.code sg2.1 sg2.2.1 sg2.2.2.1 sg2.2.2.2 ∈ WS) (hd : decode sg.2.1 pc = .ok (.invokestatic ix, 3)) (hst : wsum rest ≤ 8) (hG : GmA Z d sg2 av M n1 Qc) (h1n : n1 ≤ nF)
    (h : ∀ r M', Qc r M' → mN M' = n1 → X Z (d + 1) sg n0 nF Q (pc + 3) lv (r.toList ++ rest) M') : X Z (d + 1) sg n0 nF Q pc lv (av.reverse ++ rest) M := by
  intro p e R s m args below meth c Qe H locs la hF h1 h2 h3 h4 hR hS hL hE
  have hts := hF.2.2.2.2.1
  have hfr := hF.2.2.2.2.2.2.1
  have hlo := hF.2.2.2.2.2.2.2.1
  have hmo := sl_mono h1n
  have hmo2 := sl_mono h3
  have hmo3 := sl_mono hG.1
  rw [show (av.reverse ++ rest).map (cv Z) = (av.map (cv Z)).reverse ++ rest.map (cv Z) by rw [List.map_append, List.map_reverse]]
  exact W_call (rest := rest.map (cv Z)) (a := (av.map (cv Z)).toArray) (va_runSN (As := av.map (cv Z)) ⟨hF.1, hF.2.1, hF.2.2.1, hF.2.2.2.1, hts⟩ hG.2 ⟨va_cnB n hts (wk_good hw5) rfl rfl rfl (hF.2.2.2.2.2.1.2.1 _ hw1) (hts _ hw4) ⟨hpn.1, hpn.2, hnp⟩ ⟨by show d + 1 ≤ _; omega, by show 8 + (_ + 11) + 36 * d ≤ _; omega⟩, hts _ hw2, trivial⟩ ⟨Pm_blind _ _ _, Pm_pre hR hF.2.2.2.2.2.1 hS⟩ rfl (by simpa using hn) (hL.1.trans rfl) rfl (lv_room (by rw [wsum_cv]; exact hst)) hd ⟨by omega, by omega⟩) hS (fun r M' H1 locs1 hq hn' hR' hS' => X_fin hF h1 h2 h3 hG.1 h1n hn' hR' hS' hL hE (h r M' hq hn'))
/-- a constructor -/
theorem X_callI {sg2 : Sig} {b n1 ix n : Nat} {av rest : List Value} {Qc : Option Value → Mem → Prop} (hb16 : 16 ≤ b) (hnm : sg2.1.name = "<init>") (hrt : sg2.2.2.2 = none) (hmaxL : sg2.2.2.1 ≤ 17) (hpn : sg2.1.cls ≠ "java/lang/invoke/MethodHandle" ∧ sg2.1.cls ≠ "java/lang/invoke/VarHandle") (hnp : (parseMethodDescriptor sg2.1.desc).map (fun d => d.parameters.length) = some n) (hn : av.length = n)
    (hw1 : Cond.methodLink sg.1.cls ix sg2.1 ∈ WS) (hw2 : Cond.instanceMethod sg2.1 ∈ WS) (hw4 : Cond.initialized sg2.1.cls ∈ WS) (hw5 : Cond.code sg2.1 sg2.2.1 sg2.2.2.1 sg2.2.2.2 ∈ WS) (hd : decode sg.2.1 pc = .ok (.invokespecial ix, 3)) (hst : wsum rest ≤ 8) (hG : GmA Z d sg2 (.ref b :: av) M n1 Qc) (h1n : n1 ≤ nF)
    (h : ∀ r M', Qc r M' → mN M' = n1 → X Z (d + 1) sg n0 nF Q (pc + 3) lv (r.toList ++ rest) M') : X Z (d + 1) sg n0 nF Q pc lv (av.reverse ++ .ref b :: rest) M := by
  intro p e R s m args below meth c Qe H locs la hF h1 h2 h3 h4 hR hS hL hE
  have hts := hF.2.2.2.2.1
  have hfr := hF.2.2.2.2.2.2.1
  have hlo := hF.2.2.2.2.2.2.2.1
  have hmo := sl_mono h1n
  have hmo2 := sl_mono h3
  have hmo3 := sl_mono hG.1
  have hcv : cv Z (.ref b) = .ref (zo Z + (b - 16)) := ad_cell hb16
  rw [show (av.reverse ++ Value.ref b :: rest).map (cv Z) = (av.map (cv Z)).reverse ++ .ref (zo Z + (b - 16)) :: rest.map (cv Z) by rw [List.map_append, List.map_cons, List.map_reverse, hcv]]
  obtain ⟨y2, b2, l2, r2⟩ := sg2
  cases hrt
  refine W_call (rest := rest.map (cv Z)) (a := (Value.ref (zo Z + (b - 16)) :: av.map (cv Z)).toArray) (va_runI (As := av.map (cv Z)) ⟨hF.1, hF.2.1, hF.2.2.1, hF.2.2.2.1, hts⟩ hG.2 ⟨callB_of n hts (wk_good hw5) rfl rfl rfl (hts _ hw4) (hts _ hw1) ⟨hpn.1, hpn.2, hnp⟩ ⟨by show d + 1 ≤ _; omega, by show 8 + (_ + 11) + 36 * d ≤ _; omega⟩, hnm, hts _ hw2⟩ ⟨Pm_blind _ _ _, ?_⟩ rfl (by simpa using hn) (hL.1.trans rfl) rfl ?_ hd ⟨by omega, by omega⟩) hS (fun r M' H1 locs1 hq hn' hR' hS' => X_fin hF h1 h2 h3 hG.1 h1n hn' hR' hS' hL hE (h r M' hq hn'))
  · have := Pm_pre (av := .ref b :: av) hR hF.2.2.2.2.2.1 hS
    rw [List.map_cons, hcv] at this
    exact this
  · exact lv_room (by rw [wsum_cv]; exact hst)
/-- a private constructor of a nest mate -/
theorem X_callIN {sg2 : Sig} {b n1 ix n : Nat} {host : String} {av rest : List Value} {Qc : Option Value → Mem → Prop} (hb16 : 16 ≤ b) (hnm : sg2.1.name = "<init>") (hrt : sg2.2.2.2 = none) (hmaxL : sg2.2.2.1 ≤ 17) (hpn : sg2.1.cls ≠ "java/lang/invoke/MethodHandle" ∧ sg2.1.cls ≠ "java/lang/invoke/VarHandle") (hnp : (parseMethodDescriptor sg2.1.desc).map (fun d => d.parameters.length) = some n) (hn : av.length = n)
    (hw1 : (sg.1.cls, ix, sg2.1, host) ∈ nestL) (hw2 : Cond.instanceMethod sg2.1 ∈ WS) (hw4 : Cond.initialized sg2.1.cls ∈ WS) (hw5 : Cond.code sg2.1 sg2.2.1 sg2.2.2.1 sg2.2.2.2 ∈ WS) (hd : decode sg.2.1 pc = .ok (.invokespecial ix, 3)) (hst : wsum rest ≤ 8) (hG : GmA Z d sg2 (.ref b :: av) M n1 Qc) (h1n : n1 ≤ nF)
    (h : ∀ r M', Qc r M' → mN M' = n1 → X Z (d + 1) sg n0 nF Q (pc + 3) lv (r.toList ++ rest) M') : X Z (d + 1) sg n0 nF Q pc lv (av.reverse ++ .ref b :: rest) M := by
  intro p e R s m args below meth c Qe H locs la hF h1 h2 h3 h4 hR hS hL hE
  have hts := hF.2.2.2.2.1
  have hfr := hF.2.2.2.2.2.2.1
  have hlo := hF.2.2.2.2.2.2.2.1
  have hmo := sl_mono h1n
  have hmo2 := sl_mono h3
  have hmo3 := sl_mono hG.1
  have hcv : cv Z (.ref b) = .ref (zo Z + (b - 16)) := ad_cell hb16
  rw [show (av.reverse ++ Value.ref b :: rest).map (cv Z) = (av.map (cv Z)).reverse ++ .ref (zo Z + (b - 16)) :: rest.map (cv Z) by rw [List.map_append, List.map_cons, List.map_reverse, hcv]]
  obtain ⟨y2, b2, l2, r2⟩ := sg2
  cases hrt
  refine W_call (rest := rest.map (cv Z)) (a := (Value.ref (zo Z + (b - 16)) :: av.map (cv Z)).toArray) (va_runIN (As := av.map (cv Z)) ⟨hF.1, hF.2.1, hF.2.2.1, hF.2.2.2.1, hts⟩ hG.2 ⟨va_cnB n hts (wk_good hw5) rfl rfl rfl (hF.2.2.2.2.2.1.2.1 _ hw1) (hts _ hw4) ⟨hpn.1, hpn.2, hnp⟩ ⟨by show d + 1 ≤ _; omega, by show 8 + (_ + 11) + 36 * d ≤ _; omega⟩, hnm, hts _ hw2⟩ ⟨Pm_blind _ _ _, ?_⟩ rfl (by simpa using hn) (hL.1.trans rfl) rfl ?_ hd ⟨by omega, by omega⟩) hS (fun r M' H1 locs1 hq hn' hR' hS' => X_fin hF h1 h2 h3 hG.1 h1n hn' hR' hS' hL hE (h r M' hq hn'))
  · have := Pm_pre (av := .ref b :: av) hR hF.2.2.2.2.2.1 hS
    rw [List.map_cons, hcv] at this
    exact this
  · exact lv_room (by rw [wsum_cv]; exact hst)
/-- Math.max, Math.min, System.arraycopy, Object's constructor -/
theorem X_max {ix : Nat} {x y : Int32} (hw : Cond.methodLink sg.1.cls ix Lib.Math.max.name ∈ WS) (hw2 : Cond.static Lib.Math.max.name ∈ WS) (hw3 : Cond.initialized "java/lang/Math" ∈ WS) (hw4 : Cond.code Lib.Math.max.name Lib.Math.max.code 2 (some .int) ∈ WS) (hd : decode sg.2.1 pc = .ok (.invokestatic ix, 3)) (hst : wsum st ≤ 8) (h : X Z (d + 1) sg n0 nF Q (pc + 3) lv (.int (if x < y then y else x) :: st) M) : X Z (d + 1) sg n0 nF Q pc lv (.int y :: .int x :: st) M := by
  intro p e R s m args below meth c Qe H locs la hF h1 h2 h3 h4 hR hS hL hE
  have hts := hF.2.2.2.2.1
  have hfr := hF.2.2.2.2.2.2.1
  have hlo := hF.2.2.2.2.2.2.2.1
  have hmo := sl_mono h4
  have hsum := wsum_cv Z st
  exact va_mmax hF.1 hF.2.1 (hF.2.2.1.trans hL.1.symm) hF.2.2.2.1 (hts _ hw) (hts _ hw2) (hts _ hw3) (hts _ hw4) (by omega) (by omega) (by omega) (by omega) hd (h p e R s m args below meth c Qe H locs la hF h1 h2 h3 h4 hR hS hL hE)
theorem X_min {ix : Nat} {x y : Int32} (hw : Cond.methodLink sg.1.cls ix Lib.Math.min.name ∈ WS) (hw2 : Cond.static Lib.Math.min.name ∈ WS) (hw3 : Cond.initialized "java/lang/Math" ∈ WS) (hw4 : Cond.code Lib.Math.min.name Lib.Math.min.code 2 (some .int) ∈ WS) (hd : decode sg.2.1 pc = .ok (.invokestatic ix, 3)) (hst : wsum st ≤ 8) (h : X Z (d + 1) sg n0 nF Q (pc + 3) lv (.int (if y < x then y else x) :: st) M) : X Z (d + 1) sg n0 nF Q pc lv (.int y :: .int x :: st) M := by
  intro p e R s m args below meth c Qe H locs la hF h1 h2 h3 h4 hR hS hL hE
  have hts := hF.2.2.2.2.1
  have hfr := hF.2.2.2.2.2.2.1
  have hlo := hF.2.2.2.2.2.2.2.1
  have hmo := sl_mono h4
  have hsum := wsum_cv Z st
  exact va_mmin hF.1 hF.2.1 (hF.2.2.1.trans hL.1.symm) hF.2.2.2.1 (hts _ hw) (hts _ hw2) (hts _ hw3) (hts _ hw4) (by omega) (by omega) (by omega) (by omega) hd (h p e R s m args below meth c Qe H locs la hF h1 h2 h3 h4 hR hS hL hE)
theorem X_objI {ix a : Nat} (h16 : 16 ≤ a) (hw : Cond.methodLink sg.1.cls ix Lib.objectInit ∈ WS) (hw2 : Cond.instanceMethod Lib.objectInit ∈ WS) (hw4 : Cond.code Lib.objectInit ⟨#[0xb1]⟩ 1 none ∈ WS) (hd : decode sg.2.1 pc = .ok (.invokespecial ix, 3)) (hst : wsum st ≤ 8) (h : X Z (d + 1) sg n0 nF Q (pc + 3) lv st M) : X Z (d + 1) sg n0 nF Q pc lv (.ref a :: st) M := by
  intro p e R s m args below meth c Qe H locs la hF h1 h2 h3 h4 hR hS hL hE
  have hts := hF.2.2.2.2.1
  have hfr := hF.2.2.2.2.2.2.1
  have hlo := hF.2.2.2.2.2.2.2.1
  have hsum := wsum_cv Z st
  rw [List.map_cons, ad_of (M := M) h16]
  exact W.objInit hF.1 hF.2.1 hF.2.2.2.1 (hts _ hw) (hts _ hw2) (hts _ hw4) rfl (hL.1.trans hF.2.2.1.symm) rfl hd (by omega) (by show 2 * 0 + _ + 12 ≤ _; omega) (h p e R s m args below meth c Qe H locs la hF h1 h2 h3 h4 hR hS hL hE)
/-- copying n ints from place sp of a to place dp of b -/
def cpI (M : Mem) (a sp b dp n : Nat) : Mem := (M.1, fun x y => if x = b ∧ dp ≤ y ∧ y < dp + n then M.2.1 a (sp + (y - dp)) else M.2.1 x y, M.2.2.1, M.2.2.2)
theorem ce_cpI {M : Mem} {a sp b dp n j : Nat} (h : j ≠ b) : ce Z (cpI M a sp b dp n) j = ce Z M j := by
  have e2 : mI (cpI M a sp b dp n) j = mI M j := by funext y; simp [mI, cpI, h]
  have e3 : fv Z (cpI M a sp b dp n) j = fv Z M j := by
    funext ci y
    unfold fv
    rw [e2]
    rfl
  unfold ce
  rw [e2, e3]
  rfl
theorem X_copy {ix a b sp dp n : Nat} (hw : Cond.methodLink sg.1.cls ix arraycopyName ∈ WS) (hw2 : Cond.native arraycopyName ∈ WS) (hw3 : Cond.static arraycopyName ∈ WS) (hw4 : Cond.initialized "java/lang/System" ∈ WS) (hd : decode sg.2.1 pc = .ok (.invokestatic ix, 3)) (hst : wsum st ≤ 8) (ha : a < mN M) (ha2 : (kd a).1 = 1) (hb : b < mN M) (hb2 : (kd b).1 = 1) (h4 : sp + n ≤ (kd a).2) (h5 : dp + n ≤ (kd b).2) (hsm : sp < 2 ^ 31) (hdm : dp < 2 ^ 31) (hnm : n < 2 ^ 31) (h : X Z (d + 1) sg n0 nF Q (pc + 3) lv st (cpI M a sp b dp n)) : X Z (d + 1) sg n0 nF Q pc lv (.int (nI n) :: .int (nI dp) :: .ref b :: .int (nI sp) :: .ref a :: st) M := by
  intro p e R s m args below meth c Qe H locs la hF g1 g2 g3 g4 hR hS hL hE
  have hts := hF.2.2.2.2.1
  have hfr := hF.2.2.2.2.2.2.1
  have hlo := hF.2.2.2.2.2.2.2.1
  have hK := hF.2.2.2.2.2.1.1
  have hsum := wsum_cv Z st
  have a16 : 16 ≤ a := kd_lo (by omega)
  have hnw : nativeFrameWords "java/lang/System" "arraycopy" 5 ≤ 17 := by decide
  have b16 : 16 ≤ b := kd_lo (by omega)
  have nn : ∀ k : Nat, k < 2 ^ 31 → (nI k).toInt = (k : Int) := fun k hk => nI_toInt hk
  rw [List.map_cons, List.map_cons, List.map_cons, List.map_cons, List.map_cons, ad_of (M := M) a16, ad_of (M := M) b16]
  intro T hT X
  have hc0 : H[zo Z + (a - 16)]? = some (vp_cell (zcI Z) ((kd a).2, .inl (mI M a))) := hR.1 (a - 16) _ (arr_at ha ha2)
  have hc1 : H[zo Z + (b - 16)]? = some (vp_cell (zcI Z) ((kd b).2, .inl (mI M b))) := hR.1 (b - 16) _ (arr_at hb hb2)
  obtain ⟨-, k0, hk0, cm0, hkk0⟩ := (hK.2 0 _ rfl).1 (kd a).2 (fun j => .int (mI M a j))
  obtain ⟨-, k1, hk1, cm1, hkk1⟩ := (hK.2 0 _ rfl).1 (kd b).2 (fun j => .int (mI M b j))
  obtain ⟨vm', X', step⟩ := X.arraycopy hF.1 hF.2.2.2.1 (hts _ hw) (hts _ hw2) (hts _ hw3) (hts _ hw4) (src := zo Z + (a - 16)) (dst := zo Z + (b - 16)) (cs := vp_cell (zcI Z) ((kd a).2, .inl (mI M a))) (cd := vp_cell (zcI Z) ((kd b).2, .inl (mI M b))) (srcPos := nI sp) (destPos := nI dp) (n := nI n) (by rw [hT]; exact hc0) (by rw [hT]; exact hc1)
    (fun _ h => by cases h) (fun _ h => by cases h) (fun h => by cases h) (fun h => by cases h) hk0 hk1 hkk0 hkk1 (by simp [refKind]) (nI_pos hsm) (nI_pos hdm) (nI_pos hnm)
    (by rw [nn sp hsm, nn n hnm]; show ¬ _ > ((arrV (zcI Z) (kd a).2 (fun j => .int (mI M a j))).slots.size : Int); rw [arrV_size]; omega)
    (by rw [nn dp hdm, nn n hnm]; show ¬ _ > ((arrV (zcI Z) (kd b).2 (fun j => .int (mI M b j))).slots.size : Int); rw [arrV_size]; omega)
    (fun vm₁ _ i hi => by
      rw [nI_clamp hnm] at hi
      rw [nI_clamp hsm]
      have e : (vp_cell (zcI Z) ((kd a).2, .inl (mI M a))).slots.getD (sp + i) .null = .int (mI M a (sp + i)) := by
        rw [vp_cell_i, Array.getD_eq_getD_getElem?, arrV_read _ _ (by omega)]
        rfl
      rw [e]
      exact ⟨rfl, trivial⟩)
    (g := F0 m pc la (.int (nI n) :: .int (nI dp) :: .ref (zo Z + (b - 16)) :: .int (nI sp) :: .ref (zo Z + (a - 16)) :: st.map (cv Z))) rfl (by rw [hF.2.2.1]; exact hL.1) (rest := st.map (cv Z)) rfl (by rw [hF.2.1]; exact hd) (by omega) (by show 2 * 0 + _ + (nativeFrameWords "java/lang/System" "arraycopy" 5 + 11) ≤ _; rw [hsum]; omega)
  have e1 : copied (vp_cell (zcI Z) ((kd a).2, .inl (mI M a))) (vp_cell (zcI Z) ((kd b).2, .inl (mI M b))) (nI sp) (nI dp) (nI n) = vp_cell (zcI Z) ((kd b).2, .inl (va_cpy (mI M a) (mI M b) sp dp n)) := by
    have := va_copied (sp := (nI sp).toNatClampNeg) (dp := (nI dp).toNatClampNeg) (n := (nI n).toNatClampNeg) (fun z => .int z) (zcI Z) (zcI Z) (mI M a) (mI M b) (n0 := (kd a).2) (n1 := (kd b).2) (by rw [nI_clamp hsm, nI_clamp hnm]; exact h4)
    rw [show va_cpy (mI M a) (mI M b) sp dp n = va_cpy (mI M a) (mI M b) (nI sp).toNatClampNeg (nI dp).toNatClampNeg (nI n).toNatClampNeg by rw [nI_clamp hsm, nI_clamp hnm, nI_clamp hdm]]
    exact this
  rw [e1] at X' step
  have hl : zo Z + (b - 16) < H.size := (Array.getElem?_eq_some_iff.mp hc1).1
  have hheap : ((T.setVm vm').setCell (zo Z + (b - 16)) (vp_cell (zcI Z) ((kd b).2, .inl (va_cpy (mI M a) (mI M b) sp dp n)))).heap = H.setIfInBounds (zo Z + (b - 16)) (vp_cell (zcI Z) ((kd b).2, .inl (va_cpy (mI M a) (mI M b) sp dp n))) := by rw [← hT]; rfl
  have oq : ∀ q : Nat, q ≠ zo Z + (b - 16) → (H.setIfInBounds (zo Z + (b - 16)) (vp_cell (zcI Z) ((kd b).2, .inl (va_cpy (mI M a) (mI M b) sp dp n))))[q]? = H[q]? := fun q hq => by simp [Array.getElem?_setIfInBounds, Ne.symm hq]
  have hP := hR.1.set (wsD Z M) (arr_at hb hb2) (e := .inl (zcI Z, (kd b).2, .inl (va_cpy (mI M a) (mI M b) sp dp n))) (show (H.setIfInBounds (zo Z + (b - 16)) _)[zo Z + (b - 16)]? = some _ by simp [Array.getElem?_setIfInBounds, hl]) oq
  have hR' : Rep Z (cpI M a sp b dp n) (H.setIfInBounds (zo Z + (b - 16)) (vp_cell (zcI Z) ((kd b).2, .inl (va_cpy (mI M a) (mI M b) sp dp n)))) := Rep.set (M' := cpI M a sp b dp n) hR b16 hb rfl (fun j hj => ce_cpI hj) (by
    rw [ce_arr hb2]
    congr 4
    funext q
    simp [va_cpy, mI, cpI]) (by simp) hP
  obtain ⟨t, a1, b1⟩ := h p e R s m args below meth c Qe _ _ la hF g1 g2 g3 g4 hR' ⟨by simp; exact hS.1, fun q g1 g2 => by
      rw [oq q (fun e => g2 (by rw [e]; show zo Z ≤ _; omega))]
      exact hS.2.1 q g1 g2, fun q hq => by
      rcases List.mem_append.mp hq with h | h
      · exact hS.2.2 q h
      · obtain ⟨z, -, hz⟩ := List.mem_map.mp h
        rw [← hz]
        exact Nat.le_add_right (zo Z) (b - 16)⟩ hL hE _ hheap X'
  exact ⟨t, step t a1, b1⟩
end XC
end
section
/-! ===== programs: a method's instructions as data, and what is to be shown of them, computed ===== -/
abbrev Ins : Type := Nat × Nat × Nat × Nat × Int32 × List Nat
abbrev PI : Type := Nat × Ins
/-- a contract as a caller uses it: what must hold before, what holds behind -/
abbrev Ent : Type := (List Value → Mem → Prop) × (List Value → Mem → Option Value → Mem → Prop)
def f4 (a : Nat) : Fin 4 := Fin.ofNat 4 a
/-- the cells' strings of a field -/
def jI (pc : Nat) (x : Ins) : Instr × Nat := match x with
  | (g, o, a, b, v, tl) => match g with
    | 0 => match o with
      | 0 => match b with
        | 0 => (.iconst v.toInt, 1)
        | 1 => (.bipush v.toInt, 2)
        | 2 => (.sipush v.toInt, 3)
        | _ => (.ldc a, 2)
      | 1 => (.ldc2_w a, 3)
      | 5 => (.ldc2_w a, 3)
      | 2 => (.ldc (strL.getD a (0, "")).1, 2)
      | _ => (.getstatic a, 3)
    | 1 => match o with
      | 0 => if a < 4 then (.iload_n (f4 a), 1) else (.iload a, 2)
      | 1 => if a < 4 then (.aload_n (f4 a), 1) else (.aload a, 2)
      | 2 => if a < 4 then (.lload_n (f4 a), 1) else (.lload a, 2)
      | 3 => if a < 4 then (.istore_n (f4 a), 1) else (.istore a, 2)
      | 4 => if a < 4 then (.astore_n (f4 a), 1) else (.astore a, 2)
      | 5 => if a < 4 then (.lstore_n (f4 a), 1) else (.lstore a, 2)
      | _ => (.iinc a v.toInt, 3)
    | 2 => match o with
      | 0 => (.iadd, 1)
      | 1 => (.isub, 1)
      | 2 => (.imul, 1)
      | 3 => (.idiv, 1)
      | 4 => (.irem, 1)
      | 5 => (.ineg, 1)
      | 6 => (.iand, 1)
      | 7 => (.ior, 1)
      | 8 => (.ishl, 1)
      | _ => (.ishr, 1)
    | 3 => match o with
      | 0 => (.i2l, 1)
      | 1 => (.ladd, 1)
      | 2 => (.lmul, 1)
      | 3 => (.lcmp, 1)
      | _ => (.i2c, 1)
    | 4 => match o with
      | 0 => (.if_icmp .eq ((a : Int) - pc), 3)
      | 1 => (.if_icmp .ne ((a : Int) - pc), 3)
      | 2 => (.if_icmp .lt ((a : Int) - pc), 3)
      | 3 => (.if_icmp .ge ((a : Int) - pc), 3)
      | 4 => (.if_icmp .gt ((a : Int) - pc), 3)
      | _ => (.if_icmp .le ((a : Int) - pc), 3)
    | 5 => match o with
      | 0 => (.ifCond .eq ((a : Int) - pc), 3)
      | 1 => (.ifCond .ne ((a : Int) - pc), 3)
      | 2 => (.ifCond .lt ((a : Int) - pc), 3)
      | 3 => (.ifCond .ge ((a : Int) - pc), 3)
      | 4 => (.ifCond .gt ((a : Int) - pc), 3)
      | _ => (.ifCond .le ((a : Int) - pc), 3)
    | 6 => match o with
      | 0 => (.goto ((a : Int) - pc), 3)
      | _ => (.tableswitch ((a : Int) - pc) 0 ((tl.length : Int) - 1) (tl.map fun (t : Nat) => ((t : Int) - (pc : Int))).toArray, b)
    | 7 => match o with
      | 0 => (.dup, 1)
      | 1 => (.dup2, 1)
      | _ => (.pop, 1)
    | 8 => match o with
      | 0 => (.getfield (tl.getD 0 0), 3)
      | 1 => (.getfield (tl.getD 0 0), 3)
      | 2 => (.getfield (tl.getD 0 0), 3)
      | 3 => (.getfield (tl.getD 0 0), 3)
      | 4 => (.iaload, 1)
      | 5 => (.aaload, 1)
      | 6 => (.arraylength, 1)
      | 7 => (.getfield (tl.getD 0 0), 3)
      | 8 => (.getfield (tl.getD 0 0), 3)
      | 9 => (.baload, 1)
      | 10 => (.arraylength, 1)
      | 11 => (.iaload, 1)
      | _ => (.arraylength, 1)
    | 9 => match o with
      | 0 => (.ireturn, 1)
      | 1 => (.ireturn, 1)
      | 2 => (.ireturn, 1)
      | 3 => (.lreturn, 1)
      | 4 => (.areturn, 1)
      | _ => (.return_, 1)
    | 10 => match o with
      | 0 => (.putfield (tl.getD 0 0), 3)
      | 1 => (.putfield (tl.getD 0 0), 3)
      | 2 => (.putfield (tl.getD 0 0), 3)
      | 3 => (.putfield (tl.getD 0 0), 3)
      | 4 => (.iastore, 1)
      | 5 => (.aastore, 1)
      | 6 => (.new (tl.getD 0 0), 3)
      | 7 => (.newarray .int, 2)
      | _ => (.anewarray (tl.getD 0 0), 3)
    | 11 => match o with
      | 0 => (.invokevirtual (tl.getD 0 0), 3)
      | 1 => (.invokestatic (tl.getD 0 0), 3)
      | 2 => (.invokestatic (tl.getD 0 0), 3)
      | 3 => (.invokevirtual (tl.getD 0 0), 3)
      | 4 => (.invokespecial (tl.getD 0 0), 3)
      | _ => (.invokespecial (tl.getD 0 0), 3)
    | 12 => match o with
      | 0 => (.invokestatic (tl.getD 0 0), 3)
      | 1 => (.invokestatic (tl.getD 0 0), 3)
      | 2 => (.invokestatic (tl.getD 0 0), 3)
      | _ => (.invokespecial (tl.getD 0 0), 3)
    | _ => (.nop, b)
/-! what each instruction asks, and where it goes on -/
def e0 (o a : Nat) (v : Int32) (k : List Value → Prop) (st : List Value) : Prop := match o with
  | 0 => k (.int v :: st)
  | 1 => k (.long 31 :: st)
  | 5 => k (.long 113 :: st)
  | 2 => k (.ref (a + 2) :: st)
  | 3 => k (.int 1 :: st)
  | 4 => k (.ref 10 :: st)
  | _ => False
def e1 (o a : Nat) (v : Int32) (k : List (Option Value) → List Value → Prop) (lv : List (Option Value)) (st : List Value) : Prop := match o with
  | 0 => match lget lv a with
    | some (.int x) => k lv (.int x :: st)
    | _ => False
  | 1 => match lget lv a with
    | some (.ref x) => k lv (.ref x :: st)
    | _ => False
  | 2 => match lget lv a with
    | some (.long x) => k lv (.long x :: st)
    | _ => False
  | 3 => match st with
    | .int x :: r => k (lset lv a (.int x)) r
    | _ => False
  | 4 => match st with
    | .ref x :: r => k (lset lv a (.ref x)) r
    | _ => False
  | 5 => match st with
    | .long x :: r => k (lset2 lv a (.long x)) r
    | _ => False
  | 6 => match lget lv a with
    | some (.int x) => k (lset lv a (.int (x + v))) st
    | _ => False
  | _ => False
def e2 (o : Nat) (k : List Value → Prop) (st : List Value) : Prop := match o with
  | 0 => match st with
    | .int y :: .int x :: r => k (.int (x + y) :: r)
    | _ => False
  | 1 => match st with
    | .int y :: .int x :: r => k (.int (x - y) :: r)
    | _ => False
  | 2 => match st with
    | .int y :: .int x :: r => k (.int (x * y) :: r)
    | _ => False
  | 3 => match st with
    | .int y :: .int x :: r => ¬ y = 0 ∧ k (.int (x / y) :: r)
    | _ => False
  | 4 => match st with
    | .int y :: .int x :: r => ¬ y = 0 ∧ k (.int (x - x / y * y) :: r)
    | _ => False
  | 5 => match st with
    | .int x :: r => k (.int (-x) :: r)
    | _ => False
  | 6 => match st with
    | .int y :: .int x :: r => k (.int (x &&& y) :: r)
    | _ => False
  | 7 => match st with
    | .int y :: .int x :: r => k (.int (x ||| y) :: r)
    | _ => False
  | 8 => match st with
    | .int y :: .int x :: r => k (.int (x <<< (y &&& 31)) :: r)
    | _ => False
  | 9 => match st with
    | .int y :: .int x :: r => k (.int (x >>> (y &&& 31)) :: r)
    | _ => False
  | _ => False
def e3 (o : Nat) (k : List Value → Prop) (st : List Value) : Prop := match o with
  | 0 => match st with
    | .int x :: r => k (.long x.toInt64 :: r)
    | _ => False
  | 1 => match st with
    | .long y :: .long x :: r => k (.long (x + y) :: r)
    | _ => False
  | 2 => match st with
    | .long y :: .long x :: r => k (.long (x * y) :: r)
    | _ => False
  | 3 => match st with
    | .long y :: .long x :: r => k (.int (lg_cmp x y) :: r)
    | _ => False
  | 4 => match st with
    | .int x :: r => k (.int (x.toUInt32 % 65536).toInt32 :: r)
    | _ => False
  | _ => False
def e4 (o : Nat) (kT kF : List Value → Prop) (st : List Value) : Prop := match st with
  | .int y :: .int x :: r => match o with
    | 0 => if x = y then kT r else kF r
    | 1 => if x = y then kF r else kT r
    | 2 => if x < y then kT r else kF r
    | 3 => if y ≤ x then kT r else kF r
    | 4 => if y < x then kT r else kF r
    | 5 => if x ≤ y then kT r else kF r
    | _ => False
  | _ => False
def e5 (o : Nat) (kT kF : List Value → Prop) (st : List Value) : Prop := match st with
  | .int x :: r => match o with
    | 0 => if x = 0 then kT r else kF r
    | 1 => if x = 0 then kF r else kT r
    | 2 => if x < 0 then kT r else kF r
    | 3 => if 0 ≤ x then kT r else kF r
    | 4 => if 0 < x then kT r else kF r
    | 5 => if x ≤ 0 then kT r else kF r
    | _ => False
  | _ => False
/-- a table: from 0 on -/
def tsw (k : Nat → Prop) (dflt : Nat) (x : Int32) (i : Nat) (tl : List Nat) : Prop := match tl with
  | [] => k dflt
  | t :: r => if x = nI i then k t else tsw k dflt x (i + 1) r
def e7 (o : Nat) (k : List Value → Prop) (st : List Value) : Prop := match o with
  | 0 => match st with
    | .int x :: r => k (.int x :: .int x :: r)
    | .ref x :: r => k (.ref x :: .ref x :: r)
    | _ => False
  | 1 => match st with
    | .int y :: .ref x :: r => k (.int y :: .ref x :: .int y :: .ref x :: r)
    | _ => False
  | 2 => match st with
    | .int _ :: r => k r
    | .ref _ :: r => k r
    | _ => False
  | _ => False
/-- a text's or its bytes' number -/
def e8 (Z : Zt) (o a b : Nat) (k : List Value → Prop) (st : List Value) (M : Mem) : Prop := match o with
  | 0 => match st with
    | .ref i :: r => isO M i a ∧ k (.int (mI M i b) :: r)
    | _ => False
  | 1 => match st with
    | .ref i :: r => isO M i a ∧ k (.ref (mR M i b) :: r)
    | _ => False
  | 2 => match st with
    | .ref i :: r => isO M i a ∧ k (.int (nI (mR M i b)) :: r)
    | _ => False
  | 3 => match st with
    | .ref i :: r => isO M i a ∧ k (.long (mL M i) :: r)
    | _ => False
  | 4 => match st with
    | .int j :: .ref i :: r => isA M i j ∧ k (.int (mI M i j.toNatClampNeg) :: r)
    | _ => False
  | 5 => match st with
    | .int j :: .ref i :: r => (i < mN M ∧ (kd i).1 = 2 ∧ vp_in j (kd i).2) ∧ k (.ref (mR M i j.toNatClampNeg) :: r)
    | _ => False
  | 6 => match st with
    | .ref i :: r => (i < mN M ∧ (kd i).1 = 1) ∧ k (.int (nI (kd i).2) :: r)
    | _ => False
  | 7 => match st with
    | .ref i :: r => (2 ≤ i ∧ i < 6) ∧ k (.ref (i + 4) :: r)
    | _ => False
  | 8 => match st with
    | .ref i :: r => (2 ≤ i ∧ i < 6) ∧ k (.int 0 :: r)
    | _ => False
  | 9 => match st with
    | .int j :: .ref i :: r => ((6 ≤ i ∧ i < 10) ∧ vp_in j (lenL.getD (i - 6) 0)) ∧ k (.int ((bytL.getD (i - 6) []).getD j.toNatClampNeg 0) :: r)
    | _ => False
  | 10 => match st with
    | .ref i :: r => (6 ≤ i ∧ i < 10) ∧ k (.int (nI (lenL.getD (i - 6) 0)) :: r)
    | _ => False
  | 11 => match st with
    | .int j :: .ref i :: r => (i = 1 ∧ vp_in j (zn Z)) ∧ k (.int (zx Z j.toNatClampNeg) :: r)
    | _ => False
  | 12 => match st with
    | .ref i :: r => i = 1 ∧ k (.int (nI (zn Z)) :: r)
    | _ => False
  | _ => False
def e9 (o : Nat) (Q : Option Value → Mem → Prop) (st : List Value) (M : Mem) : Prop := match o with
  | 0 => match st with
    | [.int v] => Q (some (.int v)) M
    | _ => False
  | 1 => match st with
    | [.int v] => (v = 0 ∨ v = 1) ∧ Q (some (.int v)) M
    | _ => False
  | 2 => match st with
    | [.int v] => (∃ j : Nat, j < 128 ∧ v = nI j) ∧ Q (some (.int v)) M
    | _ => False
  | 3 => match st with
    | [.long v] => Q (some (.long v)) M
    | _ => False
  | 4 => match st with
    | [.ref v] => Q (some (.ref v)) M
    | _ => False
  | 5 => match st with
    | [] => Q none M
    | _ => False
  | _ => False
def e10 (nF o a b : Nat) (k : List Value → Mem → Prop) (st : List Value) (M : Mem) : Prop := match o with
  | 0 => match st with
    | .int v :: .ref i :: r => isO M i a ∧ k r (stI M i b v)
    | _ => False
  | 1 => match st with
    | .ref v :: .ref i :: r => isO M i a ∧ k r (stR M i b v)
    | _ => False
  | 2 => match st with
    | .int v :: .ref i :: r => isO M i a ∧ ∃ n, v = nI n ∧ k r (stR M i b n)
    | _ => False
  | 3 => match st with
    | .long v :: .ref i :: r => isO M i a ∧ k r (stL M i v)
    | _ => False
  | 4 => match st with
    | .int v :: .int j :: .ref i :: r => isA M i j ∧ k r (stI M i j.toNatClampNeg v)
    | _ => False
  | 5 => match st with
    | .ref v :: .int j :: .ref i :: r => ((i < mN M ∧ (kd i).1 = 2 ∧ vp_in j (kd i).2) ∧ isO M v 2) ∧ k r (stR M i j.toNatClampNeg v)
    | _ => False
  | 6 => (kd (mN M) = (a + 3, cW a) ∧ mN M + 1 ≤ nF) ∧ k (.ref (mN M) :: st) (al M)
  | 7 => match st with
    | .int v :: r => ∃ len, (v = nI len ∧ kd (mN M) = (1, len) ∧ len < 100000 ∧ mN M + 1 ≤ nF) ∧ k (.ref (mN M) :: r) (al M)
    | _ => False
  | 8 => match st with
    | .int v :: r => ∃ len, (v = nI len ∧ kd (mN M) = (2, len) ∧ len < 100000 ∧ mN M + 1 ≤ nF) ∧ k (.ref (mN M) :: r) (al M)
    | _ => False
  | _ => False
def e12 (o : Nat) (k : List Value → Mem → Prop) (st : List Value) (M : Mem) : Prop := match o with
  | 0 => match st with
    | .int y :: .int x :: r => wsum r ≤ 8 ∧ k (.int (if x < y then y else x) :: r) M
    | _ => False
  | 1 => match st with
    | .int y :: .int x :: r => wsum r ≤ 8 ∧ k (.int (if y < x then y else x) :: r) M
    | _ => False
  | 2 => match st with
    | .int vn :: .int vd :: .ref b :: .int vs :: .ref a :: r => ∃ n dp sp : Nat, (vn = nI n ∧ vd = nI dp ∧ vs = nI sp ∧ sp < 2 ^ 31 ∧ dp < 2 ^ 31 ∧ n < 2 ^ 31 ∧ wsum r ≤ 8 ∧ (a < mN M ∧ (kd a).1 = 1) ∧ (b < mN M ∧ (kd b).1 = 1) ∧ sp + n ≤ (kd a).2 ∧ dp + n ≤ (kd b).2) ∧ k r (cpI M a sp b dp n)
    | _ => False
  | 3 => match st with
    | .ref a :: r => (16 ≤ a ∧ wsum r ≤ 8) ∧ k r M
    | _ => False
  | _ => False
/-- calls: by the entry that the caller brings -/
def clook (C : List (Nat × Ent)) (k : Nat) : Ent := match C with
  | [] => (fun _ _ => False, fun _ _ _ _ => True)
  | (j, e) :: t => if k = j then e else clook t k
def pcall (e : Ent) (av : List Value) (M : Mem) (K : Option Value → Mem → Prop) : Prop := e.1 av M ∧ ∀ r M', e.2 av M r M' → K r M'
def splitA (n : Nat) (st acc : List Value) (K : List Value → List Value → Prop) : Prop := match n, st with
  | 0, st => K acc st
  | _ + 1, [] => False
  | n + 1, v :: r => splitA n r (v :: acc) K
def rcv (o ci : Nat) (M : Mem) (av : List Value) : Prop := match o with
  | 0 => match av with
    | .ref i :: _ => isO M i ci
    | _ => False
  | 3 => match av with
    | .ref i :: _ => 2 ≤ i ∧ i < 6
    | _ => False
  | 4 => match av with
    | .ref i :: _ => 16 ≤ i
    | _ => False
  | 5 => match av with
    | .ref i :: _ => 16 ≤ i
    | _ => False
  | _ => True
def e11 (o ci n : Nat) (e : Ent) (k : List Value → Mem → Prop) (st : List Value) (M : Mem) : Prop := splitA n st [] fun av r => (rcv o ci M av ∧ wsum r ≤ 8) ∧ pcall e av M fun v M' => k (v.toList ++ r) M'
def seek (tgt : Nat) (t : List PI) : List PI := match t with
  | [] => []
  | (pc, i) :: t => if pc = tgt then (pc, i) :: t else seek tgt t
def inS (S : List Nat) (pc : Nat) : Bool := match S with
  | [] => false
  | s :: S => if pc = s then true else inS S pc
abbrev Kt : Type := List (Option Value) → List Value → Mem → Prop
def go (S : List Nat) (Kx : Nat → Kt) (rn : List PI → Kt) (t : List PI) : Kt := fun lv st M => match t with
  | [] => False
  | (pc, i) :: t => if inS S pc = true then Kx pc lv st M else rn ((pc, i) :: t) lv st M
def jmp (S : List Nat) (Kx : Nat → Kt) (rn : List PI → Kt) (pc tgt : Nat) (t : List PI) : Kt := if tgt ≤ pc then Kx tgt else go S Kx rn (seek tgt t)
def run (Z : Zt) (nF : Nat) (C : List (Nat × Ent)) (S : List Nat) (Kx : Nat → Kt) (Q : Option Value → Mem → Prop) : Nat → List PI → Kt
  | 0, _ => fun _ _ _ => False
  | _, [] => fun _ _ _ => False
  | f + 1, (pc, g, o, a, b, v, tl) :: t => fun lv st M => match g with
    | 0 => e0 o a v (fun st' => go S Kx (run Z nF C S Kx Q f) t lv st' M) st
    | 1 => e1 o a v (fun lv' st' => go S Kx (run Z nF C S Kx Q f) t lv' st' M) lv st
    | 2 => e2 o (fun st' => go S Kx (run Z nF C S Kx Q f) t lv st' M) st
    | 3 => e3 o (fun st' => go S Kx (run Z nF C S Kx Q f) t lv st' M) st
    | 4 => e4 o (fun st' => jmp S Kx (run Z nF C S Kx Q f) pc a t lv st' M) (fun st' => go S Kx (run Z nF C S Kx Q f) t lv st' M) st
    | 5 => e5 o (fun st' => jmp S Kx (run Z nF C S Kx Q f) pc a t lv st' M) (fun st' => go S Kx (run Z nF C S Kx Q f) t lv st' M) st
    | 6 => match o with
      | 0 => jmp S Kx (run Z nF C S Kx Q f) pc a t lv st M
      | 1 => match st with
        | .int x :: r => tsw (fun tgt => jmp S Kx (run Z nF C S Kx Q f) pc tgt t lv r M) a x 0 tl
        | _ => False
      | _ => False
    | 7 => e7 o (fun st' => go S Kx (run Z nF C S Kx Q f) t lv st' M) st
    | 8 => e8 Z o a b (fun st' => go S Kx (run Z nF C S Kx Q f) t lv st' M) st M
    | 9 => e9 o Q st M
    | 10 => e10 nF o a b (fun st' M' => go S Kx (run Z nF C S Kx Q f) t lv st' M') st M
    | 11 => e11 o a (tl.getD 1 0) (clook C b) (fun st' M' => go S Kx (run Z nF C S Kx Q f) t lv st' M') st M
    | 12 => e12 o (fun st' M' => go S Kx (run Z nF C S Kx Q f) t lv st' M') st M
    | _ => False
end
section
/-! the methods: name, bytes, locals, answer; printed by gen.py -/
def s_C_init : Sig := (⟨"LimitBank$Claims", "<init>", "(I)V"⟩, prog_2_method_1_code, 2, none)
def s_B_copy : Sig := (⟨"LimitBank", "copy", "([I[I)V"⟩, prog_1_method_41_code, 2, none)
def s_C_copyRows : Sig := (⟨"LimitBank$Claims", "copyRows", "(LLimitBank$Claims;)V"⟩, prog_2_method_2_code, 2, none)
def s_C_isFull : Sig := (⟨"LimitBank$Claims", "isFull", "()Z"⟩, prog_2_method_3_code, 1, (some .boolean))
def s_B_within : Sig := (⟨"LimitBank", "within", "(III)Z"⟩, prog_1_method_37_code, 3, (some .boolean))
def s_C_cell : Sig := (⟨"LimitBank$Claims", "cell", "(II)I"⟩, prog_2_method_4_code, 3, (some .int))
def s_C_add : Sig := (⟨"LimitBank$Claims", "add", "([II)V"⟩, prog_2_method_5_code, 5, none)
def s_C_addRowOf : Sig := (⟨"LimitBank$Claims", "addRowOf", "(LLimitBank$Claims;II)V"⟩, prog_2_method_6_code, 6, none)
def s_C_remove : Sig := (⟨"LimitBank$Claims", "remove", "(I)V"⟩, prog_2_method_7_code, 3, none)
def s_C_countOf : Sig := (⟨"LimitBank$Claims", "countOf", "(I)I"⟩, prog_2_method_9_code, 4, (some .int))
def s_C_firstWith : Sig := (⟨"LimitBank$Claims", "firstWith", "(II)I"⟩, prog_2_method_11_code, 4, (some .int))
def s_C_rowOf : Sig := (⟨"LimitBank$Claims", "rowOf", "(I)I"⟩, prog_2_method_10_code, 2, (some .int))
def s_L_init : Sig := (⟨"LimitBank$Ledger", "<init>", "()V"⟩, prog_4_method_1_code, 2, none)
def s_H_init : Sig := (⟨"LimitBank$History", "<init>", "()V"⟩, prog_3_method_1_code, 2, none)
def s_H_dropOldest : Sig := (⟨"LimitBank$History", "dropOldest", "()V"⟩, prog_3_method_4_code, 3, none)
def s_L_copyFrom : Sig := (⟨"LimitBank$Ledger", "copyFrom", "(LLimitBank$Ledger;)V"⟩, prog_4_method_2_code, 2, none)
def s_H_keep : Sig := (⟨"LimitBank$History", "keep", "(LLimitBank$Ledger;)V"⟩, prog_3_method_2_code, 2, none)
def s_H_restore : Sig := (⟨"LimitBank$History", "restore", "(LLimitBank$Ledger;)V"⟩, prog_3_method_3_code, 2, none)
def s_L_hasTenant : Sig := (⟨"LimitBank$Ledger", "hasTenant", "(I)Z"⟩, prog_4_method_3_code, 2, (some .boolean))
def s_B_isResource : Sig := (⟨"LimitBank", "isResource", "(I)Z"⟩, prog_1_method_38_code, 1, (some .boolean))
def s_L_priceOf : Sig := (⟨"LimitBank$Ledger", "priceOf", "(I)I"⟩, prog_4_method_4_code, 2, (some .int))
def s_B_slot : Sig := (⟨"LimitBank", "slot", "(II)I"⟩, prog_1_method_39_code, 2, (some .int))
def s_L_shareOf : Sig := (⟨"LimitBank$Ledger", "shareOf", "(I)I"⟩, prog_4_method_5_code, 5, (some .int))
def s_L_sumOverTenants : Sig := (⟨"LimitBank$Ledger", "sumOverTenants", "([II)I"⟩, prog_4_method_6_code, 5, (some .int))
def s_L_freePart : Sig := (⟨"LimitBank$Ledger", "freePart", "(II)I"⟩, prog_4_method_8_code, 4, (some .int))
def s_L_fits : Sig := (⟨"LimitBank$Ledger", "fits", "(I)Z"⟩, prog_4_method_13_code, 6, (some .boolean))
def s_L_nextDemand : Sig := (⟨"LimitBank$Ledger", "nextDemand", "()I"⟩, prog_4_method_12_code, 6, (some .int))
def s_L_addUse : Sig := (⟨"LimitBank$Ledger", "addUse", "(LLimitBank$Claims;II)V"⟩, prog_4_method_17_code, 7, none)
def s_L_serve : Sig := (⟨"LimitBank$Ledger", "serve", "(I)I"⟩, prog_4_method_14_code, 3, (some .int))
def s_L_serveAll : Sig := (⟨"LimitBank$Ledger", "serveAll", "([I)I"⟩, prog_4_method_15_code, 4, (some .int))
def s_L_endGrant : Sig := (⟨"LimitBank$Ledger", "endGrant", "(I)V"⟩, prog_4_method_16_code, 2, none)
def s_L_placeOf : Sig := (⟨"LimitBank$Ledger", "placeOf", "(I)I"⟩, prog_4_method_20_code, 3, (some .int))
def s_L_isBankrupt : Sig := (⟨"LimitBank$Ledger", "isBankrupt", "(I)Z"⟩, prog_4_method_18_code, 2, (some .boolean))
def s_V_init : Sig := (⟨"LimitBank$VectorText", "<init>", "()V"⟩, prog_5_method_1_code, 1, none)
def s_V_append : Sig := (⟨"LimitBank$VectorText", "append", "(I)Z"⟩, prog_5_method_2_code, 2, (some .boolean))
def s_V_hasUnits : Sig := (⟨"LimitBank$VectorText", "hasUnits", "()Z"⟩, prog_5_method_3_code, 2, (some .boolean))
def s_V_byteAt : Sig := (⟨"LimitBank$VectorText", "byteAt", "(I)I"⟩, prog_5_method_5_code, 2, (some .int))
def s_V_afterBlanks : Sig := (⟨"LimitBank$VectorText", "afterBlanks", "(I)I"⟩, prog_5_method_7_code, 3, (some .int))
def s_V_afterLetters : Sig := (⟨"LimitBank$VectorText", "afterLetters", "(I)I"⟩, prog_5_method_8_code, 3, (some .int))
def s_V_nameOf : Sig := (⟨"LimitBank$VectorText", "nameOf", "(I)Ljava/lang/String;"⟩, prog_5_method_12_code, 1, (some (.object "java/lang/String")))
def s_S_coder : Sig := (⟨"java/lang/String", "coder", "()B"⟩, prog_9_method_152_code, 1, (some .byte))
def s_S_length : Sig := (⟨"java/lang/String", "length", "()I"⟩, prog_9_method_54_code, 1, (some .int))
def s_S_isLatin1 : Sig := (⟨"java/lang/String", "isLatin1", "()Z"⟩, prog_9_method_154_code, 1, (some .boolean))
def s_P_checkIndex : Sig := (⟨"jdk/internal/util/Preconditions", "checkIndex", "(IILjava/util/function/BiFunction;)I"⟩, prog_13_method_11_code, 3, (some .int))
def s_S_checkIndex : Sig := (⟨"java/lang/String", "checkIndex", "(II)V"⟩, prog_9_method_155_code, 2, none)
def s_S1_charAt : Sig := (⟨"java/lang/StringLatin1", "charAt", "([BI)C"⟩, prog_10_method_2_code, 2, (some .char))
def s_S_charAt : Sig := (⟨"java/lang/String", "charAt", "(I)C"⟩, prog_9_method_56_code, 2, (some .char))
def s_V_isBetween : Sig := (⟨"LimitBank$VectorText", "isBetween", "(Ljava/lang/String;II)Z"⟩, prog_5_method_11_code, 5, (some .boolean))
def s_V_nameBetween : Sig := (⟨"LimitBank$VectorText", "nameBetween", "(II)I"⟩, prog_5_method_10_code, 4, (some .int))
def s_V_isDigit : Sig := (⟨"LimitBank$VectorText", "isDigit", "(I)Z"⟩, prog_5_method_6_code, 2, (some .boolean))
def s_V_numberBetween : Sig := (⟨"LimitBank$VectorText", "numberBetween", "(II)I"⟩, prog_5_method_9_code, 5, (some .int))
def s_V_read : Sig := (⟨"LimitBank$VectorText", "read", "()I"⟩, prog_5_method_4_code, 6, (some .int))
def s_B_init : Sig := (⟨"LimitBank", "<init>", "()V"⟩, prog_1_method_1_code, 1, none)
def s_B_type : Sig := (⟨"LimitBank", "type", "(I)I"⟩, prog_1_method_2_code, 2, (some .int))
def s_B_clearText : Sig := (⟨"LimitBank", "clearText", "()I"⟩, prog_1_method_3_code, 2, (some .int))
def s_B_fault : Sig := (⟨"LimitBank", "fault", "()I"⟩, prog_1_method_4_code, 1, (some .int))
def s_B_setResource : Sig := (⟨"LimitBank", "setResource", "(IZI)I"⟩, prog_1_method_5_code, 6, (some .int))
def s_B_addTenant : Sig := (⟨"LimitBank", "addTenant", "(I)I"⟩, prog_1_method_7_code, 3, (some .int))
def s_B_setLimit : Sig := (⟨"LimitBank", "setLimit", "(III)I"⟩, prog_1_method_9_code, 6, (some .int))
def s_B_demand : Sig := (⟨"LimitBank", "demand", "(I)I"⟩, prog_1_method_10_code, 2, (some .int))
def s_B_withdraw : Sig := (⟨"LimitBank", "withdraw", "(I)I"⟩, prog_1_method_11_code, 3, (some .int))
def s_B_grant : Sig := (⟨"LimitBank", "grant", "()I"⟩, prog_1_method_12_code, 2, (some .int))
def s_B_grantAll : Sig := (⟨"LimitBank", "grantAll", "()I"⟩, prog_1_method_13_code, 1, (some .int))
def s_B_release : Sig := (⟨"LimitBank", "release", "(I)I"⟩, prog_1_method_14_code, 3, (some .int))
def s_B_undo : Sig := (⟨"LimitBank", "undo", "()I"⟩, prog_1_method_19_code, 1, (some .int))
def s_B_resource : Sig := (⟨"LimitBank", "resource", "(II)I"⟩, prog_1_method_20_code, 3, (some .int))
def s_B_tenant : Sig := (⟨"LimitBank", "tenant", "(II)I"⟩, prog_1_method_21_code, 3, (some .int))
def s_B_account : Sig := (⟨"LimitBank", "account", "(III)I"⟩, prog_1_method_22_code, 5, (some .int))
def s_B_granted : Sig := (⟨"LimitBank", "granted", "(II)I"⟩, prog_1_method_23_code, 3, (some .int))
def s_B_demanded : Sig := (⟨"LimitBank", "demanded", "(II)I"⟩, prog_1_method_24_code, 3, (some .int))
def s_B_makePlan : Sig := (⟨"LimitBank", "makePlan", "()I"⟩, prog_1_method_34_code, 1, (some .int))
def s_B_plan : Sig := (⟨"LimitBank", "plan", "(I)I"⟩, prog_1_method_25_code, 3, (some .int))
def s_B_count : Sig := (⟨"LimitBank", "count", "(I)I"⟩, prog_1_method_28_code, 2, (some .int))
def s_W_cell : Sig := (⟨"LimitBankLaw", "cell", "([II)I"⟩, method_2_code, 2, (some .int))
def s_W_low : Sig := (⟨"LimitBankLaw", "low", "(II)I"⟩, method_3_code, 2, (some .int))
def s_W_units : Sig := (⟨"LimitBankLaw", "units", "(II)I"⟩, method_4_code, 2, (some .int))
def s_W_use : Sig := (⟨"LimitBankLaw", "use", "([III)I"⟩, method_5_code, 5, (some .int))
def s_W_price : Sig := (⟨"LimitBankLaw", "price", "([I[II)I"⟩, method_6_code, 3, (some .int))
def s_W_share : Sig := (⟨"LimitBankLaw", "share", "([I[II)I"⟩, method_7_code, 6, (some .int))
def s_W_typesNumber : Sig := (⟨"LimitBankLaw", "typesNumber", "(LLimitBank;I)Z"⟩, method_8_code, 2, (some .boolean))
def s_W_typesName : Sig := (⟨"LimitBankLaw", "typesName", "(LLimitBank;I)Z"⟩, method_9_code, 6, (some .boolean))
def s_W_types : Sig := (⟨"LimitBankLaw", "types", "(LLimitBank;II)Z"⟩, method_10_code, 7, (some .boolean))
def s_W_vector : Sig := (⟨"LimitBankLaw", "vector", "(I)I"⟩, method_11_code, 3, (some .int))
def s_W_addsTenant : Sig := (⟨"LimitBankLaw", "addsTenant", "(LLimitBank;[II)Z"⟩, method_12_code, 5, (some .boolean))
def s_W_setsResource : Sig := (⟨"LimitBankLaw", "setsResource", "(LLimitBank;[I[IIZI)Z"⟩, method_13_code, 8, (some .boolean))
def s_W_setsLimit : Sig := (⟨"LimitBankLaw", "setsLimit", "(LLimitBank;[I[IIII)Z"⟩, method_14_code, 8, (some .boolean))
def s_W_demands : Sig := (⟨"LimitBankLaw", "demands", "(LLimitBank;[I[IIII)Z"⟩, method_15_code, 7, (some .boolean))
def s_W_firstOf : Sig := (⟨"LimitBankLaw", "firstOf", "([II)I"⟩, method_16_code, 3, (some .int))
def s_W_next : Sig := (⟨"LimitBankLaw", "next", "([I[I[I)I"⟩, method_17_code, 10, (some .int))
def s_W_drops : Sig := (⟨"LimitBankLaw", "drops", "([II)V"⟩, method_18_code, 3, none)
def s_W_grants : Sig := (⟨"LimitBankLaw", "grants", "([I[I[II)I"⟩, method_19_code, 5, (some .int))
def s_W_ends : Sig := (⟨"LimitBankLaw", "ends", "([II)V"⟩, method_20_code, 3, none)
def s_W_isTold : Sig := (⟨"LimitBankLaw", "isTold", "(LLimitBank;[I[I[I)Z"⟩, method_21_code, 10, (some .boolean))
def s_W_areGrants : Sig := (⟨"LimitBankLaw", "areGrants", "(LLimitBank;[I[I)Z"⟩, method_22_code, 5, (some .boolean))
def s_W_copies : Sig := (⟨"LimitBankLaw", "copies", "([I[I)V"⟩, method_23_code, 3, none)
def s_W_isPlanned : Sig := (⟨"LimitBankLaw", "isPlanned", "(LLimitBank;[I[I[I)Z"⟩, method_24_code, 9, (some .boolean))
def s_W_isGranted : Sig := (⟨"LimitBankLaw", "isGranted", "(LLimitBank;[I[I[IZ)Z"⟩, method_25_code, 7, (some .boolean))
def sgl : List Sig := [s_C_init, s_B_copy, s_C_copyRows, s_C_isFull, s_B_within, s_C_cell, s_C_add, s_C_addRowOf, s_C_remove, s_C_countOf, s_C_firstWith, s_C_rowOf, s_L_init, s_H_init, s_H_dropOldest, s_L_copyFrom, s_H_keep, s_H_restore, s_L_hasTenant, s_B_isResource, s_L_priceOf, s_B_slot, s_L_shareOf, s_L_sumOverTenants, s_L_freePart, s_L_fits, s_L_nextDemand, s_L_addUse, s_L_serve, s_L_serveAll, s_L_endGrant, s_L_placeOf, s_L_isBankrupt, s_V_init, s_V_append, s_V_hasUnits, s_V_byteAt, s_V_afterBlanks, s_V_afterLetters, s_V_nameOf, s_S_coder, s_S_length, s_S_isLatin1, s_P_checkIndex, s_S_checkIndex, s_S1_charAt, s_S_charAt, s_V_isBetween, s_V_nameBetween, s_V_isDigit, s_V_numberBetween, s_V_read, s_B_init, s_B_type, s_B_clearText, s_B_fault, s_B_setResource, s_B_addTenant, s_B_setLimit, s_B_demand, s_B_withdraw, s_B_grant, s_B_grantAll, s_B_release, s_B_undo, s_B_resource, s_B_tenant, s_B_account, s_B_granted, s_B_demanded, s_B_makePlan, s_B_plan, s_B_count, s_W_cell, s_W_low, s_W_units, s_W_use, s_W_price, s_W_share, s_W_typesNumber, s_W_typesName, s_W_types, s_W_vector, s_W_addsTenant, s_W_setsResource, s_W_setsLimit, s_W_demands, s_W_firstOf, s_W_next, s_W_drops, s_W_grants, s_W_ends, s_W_isTold, s_W_areGrants, s_W_copies, s_W_isPlanned, s_W_isGranted]
def sgt (k : Nat) : Sig := sgl.getD k s_C_init
abbrev i_C_init : Nat := 0
abbrev i_B_copy : Nat := 1
abbrev i_C_copyRows : Nat := 2
abbrev i_C_isFull : Nat := 3
abbrev i_B_within : Nat := 4
abbrev i_C_cell : Nat := 5
abbrev i_C_add : Nat := 6
abbrev i_C_addRowOf : Nat := 7
abbrev i_C_remove : Nat := 8
abbrev i_C_countOf : Nat := 9
abbrev i_C_firstWith : Nat := 10
abbrev i_C_rowOf : Nat := 11
abbrev i_L_init : Nat := 12
abbrev i_H_init : Nat := 13
abbrev i_H_dropOldest : Nat := 14
abbrev i_L_copyFrom : Nat := 15
abbrev i_H_keep : Nat := 16
abbrev i_H_restore : Nat := 17
abbrev i_L_hasTenant : Nat := 18
abbrev i_B_isResource : Nat := 19
abbrev i_L_priceOf : Nat := 20
abbrev i_B_slot : Nat := 21
abbrev i_L_shareOf : Nat := 22
abbrev i_L_sumOverTenants : Nat := 23
abbrev i_L_freePart : Nat := 24
abbrev i_L_fits : Nat := 25
abbrev i_L_nextDemand : Nat := 26
abbrev i_L_addUse : Nat := 27
abbrev i_L_serve : Nat := 28
abbrev i_L_serveAll : Nat := 29
abbrev i_L_endGrant : Nat := 30
abbrev i_L_placeOf : Nat := 31
abbrev i_L_isBankrupt : Nat := 32
abbrev i_V_init : Nat := 33
abbrev i_V_append : Nat := 34
abbrev i_V_hasUnits : Nat := 35
abbrev i_V_byteAt : Nat := 36
abbrev i_V_afterBlanks : Nat := 37
abbrev i_V_afterLetters : Nat := 38
abbrev i_V_nameOf : Nat := 39
abbrev i_S_coder : Nat := 40
abbrev i_S_length : Nat := 41
abbrev i_S_isLatin1 : Nat := 42
abbrev i_P_checkIndex : Nat := 43
abbrev i_S_checkIndex : Nat := 44
abbrev i_S1_charAt : Nat := 45
abbrev i_S_charAt : Nat := 46
abbrev i_V_isBetween : Nat := 47
abbrev i_V_nameBetween : Nat := 48
abbrev i_V_isDigit : Nat := 49
abbrev i_V_numberBetween : Nat := 50
abbrev i_V_read : Nat := 51
abbrev i_B_init : Nat := 52
abbrev i_B_type : Nat := 53
abbrev i_B_clearText : Nat := 54
abbrev i_B_fault : Nat := 55
abbrev i_B_setResource : Nat := 56
abbrev i_B_addTenant : Nat := 57
abbrev i_B_setLimit : Nat := 58
abbrev i_B_demand : Nat := 59
abbrev i_B_withdraw : Nat := 60
abbrev i_B_grant : Nat := 61
abbrev i_B_grantAll : Nat := 62
abbrev i_B_release : Nat := 63
abbrev i_B_undo : Nat := 64
abbrev i_B_resource : Nat := 65
abbrev i_B_tenant : Nat := 66
abbrev i_B_account : Nat := 67
abbrev i_B_granted : Nat := 68
abbrev i_B_demanded : Nat := 69
abbrev i_B_makePlan : Nat := 70
abbrev i_B_plan : Nat := 71
abbrev i_B_count : Nat := 72
abbrev i_W_cell : Nat := 73
abbrev i_W_low : Nat := 74
abbrev i_W_units : Nat := 75
abbrev i_W_use : Nat := 76
abbrev i_W_price : Nat := 77
abbrev i_W_share : Nat := 78
abbrev i_W_typesNumber : Nat := 79
abbrev i_W_typesName : Nat := 80
abbrev i_W_types : Nat := 81
abbrev i_W_vector : Nat := 82
abbrev i_W_addsTenant : Nat := 83
abbrev i_W_setsResource : Nat := 84
abbrev i_W_setsLimit : Nat := 85
abbrev i_W_demands : Nat := 86
abbrev i_W_firstOf : Nat := 87
abbrev i_W_next : Nat := 88
abbrev i_W_drops : Nat := 89
abbrev i_W_grants : Nat := 90
abbrev i_W_ends : Nat := 91
abbrev i_W_isTold : Nat := 92
abbrev i_W_areGrants : Nat := 93
abbrev i_W_copies : Nat := 94
abbrev i_W_isPlanned : Nat := 95
abbrev i_W_isGranted : Nat := 96
def s_law : Sig := (⟨"LimitBankLaw", "law", "([I)Z"⟩, code, 13, some .boolean)
end
section
/-! ===== what is computed is sound ===== -/
def iF (own : String) (ix a b : Nat) : Cond := .fieldLink own ix (cT a b).1 (cT a b).2.1 (cT a b).2.2.1
def wI (own : String) (x : Ins) : List Cond := match x with
  | (g, o, a, b, v, tl) => match g with
    | 0 => match o with
      | 0 => match b with
        | 0 => []
        | 1 => []
        | 2 => []
        | _ => [.constant own a v]
      | 1 => [.constantLong own a 31]
      | 5 => [.constantLong own a 113]
      | 3 => [.fieldLink own a "java/lang/String" "COMPACT_STRINGS" "Z"]
      | 4 => [.fieldLink own a "jdk/internal/util/Preconditions" "SIOOBE_FORMATTER" "Ljava/util/function/BiFunction;"]
      | _ => []
    | 8 => match o with
      | 0 => [iF own (tl.getD 0 0) a b]
      | 1 => [iF own (tl.getD 0 0) a b]
      | 2 => [iF own (tl.getD 0 0) a b]
      | 3 => [iF own (tl.getD 0 0) a b]
      | 7 => [.fieldLink own (tl.getD 0 0) "java/lang/String" "value" "[B"]
      | 8 => [.fieldLink own (tl.getD 0 0) "java/lang/String" "coder" "B"]
      | _ => []
    | 10 => match o with
      | 0 => [iF own (tl.getD 0 0) a b]
      | 1 => [iF own (tl.getD 0 0) a b]
      | 2 => [iF own (tl.getD 0 0) a b]
      | 3 => [iF own (tl.getD 0 0) a b]
      | 6 => [.classLink own (tl.getD 0 0) (cnm a), .instantiable (cnm a) (cW a), .initialized (cnm a)]
      | 7 => [.arrayClass .int]
      | 8 => [.classLink own (tl.getD 0 0) RX2]
      | _ => []
    | 11 => match o with
      | 0 => [.methodLink own (tl.getD 0 0) (sgt b).1, .instanceMethod (sgt b).1, .selects (sgt b).1.cls (sgt b).1 (sgt b).1, .initialized (sgt b).1.cls, .code (sgt b).1 (sgt b).2.1 (sgt b).2.2.1 (sgt b).2.2.2]
      | 3 => [.methodLink own (tl.getD 0 0) (sgt b).1, .instanceMethod (sgt b).1, .selects (sgt b).1.cls (sgt b).1 (sgt b).1, .initialized (sgt b).1.cls, .code (sgt b).1 (sgt b).2.1 (sgt b).2.2.1 (sgt b).2.2.2]
      | 1 => [.methodLink own (tl.getD 0 0) (sgt b).1, .static (sgt b).1, .initialized (sgt b).1.cls, .code (sgt b).1 (sgt b).2.1 (sgt b).2.2.1 (sgt b).2.2.2]
      | 2 => [.static (sgt b).1, .initialized (sgt b).1.cls, .code (sgt b).1 (sgt b).2.1 (sgt b).2.2.1 (sgt b).2.2.2]
      | 4 => [.methodLink own (tl.getD 0 0) (sgt b).1, .instanceMethod (sgt b).1, .initialized (sgt b).1.cls, .code (sgt b).1 (sgt b).2.1 (sgt b).2.2.1 (sgt b).2.2.2]
      | 5 => [.instanceMethod (sgt b).1, .initialized (sgt b).1.cls, .code (sgt b).1 (sgt b).2.1 (sgt b).2.2.1 (sgt b).2.2.2]
      | _ => []
    | 12 => match o with
      | 0 => [.methodLink own (tl.getD 0 0) Lib.Math.max.name, .static Lib.Math.max.name, .initialized "java/lang/Math", .code Lib.Math.max.name Lib.Math.max.code 2 (some .int)]
      | 1 => [.methodLink own (tl.getD 0 0) Lib.Math.min.name, .static Lib.Math.min.name, .initialized "java/lang/Math", .code Lib.Math.min.name Lib.Math.min.code 2 (some .int)]
      | 2 => [.methodLink own (tl.getD 0 0) arraycopyName, .native arraycopyName, .static arraycopyName, .initialized "java/lang/System"]
      | _ => [.methodLink own (tl.getD 0 0) Lib.objectInit, .instanceMethod Lib.objectInit, .code Lib.objectInit ⟨#[0xb1]⟩ 1 none]
    | _ => []
/-- the nest mates' links -/
def nI_ (own : String) (x : Ins) : List (String × Nat × MethodName × String) := match x with
  | (g, o, _, b, _, tl) => match g with
    | 11 => match o with
      | 2 => [(own, tl.getD 0 0, (sgt b).1, "LimitBank")]
      | 5 => [(own, tl.getD 0 0, (sgt b).1, "LimitBank")]
      | _ => []
    | _ => []
def npar (k : Nat) : Option Nat := (parseMethodDescriptor (sgt k).1.desc).map (fun d => d.parameters.length)
def okN (k : Nat) : Bool := decide ((sgt k).2.2.1 ≤ 17) && decide ((sgt k).1.cls ≠ "java/lang/invoke/MethodHandle") && decide ((sgt k).1.cls ≠ "java/lang/invoke/VarHandle")
/-- what else an instruction needs, decided -/
def sB (sg : Sig) (x : Ins) : Bool := match x with
  | (g, o, a, b, v, tl) => match g with
    | 0 => match o with
      | 0 => match b with
        | 0 => true
        | 1 => decide ((Int8.ofInt v.toInt).toInt32 = v)
        | 2 => decide ((Int16.ofInt v.toInt).toInt32 = v)
        | _ => true
      | 2 => decide (a < 4) && decide (sg.1.cls = RX3)
      | _ => true
    | 1 => match o with
      | 3 => decide (a < sg.2.2.1)
      | 4 => decide (a < sg.2.2.1)
      | 5 => decide (a + 1 < sg.2.2.1)
      | 6 => decide (a < sg.2.2.1)
      | _ => true
    | 6 => match o with
      | 0 => true
      | _ => decide (tl.length < 1000)
    | 8 => match o with
      | 0 => decide (a < 5 ∧ b < cW a ∧ fk a b = 0)
      | 1 => decide (a < 5 ∧ b < cW a ∧ fk a b = 1)
      | 2 => decide (a < 5 ∧ b < cW a ∧ fk a b = 2)
      | 3 => decide (a < 5 ∧ b < cW a ∧ fk a b = 3)
      | _ => true
    | 9 => match o with
      | 0 => decide (sg.2.2.2 = some .int)
      | 1 => decide (sg.2.2.2 = some .boolean)
      | 2 => decide (sg.2.2.2 = some .char ∨ sg.2.2.2 = some .byte)
      | 3 => decide (sg.2.2.2 = some .long)
      | 4 => decide (sg.2.2.2 = some (.object "java/lang/String"))
      | _ => decide (sg.2.2.2 = none)
    | 10 => match o with
      | 0 => decide (a < 5 ∧ b < cW a ∧ fk a b = 0 ∧ (cT a b).2.2.2 = false ∧ cty a b = .int)
      | 1 => decide (a < 5 ∧ b < cW a ∧ fk a b = 1 ∧ (cT a b).2.2.2 = true ∧ sg.1.name = "<init>" ∧ (cT a b).1 = sg.1.cls)
      | 2 => decide (a < 5 ∧ b < cW a ∧ fk a b = 2 ∧ (cT a b).2.2.2 = true ∧ sg.1.name = "<init>" ∧ (cT a b).1 = sg.1.cls)
      | 3 => false
      | 6 => decide (a < 5)
      | _ => true
    | 11 => match o with
      | 0 => okN b && decide (a < 5) && decide ((sgt b).1.cls = cnm a) && decide (0 < tl.getD 1 0) && decide (npar b = some (tl.getD 1 0 - 1))
      | 3 => okN b && decide ((sgt b).1.cls = "java/lang/String") && decide (0 < tl.getD 1 0) && decide (npar b = some (tl.getD 1 0 - 1))
      | 1 => okN b && decide (npar b = some (tl.getD 1 0))
      | 2 => okN b && decide (npar b = some (tl.getD 1 0))
      | 4 => okN b && decide ((sgt b).1.name = "<init>") && decide ((sgt b).2.2.2 = none) && decide (0 < tl.getD 1 0) && decide (npar b = some (tl.getD 1 0 - 1))
      | 5 => okN b && decide ((sgt b).1.name = "<init>") && decide ((sgt b).2.2.2 = none) && decide (0 < tl.getD 1 0) && decide (npar b = some (tl.getD 1 0 - 1))
      | _ => false
    | _ => true
def okB (sg : Sig) (x : PI) : Bool := match x.2.1 with
  | 13 => true
  | _ => decide (decode sg.2.1 x.1 = .ok (jI x.1 x.2)) && sB sg x.2
def okC (sg : Sig) (t : List PI) : Bool := match t with
  | [] => true
  | [x] => okB sg x
  | x :: y :: t => okB sg x && decide (y.1 = x.1 + (jI x.1 x.2).2) && okC sg (y :: t)
def okI (sg : Sig) (x : PI) : Prop := okB sg x = true ∧ (∀ w ∈ wI sg.1.cls x.2, w ∈ WS) ∧ ∀ q ∈ nI_ sg.1.cls x.2, q ∈ nestL
def okP (sg : Sig) (t : List PI) : Prop := match t with
  | [] => True
  | x :: t => okI sg x ∧ (match t with
    | [] => True
    | y :: _ => y.1 = x.1 + (jI x.1 x.2).2) ∧ okP sg t
theorem okP_of {sg : Sig} : ∀ t : List PI, okC sg t = true → (∀ w ∈ t.flatMap (fun x => wI sg.1.cls x.2), w ∈ WS) → (∀ q ∈ t.flatMap (fun x => nI_ sg.1.cls x.2), q ∈ nestL) → okP sg t
  | [], _, _, _ => trivial
  | [x], h, hw, hn => ⟨⟨h, fun w hm => hw w (by simp [hm]), fun q hm => hn q (by simp [hm])⟩, trivial, trivial⟩
  | x :: y :: t, h, hw, hn => by
    simp only [okC, Bool.and_eq_true, decide_eq_true_eq] at h
    refine ⟨⟨h.1.1, fun w hm => hw w (List.mem_flatMap.mpr ⟨x, List.mem_cons_self, hm⟩), fun q hm => hn q (List.mem_flatMap.mpr ⟨x, List.mem_cons_self, hm⟩)⟩, h.1.2, ?_⟩
    exact okP_of (y :: t) h.2 (fun w hm => hw w (by rw [List.flatMap_cons]; exact List.mem_append_right _ hm)) (fun q hm => hn q (by rw [List.flatMap_cons]; exact List.mem_append_right _ hm))
theorem okP_seek {sg : Sig} (tgt : Nat) : ∀ t : List PI, okP sg t → okP sg (seek tgt t)
  | [], _ => trivial
  | (pc, i) :: t, h => by
    unfold seek
    by_cases e : pc = tgt
    · rw [if_pos e]; exact h
    · rw [if_neg e]; exact okP_seek tgt t h.2.2
theorem seek_hd (tgt : Nat) : ∀ (t : List PI) (x : PI) (r : List PI), seek tgt t = x :: r → x.1 = tgt
  | [], x, r, h => by simp [seek] at h
  | (pc, i) :: t, x, r, h => by
    unfold seek at h
    by_cases e : pc = tgt
    · rw [if_pos e] at h
      cases h
      exact e
    · rw [if_neg e] at h
      exact seek_hd tgt t x r h
/-- the entry of a callee holds, below depth d -/
def okE (Z : Zt) (d : Nat) (k : Nat) (e : Ent) : Prop := ∀ av M, e.1 av M → Gm Z d (sgt k) av M (e.2 av M)
theorem clook_ok {Z : Zt} {d : Nat} {C : List (Nat × Ent)} (hC : ∀ q ∈ C, okE Z d q.1 q.2) (k : Nat) : okE Z d k (clook C k) := by
  induction C with
  | nil => intro av M h; exact h.elim
  | cons q t ih =>
    unfold clook
    by_cases e : k = q.1
    · rw [if_pos e, e]
      exact hC q List.mem_cons_self
    · rw [if_neg e]
      exact ih (fun q hq => hC q (List.mem_cons_of_mem _ hq))
theorem splitA_spec {K : List Value → List Value → Prop} : ∀ (n : Nat) (st acc : List Value), splitA n st acc K → ∃ l r, st = l ++ r ∧ l.length = n ∧ K (l.reverse ++ acc) r
  | 0, st, acc, h => ⟨[], st, rfl, rfl, h⟩
  | n + 1, [], acc, h => h.elim
  | n + 1, v :: r, acc, h => by
    obtain ⟨l, r', e1, e2, e3⟩ := splitA_spec n r (v :: acc) h
    exact ⟨v :: l, r', by rw [e1]; rfl, by simp [e2], by simpa using e3⟩
theorem bool_nar {v : Int32} (h : v = 0 ∨ v = 1) : narrow .boolean (.int v) = .int v := by
  rcases h with rfl | rfl <;> rfl
theorem char_nar {j : Nat} (h : j < 128) : narrow .char (.int (nI j)) = .int (nI j) ∧ narrow .byte (.int (nI j)) = .int (nI j) := by
  have : ∀ j, j < 128 → narrow .char (.int (nI j)) = .int (nI j) ∧ narrow .byte (.int (nI j)) = .int (nI j) := by decide +kernel
  exact this j h
theorem sub2 {i : Nat} (h : 2 ≤ i ∧ i < 6) : ∃ j : Nat, j < 4 ∧ i = j + 2 := ⟨i - 2, by omega, by omega⟩
theorem sub6 {i : Nat} (h : 6 ≤ i ∧ i < 10) : ∃ j : Nat, j < 4 ∧ i = j + 6 := ⟨i - 6, by omega, by omega⟩
section XS
variable {Z : Zt} {d : Nat} {sg : Sig} {n0 nF : Nat} {Q : Option Value → Mem → Prop} {pc : Nat} {lv : List (Option Value)} {st : List Value} {M : Mem}
theorem s0 {o a b : Nat} {v : Int32} {tl : List Nat} {k : List Value → Prop} (hi : okB sg (pc, 0, o, a, b, v, tl) = true) (hw : ∀ w ∈ wI sg.1.cls (0, o, a, b, v, tl), w ∈ WS) (hk : ∀ st', k st' → X Z d sg n0 nF Q (pc + (jI pc (0, o, a, b, v, tl)).2) lv st' M) (h : e0 o a v k st) : X Z d sg n0 nF Q pc lv st M := by
  simp only [okB, Bool.and_eq_true, decide_eq_true_eq] at hi
  obtain ⟨hd, hs⟩ := hi
  unfold e0 at h
  split at h
  · match b, hd, hs, hw, hk with
    | 0, hd, hs, hw, hk => exact X_iconst hd (hk _ h)
    | 1, hd, hs, hw, hk => exact X_bipush hd (of_decide_eq_true hs) (hk _ h)
    | 2, hd, hs, hw, hk => exact X_sipush hd (of_decide_eq_true hs) (hk _ h)
    | b + 3, hd, hs, hw, hk => exact X_ldc (hw _ List.mem_cons_self) hd (hk _ h)
  · exact X_ldc2 (hw _ List.mem_cons_self) hd (hk _ h)
  · exact X_ldc2 (hw _ List.mem_cons_self) hd (hk _ h)
  · have hs' : (decide (a < 4) && decide (sg.1.cls = RX3)) = true := hs
    simp only [Bool.and_eq_true, decide_eq_true_eq] at hs'
    exact X_ldcS hs'.1 hs'.2 hd (hk _ h)
  · exact X_compact (hw _ List.mem_cons_self) hd (hk _ h)
  · exact X_format (hw _ List.mem_cons_self) hd (hk _ h)
  · exact h.elim
theorem f4v {a : Nat} (h : a < 4) : ((f4 a : Fin 4) : Nat) = a := by
  unfold f4
  simp [Fin.ofNat]
  omega
theorem s1 {o a b : Nat} {v : Int32} {tl : List Nat} {k : List (Option Value) → List Value → Prop} (hi : okB sg (pc, 1, o, a, b, v, tl) = true) (hk : ∀ lv' st', k lv' st' → X Z d sg n0 nF Q (pc + (jI pc (1, o, a, b, v, tl)).2) lv' st' M) (h : e1 o a v k lv st) : X Z d sg n0 nF Q pc lv st M := by
  simp only [okB, Bool.and_eq_true, decide_eq_true_eq] at hi
  obtain ⟨hd, hs⟩ := hi
  unfold e1 at h
  split at h
  · split at h
    · next hl =>
      by_cases q : a < 4
      · simp only [jI, if_pos q] at hd hk
        exact X_iload_n hd (by rw [f4v q]; exact hl) (hk _ _ h)
      · simp only [jI, if_neg q] at hd hk
        exact X_iload hd hl (hk _ _ h)
    · exact h.elim
  · split at h
    · next hl =>
      by_cases q : a < 4
      · simp only [jI, if_pos q] at hd hk
        exact X_aload_n hd (by rw [f4v q]; exact hl) (hk _ _ h)
      · simp only [jI, if_neg q] at hd hk
        exact X_aload hd hl (hk _ _ h)
    · exact h.elim
  · split at h
    · next hl =>
      by_cases q : a < 4
      · simp only [jI, if_pos q] at hd hk
        exact X_lload_n hd (by rw [f4v q]; exact hl) (hk _ _ h)
      · simp only [jI, if_neg q] at hd hk
        exact X_lload hd hl (hk _ _ h)
    · exact h.elim
  · have hs' : a < sg.2.2.1 := of_decide_eq_true hs
    split at h
    · by_cases q : a < 4
      · simp only [jI, if_pos q] at hd hk
        exact X_istore_n (by rw [f4v q]; exact hs') hd (by rw [f4v q]; exact hk _ _ h)
      · simp only [jI, if_neg q] at hd hk
        exact X_istore hs' hd (hk _ _ h)
    · exact h.elim
  · have hs' : a < sg.2.2.1 := of_decide_eq_true hs
    split at h
    · by_cases q : a < 4
      · simp only [jI, if_pos q] at hd hk
        exact X_astore_n (by rw [f4v q]; exact hs') hd (by rw [f4v q]; exact hk _ _ h)
      · simp only [jI, if_neg q] at hd hk
        exact X_astore hs' hd (hk _ _ h)
    · exact h.elim
  · have hs' : a + 1 < sg.2.2.1 := of_decide_eq_true hs
    split at h
    · by_cases q : a < 4
      · simp only [jI, if_pos q] at hd hk
        exact X_lstore_n (by rw [f4v q]; exact hs') hd (by rw [f4v q]; exact hk _ _ h)
      · simp only [jI, if_neg q] at hd hk
        exact X_lstore hs' hd (hk _ _ h)
    · exact h.elim
  · have hs' : a < sg.2.2.1 := of_decide_eq_true hs
    split at h
    · next hl => exact X_iinc hs' hl hd (hk _ _ h)
    · exact h.elim
  · exact h.elim
theorem s2 {o a b : Nat} {v : Int32} {tl : List Nat} {k : List Value → Prop} (hi : okB sg (pc, 2, o, a, b, v, tl) = true) (hk : ∀ st', k st' → X Z d sg n0 nF Q (pc + (jI pc (2, o, a, b, v, tl)).2) lv st' M) (h : e2 o k st) : X Z d sg n0 nF Q pc lv st M := by
  simp only [okB, Bool.and_eq_true, decide_eq_true_eq] at hi
  obtain ⟨hd, -⟩ := hi
  unfold e2 at h
  split at h
  · split at h
    · exact X_iadd hd (hk _ h)
    · exact h.elim
  · split at h
    · exact X_isub hd (hk _ h)
    · exact h.elim
  · split at h
    · exact X_imul hd (hk _ h)
    · exact h.elim
  · split at h
    · exact X_idiv hd h.1 (hk _ h.2)
    · exact h.elim
  · split at h
    · exact X_irem hd h.1 (hk _ h.2)
    · exact h.elim
  · split at h
    · exact X_ineg hd (hk _ h)
    · exact h.elim
  · split at h
    · exact X_iand hd (hk _ h)
    · exact h.elim
  · split at h
    · exact X_ior hd (hk _ h)
    · exact h.elim
  · split at h
    · exact X_ishl hd (hk _ h)
    · exact h.elim
  · split at h
    · exact X_ishr hd (hk _ h)
    · exact h.elim
  · exact h.elim
theorem s3 {o a b : Nat} {v : Int32} {tl : List Nat} {k : List Value → Prop} (hi : okB sg (pc, 3, o, a, b, v, tl) = true) (hk : ∀ st', k st' → X Z d sg n0 nF Q (pc + (jI pc (3, o, a, b, v, tl)).2) lv st' M) (h : e3 o k st) : X Z d sg n0 nF Q pc lv st M := by
  simp only [okB, Bool.and_eq_true, decide_eq_true_eq] at hi
  obtain ⟨hd, -⟩ := hi
  unfold e3 at h
  split at h
  · split at h
    · exact X_i2l hd (hk _ h)
    · exact h.elim
  · split at h
    · exact X_ladd hd (hk _ h)
    · exact h.elim
  · split at h
    · exact X_lmul hd (hk _ h)
    · exact h.elim
  · split at h
    · exact X_lcmp hd (hk _ h)
    · exact h.elim
  · split at h
    · exact X_i2c hd (hk _ h)
    · exact h.elim
  · exact h.elim
theorem s4 {o a b : Nat} {v : Int32} {tl : List Nat} {kT kF : List Value → Prop} (hi : okB sg (pc, 4, o, a, b, v, tl) = true) (hT : ∀ st', kT st' → X Z d sg n0 nF Q a lv st' M) (hk : ∀ st', kF st' → X Z d sg n0 nF Q (pc + (jI pc (4, o, a, b, v, tl)).2) lv st' M) (h : e4 o kT kF st) : X Z d sg n0 nF Q pc lv st M := by
  simp only [okB, Bool.and_eq_true, decide_eq_true_eq] at hi
  obtain ⟨hd, -⟩ := hi
  unfold e4 at h
  split at h
  · split at h
    · exact X_icmp_eq hd (fun q => by rw [if_pos q] at h; exact hT _ h) (fun q => by rw [if_neg q] at h; exact hk _ h)
    · exact X_icmp_ne hd (fun q => by rw [if_neg q] at h; exact hT _ h) (fun q => by rw [if_pos q] at h; exact hk _ h)
    · exact X_icmp_lt hd (fun q => by rw [if_pos q] at h; exact hT _ h) (fun q => by rw [if_neg q] at h; exact hk _ h)
    · exact X_icmp_ge hd (fun q => by rw [if_pos q] at h; exact hT _ h) (fun q => by rw [if_neg q] at h; exact hk _ h)
    · exact X_icmp_gt hd (fun q => by rw [if_pos q] at h; exact hT _ h) (fun q => by rw [if_neg q] at h; exact hk _ h)
    · exact X_icmp_le hd (fun q => by rw [if_pos q] at h; exact hT _ h) (fun q => by rw [if_neg q] at h; exact hk _ h)
    · exact h.elim
  · exact h.elim
theorem s5 {o a b : Nat} {v : Int32} {tl : List Nat} {kT kF : List Value → Prop} (hi : okB sg (pc, 5, o, a, b, v, tl) = true) (hT : ∀ st', kT st' → X Z d sg n0 nF Q a lv st' M) (hk : ∀ st', kF st' → X Z d sg n0 nF Q (pc + (jI pc (5, o, a, b, v, tl)).2) lv st' M) (h : e5 o kT kF st) : X Z d sg n0 nF Q pc lv st M := by
  simp only [okB, Bool.and_eq_true, decide_eq_true_eq] at hi
  obtain ⟨hd, -⟩ := hi
  unfold e5 at h
  split at h
  · split at h
    · exact X_if_eq hd (fun q => by rw [if_pos q] at h; exact hT _ h) (fun q => by rw [if_neg q] at h; exact hk _ h)
    · exact X_if_ne hd (fun q => by rw [if_neg q] at h; exact hT _ h) (fun q => by rw [if_pos q] at h; exact hk _ h)
    · exact X_if_lt hd (fun q => by rw [if_pos q] at h; exact hT _ h) (fun q => by rw [if_neg q] at h; exact hk _ h)
    · exact X_if_ge hd (fun q => by rw [if_pos q] at h; exact hT _ h) (fun q => by rw [if_neg q] at h; exact hk _ h)
    · exact X_if_gt hd (fun q => by rw [if_pos q] at h; exact hT _ h) (fun q => by rw [if_neg q] at h; exact hk _ h)
    · exact X_if_le hd (fun q => by rw [if_pos q] at h; exact hT _ h) (fun q => by rw [if_neg q] at h; exact hk _ h)
    · exact h.elim
  · exact h.elim
theorem s7 {o a b : Nat} {v : Int32} {tl : List Nat} {k : List Value → Prop} (hi : okB sg (pc, 7, o, a, b, v, tl) = true) (hk : ∀ st', k st' → X Z d sg n0 nF Q (pc + (jI pc (7, o, a, b, v, tl)).2) lv st' M) (h : e7 o k st) : X Z d sg n0 nF Q pc lv st M := by
  simp only [okB, Bool.and_eq_true, decide_eq_true_eq] at hi
  obtain ⟨hd, -⟩ := hi
  unfold e7 at h
  split at h
  · split at h
    · exact X_dup rfl hd (hk _ h)
    · exact X_dup rfl hd (hk _ h)
    · exact h.elim
  · split at h
    · exact X_dup2 rfl rfl hd (hk _ h)
    · exact h.elim
  · split at h
    · exact X_pop rfl hd (hk _ h)
    · exact X_pop rfl hd (hk _ h)
    · exact h.elim
  · exact h.elim
theorem gv0 {i a b : Nat} (h : fk a b = 0) : gval M i a b = .int (mI M i b) := by unfold gval; rw [if_pos h]
theorem gv1 {i a b : Nat} (h : fk a b = 1) : gval M i a b = .ref (mR M i b) := by unfold gval; rw [if_neg (by omega), if_pos h]
theorem gv2 {i a b : Nat} (h : fk a b = 2) : gval M i a b = .int (nI (mR M i b)) := by unfold gval; rw [if_neg (by omega), if_neg (by omega), if_pos h]
theorem gv3 {i a b : Nat} (h : fk a b = 3) : gval M i a b = .long (mL M i) := by unfold gval; rw [if_neg (by omega), if_neg (by omega), if_neg (by omega)]
theorem s8 {o a b : Nat} {v : Int32} {tl : List Nat} {k : List Value → Prop} (hi : okB sg (pc, 8, o, a, b, v, tl) = true) (hw : ∀ w ∈ wI sg.1.cls (8, o, a, b, v, tl), w ∈ WS) (hk : ∀ st', k st' → X Z d sg n0 nF Q (pc + (jI pc (8, o, a, b, v, tl)).2) lv st' M) (h : e8 Z o a b k st M) : X Z d sg n0 nF Q pc lv st M := by
  simp only [okB, Bool.and_eq_true, decide_eq_true_eq] at hi
  obtain ⟨hd, hs⟩ := hi
  unfold e8 at h
  split at h
  · have hs' : a < 5 ∧ b < cW a ∧ fk a b = 0 := of_decide_eq_true hs
    split at h
    · exact X_getf hs'.1 hs'.2.1 (hw _ List.mem_cons_self) hd h.1 (by rw [gv0 hs'.2.2]; exact hk _ h.2)
    · exact h.elim
  · have hs' : a < 5 ∧ b < cW a ∧ fk a b = 1 := of_decide_eq_true hs
    split at h
    · exact X_getf hs'.1 hs'.2.1 (hw _ List.mem_cons_self) hd h.1 (by rw [gv1 hs'.2.2]; exact hk _ h.2)
    · exact h.elim
  · have hs' : a < 5 ∧ b < cW a ∧ fk a b = 2 := of_decide_eq_true hs
    split at h
    · exact X_getf hs'.1 hs'.2.1 (hw _ List.mem_cons_self) hd h.1 (by rw [gv2 hs'.2.2]; exact hk _ h.2)
    · exact h.elim
  · have hs' : a < 5 ∧ b < cW a ∧ fk a b = 3 := of_decide_eq_true hs
    split at h
    · exact X_getf hs'.1 hs'.2.1 (hw _ List.mem_cons_self) hd h.1 (by rw [gv3 hs'.2.2]; exact hk _ h.2)
    · exact h.elim
  · split at h
    · exact X_iald hd h.1 (hk _ h.2)
    · exact h.elim
  · split at h
    · exact X_aald hd h.1.1 h.1.2.1 h.1.2.2 (hk _ h.2)
    · exact h.elim
  · split at h
    · exact X_alen hd h.1.1 h.1.2 (hk _ h.2)
    · exact h.elim
  · split at h
    · next i r =>
      obtain ⟨h1, h3⟩ := h
      obtain ⟨j, hj, rfl⟩ := sub2 h1
      exact X_strV hj (hw _ List.mem_cons_self) hd (hk _ h3)
    · exact h.elim
  · split at h
    · next i r =>
      obtain ⟨h1, h3⟩ := h
      obtain ⟨j, hj, rfl⟩ := sub2 h1
      exact X_strC hj (hw _ List.mem_cons_self) hd (hk _ h3)
    · exact h.elim
  · split at h
    · next jj i r =>
      obtain ⟨⟨h1, h4⟩, h3⟩ := h
      obtain ⟨j, hj, rfl⟩ := sub6 h1
      rw [Nat.add_sub_cancel] at h4 h3
      exact X_bld hj h4 hd (hk _ h3)
    · exact h.elim
  · split at h
    · next i r =>
      obtain ⟨h1, h3⟩ := h
      obtain ⟨j, hj, rfl⟩ := sub6 h1
      rw [Nat.add_sub_cancel] at h3
      exact X_blen hj hd (hk _ h3)
    · exact h.elim
  · split at h
    · obtain ⟨⟨rfl, h4⟩, h3⟩ := h
      exact X_sld hd h4 (hk _ h3)
    · exact h.elim
  · split at h
    · obtain ⟨rfl, h3⟩ := h
      exact X_slen hd (hk _ h3)
    · exact h.elim
  · exact h.elim
theorem s9 {o a b : Nat} {v : Int32} {tl : List Nat} (hi : okB sg (pc, 9, o, a, b, v, tl) = true) (h : e9 o Q st M) : X Z d sg n0 nF Q pc lv st M := by
  simp only [okB, Bool.and_eq_true, decide_eq_true_eq] at hi
  obtain ⟨hd, hs⟩ := hi
  unfold e9 at h
  split at h
  · have hs' : sg.2.2.2 = some .int := of_decide_eq_true hs
    split at h
    · next x => exact X_ret (r := some (.int x)) ⟨hd, _, hs', rfl⟩ h
    · exact h.elim
  · have hs' : sg.2.2.2 = some .boolean := of_decide_eq_true hs
    split at h
    · next x => exact X_ret (r := some (.int x)) ⟨hd, _, hs', bool_nar h.1⟩ h.2
    · exact h.elim
  · have hs' : sg.2.2.2 = some .char ∨ sg.2.2.2 = some .byte := of_decide_eq_true hs
    split at h
    · next x =>
      obtain ⟨⟨j, hj, rfl⟩, h2⟩ := h
      rcases hs' with z | z
      · exact X_ret (r := some (.int (nI j))) ⟨hd, _, z, (char_nar hj).1⟩ h2
      · exact X_ret (r := some (.int (nI j))) ⟨hd, _, z, (char_nar hj).2⟩ h2
    · exact h.elim
  · have hs' : sg.2.2.2 = some .long := of_decide_eq_true hs
    split at h
    · next x => exact X_ret (r := some (.long x)) ⟨hd, hs'⟩ h
    · exact h.elim
  · have hs' : sg.2.2.2 = some (.object "java/lang/String") := of_decide_eq_true hs
    split at h
    · next x => exact X_ret (r := some (.ref x)) ⟨hd, _, hs', Or.inl ⟨_, rfl⟩⟩ h
    · exact h.elim
  · have hs' : sg.2.2.2 = none := of_decide_eq_true hs
    split at h
    · exact X_ret (r := none) ⟨hd, hs'⟩ h
    · exact h.elim
  · exact h.elim
theorem s10 {o a b : Nat} {v : Int32} {tl : List Nat} {k : List Value → Mem → Prop} (hi : okB sg (pc, 10, o, a, b, v, tl) = true) (hw : ∀ w ∈ wI sg.1.cls (10, o, a, b, v, tl), w ∈ WS) (hk : ∀ st' M', k st' M' → X Z d sg n0 nF Q (pc + (jI pc (10, o, a, b, v, tl)).2) lv st' M') (h : e10 nF o a b k st M) : X Z d sg n0 nF Q pc lv st M := by
  simp only [okB, Bool.and_eq_true, decide_eq_true_eq] at hi
  obtain ⟨hd, hs⟩ := hi
  unfold e10 at h
  split at h
  · have hs' : a < 5 ∧ b < cW a ∧ fk a b = 0 ∧ (cT a b).2.2.2 = false ∧ cty a b = .int := of_decide_eq_true hs
    split at h
    · exact X_putI hs'.1 hs'.2.1 hs'.2.2.2.1 hs'.2.2.1 hs'.2.2.2.2 (hw _ List.mem_cons_self) hd h.1 (hk _ _ h.2)
    · exact h.elim
  · have hs' : a < 5 ∧ b < cW a ∧ fk a b = 1 ∧ (cT a b).2.2.2 = true ∧ sg.1.name = "<init>" ∧ (cT a b).1 = sg.1.cls := of_decide_eq_true hs
    split at h
    · exact X_putR hs'.1 hs'.2.1 hs'.2.2.2.1 hs'.2.2.1 hs'.2.2.2.2.1 hs'.2.2.2.2.2 (hw _ List.mem_cons_self) hd h.1 (hk _ _ h.2)
    · exact h.elim
  · have hs' : a < 5 ∧ b < cW a ∧ fk a b = 2 ∧ (cT a b).2.2.2 = true ∧ sg.1.name = "<init>" ∧ (cT a b).1 = sg.1.cls := of_decide_eq_true hs
    split at h
    · obtain ⟨h1, n, rfl, h2⟩ := h
      exact X_putC hs'.1 hs'.2.1 hs'.2.2.2.1 hs'.2.2.1 hs'.2.2.2.2.1 hs'.2.2.2.2.2 (hw _ List.mem_cons_self) hd h1 (hk _ _ h2)
    · exact h.elim
  · exact absurd hs (by decide)
  · split at h
    · exact X_iast hd h.1 (hk _ _ h.2)
    · exact h.elim
  · split at h
    · exact X_aast hd h.1.1.1 h.1.1.2.1 h.1.1.2.2 h.1.2 (hk _ _ h.2)
    · exact h.elim
  · have hs' : a < 5 := of_decide_eq_true hs
    exact X_new hs' (hw _ List.mem_cons_self) (hw _ (List.mem_cons_of_mem _ List.mem_cons_self)) (hw _ (List.mem_cons_of_mem _ (List.mem_cons_of_mem _ List.mem_cons_self))) hd h.1.1 h.1.2 (hk _ _ h.2)
  · split at h
    · obtain ⟨len, ⟨h1, h2, h3, h4⟩, h5⟩ := h
      exact X_newa (hw _ List.mem_cons_self) hd h1 h2 h3 h4 (hk _ _ h5)
    · exact h.elim
  · split at h
    · obtain ⟨len, ⟨h1, h2, h3, h4⟩, h5⟩ := h
      exact X_anew (hw _ List.mem_cons_self) hd h1 h2 h3 h4 (hk _ _ h5)
    · exact h.elim
  · exact h.elim
theorem s12 {o a b : Nat} {v : Int32} {tl : List Nat} {k : List Value → Mem → Prop} (hi : okB sg (pc, 12, o, a, b, v, tl) = true) (hw : ∀ w ∈ wI sg.1.cls (12, o, a, b, v, tl), w ∈ WS) (hk : ∀ st' M', k st' M' → X Z (d + 1) sg n0 nF Q (pc + (jI pc (12, o, a, b, v, tl)).2) lv st' M') (h : e12 o k st M) : X Z (d + 1) sg n0 nF Q pc lv st M := by
  simp only [okB, Bool.and_eq_true, decide_eq_true_eq] at hi
  obtain ⟨hd, hs⟩ := hi
  unfold e12 at h
  split at h
  · split at h
    · exact X_max (hw _ List.mem_cons_self) (hw _ (List.mem_cons_of_mem _ List.mem_cons_self)) (hw _ (List.mem_cons_of_mem _ (List.mem_cons_of_mem _ List.mem_cons_self))) (hw _ (List.mem_cons_of_mem _ (List.mem_cons_of_mem _ (List.mem_cons_of_mem _ List.mem_cons_self)))) hd h.1 (hk _ _ h.2)
    · exact h.elim
  · split at h
    · exact X_min (hw _ List.mem_cons_self) (hw _ (List.mem_cons_of_mem _ List.mem_cons_self)) (hw _ (List.mem_cons_of_mem _ (List.mem_cons_of_mem _ List.mem_cons_self))) (hw _ (List.mem_cons_of_mem _ (List.mem_cons_of_mem _ (List.mem_cons_of_mem _ List.mem_cons_self)))) hd h.1 (hk _ _ h.2)
    · exact h.elim
  · split at h
    · obtain ⟨n, dp, sp, ⟨rfl, rfl, rfl, g1, g2, g3, g4, g5, g6, g7, g8⟩, h2⟩ := h
      exact X_copy (hw _ List.mem_cons_self) (hw _ (List.mem_cons_of_mem _ List.mem_cons_self)) (hw _ (List.mem_cons_of_mem _ (List.mem_cons_of_mem _ List.mem_cons_self))) (hw _ (List.mem_cons_of_mem _ (List.mem_cons_of_mem _ (List.mem_cons_of_mem _ List.mem_cons_self)))) hd g4 g5.1 g5.2 g6.1 g6.2 g7 g8 g1 g2 g3 (hk _ _ h2)
    · exact h.elim
  · split at h
    · exact X_objI h.1.1 (hw _ List.mem_cons_self) (hw _ (List.mem_cons_of_mem _ List.mem_cons_self)) (hw _ (List.mem_cons_of_mem _ (List.mem_cons_of_mem _ List.mem_cons_self))) hd h.1.2 (hk _ _ h.2)
    · exact h.elim
  · exact h.elim
end XS
theorem okN_spec {k : Nat} (h : okN k = true) : (sgt k).2.2.1 ≤ 17 ∧ (sgt k).1.cls ≠ "java/lang/invoke/MethodHandle" ∧ (sgt k).1.cls ≠ "java/lang/invoke/VarHandle" := by
  simp only [okN, Bool.and_eq_true, decide_eq_true_eq] at h
  exact ⟨h.1.1, h.1.2, h.2⟩
theorem rev_cons_of {l : List Value} {n : Nat} (hl : l.length = n) (h : 0 < n) : ∃ (l' : List Value) (v : Value), l = l' ++ [v] ∧ l'.length = n - 1 ∧ l.reverse = v :: l'.reverse := by
  obtain ⟨w, t, e⟩ : ∃ w t, l.reverse = w :: t := by
    cases e : l.reverse with
    | nil => have := congrArg List.length e; simp at this; rw [this] at hl; simp at hl; omega
    | cons w t => exact ⟨w, t, rfl⟩
  refine ⟨t.reverse, w, ?_, ?_, ?_⟩
  · have := congrArg List.reverse e
    rw [List.reverse_reverse, List.reverse_cons] at this
    exact this
  · have := congrArg List.length e
    simp at this ⊢
    omega
  · rw [e, List.reverse_reverse]
theorem tsw_spec {k : Nat → Prop} {dflt : Nat} : ∀ (tl : List Nat) (x : Int32) (i : Nat), tsw k dflt x i tl → (∃ j t, tl[j]? = some t ∧ x = nI (i + j) ∧ k t) ∨ ((∀ j, j < tl.length → ¬ x = nI (i + j)) ∧ k dflt)
  | [], x, i, h => Or.inr ⟨fun j hj => by simp at hj, h⟩
  | t :: r, x, i, h => by
    unfold tsw at h
    by_cases q : x = nI i
    · rw [if_pos q] at h
      exact Or.inl ⟨0, t, rfl, q, h⟩
    · rw [if_neg q] at h
      rcases tsw_spec r x (i + 1) h with ⟨j, t', h1, h2, h3⟩ | ⟨h1, h2⟩
      · exact Or.inl ⟨j + 1, t', by simpa using h1, by rw [h2, show i + 1 + j = i + (j + 1) by omega], h3⟩
      · refine Or.inr ⟨fun j hj => ?_, h2⟩
        cases j with
        | zero => exact q
        | succ j =>
          have := h1 j (by simp at hj; omega)
          rw [show i + 1 + j = i + (j + 1) by omega] at this
          exact this
section XS2
variable {Z : Zt} {d : Nat} {sg : Sig} {n0 nF : Nat} {Q : Option Value → Mem → Prop} {pc : Nat} {lv : List (Option Value)} {st : List Value} {M : Mem}
theorem X_le {pc : Nat} (h : mN M ≤ nF → X Z d sg n0 nF Q pc lv st M) : X Z d sg n0 nF Q pc lv st M := by
  intro p e R s m args below meth c Qe H locs la hF h1 h2 h3 h4 hR hS hL hE
  exact h h4 p e R s m args below meth c Qe H locs la hF h1 h2 h3 h4 hR hS hL hE
theorem s11 {o a b : Nat} {v : Int32} {tl : List Nat} {e : Ent} {k : List Value → Mem → Prop} (hC : okE Z d b e) (hi : okB sg (pc, 11, o, a, b, v, tl) = true) (hw : ∀ w ∈ wI sg.1.cls (11, o, a, b, v, tl), w ∈ WS) (hn : ∀ q ∈ nI_ sg.1.cls (11, o, a, b, v, tl), q ∈ nestL) (hk : ∀ st' M', k st' M' → X Z (d + 1) sg n0 nF Q (pc + (jI pc (11, o, a, b, v, tl)).2) lv st' M') (h : e11 o a (tl.getD 1 0) e k st M) : X Z (d + 1) sg n0 nF Q pc lv st M := by
  simp only [okB, Bool.and_eq_true, decide_eq_true_eq] at hi
  obtain ⟨hd, hs⟩ := hi
  obtain ⟨l, rest, rfl, hl, ⟨hr, hws⟩, hpre, hpost⟩ := splitA_spec _ _ _ h
  rw [List.append_nil] at hr hpre hpost
  refine X_le fun hle => ?_
  clear h
  revert hd hs hw hn hk hr
  match o with
  | 0 =>
    intro hw hn hk hd hs hr
    simp only [sB, Bool.and_eq_true, decide_eq_true_eq] at hs
    obtain ⟨⟨⟨⟨h0, h1⟩, h2⟩, h3⟩, h4⟩ := hs
    obtain ⟨g1, g2, g3⟩ := okN_spec h0
    obtain ⟨l', w, e1, e2, e3⟩ := rev_cons_of hl h3
    rw [e3] at hr hpre hpost
    subst e1
    cases w with
    | ref i =>
      have := X_callV (d := d) (n0 := n0) (nF := nF) (Q := Q) (lv := lv) (sg := sg) (pc := pc) (av := l'.reverse) (rest := rest) h1 h2 g1 ⟨g2, g3⟩ h4 (by simpa using e2) (hw _ (by simp [wI])) (hw _ (by simp [wI])) (hw _ (by simp [wI])) (hw _ (by simp [wI])) (hw _ (by simp [wI])) hd hws hr (hC _ _ hpre) hle (fun r M' hq _ => hk _ _ (hpost r M' hq))
      rw [List.reverse_reverse] at this
      rw [List.append_assoc]
      exact this
    | _ => exact hr.elim
  | 1 =>
    intro hw hn hk hd hs hr
    simp only [sB, Bool.and_eq_true, decide_eq_true_eq] at hs
    obtain ⟨h0, h4⟩ := hs
    obtain ⟨g1, g2, g3⟩ := okN_spec h0
    have := X_callS (d := d) (n0 := n0) (nF := nF) (Q := Q) (lv := lv) (sg := sg) (pc := pc) (av := l.reverse) (rest := rest) g1 ⟨g2, g3⟩ h4 (by simpa using hl) (hw _ (by simp [wI])) (hw _ (by simp [wI])) (hw _ (by simp [wI])) (hw _ (by simp [wI])) hd hws (hC _ _ hpre) hle (fun r M' hq _ => hk _ _ (hpost r M' hq))
    rw [List.reverse_reverse] at this
    exact this
  | 2 =>
    intro hw hn hk hd hs hr
    simp only [sB, Bool.and_eq_true, decide_eq_true_eq] at hs
    obtain ⟨h0, h4⟩ := hs
    obtain ⟨g1, g2, g3⟩ := okN_spec h0
    have := X_callSN (host := "LimitBank") (d := d) (n0 := n0) (nF := nF) (Q := Q) (lv := lv) (sg := sg) (pc := pc) (av := l.reverse) (rest := rest) g1 ⟨g2, g3⟩ h4 (by simpa using hl) (hn _ (by simp [nI_])) (hw _ (by simp [wI])) (hw _ (by simp [wI])) (hw _ (by simp [wI])) hd hws (hC _ _ hpre) hle (fun r M' hq _ => hk _ _ (hpost r M' hq))
    rw [List.reverse_reverse] at this
    exact this
  | 3 =>
    intro hw hn hk hd hs hr
    simp only [sB, Bool.and_eq_true, decide_eq_true_eq] at hs
    obtain ⟨⟨⟨h0, h1⟩, h3⟩, h4⟩ := hs
    obtain ⟨g1, g2, g3⟩ := okN_spec h0
    obtain ⟨l', w, e1, e2, e3⟩ := rev_cons_of hl h3
    rw [e3] at hr hpre hpost
    subst e1
    cases w with
    | ref i =>
      obtain ⟨j, hj, rfl⟩ := sub2 hr
      have := X_callT (d := d) (n0 := n0) (nF := nF) (Q := Q) (lv := lv) (sg := sg) (pc := pc) (av := l'.reverse) (rest := rest) hj h1 g1 h4 (by simpa using e2) (hw _ (by simp [wI])) (hw _ (by simp [wI])) (hw _ (by simp [wI])) (hw _ (by simp [wI])) (hw _ (by simp [wI])) hd hws (hC _ _ hpre) hle (fun r M' hq _ => hk _ _ (hpost r M' hq))
      rw [List.reverse_reverse] at this
      rw [List.append_assoc]
      exact this
    | _ => exact hr.elim
  | 4 =>
    intro hw hn hk hd hs hr
    simp only [sB, Bool.and_eq_true, decide_eq_true_eq] at hs
    obtain ⟨⟨⟨⟨h0, h1⟩, h2⟩, h3⟩, h4⟩ := hs
    obtain ⟨g1, g2, g3⟩ := okN_spec h0
    obtain ⟨l', w, e1, e2, e3⟩ := rev_cons_of hl h3
    rw [e3] at hr hpre hpost
    subst e1
    cases w with
    | ref i =>
      have := X_callI (d := d) (n0 := n0) (nF := nF) (Q := Q) (lv := lv) (sg := sg) (pc := pc) (av := l'.reverse) (rest := rest) hr h1 h2 g1 ⟨g2, g3⟩ h4 (by simpa using e2) (hw _ (by simp [wI])) (hw _ (by simp [wI])) (hw _ (by simp [wI])) (hw _ (by simp [wI])) hd hws (hC _ _ hpre) hle (fun r M' hq _ => hk _ _ (hpost r M' hq))
      rw [List.reverse_reverse] at this
      rw [List.append_assoc]
      exact this
    | _ => exact hr.elim
  | 5 =>
    intro hw hn hk hd hs hr
    simp only [sB, Bool.and_eq_true, decide_eq_true_eq] at hs
    obtain ⟨⟨⟨⟨h0, h1⟩, h2⟩, h3⟩, h4⟩ := hs
    obtain ⟨g1, g2, g3⟩ := okN_spec h0
    obtain ⟨l', w, e1, e2, e3⟩ := rev_cons_of hl h3
    rw [e3] at hr hpre hpost
    subst e1
    cases w with
    | ref i =>
      have := X_callIN (host := "LimitBank") (d := d) (n0 := n0) (nF := nF) (Q := Q) (lv := lv) (sg := sg) (pc := pc) (av := l'.reverse) (rest := rest) hr h1 h2 g1 ⟨g2, g3⟩ h4 (by simpa using e2) (hn _ (by simp [nI_])) (hw _ (by simp [wI])) (hw _ (by simp [wI])) (hw _ (by simp [wI])) hd hws (hC _ _ hpre) hle (fun r M' hq _ => hk _ _ (hpost r M' hq))
      rw [List.reverse_reverse] at this
      rw [List.append_assoc]
      exact this
    | _ => exact hr.elim
  | o + 6 =>
    intro hw hn hk hd hs hr
    exact absurd hs (by simp [sB])
theorem X_tabIn {a b j t : Nat} {x : Int32} {tl : List Nat} (hd : decode sg.2.1 pc = .ok (.tableswitch ((a : Int) - pc) 0 ((tl.length : Int) - 1) (tl.map fun (t : Nat) => ((t : Int) - (pc : Int))).toArray, b)) (hx : x = nI j) (hj : tl[j]? = some t) (hl : tl.length < 1000) (h : X Z d sg n0 nF Q t lv st M) : X Z d sg n0 nF Q pc lv (.int x :: st) M := by
  intro p e R s m args below meth c Qe H locs la hF h1 h2 h3 h4 hR hS hL hE
  have hlt : j < tl.length := (List.getElem?_eq_some_iff.mp hj).1
  have hxi : x.toInt = (j : Int) := by rw [hx]; exact nI_toInt (by omega)
  exact lv_tableIn hF.1 hF.2.1 hd (by omega) (by omega) (off := (t : Int) - pc) (by rw [hxi]; simp [hj]) (by omega) (h p e R s m args below meth c Qe H locs la hF h1 h2 h3 h4 hR hS hL hE)
theorem X_tabOut {a b : Nat} {x : Int32} {tl : List Nat} (hd : decode sg.2.1 pc = .ok (.tableswitch ((a : Int) - pc) 0 ((tl.length : Int) - 1) (tl.map fun (t : Nat) => ((t : Int) - (pc : Int))).toArray, b)) (hx : ∀ j, j < tl.length → ¬ x = nI j) (hl : tl.length < 1000) (h : X Z d sg n0 nF Q a lv st M) : X Z d sg n0 nF Q pc lv (.int x :: st) M := by
  intro p e R s m args below meth c Qe H locs la hF h1 h2 h3 h4 hR hS hL hE
  have ho : x.toInt < 0 ∨ (tl.length : Int) - 1 < x.toInt := by
    rcases Int.lt_or_le x.toInt 0 with q | q
    · exact Or.inl q
    · rcases Int.lt_or_le ((tl.length : Int) - 1) x.toInt with q2 | q2
      · exact Or.inr q2
      · exfalso
        have hj : x.toInt.toNat < tl.length := by omega
        refine hx _ hj (Int32.toInt_inj.mp ?_)
        rw [nI_toInt (by omega)]
        omega
  exact lv_tableOut hF.1 hF.2.1 hd ho (by omega) (h p e R s m args below meth c Qe H locs la hF h1 h2 h3 h4 hR hS hL hE)
/-- what 'run' computes at an instruction carries the machine from there to the frame's end -/
theorem run_X {C : List (Nat × Ent)} {S : List Nat} (hC : ∀ q ∈ C, okE Z d q.1 q.2) : ∀ (f : Nat) (t : List PI) (lv : List (Option Value)) (st : List Value) (M : Mem), okP sg t → run Z nF C S (fun pc lv st M => X Z (d + 1) sg n0 nF Q pc lv st M) Q f t lv st M → ∀ (x : PI) (r : List PI), t = x :: r → X Z (d + 1) sg n0 nF Q x.1 lv st M := by
  intro f
  induction f with
  | zero => intro t lv st M _ h; exact h.elim
  | succ f ih =>
    intro t lv st M hP h x r e
    subst e
    obtain ⟨pc, g, o, a, b, v, tl⟩ := x
    obtain ⟨⟨hi, hw, hn⟩, hnx, hr⟩ := hP
    have hgo : ∀ (t : List PI) (tgt : Nat), okP sg t → (∀ y q, t = y :: q → y.1 = tgt) → ∀ lv' st' M', go S (fun pc lv st M => X Z (d + 1) sg n0 nF Q pc lv st M) (run Z nF C S (fun pc lv st M => X Z (d + 1) sg n0 nF Q pc lv st M) Q f) t lv' st' M' → X Z (d + 1) sg n0 nF Q tgt lv' st' M' := by
      intro t tgt hP ht lv' st' M' h
      match t, hP, ht, h with
      | [], _, _, h => exact h.elim
      | (pc', i') :: t, hP, ht, h =>
        have e1 := ht _ _ rfl
        simp only at e1
        subst e1
        unfold go at h
        by_cases q : inS S pc' = true
        · simp only [q, if_true] at h
          exact h
        · simp only [if_neg q] at h
          exact ih _ _ _ _ hP h _ _ rfl
    have hN : ∀ lv' st' M', go S (fun pc lv st M => X Z (d + 1) sg n0 nF Q pc lv st M) (run Z nF C S (fun pc lv st M => X Z (d + 1) sg n0 nF Q pc lv st M) Q f) r lv' st' M' → X Z (d + 1) sg n0 nF Q (pc + (jI pc (g, o, a, b, v, tl)).2) lv' st' M' := by
      refine hgo r _ hr fun y q e => ?_
      subst e
      exact hnx
    have hJ : ∀ tgt lv' st' M', jmp S (fun pc lv st M => X Z (d + 1) sg n0 nF Q pc lv st M) (run Z nF C S (fun pc lv st M => X Z (d + 1) sg n0 nF Q pc lv st M) Q f) pc tgt r lv' st' M' → X Z (d + 1) sg n0 nF Q tgt lv' st' M' := by
      intro tgt lv' st' M' h
      unfold jmp at h
      by_cases q : tgt ≤ pc
      · rw [if_pos q] at h
        exact h
      · rw [if_neg q] at h
        exact hgo _ tgt (okP_seek tgt r hr) (fun y q e => seek_hd tgt r y q e) _ _ _ h
    match g, hi, hw, hn, hN, h with
    | 0, hi, hw, hn, hN, h => exact s0 hi hw (fun st' h' => hN _ _ _ h') h
    | 1, hi, hw, hn, hN, h => exact s1 hi (fun lv' st' h' => hN _ _ _ h') h
    | 2, hi, hw, hn, hN, h => exact s2 hi (fun st' h' => hN _ _ _ h') h
    | 3, hi, hw, hn, hN, h => exact s3 hi (fun st' h' => hN _ _ _ h') h
    | 4, hi, hw, hn, hN, h => exact s4 hi (fun st' h' => hJ _ _ _ _ h') (fun st' h' => hN _ _ _ h') h
    | 5, hi, hw, hn, hN, h => exact s5 hi (fun st' h' => hJ _ _ _ _ h') (fun st' h' => hN _ _ _ h') h
    | 6, hi, hw, hn, hN, h =>
      simp only [okB, Bool.and_eq_true, decide_eq_true_eq] at hi
      match o, hi, h with
      | 0, hi, h => exact X_goto hi.1 (hJ _ _ _ _ h)
      | 1, hi, h =>
        match st, h with
        | .int y :: st, h =>
          have hl : tl.length < 1000 := of_decide_eq_true hi.2
          rcases tsw_spec tl y 0 h with ⟨j, t, h1, h2, h3⟩ | ⟨h1, h2⟩
          · rw [Nat.zero_add] at h2
            exact X_tabIn hi.1 h2 h1 hl (hJ _ _ _ _ h3)
          · exact X_tabOut hi.1 (fun j hj => by have := h1 j hj; rw [Nat.zero_add] at this; exact this) hl (hJ _ _ _ _ h2)
      | o + 2, hi, h => exact h.elim
    | 7, hi, hw, hn, hN, h => exact s7 hi (fun st' h' => hN _ _ _ h') h
    | 8, hi, hw, hn, hN, h => exact s8 hi hw (fun st' h' => hN _ _ _ h') h
    | 9, hi, hw, hn, hN, h => exact s9 hi h
    | 10, hi, hw, hn, hN, h => exact s10 hi hw (fun st' M' h' => hN _ _ _ h') h
    | 11, hi, hw, hn, hN, h => exact s11 (clook_ok hC b) hi hw hn (fun st' M' h' => hN _ _ _ h') h
    | 12, hi, hw, hn, hN, h => exact s12 hi hw (fun st' M' h' => hN _ _ _ h') h
    | g + 13, hi, hw, hn, hN, h => exact h.elim
end XS2
end
section
theorem WS_places {ws : List Cond} (ps : List Nat) (h : ws.map some = ps.map (fun i => lw_tbl[i]?)) (g : ws.all goodWord = true) : ∀ w ∈ ws, w ∈ WS := by
  intro w hw
  refine WS_of ?_ (List.all_eq_true.mp g w hw)
  have h1 : some w ∈ ws.map some := List.mem_map_of_mem hw
  rw [h] at h1
  obtain ⟨i, -, hi⟩ := List.mem_map.mp h1
  exact List.mem_of_getElem? hi
theorem nest_places {qs : List (String × Nat × MethodName × String)} (ps : List Nat) (h : qs.map some = ps.map (fun i => nestL[i]?)) : ∀ q ∈ qs, q ∈ nestL := by
  intro w hw
  have h1 : some w ∈ qs.map some := List.mem_map_of_mem hw
  rw [h] at h1
  obtain ⟨i, -, hi⟩ := List.mem_map.mp h1
  exact List.mem_of_getElem? hi

def p_C_init : List PI := [(0, 1, 1, 0, 0, 0, []), (1, 12, 3, 0, 0, 0, [3]), (4, 1, 1, 0, 0, 0, []), (5, 1, 0, 1, 0, 0, []), (6, 0, 0, 0, 0, 0, []), (7, 12, 0, 0, 0, 0, [9]), (10, 10, 2, 0, 1, 0, [15]), (13, 1, 1, 0, 0, 0, []), (14, 1, 1, 0, 0, 0, []), (15, 8, 2, 0, 1, 0, [15]), (18, 0, 0, 0, 1, 6, []), (20, 2, 2, 0, 0, 0, []), (21, 10, 7, 0, 0, 0, []), (23, 10, 1, 0, 0, 0, [21]), (26, 9, 5, 0, 0, 0, [])]
theorem k_C_init : okP s_C_init p_C_init := okP_of _ (by decide +kernel) (WS_places [61, 29, 30, 62, 63, 16, 64, 66, 66, 49, 65] (by decide +kernel) (by decide +kernel)) (nest_places [] (by decide +kernel))
def p_C_copyRows : List PI := [(0, 1, 1, 1, 0, 0, []), (1, 8, 1, 0, 0, 0, [21]), (4, 1, 1, 0, 0, 0, []), (5, 8, 1, 0, 0, 0, [21]), (8, 11, 2, 0, 1, 0, [25, 2, 3]), (11, 1, 1, 0, 0, 0, []), (12, 1, 1, 1, 0, 0, []), (13, 8, 0, 0, 2, 0, [29]), (16, 10, 0, 0, 2, 0, [29]), (19, 9, 5, 0, 0, 0, [])]
theorem k_C_copyRows : okP s_C_copyRows p_C_copyRows := okP_of _ (by decide +kernel) (WS_places [65, 65, 317, 12, 318, 67, 67] (by decide +kernel) (by decide +kernel)) (nest_places [3] (by decide +kernel))
def p_C_isFull : List PI := [(0, 1, 1, 0, 0, 0, []), (1, 8, 0, 0, 2, 0, [29]), (4, 1, 1, 0, 0, 0, []), (5, 8, 2, 0, 1, 0, [15]), (8, 4, 2, 15, 0, 0, []), (11, 0, 0, 0, 0, 1, []), (12, 6, 0, 16, 0, 0, []), (15, 0, 0, 0, 0, 0, []), (16, 9, 1, 0, 0, 0, [])]
theorem k_C_isFull : okP s_C_isFull p_C_isFull := okP_of _ (by decide +kernel) (WS_places [67, 66] (by decide +kernel) (by decide +kernel)) (nest_places [] (by decide +kernel))
def p_C_cell : List PI := [(0, 1, 0, 1, 0, 0, []), (1, 0, 0, 0, 0, 0, []), (2, 1, 1, 0, 0, 0, []), (3, 8, 0, 0, 2, 0, [29]), (6, 0, 0, 0, 0, 1, []), (7, 2, 1, 0, 0, 0, []), (8, 11, 2, 0, 4, 0, [32, 3, 4]), (11, 5, 0, 23, 0, 0, []), (14, 1, 0, 2, 0, 0, []), (15, 0, 0, 0, 0, 0, []), (16, 0, 0, 0, 0, 5, []), (17, 11, 2, 0, 4, 0, [32, 3, 4]), (20, 5, 1, 26, 0, 0, []), (23, 0, 0, 36, 3, -1000003, []), (25, 9, 0, 0, 0, 0, []), (26, 1, 1, 0, 0, 0, []), (27, 8, 1, 0, 0, 0, [21]), (30, 1, 0, 1, 0, 0, []), (31, 0, 0, 0, 1, 6, []), (33, 2, 2, 0, 0, 0, []), (34, 1, 0, 2, 0, 0, []), (35, 2, 0, 0, 0, 0, []), (36, 8, 4, 0, 0, 0, []), (37, 9, 0, 0, 0, 0, [])]
theorem k_C_cell : okP s_C_cell p_C_cell := okP_of _ (by decide +kernel) (WS_places [67, 220, 12, 221, 220, 12, 221, 335, 65] (by decide +kernel) (by decide +kernel)) (nest_places [4, 4] (by decide +kernel))
def p_C_add : List PI := [(0, 1, 1, 0, 0, 0, []), (1, 11, 0, 0, 3, 0, [37, 1]), (4, 5, 0, 8, 0, 0, []), (7, 9, 5, 0, 0, 0, []), (8, 1, 1, 0, 0, 0, []), (9, 8, 0, 0, 2, 0, [29]), (12, 0, 0, 0, 1, 6, []), (14, 2, 2, 0, 0, 0, []), (15, 1, 3, 3, 0, 0, []), (16, 0, 0, 0, 0, 0, []), (17, 1, 3, 4, 0, 0, []), (19, 1, 0, 4, 0, 0, []), (21, 0, 0, 0, 0, 4, []), (22, 4, 3, 51, 0, 0, []), (25, 1, 0, 4, 0, 0, []), (27, 1, 1, 1, 0, 0, []), (28, 8, 6, 0, 0, 0, []), (29, 4, 3, 51, 0, 0, []), (32, 1, 1, 0, 0, 0, []), (33, 8, 1, 0, 0, 0, [21]), (36, 1, 0, 3, 0, 0, []), (37, 1, 0, 4, 0, 0, []), (39, 2, 0, 0, 0, 0, []), (40, 1, 1, 1, 0, 0, []), (41, 1, 0, 4, 0, 0, []), (43, 8, 4, 0, 0, 0, []), (44, 10, 4, 0, 0, 0, []), (45, 1, 6, 4, 0, 1, []), (48, 6, 0, 19, 0, 0, []), (51, 1, 1, 0, 0, 0, []), (52, 8, 1, 0, 0, 0, [21]), (55, 1, 0, 3, 0, 0, []), (56, 0, 0, 0, 0, 4, []), (57, 2, 0, 0, 0, 0, []), (58, 1, 0, 2, 0, 0, []), (59, 10, 4, 0, 0, 0, []), (60, 1, 1, 0, 0, 0, []), (61, 8, 1, 0, 0, 0, [21]), (64, 1, 0, 3, 0, 0, []), (65, 0, 0, 0, 0, 5, []), (66, 2, 0, 0, 0, 0, []), (67, 0, 0, 36, 3, -1000003, []), (69, 10, 4, 0, 0, 0, []), (70, 1, 1, 0, 0, 0, []), (71, 7, 0, 0, 0, 0, []), (72, 8, 0, 0, 2, 0, [29]), (75, 0, 0, 0, 0, 1, []), (76, 2, 0, 0, 0, 0, []), (77, 10, 0, 0, 2, 0, [29]), (80, 9, 5, 0, 0, 0, [])]
theorem k_C_add : okP s_C_add p_C_add := okP_of _ (by decide +kernel) (WS_places [334, 300, 301, 15, 302, 67, 65, 65, 65, 335, 67, 67] (by decide +kernel) (by decide +kernel)) (nest_places [] (by decide +kernel))
def p_C_addRowOf : List PI := [(0, 1, 1, 0, 0, 0, []), (1, 11, 0, 0, 3, 0, [37, 1]), (4, 5, 0, 8, 0, 0, []), (7, 9, 5, 0, 0, 0, []), (8, 1, 1, 0, 0, 0, []), (9, 8, 0, 0, 2, 0, [29]), (12, 0, 0, 0, 1, 6, []), (14, 2, 2, 0, 0, 0, []), (15, 1, 3, 4, 0, 0, []), (17, 0, 0, 0, 0, 0, []), (18, 1, 3, 5, 0, 0, []), (20, 1, 0, 5, 0, 0, []), (22, 0, 0, 0, 0, 4, []), (23, 4, 4, 49, 0, 0, []), (26, 1, 1, 0, 0, 0, []), (27, 8, 1, 0, 0, 0, [21]), (30, 1, 0, 4, 0, 0, []), (32, 1, 0, 5, 0, 0, []), (34, 2, 0, 0, 0, 0, []), (35, 1, 1, 1, 0, 0, []), (36, 1, 0, 2, 0, 0, []), (37, 1, 0, 5, 0, 0, []), (39, 11, 0, 0, 5, 0, [41, 3]), (42, 10, 4, 0, 0, 0, []), (43, 1, 6, 5, 0, 1, []), (46, 6, 0, 20, 0, 0, []), (49, 1, 1, 0, 0, 0, []), (50, 8, 1, 0, 0, 0, [21]), (53, 1, 0, 4, 0, 0, []), (55, 0, 0, 0, 0, 5, []), (56, 2, 0, 0, 0, 0, []), (57, 1, 0, 3, 0, 0, []), (58, 10, 4, 0, 0, 0, []), (59, 1, 1, 0, 0, 0, []), (60, 7, 0, 0, 0, 0, []), (61, 8, 0, 0, 2, 0, [29]), (64, 0, 0, 0, 0, 1, []), (65, 2, 0, 0, 0, 0, []), (66, 10, 0, 0, 2, 0, [29]), (69, 9, 5, 0, 0, 0, [])]
theorem k_C_addRowOf : okP s_C_addRowOf p_C_addRowOf := okP_of _ (by decide +kernel) (WS_places [334, 300, 301, 15, 302, 67, 65, 345, 346, 347, 15, 348, 65, 67, 67] (by decide +kernel) (by decide +kernel)) (nest_places [] (by decide +kernel))
def p_C_remove : List PI := [(0, 1, 0, 1, 0, 0, []), (1, 0, 0, 0, 0, 0, []), (2, 1, 1, 0, 0, 0, []), (3, 8, 0, 0, 2, 0, [29]), (6, 0, 0, 0, 0, 1, []), (7, 2, 1, 0, 0, 0, []), (8, 11, 2, 0, 4, 0, [32, 3, 4]), (11, 5, 1, 15, 0, 0, []), (14, 9, 5, 0, 0, 0, []), (15, 1, 1, 0, 0, 0, []), (16, 7, 0, 0, 0, 0, []), (17, 8, 0, 0, 2, 0, [29]), (20, 0, 0, 0, 0, 1, []), (21, 2, 1, 0, 0, 0, []), (22, 10, 0, 0, 2, 0, [29]), (25, 1, 0, 1, 0, 0, []), (26, 0, 0, 0, 1, 6, []), (28, 2, 2, 0, 0, 0, []), (29, 1, 3, 2, 0, 0, []), (30, 1, 0, 2, 0, 0, []), (31, 1, 1, 0, 0, 0, []), (32, 8, 0, 0, 2, 0, [29]), (35, 0, 0, 0, 1, 6, []), (37, 2, 2, 0, 0, 0, []), (38, 4, 3, 62, 0, 0, []), (41, 1, 1, 0, 0, 0, []), (42, 8, 1, 0, 0, 0, [21]), (45, 1, 0, 2, 0, 0, []), (46, 1, 1, 0, 0, 0, []), (47, 8, 1, 0, 0, 0, [21]), (50, 1, 0, 2, 0, 0, []), (51, 0, 0, 0, 1, 6, []), (53, 2, 0, 0, 0, 0, []), (54, 8, 4, 0, 0, 0, []), (55, 10, 4, 0, 0, 0, []), (56, 1, 6, 2, 0, 1, []), (59, 6, 0, 30, 0, 0, []), (62, 9, 5, 0, 0, 0, [])]
theorem k_C_remove : okP s_C_remove p_C_remove := okP_of _ (by decide +kernel) (WS_places [67, 220, 12, 221, 67, 67, 67, 65, 65] (by decide +kernel) (by decide +kernel)) (nest_places [4] (by decide +kernel))
def p_C_countOf : List PI := [(0, 0, 0, 0, 0, 0, []), (1, 1, 3, 2, 0, 0, []), (2, 0, 0, 0, 0, 0, []), (3, 1, 3, 3, 0, 0, []), (4, 1, 0, 3, 0, 0, []), (5, 1, 1, 0, 0, 0, []), (6, 8, 0, 0, 2, 0, [29]), (9, 4, 3, 31, 0, 0, []), (12, 1, 1, 0, 0, 0, []), (13, 1, 0, 3, 0, 0, []), (14, 0, 0, 0, 0, 4, []), (15, 11, 0, 0, 5, 0, [41, 3]), (18, 1, 0, 1, 0, 0, []), (19, 4, 1, 25, 0, 0, []), (22, 1, 6, 2, 0, 1, []), (25, 1, 6, 3, 0, 1, []), (28, 6, 0, 4, 0, 0, []), (31, 1, 0, 2, 0, 0, []), (32, 9, 0, 0, 0, 0, [])]
theorem k_C_countOf : okP s_C_countOf p_C_countOf := okP_of _ (by decide +kernel) (WS_places [67, 345, 346, 347, 15, 348] (by decide +kernel) (by decide +kernel)) (nest_places [] (by decide +kernel))
def p_C_firstWith : List PI := [(0, 0, 0, 0, 0, 0, []), (1, 1, 3, 3, 0, 0, []), (2, 1, 0, 3, 0, 0, []), (3, 1, 1, 0, 0, 0, []), (4, 8, 0, 0, 2, 0, [29]), (7, 4, 3, 28, 0, 0, []), (10, 1, 1, 0, 0, 0, []), (11, 1, 0, 3, 0, 0, []), (12, 1, 0, 1, 0, 0, []), (13, 11, 0, 0, 5, 0, [41, 3]), (16, 1, 0, 2, 0, 0, []), (17, 4, 1, 22, 0, 0, []), (20, 1, 0, 3, 0, 0, []), (21, 9, 0, 0, 0, 0, []), (22, 1, 6, 3, 0, 1, []), (25, 6, 0, 2, 0, 0, []), (28, 0, 0, 0, 0, -1, []), (29, 9, 0, 0, 0, 0, [])]
theorem k_C_firstWith : okP s_C_firstWith p_C_firstWith := okP_of _ (by decide +kernel) (WS_places [67, 345, 346, 347, 15, 348] (by decide +kernel) (by decide +kernel)) (nest_places [] (by decide +kernel))
def p_C_rowOf : List PI := [(0, 1, 0, 1, 0, 0, []), (1, 5, 3, 8, 0, 0, []), (4, 0, 0, 0, 0, -1, []), (5, 6, 0, 14, 0, 0, []), (8, 1, 1, 0, 0, 0, []), (9, 0, 0, 0, 0, 5, []), (10, 1, 0, 1, 0, 0, []), (11, 11, 0, 0, 10, 0, [48, 3]), (14, 9, 0, 0, 0, 0, [])]
theorem k_C_rowOf : okP s_C_rowOf p_C_rowOf := okP_of _ (by decide +kernel) (WS_places [398, 342, 343, 15, 344] (by decide +kernel) (by decide +kernel)) (nest_places [] (by decide +kernel))
def p_L_init : List PI := [(0, 1, 1, 0, 0, 0, []), (1, 12, 3, 0, 0, 0, [3]), (4, 1, 1, 0, 0, 0, []), (5, 0, 0, 0, 0, 4, []), (6, 10, 7, 0, 0, 0, []), (8, 10, 1, 2, 0, 0, [9]), (11, 1, 1, 0, 0, 0, []), (12, 0, 0, 0, 0, 4, []), (13, 10, 7, 0, 0, 0, []), (15, 10, 1, 2, 1, 0, [15]), (18, 1, 1, 0, 0, 0, []), (19, 0, 0, 0, 0, 4, []), (20, 10, 7, 0, 0, 0, []), (22, 10, 1, 2, 2, 0, [18]), (25, 1, 1, 0, 0, 0, []), (26, 0, 0, 0, 1, 6, []), (28, 10, 7, 0, 0, 0, []), (30, 10, 1, 2, 3, 0, [21]), (33, 1, 1, 0, 0, 0, []), (34, 0, 0, 0, 1, 6, []), (36, 10, 7, 0, 0, 0, []), (38, 10, 1, 2, 4, 0, [24]), (41, 1, 1, 0, 0, 0, []), (42, 0, 0, 0, 1, 6, []), (44, 10, 7, 0, 0, 0, []), (46, 10, 1, 2, 5, 0, [27]), (49, 1, 1, 0, 0, 0, []), (50, 0, 0, 0, 1, 24, []), (52, 10, 7, 0, 0, 0, []), (54, 10, 1, 2, 6, 0, [30]), (57, 1, 1, 0, 0, 0, []), (58, 0, 0, 0, 1, 24, []), (60, 10, 7, 0, 0, 0, []), (62, 10, 1, 2, 7, 0, [33]), (65, 1, 1, 0, 0, 0, []), (66, 0, 0, 0, 1, 24, []), (68, 10, 7, 0, 0, 0, []), (70, 10, 1, 2, 8, 0, [36]), (73, 1, 1, 0, 0, 0, []), (74, 10, 6, 0, 0, 0, [39]), (77, 7, 0, 0, 0, 0, []), (78, 0, 0, 0, 1, 40, []), (80, 11, 4, 0, 0, 0, [41, 2]), (83, 10, 1, 2, 9, 0, [44]), (86, 1, 1, 0, 0, 0, []), (87, 10, 6, 0, 0, 0, [39]), (90, 7, 0, 0, 0, 0, []), (91, 0, 0, 0, 1, 24, []), (93, 11, 4, 0, 0, 0, [41, 2]), (96, 10, 1, 2, 10, 0, [48]), (99, 1, 1, 0, 0, 0, []), (100, 0, 0, 0, 1, 6, []), (102, 10, 7, 0, 0, 0, []), (104, 10, 1, 2, 11, 0, [51]), (107, 1, 1, 0, 0, 0, []), (108, 0, 0, 0, 0, 3, []), (109, 10, 0, 2, 15, 0, [54]), (112, 0, 0, 0, 0, 0, []), (113, 1, 3, 1, 0, 0, []), (114, 1, 0, 1, 0, 0, []), (115, 0, 0, 0, 1, 6, []), (117, 4, 3, 134, 0, 0, []), (120, 1, 1, 0, 0, 0, []), (121, 8, 1, 2, 5, 0, [27]), (124, 1, 0, 1, 0, 0, []), (125, 0, 0, 58, 3, -1000003, []), (127, 10, 4, 0, 0, 0, []), (128, 1, 6, 1, 0, 1, []), (131, 6, 0, 114, 0, 0, []), (134, 9, 5, 0, 0, 0, [])]
theorem k_L_init : okP s_L_init p_L_init := okP_of _ (by decide +kernel) (WS_places [55, 29, 30, 49, 77, 49, 79, 49, 81, 49, 83, 49, 85, 49, 87, 49, 89, 49, 91, 49, 93, 56, 57, 15, 58, 59, 15, 60, 95, 56, 57, 15, 58, 59, 15, 60, 97, 49, 99, 106, 87, 76] (by decide +kernel) (by decide +kernel)) (nest_places [] (by decide +kernel))
def p_H_init : List PI := [(0, 1, 1, 0, 0, 0, []), (1, 12, 3, 0, 0, 0, [3]), (4, 1, 1, 0, 0, 0, []), (5, 0, 0, 0, 1, 8, []), (7, 10, 8, 0, 0, 0, [9]), (10, 10, 1, 1, 0, 0, [11]), (13, 0, 0, 0, 0, 0, []), (14, 1, 3, 1, 0, 0, []), (15, 1, 0, 1, 0, 0, []), (16, 0, 0, 0, 1, 8, []), (18, 4, 3, 40, 0, 0, []), (21, 1, 1, 0, 0, 0, []), (22, 8, 1, 1, 0, 0, [11]), (25, 1, 0, 1, 0, 0, []), (26, 10, 6, 2, 0, 0, [9]), (29, 7, 0, 0, 0, 0, []), (30, 11, 4, 0, 12, 0, [17, 1]), (33, 10, 5, 0, 0, 0, []), (34, 1, 6, 1, 0, 1, []), (37, 6, 0, 15, 0, 0, []), (40, 9, 5, 0, 0, 0, [])]
theorem k_H_init : okP s_H_init p_H_init := okP_of _ (by decide +kernel) (WS_places [154, 29, 30, 155, 158, 158, 155, 51, 14, 157, 53, 14, 54] (by decide +kernel) (by decide +kernel)) (nest_places [] (by decide +kernel))
def p_H_dropOldest : List PI := [(0, 1, 1, 0, 0, 0, []), (1, 8, 1, 1, 0, 0, [11]), (4, 0, 0, 0, 0, 0, []), (5, 8, 5, 0, 0, 0, []), (6, 1, 4, 1, 0, 0, []), (7, 0, 0, 0, 0, 1, []), (8, 1, 3, 2, 0, 0, []), (9, 1, 0, 2, 0, 0, []), (10, 0, 0, 0, 1, 8, []), (12, 4, 3, 35, 0, 0, []), (15, 1, 1, 0, 0, 0, []), (16, 8, 1, 1, 0, 0, [11]), (19, 1, 0, 2, 0, 0, []), (20, 0, 0, 0, 0, 1, []), (21, 2, 1, 0, 0, 0, []), (22, 1, 1, 0, 0, 0, []), (23, 8, 1, 1, 0, 0, [11]), (26, 1, 0, 2, 0, 0, []), (27, 8, 5, 0, 0, 0, []), (28, 10, 5, 0, 0, 0, []), (29, 1, 6, 2, 0, 1, []), (32, 6, 0, 9, 0, 0, []), (35, 1, 1, 0, 0, 0, []), (36, 8, 1, 1, 0, 0, [11]), (39, 0, 0, 0, 1, 7, []), (41, 1, 1, 1, 0, 0, []), (42, 10, 5, 0, 0, 0, []), (43, 1, 1, 0, 0, 0, []), (44, 0, 0, 0, 1, 7, []), (46, 10, 0, 1, 1, 0, [18]), (49, 9, 5, 0, 0, 0, [])]
theorem k_H_dropOldest : okP s_H_dropOldest p_H_dropOldest := okP_of _ (by decide +kernel) (WS_places [158, 158, 158, 158, 159] (by decide +kernel) (by decide +kernel)) (nest_places [] (by decide +kernel))
def p_L_copyFrom : List PI := [(0, 1, 1, 1, 0, 0, []), (1, 8, 1, 2, 0, 0, [9]), (4, 1, 1, 0, 0, 0, []), (5, 8, 1, 2, 0, 0, [9]), (8, 11, 2, 0, 1, 0, [59, 2, 2]), (11, 1, 1, 1, 0, 0, []), (12, 8, 1, 2, 1, 0, [15]), (15, 1, 1, 0, 0, 0, []), (16, 8, 1, 2, 1, 0, [15]), (19, 11, 2, 0, 1, 0, [59, 2, 2]), (22, 1, 1, 1, 0, 0, []), (23, 8, 1, 2, 2, 0, [18]), (26, 1, 1, 0, 0, 0, []), (27, 8, 1, 2, 2, 0, [18]), (30, 11, 2, 0, 1, 0, [59, 2, 2]), (33, 1, 1, 1, 0, 0, []), (34, 8, 1, 2, 3, 0, [21]), (37, 1, 1, 0, 0, 0, []), (38, 8, 1, 2, 3, 0, [21]), (41, 11, 2, 0, 1, 0, [59, 2, 2]), (44, 1, 1, 1, 0, 0, []), (45, 8, 1, 2, 4, 0, [24]), (48, 1, 1, 0, 0, 0, []), (49, 8, 1, 2, 4, 0, [24]), (52, 11, 2, 0, 1, 0, [59, 2, 2]), (55, 1, 1, 1, 0, 0, []), (56, 8, 1, 2, 5, 0, [27]), (59, 1, 1, 0, 0, 0, []), (60, 8, 1, 2, 5, 0, [27]), (63, 11, 2, 0, 1, 0, [59, 2, 2]), (66, 1, 1, 1, 0, 0, []), (67, 8, 1, 2, 6, 0, [30]), (70, 1, 1, 0, 0, 0, []), (71, 8, 1, 2, 6, 0, [30]), (74, 11, 2, 0, 1, 0, [59, 2, 2]), (77, 1, 1, 1, 0, 0, []), (78, 8, 1, 2, 7, 0, [33]), (81, 1, 1, 0, 0, 0, []), (82, 8, 1, 2, 7, 0, [33]), (85, 11, 2, 0, 1, 0, [59, 2, 2]), (88, 1, 1, 1, 0, 0, []), (89, 8, 1, 2, 8, 0, [36]), (92, 1, 1, 0, 0, 0, []), (93, 8, 1, 2, 8, 0, [36]), (96, 11, 2, 0, 1, 0, [59, 2, 2]), (99, 1, 1, 0, 0, 0, []), (100, 8, 1, 2, 9, 0, [44]), (103, 1, 1, 1, 0, 0, []), (104, 8, 1, 2, 9, 0, [44]), (107, 11, 0, 0, 2, 0, [63, 2]), (110, 1, 1, 0, 0, 0, []), (111, 8, 1, 2, 10, 0, [48]), (114, 1, 1, 1, 0, 0, []), (115, 8, 1, 2, 10, 0, [48]), (118, 11, 0, 0, 2, 0, [63, 2]), (121, 1, 1, 1, 0, 0, []), (122, 8, 1, 2, 11, 0, [51]), (125, 1, 1, 0, 0, 0, []), (126, 8, 1, 2, 11, 0, [51]), (129, 11, 2, 0, 1, 0, [59, 2, 2]), (132, 1, 1, 0, 0, 0, []), (133, 1, 1, 1, 0, 0, []), (134, 8, 0, 2, 12, 0, [67]), (137, 10, 0, 2, 12, 0, [67]), (140, 1, 1, 0, 0, 0, []), (141, 1, 1, 1, 0, 0, []), (142, 8, 0, 2, 13, 0, [70]), (145, 10, 0, 2, 13, 0, [70]), (148, 1, 1, 0, 0, 0, []), (149, 1, 1, 1, 0, 0, []), (150, 8, 0, 2, 14, 0, [73]), (153, 10, 0, 2, 14, 0, [73]), (156, 1, 1, 0, 0, 0, []), (157, 1, 1, 1, 0, 0, []), (158, 8, 0, 2, 15, 0, [54]), (161, 10, 0, 2, 15, 0, [54]), (164, 1, 1, 0, 0, 0, []), (165, 1, 1, 1, 0, 0, []), (166, 8, 0, 2, 16, 0, [76]), (169, 10, 0, 2, 16, 0, [76]), (172, 1, 1, 0, 0, 0, []), (173, 1, 1, 1, 0, 0, []), (174, 8, 0, 2, 17, 0, [79]), (177, 10, 0, 2, 17, 0, [79]), (180, 9, 5, 0, 0, 0, [])]
theorem k_L_copyFrom : okP s_L_copyFrom p_L_copyFrom := okP_of _ (by decide +kernel) (WS_places [77, 77, 317, 12, 318, 79, 79, 317, 12, 318, 81, 81, 317, 12, 318, 83, 83, 317, 12, 318, 85, 85, 317, 12, 318, 87, 87, 317, 12, 318, 89, 89, 317, 12, 318, 91, 91, 317, 12, 318, 93, 93, 317, 12, 318, 95, 95, 325, 326, 327, 15, 328, 97, 97, 325, 326, 327, 15, 328, 99, 99, 317, 12, 318, 100, 100, 102, 102, 104, 104, 106, 106, 108, 108, 110, 110] (by decide +kernel) (by decide +kernel)) (nest_places [2, 2, 2, 2, 2, 2, 2, 2, 2, 2] (by decide +kernel))
def p_H_keep : List PI := [(0, 1, 1, 0, 0, 0, []), (1, 8, 0, 1, 1, 0, [18]), (4, 0, 0, 0, 1, 8, []), (6, 4, 2, 13, 0, 0, []), (9, 1, 1, 0, 0, 0, []), (10, 11, 0, 1, 14, 0, [22, 1]), (13, 1, 1, 0, 0, 0, []), (14, 8, 1, 1, 0, 0, [11]), (17, 1, 1, 0, 0, 0, []), (18, 8, 0, 1, 1, 0, [18]), (21, 8, 5, 0, 0, 0, []), (22, 1, 1, 1, 0, 0, []), (23, 11, 0, 2, 15, 0, [25, 2]), (26, 1, 1, 0, 0, 0, []), (27, 7, 0, 0, 0, 0, []), (28, 8, 0, 1, 1, 0, [18]), (31, 0, 0, 0, 0, 1, []), (32, 2, 0, 0, 0, 0, []), (33, 10, 0, 1, 1, 0, [18]), (36, 9, 5, 0, 0, 0, [])]
theorem k_H_keep : okP s_H_keep p_H_keep := okP_of _ (by decide +kernel) (WS_places [159, 308, 310, 7, 17, 311, 158, 159, 312, 313, 314, 14, 315, 159, 159] (by decide +kernel) (by decide +kernel)) (nest_places [] (by decide +kernel))
def p_H_restore : List PI := [(0, 1, 1, 0, 0, 0, []), (1, 8, 0, 1, 1, 0, [18]), (4, 5, 5, 30, 0, 0, []), (7, 1, 1, 0, 0, 0, []), (8, 7, 0, 0, 0, 0, []), (9, 8, 0, 1, 1, 0, [18]), (12, 0, 0, 0, 0, 1, []), (13, 2, 1, 0, 0, 0, []), (14, 10, 0, 1, 1, 0, [18]), (17, 1, 1, 1, 0, 0, []), (18, 1, 1, 0, 0, 0, []), (19, 8, 1, 1, 0, 0, [11]), (22, 1, 1, 0, 0, 0, []), (23, 8, 0, 1, 1, 0, [18]), (26, 8, 5, 0, 0, 0, []), (27, 11, 0, 2, 15, 0, [25, 2]), (30, 9, 5, 0, 0, 0, [])]
theorem k_H_restore : okP s_H_restore p_H_restore := okP_of _ (by decide +kernel) (WS_places [159, 159, 159, 158, 159, 312, 313, 314, 14, 315] (by decide +kernel) (by decide +kernel)) (nest_places [] (by decide +kernel))
def p_L_hasTenant : List PI := [(0, 1, 0, 1, 0, 0, []), (1, 5, 2, 22, 0, 0, []), (4, 1, 0, 1, 0, 0, []), (5, 1, 1, 0, 0, 0, []), (6, 8, 0, 2, 13, 0, [70]), (9, 4, 3, 22, 0, 0, []), (12, 1, 0, 1, 0, 0, []), (13, 0, 0, 0, 1, 6, []), (15, 4, 3, 22, 0, 0, []), (18, 0, 0, 0, 0, 1, []), (19, 6, 0, 23, 0, 0, []), (22, 0, 0, 0, 0, 0, []), (23, 9, 1, 0, 0, 0, [])]
theorem k_L_hasTenant : okP s_L_hasTenant p_L_hasTenant := okP_of _ (by decide +kernel) (WS_places [102] (by decide +kernel) (by decide +kernel)) (nest_places [] (by decide +kernel))
def p_L_priceOf : List PI := [(0, 1, 0, 1, 0, 0, []), (1, 11, 2, 0, 19, 0, [82, 1, 6]), (4, 5, 0, 17, 0, 0, []), (7, 1, 1, 0, 0, 0, []), (8, 8, 1, 2, 0, 0, [9]), (11, 1, 0, 1, 0, 0, []), (12, 8, 4, 0, 0, 0, []), (13, 0, 0, 0, 0, 1, []), (14, 4, 3, 20, 0, 0, []), (17, 0, 0, 0, 1, 10, []), (19, 9, 0, 0, 0, 0, []), (20, 0, 0, 0, 0, 1, []), (21, 0, 0, 0, 1, 9, []), (23, 1, 1, 0, 0, 0, []), (24, 8, 1, 2, 2, 0, [18]), (27, 1, 0, 1, 0, 0, []), (28, 8, 4, 0, 0, 0, []), (29, 2, 2, 0, 0, 0, []), (30, 1, 1, 0, 0, 0, []), (31, 8, 1, 2, 0, 0, [9]), (34, 1, 0, 1, 0, 0, []), (35, 8, 4, 0, 0, 0, []), (36, 2, 3, 0, 0, 0, []), (37, 2, 0, 0, 0, 0, []), (38, 9, 0, 0, 0, 0, [])]
theorem k_L_priceOf : okP s_L_priceOf p_L_priceOf := okP_of _ (by decide +kernel) (WS_places [459, 12, 460, 77, 81, 77] (by decide +kernel) (by decide +kernel)) (nest_places [6] (by decide +kernel))
def p_L_shareOf : List PI := [(0, 1, 1, 0, 0, 0, []), (1, 1, 0, 1, 0, 0, []), (2, 11, 0, 2, 18, 0, [86, 2]), (5, 5, 1, 10, 0, 0, []), (8, 0, 0, 0, 0, 0, []), (9, 9, 0, 0, 0, 0, []), (10, 0, 0, 0, 0, 0, []), (11, 1, 3, 2, 0, 0, []), (12, 0, 0, 0, 0, 0, []), (13, 1, 3, 3, 0, 0, []), (14, 1, 0, 3, 0, 0, []), (15, 0, 0, 0, 0, 4, []), (16, 4, 3, 67, 0, 0, []), (19, 1, 1, 0, 0, 0, []), (20, 8, 1, 2, 0, 0, [9]), (23, 1, 0, 3, 0, 0, []), (24, 8, 4, 0, 0, 0, []), (25, 1, 1, 0, 0, 0, []), (26, 8, 1, 2, 3, 0, [21]), (29, 1, 0, 1, 0, 0, []), (30, 8, 4, 0, 0, 0, []), (31, 2, 2, 0, 0, 0, []), (32, 1, 3, 4, 0, 0, []), (34, 1, 0, 4, 0, 0, []), (36, 5, 5, 61, 0, 0, []), (39, 1, 0, 2, 0, 0, []), (40, 0, 0, 0, 2, 10000, []), (43, 1, 1, 0, 0, 0, []), (44, 8, 1, 2, 8, 0, [36]), (47, 1, 0, 1, 0, 0, []), (48, 1, 0, 3, 0, 0, []), (49, 11, 2, 0, 21, 0, [89, 2, 5]), (52, 8, 4, 0, 0, 0, []), (53, 2, 2, 0, 0, 0, []), (54, 1, 0, 4, 0, 0, []), (56, 2, 3, 0, 0, 0, []), (57, 12, 0, 0, 0, 0, [93]), (60, 1, 3, 2, 0, 0, []), (61, 1, 6, 3, 0, 1, []), (64, 6, 0, 14, 0, 0, []), (67, 1, 0, 2, 0, 0, []), (68, 9, 0, 0, 0, 0, [])]
theorem k_L_shareOf : okP s_L_shareOf p_L_shareOf := okP_of _ (by decide +kernel) (WS_places [368, 190, 191, 14, 192, 77, 83, 93, 370, 12, 371, 376, 63, 16, 64] (by decide +kernel) (by decide +kernel)) (nest_places [5] (by decide +kernel))
def p_L_sumOverTenants : List PI := [(0, 0, 0, 0, 0, 0, []), (1, 1, 3, 3, 0, 0, []), (2, 1, 0, 2, 0, 0, []), (3, 0, 0, 0, 0, 0, []), (4, 12, 0, 0, 0, 0, [93]), (7, 1, 3, 4, 0, 0, []), (9, 1, 0, 4, 0, 0, []), (11, 1, 1, 1, 0, 0, []), (12, 8, 6, 0, 0, 0, []), (13, 4, 3, 29, 0, 0, []), (16, 1, 0, 3, 0, 0, []), (17, 1, 1, 1, 0, 0, []), (18, 1, 0, 4, 0, 0, []), (20, 8, 4, 0, 0, 0, []), (21, 2, 0, 0, 0, 0, []), (22, 1, 3, 3, 0, 0, []), (23, 1, 6, 4, 0, 4, []), (26, 6, 0, 9, 0, 0, []), (29, 1, 0, 3, 0, 0, []), (30, 9, 0, 0, 0, 0, [])]
theorem k_L_sumOverTenants : okP s_L_sumOverTenants p_L_sumOverTenants := okP_of _ (by decide +kernel) (WS_places [376, 63, 16, 64] (by decide +kernel) (by decide +kernel)) (nest_places [] (by decide +kernel))
def p_L_freePart : List PI := [(0, 1, 1, 0, 0, 0, []), (1, 1, 0, 1, 0, 0, []), (2, 11, 0, 2, 18, 0, [86, 2]), (5, 5, 0, 15, 0, 0, []), (8, 1, 0, 2, 0, 0, []), (9, 11, 2, 0, 19, 0, [82, 1, 6]), (12, 5, 1, 17, 0, 0, []), (15, 0, 0, 0, 0, 0, []), (16, 9, 0, 0, 0, 0, []), (17, 1, 0, 1, 0, 0, []), (18, 1, 0, 2, 0, 0, []), (19, 11, 2, 0, 21, 0, [89, 2, 5]), (22, 1, 3, 3, 0, 0, []), (23, 1, 1, 0, 0, 0, []), (24, 8, 1, 2, 6, 0, [30]), (27, 1, 0, 3, 0, 0, []), (28, 8, 4, 0, 0, 0, []), (29, 1, 1, 0, 0, 0, []), (30, 8, 1, 2, 8, 0, [36]), (33, 1, 0, 3, 0, 0, []), (34, 8, 4, 0, 0, 0, []), (35, 2, 1, 0, 0, 0, []), (36, 9, 0, 0, 0, 0, [])]
theorem k_L_freePart : okP s_L_freePart p_L_freePart := okP_of _ (by decide +kernel) (WS_places [368, 190, 191, 14, 192, 459, 12, 460, 370, 12, 371, 89, 93] (by decide +kernel) (by decide +kernel)) (nest_places [6, 5] (by decide +kernel))
def p_L_fits : List PI := [(0, 1, 1, 0, 0, 0, []), (1, 8, 1, 2, 10, 0, [48]), (4, 1, 0, 1, 0, 0, []), (5, 0, 0, 0, 0, 4, []), (6, 11, 0, 0, 5, 0, [115, 3]), (9, 1, 3, 2, 0, 0, []), (10, 1, 1, 0, 0, 0, []), (11, 1, 0, 2, 0, 0, []), (12, 11, 0, 2, 18, 0, [86, 2]), (15, 5, 1, 20, 0, 0, []), (18, 0, 0, 0, 0, 0, []), (19, 9, 1, 0, 0, 0, []), (20, 0, 0, 0, 0, 0, []), (21, 1, 3, 3, 0, 0, []), (22, 1, 0, 3, 0, 0, []), (23, 0, 0, 0, 0, 4, []), (24, 4, 3, 91, 0, 0, []), (27, 1, 1, 0, 0, 0, []), (28, 8, 1, 2, 10, 0, [48]), (31, 1, 0, 1, 0, 0, []), (32, 1, 0, 3, 0, 0, []), (33, 11, 0, 0, 5, 0, [115, 3]), (36, 1, 3, 4, 0, 0, []), (38, 1, 0, 2, 0, 0, []), (39, 1, 0, 3, 0, 0, []), (40, 11, 2, 0, 21, 0, [89, 2, 5]), (43, 1, 3, 5, 0, 0, []), (45, 1, 1, 0, 0, 0, []), (46, 8, 1, 2, 8, 0, [36]), (49, 1, 0, 5, 0, 0, []), (51, 8, 4, 0, 0, 0, []), (52, 1, 0, 4, 0, 0, []), (54, 2, 0, 0, 0, 0, []), (55, 1, 1, 0, 0, 0, []), (56, 8, 1, 2, 6, 0, [30]), (59, 1, 0, 5, 0, 0, []), (61, 8, 4, 0, 0, 0, []), (62, 4, 4, 83, 0, 0, []), (65, 1, 1, 0, 0, 0, []), (66, 8, 1, 2, 2, 0, [18]), (69, 1, 0, 3, 0, 0, []), (70, 8, 4, 0, 0, 0, []), (71, 1, 0, 4, 0, 0, []), (73, 2, 0, 0, 0, 0, []), (74, 1, 1, 0, 0, 0, []), (75, 8, 1, 2, 0, 0, [9]), (78, 1, 0, 3, 0, 0, []), (79, 8, 4, 0, 0, 0, []), (80, 4, 5, 85, 0, 0, []), (83, 0, 0, 0, 0, 0, []), (84, 9, 1, 0, 0, 0, []), (85, 1, 6, 3, 0, 1, []), (88, 6, 0, 22, 0, 0, []), (91, 0, 0, 0, 0, 1, []), (92, 9, 1, 0, 0, 0, [])]
theorem k_L_fits : okP s_L_fits p_L_fits := okP_of _ (by decide +kernel) (WS_places [97, 367, 346, 347, 15, 348, 368, 190, 191, 14, 192, 97, 367, 346, 347, 15, 348, 370, 12, 371, 93, 89, 81, 77] (by decide +kernel) (by decide +kernel)) (nest_places [5] (by decide +kernel))
def p_L_nextDemand : List PI := [(0, 0, 0, 0, 0, -1, []), (1, 1, 3, 1, 0, 0, []), (2, 0, 0, 0, 0, 0, []), (3, 1, 3, 2, 0, 0, []), (4, 0, 0, 0, 0, 0, []), (5, 1, 3, 3, 0, 0, []), (6, 1, 0, 3, 0, 0, []), (7, 1, 1, 0, 0, 0, []), (8, 8, 0, 2, 13, 0, [70]), (11, 4, 3, 68, 0, 0, []), (14, 1, 1, 0, 0, 0, []), (15, 8, 1, 2, 10, 0, [48]), (18, 0, 0, 0, 0, 4, []), (19, 1, 0, 3, 0, 0, []), (20, 11, 0, 0, 10, 0, [105, 3]), (23, 1, 3, 4, 0, 0, []), (25, 1, 0, 4, 0, 0, []), (27, 5, 2, 62, 0, 0, []), (30, 1, 1, 0, 0, 0, []), (31, 1, 0, 4, 0, 0, []), (33, 11, 0, 2, 25, 0, [108, 2]), (36, 5, 0, 62, 0, 0, []), (39, 1, 1, 0, 0, 0, []), (40, 1, 0, 3, 0, 0, []), (41, 11, 0, 2, 22, 0, [111, 2]), (44, 1, 3, 5, 0, 0, []), (46, 1, 0, 1, 0, 0, []), (47, 5, 2, 56, 0, 0, []), (50, 1, 0, 5, 0, 0, []), (52, 1, 0, 2, 0, 0, []), (53, 4, 3, 62, 0, 0, []), (56, 1, 0, 4, 0, 0, []), (58, 1, 3, 1, 0, 0, []), (59, 1, 0, 5, 0, 0, []), (61, 1, 3, 2, 0, 0, []), (62, 1, 6, 3, 0, 1, []), (65, 6, 0, 6, 0, 0, []), (68, 1, 0, 1, 0, 0, []), (69, 9, 0, 0, 0, 0, [])]
theorem k_L_nextDemand : okP s_L_nextDemand p_L_nextDemand := okP_of _ (by decide +kernel) (WS_places [102, 97, 362, 342, 343, 15, 344, 363, 365, 8, 14, 366, 372, 373, 374, 14, 375] (by decide +kernel) (by decide +kernel)) (nest_places [] (by decide +kernel))
def p_L_addUse : List PI := [(0, 1, 1, 1, 0, 0, []), (1, 1, 0, 2, 0, 0, []), (2, 0, 0, 0, 0, 4, []), (3, 11, 0, 0, 5, 0, [115, 3]), (6, 1, 3, 4, 0, 0, []), (8, 0, 0, 0, 0, 0, []), (9, 1, 3, 5, 0, 0, []), (11, 1, 0, 5, 0, 0, []), (13, 0, 0, 0, 0, 4, []), (14, 4, 3, 72, 0, 0, []), (17, 1, 1, 0, 0, 0, []), (18, 1, 0, 4, 0, 0, []), (20, 11, 0, 2, 18, 0, [86, 2]), (23, 5, 0, 72, 0, 0, []), (26, 1, 0, 3, 0, 0, []), (27, 1, 1, 1, 0, 0, []), (28, 1, 0, 2, 0, 0, []), (29, 1, 0, 5, 0, 0, []), (31, 11, 0, 0, 5, 0, [115, 3]), (34, 2, 2, 0, 0, 0, []), (35, 1, 3, 6, 0, 0, []), (37, 1, 1, 0, 0, 0, []), (38, 8, 1, 2, 8, 0, [36]), (41, 1, 0, 4, 0, 0, []), (43, 1, 0, 5, 0, 0, []), (45, 11, 2, 0, 21, 0, [89, 2, 5]), (48, 7, 1, 0, 0, 0, []), (49, 8, 4, 0, 0, 0, []), (50, 1, 0, 6, 0, 0, []), (52, 2, 0, 0, 0, 0, []), (53, 10, 4, 0, 0, 0, []), (54, 1, 1, 0, 0, 0, []), (55, 8, 1, 2, 2, 0, [18]), (58, 1, 0, 5, 0, 0, []), (60, 7, 1, 0, 0, 0, []), (61, 8, 4, 0, 0, 0, []), (62, 1, 0, 6, 0, 0, []), (64, 2, 0, 0, 0, 0, []), (65, 10, 4, 0, 0, 0, []), (66, 1, 6, 5, 0, 1, []), (69, 6, 0, 11, 0, 0, []), (72, 9, 5, 0, 0, 0, [])]
theorem k_L_addUse : okP s_L_addUse p_L_addUse := okP_of _ (by decide +kernel) (WS_places [367, 346, 347, 15, 348, 368, 190, 191, 14, 192, 367, 346, 347, 15, 348, 93, 370, 12, 371, 81] (by decide +kernel) (by decide +kernel)) (nest_places [5] (by decide +kernel))
def p_L_serve : List PI := [(0, 1, 1, 0, 0, 0, []), (1, 8, 1, 2, 10, 0, [48]), (4, 1, 0, 1, 0, 0, []), (5, 0, 0, 0, 0, 4, []), (6, 11, 0, 0, 5, 0, [115, 3]), (9, 1, 3, 2, 0, 0, []), (10, 1, 1, 0, 0, 0, []), (11, 8, 1, 2, 9, 0, [44]), (14, 1, 1, 0, 0, 0, []), (15, 8, 1, 2, 10, 0, [48]), (18, 1, 0, 1, 0, 0, []), (19, 1, 1, 0, 0, 0, []), (20, 8, 0, 2, 16, 0, [76]), (23, 11, 0, 0, 7, 0, [118, 4]), (26, 1, 1, 0, 0, 0, []), (27, 7, 0, 0, 0, 0, []), (28, 8, 0, 2, 16, 0, [76]), (31, 0, 0, 0, 0, 1, []), (32, 2, 0, 0, 0, 0, []), (33, 10, 0, 2, 16, 0, [76]), (36, 1, 1, 0, 0, 0, []), (37, 1, 1, 0, 0, 0, []), (38, 8, 1, 2, 10, 0, [48]), (41, 1, 0, 1, 0, 0, []), (42, 0, 0, 0, 0, 1, []), (43, 11, 0, 2, 27, 0, [122, 4]), (46, 1, 1, 0, 0, 0, []), (47, 8, 1, 2, 10, 0, [48]), (50, 1, 0, 1, 0, 0, []), (51, 11, 0, 0, 8, 0, [125, 2]), (54, 1, 0, 2, 0, 0, []), (55, 9, 0, 0, 0, 0, [])]
theorem k_L_serve : okP s_L_serve p_L_serve := okP_of _ (by decide +kernel) (WS_places [97, 367, 346, 347, 15, 348, 95, 97, 108, 381, 382, 383, 15, 384, 108, 108, 97, 385, 387, 9, 14, 388, 97, 389, 351, 352, 15, 353] (by decide +kernel) (by decide +kernel)) (nest_places [] (by decide +kernel))
def p_L_serveAll : List PI := [(0, 0, 0, 0, 0, 0, []), (1, 1, 3, 2, 0, 0, []), (2, 1, 0, 2, 0, 0, []), (3, 1, 1, 1, 0, 0, []), (4, 8, 6, 0, 0, 0, []), (5, 4, 3, 47, 0, 0, []), (8, 1, 1, 0, 0, 0, []), (9, 8, 1, 2, 9, 0, [44]), (12, 11, 0, 0, 3, 0, [128, 1]), (15, 5, 0, 22, 0, 0, []), (18, 0, 0, 0, 0, -1, []), (19, 6, 0, 26, 0, 0, []), (22, 1, 1, 0, 0, 0, []), (23, 11, 0, 2, 26, 0, [132, 1]), (26, 1, 3, 3, 0, 0, []), (27, 1, 0, 3, 0, 0, []), (28, 5, 3, 33, 0, 0, []), (31, 1, 0, 2, 0, 0, []), (32, 9, 0, 0, 0, 0, []), (33, 1, 1, 1, 0, 0, []), (34, 1, 0, 2, 0, 0, []), (35, 1, 1, 0, 0, 0, []), (36, 1, 0, 3, 0, 0, []), (37, 11, 0, 2, 28, 0, [136, 2]), (40, 10, 4, 0, 0, 0, []), (41, 1, 6, 2, 0, 1, []), (44, 6, 0, 2, 0, 0, []), (47, 1, 1, 1, 0, 0, []), (48, 8, 6, 0, 0, 0, []), (49, 9, 0, 0, 0, 0, [])]
theorem k_L_serveAll : okP s_L_serveAll p_L_serveAll := okP_of _ (by decide +kernel) (WS_places [95, 424, 300, 301, 15, 302, 425, 359, 360, 14, 361, 426, 378, 379, 14, 380] (by decide +kernel) (by decide +kernel)) (nest_places [] (by decide +kernel))
def p_L_endGrant : List PI := [(0, 1, 1, 0, 0, 0, []), (1, 1, 1, 0, 0, 0, []), (2, 8, 1, 2, 9, 0, [44]), (5, 1, 0, 1, 0, 0, []), (6, 0, 0, 0, 0, -1, []), (7, 11, 0, 2, 27, 0, [122, 4]), (10, 1, 1, 0, 0, 0, []), (11, 8, 1, 2, 9, 0, [44]), (14, 1, 0, 1, 0, 0, []), (15, 11, 0, 0, 8, 0, [125, 2]), (18, 9, 5, 0, 0, 0, [])]
theorem k_L_endGrant : okP s_L_endGrant p_L_endGrant := okP_of _ (by decide +kernel) (WS_places [95, 385, 387, 9, 14, 388, 95, 389, 351, 352, 15, 353] (by decide +kernel) (by decide +kernel)) (nest_places [] (by decide +kernel))
def p_L_placeOf : List PI := [(0, 0, 0, 0, 0, 0, []), (1, 1, 3, 2, 0, 0, []), (2, 1, 0, 2, 0, 0, []), (3, 1, 1, 0, 0, 0, []), (4, 8, 0, 2, 12, 0, [67]), (7, 4, 3, 34, 0, 0, []), (10, 1, 0, 2, 0, 0, []), (11, 0, 0, 0, 1, 6, []), (13, 4, 3, 34, 0, 0, []), (16, 1, 1, 0, 0, 0, []), (17, 8, 1, 2, 11, 0, [51]), (20, 1, 0, 2, 0, 0, []), (21, 8, 4, 0, 0, 0, []), (22, 1, 0, 1, 0, 0, []), (23, 4, 1, 28, 0, 0, []), (26, 1, 0, 2, 0, 0, []), (27, 9, 0, 0, 0, 0, []), (28, 1, 6, 2, 0, 1, []), (31, 6, 0, 2, 0, 0, []), (34, 0, 0, 0, 0, -1, []), (35, 9, 0, 0, 0, 0, [])]
theorem k_L_placeOf : okP s_L_placeOf p_L_placeOf := okP_of _ (by decide +kernel) (WS_places [100, 99] (by decide +kernel) (by decide +kernel)) (nest_places [] (by decide +kernel))
def p_L_isBankrupt : List PI := [(0, 1, 1, 0, 0, 0, []), (1, 1, 0, 1, 0, 0, []), (2, 11, 0, 2, 31, 0, [139, 2]), (5, 5, 2, 12, 0, 0, []), (8, 0, 0, 0, 0, 1, []), (9, 6, 0, 13, 0, 0, []), (12, 0, 0, 0, 0, 0, []), (13, 9, 1, 0, 0, 0, [])]
theorem k_L_isBankrupt : okP s_L_isBankrupt p_L_isBankrupt := okP_of _ (by decide +kernel) (WS_places [198, 199, 200, 14, 201] (by decide +kernel) (by decide +kernel)) (nest_places [] (by decide +kernel))
def p_V_init : List PI := [(0, 1, 1, 0, 0, 0, []), (1, 12, 3, 0, 0, 0, [3]), (4, 1, 1, 0, 0, 0, []), (5, 0, 0, 0, 1, 60, []), (7, 10, 7, 0, 0, 0, []), (9, 10, 1, 3, 0, 0, [9]), (12, 1, 1, 0, 0, 0, []), (13, 0, 0, 0, 0, 4, []), (14, 10, 7, 0, 0, 0, []), (16, 10, 1, 3, 1, 0, [15]), (19, 9, 5, 0, 0, 0, [])]
theorem k_V_init : okP s_V_init p_V_init := okP_of _ (by decide +kernel) (WS_places [36, 29, 30, 49, 37, 49, 38] (by decide +kernel) (by decide +kernel)) (nest_places [] (by decide +kernel))
def p_V_append : List PI := [(0, 1, 1, 0, 0, 0, []), (1, 8, 0, 3, 2, 0, [18]), (4, 0, 0, 0, 1, 60, []), (6, 4, 2, 11, 0, 0, []), (9, 0, 0, 0, 0, 0, []), (10, 9, 1, 0, 0, 0, []), (11, 1, 1, 0, 0, 0, []), (12, 8, 1, 3, 0, 0, [9]), (15, 1, 1, 0, 0, 0, []), (16, 8, 0, 3, 2, 0, [18]), (19, 1, 0, 1, 0, 0, []), (20, 10, 4, 0, 0, 0, []), (21, 1, 1, 0, 0, 0, []), (22, 7, 0, 0, 0, 0, []), (23, 8, 0, 3, 2, 0, [18]), (26, 0, 0, 0, 0, 1, []), (27, 2, 0, 0, 0, 0, []), (28, 10, 0, 3, 2, 0, [18]), (31, 0, 0, 0, 0, 1, []), (32, 9, 1, 0, 0, 0, [])]
theorem k_V_append : okP s_V_append p_V_append := okP_of _ (by decide +kernel) (WS_places [40, 37, 40, 40, 40] (by decide +kernel) (by decide +kernel)) (nest_places [] (by decide +kernel))
def p_V_hasUnits : List PI := [(0, 0, 0, 0, 0, 0, []), (1, 1, 3, 1, 0, 0, []), (2, 1, 0, 1, 0, 0, []), (3, 0, 0, 0, 0, 4, []), (4, 4, 3, 24, 0, 0, []), (7, 1, 1, 0, 0, 0, []), (8, 8, 1, 3, 1, 0, [15]), (11, 1, 0, 1, 0, 0, []), (12, 8, 4, 0, 0, 0, []), (13, 5, 5, 18, 0, 0, []), (16, 0, 0, 0, 0, 1, []), (17, 9, 1, 0, 0, 0, []), (18, 1, 6, 1, 0, 1, []), (21, 6, 0, 2, 0, 0, []), (24, 0, 0, 0, 0, 0, []), (25, 9, 1, 0, 0, 0, [])]
theorem k_V_hasUnits : okP s_V_hasUnits p_V_hasUnits := okP_of _ (by decide +kernel) (WS_places [38] (by decide +kernel) (by decide +kernel)) (nest_places [] (by decide +kernel))
def p_V_byteAt : List PI := [(0, 1, 0, 1, 0, 0, []), (1, 5, 2, 27, 0, 0, []), (4, 1, 0, 1, 0, 0, []), (5, 1, 1, 0, 0, 0, []), (6, 8, 0, 3, 2, 0, [18]), (9, 4, 3, 27, 0, 0, []), (12, 1, 0, 1, 0, 0, []), (13, 0, 0, 0, 1, 60, []), (15, 4, 3, 27, 0, 0, []), (18, 1, 1, 0, 0, 0, []), (19, 8, 1, 3, 0, 0, [9]), (22, 1, 0, 1, 0, 0, []), (23, 8, 4, 0, 0, 0, []), (24, 6, 0, 29, 0, 0, []), (27, 0, 0, 40, 3, -1000003, []), (29, 9, 0, 0, 0, 0, [])]
theorem k_V_byteAt : okP s_V_byteAt p_V_byteAt := okP_of _ (by decide +kernel) (WS_places [40, 37, 214] (by decide +kernel) (by decide +kernel)) (nest_places [] (by decide +kernel))
def p_V_afterBlanks : List PI := [(0, 1, 0, 1, 0, 0, []), (1, 1, 3, 2, 0, 0, []), (2, 1, 0, 2, 0, 0, []), (3, 1, 1, 0, 0, 0, []), (4, 8, 0, 3, 2, 0, [18]), (7, 4, 3, 26, 0, 0, []), (10, 1, 1, 0, 0, 0, []), (11, 1, 0, 2, 0, 0, []), (12, 11, 0, 3, 36, 0, [41, 2]), (15, 0, 0, 0, 1, 32, []), (17, 4, 1, 26, 0, 0, []), (20, 1, 6, 2, 0, 1, []), (23, 6, 0, 2, 0, 0, []), (26, 1, 0, 2, 0, 0, []), (27, 9, 0, 0, 0, 0, [])]
theorem k_V_afterBlanks : okP s_V_afterBlanks p_V_afterBlanks := okP_of _ (by decide +kernel) (WS_places [40, 210, 212, 1, 13, 213] (by decide +kernel) (by decide +kernel)) (nest_places [] (by decide +kernel))
def p_V_afterLetters : List PI := [(0, 1, 0, 1, 0, 0, []), (1, 1, 3, 2, 0, 0, []), (2, 1, 0, 2, 0, 0, []), (3, 1, 1, 0, 0, 0, []), (4, 8, 0, 3, 2, 0, [18]), (7, 4, 3, 31, 0, 0, []), (10, 1, 1, 0, 0, 0, []), (11, 1, 0, 2, 0, 0, []), (12, 11, 0, 3, 36, 0, [41, 2]), (15, 0, 0, 0, 1, 97, []), (17, 0, 0, 0, 1, 122, []), (19, 11, 2, 0, 4, 0, [44, 3, 1]), (22, 5, 0, 31, 0, 0, []), (25, 1, 6, 2, 0, 1, []), (28, 6, 0, 2, 0, 0, []), (31, 1, 0, 2, 0, 0, []), (32, 9, 0, 0, 0, 0, [])]
theorem k_V_afterLetters : okP s_V_afterLetters p_V_afterLetters := okP_of _ (by decide +kernel) (WS_places [40, 210, 212, 1, 13, 213, 220, 12, 221] (by decide +kernel) (by decide +kernel)) (nest_places [1] (by decide +kernel))
def p_V_nameOf : List PI := [(0, 1, 0, 0, 0, 0, []), (1, 6, 1, 37, 27, 0, [28, 31, 34]), (28, 0, 2, 0, 0, 0, []), (30, 9, 4, 0, 0, 0, []), (31, 0, 2, 1, 0, 0, []), (33, 9, 4, 0, 0, 0, []), (34, 0, 2, 2, 0, 0, []), (36, 9, 4, 0, 0, 0, []), (37, 0, 2, 3, 0, 0, []), (39, 9, 4, 0, 0, 0, [])]
theorem k_V_nameOf : okP s_V_nameOf p_V_nameOf := okP_of _ (by decide +kernel) (WS_places [] (by decide +kernel) (by decide +kernel)) (nest_places [] (by decide +kernel))
def p_S_coder : List PI := [(0, 0, 3, 38, 0, 0, []), (3, 5, 0, 13, 0, 0, []), (6, 1, 1, 0, 0, 0, []), (7, 8, 8, 0, 0, 0, [15]), (10, 6, 0, 14, 0, 0, []), (13, 0, 0, 0, 0, 1, []), (14, 9, 2, 0, 0, 0, [])]
theorem k_S_coder : okP s_S_coder p_S_coder := okP_of _ (by decide +kernel) (WS_places [245, 590] (by decide +kernel) (by decide +kernel)) (nest_places [] (by decide +kernel))
def p_S_length : List PI := [(0, 1, 1, 0, 0, 0, []), (1, 8, 7, 0, 0, 0, [9]), (4, 8, 10, 0, 0, 0, []), (5, 1, 1, 0, 0, 0, []), (6, 11, 3, 0, 40, 0, [335, 1]), (9, 2, 9, 0, 0, 0, []), (10, 9, 0, 0, 0, 0, [])]
theorem k_S_length : okP s_S_length p_S_length := okP_of _ (by decide +kernel) (WS_places [589, 241, 242, 243, 19, 244] (by decide +kernel) (by decide +kernel)) (nest_places [] (by decide +kernel))
def p_S_isLatin1 : List PI := [(0, 0, 3, 38, 0, 0, []), (3, 5, 0, 17, 0, 0, []), (6, 1, 1, 0, 0, 0, []), (7, 8, 8, 0, 0, 0, [15]), (10, 5, 1, 17, 0, 0, []), (13, 0, 0, 0, 0, 1, []), (14, 6, 0, 18, 0, 0, []), (17, 0, 0, 0, 0, 0, []), (18, 9, 1, 0, 0, 0, [])]
theorem k_S_isLatin1 : okP s_S_isLatin1 p_S_isLatin1 := okP_of _ (by decide +kernel) (WS_places [245, 590] (by decide +kernel) (by decide +kernel)) (nest_places [] (by decide +kernel))
def p_P_checkIndex : List PI := [(0, 1, 0, 0, 0, 0, []), (1, 5, 2, 9, 0, 0, []), (4, 1, 0, 0, 0, 0, []), (5, 1, 0, 1, 0, 0, []), (6, 4, 2, 16, 0, 0, []), (9, 1, 1, 2, 0, 0, []), (10, 1, 0, 0, 0, 0, []), (11, 1, 0, 1, 0, 0, []), (12, 13, 0, 0, 3, 0, []), (15, 13, 1, 0, 1, 0, []), (16, 1, 0, 0, 0, 0, []), (17, 9, 0, 0, 0, 0, [])]
theorem k_P_checkIndex : okP s_P_checkIndex p_P_checkIndex := okP_of _ (by decide +kernel) (WS_places [] (by decide +kernel) (by decide +kernel)) (nest_places [] (by decide +kernel))
def p_S_checkIndex : List PI := [(0, 1, 0, 0, 0, 0, []), (1, 1, 0, 1, 0, 0, []), (2, 0, 4, 1053, 0, 0, []), (5, 11, 1, 0, 43, 0, [1059, 3]), (8, 7, 2, 0, 0, 0, []), (9, 9, 5, 0, 0, 0, [])]
theorem k_S_checkIndex : okP s_S_checkIndex p_S_checkIndex := okP_of _ (by decide +kernel) (WS_places [261, 263, 264, 21, 265] (by decide +kernel) (by decide +kernel)) (nest_places [] (by decide +kernel))
def p_S1_charAt : List PI := [(0, 1, 0, 1, 0, 0, []), (1, 1, 1, 0, 0, 0, []), (2, 8, 10, 0, 0, 0, []), (3, 11, 1, 0, 44, 0, [9, 2]), (6, 1, 1, 0, 0, 0, []), (7, 1, 0, 1, 0, 0, []), (8, 8, 9, 0, 0, 0, []), (9, 0, 0, 0, 2, 255, []), (12, 2, 6, 0, 0, 0, []), (13, 3, 4, 0, 0, 0, []), (14, 9, 2, 0, 0, 0, [])]
theorem k_S1_charAt : okP s_S1_charAt p_S1_charAt := okP_of _ (by decide +kernel) (WS_places [258, 259, 19, 260] (by decide +kernel) (by decide +kernel)) (nest_places [] (by decide +kernel))
def p_S_charAt : List PI := [(0, 1, 1, 0, 0, 0, []), (1, 11, 3, 0, 42, 0, [492, 1]), (4, 5, 0, 16, 0, 0, []), (7, 1, 1, 0, 0, 0, []), (8, 8, 7, 0, 0, 0, [9]), (11, 1, 0, 1, 0, 0, []), (12, 11, 1, 0, 45, 0, [495, 2]), (15, 9, 2, 0, 0, 0, []), (16, 1, 1, 0, 0, 0, []), (17, 8, 7, 0, 0, 0, [9]), (20, 1, 0, 1, 0, 0, []), (21, 13, 0, 0, 3, 0, []), (24, 9, 2, 0, 0, 0, [])]
theorem k_S_charAt : okP s_S_charAt p_S_charAt := okP_of _ (by decide +kernel) (WS_places [251, 252, 253, 19, 254, 589, 255, 256, 20, 257, 589] (by decide +kernel) (by decide +kernel)) (nest_places [] (by decide +kernel))
def p_V_isBetween : List PI := [(0, 1, 0, 3, 0, 0, []), (1, 1, 0, 2, 0, 0, []), (2, 2, 1, 0, 0, 0, []), (3, 1, 1, 1, 0, 0, []), (4, 11, 3, 0, 41, 0, [56, 1]), (7, 4, 0, 12, 0, 0, []), (10, 0, 0, 0, 0, 0, []), (11, 9, 1, 0, 0, 0, []), (12, 0, 0, 0, 0, 0, []), (13, 1, 3, 4, 0, 0, []), (15, 1, 0, 4, 0, 0, []), (17, 1, 1, 1, 0, 0, []), (18, 11, 3, 0, 41, 0, [56, 1]), (21, 4, 3, 49, 0, 0, []), (24, 1, 1, 0, 0, 0, []), (25, 1, 0, 2, 0, 0, []), (26, 1, 0, 4, 0, 0, []), (28, 2, 0, 0, 0, 0, []), (29, 11, 0, 3, 36, 0, [41, 2]), (32, 1, 1, 1, 0, 0, []), (33, 1, 0, 4, 0, 0, []), (35, 11, 3, 0, 46, 0, [61, 2]), (38, 4, 0, 43, 0, 0, []), (41, 0, 0, 0, 0, 0, []), (42, 9, 1, 0, 0, 0, []), (43, 1, 6, 4, 0, 1, []), (46, 6, 0, 15, 0, 0, []), (49, 0, 0, 0, 0, 1, []), (50, 9, 1, 0, 0, 0, [])]
theorem k_V_isBetween : okP s_V_isBetween p_V_isBetween := okP_of _ (by decide +kernel) (WS_places [237, 238, 239, 19, 240, 237, 238, 239, 19, 240, 210, 212, 1, 13, 213, 247, 248, 249, 19, 250] (by decide +kernel) (by decide +kernel)) (nest_places [] (by decide +kernel))
def p_V_nameBetween : List PI := [(0, 0, 0, 0, 0, 0, []), (1, 1, 3, 3, 0, 0, []), (2, 1, 0, 3, 0, 0, []), (3, 0, 0, 0, 0, 4, []), (4, 4, 3, 28, 0, 0, []), (7, 1, 1, 0, 0, 0, []), (8, 1, 0, 3, 0, 0, []), (9, 11, 1, 0, 39, 0, [48, 1]), (12, 1, 0, 1, 0, 0, []), (13, 1, 0, 2, 0, 0, []), (14, 11, 0, 3, 47, 0, [52, 4]), (17, 5, 0, 22, 0, 0, []), (20, 1, 0, 3, 0, 0, []), (21, 9, 0, 0, 0, 0, []), (22, 1, 6, 3, 0, 1, []), (25, 6, 0, 2, 0, 0, []), (28, 0, 0, 0, 0, -1, []), (29, 9, 0, 0, 0, 0, [])]
theorem k_V_nameBetween : okP s_V_nameBetween p_V_nameBetween := okP_of _ (by decide +kernel) (WS_places [226, 227, 13, 228, 233, 235, 4, 13, 236] (by decide +kernel) (by decide +kernel)) (nest_places [] (by decide +kernel))
def p_V_isDigit : List PI := [(0, 1, 1, 0, 0, 0, []), (1, 1, 0, 1, 0, 0, []), (2, 11, 0, 3, 36, 0, [41, 2]), (5, 0, 0, 0, 1, 48, []), (7, 0, 0, 0, 1, 57, []), (9, 11, 2, 0, 4, 0, [44, 3, 1]), (12, 9, 1, 0, 0, 0, [])]
theorem k_V_isDigit : okP s_V_isDigit p_V_isDigit := okP_of _ (by decide +kernel) (WS_places [210, 212, 1, 13, 213, 220, 12, 221] (by decide +kernel) (by decide +kernel)) (nest_places [1] (by decide +kernel))
def p_V_numberBetween : List PI := [(0, 0, 0, 0, 0, 0, []), (1, 1, 3, 3, 0, 0, []), (2, 1, 0, 1, 0, 0, []), (3, 1, 3, 4, 0, 0, []), (5, 1, 0, 4, 0, 0, []), (7, 1, 0, 2, 0, 0, []), (8, 4, 3, 32, 0, 0, []), (11, 0, 0, 0, 1, 10, []), (13, 1, 0, 3, 0, 0, []), (14, 2, 2, 0, 0, 0, []), (15, 1, 1, 0, 0, 0, []), (16, 1, 0, 4, 0, 0, []), (18, 11, 0, 3, 36, 0, [41, 2]), (21, 2, 0, 0, 0, 0, []), (22, 0, 0, 0, 1, 48, []), (24, 2, 1, 0, 0, 0, []), (25, 1, 3, 3, 0, 0, []), (26, 1, 6, 4, 0, 1, []), (29, 6, 0, 5, 0, 0, []), (32, 1, 0, 3, 0, 0, []), (33, 9, 0, 0, 0, 0, [])]
theorem k_V_numberBetween : okP s_V_numberBetween p_V_numberBetween := okP_of _ (by decide +kernel) (WS_places [210, 212, 1, 13, 213] (by decide +kernel) (by decide +kernel)) (nest_places [] (by decide +kernel))
def p_V_read : List PI := [(0, 0, 0, 0, 0, 0, []), (1, 1, 3, 1, 0, 0, []), (2, 1, 0, 1, 0, 0, []), (3, 0, 0, 0, 0, 4, []), (4, 4, 3, 20, 0, 0, []), (7, 1, 1, 0, 0, 0, []), (8, 8, 1, 3, 1, 0, [15]), (11, 1, 0, 1, 0, 0, []), (12, 0, 0, 0, 0, 0, []), (13, 10, 4, 0, 0, 0, []), (14, 1, 6, 1, 0, 1, []), (17, 6, 0, 2, 0, 0, []), (20, 0, 0, 0, 0, 0, []), (21, 1, 3, 1, 0, 0, []), (22, 1, 1, 0, 0, 0, []), (23, 0, 0, 0, 0, 0, []), (24, 11, 0, 3, 37, 0, [22, 2]), (27, 1, 3, 2, 0, 0, []), (28, 0, 0, 0, 0, 0, []), (29, 1, 3, 3, 0, 0, []), (30, 1, 0, 3, 0, 0, []), (31, 0, 0, 0, 0, 4, []), (32, 4, 4, 147, 0, 0, []), (35, 1, 0, 2, 0, 0, []), (36, 1, 1, 0, 0, 0, []), (37, 8, 0, 3, 2, 0, [18]), (40, 4, 3, 147, 0, 0, []), (43, 1, 1, 0, 0, 0, []), (44, 1, 0, 2, 0, 0, []), (45, 11, 0, 3, 38, 0, [26, 2]), (48, 1, 3, 4, 0, 0, []), (50, 1, 1, 0, 0, 0, []), (51, 1, 0, 2, 0, 0, []), (52, 1, 0, 4, 0, 0, []), (54, 11, 0, 3, 48, 0, [29, 3]), (57, 1, 3, 5, 0, 0, []), (59, 1, 0, 5, 0, 0, []), (61, 5, 2, 73, 0, 0, []), (64, 1, 0, 1, 0, 0, []), (65, 1, 0, 5, 0, 0, []), (67, 2, 9, 0, 0, 0, []), (68, 0, 0, 0, 0, 1, []), (69, 2, 6, 0, 0, 0, []), (70, 5, 0, 75, 0, 0, []), (73, 1, 0, 2, 0, 0, []), (74, 9, 0, 0, 0, 0, []), (75, 1, 0, 1, 0, 0, []), (76, 0, 0, 0, 0, 1, []), (77, 1, 0, 5, 0, 0, []), (79, 2, 8, 0, 0, 0, []), (80, 2, 7, 0, 0, 0, []), (81, 1, 3, 1, 0, 0, []), (82, 1, 1, 0, 0, 0, []), (83, 1, 0, 4, 0, 0, []), (85, 11, 0, 3, 37, 0, [22, 2]), (88, 1, 3, 2, 0, 0, []), (89, 1, 1, 0, 0, 0, []), (90, 1, 0, 2, 0, 0, []), (91, 11, 0, 3, 49, 0, [33, 2]), (94, 5, 1, 99, 0, 0, []), (97, 1, 0, 2, 0, 0, []), (98, 9, 0, 0, 0, 0, []), (99, 1, 1, 0, 0, 0, []), (100, 1, 0, 2, 0, 0, []), (101, 0, 0, 0, 0, 1, []), (102, 2, 0, 0, 0, 0, []), (103, 11, 0, 3, 49, 0, [33, 2]), (106, 5, 0, 115, 0, 0, []), (109, 1, 0, 2, 0, 0, []), (110, 0, 0, 0, 0, 2, []), (111, 2, 0, 0, 0, 0, []), (112, 6, 0, 118, 0, 0, []), (115, 1, 0, 2, 0, 0, []), (116, 0, 0, 0, 0, 1, []), (117, 2, 0, 0, 0, 0, []), (118, 1, 3, 4, 0, 0, []), (120, 1, 1, 0, 0, 0, []), (121, 8, 1, 3, 1, 0, [15]), (124, 1, 0, 5, 0, 0, []), (126, 1, 1, 0, 0, 0, []), (127, 1, 0, 2, 0, 0, []), (128, 1, 0, 4, 0, 0, []), (130, 11, 0, 3, 50, 0, [37, 3]), (133, 10, 4, 0, 0, 0, []), (134, 1, 1, 0, 0, 0, []), (135, 1, 0, 4, 0, 0, []), (137, 11, 0, 3, 37, 0, [22, 2]), (140, 1, 3, 2, 0, 0, []), (141, 1, 6, 3, 0, 1, []), (144, 6, 0, 30, 0, 0, []), (147, 0, 0, 40, 3, -1000003, []), (149, 9, 0, 0, 0, 0, [])]
theorem k_V_read : okP s_V_read p_V_read := okP_of _ (by decide +kernel) (WS_places [38, 206, 208, 0, 13, 209, 40, 215, 217, 2, 13, 218, 222, 224, 3, 13, 225, 206, 208, 0, 13, 209, 285, 287, 5, 13, 288, 285, 287, 5, 13, 288, 38, 289, 291, 6, 13, 292, 206, 208, 0, 13, 209, 214] (by decide +kernel) (by decide +kernel)) (nest_places [] (by decide +kernel))
end
section
def p_B_copy : List PI := [(0, 1, 1, 0, 0, 0, []), (1, 0, 0, 0, 0, 0, []), (2, 1, 1, 1, 0, 0, []), (3, 0, 0, 0, 0, 0, []), (4, 1, 1, 0, 0, 0, []), (5, 8, 6, 0, 0, 0, []), (6, 1, 1, 1, 0, 0, []), (7, 8, 6, 0, 0, 0, []), (8, 12, 1, 0, 0, 0, [268]), (11, 12, 2, 0, 0, 0, [273]), (14, 9, 5, 0, 0, 0, [])]
theorem k_B_copy : okP s_B_copy p_B_copy := okP_of _ (by decide +kernel) (WS_places [319, 320, 16, 321, 322, 324, 323, 18] (by decide +kernel) (by decide +kernel)) (nest_places [] (by decide +kernel))
def p_B_within : List PI := [(0, 1, 0, 0, 0, 0, []), (1, 1, 0, 1, 0, 0, []), (2, 4, 2, 14, 0, 0, []), (5, 1, 0, 0, 0, 0, []), (6, 1, 0, 2, 0, 0, []), (7, 4, 4, 14, 0, 0, []), (10, 0, 0, 0, 0, 1, []), (11, 6, 0, 15, 0, 0, []), (14, 0, 0, 0, 0, 0, []), (15, 9, 1, 0, 0, 0, [])]
theorem k_B_within : okP s_B_within p_B_within := okP_of _ (by decide +kernel) (WS_places [] (by decide +kernel) (by decide +kernel)) (nest_places [] (by decide +kernel))
def p_B_isResource : List PI := [(0, 1, 0, 0, 0, 0, []), (1, 5, 2, 13, 0, 0, []), (4, 1, 0, 0, 0, 0, []), (5, 0, 0, 0, 0, 4, []), (6, 4, 3, 13, 0, 0, []), (9, 0, 0, 0, 0, 1, []), (10, 6, 0, 14, 0, 0, []), (13, 0, 0, 0, 0, 0, []), (14, 9, 1, 0, 0, 0, [])]
theorem k_B_isResource : okP s_B_isResource p_B_isResource := okP_of _ (by decide +kernel) (WS_places [] (by decide +kernel) (by decide +kernel)) (nest_places [] (by decide +kernel))
def p_B_slot : List PI := [(0, 1, 0, 0, 0, 0, []), (1, 0, 0, 0, 0, 4, []), (2, 2, 2, 0, 0, 0, []), (3, 1, 0, 1, 0, 0, []), (4, 2, 0, 0, 0, 0, []), (5, 9, 0, 0, 0, 0, [])]
theorem k_B_slot : okP s_B_slot p_B_slot := okP_of _ (by decide +kernel) (WS_places [] (by decide +kernel) (by decide +kernel)) (nest_places [] (by decide +kernel))
def p_B_init : List PI := [(0, 1, 1, 0, 0, 0, []), (1, 12, 3, 0, 0, 0, [1]), (4, 1, 1, 0, 0, 0, []), (5, 10, 6, 3, 0, 0, [7]), (8, 7, 0, 0, 0, 0, []), (9, 11, 5, 0, 33, 0, [9, 1, 0]), (12, 10, 1, 4, 0, 0, [10]), (15, 1, 1, 0, 0, 0, []), (16, 10, 6, 2, 0, 0, [16]), (19, 7, 0, 0, 0, 0, []), (20, 11, 4, 0, 12, 0, [18, 1]), (23, 10, 1, 4, 1, 0, [19]), (26, 1, 1, 0, 0, 0, []), (27, 10, 6, 2, 0, 0, [16]), (30, 7, 0, 0, 0, 0, []), (31, 11, 4, 0, 12, 0, [18, 1]), (34, 10, 1, 4, 2, 0, [23]), (37, 1, 1, 0, 0, 0, []), (38, 10, 6, 1, 0, 0, [26]), (41, 7, 0, 0, 0, 0, []), (42, 11, 4, 0, 13, 0, [28, 1]), (45, 10, 1, 4, 3, 0, [29]), (48, 1, 1, 0, 0, 0, []), (49, 0, 0, 0, 1, 24, []), (51, 10, 7, 0, 0, 0, []), (53, 10, 1, 4, 4, 0, [33]), (56, 1, 1, 0, 0, 0, []), (57, 0, 0, 0, 1, 6, []), (59, 10, 7, 0, 0, 0, []), (61, 10, 1, 4, 5, 0, [37]), (64, 9, 5, 0, 0, 0, [])]
theorem k_B_init : okP s_B_init p_B_init := okP_of _ (by decide +kernel) (WS_places [28, 29, 30, 31, 32, 13, 34, 13, 35, 166, 50, 51, 14, 52, 53, 14, 54, 167, 50, 51, 14, 52, 53, 14, 54, 168, 149, 150, 17, 151, 152, 17, 153, 169, 49, 170, 49, 171] (by decide +kernel) (by decide +kernel)) (nest_places [0] (by decide +kernel))
def p_B_type : List PI := [(0, 1, 0, 1, 0, 0, []), (1, 0, 0, 0, 0, 0, []), (2, 0, 0, 0, 1, 127, []), (4, 11, 1, 0, 4, 0, [40, 3]), (7, 5, 1, 13, 0, 0, []), (10, 0, 0, 44, 3, -1000000, []), (12, 9, 0, 0, 0, 0, []), (13, 1, 1, 0, 0, 0, []), (14, 8, 1, 4, 0, 0, [10]), (17, 1, 0, 1, 0, 0, []), (18, 11, 0, 3, 34, 0, [45, 2]), (21, 5, 0, 34, 0, 0, []), (24, 1, 1, 0, 0, 0, []), (25, 8, 1, 4, 0, 0, [10]), (28, 8, 0, 3, 2, 0, [49]), (31, 6, 0, 36, 0, 0, []), (34, 0, 0, 53, 3, -1000002, []), (36, 9, 0, 0, 0, 0, [])]
theorem k_B_type : okP s_B_type p_B_type := okP_of _ (by decide +kernel) (WS_places [443, 220, 12, 221, 193, 166, 487, 488, 489, 13, 490, 166, 41, 303] (by decide +kernel) (by decide +kernel)) (nest_places [] (by decide +kernel))
def p_B_clearText : List PI := [(0, 1, 1, 0, 0, 0, []), (1, 8, 1, 4, 0, 0, [10]), (4, 8, 0, 3, 2, 0, [49]), (7, 1, 3, 1, 0, 0, []), (8, 1, 1, 0, 0, 0, []), (9, 8, 1, 4, 0, 0, [10]), (12, 0, 0, 0, 0, 0, []), (13, 10, 0, 3, 2, 0, [49]), (16, 1, 0, 1, 0, 0, []), (17, 9, 0, 0, 0, 0, [])]
theorem k_B_clearText : okP s_B_clearText p_B_clearText := okP_of _ (by decide +kernel) (WS_places [166, 41, 166, 41] (by decide +kernel) (by decide +kernel)) (nest_places [] (by decide +kernel))
def p_B_fault : List PI := [(0, 1, 1, 0, 0, 0, []), (1, 8, 1, 4, 0, 0, [10]), (4, 11, 0, 3, 51, 0, [54, 1]), (7, 9, 0, 0, 0, 0, [])]
theorem k_B_fault : okP s_B_fault p_B_fault := okP_of _ (by decide +kernel) (WS_places [166, 202, 203, 204, 13, 205] (by decide +kernel) (by decide +kernel)) (nest_places [] (by decide +kernel))
def p_B_setResource : List PI := [(0, 1, 0, 1, 0, 0, []), (1, 11, 1, 0, 19, 0, [58, 1]), (4, 5, 0, 18, 0, 0, []), (7, 1, 0, 3, 0, 0, []), (8, 0, 0, 0, 0, 0, []), (9, 0, 0, 0, 2, 999, []), (12, 11, 1, 0, 4, 0, [40, 3]), (15, 5, 1, 21, 0, 0, []), (18, 0, 0, 44, 3, -1000000, []), (20, 9, 0, 0, 0, 0, []), (21, 1, 0, 2, 0, 0, []), (22, 5, 1, 41, 0, 0, []), (25, 1, 0, 3, 0, 0, []), (26, 1, 1, 0, 0, 0, []), (27, 8, 1, 4, 1, 0, [19]), (30, 8, 1, 2, 2, 0, [61]), (33, 1, 0, 1, 0, 0, []), (34, 8, 4, 0, 0, 0, []), (35, 4, 3, 41, 0, 0, []), (38, 0, 0, 64, 3, -1000001, []), (40, 9, 0, 0, 0, 0, []), (41, 1, 1, 0, 0, 0, []), (42, 8, 1, 4, 3, 0, [29]), (45, 1, 1, 0, 0, 0, []), (46, 8, 1, 4, 1, 0, [19]), (49, 11, 0, 1, 16, 0, [65, 2]), (52, 1, 0, 2, 0, 0, []), (53, 5, 0, 66, 0, 0, []), (56, 1, 1, 0, 0, 0, []), (57, 8, 1, 4, 1, 0, [19]), (60, 8, 1, 2, 1, 0, [69]), (63, 6, 0, 73, 0, 0, []), (66, 1, 1, 0, 0, 0, []), (67, 8, 1, 4, 1, 0, [19]), (70, 8, 1, 2, 0, 0, [72]), (73, 1, 4, 4, 0, 0, []), (75, 1, 1, 4, 0, 0, []), (77, 1, 0, 1, 0, 0, []), (78, 8, 4, 0, 0, 0, []), (79, 1, 3, 5, 0, 0, []), (81, 1, 1, 4, 0, 0, []), (83, 1, 0, 1, 0, 0, []), (84, 1, 0, 3, 0, 0, []), (85, 10, 4, 0, 0, 0, []), (86, 1, 0, 5, 0, 0, []), (88, 9, 0, 0, 0, 0, [])]
theorem k_B_setResource : okP s_B_setResource p_B_setResource := okP_of _ (by decide +kernel) (WS_places [458, 459, 12, 460, 443, 220, 12, 221, 193, 167, 82, 298, 169, 167, 304, 305, 306, 17, 307, 167, 80, 167, 78] (by decide +kernel) (by decide +kernel)) (nest_places [] (by decide +kernel))
def p_B_addTenant : List PI := [(0, 1, 0, 1, 0, 0, []), (1, 0, 0, 0, 0, 1, []), (2, 0, 0, 0, 1, 9, []), (4, 11, 1, 0, 4, 0, [40, 3]), (7, 5, 1, 13, 0, 0, []), (10, 0, 0, 44, 3, -1000000, []), (12, 9, 0, 0, 0, 0, []), (13, 1, 1, 0, 0, 0, []), (14, 8, 1, 4, 1, 0, [19]), (17, 8, 0, 2, 13, 0, [78]), (20, 0, 0, 0, 1, 6, []), (22, 4, 2, 28, 0, 0, []), (25, 0, 0, 53, 3, -1000002, []), (27, 9, 0, 0, 0, 0, []), (28, 1, 1, 0, 0, 0, []), (29, 8, 1, 4, 3, 0, [29]), (32, 1, 1, 0, 0, 0, []), (33, 8, 1, 4, 1, 0, [19]), (36, 11, 0, 1, 16, 0, [65, 2]), (39, 1, 1, 0, 0, 0, []), (40, 8, 1, 4, 1, 0, [19]), (43, 8, 0, 2, 13, 0, [78]), (46, 1, 3, 2, 0, 0, []), (47, 1, 1, 0, 0, 0, []), (48, 8, 1, 4, 1, 0, [19]), (51, 8, 1, 2, 3, 0, [81]), (54, 1, 0, 2, 0, 0, []), (55, 1, 0, 1, 0, 0, []), (56, 10, 4, 0, 0, 0, []), (57, 1, 1, 0, 0, 0, []), (58, 8, 1, 4, 1, 0, [19]), (61, 7, 0, 0, 0, 0, []), (62, 8, 0, 2, 13, 0, [78]), (65, 0, 0, 0, 0, 1, []), (66, 2, 0, 0, 0, 0, []), (67, 10, 0, 2, 13, 0, [78]), (70, 1, 0, 2, 0, 0, []), (71, 9, 0, 0, 0, 0, [])]
theorem k_B_addTenant : okP s_B_addTenant p_B_addTenant := okP_of _ (by decide +kernel) (WS_places [443, 220, 12, 221, 193, 167, 103, 303, 169, 167, 304, 305, 306, 17, 307, 167, 103, 167, 84, 167, 103, 103] (by decide +kernel) (by decide +kernel)) (nest_places [] (by decide +kernel))
def p_B_setLimit : List PI := [(0, 1, 1, 0, 0, 0, []), (1, 8, 1, 4, 1, 0, [19]), (4, 1, 0, 1, 0, 0, []), (5, 11, 0, 2, 18, 0, [84, 2]), (8, 5, 0, 29, 0, 0, []), (11, 1, 0, 2, 0, 0, []), (12, 11, 1, 0, 19, 0, [58, 1]), (15, 5, 0, 29, 0, 0, []), (18, 1, 0, 3, 0, 0, []), (19, 0, 0, 0, 0, 0, []), (20, 0, 0, 0, 2, 9999, []), (23, 11, 1, 0, 4, 0, [40, 3]), (26, 5, 1, 32, 0, 0, []), (29, 0, 0, 44, 3, -1000000, []), (31, 9, 0, 0, 0, 0, []), (32, 1, 0, 1, 0, 0, []), (33, 1, 0, 2, 0, 0, []), (34, 11, 1, 0, 21, 0, [87, 2]), (37, 1, 3, 4, 0, 0, []), (39, 1, 0, 3, 0, 0, []), (40, 1, 1, 0, 0, 0, []), (41, 8, 1, 4, 1, 0, [19]), (44, 8, 1, 2, 8, 0, [91]), (47, 1, 0, 4, 0, 0, []), (49, 8, 4, 0, 0, 0, []), (50, 4, 2, 67, 0, 0, []), (53, 1, 0, 3, 0, 0, []), (54, 1, 1, 0, 0, 0, []), (55, 8, 1, 4, 1, 0, [19]), (58, 8, 1, 2, 7, 0, [94]), (61, 1, 0, 4, 0, 0, []), (63, 8, 4, 0, 0, 0, []), (64, 4, 3, 70, 0, 0, []), (67, 0, 0, 64, 3, -1000001, []), (69, 9, 0, 0, 0, 0, []), (70, 1, 1, 0, 0, 0, []), (71, 8, 1, 4, 3, 0, [29]), (74, 1, 1, 0, 0, 0, []), (75, 8, 1, 4, 1, 0, [19]), (78, 11, 0, 1, 16, 0, [65, 2]), (81, 1, 1, 0, 0, 0, []), (82, 8, 1, 4, 1, 0, [19]), (85, 8, 1, 2, 6, 0, [97]), (88, 1, 0, 4, 0, 0, []), (90, 8, 4, 0, 0, 0, []), (91, 1, 3, 5, 0, 0, []), (93, 1, 1, 0, 0, 0, []), (94, 8, 1, 4, 1, 0, [19]), (97, 8, 1, 2, 6, 0, [97]), (100, 1, 0, 4, 0, 0, []), (102, 1, 0, 3, 0, 0, []), (103, 10, 4, 0, 0, 0, []), (104, 1, 0, 5, 0, 0, []), (106, 9, 0, 0, 0, 0, [])]
theorem k_B_setLimit : okP s_B_setLimit p_B_setLimit := okP_of _ (by decide +kernel) (WS_places [167, 189, 190, 191, 14, 192, 458, 459, 12, 460, 443, 220, 12, 221, 193, 469, 370, 12, 371, 167, 94, 167, 92, 298, 169, 167, 304, 305, 306, 17, 307, 167, 90, 167, 90] (by decide +kernel) (by decide +kernel)) (nest_places [] (by decide +kernel))
def p_B_demand : List PI := [(0, 1, 1, 0, 0, 0, []), (1, 8, 1, 4, 1, 0, [19]), (4, 1, 0, 1, 0, 0, []), (5, 11, 0, 2, 18, 0, [84, 2]), (8, 5, 1, 14, 0, 0, []), (11, 0, 0, 44, 3, -1000000, []), (13, 9, 0, 0, 0, 0, []), (14, 1, 1, 0, 0, 0, []), (15, 8, 1, 4, 1, 0, [19]), (18, 1, 0, 1, 0, 0, []), (19, 11, 0, 2, 32, 0, [100, 2]), (22, 5, 1, 47, 0, 0, []), (25, 1, 1, 0, 0, 0, []), (26, 8, 1, 4, 0, 0, [10]), (29, 11, 0, 3, 51, 0, [54, 1]), (32, 0, 0, 103, 3, -1000003, []), (34, 4, 1, 47, 0, 0, []), (37, 1, 1, 0, 0, 0, []), (38, 8, 1, 4, 0, 0, [10]), (41, 11, 0, 3, 35, 0, [104, 1]), (44, 5, 1, 50, 0, 0, []), (47, 0, 0, 64, 3, -1000001, []), (49, 9, 0, 0, 0, 0, []), (50, 1, 1, 0, 0, 0, []), (51, 8, 1, 4, 1, 0, [19]), (54, 8, 1, 2, 10, 0, [108]), (57, 11, 0, 0, 3, 0, [112, 1]), (60, 5, 0, 66, 0, 0, []), (63, 0, 0, 53, 3, -1000002, []), (65, 9, 0, 0, 0, 0, []), (66, 1, 1, 0, 0, 0, []), (67, 8, 1, 4, 3, 0, [29]), (70, 1, 1, 0, 0, 0, []), (71, 8, 1, 4, 1, 0, [19]), (74, 11, 0, 1, 16, 0, [65, 2]), (77, 1, 1, 0, 0, 0, []), (78, 8, 1, 4, 1, 0, [19]), (81, 8, 1, 2, 10, 0, [108]), (84, 1, 1, 0, 0, 0, []), (85, 8, 1, 4, 0, 0, [10]), (88, 8, 1, 3, 1, 0, [117]), (91, 1, 0, 1, 0, 0, []), (92, 11, 0, 0, 6, 0, [120, 3]), (95, 1, 1, 0, 0, 0, []), (96, 8, 1, 4, 1, 0, [19]), (99, 8, 1, 2, 10, 0, [108]), (102, 8, 0, 0, 2, 0, [124]), (105, 9, 0, 0, 0, 0, [])]
theorem k_B_demand : okP s_B_demand p_B_demand := okP_of _ (by decide +kernel) (WS_places [167, 189, 190, 191, 14, 192, 193, 167, 194, 195, 196, 14, 197, 166, 202, 203, 204, 13, 205, 293, 166, 294, 295, 296, 13, 297, 298, 167, 98, 299, 300, 301, 15, 302, 303, 169, 167, 304, 305, 306, 17, 307, 167, 98, 166, 39, 330, 331, 332, 15, 333, 167, 98, 68] (by decide +kernel) (by decide +kernel)) (nest_places [] (by decide +kernel))
def p_B_withdraw : List PI := [(0, 1, 1, 0, 0, 0, []), (1, 8, 1, 4, 1, 0, [19]), (4, 1, 0, 1, 0, 0, []), (5, 11, 0, 2, 18, 0, [84, 2]), (8, 5, 1, 14, 0, 0, []), (11, 0, 0, 44, 3, -1000000, []), (13, 9, 0, 0, 0, 0, []), (14, 1, 1, 0, 0, 0, []), (15, 8, 1, 4, 1, 0, [19]), (18, 8, 1, 2, 10, 0, [108]), (21, 0, 0, 0, 0, 4, []), (22, 1, 0, 1, 0, 0, []), (23, 11, 0, 0, 10, 0, [127, 3]), (26, 1, 3, 2, 0, 0, []), (27, 1, 0, 2, 0, 0, []), (28, 5, 3, 34, 0, 0, []), (31, 0, 0, 64, 3, -1000001, []), (33, 9, 0, 0, 0, 0, []), (34, 1, 1, 0, 0, 0, []), (35, 8, 1, 4, 3, 0, [29]), (38, 1, 1, 0, 0, 0, []), (39, 8, 1, 4, 1, 0, [19]), (42, 11, 0, 1, 16, 0, [65, 2]), (45, 1, 1, 0, 0, 0, []), (46, 8, 1, 4, 1, 0, [19]), (49, 8, 1, 2, 10, 0, [108]), (52, 1, 0, 2, 0, 0, []), (53, 11, 0, 0, 8, 0, [130, 2]), (56, 1, 1, 0, 0, 0, []), (57, 8, 1, 4, 1, 0, [19]), (60, 8, 1, 2, 10, 0, [108]), (63, 8, 0, 0, 2, 0, [124]), (66, 9, 0, 0, 0, 0, [])]
theorem k_B_withdraw : okP s_B_withdraw p_B_withdraw := okP_of _ (by decide +kernel) (WS_places [167, 189, 190, 191, 14, 192, 193, 167, 98, 341, 342, 343, 15, 344, 298, 169, 167, 304, 305, 306, 17, 307, 167, 98, 350, 351, 352, 15, 353, 167, 98, 68] (by decide +kernel) (by decide +kernel)) (nest_places [] (by decide +kernel))
def p_B_grant : List PI := [(0, 1, 1, 0, 0, 0, []), (1, 8, 1, 4, 1, 0, [19]), (4, 11, 0, 2, 26, 0, [134, 1]), (7, 1, 3, 1, 0, 0, []), (8, 1, 0, 1, 0, 0, []), (9, 5, 3, 15, 0, 0, []), (12, 0, 0, 64, 3, -1000001, []), (14, 9, 0, 0, 0, 0, []), (15, 1, 1, 0, 0, 0, []), (16, 8, 1, 4, 1, 0, [19]), (19, 8, 1, 2, 9, 0, [137]), (22, 11, 0, 0, 3, 0, [112, 1]), (25, 5, 0, 31, 0, 0, []), (28, 0, 0, 53, 3, -1000002, []), (30, 9, 0, 0, 0, 0, []), (31, 1, 1, 0, 0, 0, []), (32, 8, 1, 4, 3, 0, [29]), (35, 1, 1, 0, 0, 0, []), (36, 8, 1, 4, 1, 0, [19]), (39, 11, 0, 1, 16, 0, [65, 2]), (42, 1, 1, 0, 0, 0, []), (43, 8, 1, 4, 1, 0, [19]), (46, 1, 0, 1, 0, 0, []), (47, 11, 0, 2, 28, 0, [140, 2]), (50, 9, 0, 0, 0, 0, [])]
theorem k_B_grant : okP s_B_grant p_B_grant := okP_of _ (by decide +kernel) (WS_places [167, 358, 359, 360, 14, 361, 298, 167, 96, 299, 300, 301, 15, 302, 303, 169, 167, 304, 305, 306, 17, 307, 167, 377, 378, 379, 14, 380] (by decide +kernel) (by decide +kernel)) (nest_places [] (by decide +kernel))
def p_B_grantAll : List PI := [(0, 1, 1, 0, 0, 0, []), (1, 8, 1, 4, 1, 0, [19]), (4, 11, 0, 2, 26, 0, [134, 1]), (7, 5, 3, 13, 0, 0, []), (10, 0, 0, 64, 3, -1000001, []), (12, 9, 0, 0, 0, 0, []), (13, 1, 1, 0, 0, 0, []), (14, 8, 1, 4, 1, 0, [19]), (17, 8, 1, 2, 9, 0, [137]), (20, 11, 0, 0, 3, 0, [112, 1]), (23, 5, 0, 29, 0, 0, []), (26, 0, 0, 53, 3, -1000002, []), (28, 9, 0, 0, 0, 0, []), (29, 1, 1, 0, 0, 0, []), (30, 8, 1, 4, 3, 0, [29]), (33, 1, 1, 0, 0, 0, []), (34, 8, 1, 4, 1, 0, [19]), (37, 11, 0, 1, 16, 0, [65, 2]), (40, 1, 1, 0, 0, 0, []), (41, 8, 1, 4, 1, 0, [19]), (44, 1, 1, 0, 0, 0, []), (45, 8, 1, 4, 4, 0, [33]), (48, 11, 0, 2, 29, 0, [144, 2]), (51, 9, 0, 0, 0, 0, [])]
theorem k_B_grantAll : okP s_B_grantAll p_B_grantAll := okP_of _ (by decide +kernel) (WS_places [167, 358, 359, 360, 14, 361, 298, 167, 96, 299, 300, 301, 15, 302, 303, 169, 167, 304, 305, 306, 17, 307, 167, 170, 420, 421, 422, 14, 423] (by decide +kernel) (by decide +kernel)) (nest_places [] (by decide +kernel))
def p_B_release : List PI := [(0, 1, 1, 0, 0, 0, []), (1, 8, 1, 4, 1, 0, [19]), (4, 8, 1, 2, 9, 0, [137]), (7, 1, 0, 1, 0, 0, []), (8, 11, 0, 0, 11, 0, [148, 2]), (11, 1, 3, 2, 0, 0, []), (12, 1, 0, 2, 0, 0, []), (13, 5, 3, 19, 0, 0, []), (16, 0, 0, 44, 3, -1000000, []), (18, 9, 0, 0, 0, 0, []), (19, 1, 1, 0, 0, 0, []), (20, 8, 1, 4, 3, 0, [29]), (23, 1, 1, 0, 0, 0, []), (24, 8, 1, 4, 1, 0, [19]), (27, 11, 0, 1, 16, 0, [65, 2]), (30, 1, 1, 0, 0, 0, []), (31, 8, 1, 4, 1, 0, [19]), (34, 1, 0, 2, 0, 0, []), (35, 11, 0, 2, 30, 0, [151, 2]), (38, 1, 1, 0, 0, 0, []), (39, 8, 1, 4, 1, 0, [19]), (42, 8, 1, 2, 9, 0, [137]), (45, 8, 0, 0, 2, 0, [124]), (48, 9, 0, 0, 0, 0, [])]
theorem k_B_release : okP s_B_release p_B_release := okP_of _ (by decide +kernel) (WS_places [167, 96, 394, 395, 396, 15, 397, 193, 169, 167, 304, 305, 306, 17, 307, 167, 399, 400, 401, 14, 402, 167, 96, 68] (by decide +kernel) (by decide +kernel)) (nest_places [] (by decide +kernel))
def p_B_undo : List PI := [(0, 1, 1, 0, 0, 0, []), (1, 8, 1, 4, 3, 0, [29]), (4, 8, 0, 1, 1, 0, [187]), (7, 5, 1, 13, 0, 0, []), (10, 0, 0, 64, 3, -1000001, []), (12, 9, 0, 0, 0, 0, []), (13, 1, 1, 0, 0, 0, []), (14, 8, 1, 4, 3, 0, [29]), (17, 1, 1, 0, 0, 0, []), (18, 8, 1, 4, 1, 0, [19]), (21, 11, 0, 1, 17, 0, [188, 2]), (24, 1, 1, 0, 0, 0, []), (25, 8, 1, 4, 3, 0, [29]), (28, 8, 0, 1, 1, 0, [187]), (31, 9, 0, 0, 0, 0, [])]
theorem k_B_undo : okP s_B_undo p_B_undo := okP_of _ (by decide +kernel) (WS_places [169, 160, 298, 169, 167, 407, 408, 409, 17, 410, 169, 160] (by decide +kernel) (by decide +kernel)) (nest_places [] (by decide +kernel))
def p_B_resource : List PI := [(0, 1, 0, 1, 0, 0, []), (1, 11, 1, 0, 19, 0, [58, 1]), (4, 5, 1, 10, 0, 0, []), (7, 0, 0, 44, 3, -1000000, []), (9, 9, 0, 0, 0, 0, []), (10, 1, 0, 2, 0, 0, []), (11, 6, 1, 119, 37, 0, [48, 58, 68, 78, 87, 103]), (48, 1, 1, 0, 0, 0, []), (49, 8, 1, 4, 1, 0, [19]), (52, 8, 1, 2, 0, 0, [72]), (55, 1, 0, 1, 0, 0, []), (56, 8, 4, 0, 0, 0, []), (57, 9, 0, 0, 0, 0, []), (58, 1, 1, 0, 0, 0, []), (59, 8, 1, 4, 1, 0, [19]), (62, 8, 1, 2, 1, 0, [69]), (65, 1, 0, 1, 0, 0, []), (66, 8, 4, 0, 0, 0, []), (67, 9, 0, 0, 0, 0, []), (68, 1, 1, 0, 0, 0, []), (69, 8, 1, 4, 1, 0, [19]), (72, 8, 1, 2, 2, 0, [61]), (75, 1, 0, 1, 0, 0, []), (76, 8, 4, 0, 0, 0, []), (77, 9, 0, 0, 0, 0, []), (78, 1, 1, 0, 0, 0, []), (79, 8, 1, 4, 1, 0, [19]), (82, 1, 0, 1, 0, 0, []), (83, 11, 0, 2, 20, 0, [154, 2]), (86, 9, 0, 0, 0, 0, []), (87, 1, 1, 0, 0, 0, []), (88, 8, 1, 4, 1, 0, [19]), (91, 1, 1, 0, 0, 0, []), (92, 8, 1, 4, 1, 0, [19]), (95, 8, 1, 2, 6, 0, [97]), (98, 1, 0, 1, 0, 0, []), (99, 11, 0, 2, 23, 0, [191, 3]), (102, 9, 0, 0, 0, 0, []), (103, 1, 1, 0, 0, 0, []), (104, 8, 1, 4, 1, 0, [19]), (107, 1, 1, 0, 0, 0, []), (108, 8, 1, 4, 1, 0, [19]), (111, 8, 1, 2, 7, 0, [94]), (114, 1, 0, 1, 0, 0, []), (115, 11, 0, 2, 23, 0, [191, 3]), (118, 9, 0, 0, 0, 0, []), (119, 0, 0, 44, 3, -1000000, []), (121, 9, 0, 0, 0, 0, [])]
theorem k_B_resource : okP s_B_resource p_B_resource := okP_of _ (by decide +kernel) (WS_places [458, 459, 12, 460, 193, 167, 78, 167, 80, 167, 82, 167, 534, 535, 536, 14, 537, 167, 167, 90, 538, 539, 540, 14, 541, 167, 167, 92, 538, 539, 540, 14, 541, 193] (by decide +kernel) (by decide +kernel)) (nest_places [] (by decide +kernel))
def p_B_tenant : List PI := [(0, 1, 1, 0, 0, 0, []), (1, 8, 1, 4, 1, 0, [19]), (4, 1, 0, 1, 0, 0, []), (5, 11, 0, 2, 18, 0, [84, 2]), (8, 5, 1, 14, 0, 0, []), (11, 0, 0, 44, 3, -1000000, []), (13, 9, 0, 0, 0, 0, []), (14, 1, 0, 2, 0, 0, []), (15, 6, 1, 165, 45, 0, [60, 70, 80, 89, 106, 118, 130, 155]), (60, 1, 1, 0, 0, 0, []), (61, 8, 1, 4, 1, 0, [19]), (64, 8, 1, 2, 3, 0, [81]), (67, 1, 0, 1, 0, 0, []), (68, 8, 4, 0, 0, 0, []), (69, 9, 0, 0, 0, 0, []), (70, 1, 1, 0, 0, 0, []), (71, 8, 1, 4, 1, 0, [19]), (74, 8, 1, 2, 4, 0, [195]), (77, 1, 0, 1, 0, 0, []), (78, 8, 4, 0, 0, 0, []), (79, 9, 0, 0, 0, 0, []), (80, 1, 1, 0, 0, 0, []), (81, 8, 1, 4, 1, 0, [19]), (84, 1, 0, 1, 0, 0, []), (85, 11, 0, 2, 22, 0, [198, 2]), (88, 9, 0, 0, 0, 0, []), (89, 1, 1, 0, 0, 0, []), (90, 8, 1, 4, 1, 0, [19]), (93, 1, 0, 1, 0, 0, []), (94, 11, 0, 2, 32, 0, [100, 2]), (97, 5, 0, 104, 0, 0, []), (100, 0, 0, 0, 0, 0, []), (101, 6, 0, 105, 0, 0, []), (104, 0, 0, 0, 0, 1, []), (105, 9, 0, 0, 0, 0, []), (106, 1, 1, 0, 0, 0, []), (107, 8, 1, 4, 1, 0, [19]), (110, 8, 1, 2, 9, 0, [137]), (113, 1, 0, 1, 0, 0, []), (114, 11, 0, 0, 9, 0, [201, 2]), (117, 9, 0, 0, 0, 0, []), (118, 1, 1, 0, 0, 0, []), (119, 8, 1, 4, 1, 0, [19]), (122, 8, 1, 2, 10, 0, [108]), (125, 1, 0, 1, 0, 0, []), (126, 11, 0, 0, 9, 0, [201, 2]), (129, 9, 0, 0, 0, 0, []), (130, 1, 1, 0, 0, 0, []), (131, 8, 1, 4, 1, 0, [19]), (134, 1, 0, 1, 0, 0, []), (135, 11, 0, 2, 32, 0, [100, 2]), (138, 5, 0, 152, 0, 0, []), (141, 1, 1, 0, 0, 0, []), (142, 8, 1, 4, 1, 0, [19]), (145, 1, 0, 1, 0, 0, []), (146, 11, 0, 2, 31, 0, [204, 2]), (149, 6, 0, 154, 0, 0, []), (152, 0, 0, 103, 3, -1000003, []), (154, 9, 0, 0, 0, 0, []), (155, 1, 1, 0, 0, 0, []), (156, 8, 1, 4, 1, 0, [19]), (159, 8, 1, 2, 5, 0, [207]), (162, 1, 0, 1, 0, 0, []), (163, 8, 4, 0, 0, 0, []), (164, 9, 0, 0, 0, 0, []), (165, 0, 0, 44, 3, -1000000, []), (167, 9, 0, 0, 0, 0, [])]
theorem k_B_tenant : okP s_B_tenant p_B_tenant := okP_of _ (by decide +kernel) (WS_places [167, 189, 190, 191, 14, 192, 193, 167, 84, 167, 86, 167, 549, 373, 374, 14, 375, 167, 194, 195, 196, 14, 197, 167, 96, 550, 551, 552, 15, 553, 167, 98, 550, 551, 552, 15, 553, 167, 194, 195, 196, 14, 197, 167, 554, 199, 200, 14, 201, 293, 167, 88, 193] (by decide +kernel) (by decide +kernel)) (nest_places [] (by decide +kernel))
def p_B_account : List PI := [(0, 1, 1, 0, 0, 0, []), (1, 8, 1, 4, 1, 0, [19]), (4, 1, 0, 1, 0, 0, []), (5, 11, 0, 2, 18, 0, [84, 2]), (8, 5, 0, 18, 0, 0, []), (11, 1, 0, 2, 0, 0, []), (12, 11, 1, 0, 19, 0, [58, 1]), (15, 5, 1, 21, 0, 0, []), (18, 0, 0, 44, 3, -1000000, []), (20, 9, 0, 0, 0, 0, []), (21, 1, 0, 1, 0, 0, []), (22, 1, 0, 2, 0, 0, []), (23, 11, 1, 0, 21, 0, [87, 2]), (26, 1, 3, 4, 0, 0, []), (28, 1, 0, 3, 0, 0, []), (29, 6, 1, 103, 31, 0, [60, 71, 82, 93]), (60, 1, 1, 0, 0, 0, []), (61, 8, 1, 4, 1, 0, [19]), (64, 8, 1, 2, 6, 0, [97]), (67, 1, 0, 4, 0, 0, []), (69, 8, 4, 0, 0, 0, []), (70, 9, 0, 0, 0, 0, []), (71, 1, 1, 0, 0, 0, []), (72, 8, 1, 4, 1, 0, [19]), (75, 8, 1, 2, 7, 0, [94]), (78, 1, 0, 4, 0, 0, []), (80, 8, 4, 0, 0, 0, []), (81, 9, 0, 0, 0, 0, []), (82, 1, 1, 0, 0, 0, []), (83, 8, 1, 4, 1, 0, [19]), (86, 8, 1, 2, 8, 0, [91]), (89, 1, 0, 4, 0, 0, []), (91, 8, 4, 0, 0, 0, []), (92, 9, 0, 0, 0, 0, []), (93, 1, 1, 0, 0, 0, []), (94, 8, 1, 4, 1, 0, [19]), (97, 1, 0, 1, 0, 0, []), (98, 1, 0, 2, 0, 0, []), (99, 11, 0, 2, 24, 0, [171, 3]), (102, 9, 0, 0, 0, 0, []), (103, 0, 0, 44, 3, -1000000, []), (105, 9, 0, 0, 0, 0, [])]
theorem k_B_account : okP s_B_account p_B_account := okP_of _ (by decide +kernel) (WS_places [167, 189, 190, 191, 14, 192, 458, 459, 12, 460, 193, 469, 370, 12, 371, 167, 90, 167, 92, 167, 94, 167, 525, 526, 527, 14, 528, 193] (by decide +kernel) (by decide +kernel)) (nest_places [] (by decide +kernel))
def p_B_granted : List PI := [(0, 1, 0, 1, 0, 0, []), (1, 5, 2, 13, 0, 0, []), (4, 1, 0, 2, 0, 0, []), (5, 0, 0, 0, 0, 0, []), (6, 0, 0, 0, 0, 4, []), (7, 11, 1, 0, 4, 0, [40, 3]), (10, 5, 1, 16, 0, 0, []), (13, 0, 0, 44, 3, -1000000, []), (15, 9, 0, 0, 0, 0, []), (16, 1, 1, 0, 0, 0, []), (17, 8, 1, 4, 1, 0, [19]), (20, 8, 1, 2, 9, 0, [137]), (23, 1, 1, 0, 0, 0, []), (24, 8, 1, 4, 1, 0, [19]), (27, 8, 1, 2, 9, 0, [137]), (30, 1, 0, 1, 0, 0, []), (31, 11, 0, 0, 11, 0, [148, 2]), (34, 1, 0, 2, 0, 0, []), (35, 11, 0, 0, 5, 0, [210, 3]), (38, 9, 0, 0, 0, 0, [])]
theorem k_B_granted : okP s_B_granted p_B_granted := okP_of _ (by decide +kernel) (WS_places [443, 220, 12, 221, 193, 167, 96, 167, 96, 394, 395, 396, 15, 397, 565, 346, 347, 15, 348] (by decide +kernel) (by decide +kernel)) (nest_places [] (by decide +kernel))
def p_B_demanded : List PI := [(0, 1, 0, 1, 0, 0, []), (1, 5, 2, 13, 0, 0, []), (4, 1, 0, 2, 0, 0, []), (5, 0, 0, 0, 0, 0, []), (6, 0, 0, 0, 0, 4, []), (7, 11, 1, 0, 4, 0, [40, 3]), (10, 5, 1, 16, 0, 0, []), (13, 0, 0, 44, 3, -1000000, []), (15, 9, 0, 0, 0, 0, []), (16, 1, 1, 0, 0, 0, []), (17, 8, 1, 4, 1, 0, [19]), (20, 8, 1, 2, 10, 0, [108]), (23, 1, 0, 1, 0, 0, []), (24, 1, 0, 2, 0, 0, []), (25, 11, 0, 0, 5, 0, [210, 3]), (28, 9, 0, 0, 0, 0, [])]
theorem k_B_demanded : okP s_B_demanded p_B_demanded := okP_of _ (by decide +kernel) (WS_places [443, 220, 12, 221, 193, 167, 98, 565, 346, 347, 15, 348] (by decide +kernel) (by decide +kernel)) (nest_places [] (by decide +kernel))
def p_B_makePlan : List PI := [(0, 1, 1, 0, 0, 0, []), (1, 8, 1, 4, 2, 0, [23]), (4, 1, 1, 0, 0, 0, []), (5, 8, 1, 4, 1, 0, [19]), (8, 11, 0, 2, 15, 0, [262, 2]), (11, 1, 1, 0, 0, 0, []), (12, 8, 1, 4, 2, 0, [23]), (15, 1, 1, 0, 0, 0, []), (16, 8, 1, 4, 4, 0, [33]), (19, 11, 0, 2, 29, 0, [144, 2]), (22, 9, 0, 0, 0, 0, [])]
theorem k_B_makePlan : okP s_B_makePlan p_B_makePlan := okP_of _ (by decide +kernel) (WS_places [168, 167, 419, 313, 314, 14, 315, 168, 170, 420, 421, 422, 14, 423] (by decide +kernel) (by decide +kernel)) (nest_places [] (by decide +kernel))
def p_B_plan : List PI := [(0, 1, 0, 1, 0, 0, []), (1, 0, 0, 0, 0, -1, []), (2, 4, 3, 8, 0, 0, []), (5, 0, 0, 44, 3, -1000000, []), (7, 9, 0, 0, 0, 0, []), (8, 1, 1, 0, 0, 0, []), (9, 11, 0, 4, 70, 0, [213, 1]), (12, 1, 3, 2, 0, 0, []), (13, 1, 0, 1, 0, 0, []), (14, 0, 0, 0, 0, -1, []), (15, 4, 1, 20, 0, 0, []), (18, 1, 0, 2, 0, 0, []), (19, 9, 0, 0, 0, 0, []), (20, 1, 0, 1, 0, 0, []), (21, 1, 0, 2, 0, 0, []), (22, 4, 3, 43, 0, 0, []), (25, 1, 0, 1, 0, 0, []), (26, 1, 1, 0, 0, 0, []), (27, 8, 1, 4, 4, 0, [33]), (30, 8, 6, 0, 0, 0, []), (31, 4, 3, 43, 0, 0, []), (34, 1, 1, 0, 0, 0, []), (35, 8, 1, 4, 4, 0, [33]), (38, 1, 0, 1, 0, 0, []), (39, 8, 4, 0, 0, 0, []), (40, 6, 0, 45, 0, 0, []), (43, 0, 0, 103, 3, -1000003, []), (45, 9, 0, 0, 0, 0, [])]
theorem k_B_plan : okP s_B_plan p_B_plan := okP_of _ (by decide +kernel) (WS_places [193, 415, 417, 10, 12, 418, 170, 170, 293] (by decide +kernel) (by decide +kernel)) (nest_places [] (by decide +kernel))
def p_B_count : List PI := [(0, 1, 0, 1, 0, 0, []), (1, 6, 1, 142, 55, 0, [56, 64, 72, 83, 94, 102, 110, 118, 126, 134]), (56, 1, 1, 0, 0, 0, []), (57, 8, 1, 4, 1, 0, [19]), (60, 8, 0, 2, 14, 0, [178]), (63, 9, 0, 0, 0, 0, []), (64, 1, 1, 0, 0, 0, []), (65, 8, 1, 4, 1, 0, [19]), (68, 8, 0, 2, 13, 0, [78]), (71, 9, 0, 0, 0, 0, []), (72, 1, 1, 0, 0, 0, []), (73, 8, 1, 4, 1, 0, [19]), (76, 8, 1, 2, 9, 0, [137]), (79, 8, 0, 0, 2, 0, [124]), (82, 9, 0, 0, 0, 0, []), (83, 1, 1, 0, 0, 0, []), (84, 8, 1, 4, 1, 0, [19]), (87, 8, 1, 2, 10, 0, [108]), (90, 8, 0, 0, 2, 0, [124]), (93, 9, 0, 0, 0, 0, []), (94, 1, 1, 0, 0, 0, []), (95, 8, 1, 4, 1, 0, [19]), (98, 8, 0, 2, 12, 0, [184]), (101, 9, 0, 0, 0, 0, []), (102, 1, 1, 0, 0, 0, []), (103, 8, 1, 4, 1, 0, [19]), (106, 8, 0, 2, 16, 0, [219]), (109, 9, 0, 0, 0, 0, []), (110, 1, 1, 0, 0, 0, []), (111, 8, 1, 4, 1, 0, [19]), (114, 8, 0, 2, 15, 0, [75]), (117, 9, 0, 0, 0, 0, []), (118, 1, 1, 0, 0, 0, []), (119, 8, 1, 4, 1, 0, [19]), (122, 8, 0, 2, 17, 0, [222]), (125, 9, 0, 0, 0, 0, []), (126, 1, 1, 0, 0, 0, []), (127, 8, 1, 4, 3, 0, [29]), (130, 8, 0, 1, 1, 0, [187]), (133, 9, 0, 0, 0, 0, []), (134, 1, 1, 0, 0, 0, []), (135, 8, 1, 4, 0, 0, [10]), (138, 8, 0, 3, 2, 0, [49]), (141, 9, 0, 0, 0, 0, []), (142, 0, 0, 44, 3, -1000000, []), (144, 9, 0, 0, 0, 0, [])]
theorem k_B_count : okP s_B_count p_B_count := okP_of _ (by decide +kernel) (WS_places [167, 105, 167, 103, 167, 96, 68, 167, 98, 68, 167, 101, 167, 109, 167, 107, 167, 111, 169, 160, 166, 41, 193] (by decide +kernel) (by decide +kernel)) (nest_places [] (by decide +kernel))
end
section
def p_W_cell : List PI := [(0, 1, 0, 1, 0, 0, []), (1, 1, 1, 0, 0, 0, []), (2, 8, 12, 0, 0, 0, []), (3, 4, 3, 12, 0, 0, []), (6, 1, 1, 0, 0, 0, []), (7, 1, 0, 1, 0, 0, []), (8, 8, 11, 0, 0, 0, []), (9, 6, 0, 18, 0, 0, []), (12, 0, 0, 7, 3, 795577677, []), (14, 1, 0, 1, 0, 0, []), (15, 0, 0, 0, 0, 1, []), (16, 2, 0, 0, 0, 0, []), (17, 2, 2, 0, 0, 0, []), (18, 9, 0, 0, 0, 0, [])]
theorem k_W_cell : okP s_W_cell p_W_cell := okP_of _ (by decide +kernel) (WS_places [430] (by decide +kernel) (by decide +kernel)) (nest_places [] (by decide +kernel))
def p_W_low : List PI := [(0, 1, 0, 0, 0, 0, []), (1, 0, 0, 8, 3, 2147483647, []), (3, 2, 6, 0, 0, 0, []), (4, 1, 0, 1, 0, 0, []), (5, 2, 4, 0, 0, 0, []), (6, 9, 0, 0, 0, 0, [])]
theorem k_W_low : okP s_W_low p_W_low := okP_of _ (by decide +kernel) (WS_places [434] (by decide +kernel) (by decide +kernel)) (nest_places [] (by decide +kernel))
def p_W_units : List PI := [(0, 1, 0, 0, 0, 0, []), (1, 0, 0, 0, 1, 7, []), (3, 1, 0, 1, 0, 0, []), (4, 2, 2, 0, 0, 0, []), (5, 2, 9, 0, 0, 0, []), (6, 0, 0, 0, 1, 127, []), (8, 2, 6, 0, 0, 0, []), (9, 9, 0, 0, 0, 0, [])]
theorem k_W_units : okP s_W_units p_W_units := okP_of _ (by decide +kernel) (WS_places [] (by decide +kernel) (by decide +kernel)) (nest_places [] (by decide +kernel))
def p_W_use : List PI := [(0, 0, 0, 0, 0, 0, []), (1, 1, 3, 3, 0, 0, []), (2, 0, 0, 0, 0, 0, []), (3, 1, 3, 4, 0, 0, []), (5, 1, 0, 4, 0, 0, []), (7, 1, 1, 0, 0, 0, []), (8, 0, 0, 0, 1, 63, []), (10, 8, 4, 0, 0, 0, []), (11, 4, 3, 50, 0, 0, []), (14, 1, 0, 3, 0, 0, []), (15, 1, 0, 2, 0, 0, []), (16, 5, 2, 30, 0, 0, []), (19, 1, 1, 0, 0, 0, []), (20, 1, 0, 4, 0, 0, []), (22, 8, 4, 0, 0, 0, []), (23, 0, 0, 0, 1, 28, []), (25, 2, 9, 0, 0, 0, []), (26, 1, 0, 2, 0, 0, []), (27, 4, 1, 41, 0, 0, []), (30, 1, 1, 0, 0, 0, []), (31, 1, 0, 4, 0, 0, []), (33, 8, 4, 0, 0, 0, []), (34, 1, 0, 1, 0, 0, []), (35, 11, 1, 0, 75, 0, [9, 2]), (38, 6, 0, 42, 0, 0, []), (41, 0, 0, 0, 0, 0, []), (42, 2, 0, 0, 0, 0, []), (43, 1, 3, 3, 0, 0, []), (44, 1, 6, 4, 0, 1, []), (47, 6, 0, 5, 0, 0, []), (50, 1, 0, 3, 0, 0, []), (51, 9, 0, 0, 0, 0, [])]
theorem k_W_use : okP s_W_use p_W_use := okP_of _ (by decide +kernel) (WS_places [451, 452, 11, 453] (by decide +kernel) (by decide +kernel)) (nest_places [] (by decide +kernel))
def p_W_price : List PI := [(0, 1, 1, 0, 0, 0, []), (1, 1, 0, 2, 0, 0, []), (2, 8, 4, 0, 0, 0, []), (3, 5, 1, 11, 0, 0, []), (6, 0, 0, 0, 1, 10, []), (8, 6, 0, 26, 0, 0, []), (11, 0, 0, 0, 0, 1, []), (12, 0, 0, 0, 1, 9, []), (14, 1, 1, 1, 0, 0, []), (15, 1, 0, 2, 0, 0, []), (16, 0, 0, 0, 0, -1, []), (17, 11, 1, 0, 76, 0, [15, 3]), (20, 2, 2, 0, 0, 0, []), (21, 1, 1, 0, 0, 0, []), (22, 1, 0, 2, 0, 0, []), (23, 8, 4, 0, 0, 0, []), (24, 2, 3, 0, 0, 0, []), (25, 2, 0, 0, 0, 0, []), (26, 9, 0, 0, 0, 0, [])]
theorem k_W_price : okP s_W_price p_W_price := okP_of _ (by decide +kernel) (WS_places [448, 449, 11, 450] (by decide +kernel) (by decide +kernel)) (nest_places [] (by decide +kernel))
def p_W_share : List PI := [(0, 0, 0, 0, 0, 0, []), (1, 1, 3, 3, 0, 0, []), (2, 0, 0, 0, 0, 0, []), (3, 1, 3, 4, 0, 0, []), (5, 1, 0, 4, 0, 0, []), (7, 0, 0, 0, 0, 4, []), (8, 4, 3, 65, 0, 0, []), (11, 1, 1, 0, 0, 0, []), (12, 1, 0, 4, 0, 0, []), (14, 8, 4, 0, 0, 0, []), (15, 5, 5, 59, 0, 0, []), (18, 0, 0, 0, 2, 10000, []), (21, 1, 1, 1, 0, 0, []), (22, 1, 0, 4, 0, 0, []), (24, 1, 0, 2, 0, 0, []), (25, 11, 1, 0, 76, 0, [15, 3]), (28, 2, 2, 0, 0, 0, []), (29, 1, 1, 0, 0, 0, []), (30, 1, 0, 4, 0, 0, []), (32, 8, 4, 0, 0, 0, []), (33, 1, 1, 0, 0, 0, []), (34, 0, 0, 0, 1, 8, []), (36, 0, 0, 0, 1, 12, []), (38, 1, 0, 2, 0, 0, []), (39, 2, 2, 0, 0, 0, []), (40, 2, 0, 0, 0, 0, []), (41, 8, 4, 0, 0, 0, []), (42, 2, 2, 0, 0, 0, []), (43, 2, 3, 0, 0, 0, []), (44, 1, 3, 5, 0, 0, []), (46, 1, 0, 5, 0, 0, []), (48, 1, 0, 3, 0, 0, []), (49, 4, 5, 57, 0, 0, []), (52, 1, 0, 5, 0, 0, []), (54, 6, 0, 58, 0, 0, []), (57, 1, 0, 3, 0, 0, []), (58, 1, 3, 3, 0, 0, []), (59, 1, 6, 4, 0, 1, []), (62, 6, 0, 5, 0, 0, []), (65, 1, 0, 3, 0, 0, []), (66, 9, 0, 0, 0, 0, [])]
theorem k_W_share : okP s_W_share p_W_share := okP_of _ (by decide +kernel) (WS_places [448, 449, 11, 450] (by decide +kernel) (by decide +kernel)) (nest_places [] (by decide +kernel))
def p_W_typesNumber : List PI := [(0, 1, 0, 1, 0, 0, []), (1, 0, 0, 0, 1, 10, []), (3, 4, 2, 20, 0, 0, []), (6, 1, 1, 0, 0, 0, []), (7, 0, 0, 0, 1, 48, []), (9, 1, 0, 1, 0, 0, []), (10, 0, 0, 0, 1, 10, []), (12, 2, 3, 0, 0, 0, []), (13, 2, 0, 0, 0, 0, []), (14, 11, 0, 4, 53, 0, [19, 2]), (17, 5, 5, 38, 0, 0, []), (20, 1, 1, 0, 0, 0, []), (21, 0, 0, 0, 1, 48, []), (23, 1, 0, 1, 0, 0, []), (24, 0, 0, 0, 1, 10, []), (26, 2, 4, 0, 0, 0, []), (27, 2, 0, 0, 0, 0, []), (28, 11, 0, 4, 53, 0, [19, 2]), (31, 5, 5, 38, 0, 0, []), (34, 0, 0, 0, 0, 1, []), (35, 6, 0, 39, 0, 0, []), (38, 0, 0, 0, 0, 0, []), (39, 9, 1, 0, 0, 0, [])]
theorem k_W_typesNumber : okP s_W_typesNumber p_W_typesNumber := okP_of _ (by decide +kernel) (WS_places [483, 484, 485, 12, 486, 483, 484, 485, 12, 486] (by decide +kernel) (by decide +kernel)) (nest_places [] (by decide +kernel))
def p_W_typesName : List PI := [(0, 1, 0, 1, 0, 0, []), (1, 5, 1, 9, 0, 0, []), (4, 0, 0, 25, 3, 6516853, []), (6, 6, 0, 31, 0, 0, []), (9, 1, 0, 1, 0, 0, []), (10, 0, 0, 0, 0, 1, []), (11, 4, 1, 19, 0, 0, []), (14, 0, 0, 26, 3, 7169389, []), (16, 6, 0, 31, 0, 0, []), (19, 1, 0, 1, 0, 0, []), (20, 0, 0, 0, 0, 2, []), (21, 4, 1, 29, 0, 0, []), (24, 0, 0, 27, 3, 7234932, []), (26, 6, 0, 31, 0, 0, []), (29, 0, 0, 28, 3, 1684632427, []), (31, 1, 3, 2, 0, 0, []), (32, 0, 0, 0, 0, 1, []), (33, 1, 3, 3, 0, 0, []), (34, 0, 0, 0, 1, 24, []), (36, 1, 3, 4, 0, 0, []), (38, 1, 0, 4, 0, 0, []), (40, 5, 2, 82, 0, 0, []), (43, 1, 0, 2, 0, 0, []), (44, 1, 0, 4, 0, 0, []), (46, 2, 9, 0, 0, 0, []), (47, 0, 0, 0, 1, 127, []), (49, 2, 6, 0, 0, 0, []), (50, 1, 3, 5, 0, 0, []), (52, 1, 0, 3, 0, 0, []), (53, 5, 0, 74, 0, 0, []), (56, 1, 0, 5, 0, 0, []), (58, 5, 0, 70, 0, 0, []), (61, 1, 1, 0, 0, 0, []), (62, 1, 0, 5, 0, 0, []), (64, 11, 0, 4, 53, 0, [19, 2]), (67, 5, 5, 74, 0, 0, []), (70, 0, 0, 0, 0, 1, []), (71, 6, 0, 75, 0, 0, []), (74, 0, 0, 0, 0, 0, []), (75, 1, 3, 3, 0, 0, []), (76, 1, 6, 4, 0, -8, []), (79, 6, 0, 38, 0, 0, []), (82, 1, 0, 3, 0, 0, []), (83, 9, 1, 0, 0, 0, [])]
theorem k_W_typesName : okP s_W_typesName p_W_typesName := okP_of _ (by decide +kernel) (WS_places [494, 495, 496, 497, 483, 484, 485, 12, 486] (by decide +kernel) (by decide +kernel)) (nest_places [] (by decide +kernel))
def p_W_types : List PI := [(0, 1, 1, 0, 0, 0, []), (1, 11, 0, 4, 54, 0, [29, 1]), (4, 5, 2, 21, 0, 0, []), (7, 1, 1, 0, 0, 0, []), (8, 0, 0, 0, 1, 32, []), (10, 11, 0, 4, 53, 0, [19, 2]), (13, 0, 0, 0, 0, 1, []), (14, 4, 1, 21, 0, 0, []), (17, 0, 0, 0, 0, 1, []), (18, 6, 0, 22, 0, 0, []), (21, 0, 0, 0, 0, 0, []), (22, 1, 3, 3, 0, 0, []), (23, 0, 0, 0, 0, 0, []), (24, 1, 3, 4, 0, 0, []), (26, 1, 0, 4, 0, 0, []), (28, 0, 0, 0, 0, 4, []), (29, 4, 3, 143, 0, 0, []), (32, 1, 0, 4, 0, 0, []), (34, 1, 0, 2, 0, 0, []), (35, 0, 0, 0, 0, 4, []), (36, 11, 1, 0, 74, 0, [33, 2]), (39, 2, 0, 0, 0, 0, []), (40, 0, 0, 0, 0, 3, []), (41, 2, 6, 0, 0, 0, []), (42, 1, 3, 5, 0, 0, []), (44, 1, 0, 1, 0, 0, []), (45, 1, 0, 5, 0, 0, []), (47, 11, 1, 0, 75, 0, [9, 2]), (50, 1, 3, 6, 0, 0, []), (52, 1, 0, 6, 0, 0, []), (54, 5, 4, 69, 0, 0, []), (57, 1, 0, 2, 0, 0, []), (58, 0, 0, 0, 0, 3, []), (59, 1, 0, 4, 0, 0, []), (61, 2, 0, 0, 0, 0, []), (62, 2, 9, 0, 0, 0, []), (63, 0, 0, 0, 0, 1, []), (64, 2, 6, 0, 0, 0, []), (65, 0, 0, 0, 0, 1, []), (66, 4, 1, 137, 0, 0, []), (69, 1, 0, 3, 0, 0, []), (70, 5, 0, 135, 0, 0, []), (73, 1, 1, 0, 0, 0, []), (74, 1, 0, 5, 0, 0, []), (76, 11, 1, 0, 80, 0, [36, 2]), (79, 5, 0, 135, 0, 0, []), (82, 1, 1, 0, 0, 0, []), (83, 11, 0, 4, 55, 0, [40, 1]), (86, 1, 1, 0, 0, 0, []), (87, 0, 0, 0, 1, 9, []), (89, 11, 0, 4, 72, 0, [43, 2]), (92, 4, 1, 135, 0, 0, []), (95, 1, 0, 2, 0, 0, []), (96, 0, 0, 0, 1, 7, []), (98, 2, 9, 0, 0, 0, []), (99, 0, 0, 0, 0, 1, []), (100, 2, 6, 0, 0, 0, []), (101, 5, 0, 113, 0, 0, []), (104, 1, 1, 0, 0, 0, []), (105, 0, 0, 0, 1, 32, []), (107, 11, 0, 4, 53, 0, [19, 2]), (110, 5, 5, 135, 0, 0, []), (113, 1, 1, 0, 0, 0, []), (114, 1, 0, 6, 0, 0, []), (116, 11, 1, 0, 79, 0, [46, 2]), (119, 5, 0, 135, 0, 0, []), (122, 1, 1, 0, 0, 0, []), (123, 11, 0, 4, 55, 0, [40, 1]), (126, 0, 0, 49, 3, -1000003, []), (128, 4, 1, 135, 0, 0, []), (131, 0, 0, 0, 0, 1, []), (132, 6, 0, 136, 0, 0, []), (135, 0, 0, 0, 0, 0, []), (136, 1, 3, 3, 0, 0, []), (137, 1, 6, 4, 0, 1, []), (140, 6, 0, 26, 0, 0, []), (143, 1, 0, 3, 0, 0, []), (144, 5, 0, 160, 0, 0, []), (147, 1, 1, 0, 0, 0, []), (148, 11, 0, 4, 55, 0, [40, 1]), (151, 0, 0, 49, 3, -1000003, []), (153, 4, 1, 160, 0, 0, []), (156, 0, 0, 0, 0, 1, []), (157, 6, 0, 161, 0, 0, []), (160, 0, 0, 0, 0, 0, []), (161, 9, 1, 0, 0, 0, [])]
theorem k_W_types : okP s_W_types p_W_types := okP_of _ (by decide +kernel) (WS_places [479, 480, 481, 12, 482, 483, 484, 485, 12, 486, 431, 432, 11, 433, 451, 452, 11, 453, 491, 492, 11, 493, 498, 499, 500, 12, 501, 502, 503, 504, 12, 505, 483, 484, 485, 12, 486, 506, 507, 11, 508, 498, 499, 500, 12, 501, 438, 498, 499, 500, 12, 501, 438] (by decide +kernel) (by decide +kernel)) (nest_places [] (by decide +kernel))
def p_W_vector : List PI := [(0, 0, 0, 0, 0, 0, []), (1, 1, 3, 1, 0, 0, []), (2, 0, 0, 0, 0, 0, []), (3, 1, 3, 2, 0, 0, []), (4, 1, 0, 2, 0, 0, []), (5, 0, 0, 0, 0, 4, []), (6, 4, 3, 49, 0, 0, []), (9, 1, 0, 1, 0, 0, []), (10, 1, 0, 0, 0, 0, []), (11, 0, 0, 0, 0, 3, []), (12, 1, 0, 2, 0, 0, []), (13, 2, 2, 0, 0, 0, []), (14, 2, 9, 0, 0, 0, []), (15, 0, 0, 0, 0, 3, []), (16, 11, 1, 0, 74, 0, [33, 2]), (19, 5, 1, 26, 0, 0, []), (22, 0, 0, 0, 0, 0, []), (23, 6, 0, 36, 0, 0, []), (26, 1, 0, 0, 0, 0, []), (27, 0, 0, 0, 0, 5, []), (28, 1, 0, 2, 0, 0, []), (29, 2, 2, 0, 0, 0, []), (30, 2, 9, 0, 0, 0, []), (31, 0, 0, 0, 1, 30, []), (33, 11, 1, 0, 74, 0, [33, 2]), (36, 0, 0, 0, 1, 7, []), (38, 1, 0, 2, 0, 0, []), (39, 2, 2, 0, 0, 0, []), (40, 2, 8, 0, 0, 0, []), (41, 2, 7, 0, 0, 0, []), (42, 1, 3, 1, 0, 0, []), (43, 1, 6, 2, 0, 1, []), (46, 6, 0, 4, 0, 0, []), (49, 1, 0, 1, 0, 0, []), (50, 9, 0, 0, 0, 0, [])]
theorem k_W_vector : okP s_W_vector p_W_vector := okP_of _ (by decide +kernel) (WS_places [431, 432, 11, 433, 431, 432, 11, 433] (by decide +kernel) (by decide +kernel)) (nest_places [] (by decide +kernel))
def p_W_addsTenant : List PI := [(0, 1, 1, 1, 0, 0, []), (1, 0, 0, 0, 1, 44, []), (3, 8, 4, 0, 0, 0, []), (4, 1, 3, 3, 0, 0, []), (5, 0, 0, 0, 0, 0, []), (6, 1, 3, 4, 0, 0, []), (8, 1, 0, 4, 0, 0, []), (10, 0, 0, 0, 1, 12, []), (12, 4, 3, 64, 0, 0, []), (15, 1, 1, 1, 0, 0, []), (16, 0, 0, 0, 1, 8, []), (18, 0, 0, 0, 1, 12, []), (20, 1, 0, 3, 0, 0, []), (21, 2, 2, 0, 0, 0, []), (22, 2, 0, 0, 0, 0, []), (23, 1, 0, 4, 0, 0, []), (25, 2, 0, 0, 0, 0, []), (26, 1, 0, 4, 0, 0, []), (28, 5, 1, 35, 0, 0, []), (31, 1, 0, 2, 0, 0, []), (32, 6, 0, 57, 0, 0, []), (35, 1, 0, 4, 0, 0, []), (37, 0, 0, 0, 0, 2, []), (38, 4, 1, 46, 0, 0, []), (41, 0, 0, 49, 3, -1000003, []), (43, 6, 0, 57, 0, 0, []), (46, 1, 0, 4, 0, 0, []), (48, 0, 0, 0, 0, 3, []), (49, 4, 1, 56, 0, 0, []), (52, 0, 0, 0, 0, 1, []), (53, 6, 0, 57, 0, 0, []), (56, 0, 0, 0, 0, 0, []), (57, 10, 4, 0, 0, 0, []), (58, 1, 6, 4, 0, 1, []), (61, 6, 0, 8, 0, 0, []), (64, 1, 1, 1, 0, 0, []), (65, 0, 0, 0, 1, 44, []), (67, 7, 1, 0, 0, 0, []), (68, 8, 4, 0, 0, 0, []), (69, 0, 0, 0, 0, 1, []), (70, 2, 0, 0, 0, 0, []), (71, 10, 4, 0, 0, 0, []), (72, 1, 1, 0, 0, 0, []), (73, 1, 0, 2, 0, 0, []), (74, 11, 0, 4, 57, 0, [50, 2]), (77, 1, 0, 3, 0, 0, []), (78, 4, 1, 95, 0, 0, []), (81, 1, 1, 0, 0, 0, []), (82, 0, 0, 0, 0, 0, []), (83, 11, 0, 4, 57, 0, [50, 2]), (86, 0, 0, 53, 3, -1000000, []), (88, 4, 1, 95, 0, 0, []), (91, 0, 0, 0, 0, 1, []), (92, 6, 0, 96, 0, 0, []), (95, 0, 0, 0, 0, 0, []), (96, 9, 1, 0, 0, 0, [])]
theorem k_W_addsTenant : okP s_W_addsTenant p_W_addsTenant := okP_of _ (by decide +kernel) (WS_places [438, 439, 440, 441, 12, 442, 439, 440, 441, 12, 442, 444] (by decide +kernel) (by decide +kernel)) (nest_places [] (by decide +kernel))
def p_W_setsResource : List PI := [(0, 1, 0, 4, 0, 0, []), (2, 5, 1, 35, 0, 0, []), (5, 1, 0, 5, 0, 0, []), (7, 1, 1, 2, 0, 0, []), (8, 1, 0, 3, 0, 0, []), (9, 0, 0, 0, 0, -1, []), (10, 11, 1, 0, 76, 0, [15, 3]), (13, 4, 3, 35, 0, 0, []), (16, 1, 1, 0, 0, 0, []), (17, 1, 0, 3, 0, 0, []), (18, 0, 0, 0, 0, 0, []), (19, 1, 0, 5, 0, 0, []), (21, 11, 0, 4, 56, 0, [54, 4]), (24, 0, 0, 58, 3, -1000001, []), (26, 4, 1, 33, 0, 0, []), (29, 0, 0, 0, 0, 1, []), (30, 6, 0, 34, 0, 0, []), (33, 0, 0, 0, 0, 0, []), (34, 9, 1, 0, 0, 0, []), (35, 1, 0, 4, 0, 0, []), (37, 5, 0, 44, 0, 0, []), (40, 0, 0, 0, 0, 4, []), (41, 6, 0, 45, 0, 0, []), (44, 0, 0, 0, 0, 0, []), (45, 1, 0, 3, 0, 0, []), (46, 2, 0, 0, 0, 0, []), (47, 1, 3, 6, 0, 0, []), (49, 1, 1, 1, 0, 0, []), (50, 1, 0, 6, 0, 0, []), (52, 8, 4, 0, 0, 0, []), (53, 1, 3, 7, 0, 0, []), (55, 1, 1, 1, 0, 0, []), (56, 1, 0, 6, 0, 0, []), (58, 1, 0, 5, 0, 0, []), (60, 10, 4, 0, 0, 0, []), (61, 1, 1, 0, 0, 0, []), (62, 1, 0, 3, 0, 0, []), (63, 1, 0, 4, 0, 0, []), (65, 1, 0, 5, 0, 0, []), (67, 11, 0, 4, 56, 0, [54, 4]), (70, 1, 0, 7, 0, 0, []), (72, 4, 1, 107, 0, 0, []), (75, 1, 1, 0, 0, 0, []), (76, 1, 0, 3, 0, 0, []), (77, 1, 0, 4, 0, 0, []), (79, 0, 0, 0, 2, 1000, []), (82, 11, 0, 4, 56, 0, [54, 4]), (85, 0, 0, 53, 3, -1000000, []), (87, 4, 1, 107, 0, 0, []), (90, 1, 1, 0, 0, 0, []), (91, 0, 0, 0, 0, 4, []), (92, 1, 0, 4, 0, 0, []), (94, 0, 0, 0, 0, 0, []), (95, 11, 0, 4, 56, 0, [54, 4]), (98, 0, 0, 53, 3, -1000000, []), (100, 4, 1, 107, 0, 0, []), (103, 0, 0, 0, 0, 1, []), (104, 6, 0, 108, 0, 0, []), (107, 0, 0, 0, 0, 0, []), (108, 9, 1, 0, 0, 0, [])]
theorem k_W_setsResource : okP s_W_setsResource p_W_setsResource := okP_of _ (by decide +kernel) (WS_places [448, 449, 11, 450, 454, 455, 456, 12, 457, 461, 454, 455, 456, 12, 457, 454, 455, 456, 12, 457, 444, 454, 455, 456, 12, 457, 444] (by decide +kernel) (by decide +kernel)) (nest_places [] (by decide +kernel))
def p_W_setsLimit : List PI := [(0, 0, 0, 0, 1, 8, []), (2, 0, 0, 0, 1, 12, []), (4, 1, 0, 3, 0, 0, []), (5, 2, 2, 0, 0, 0, []), (6, 2, 0, 0, 0, 0, []), (7, 1, 3, 6, 0, 0, []), (9, 1, 0, 5, 0, 0, []), (11, 1, 1, 2, 0, 0, []), (12, 1, 0, 4, 0, 0, []), (14, 1, 0, 3, 0, 0, []), (15, 11, 1, 0, 76, 0, [15, 3]), (18, 4, 2, 36, 0, 0, []), (21, 1, 0, 5, 0, 0, []), (23, 1, 1, 1, 0, 0, []), (24, 1, 0, 6, 0, 0, []), (26, 0, 0, 0, 1, 8, []), (28, 2, 0, 0, 0, 0, []), (29, 1, 0, 4, 0, 0, []), (31, 2, 0, 0, 0, 0, []), (32, 8, 4, 0, 0, 0, []), (33, 4, 3, 56, 0, 0, []), (36, 1, 1, 0, 0, 0, []), (37, 1, 0, 3, 0, 0, []), (38, 1, 0, 4, 0, 0, []), (40, 1, 0, 5, 0, 0, []), (42, 11, 0, 4, 58, 0, [59, 4]), (45, 0, 0, 58, 3, -1000001, []), (47, 4, 1, 54, 0, 0, []), (50, 0, 0, 0, 0, 1, []), (51, 6, 0, 55, 0, 0, []), (54, 0, 0, 0, 0, 0, []), (55, 9, 1, 0, 0, 0, []), (56, 1, 1, 1, 0, 0, []), (57, 1, 0, 6, 0, 0, []), (59, 0, 0, 0, 0, 4, []), (60, 2, 0, 0, 0, 0, []), (61, 1, 0, 4, 0, 0, []), (63, 2, 0, 0, 0, 0, []), (64, 8, 4, 0, 0, 0, []), (65, 1, 3, 7, 0, 0, []), (67, 1, 1, 1, 0, 0, []), (68, 1, 0, 6, 0, 0, []), (70, 0, 0, 0, 0, 4, []), (71, 2, 0, 0, 0, 0, []), (72, 1, 0, 4, 0, 0, []), (74, 2, 0, 0, 0, 0, []), (75, 1, 0, 5, 0, 0, []), (77, 10, 4, 0, 0, 0, []), (78, 1, 1, 0, 0, 0, []), (79, 1, 0, 3, 0, 0, []), (80, 1, 0, 4, 0, 0, []), (82, 1, 0, 5, 0, 0, []), (84, 11, 0, 4, 58, 0, [59, 4]), (87, 1, 0, 7, 0, 0, []), (89, 4, 1, 111, 0, 0, []), (92, 1, 1, 0, 0, 0, []), (93, 1, 0, 3, 0, 0, []), (94, 1, 0, 4, 0, 0, []), (96, 0, 0, 0, 2, 10000, []), (99, 11, 0, 4, 58, 0, [59, 4]), (102, 0, 0, 53, 3, -1000000, []), (104, 4, 1, 111, 0, 0, []), (107, 0, 0, 0, 0, 1, []), (108, 6, 0, 112, 0, 0, []), (111, 0, 0, 0, 0, 0, []), (112, 9, 1, 0, 0, 0, [])]
theorem k_W_setsLimit : okP s_W_setsLimit p_W_setsLimit := okP_of _ (by decide +kernel) (WS_places [448, 449, 11, 450, 465, 466, 467, 12, 468, 461, 465, 466, 467, 12, 468, 465, 466, 467, 12, 468, 444] (by decide +kernel) (by decide +kernel)) (nest_places [] (by decide +kernel))
def p_W_demands : List PI := [(0, 1, 0, 4, 0, 0, []), (2, 11, 1, 0, 82, 0, [63, 1]), (5, 1, 3, 6, 0, 0, []), (7, 1, 1, 0, 0, 0, []), (8, 1, 0, 6, 0, 0, []), (10, 1, 0, 5, 0, 0, []), (12, 11, 1, 0, 81, 0, [66, 3]), (15, 5, 1, 20, 0, 0, []), (18, 0, 0, 0, 0, 0, []), (19, 9, 1, 0, 0, 0, []), (20, 1, 1, 1, 0, 0, []), (21, 0, 0, 0, 1, 8, []), (23, 0, 0, 0, 1, 12, []), (25, 1, 0, 3, 0, 0, []), (26, 2, 2, 0, 0, 0, []), (27, 2, 0, 0, 0, 0, []), (28, 0, 0, 0, 0, 3, []), (29, 2, 0, 0, 0, 0, []), (30, 8, 4, 0, 0, 0, []), (31, 5, 0, 39, 0, 0, []), (34, 1, 0, 6, 0, 0, []), (36, 5, 1, 55, 0, 0, []), (39, 1, 1, 0, 0, 0, []), (40, 1, 0, 3, 0, 0, []), (41, 11, 0, 4, 59, 0, [70, 2]), (44, 0, 0, 58, 3, -1000001, []), (46, 4, 1, 53, 0, 0, []), (49, 0, 0, 0, 0, 1, []), (50, 6, 0, 54, 0, 0, []), (53, 0, 0, 0, 0, 0, []), (54, 9, 1, 0, 0, 0, []), (55, 1, 1, 2, 0, 0, []), (56, 0, 0, 0, 1, 63, []), (58, 8, 4, 0, 0, 0, []), (59, 0, 0, 0, 1, 20, []), (61, 4, 1, 66, 0, 0, []), (64, 0, 0, 0, 0, 1, []), (65, 9, 1, 0, 0, 0, []), (66, 1, 1, 2, 0, 0, []), (67, 1, 1, 2, 0, 0, []), (68, 0, 0, 0, 1, 63, []), (70, 8, 4, 0, 0, 0, []), (71, 1, 0, 6, 0, 0, []), (73, 1, 0, 3, 0, 0, []), (74, 0, 0, 0, 1, 28, []), (76, 2, 8, 0, 0, 0, []), (77, 2, 7, 0, 0, 0, []), (78, 10, 4, 0, 0, 0, []), (79, 1, 1, 2, 0, 0, []), (80, 0, 0, 0, 1, 63, []), (82, 7, 1, 0, 0, 0, []), (83, 8, 4, 0, 0, 0, []), (84, 0, 0, 0, 0, 1, []), (85, 2, 0, 0, 0, 0, []), (86, 10, 4, 0, 0, 0, []), (87, 1, 1, 0, 0, 0, []), (88, 1, 0, 3, 0, 0, []), (89, 11, 0, 4, 59, 0, [70, 2]), (92, 1, 1, 2, 0, 0, []), (93, 0, 0, 0, 1, 63, []), (95, 8, 4, 0, 0, 0, []), (96, 4, 1, 103, 0, 0, []), (99, 0, 0, 0, 0, 1, []), (100, 6, 0, 104, 0, 0, []), (103, 0, 0, 0, 0, 0, []), (104, 9, 1, 0, 0, 0, [])]
theorem k_W_demands : okP s_W_demands p_W_demands := okP_of _ (by decide +kernel) (WS_places [473, 474, 11, 475, 476, 477, 11, 478, 185, 186, 187, 12, 188, 461, 185, 186, 187, 12, 188] (by decide +kernel) (by decide +kernel)) (nest_places [] (by decide +kernel))
def p_W_firstOf : List PI := [(0, 0, 0, 0, 0, 0, []), (1, 1, 3, 2, 0, 0, []), (2, 1, 0, 2, 0, 0, []), (3, 1, 1, 0, 0, 0, []), (4, 0, 0, 0, 1, 63, []), (6, 8, 4, 0, 0, 0, []), (7, 4, 3, 28, 0, 0, []), (10, 1, 1, 0, 0, 0, []), (11, 1, 0, 2, 0, 0, []), (12, 8, 4, 0, 0, 0, []), (13, 0, 0, 0, 1, 28, []), (15, 2, 9, 0, 0, 0, []), (16, 1, 0, 1, 0, 0, []), (17, 4, 1, 22, 0, 0, []), (20, 1, 0, 2, 0, 0, []), (21, 9, 0, 0, 0, 0, []), (22, 1, 6, 2, 0, 1, []), (25, 6, 0, 2, 0, 0, []), (28, 0, 0, 0, 0, -1, []), (29, 9, 0, 0, 0, 0, [])]
theorem k_W_firstOf : okP s_W_firstOf p_W_firstOf := okP_of _ (by decide +kernel) (WS_places [] (by decide +kernel) (by decide +kernel)) (nest_places [] (by decide +kernel))
def p_W_next : List PI := [(0, 0, 0, 0, 0, -1, []), (1, 1, 3, 3, 0, 0, []), (2, 0, 0, 0, 0, 0, []), (3, 1, 3, 4, 0, 0, []), (5, 0, 0, 0, 0, 0, []), (6, 1, 3, 5, 0, 0, []), (8, 1, 0, 5, 0, 0, []), (10, 1, 1, 0, 0, 0, []), (11, 0, 0, 0, 1, 44, []), (13, 8, 4, 0, 0, 0, []), (14, 4, 3, 168, 0, 0, []), (17, 1, 1, 2, 0, 0, []), (18, 1, 0, 5, 0, 0, []), (20, 11, 1, 0, 87, 0, [73, 2]), (23, 1, 3, 6, 0, 0, []), (25, 1, 0, 6, 0, 0, []), (27, 5, 2, 34, 0, 0, []), (30, 0, 0, 0, 0, 1, []), (31, 6, 0, 35, 0, 0, []), (34, 0, 0, 0, 0, 0, []), (35, 1, 3, 7, 0, 0, []), (37, 0, 0, 0, 0, 0, []), (38, 1, 3, 8, 0, 0, []), (40, 1, 0, 8, 0, 0, []), (42, 0, 0, 0, 0, 4, []), (43, 4, 3, 121, 0, 0, []), (46, 1, 0, 7, 0, 0, []), (48, 5, 0, 121, 0, 0, []), (51, 1, 1, 2, 0, 0, []), (52, 1, 0, 6, 0, 0, []), (54, 8, 4, 0, 0, 0, []), (55, 1, 0, 8, 0, 0, []), (57, 11, 1, 0, 75, 0, [9, 2]), (60, 1, 3, 9, 0, 0, []), (62, 1, 1, 1, 0, 0, []), (63, 1, 0, 8, 0, 0, []), (65, 1, 0, 5, 0, 0, []), (67, 11, 1, 0, 76, 0, [15, 3]), (70, 1, 0, 9, 0, 0, []), (72, 2, 0, 0, 0, 0, []), (73, 1, 1, 0, 0, 0, []), (74, 0, 0, 0, 1, 8, []), (76, 0, 0, 0, 1, 12, []), (78, 1, 0, 5, 0, 0, []), (80, 2, 2, 0, 0, 0, []), (81, 2, 0, 0, 0, 0, []), (82, 0, 0, 0, 0, 4, []), (83, 2, 0, 0, 0, 0, []), (84, 1, 0, 8, 0, 0, []), (86, 2, 0, 0, 0, 0, []), (87, 8, 4, 0, 0, 0, []), (88, 4, 4, 112, 0, 0, []), (91, 1, 1, 1, 0, 0, []), (92, 1, 0, 8, 0, 0, []), (94, 0, 0, 0, 0, -1, []), (95, 11, 1, 0, 76, 0, [15, 3]), (98, 1, 0, 9, 0, 0, []), (100, 2, 0, 0, 0, 0, []), (101, 1, 1, 0, 0, 0, []), (102, 1, 0, 8, 0, 0, []), (104, 8, 4, 0, 0, 0, []), (105, 4, 4, 112, 0, 0, []), (108, 0, 0, 0, 0, 1, []), (109, 6, 0, 113, 0, 0, []), (112, 0, 0, 0, 0, 0, []), (113, 1, 3, 7, 0, 0, []), (115, 1, 6, 8, 0, 1, []), (118, 6, 0, 40, 0, 0, []), (121, 1, 0, 7, 0, 0, []), (123, 5, 0, 136, 0, 0, []), (126, 1, 1, 0, 0, 0, []), (127, 1, 1, 1, 0, 0, []), (128, 1, 0, 5, 0, 0, []), (130, 11, 1, 0, 78, 0, [77, 3]), (133, 6, 0, 137, 0, 0, []), (136, 0, 0, 0, 0, 0, []), (137, 1, 3, 8, 0, 0, []), (139, 1, 0, 7, 0, 0, []), (141, 5, 0, 162, 0, 0, []), (144, 1, 0, 3, 0, 0, []), (145, 5, 2, 155, 0, 0, []), (148, 1, 0, 8, 0, 0, []), (150, 1, 0, 4, 0, 0, []), (152, 4, 3, 162, 0, 0, []), (155, 1, 0, 6, 0, 0, []), (157, 1, 3, 3, 0, 0, []), (158, 1, 0, 8, 0, 0, []), (160, 1, 3, 4, 0, 0, []), (162, 1, 6, 5, 0, 1, []), (165, 6, 0, 8, 0, 0, []), (168, 1, 0, 3, 0, 0, []), (169, 9, 0, 0, 0, 0, [])]
theorem k_W_next : okP s_W_next p_W_next := okP_of _ (by decide +kernel) (WS_places [509, 510, 11, 511, 451, 452, 11, 453, 448, 449, 11, 450, 448, 449, 11, 450, 555, 556, 11, 557] (by decide +kernel) (by decide +kernel)) (nest_places [] (by decide +kernel))
def p_W_drops : List PI := [(0, 1, 1, 0, 0, 0, []), (1, 0, 0, 0, 1, 63, []), (3, 7, 1, 0, 0, 0, []), (4, 8, 4, 0, 0, 0, []), (5, 0, 0, 0, 0, 1, []), (6, 2, 1, 0, 0, 0, []), (7, 10, 4, 0, 0, 0, []), (8, 1, 0, 1, 0, 0, []), (9, 1, 3, 2, 0, 0, []), (10, 1, 0, 2, 0, 0, []), (11, 1, 1, 0, 0, 0, []), (12, 0, 0, 0, 1, 63, []), (14, 8, 4, 0, 0, 0, []), (15, 4, 3, 32, 0, 0, []), (18, 1, 1, 0, 0, 0, []), (19, 1, 0, 2, 0, 0, []), (20, 1, 1, 0, 0, 0, []), (21, 1, 0, 2, 0, 0, []), (22, 0, 0, 0, 0, 1, []), (23, 2, 0, 0, 0, 0, []), (24, 8, 4, 0, 0, 0, []), (25, 10, 4, 0, 0, 0, []), (26, 1, 6, 2, 0, 1, []), (29, 6, 0, 10, 0, 0, []), (32, 9, 5, 0, 0, 0, [])]
theorem k_W_drops : okP s_W_drops p_W_drops := okP_of _ (by decide +kernel) (WS_places [] (by decide +kernel) (by decide +kernel)) (nest_places [] (by decide +kernel))
def p_W_grants : List PI := [(0, 1, 1, 1, 0, 0, []), (1, 0, 0, 0, 1, 63, []), (3, 8, 4, 0, 0, 0, []), (4, 1, 3, 4, 0, 0, []), (6, 1, 1, 1, 0, 0, []), (7, 1, 0, 4, 0, 0, []), (9, 1, 1, 2, 0, 0, []), (10, 1, 0, 3, 0, 0, []), (11, 8, 4, 0, 0, 0, []), (12, 10, 4, 0, 0, 0, []), (13, 1, 1, 1, 0, 0, []), (14, 0, 0, 0, 1, 40, []), (16, 1, 0, 4, 0, 0, []), (18, 2, 0, 0, 0, 0, []), (19, 1, 1, 0, 0, 0, []), (20, 0, 0, 0, 1, 48, []), (22, 8, 4, 0, 0, 0, []), (23, 10, 4, 0, 0, 0, []), (24, 1, 1, 0, 0, 0, []), (25, 0, 0, 0, 1, 48, []), (27, 7, 1, 0, 0, 0, []), (28, 8, 4, 0, 0, 0, []), (29, 0, 0, 0, 0, 1, []), (30, 2, 0, 0, 0, 0, []), (31, 10, 4, 0, 0, 0, []), (32, 1, 1, 1, 0, 0, []), (33, 0, 0, 0, 1, 63, []), (35, 7, 1, 0, 0, 0, []), (36, 8, 4, 0, 0, 0, []), (37, 0, 0, 0, 0, 1, []), (38, 2, 0, 0, 0, 0, []), (39, 10, 4, 0, 0, 0, []), (40, 1, 1, 2, 0, 0, []), (41, 1, 0, 3, 0, 0, []), (42, 11, 1, 0, 89, 0, [81, 2]), (45, 1, 1, 1, 0, 0, []), (46, 1, 0, 4, 0, 0, []), (48, 8, 4, 0, 0, 0, []), (49, 0, 0, 0, 1, 28, []), (51, 2, 9, 0, 0, 0, []), (52, 9, 0, 0, 0, 0, [])]
theorem k_W_grants : okP s_W_grants p_W_grants := okP_of _ (by decide +kernel) (WS_places [512, 513, 11, 514] (by decide +kernel) (by decide +kernel)) (nest_places [] (by decide +kernel))
def p_W_ends : List PI := [(0, 1, 1, 0, 0, 0, []), (1, 0, 0, 0, 1, 63, []), (3, 7, 1, 0, 0, 0, []), (4, 8, 4, 0, 0, 0, []), (5, 0, 0, 0, 0, 1, []), (6, 2, 1, 0, 0, 0, []), (7, 10, 4, 0, 0, 0, []), (8, 1, 0, 1, 0, 0, []), (9, 1, 3, 2, 0, 0, []), (10, 1, 0, 2, 0, 0, []), (11, 1, 1, 0, 0, 0, []), (12, 0, 0, 0, 1, 63, []), (14, 8, 4, 0, 0, 0, []), (15, 4, 3, 44, 0, 0, []), (18, 1, 1, 0, 0, 0, []), (19, 1, 0, 2, 0, 0, []), (20, 1, 1, 0, 0, 0, []), (21, 1, 0, 2, 0, 0, []), (22, 0, 0, 0, 0, 1, []), (23, 2, 0, 0, 0, 0, []), (24, 8, 4, 0, 0, 0, []), (25, 10, 4, 0, 0, 0, []), (26, 1, 1, 0, 0, 0, []), (27, 0, 0, 0, 1, 40, []), (29, 1, 0, 2, 0, 0, []), (30, 2, 0, 0, 0, 0, []), (31, 1, 1, 0, 0, 0, []), (32, 0, 0, 0, 1, 41, []), (34, 1, 0, 2, 0, 0, []), (35, 2, 0, 0, 0, 0, []), (36, 8, 4, 0, 0, 0, []), (37, 10, 4, 0, 0, 0, []), (38, 1, 6, 2, 0, 1, []), (41, 6, 0, 10, 0, 0, []), (44, 9, 5, 0, 0, 0, [])]
theorem k_W_ends : okP s_W_ends p_W_ends := okP_of _ (by decide +kernel) (WS_places [] (by decide +kernel) (by decide +kernel)) (nest_places [] (by decide +kernel))
def p_W_isTold : List PI := [(0, 0, 0, 0, 0, 0, []), (1, 1, 3, 4, 0, 0, []), (3, 1, 0, 4, 0, 0, []), (5, 0, 0, 0, 0, 4, []), (6, 4, 3, 261, 0, 0, []), (9, 0, 0, 0, 0, 0, []), (10, 1, 3, 5, 0, 0, []), (12, 0, 0, 0, 0, 0, []), (13, 1, 3, 6, 0, 0, []), (15, 0, 0, 0, 0, 0, []), (16, 1, 3, 7, 0, 0, []), (18, 1, 0, 7, 0, 0, []), (20, 1, 1, 1, 0, 0, []), (21, 0, 0, 0, 1, 44, []), (23, 8, 4, 0, 0, 0, []), (24, 4, 3, 165, 0, 0, []), (27, 0, 0, 0, 1, 8, []), (29, 0, 0, 0, 1, 12, []), (31, 1, 0, 7, 0, 0, []), (33, 2, 2, 0, 0, 0, []), (34, 2, 0, 0, 0, 0, []), (35, 1, 3, 8, 0, 0, []), (37, 1, 1, 2, 0, 0, []), (38, 1, 0, 4, 0, 0, []), (40, 1, 0, 7, 0, 0, []), (42, 11, 1, 0, 76, 0, [15, 3]), (45, 1, 3, 9, 0, 0, []), (47, 1, 0, 5, 0, 0, []), (49, 1, 1, 1, 0, 0, []), (50, 1, 0, 8, 0, 0, []), (52, 0, 0, 0, 0, 4, []), (53, 2, 0, 0, 0, 0, []), (54, 1, 0, 4, 0, 0, []), (56, 2, 0, 0, 0, 0, []), (57, 8, 4, 0, 0, 0, []), (58, 2, 0, 0, 0, 0, []), (59, 1, 3, 5, 0, 0, []), (61, 1, 0, 6, 0, 0, []), (63, 1, 1, 1, 0, 0, []), (64, 1, 0, 8, 0, 0, []), (66, 0, 0, 0, 1, 8, []), (68, 2, 0, 0, 0, 0, []), (69, 1, 0, 4, 0, 0, []), (71, 2, 0, 0, 0, 0, []), (72, 8, 4, 0, 0, 0, []), (73, 2, 0, 0, 0, 0, []), (74, 1, 3, 6, 0, 0, []), (76, 1, 1, 0, 0, 0, []), (77, 1, 0, 7, 0, 0, []), (79, 1, 0, 4, 0, 0, []), (81, 0, 0, 0, 0, 0, []), (82, 11, 0, 4, 67, 0, [85, 4]), (85, 1, 1, 1, 0, 0, []), (86, 1, 0, 8, 0, 0, []), (88, 0, 0, 0, 0, 4, []), (89, 2, 0, 0, 0, 0, []), (90, 1, 0, 4, 0, 0, []), (92, 2, 0, 0, 0, 0, []), (93, 8, 4, 0, 0, 0, []), (94, 4, 1, 157, 0, 0, []), (97, 1, 1, 0, 0, 0, []), (98, 1, 0, 7, 0, 0, []), (100, 1, 0, 4, 0, 0, []), (102, 0, 0, 0, 0, 1, []), (103, 11, 0, 4, 67, 0, [85, 4]), (106, 1, 1, 1, 0, 0, []), (107, 1, 0, 8, 0, 0, []), (109, 0, 0, 0, 1, 8, []), (111, 2, 0, 0, 0, 0, []), (112, 1, 0, 4, 0, 0, []), (114, 2, 0, 0, 0, 0, []), (115, 8, 4, 0, 0, 0, []), (116, 4, 1, 157, 0, 0, []), (119, 1, 1, 0, 0, 0, []), (120, 1, 0, 7, 0, 0, []), (122, 1, 0, 4, 0, 0, []), (124, 0, 0, 0, 0, 2, []), (125, 11, 0, 4, 67, 0, [85, 4]), (128, 1, 0, 9, 0, 0, []), (130, 4, 1, 157, 0, 0, []), (133, 1, 1, 0, 0, 0, []), (134, 1, 0, 7, 0, 0, []), (136, 1, 0, 4, 0, 0, []), (138, 0, 0, 0, 0, 3, []), (139, 11, 0, 4, 67, 0, [85, 4]), (142, 1, 1, 1, 0, 0, []), (143, 1, 0, 8, 0, 0, []), (145, 0, 0, 0, 0, 4, []), (146, 2, 0, 0, 0, 0, []), (147, 1, 0, 4, 0, 0, []), (149, 2, 0, 0, 0, 0, []), (150, 8, 4, 0, 0, 0, []), (151, 1, 0, 9, 0, 0, []), (153, 2, 1, 0, 0, 0, []), (154, 4, 0, 159, 0, 0, []), (157, 0, 0, 0, 0, 0, []), (158, 9, 1, 0, 0, 0, []), (159, 1, 6, 7, 0, 1, []), (162, 6, 0, 18, 0, 0, []), (165, 1, 1, 0, 0, 0, []), (166, 1, 0, 4, 0, 0, []), (168, 0, 0, 0, 0, 0, []), (169, 11, 0, 4, 65, 0, [88, 3]), (172, 1, 1, 1, 0, 0, []), (173, 1, 0, 4, 0, 0, []), (175, 8, 4, 0, 0, 0, []), (176, 4, 1, 253, 0, 0, []), (179, 1, 1, 0, 0, 0, []), (180, 1, 0, 4, 0, 0, []), (182, 0, 0, 0, 0, 1, []), (183, 11, 0, 4, 65, 0, [88, 3]), (186, 1, 1, 1, 0, 0, []), (187, 0, 0, 0, 0, 4, []), (188, 1, 0, 4, 0, 0, []), (190, 2, 0, 0, 0, 0, []), (191, 8, 4, 0, 0, 0, []), (192, 4, 1, 253, 0, 0, []), (195, 1, 1, 0, 0, 0, []), (196, 1, 0, 4, 0, 0, []), (198, 0, 0, 0, 0, 2, []), (199, 11, 0, 4, 65, 0, [88, 3]), (202, 1, 1, 2, 0, 0, []), (203, 1, 0, 4, 0, 0, []), (205, 0, 0, 0, 0, -1, []), (206, 11, 1, 0, 76, 0, [15, 3]), (209, 4, 1, 253, 0, 0, []), (212, 1, 1, 0, 0, 0, []), (213, 1, 0, 4, 0, 0, []), (215, 0, 0, 0, 0, 3, []), (216, 11, 0, 4, 65, 0, [88, 3]), (219, 1, 1, 1, 0, 0, []), (220, 1, 1, 2, 0, 0, []), (221, 1, 0, 4, 0, 0, []), (223, 11, 1, 0, 77, 0, [91, 3]), (226, 4, 1, 253, 0, 0, []), (229, 1, 1, 0, 0, 0, []), (230, 1, 0, 4, 0, 0, []), (232, 0, 0, 0, 0, 4, []), (233, 11, 0, 4, 65, 0, [88, 3]), (236, 1, 0, 5, 0, 0, []), (238, 4, 1, 253, 0, 0, []), (241, 1, 1, 0, 0, 0, []), (242, 1, 0, 4, 0, 0, []), (244, 0, 0, 0, 0, 5, []), (245, 11, 0, 4, 65, 0, [88, 3]), (248, 1, 0, 6, 0, 0, []), (250, 4, 0, 255, 0, 0, []), (253, 0, 0, 0, 0, 0, []), (254, 9, 1, 0, 0, 0, []), (255, 1, 6, 4, 0, 1, []), (258, 6, 0, 3, 0, 0, []), (261, 0, 0, 0, 0, 0, []), (262, 1, 3, 4, 0, 0, []), (264, 1, 0, 4, 0, 0, []), (266, 1, 1, 1, 0, 0, []), (267, 0, 0, 0, 1, 44, []), (269, 8, 4, 0, 0, 0, []), (270, 4, 3, 427, 0, 0, []), (273, 0, 0, 0, 1, 8, []), (275, 0, 0, 0, 1, 12, []), (277, 1, 0, 4, 0, 0, []), (279, 2, 2, 0, 0, 0, []), (280, 2, 0, 0, 0, 0, []), (281, 1, 3, 5, 0, 0, []), (283, 0, 0, 49, 3, -1000003, []), (285, 1, 3, 6, 0, 0, []), (287, 0, 0, 0, 0, 0, []), (288, 1, 3, 7, 0, 0, []), (290, 1, 0, 7, 0, 0, []), (292, 1, 1, 1, 0, 0, []), (293, 0, 0, 0, 1, 50, []), (295, 8, 4, 0, 0, 0, []), (296, 4, 3, 326, 0, 0, []), (299, 1, 1, 1, 0, 0, []), (300, 0, 0, 0, 1, 51, []), (302, 1, 0, 7, 0, 0, []), (304, 2, 0, 0, 0, 0, []), (305, 8, 4, 0, 0, 0, []), (306, 1, 0, 4, 0, 0, []), (308, 4, 1, 316, 0, 0, []), (311, 1, 0, 7, 0, 0, []), (313, 6, 0, 318, 0, 0, []), (316, 1, 0, 6, 0, 0, []), (318, 1, 3, 6, 0, 0, []), (320, 1, 6, 7, 0, 1, []), (323, 6, 0, 290, 0, 0, []), (326, 1, 1, 0, 0, 0, []), (327, 1, 0, 4, 0, 0, []), (329, 0, 0, 0, 0, 0, []), (330, 11, 0, 4, 66, 0, [94, 3]), (333, 1, 1, 1, 0, 0, []), (334, 1, 0, 5, 0, 0, []), (336, 8, 4, 0, 0, 0, []), (337, 4, 1, 419, 0, 0, []), (340, 1, 1, 0, 0, 0, []), (341, 1, 0, 4, 0, 0, []), (343, 0, 0, 0, 0, 1, []), (344, 11, 0, 4, 66, 0, [94, 3]), (347, 1, 1, 1, 0, 0, []), (348, 1, 0, 5, 0, 0, []), (350, 0, 0, 0, 0, 1, []), (351, 2, 0, 0, 0, 0, []), (352, 8, 4, 0, 0, 0, []), (353, 4, 1, 419, 0, 0, []), (356, 1, 1, 0, 0, 0, []), (357, 1, 0, 4, 0, 0, []), (359, 0, 0, 0, 0, 2, []), (360, 11, 0, 4, 66, 0, [94, 3]), (363, 1, 1, 1, 0, 0, []), (364, 1, 1, 2, 0, 0, []), (365, 1, 0, 4, 0, 0, []), (367, 11, 1, 0, 78, 0, [77, 3]), (370, 4, 1, 419, 0, 0, []), (373, 1, 1, 0, 0, 0, []), (374, 1, 0, 4, 0, 0, []), (376, 0, 0, 0, 0, 3, []), (377, 11, 0, 4, 66, 0, [94, 3]), (380, 1, 1, 1, 0, 0, []), (381, 1, 0, 5, 0, 0, []), (383, 0, 0, 0, 0, 3, []), (384, 2, 0, 0, 0, 0, []), (385, 8, 4, 0, 0, 0, []), (386, 4, 1, 419, 0, 0, []), (389, 1, 1, 0, 0, 0, []), (390, 1, 0, 4, 0, 0, []), (392, 0, 0, 0, 1, 6, []), (394, 11, 0, 4, 66, 0, [94, 3]), (397, 1, 0, 6, 0, 0, []), (399, 4, 1, 419, 0, 0, []), (402, 1, 1, 0, 0, 0, []), (403, 1, 0, 4, 0, 0, []), (405, 0, 0, 0, 1, 7, []), (407, 11, 0, 4, 66, 0, [94, 3]), (410, 1, 1, 1, 0, 0, []), (411, 1, 0, 5, 0, 0, []), (413, 0, 0, 0, 0, 2, []), (414, 2, 0, 0, 0, 0, []), (415, 8, 4, 0, 0, 0, []), (416, 4, 0, 421, 0, 0, []), (419, 0, 0, 0, 0, 0, []), (420, 9, 1, 0, 0, 0, []), (421, 1, 6, 4, 0, 1, []), (424, 6, 0, 264, 0, 0, []), (427, 1, 1, 0, 0, 0, []), (428, 0, 0, 0, 0, 0, []), (429, 11, 0, 4, 72, 0, [43, 2]), (432, 1, 1, 1, 0, 0, []), (433, 0, 0, 0, 1, 45, []), (435, 8, 4, 0, 0, 0, []), (436, 4, 1, 542, 0, 0, []), (439, 1, 1, 0, 0, 0, []), (440, 0, 0, 0, 0, 1, []), (441, 11, 0, 4, 72, 0, [43, 2]), (444, 1, 1, 1, 0, 0, []), (445, 0, 0, 0, 1, 44, []), (447, 8, 4, 0, 0, 0, []), (448, 4, 1, 542, 0, 0, []), (451, 1, 1, 0, 0, 0, []), (452, 0, 0, 0, 0, 2, []), (453, 11, 0, 4, 72, 0, [43, 2]), (456, 1, 1, 2, 0, 0, []), (457, 0, 0, 0, 1, 63, []), (459, 8, 4, 0, 0, 0, []), (460, 4, 1, 542, 0, 0, []), (463, 1, 1, 0, 0, 0, []), (464, 0, 0, 0, 0, 3, []), (465, 11, 0, 4, 72, 0, [43, 2]), (468, 1, 1, 3, 0, 0, []), (469, 0, 0, 0, 1, 63, []), (471, 8, 4, 0, 0, 0, []), (472, 4, 1, 542, 0, 0, []), (475, 1, 1, 0, 0, 0, []), (476, 0, 0, 0, 0, 4, []), (477, 11, 0, 4, 72, 0, [43, 2]), (480, 1, 1, 1, 0, 0, []), (481, 0, 0, 0, 1, 50, []), (483, 8, 4, 0, 0, 0, []), (484, 4, 1, 542, 0, 0, []), (487, 1, 1, 0, 0, 0, []), (488, 0, 0, 0, 0, 5, []), (489, 11, 0, 4, 72, 0, [43, 2]), (492, 1, 1, 1, 0, 0, []), (493, 0, 0, 0, 1, 48, []), (495, 8, 4, 0, 0, 0, []), (496, 4, 1, 542, 0, 0, []), (499, 1, 1, 0, 0, 0, []), (500, 0, 0, 0, 1, 7, []), (502, 11, 0, 4, 72, 0, [43, 2]), (505, 1, 1, 1, 0, 0, []), (506, 0, 0, 0, 1, 47, []), (508, 8, 4, 0, 0, 0, []), (509, 4, 1, 542, 0, 0, []), (512, 1, 1, 0, 0, 0, []), (513, 1, 1, 1, 0, 0, []), (514, 0, 0, 0, 1, 44, []), (516, 8, 4, 0, 0, 0, []), (517, 0, 0, 0, 0, 0, []), (518, 11, 0, 4, 66, 0, [94, 3]), (521, 0, 0, 53, 3, -1000000, []), (523, 4, 1, 542, 0, 0, []), (526, 1, 1, 0, 0, 0, []), (527, 0, 0, 0, 0, 0, []), (528, 0, 0, 0, 0, 4, []), (529, 0, 0, 0, 0, 0, []), (530, 11, 0, 4, 67, 0, [85, 4]), (533, 0, 0, 53, 3, -1000000, []), (535, 4, 1, 542, 0, 0, []), (538, 0, 0, 0, 0, 1, []), (539, 6, 0, 543, 0, 0, []), (542, 0, 0, 0, 0, 0, []), (543, 9, 1, 0, 0, 0, [])]
theorem k_W_isTold : okP s_W_isTold p_W_isTold := okP_of _ (by decide +kernel) (WS_places [448, 449, 11, 450, 521, 522, 523, 12, 524, 521, 522, 523, 12, 524, 521, 522, 523, 12, 524, 521, 522, 523, 12, 524, 530, 531, 532, 12, 533, 530, 531, 532, 12, 533, 530, 531, 532, 12, 533, 448, 449, 11, 450, 530, 531, 532, 12, 533, 542, 543, 11, 544, 530, 531, 532, 12, 533, 530, 531, 532, 12, 533, 438, 545, 546, 547, 12, 548, 545, 546, 547, 12, 548, 545, 546, 547, 12, 548, 555, 556, 11, 557, 545, 546, 547, 12, 548, 545, 546, 547, 12, 548, 545, 546, 547, 12, 548, 502, 503, 504, 12, 505, 502, 503, 504, 12, 505, 502, 503, 504, 12, 505, 502, 503, 504, 12, 505, 502, 503, 504, 12, 505, 502, 503, 504, 12, 505, 502, 503, 504, 12, 505, 545, 546, 547, 12, 548, 444, 521, 522, 523, 12, 524, 444] (by decide +kernel) (by decide +kernel)) (nest_places [] (by decide +kernel))
def p_W_areGrants : List PI := [(0, 0, 0, 0, 0, 0, []), (1, 1, 3, 3, 0, 0, []), (2, 1, 0, 3, 0, 0, []), (3, 1, 1, 1, 0, 0, []), (4, 0, 0, 0, 1, 63, []), (6, 8, 4, 0, 0, 0, []), (7, 4, 3, 78, 0, 0, []), (10, 0, 0, 0, 0, 0, []), (11, 1, 3, 4, 0, 0, []), (13, 1, 0, 4, 0, 0, []), (15, 0, 0, 0, 0, 4, []), (16, 4, 3, 50, 0, 0, []), (19, 1, 1, 0, 0, 0, []), (20, 1, 1, 1, 0, 0, []), (21, 0, 0, 0, 1, 40, []), (23, 1, 0, 3, 0, 0, []), (24, 2, 0, 0, 0, 0, []), (25, 8, 4, 0, 0, 0, []), (26, 1, 0, 4, 0, 0, []), (28, 11, 0, 4, 68, 0, [97, 3]), (31, 1, 1, 1, 0, 0, []), (32, 1, 0, 3, 0, 0, []), (33, 8, 4, 0, 0, 0, []), (34, 1, 0, 4, 0, 0, []), (36, 11, 1, 0, 75, 0, [9, 2]), (39, 4, 0, 44, 0, 0, []), (42, 0, 0, 0, 0, 0, []), (43, 9, 1, 0, 0, 0, []), (44, 1, 6, 4, 0, 1, []), (47, 6, 0, 13, 0, 0, []), (50, 1, 1, 0, 0, 0, []), (51, 1, 1, 1, 0, 0, []), (52, 0, 0, 0, 1, 40, []), (54, 1, 0, 3, 0, 0, []), (55, 2, 0, 0, 0, 0, []), (56, 8, 4, 0, 0, 0, []), (57, 0, 0, 0, 0, 4, []), (58, 11, 0, 4, 68, 0, [97, 3]), (61, 1, 1, 1, 0, 0, []), (62, 1, 0, 3, 0, 0, []), (63, 8, 4, 0, 0, 0, []), (64, 0, 0, 0, 1, 28, []), (66, 2, 9, 0, 0, 0, []), (67, 4, 0, 72, 0, 0, []), (70, 0, 0, 0, 0, 0, []), (71, 9, 1, 0, 0, 0, []), (72, 1, 6, 3, 0, 1, []), (75, 6, 0, 2, 0, 0, []), (78, 0, 0, 0, 0, 0, []), (79, 1, 3, 3, 0, 0, []), (80, 1, 0, 3, 0, 0, []), (81, 1, 1, 2, 0, 0, []), (82, 0, 0, 0, 1, 63, []), (84, 8, 4, 0, 0, 0, []), (85, 4, 3, 146, 0, 0, []), (88, 0, 0, 0, 0, 0, []), (89, 1, 3, 4, 0, 0, []), (91, 1, 0, 4, 0, 0, []), (93, 0, 0, 0, 0, 4, []), (94, 4, 3, 123, 0, 0, []), (97, 1, 1, 0, 0, 0, []), (98, 1, 0, 3, 0, 0, []), (99, 1, 0, 4, 0, 0, []), (101, 11, 0, 4, 69, 0, [100, 3]), (104, 1, 1, 2, 0, 0, []), (105, 1, 0, 3, 0, 0, []), (106, 8, 4, 0, 0, 0, []), (107, 1, 0, 4, 0, 0, []), (109, 11, 1, 0, 75, 0, [9, 2]), (112, 4, 0, 117, 0, 0, []), (115, 0, 0, 0, 0, 0, []), (116, 9, 1, 0, 0, 0, []), (117, 1, 6, 4, 0, 1, []), (120, 6, 0, 91, 0, 0, []), (123, 1, 1, 0, 0, 0, []), (124, 1, 0, 3, 0, 0, []), (125, 0, 0, 0, 0, 4, []), (126, 11, 0, 4, 69, 0, [100, 3]), (129, 1, 1, 2, 0, 0, []), (130, 1, 0, 3, 0, 0, []), (131, 8, 4, 0, 0, 0, []), (132, 0, 0, 0, 1, 28, []), (134, 2, 9, 0, 0, 0, []), (135, 4, 0, 140, 0, 0, []), (138, 0, 0, 0, 0, 0, []), (139, 9, 1, 0, 0, 0, []), (140, 1, 6, 3, 0, 1, []), (143, 6, 0, 80, 0, 0, []), (146, 1, 1, 0, 0, 0, []), (147, 1, 1, 2, 0, 0, []), (148, 0, 0, 0, 1, 63, []), (150, 8, 4, 0, 0, 0, []), (151, 0, 0, 0, 0, 0, []), (152, 11, 0, 4, 69, 0, [100, 3]), (155, 0, 0, 49, 3, -1000003, []), (157, 4, 1, 201, 0, 0, []), (160, 1, 1, 0, 0, 0, []), (161, 1, 1, 0, 0, 0, []), (162, 0, 0, 0, 0, 5, []), (163, 11, 0, 4, 72, 0, [43, 2]), (166, 0, 0, 0, 0, 0, []), (167, 11, 0, 4, 68, 0, [97, 3]), (170, 0, 0, 49, 3, -1000003, []), (172, 4, 1, 201, 0, 0, []), (175, 1, 1, 0, 0, 0, []), (176, 0, 0, 0, 0, -1, []), (177, 0, 0, 0, 0, 0, []), (178, 11, 0, 4, 68, 0, [97, 3]), (181, 0, 0, 53, 3, -1000000, []), (183, 4, 1, 201, 0, 0, []), (186, 1, 1, 0, 0, 0, []), (187, 0, 0, 0, 0, 0, []), (188, 0, 0, 0, 0, 5, []), (189, 11, 0, 4, 69, 0, [100, 3]), (192, 0, 0, 53, 3, -1000000, []), (194, 4, 1, 201, 0, 0, []), (197, 0, 0, 0, 0, 1, []), (198, 6, 0, 202, 0, 0, []), (201, 0, 0, 0, 0, 0, []), (202, 9, 1, 0, 0, 0, [])]
theorem k_W_areGrants : okP s_W_areGrants p_W_areGrants := okP_of _ (by decide +kernel) (WS_places [561, 562, 563, 12, 564, 451, 452, 11, 453, 561, 562, 563, 12, 564, 566, 567, 568, 12, 569, 451, 452, 11, 453, 566, 567, 568, 12, 569, 566, 567, 568, 12, 569, 438, 502, 503, 504, 12, 505, 561, 562, 563, 12, 564, 438, 561, 562, 563, 12, 564, 444, 566, 567, 568, 12, 569, 444] (by decide +kernel) (by decide +kernel)) (nest_places [] (by decide +kernel))
def p_W_copies : List PI := [(0, 0, 0, 0, 0, 0, []), (1, 1, 3, 2, 0, 0, []), (2, 1, 0, 2, 0, 0, []), (3, 0, 0, 0, 1, 64, []), (5, 4, 3, 20, 0, 0, []), (8, 1, 1, 1, 0, 0, []), (9, 1, 0, 2, 0, 0, []), (10, 1, 1, 0, 0, 0, []), (11, 1, 0, 2, 0, 0, []), (12, 8, 4, 0, 0, 0, []), (13, 10, 4, 0, 0, 0, []), (14, 1, 6, 2, 0, 1, []), (17, 6, 0, 2, 0, 0, []), (20, 9, 5, 0, 0, 0, [])]
theorem k_W_copies : okP s_W_copies p_W_copies := okP_of _ (by decide +kernel) (WS_places [] (by decide +kernel) (by decide +kernel)) (nest_places [] (by decide +kernel))
def p_W_isPlanned : List PI := [(0, 0, 0, 0, 1, 64, []), (2, 10, 7, 0, 0, 0, []), (4, 1, 4, 4, 0, 0, []), (6, 0, 0, 0, 1, 64, []), (8, 10, 7, 0, 0, 0, []), (10, 1, 4, 5, 0, 0, []), (12, 0, 0, 0, 1, 64, []), (14, 10, 7, 0, 0, 0, []), (16, 1, 4, 6, 0, 0, []), (18, 1, 1, 1, 0, 0, []), (19, 1, 1, 4, 0, 0, []), (21, 11, 1, 0, 94, 0, [103, 2]), (24, 1, 1, 2, 0, 0, []), (25, 1, 1, 5, 0, 0, []), (27, 11, 1, 0, 94, 0, [103, 2]), (30, 1, 1, 3, 0, 0, []), (31, 1, 1, 6, 0, 0, []), (33, 11, 1, 0, 94, 0, [103, 2]), (36, 0, 0, 0, 0, 0, []), (37, 1, 3, 7, 0, 0, []), (39, 1, 1, 4, 0, 0, []), (41, 1, 1, 5, 0, 0, []), (43, 1, 1, 6, 0, 0, []), (45, 11, 1, 0, 88, 0, [107, 3]), (48, 1, 3, 8, 0, 0, []), (50, 1, 0, 8, 0, 0, []), (52, 5, 2, 94, 0, 0, []), (55, 1, 1, 0, 0, 0, []), (56, 1, 0, 7, 0, 0, []), (58, 11, 0, 4, 71, 0, [111, 2]), (61, 1, 1, 4, 0, 0, []), (63, 1, 1, 5, 0, 0, []), (65, 1, 1, 6, 0, 0, []), (67, 1, 0, 8, 0, 0, []), (69, 11, 1, 0, 90, 0, [114, 4]), (72, 4, 0, 77, 0, 0, []), (75, 0, 0, 0, 0, 0, []), (76, 9, 1, 0, 0, 0, []), (77, 1, 6, 7, 0, 1, []), (80, 1, 1, 4, 0, 0, []), (82, 1, 1, 5, 0, 0, []), (84, 1, 1, 6, 0, 0, []), (86, 11, 1, 0, 88, 0, [107, 3]), (89, 1, 3, 8, 0, 0, []), (91, 6, 0, 50, 0, 0, []), (94, 1, 1, 0, 0, 0, []), (95, 0, 0, 0, 0, -1, []), (96, 11, 0, 4, 71, 0, [111, 2]), (99, 1, 0, 7, 0, 0, []), (101, 4, 1, 130, 0, 0, []), (104, 1, 1, 0, 0, 0, []), (105, 1, 0, 7, 0, 0, []), (107, 11, 0, 4, 71, 0, [111, 2]), (110, 0, 0, 49, 3, -1000003, []), (112, 4, 1, 130, 0, 0, []), (115, 1, 1, 0, 0, 0, []), (116, 0, 0, 0, 1, -2, []), (118, 11, 0, 4, 71, 0, [111, 2]), (121, 0, 0, 53, 3, -1000000, []), (123, 4, 1, 130, 0, 0, []), (126, 0, 0, 0, 0, 1, []), (127, 6, 0, 131, 0, 0, []), (130, 0, 0, 0, 0, 0, []), (131, 9, 1, 0, 0, 0, [])]
theorem k_W_isPlanned : okP s_W_isPlanned p_W_isPlanned := okP_of _ (by decide +kernel) (WS_places [49, 49, 49, 573, 574, 11, 575, 573, 574, 11, 575, 573, 574, 11, 575, 576, 577, 11, 578, 411, 412, 413, 12, 414, 579, 580, 11, 581, 576, 577, 11, 578, 411, 412, 413, 12, 414, 411, 412, 413, 12, 414, 438, 411, 412, 413, 12, 414, 444] (by decide +kernel) (by decide +kernel)) (nest_places [] (by decide +kernel))
def p_W_isGranted : List PI := [(0, 1, 1, 1, 0, 0, []), (1, 1, 1, 2, 0, 0, []), (2, 1, 1, 3, 0, 0, []), (3, 11, 1, 0, 88, 0, [107, 3]), (6, 1, 3, 5, 0, 0, []), (8, 1, 0, 5, 0, 0, []), (10, 5, 3, 37, 0, 0, []), (13, 1, 1, 0, 0, 0, []), (14, 11, 0, 4, 61, 0, [118, 1]), (17, 0, 0, 58, 3, -1000001, []), (19, 4, 1, 35, 0, 0, []), (22, 1, 1, 0, 0, 0, []), (23, 11, 0, 4, 62, 0, [121, 1]), (26, 0, 0, 58, 3, -1000001, []), (28, 4, 1, 35, 0, 0, []), (31, 0, 0, 0, 0, 1, []), (32, 6, 0, 36, 0, 0, []), (35, 0, 0, 0, 0, 0, []), (36, 9, 1, 0, 0, 0, []), (37, 0, 0, 0, 0, 0, []), (38, 1, 3, 6, 0, 0, []), (40, 1, 0, 4, 0, 0, []), (42, 5, 1, 66, 0, 0, []), (45, 1, 1, 0, 0, 0, []), (46, 11, 0, 4, 61, 0, [118, 1]), (49, 1, 1, 1, 0, 0, []), (50, 1, 1, 2, 0, 0, []), (51, 1, 1, 3, 0, 0, []), (52, 1, 0, 5, 0, 0, []), (54, 11, 1, 0, 90, 0, [114, 4]), (57, 4, 1, 64, 0, 0, []), (60, 0, 0, 0, 0, 1, []), (61, 6, 0, 65, 0, 0, []), (64, 0, 0, 0, 0, 0, []), (65, 9, 1, 0, 0, 0, []), (66, 1, 0, 5, 0, 0, []), (68, 5, 2, 103, 0, 0, []), (71, 1, 0, 6, 0, 0, []), (73, 1, 1, 1, 0, 0, []), (74, 1, 1, 2, 0, 0, []), (75, 1, 1, 3, 0, 0, []), (76, 1, 0, 5, 0, 0, []), (78, 11, 1, 0, 90, 0, [114, 4]), (81, 5, 2, 88, 0, 0, []), (84, 0, 0, 0, 0, 1, []), (85, 6, 0, 89, 0, 0, []), (88, 0, 0, 0, 0, 0, []), (89, 2, 0, 0, 0, 0, []), (90, 1, 3, 6, 0, 0, []), (92, 1, 1, 1, 0, 0, []), (93, 1, 1, 2, 0, 0, []), (94, 1, 1, 3, 0, 0, []), (95, 11, 1, 0, 88, 0, [107, 3]), (98, 1, 3, 5, 0, 0, []), (100, 6, 0, 66, 0, 0, []), (103, 1, 1, 0, 0, 0, []), (104, 11, 0, 4, 62, 0, [121, 1]), (107, 1, 0, 6, 0, 0, []), (109, 4, 1, 116, 0, 0, []), (112, 0, 0, 0, 0, 1, []), (113, 6, 0, 117, 0, 0, []), (116, 0, 0, 0, 0, 0, []), (117, 9, 1, 0, 0, 0, [])]
theorem k_W_isGranted : okP s_W_isGranted p_W_isGranted := okP_of _ (by decide +kernel) (WS_places [576, 577, 11, 578, 354, 355, 356, 12, 357, 461, 585, 586, 587, 12, 588, 461, 354, 355, 356, 12, 357, 579, 580, 11, 581, 579, 580, 11, 581, 576, 577, 11, 578, 585, 586, 587, 12, 588] (by decide +kernel) (by decide +kernel)) (nest_places [] (by decide +kernel))
end
