/-! ===== the words, and what stays given in every frame ===== -/
def WS : List Cond := lw_tbl.filter goodWord
theorem WS_of {w : Cond} (h : w ∈ lw_tbl) (g : goodWord w = true) : w ∈ WS := List.mem_filter.mpr ⟨h, g⟩
theorem WS_good : ∀ w ∈ WS, goodWord w = true := fun _ h => (List.mem_filter.mp h).2
theorem WS_tbl : ∀ w ∈ WS, w ∈ lw_tbl := fun _ h => (List.mem_filter.mp h).1
def nestL : List (String × Nat × MethodName × String) := [("LimitBank", 9, ⟨"LimitBank$VectorText", "<init>", "()V"⟩, "LimitBank"), ("LimitBank$VectorText", 44, ⟨"LimitBank", "within", "(III)Z"⟩, "LimitBank"), ("LimitBank$Ledger", 59, ⟨"LimitBank", "copy", "([I[I)V"⟩, "LimitBank"), ("LimitBank$Claims", 25, ⟨"LimitBank", "copy", "([I[I)V"⟩, "LimitBank"), ("LimitBank$Claims", 32, ⟨"LimitBank", "within", "(III)Z"⟩, "LimitBank"), ("LimitBank$Ledger", 89, ⟨"LimitBank", "slot", "(II)I"⟩, "LimitBank"), ("LimitBank$Ledger", 82, ⟨"LimitBank", "isResource", "(I)Z"⟩, "LimitBank")]
def nestW (q : String × Nat × MethodName × String) : Cond := .methodLinkNest q.1 q.2.1 q.2.2.1 q.2.2.2
def strL : List (Nat × String) := [(65, "cpu"), (67, "mem"), (69, "net"), (71, "disk")]
def lenL : List Nat := [3, 3, 3, 4]
def bytL : List (List Int32) := [[99, 112, 117], [109, 101, 109], [110, 101, 116], [100, 105, 115, 107]]
def tysZ (Z : Zt) : List (ClassId × FieldType) := [(zcI Z, .int), (zcL Z, .object RX2)]
def GS (Z : Zt) (U : State) : Prop := va_K (zD Z) cls (tysZ Z) U ∧ (∀ q ∈ nestL, va_Nw (nestW q) U) ∧ va_AO RX2 U ∧ (∀ i, i < 4 → vk_R RX3 (strL.getD i (0, "")).1 (strL.getD i (0, "")).2 (zK Z i) U) ∧ vk_S 4 lenL bytL (zK Z) (zV Z) (Ar Z) U U.heap ∧ va_Z "java/lang/String" "COMPACT_STRINGS" "Z" (.int 1) (Ar Z) U U.heap ∧ va_Z "jdk/internal/util/Preconditions" "SIOOBE_FORMATTER" "Ljava/util/function/BiFunction;" (va_rf (zF Z)) (Ar Z) U U.heap ∧ va_T .int (zb Z) (zn Z) (fun j => .int (zx Z j)) (Ar Z) U U.heap
theorem GS.step {Z : Zt} {s U : State} {H : Heap} {locs : List Loc} (h : GS Z s) (hS : va_S (Ar Z) s.heap H locs) (hU : U.heap = H) (hW : s.WarmedH U.vm) : GS Z U := by
  obtain ⟨h1, h2, h3, h4, h5, h6, h7, h8⟩ := h
  have hv := hW.alike
  refine ⟨va_K.moved hv h1, fun q hq => va_Nw.warmM hW (h2 q hq), va_AO.moved hv h3, fun i hi => (h4 i hi).warm hW, ?_, ?_, ?_, ?_⟩
  · rw [hU]; exact (vk_S.moved hv h5).kept hS.2.1
  · rw [hU]; exact (va_Z.moved hv h6).kept hS.2.1
  · rw [hU]; exact (va_Z.moved hv h7).kept hS.2.1
  · rw [hU]; exact (va_T.moved hv h8).kept hS.2.1
theorem GS.calling {Z : Zt} {U : State} {g : JFrame} {mk : MethodId} {a : Array Value} (h : GS Z U) : GS Z (U.calling g mk a) := by
  obtain ⟨h1, h2, h3, h4, h5, h6, h7, h8⟩ := h
  have hv : U.vm.Alike (U.calling g mk a).vm := Vm.Alike.refl U.vm
  exact ⟨va_K.moved (u := U) (U := U.calling g mk a) hv h1, fun q hq => va_Nw.same rfl (u := U) (U := U.calling g mk a) rfl (h2 q hq), va_AO.moved (u := U) (U := U.calling g mk a) hv h3, fun i hi => vk_R.same (u := U) (U := U.calling g mk a) rfl (h4 i hi), vk_S.moved (u := U) (U := U.calling g mk a) hv h5, va_Z.moved (u := U) (U := U.calling g mk a) hv h6, va_Z.moved (u := U) (U := U.calling g mk a) hv h7, va_T.moved (u := U) (U := U.calling g mk a) hv h8⟩
/-! ===== the locals, by their places ===== -/
def lget (l : List (Option Value)) (i : Nat) : Option Value := match l, i with
  | [], _ => none
  | x :: _, 0 => x
  | _ :: t, i + 1 => lget t i
def lkill (x : Option Value) : Option Value := match x with
  | some (.long _) => none
  | some (.double _) => none
  | y => y
def lset (l : List (Option Value)) (i : Nat) (v : Value) : List (Option Value) := match l, i with
  | [], _ => []
  | _ :: t, 0 => some v :: t
  | x :: t, 1 => lkill x :: lset t 0 v
  | x :: t, i + 2 => x :: lset t (i + 1) v
def lset2 (l : List (Option Value)) (i : Nat) (v : Value) : List (Option Value) := match l, i with
  | [], _ => []
  | [_], 0 => []
  | _ :: _ :: t, 0 => some v :: none :: t
  | x :: t, 1 => lkill x :: lset2 t 0 v
  | x :: t, i + 2 => x :: lset2 t (i + 1) v
def LH (Z : Zt) (la : Array Slot) (nL : Nat) (l : List (Option Value)) : Prop := la.size = nL ∧ lv_wf la ∧ ∀ (i : Nat) (v : Value), lget l i = some v → la[i]? = some (.val (cv Z v))
theorem lkill_some {x : Option Value} {v : Value} (h : lkill x = some v) : x = some v ∧ v.category = 1 := by
  cases x with
  | none => simp [lkill] at h
  | some w => cases w <;> simp [lkill] at h <;> subst h <;> exact ⟨rfl, rfl⟩
theorem lset_get : ∀ (l : List (Option Value)) (i : Nat) (v w : Value) (j : Nat), lget (lset l i v) j = some w → (j = i ∧ w = v) ∨ (j ≠ i ∧ lget l j = some w ∧ (j + 1 = i → w.category = 1))
  | [], i, v, w, j, h => by simp [lset, lget] at h
  | x :: t, 0, v, w, j, h => by
    cases j with
    | zero => simp [lset, lget] at h; exact Or.inl ⟨rfl, h.symm⟩
    | succ j => simp [lset, lget] at h; exact Or.inr ⟨by omega, by simpa [lget] using h, by omega⟩
  | x :: t, 1, v, w, j, h => by
    cases j with
    | zero =>
      simp only [lset, lget] at h
      obtain ⟨a, b⟩ := lkill_some h
      exact Or.inr ⟨by omega, by simpa [lget] using a, fun _ => b⟩
    | succ j =>
      simp only [lset, lget] at h
      rcases lset_get t 0 v w j h with ⟨a, b⟩ | ⟨a, b, c⟩
      · exact Or.inl ⟨by omega, b⟩
      · exact Or.inr ⟨by omega, by simpa [lget] using b, by omega⟩
  | x :: t, i + 2, v, w, j, h => by
    cases j with
    | zero => simp only [lset, lget] at h; exact Or.inr ⟨by omega, by simpa [lget] using h, by omega⟩
    | succ j =>
      simp only [lset, lget] at h
      rcases lset_get t (i + 1) v w j h with ⟨a, b⟩ | ⟨a, b, c⟩
      · exact Or.inl ⟨by omega, b⟩
      · exact Or.inr ⟨by omega, by simpa [lget] using b, fun z => c (by omega)⟩
theorem lset2_get : ∀ (l : List (Option Value)) (i : Nat) (v w : Value) (j : Nat), lget (lset2 l i v) j = some w → (j = i ∧ w = v) ∨ (j ≠ i ∧ j ≠ i + 1 ∧ lget l j = some w ∧ (j + 1 = i → w.category = 1))
  | [], i, v, w, j, h => by simp [lset2, lget] at h
  | [x], 0, v, w, j, h => by simp [lset2, lget] at h
  | x :: y :: t, 0, v, w, j, h => by
    match j with
    | 0 => simp [lset2, lget] at h; exact Or.inl ⟨rfl, h.symm⟩
    | 1 => simp [lset2, lget] at h
    | j + 2 => simp [lset2, lget] at h; exact Or.inr ⟨by omega, by omega, by simpa [lget] using h, by omega⟩
  | x :: t, 1, v, w, j, h => by
    cases j with
    | zero =>
      simp only [lset2, lget] at h
      obtain ⟨a, b⟩ := lkill_some h
      exact Or.inr ⟨by omega, by omega, by simpa [lget] using a, fun _ => b⟩
    | succ j =>
      simp only [lset2, lget] at h
      rcases lset2_get t 0 v w j h with ⟨a, b⟩ | ⟨a, a2, b, c⟩
      · exact Or.inl ⟨by omega, b⟩
      · exact Or.inr ⟨by omega, by omega, by simpa [lget] using b, by omega⟩
  | x :: t, i + 2, v, w, j, h => by
    cases j with
    | zero => simp only [lset2, lget] at h; exact Or.inr ⟨by omega, by omega, by simpa [lget] using h, by omega⟩
    | succ j =>
      simp only [lset2, lget] at h
      rcases lset2_get t (i + 1) v w j h with ⟨a, b⟩ | ⟨a, a2, b, c⟩
      · exact Or.inl ⟨by omega, b⟩
      · exact Or.inr ⟨by omega, by omega, by simpa [lget] using b, fun z => c (by omega)⟩
/-- the listed pairs of the kit's own form -/
def lpairs (Z : Zt) (l : List (Option Value)) : List (Nat × Value) := (List.range l.length).filterMap fun i => (lget l i).map fun v => (i, cv Z v)
theorem lget_lt : ∀ (l : List (Option Value)) (i : Nat) (v : Value), lget l i = some v → i < l.length
  | [], i, v, h => by simp [lget] at h
  | x :: t, 0, v, h => by simp
  | x :: t, i + 1, v, h => by simp only [lget] at h; have := lget_lt t i v h; simp; omega
theorem lpairs_mem {Z : Zt} {l : List (Option Value)} {i : Nat} {v : Value} (h : lget l i = some v) : (i, cv Z v) ∈ lpairs Z l := by
  unfold lpairs
  exact List.mem_filterMap.mpr ⟨i, List.mem_range.mpr (lget_lt l i v h), by rw [h]; rfl⟩
theorem LH.has {Z : Zt} {la : Array Slot} {nL : Nat} {l : List (Option Value)} (h : LH Z la nL l) : lv_has la nL (lpairs Z l) := by
  refine ⟨h.1, h.2.1, fun q hq => ?_⟩
  obtain ⟨i, -, hi⟩ := List.mem_filterMap.mp hq
  cases hg : lget l i with
  | none => rw [hg] at hi; simp at hi
  | some v =>
    rw [hg] at hi
    simp at hi
    rw [← hi]
    exact h.2.2 i v hg
theorem LH.set1 {Z : Zt} {la : Array Slot} {nL i : Nat} {l : List (Option Value)} {v : Value} (h : lv_has la nL ((i, cv Z v) :: (lpairs Z l).filter (fun q => !(q.1 == i) && !(q.1 + 1 == i && q.2.category == 2)))) : LH Z la nL (lset l i v) := by
  refine ⟨h.1, h.2.1, fun j w hw => ?_⟩
  rcases lset_get l i v w j hw with ⟨rfl, rfl⟩ | ⟨a, b, c⟩
  · exact h.2.2 (j, cv Z w) List.mem_cons_self
  · refine h.2.2 (j, cv Z w) (List.mem_cons_of_mem _ (List.mem_filter.mpr ⟨lpairs_mem b, ?_⟩))
    by_cases hj : j + 1 = i
    · have := c hj
      simp [a, cv_cat, this]
    · simp [a, hj]
theorem LH.set2 {Z : Zt} {la : Array Slot} {nL i : Nat} {l : List (Option Value)} {v : Value} (h : lv_has la nL ((i, cv Z v) :: (lpairs Z l).filter (fun q => !(q.1 == i) && (!(q.1 == i + 1) && !(q.1 + 1 == i && q.2.category == 2))))) : LH Z la nL (lset2 l i v) := by
  refine ⟨h.1, h.2.1, fun j w hw => ?_⟩
  rcases lset2_get l i v w j hw with ⟨rfl, rfl⟩ | ⟨a, a2, b, c⟩
  · exact h.2.2 (j, cv Z w) List.mem_cons_self
  · refine h.2.2 (j, cv Z w) (List.mem_cons_of_mem _ (List.mem_filter.mpr ⟨lpairs_mem b, ?_⟩))
    by_cases hj : j + 1 = i
    · have := c hj
      simp [a, a2, cv_cat, this]
    · simp [a, a2, hj]
/-! ===== a method: its name, bytes, locals, type of its answer ===== -/
abbrev Sig : Type := MethodName × ByteArray × Nat × Option FieldType
def FC (Z : Zt) (d : Nat) (sg : Sig) (R : Room) (p : Program) (s : State) (m : MethodId) (args : Array Value) (meth : Method) (c : Code) : Prop :=
  p.tables.exec = Jvm.exec ∧ c.code = sg.2.1 ∧ c.maxLocals = sg.2.2.1 ∧ s.vm.findClass sg.1.cls = some m.cls ∧ (∀ w ∈ WS, w.before args s = true) ∧ GS Z s ∧ d ≤ R.frames ∧ 36 * d ≤ R.locals ∧ meth.name = sg.1.name
/-- the return instruction that fits an answer -/
def rOK (sg : Sig) (pc : Nat) (r : Option Value) : Prop := match r with
  | none => decode sg.2.1 pc = .ok (.return_, 1) ∧ sg.2.2.2 = none
  | some (.int v) => decode sg.2.1 pc = .ok (.ireturn, 1) ∧ ∃ ty, sg.2.2.2 = some ty ∧ narrow ty (.int v) = .int v
  | some (.long _) => decode sg.2.1 pc = .ok (.lreturn, 1) ∧ sg.2.2.2 = some .long
  | some (.ref _) => decode sg.2.1 pc = .ok (.areturn, 1) ∧ ∃ ty, sg.2.2.2 = some ty ∧ ((∃ n, ty = .object n) ∨ ∃ t, ty = .array t)
  | _ => False
/-- from here the machine comes to the frame's end, with an answer and a memory that are in Q -/
def X (Z : Zt) (d : Nat) (sg : Sig) (n0 nF : Nat) (Q : Option Value → Mem → Prop) (pc : Nat) (lv : List (Option Value)) (st : List Value) (M : Mem) : Prop :=
  ∀ (p : Program) (e : Env) (R : Room) (s : State) (m : MethodId) (args : Array Value) (below : List Frame) (meth : Method) (c : Code) (Qe : State → Prop) (H : Heap) (locs : List Loc) (la : Array Slot),
    FC Z d sg R p s m args meth c → nF - n0 ≤ R.cells → sl nF - sl n0 ≤ R.slots → n0 ≤ mN M → mN M ≤ nF → Rep Z M H → va_S (Ar Z) s.heap H locs → LH Z la sg.2.2.1 lv →
    (∀ (r : Option Value) (M' : Mem) (H' : Heap) (locs' : List Loc) (la' : Array Slot) (pc' : Nat), Q r M' → n0 ≤ mN M' → mN M' ≤ nF → Rep Z M' H' → va_S (Ar Z) s.heap H' locs' → rOK sg pc' r →
      W p (zl Z) e R s m args below meth c H' locs' (mN M' - n0) (sl (mN M') - sl n0) Qe (F0 m pc' la' (r.map (cv Z)).toList)) →
    W p (zl Z) e R s m args below meth c H locs (mN M - n0) (sl (mN M) - sl n0) Qe (F0 m pc la (st.map (cv Z)))
section XR
variable {Z : Zt} {d : Nat} {sg : Sig} {n0 nF : Nat} {Q : Option Value → Mem → Prop} {pc : Nat} {lv : List (Option Value)} {st : List Value} {M : Mem}
theorem X_ret {r : Option Value} (hr : rOK sg pc r) (hq : Q r M) : X Z d sg n0 nF Q pc lv r.toList M := by
  intro p e R s m args below meth c Qe H locs la hF h1 h2 h3 h4 hR hS hL hE
  have := hE r M H locs la pc hq h3 h4 hR hS hr
  cases r <;> exact this
theorem X_iconst {v : Int32} (hd : decode sg.2.1 pc = .ok (.iconst v.toInt, 1)) (h : X Z d sg n0 nF Q (pc + 1) lv (.int v :: st) M) : X Z d sg n0 nF Q pc lv st M := by
  intro p e R s m args below meth c Qe H locs la hF h1 h2 h3 h4 hR hS hL hE
  exact lv_iconst hF.1 hF.2.1 hd (by simp) (h p e R s m args below meth c Qe H locs la hF h1 h2 h3 h4 hR hS hL hE)
theorem X_bipush {v : Int32} (hd : decode sg.2.1 pc = .ok (.bipush v.toInt, 2)) (hv : (Int8.ofInt v.toInt).toInt32 = v) (h : X Z d sg n0 nF Q (pc + 2) lv (.int v :: st) M) : X Z d sg n0 nF Q pc lv st M := by
  intro p e R s m args below meth c Qe H locs la hF h1 h2 h3 h4 hR hS hL hE
  exact lv_bipush hF.1 hF.2.1 hd hv (h p e R s m args below meth c Qe H locs la hF h1 h2 h3 h4 hR hS hL hE)
theorem X_sipush {v : Int32} (hd : decode sg.2.1 pc = .ok (.sipush v.toInt, 3)) (hv : (Int16.ofInt v.toInt).toInt32 = v) (h : X Z d sg n0 nF Q (pc + 3) lv (.int v :: st) M) : X Z d sg n0 nF Q pc lv st M := by
  intro p e R s m args below meth c Qe H locs la hF h1 h2 h3 h4 hR hS hL hE
  exact lv_sipush hF.1 hF.2.1 hd hv (h p e R s m args below meth c Qe H locs la hF h1 h2 h3 h4 hR hS hL hE)
theorem X_ldc {v : Int32} {ix : Nat} (hw : Cond.constant sg.1.cls ix v ∈ WS) (hd : decode sg.2.1 pc = .ok (.ldc ix, 2)) (h : X Z d sg n0 nF Q (pc + 2) lv (.int v :: st) M) : X Z d sg n0 nF Q pc lv st M := by
  intro p e R s m args below meth c Qe H locs la hF h1 h2 h3 h4 hR hS hL hE
  exact lv_ldc hF.1 hF.2.1 hF.2.2.2.1 (hF.2.2.2.2.1 _ hw) hd (h p e R s m args below meth c Qe H locs la hF h1 h2 h3 h4 hR hS hL hE)
theorem X_ldc2 {v : Int64} {ix : Nat} (hw : Cond.constantLong sg.1.cls ix v ∈ WS) (hd : decode sg.2.1 pc = .ok (.ldc2_w ix, 3)) (h : X Z d sg n0 nF Q (pc + 3) lv (.long v :: st) M) : X Z d sg n0 nF Q pc lv st M := by
  intro p e R s m args below meth c Qe H locs la hF h1 h2 h3 h4 hR hS hL hE
  exact lv_ldc2 hF.1 hF.2.1 hF.2.2.2.1 (hF.2.2.2.2.1 _ hw) hd (h p e R s m args below meth c Qe H locs la hF h1 h2 h3 h4 hR hS hL hE)
theorem X_ldcS {i : Nat} (hi : i < 4) (hc : sg.1.cls = RX3) (hd : decode sg.2.1 pc = .ok (.ldc (strL.getD i (0, "")).1, 2)) (h : X Z d sg n0 nF Q (pc + 2) lv (.ref (i + 2) :: st) M) : X Z d sg n0 nF Q pc lv st M := by
  intro p e R s m args below meth c Qe H locs la hF h1 h2 h3 h4 hR hS hL hE
  have hz := hF.2.2.2.2.2.1.2.2.2.1 i hi
  have e1 : cv Z (.ref (i + 2)) = .ref (zK Z i) := by
    show ad Z (i + 2) = _
    have a : ¬ 16 ≤ i + 2 := by omega
    have b : ¬ i + 2 = 1 := by omega
    have c : 2 ≤ i + 2 ∧ i + 2 < 6 := by omega
    unfold ad rfo
    rw [if_neg a, if_neg b, if_pos c, show i + 2 - 2 = i by omega]
    rfl
  refine va_ldcS hF.1 hF.2.1 hF.2.2.2.1 (by rw [hc]; exact hz) hd ?_
  have := h p e R s m args below meth c Qe H locs la hF h1 h2 h3 h4 hR hS hL hE
  rw [List.map_cons, e1] at this
  exact this
theorem X_iload {i : Nat} {x : Int32} (hd : decode sg.2.1 pc = .ok (.iload i, 2)) (hl : lget lv i = some (.int x)) (h : X Z d sg n0 nF Q (pc + 2) lv (.int x :: st) M) : X Z d sg n0 nF Q pc lv st M := by
  intro p e R s m args below meth c Qe H locs la hF h1 h2 h3 h4 hR hS hL hE
  exact lv_iload hF.1 hF.2.1 hd (hL.2.2 _ _ hl) (h p e R s m args below meth c Qe H locs la hF h1 h2 h3 h4 hR hS hL hE)
theorem X_iload_n {k : Fin 4} {x : Int32} (hd : decode sg.2.1 pc = .ok (.iload_n k, 1)) (hl : lget lv k = some (.int x)) (h : X Z d sg n0 nF Q (pc + 1) lv (.int x :: st) M) : X Z d sg n0 nF Q pc lv st M := by
  intro p e R s m args below meth c Qe H locs la hF h1 h2 h3 h4 hR hS hL hE
  exact lv_iload_n hF.1 hF.2.1 hd rfl (hL.2.2 _ _ hl) (h p e R s m args below meth c Qe H locs la hF h1 h2 h3 h4 hR hS hL hE)
theorem X_lload {i : Nat} {x : Int64} (hd : decode sg.2.1 pc = .ok (.lload i, 2)) (hl : lget lv i = some (.long x)) (h : X Z d sg n0 nF Q (pc + 2) lv (.long x :: st) M) : X Z d sg n0 nF Q pc lv st M := by
  intro p e R s m args below meth c Qe H locs la hF h1 h2 h3 h4 hR hS hL hE
  exact lv_lload hF.1 hF.2.1 hd (hL.2.2 _ _ hl) (h p e R s m args below meth c Qe H locs la hF h1 h2 h3 h4 hR hS hL hE)
theorem X_lload_n {k : Fin 4} {x : Int64} (hd : decode sg.2.1 pc = .ok (.lload_n k, 1)) (hl : lget lv k = some (.long x)) (h : X Z d sg n0 nF Q (pc + 1) lv (.long x :: st) M) : X Z d sg n0 nF Q pc lv st M := by
  intro p e R s m args below meth c Qe H locs la hF h1 h2 h3 h4 hR hS hL hE
  exact lv_lload_n hF.1 hF.2.1 hd rfl (hL.2.2 _ _ hl) (h p e R s m args below meth c Qe H locs la hF h1 h2 h3 h4 hR hS hL hE)
theorem X_aload {i x : Nat} (hd : decode sg.2.1 pc = .ok (.aload i, 2)) (hl : lget lv i = some (.ref x)) (h : X Z d sg n0 nF Q (pc + 2) lv (.ref x :: st) M) : X Z d sg n0 nF Q pc lv st M := by
  intro p e R s m args below meth c Qe H locs la hF h1 h2 h3 h4 hR hS hL hE
  have a := hL.2.2 _ _ hl
  have b := h p e R s m args below meth c Qe H locs la hF h1 h2 h3 h4 hR hS hL hE
  rw [List.map_cons] at b
  change la[i]? = some (.val (ad Z x)) at a
  change W p (zl Z) e R s m args below meth c H locs _ _ Qe (F0 m _ la (ad Z x :: _)) at b
  rcases ad_or Z x with z | ⟨y, z⟩ <;> rw [z] at a b
  · exact lv_aloadN hF.1 hF.2.1 hd a b
  · exact lv_aload hF.1 hF.2.1 hd a b
theorem X_aload_n {k : Fin 4} {x : Nat} (hd : decode sg.2.1 pc = .ok (.aload_n k, 1)) (hl : lget lv k = some (.ref x)) (h : X Z d sg n0 nF Q (pc + 1) lv (.ref x :: st) M) : X Z d sg n0 nF Q pc lv st M := by
  intro p e R s m args below meth c Qe H locs la hF h1 h2 h3 h4 hR hS hL hE
  have a := hL.2.2 _ _ hl
  have b := h p e R s m args below meth c Qe H locs la hF h1 h2 h3 h4 hR hS hL hE
  rw [List.map_cons] at b
  change la[(k : Nat)]? = some (.val (ad Z x)) at a
  change W p (zl Z) e R s m args below meth c H locs _ _ Qe (F0 m _ la (ad Z x :: _)) at b
  rcases ad_or Z x with z | ⟨y, z⟩ <;> rw [z] at a b
  · exact lv_aload_nN hF.1 hF.2.1 hd rfl a b
  · exact lv_aload_n hF.1 hF.2.1 hd rfl a b
theorem X_istore {i : Nat} {x : Int32} (hn : i < sg.2.2.1) (hd : decode sg.2.1 pc = .ok (.istore i, 2)) (h : X Z d sg n0 nF Q (pc + 2) (lset lv i (.int x)) st M) : X Z d sg n0 nF Q pc lv (.int x :: st) M := by
  intro p e R s m args below meth c Qe H locs la hF h1 h2 h3 h4 hR hS hL hE
  exact lv_istore hF.1 hF.2.1 hd hL.has hn rfl (fun la' hla => h p e R s m args below meth c Qe H locs la' hF h1 h2 h3 h4 hR hS (LH.set1 (v := .int x) hla) hE)
theorem X_istore_n {k : Fin 4} {x : Int32} (hn : (k : Nat) < sg.2.2.1) (hd : decode sg.2.1 pc = .ok (.istore_n k, 1)) (h : X Z d sg n0 nF Q (pc + 1) (lset lv k (.int x)) st M) : X Z d sg n0 nF Q pc lv (.int x :: st) M := by
  intro p e R s m args below meth c Qe H locs la hF h1 h2 h3 h4 hR hS hL hE
  exact lv_istore_n hF.1 hF.2.1 hd rfl hL.has hn rfl (fun la' hla => h p e R s m args below meth c Qe H locs la' hF h1 h2 h3 h4 hR hS (LH.set1 (v := .int x) hla) hE)
theorem X_lstore {i : Nat} {x : Int64} (hn : i + 1 < sg.2.2.1) (hd : decode sg.2.1 pc = .ok (.lstore i, 2)) (h : X Z d sg n0 nF Q (pc + 2) (lset2 lv i (.long x)) st M) : X Z d sg n0 nF Q pc lv (.long x :: st) M := by
  intro p e R s m args below meth c Qe H locs la hF h1 h2 h3 h4 hR hS hL hE
  exact lv_lstore hF.1 hF.2.1 hd hL.has hn rfl (fun la' hla => h p e R s m args below meth c Qe H locs la' hF h1 h2 h3 h4 hR hS (LH.set2 (v := .long x) hla) hE)
theorem X_lstore_n {k : Fin 4} {x : Int64} (hn : (k : Nat) + 1 < sg.2.2.1) (hd : decode sg.2.1 pc = .ok (.lstore_n k, 1)) (h : X Z d sg n0 nF Q (pc + 1) (lset2 lv k (.long x)) st M) : X Z d sg n0 nF Q pc lv (.long x :: st) M := by
  intro p e R s m args below meth c Qe H locs la hF h1 h2 h3 h4 hR hS hL hE
  exact lv_lstore_n hF.1 hF.2.1 hd rfl hL.has hn rfl (fun la' hla => h p e R s m args below meth c Qe H locs la' hF h1 h2 h3 h4 hR hS (LH.set2 (v := .long x) hla) hE)
theorem X_astore {i x : Nat} (hn : i < sg.2.2.1) (hd : decode sg.2.1 pc = .ok (.astore i, 2)) (h : X Z d sg n0 nF Q (pc + 2) (lset lv i (.ref x)) st M) : X Z d sg n0 nF Q pc lv (.ref x :: st) M := by
  intro p e R s m args below meth c Qe H locs la hF h1 h2 h3 h4 hR hS hL hE
  rw [List.map_cons]
  change W p (zl Z) e R s m args below meth c H locs _ _ Qe (F0 m _ la (ad Z x :: _))
  rcases ad_or Z x with z | ⟨y, z⟩
  · rw [z]
    exact lv_astoreN hF.1 hF.2.1 hd hL.has hn rfl (fun la' hla => h p e R s m args below meth c Qe H locs la' hF h1 h2 h3 h4 hR hS (LH.set1 (v := .ref x) (by show lv_has _ _ ((i, ad Z x) :: _); rw [z]; exact hla)) hE)
  · rw [z]
    exact lv_astore hF.1 hF.2.1 hd hL.has hn rfl (fun la' hla => h p e R s m args below meth c Qe H locs la' hF h1 h2 h3 h4 hR hS (LH.set1 (v := .ref x) (by show lv_has _ _ ((i, ad Z x) :: _); rw [z]; exact hla)) hE)
theorem X_astore_n {k : Fin 4} {x : Nat} (hn : (k : Nat) < sg.2.2.1) (hd : decode sg.2.1 pc = .ok (.astore_n k, 1)) (h : X Z d sg n0 nF Q (pc + 1) (lset lv k (.ref x)) st M) : X Z d sg n0 nF Q pc lv (.ref x :: st) M := by
  intro p e R s m args below meth c Qe H locs la hF h1 h2 h3 h4 hR hS hL hE
  rw [List.map_cons]
  change W p (zl Z) e R s m args below meth c H locs _ _ Qe (F0 m _ la (ad Z x :: _))
  rcases ad_or Z x with z | ⟨y, z⟩
  · rw [z]
    exact lv_astore_nN hF.1 hF.2.1 hd rfl hL.has hn rfl (fun la' hla => h p e R s m args below meth c Qe H locs la' hF h1 h2 h3 h4 hR hS (LH.set1 (v := .ref x) (by show lv_has _ _ (((k : Nat), ad Z x) :: _); rw [z]; exact hla)) hE)
  · rw [z]
    exact lv_astore_n hF.1 hF.2.1 hd rfl hL.has hn rfl (fun la' hla => h p e R s m args below meth c Qe H locs la' hF h1 h2 h3 h4 hR hS (LH.set1 (v := .ref x) (by show lv_has _ _ (((k : Nat), ad Z x) :: _); rw [z]; exact hla)) hE)
theorem X_iinc {i : Nat} {x v : Int32} (hn : i < sg.2.2.1) (hl : lget lv i = some (.int x)) (hd : decode sg.2.1 pc = .ok (.iinc i v.toInt, 3)) (h : X Z d sg n0 nF Q (pc + 3) (lset lv i (.int (x + v))) st M) : X Z d sg n0 nF Q pc lv st M := by
  intro p e R s m args below meth c Qe H locs la hF h1 h2 h3 h4 hR hS hL hE
  obtain ⟨k, hk⟩ := List.getElem?_of_mem (lpairs_mem (Z := Z) hl)
  exact lv_iinc (v := x + v) hF.1 hF.2.1 hd hL.has hk (by simp) hn rfl (fun la' hla => h p e R s m args below meth c Qe H locs la' hF h1 h2 h3 h4 hR hS (LH.set1 (v := .int (x + v)) hla) hE)
theorem X_iadd {x y : Int32} (hd : decode sg.2.1 pc = .ok (.iadd, 1)) (h : X Z d sg n0 nF Q (pc + 1) lv (.int (x + y) :: st) M) : X Z d sg n0 nF Q pc lv (.int y :: .int x :: st) M := by
  intro p e R s m args below meth c Qe H locs la hF h1 h2 h3 h4 hR hS hL hE
  exact lv_iadd hF.1 hF.2.1 hd (h p e R s m args below meth c Qe H locs la hF h1 h2 h3 h4 hR hS hL hE)
theorem X_isub {x y : Int32} (hd : decode sg.2.1 pc = .ok (.isub, 1)) (h : X Z d sg n0 nF Q (pc + 1) lv (.int (x - y) :: st) M) : X Z d sg n0 nF Q pc lv (.int y :: .int x :: st) M := by
  intro p e R s m args below meth c Qe H locs la hF h1 h2 h3 h4 hR hS hL hE
  exact lv_isub hF.1 hF.2.1 hd (h p e R s m args below meth c Qe H locs la hF h1 h2 h3 h4 hR hS hL hE)
theorem X_imul {x y : Int32} (hd : decode sg.2.1 pc = .ok (.imul, 1)) (h : X Z d sg n0 nF Q (pc + 1) lv (.int (x * y) :: st) M) : X Z d sg n0 nF Q pc lv (.int y :: .int x :: st) M := by
  intro p e R s m args below meth c Qe H locs la hF h1 h2 h3 h4 hR hS hL hE
  exact lv_imul hF.1 hF.2.1 hd (h p e R s m args below meth c Qe H locs la hF h1 h2 h3 h4 hR hS hL hE)
theorem X_idiv {x y : Int32} (hd : decode sg.2.1 pc = .ok (.idiv, 1)) (hy : ¬ y = 0) (h : X Z d sg n0 nF Q (pc + 1) lv (.int (x / y) :: st) M) : X Z d sg n0 nF Q pc lv (.int y :: .int x :: st) M := by
  intro p e R s m args below meth c Qe H locs la hF h1 h2 h3 h4 hR hS hL hE
  exact lv_idiv hF.1 hF.2.1 hd hy (h p e R s m args below meth c Qe H locs la hF h1 h2 h3 h4 hR hS hL hE)
theorem X_irem {x y : Int32} (hd : decode sg.2.1 pc = .ok (.irem, 1)) (hy : ¬ y = 0) (h : X Z d sg n0 nF Q (pc + 1) lv (.int (x - x / y * y) :: st) M) : X Z d sg n0 nF Q pc lv (.int y :: .int x :: st) M := by
  intro p e R s m args below meth c Qe H locs la hF h1 h2 h3 h4 hR hS hL hE
  exact lv_irem hF.1 hF.2.1 hd hy (h p e R s m args below meth c Qe H locs la hF h1 h2 h3 h4 hR hS hL hE)
theorem X_ineg {x : Int32} (hd : decode sg.2.1 pc = .ok (.ineg, 1)) (h : X Z d sg n0 nF Q (pc + 1) lv (.int (-x) :: st) M) : X Z d sg n0 nF Q pc lv (.int x :: st) M := by
  intro p e R s m args below meth c Qe H locs la hF h1 h2 h3 h4 hR hS hL hE
  exact lv_ineg hF.1 hF.2.1 hd (h p e R s m args below meth c Qe H locs la hF h1 h2 h3 h4 hR hS hL hE)
theorem X_iand {x y : Int32} (hd : decode sg.2.1 pc = .ok (.iand, 1)) (h : X Z d sg n0 nF Q (pc + 1) lv (.int (x &&& y) :: st) M) : X Z d sg n0 nF Q pc lv (.int y :: .int x :: st) M := by
  intro p e R s m args below meth c Qe H locs la hF h1 h2 h3 h4 hR hS hL hE
  exact lv_iand hF.1 hF.2.1 hd (h p e R s m args below meth c Qe H locs la hF h1 h2 h3 h4 hR hS hL hE)
theorem X_ior {x y : Int32} (hd : decode sg.2.1 pc = .ok (.ior, 1)) (h : X Z d sg n0 nF Q (pc + 1) lv (.int (x ||| y) :: st) M) : X Z d sg n0 nF Q pc lv (.int y :: .int x :: st) M := by
  intro p e R s m args below meth c Qe H locs la hF h1 h2 h3 h4 hR hS hL hE
  exact lv_ior hF.1 hF.2.1 hd (h p e R s m args below meth c Qe H locs la hF h1 h2 h3 h4 hR hS hL hE)
theorem X_ishl {x y : Int32} (hd : decode sg.2.1 pc = .ok (.ishl, 1)) (h : X Z d sg n0 nF Q (pc + 1) lv (.int (x <<< (y &&& 31)) :: st) M) : X Z d sg n0 nF Q pc lv (.int y :: .int x :: st) M := by
  intro p e R s m args below meth c Qe H locs la hF h1 h2 h3 h4 hR hS hL hE
  exact lv_ishl hF.1 hF.2.1 hd (h p e R s m args below meth c Qe H locs la hF h1 h2 h3 h4 hR hS hL hE)
theorem X_ishr {x y : Int32} (hd : decode sg.2.1 pc = .ok (.ishr, 1)) (h : X Z d sg n0 nF Q (pc + 1) lv (.int (x >>> (y &&& 31)) :: st) M) : X Z d sg n0 nF Q pc lv (.int y :: .int x :: st) M := by
  intro p e R s m args below meth c Qe H locs la hF h1 h2 h3 h4 hR hS hL hE
  exact lv_ishr hF.1 hF.2.1 hd (h p e R s m args below meth c Qe H locs la hF h1 h2 h3 h4 hR hS hL hE)
theorem X_i2l {x : Int32} (hd : decode sg.2.1 pc = .ok (.i2l, 1)) (h : X Z d sg n0 nF Q (pc + 1) lv (.long x.toInt64 :: st) M) : X Z d sg n0 nF Q pc lv (.int x :: st) M := by
  intro p e R s m args below meth c Qe H locs la hF h1 h2 h3 h4 hR hS hL hE
  exact lv_i2l hF.1 hF.2.1 hd rfl (h p e R s m args below meth c Qe H locs la hF h1 h2 h3 h4 hR hS hL hE)
theorem X_i2c {x : Int32} (hd : decode sg.2.1 pc = .ok (.i2c, 1)) (h : X Z d sg n0 nF Q (pc + 1) lv (.int (x.toUInt32 % 65536).toInt32 :: st) M) : X Z d sg n0 nF Q pc lv (.int x :: st) M := by
  intro p e R s m args below meth c Qe H locs la hF h1 h2 h3 h4 hR hS hL hE
  exact lv_i2c hF.1 hF.2.1 hd rfl (h p e R s m args below meth c Qe H locs la hF h1 h2 h3 h4 hR hS hL hE)
theorem X_ladd {x y : Int64} (hd : decode sg.2.1 pc = .ok (.ladd, 1)) (h : X Z d sg n0 nF Q (pc + 1) lv (.long (x + y) :: st) M) : X Z d sg n0 nF Q pc lv (.long y :: .long x :: st) M := by
  intro p e R s m args below meth c Qe H locs la hF h1 h2 h3 h4 hR hS hL hE
  exact lv_ladd hF.1 hF.2.1 hd (h p e R s m args below meth c Qe H locs la hF h1 h2 h3 h4 hR hS hL hE)
theorem X_lmul {x y : Int64} (hd : decode sg.2.1 pc = .ok (.lmul, 1)) (h : X Z d sg n0 nF Q (pc + 1) lv (.long (x * y) :: st) M) : X Z d sg n0 nF Q pc lv (.long y :: .long x :: st) M := by
  intro p e R s m args below meth c Qe H locs la hF h1 h2 h3 h4 hR hS hL hE
  exact lv_lmul hF.1 hF.2.1 hd (h p e R s m args below meth c Qe H locs la hF h1 h2 h3 h4 hR hS hL hE)
theorem X_lcmp {x y : Int64} (hd : decode sg.2.1 pc = .ok (.lcmp, 1)) (h : X Z d sg n0 nF Q (pc + 1) lv (.int (lg_cmp x y) :: st) M) : X Z d sg n0 nF Q pc lv (.long y :: .long x :: st) M := by
  intro p e R s m args below meth c Qe H locs la hF h1 h2 h3 h4 hR hS hL hE
  exact W.lcmp hF.1 hF.2.1 hd (h p e R s m args below meth c Qe H locs la hF h1 h2 h3 h4 hR hS hL hE)
theorem X_dup {v : Value} (hc : v.category = 1) (hd : decode sg.2.1 pc = .ok (.dup, 1)) (h : X Z d sg n0 nF Q (pc + 1) lv (v :: v :: st) M) : X Z d sg n0 nF Q pc lv (v :: st) M := by
  intro p e R s m args below meth c Qe H locs la hF h1 h2 h3 h4 hR hS hL hE
  exact lv_dup hF.1 hF.2.1 hd (by rw [cv_cat]; exact hc) (h p e R s m args below meth c Qe H locs la hF h1 h2 h3 h4 hR hS hL hE)
theorem X_dup2 {v w : Value} (hc : v.category = 1) (hc2 : w.category = 1) (hd : decode sg.2.1 pc = .ok (.dup2, 1)) (h : X Z d sg n0 nF Q (pc + 1) lv (v :: w :: v :: w :: st) M) : X Z d sg n0 nF Q pc lv (v :: w :: st) M := by
  intro p e R s m args below meth c Qe H locs la hF h1 h2 h3 h4 hR hS hL hE
  exact lv_dup2_11 hF.1 hF.2.1 hd (by rw [cv_cat]; exact hc) (by rw [cv_cat]; exact hc2) (h p e R s m args below meth c Qe H locs la hF h1 h2 h3 h4 hR hS hL hE)
theorem X_pop {v : Value} (hc : v.category = 1) (hd : decode sg.2.1 pc = .ok (.pop, 1)) (h : X Z d sg n0 nF Q (pc + 1) lv st M) : X Z d sg n0 nF Q pc lv (v :: st) M := by
  intro p e R s m args below meth c Qe H locs la hF h1 h2 h3 h4 hR hS hL hE
  exact lv_pop hF.1 hF.2.1 hd (by rw [cv_cat]; exact hc) (h p e R s m args below meth c Qe H locs la hF h1 h2 h3 h4 hR hS hL hE)
theorem X_goto {tgt : Nat} (hd : decode sg.2.1 pc = .ok (.goto ((tgt : Int) - pc), 3)) (h : X Z d sg n0 nF Q tgt lv st M) : X Z d sg n0 nF Q pc lv st M := by
  intro p e R s m args below meth c Qe H locs la hF h1 h2 h3 h4 hR hS hL hE
  exact lv_goto hF.1 hF.2.1 hd (by omega) (h p e R s m args below meth c Qe H locs la hF h1 h2 h3 h4 hR hS hL hE)
theorem X_if_eq {x : Int32} {tgt : Nat} (hd : decode sg.2.1 pc = .ok (.ifCond .eq ((tgt : Int) - pc), 3)) (ht : x = 0 → X Z d sg n0 nF Q tgt lv st M) (hf : ¬ x = 0 → X Z d sg n0 nF Q (pc + 3) lv st M) : X Z d sg n0 nF Q pc lv (.int x :: st) M := by
  intro p e R s m args below meth c Qe H locs la hF h1 h2 h3 h4 hR hS hL hE
  exact lv_if_eq hF.1 hF.2.1 hd (by omega) (fun q => ht q p e R s m args below meth c Qe H locs la hF h1 h2 h3 h4 hR hS hL hE) (fun q => hf q p e R s m args below meth c Qe H locs la hF h1 h2 h3 h4 hR hS hL hE)
theorem X_icmp_eq {x y : Int32} {tgt : Nat} (hd : decode sg.2.1 pc = .ok (.if_icmp .eq ((tgt : Int) - pc), 3)) (ht : x = y → X Z d sg n0 nF Q tgt lv st M) (hf : ¬ x = y → X Z d sg n0 nF Q (pc + 3) lv st M) : X Z d sg n0 nF Q pc lv (.int y :: .int x :: st) M := by
  intro p e R s m args below meth c Qe H locs la hF h1 h2 h3 h4 hR hS hL hE
  exact lv_icmp_eq hF.1 hF.2.1 hd (by omega) (fun q => ht q p e R s m args below meth c Qe H locs la hF h1 h2 h3 h4 hR hS hL hE) (fun q => hf q p e R s m args below meth c Qe H locs la hF h1 h2 h3 h4 hR hS hL hE)
theorem X_if_ne {x : Int32} {tgt : Nat} (hd : decode sg.2.1 pc = .ok (.ifCond .ne ((tgt : Int) - pc), 3)) (ht : ¬ x = 0 → X Z d sg n0 nF Q tgt lv st M) (hf : x = 0 → X Z d sg n0 nF Q (pc + 3) lv st M) : X Z d sg n0 nF Q pc lv (.int x :: st) M := by
  intro p e R s m args below meth c Qe H locs la hF h1 h2 h3 h4 hR hS hL hE
  exact lv_if_ne hF.1 hF.2.1 hd (by omega) (fun q => ht q p e R s m args below meth c Qe H locs la hF h1 h2 h3 h4 hR hS hL hE) (fun q => hf q p e R s m args below meth c Qe H locs la hF h1 h2 h3 h4 hR hS hL hE)
theorem X_icmp_ne {x y : Int32} {tgt : Nat} (hd : decode sg.2.1 pc = .ok (.if_icmp .ne ((tgt : Int) - pc), 3)) (ht : ¬ x = y → X Z d sg n0 nF Q tgt lv st M) (hf : x = y → X Z d sg n0 nF Q (pc + 3) lv st M) : X Z d sg n0 nF Q pc lv (.int y :: .int x :: st) M := by
  intro p e R s m args below meth c Qe H locs la hF h1 h2 h3 h4 hR hS hL hE
  exact lv_icmp_ne hF.1 hF.2.1 hd (by omega) (fun q => ht q p e R s m args below meth c Qe H locs la hF h1 h2 h3 h4 hR hS hL hE) (fun q => hf q p e R s m args below meth c Qe H locs la hF h1 h2 h3 h4 hR hS hL hE)
theorem X_if_lt {x : Int32} {tgt : Nat} (hd : decode sg.2.1 pc = .ok (.ifCond .lt ((tgt : Int) - pc), 3)) (ht : x < 0 → X Z d sg n0 nF Q tgt lv st M) (hf : ¬ x < 0 → X Z d sg n0 nF Q (pc + 3) lv st M) : X Z d sg n0 nF Q pc lv (.int x :: st) M := by
  intro p e R s m args below meth c Qe H locs la hF h1 h2 h3 h4 hR hS hL hE
  exact lv_if_lt hF.1 hF.2.1 hd (by omega) (fun q => ht q p e R s m args below meth c Qe H locs la hF h1 h2 h3 h4 hR hS hL hE) (fun q => hf q p e R s m args below meth c Qe H locs la hF h1 h2 h3 h4 hR hS hL hE)
theorem X_icmp_lt {x y : Int32} {tgt : Nat} (hd : decode sg.2.1 pc = .ok (.if_icmp .lt ((tgt : Int) - pc), 3)) (ht : x < y → X Z d sg n0 nF Q tgt lv st M) (hf : ¬ x < y → X Z d sg n0 nF Q (pc + 3) lv st M) : X Z d sg n0 nF Q pc lv (.int y :: .int x :: st) M := by
  intro p e R s m args below meth c Qe H locs la hF h1 h2 h3 h4 hR hS hL hE
  exact lv_icmp_lt hF.1 hF.2.1 hd (by omega) (fun q => ht q p e R s m args below meth c Qe H locs la hF h1 h2 h3 h4 hR hS hL hE) (fun q => hf q p e R s m args below meth c Qe H locs la hF h1 h2 h3 h4 hR hS hL hE)
theorem X_if_ge {x : Int32} {tgt : Nat} (hd : decode sg.2.1 pc = .ok (.ifCond .ge ((tgt : Int) - pc), 3)) (ht : 0 ≤ x → X Z d sg n0 nF Q tgt lv st M) (hf : ¬ 0 ≤ x → X Z d sg n0 nF Q (pc + 3) lv st M) : X Z d sg n0 nF Q pc lv (.int x :: st) M := by
  intro p e R s m args below meth c Qe H locs la hF h1 h2 h3 h4 hR hS hL hE
  exact lv_if_ge hF.1 hF.2.1 hd (by omega) (fun q => ht q p e R s m args below meth c Qe H locs la hF h1 h2 h3 h4 hR hS hL hE) (fun q => hf q p e R s m args below meth c Qe H locs la hF h1 h2 h3 h4 hR hS hL hE)
theorem X_icmp_ge {x y : Int32} {tgt : Nat} (hd : decode sg.2.1 pc = .ok (.if_icmp .ge ((tgt : Int) - pc), 3)) (ht : y ≤ x → X Z d sg n0 nF Q tgt lv st M) (hf : ¬ y ≤ x → X Z d sg n0 nF Q (pc + 3) lv st M) : X Z d sg n0 nF Q pc lv (.int y :: .int x :: st) M := by
  intro p e R s m args below meth c Qe H locs la hF h1 h2 h3 h4 hR hS hL hE
  exact lv_icmp_ge hF.1 hF.2.1 hd (by omega) (fun q => ht q p e R s m args below meth c Qe H locs la hF h1 h2 h3 h4 hR hS hL hE) (fun q => hf q p e R s m args below meth c Qe H locs la hF h1 h2 h3 h4 hR hS hL hE)
theorem X_if_gt {x : Int32} {tgt : Nat} (hd : decode sg.2.1 pc = .ok (.ifCond .gt ((tgt : Int) - pc), 3)) (ht : 0 < x → X Z d sg n0 nF Q tgt lv st M) (hf : ¬ 0 < x → X Z d sg n0 nF Q (pc + 3) lv st M) : X Z d sg n0 nF Q pc lv (.int x :: st) M := by
  intro p e R s m args below meth c Qe H locs la hF h1 h2 h3 h4 hR hS hL hE
  exact lv_if_gt hF.1 hF.2.1 hd (by omega) (fun q => ht q p e R s m args below meth c Qe H locs la hF h1 h2 h3 h4 hR hS hL hE) (fun q => hf q p e R s m args below meth c Qe H locs la hF h1 h2 h3 h4 hR hS hL hE)
theorem X_icmp_gt {x y : Int32} {tgt : Nat} (hd : decode sg.2.1 pc = .ok (.if_icmp .gt ((tgt : Int) - pc), 3)) (ht : y < x → X Z d sg n0 nF Q tgt lv st M) (hf : ¬ y < x → X Z d sg n0 nF Q (pc + 3) lv st M) : X Z d sg n0 nF Q pc lv (.int y :: .int x :: st) M := by
  intro p e R s m args below meth c Qe H locs la hF h1 h2 h3 h4 hR hS hL hE
  exact lv_icmp_gt hF.1 hF.2.1 hd (by omega) (fun q => ht q p e R s m args below meth c Qe H locs la hF h1 h2 h3 h4 hR hS hL hE) (fun q => hf q p e R s m args below meth c Qe H locs la hF h1 h2 h3 h4 hR hS hL hE)
theorem X_if_le {x : Int32} {tgt : Nat} (hd : decode sg.2.1 pc = .ok (.ifCond .le ((tgt : Int) - pc), 3)) (ht : x ≤ 0 → X Z d sg n0 nF Q tgt lv st M) (hf : ¬ x ≤ 0 → X Z d sg n0 nF Q (pc + 3) lv st M) : X Z d sg n0 nF Q pc lv (.int x :: st) M := by
  intro p e R s m args below meth c Qe H locs la hF h1 h2 h3 h4 hR hS hL hE
  exact lv_if_le hF.1 hF.2.1 hd (by omega) (fun q => ht q p e R s m args below meth c Qe H locs la hF h1 h2 h3 h4 hR hS hL hE) (fun q => hf q p e R s m args below meth c Qe H locs la hF h1 h2 h3 h4 hR hS hL hE)
theorem X_icmp_le {x y : Int32} {tgt : Nat} (hd : decode sg.2.1 pc = .ok (.if_icmp .le ((tgt : Int) - pc), 3)) (ht : x ≤ y → X Z d sg n0 nF Q tgt lv st M) (hf : ¬ x ≤ y → X Z d sg n0 nF Q (pc + 3) lv st M) : X Z d sg n0 nF Q pc lv (.int y :: .int x :: st) M := by
  intro p e R s m args below meth c Qe H locs la hF h1 h2 h3 h4 hR hS hL hE
  exact lv_icmp_le hF.1 hF.2.1 hd (by omega) (fun q => ht q p e R s m args below meth c Qe H locs la hF h1 h2 h3 h4 hR hS hL hE) (fun q => hf q p e R s m args below meth c Qe H locs la hF h1 h2 h3 h4 hR hS hL hE)
end XR
