/-! ===== what is computed is sound ===== -/
def iF (own : String) (ix a b : Nat) : Cond := .fieldLink own ix (cT a b).1 (cT a b).2.1 (cT a b).2.2.1
def wI (own : String) (x : Ins) : List Cond := match x with
  | (g, o, a, b, v, tl) => match g with
    | 0 => match o with
      | 0 => match b with
        | 0 => []
        | 1 => []
        | 2 => []
        | _ => [.constant own a v]
      | 1 => [.constantLong own a 31]
      | 5 => [.constantLong own a 113]
      | 3 => [.fieldLink own a "java/lang/String" "COMPACT_STRINGS" "Z"]
      | 4 => [.fieldLink own a "jdk/internal/util/Preconditions" "SIOOBE_FORMATTER" "Ljava/util/function/BiFunction;"]
      | _ => []
    | 8 => match o with
      | 0 => [iF own (tl.getD 0 0) a b]
      | 1 => [iF own (tl.getD 0 0) a b]
      | 2 => [iF own (tl.getD 0 0) a b]
      | 3 => [iF own (tl.getD 0 0) a b]
      | 7 => [.fieldLink own (tl.getD 0 0) "java/lang/String" "value" "[B"]
      | 8 => [.fieldLink own (tl.getD 0 0) "java/lang/String" "coder" "B"]
      | _ => []
    | 10 => match o with
      | 0 => [iF own (tl.getD 0 0) a b]
      | 1 => [iF own (tl.getD 0 0) a b]
      | 2 => [iF own (tl.getD 0 0) a b]
      | 3 => [iF own (tl.getD 0 0) a b]
      | 6 => [.classLink own (tl.getD 0 0) (cnm a), .instantiable (cnm a) (cW a), .initialized (cnm a)]
      | 7 => [.arrayClass .int]
      | 8 => [.classLink own (tl.getD 0 0) RX2]
      | _ => []
    | 11 => match o with
      | 0 => [.methodLink own (tl.getD 0 0) (sgt b).1, .instanceMethod (sgt b).1, .selects (sgt b).1.cls (sgt b).1 (sgt b).1, .initialized (sgt b).1.cls, .code (sgt b).1 (sgt b).2.1 (sgt b).2.2.1 (sgt b).2.2.2]
      | 3 => [.methodLink own (tl.getD 0 0) (sgt b).1, .instanceMethod (sgt b).1, .selects (sgt b).1.cls (sgt b).1 (sgt b).1, .initialized (sgt b).1.cls, .code (sgt b).1 (sgt b).2.1 (sgt b).2.2.1 (sgt b).2.2.2]
      | 1 => [.methodLink own (tl.getD 0 0) (sgt b).1, .static (sgt b).1, .initialized (sgt b).1.cls, .code (sgt b).1 (sgt b).2.1 (sgt b).2.2.1 (sgt b).2.2.2]
      | 2 => [.static (sgt b).1, .initialized (sgt b).1.cls, .code (sgt b).1 (sgt b).2.1 (sgt b).2.2.1 (sgt b).2.2.2]
      | 4 => [.methodLink own (tl.getD 0 0) (sgt b).1, .instanceMethod (sgt b).1, .initialized (sgt b).1.cls, .code (sgt b).1 (sgt b).2.1 (sgt b).2.2.1 (sgt b).2.2.2]
      | 5 => [.instanceMethod (sgt b).1, .initialized (sgt b).1.cls, .code (sgt b).1 (sgt b).2.1 (sgt b).2.2.1 (sgt b).2.2.2]
      | _ => []
    | 12 => match o with
      | 0 => [.methodLink own (tl.getD 0 0) Lib.Math.max.name, .static Lib.Math.max.name, .initialized "java/lang/Math", .code Lib.Math.max.name Lib.Math.max.code 2 (some .int)]
      | 1 => [.methodLink own (tl.getD 0 0) Lib.Math.min.name, .static Lib.Math.min.name, .initialized "java/lang/Math", .code Lib.Math.min.name Lib.Math.min.code 2 (some .int)]
      | 2 => [.methodLink own (tl.getD 0 0) arraycopyName, .native arraycopyName, .static arraycopyName, .initialized "java/lang/System"]
      | _ => [.methodLink own (tl.getD 0 0) Lib.objectInit, .instanceMethod Lib.objectInit, .code Lib.objectInit ⟨#[0xb1]⟩ 1 none]
    | _ => []
/-- the nest mates' links -/
def nI_ (own : String) (x : Ins) : List (String × Nat × MethodName × String) := match x with
  | (g, o, _, b, _, tl) => match g with
    | 11 => match o with
      | 2 => [(own, tl.getD 0 0, (sgt b).1, "LimitBank")]
      | 5 => [(own, tl.getD 0 0, (sgt b).1, "LimitBank")]
      | _ => []
    | _ => []
def npar (k : Nat) : Option Nat := (parseMethodDescriptor (sgt k).1.desc).map (fun d => d.parameters.length)
def okN (k : Nat) : Bool := decide ((sgt k).2.2.1 ≤ 17) && decide ((sgt k).1.cls ≠ "java/lang/invoke/MethodHandle") && decide ((sgt k).1.cls ≠ "java/lang/invoke/VarHandle")
/-- what else an instruction needs, decided -/
def sB (sg : Sig) (x : Ins) : Bool := match x with
  | (g, o, a, b, v, tl) => match g with
    | 0 => match o with
      | 0 => match b with
        | 0 => true
        | 1 => decide ((Int8.ofInt v.toInt).toInt32 = v)
        | 2 => decide ((Int16.ofInt v.toInt).toInt32 = v)
        | _ => true
      | 2 => decide (a < 4) && decide (sg.1.cls = RX3)
      | _ => true
    | 1 => match o with
      | 3 => decide (a < sg.2.2.1)
      | 4 => decide (a < sg.2.2.1)
      | 5 => decide (a + 1 < sg.2.2.1)
      | 6 => decide (a < sg.2.2.1)
      | _ => true
    | 6 => match o with
      | 0 => true
      | _ => decide (tl.length < 1000)
    | 8 => match o with
      | 0 => decide (a < 5 ∧ b < cW a ∧ fk a b = 0)
      | 1 => decide (a < 5 ∧ b < cW a ∧ fk a b = 1)
      | 2 => decide (a < 5 ∧ b < cW a ∧ fk a b = 2)
      | 3 => decide (a < 5 ∧ b < cW a ∧ fk a b = 3)
      | _ => true
    | 9 => match o with
      | 0 => decide (sg.2.2.2 = some .int)
      | 1 => decide (sg.2.2.2 = some .boolean)
      | 2 => decide (sg.2.2.2 = some .char ∨ sg.2.2.2 = some .byte)
      | 3 => decide (sg.2.2.2 = some .long)
      | 4 => decide (sg.2.2.2 = some (.object "java/lang/String"))
      | _ => decide (sg.2.2.2 = none)
    | 10 => match o with
      | 0 => decide (a < 5 ∧ b < cW a ∧ fk a b = 0 ∧ (cT a b).2.2.2 = false ∧ cty a b = .int)
      | 1 => decide (a < 5 ∧ b < cW a ∧ fk a b = 1 ∧ (cT a b).2.2.2 = true ∧ sg.1.name = "<init>" ∧ (cT a b).1 = sg.1.cls)
      | 2 => decide (a < 5 ∧ b < cW a ∧ fk a b = 2 ∧ (cT a b).2.2.2 = true ∧ sg.1.name = "<init>" ∧ (cT a b).1 = sg.1.cls)
      | 3 => false
      | 6 => decide (a < 5)
      | _ => true
    | 11 => match o with
      | 0 => okN b && decide (a < 5) && decide ((sgt b).1.cls = cnm a) && decide (0 < tl.getD 1 0) && decide (npar b = some (tl.getD 1 0 - 1))
      | 3 => okN b && decide ((sgt b).1.cls = "java/lang/String") && decide (0 < tl.getD 1 0) && decide (npar b = some (tl.getD 1 0 - 1))
      | 1 => okN b && decide (npar b = some (tl.getD 1 0))
      | 2 => okN b && decide (npar b = some (tl.getD 1 0))
      | 4 => okN b && decide ((sgt b).1.name = "<init>") && decide ((sgt b).2.2.2 = none) && decide (0 < tl.getD 1 0) && decide (npar b = some (tl.getD 1 0 - 1))
      | 5 => okN b && decide ((sgt b).1.name = "<init>") && decide ((sgt b).2.2.2 = none) && decide (0 < tl.getD 1 0) && decide (npar b = some (tl.getD 1 0 - 1))
      | _ => false
    | _ => true
def okB (sg : Sig) (x : PI) : Bool := match x.2.1 with
  | 13 => true
  | _ => decide (decode sg.2.1 x.1 = .ok (jI x.1 x.2)) && sB sg x.2
def okC (sg : Sig) (t : List PI) : Bool := match t with
  | [] => true
  | [x] => okB sg x
  | x :: y :: t => okB sg x && decide (y.1 = x.1 + (jI x.1 x.2).2) && okC sg (y :: t)
def okI (sg : Sig) (x : PI) : Prop := okB sg x = true ∧ (∀ w ∈ wI sg.1.cls x.2, w ∈ WS) ∧ ∀ q ∈ nI_ sg.1.cls x.2, q ∈ nestL
def okP (sg : Sig) (t : List PI) : Prop := match t with
  | [] => True
  | x :: t => okI sg x ∧ (match t with
    | [] => True
    | y :: _ => y.1 = x.1 + (jI x.1 x.2).2) ∧ okP sg t
theorem okP_of {sg : Sig} : ∀ t : List PI, okC sg t = true → (∀ w ∈ t.flatMap (fun x => wI sg.1.cls x.2), w ∈ WS) → (∀ q ∈ t.flatMap (fun x => nI_ sg.1.cls x.2), q ∈ nestL) → okP sg t
  | [], _, _, _ => trivial
  | [x], h, hw, hn => ⟨⟨h, fun w hm => hw w (by simp [hm]), fun q hm => hn q (by simp [hm])⟩, trivial, trivial⟩
  | x :: y :: t, h, hw, hn => by
    simp only [okC, Bool.and_eq_true, decide_eq_true_eq] at h
    refine ⟨⟨h.1.1, fun w hm => hw w (List.mem_flatMap.mpr ⟨x, List.mem_cons_self, hm⟩), fun q hm => hn q (List.mem_flatMap.mpr ⟨x, List.mem_cons_self, hm⟩)⟩, h.1.2, ?_⟩
    exact okP_of (y :: t) h.2 (fun w hm => hw w (by rw [List.flatMap_cons]; exact List.mem_append_right _ hm)) (fun q hm => hn q (by rw [List.flatMap_cons]; exact List.mem_append_right _ hm))
theorem okP_seek {sg : Sig} (tgt : Nat) : ∀ t : List PI, okP sg t → okP sg (seek tgt t)
  | [], _ => trivial
  | (pc, i) :: t, h => by
    unfold seek
    by_cases e : pc = tgt
    · rw [if_pos e]; exact h
    · rw [if_neg e]; exact okP_seek tgt t h.2.2
theorem seek_hd (tgt : Nat) : ∀ (t : List PI) (x : PI) (r : List PI), seek tgt t = x :: r → x.1 = tgt
  | [], x, r, h => by simp [seek] at h
  | (pc, i) :: t, x, r, h => by
    unfold seek at h
    by_cases e : pc = tgt
    · rw [if_pos e] at h
      cases h
      exact e
    · rw [if_neg e] at h
      exact seek_hd tgt t x r h
/-- the entry of a callee holds, below depth d -/
def okE (Z : Zt) (d : Nat) (k : Nat) (e : Ent) : Prop := ∀ av M, e.1 av M → Gm Z d (sgt k) av M (e.2 av M)
theorem clook_ok {Z : Zt} {d : Nat} {C : List (Nat × Ent)} (hC : ∀ q ∈ C, okE Z d q.1 q.2) (k : Nat) : okE Z d k (clook C k) := by
  induction C with
  | nil => intro av M h; exact h.elim
  | cons q t ih =>
    unfold clook
    by_cases e : k = q.1
    · rw [if_pos e, e]
      exact hC q List.mem_cons_self
    · rw [if_neg e]
      exact ih (fun q hq => hC q (List.mem_cons_of_mem _ hq))
theorem splitA_spec {K : List Value → List Value → Prop} : ∀ (n : Nat) (st acc : List Value), splitA n st acc K → ∃ l r, st = l ++ r ∧ l.length = n ∧ K (l.reverse ++ acc) r
  | 0, st, acc, h => ⟨[], st, rfl, rfl, h⟩
  | n + 1, [], acc, h => h.elim
  | n + 1, v :: r, acc, h => by
    obtain ⟨l, r', e1, e2, e3⟩ := splitA_spec n r (v :: acc) h
    exact ⟨v :: l, r', by rw [e1]; rfl, by simp [e2], by simpa using e3⟩
theorem bool_nar {v : Int32} (h : v = 0 ∨ v = 1) : narrow .boolean (.int v) = .int v := by
  rcases h with rfl | rfl <;> rfl
theorem char_nar {j : Nat} (h : j < 128) : narrow .char (.int (nI j)) = .int (nI j) ∧ narrow .byte (.int (nI j)) = .int (nI j) := by
  have : ∀ j, j < 128 → narrow .char (.int (nI j)) = .int (nI j) ∧ narrow .byte (.int (nI j)) = .int (nI j) := by decide +kernel
  exact this j h
theorem sub2 {i : Nat} (h : 2 ≤ i ∧ i < 6) : ∃ j : Nat, j < 4 ∧ i = j + 2 := ⟨i - 2, by omega, by omega⟩
theorem sub6 {i : Nat} (h : 6 ≤ i ∧ i < 10) : ∃ j : Nat, j < 4 ∧ i = j + 6 := ⟨i - 6, by omega, by omega⟩
section XS
variable {Z : Zt} {d : Nat} {sg : Sig} {n0 nF : Nat} {Q : Option Value → Mem → Prop} {pc : Nat} {lv : List (Option Value)} {st : List Value} {M : Mem}
theorem s0 {o a b : Nat} {v : Int32} {tl : List Nat} {k : List Value → Prop} (hi : okB sg (pc, 0, o, a, b, v, tl) = true) (hw : ∀ w ∈ wI sg.1.cls (0, o, a, b, v, tl), w ∈ WS) (hk : ∀ st', k st' → X Z d sg n0 nF Q (pc + (jI pc (0, o, a, b, v, tl)).2) lv st' M) (h : e0 o a v k st) : X Z d sg n0 nF Q pc lv st M := by
  simp only [okB, Bool.and_eq_true, decide_eq_true_eq] at hi
  obtain ⟨hd, hs⟩ := hi
  unfold e0 at h
  split at h
  · match b, hd, hs, hw, hk with
    | 0, hd, hs, hw, hk => exact X_iconst hd (hk _ h)
    | 1, hd, hs, hw, hk => exact X_bipush hd (of_decide_eq_true hs) (hk _ h)
    | 2, hd, hs, hw, hk => exact X_sipush hd (of_decide_eq_true hs) (hk _ h)
    | b + 3, hd, hs, hw, hk => exact X_ldc (hw _ List.mem_cons_self) hd (hk _ h)
  · exact X_ldc2 (hw _ List.mem_cons_self) hd (hk _ h)
  · exact X_ldc2 (hw _ List.mem_cons_self) hd (hk _ h)
  · have hs' : (decide (a < 4) && decide (sg.1.cls = RX3)) = true := hs
    simp only [Bool.and_eq_true, decide_eq_true_eq] at hs'
    exact X_ldcS hs'.1 hs'.2 hd (hk _ h)
  · exact X_compact (hw _ List.mem_cons_self) hd (hk _ h)
  · exact X_format (hw _ List.mem_cons_self) hd (hk _ h)
  · exact h.elim
theorem f4v {a : Nat} (h : a < 4) : ((f4 a : Fin 4) : Nat) = a := by
  unfold f4
  simp [Fin.ofNat]
  omega
theorem s1 {o a b : Nat} {v : Int32} {tl : List Nat} {k : List (Option Value) → List Value → Prop} (hi : okB sg (pc, 1, o, a, b, v, tl) = true) (hk : ∀ lv' st', k lv' st' → X Z d sg n0 nF Q (pc + (jI pc (1, o, a, b, v, tl)).2) lv' st' M) (h : e1 o a v k lv st) : X Z d sg n0 nF Q pc lv st M := by
  simp only [okB, Bool.and_eq_true, decide_eq_true_eq] at hi
  obtain ⟨hd, hs⟩ := hi
  unfold e1 at h
  split at h
  · split at h
    · next hl =>
      by_cases q : a < 4
      · simp only [jI, if_pos q] at hd hk
        exact X_iload_n hd (by rw [f4v q]; exact hl) (hk _ _ h)
      · simp only [jI, if_neg q] at hd hk
        exact X_iload hd hl (hk _ _ h)
    · exact h.elim
  · split at h
    · next hl =>
      by_cases q : a < 4
      · simp only [jI, if_pos q] at hd hk
        exact X_aload_n hd (by rw [f4v q]; exact hl) (hk _ _ h)
      · simp only [jI, if_neg q] at hd hk
        exact X_aload hd hl (hk _ _ h)
    · exact h.elim
  · split at h
    · next hl =>
      by_cases q : a < 4
      · simp only [jI, if_pos q] at hd hk
        exact X_lload_n hd (by rw [f4v q]; exact hl) (hk _ _ h)
      · simp only [jI, if_neg q] at hd hk
        exact X_lload hd hl (hk _ _ h)
    · exact h.elim
  · have hs' : a < sg.2.2.1 := of_decide_eq_true hs
    split at h
    · by_cases q : a < 4
      · simp only [jI, if_pos q] at hd hk
        exact X_istore_n (by rw [f4v q]; exact hs') hd (by rw [f4v q]; exact hk _ _ h)
      · simp only [jI, if_neg q] at hd hk
        exact X_istore hs' hd (hk _ _ h)
    · exact h.elim
  · have hs' : a < sg.2.2.1 := of_decide_eq_true hs
    split at h
    · by_cases q : a < 4
      · simp only [jI, if_pos q] at hd hk
        exact X_astore_n (by rw [f4v q]; exact hs') hd (by rw [f4v q]; exact hk _ _ h)
      · simp only [jI, if_neg q] at hd hk
        exact X_astore hs' hd (hk _ _ h)
    · exact h.elim
  · have hs' : a + 1 < sg.2.2.1 := of_decide_eq_true hs
    split at h
    · by_cases q : a < 4
      · simp only [jI, if_pos q] at hd hk
        exact X_lstore_n (by rw [f4v q]; exact hs') hd (by rw [f4v q]; exact hk _ _ h)
      · simp only [jI, if_neg q] at hd hk
        exact X_lstore hs' hd (hk _ _ h)
    · exact h.elim
  · have hs' : a < sg.2.2.1 := of_decide_eq_true hs
    split at h
    · next hl => exact X_iinc hs' hl hd (hk _ _ h)
    · exact h.elim
  · exact h.elim
theorem s2 {o a b : Nat} {v : Int32} {tl : List Nat} {k : List Value → Prop} (hi : okB sg (pc, 2, o, a, b, v, tl) = true) (hk : ∀ st', k st' → X Z d sg n0 nF Q (pc + (jI pc (2, o, a, b, v, tl)).2) lv st' M) (h : e2 o k st) : X Z d sg n0 nF Q pc lv st M := by
  simp only [okB, Bool.and_eq_true, decide_eq_true_eq] at hi
  obtain ⟨hd, -⟩ := hi
  unfold e2 at h
  split at h
  · split at h
    · exact X_iadd hd (hk _ h)
    · exact h.elim
  · split at h
    · exact X_isub hd (hk _ h)
    · exact h.elim
  · split at h
    · exact X_imul hd (hk _ h)
    · exact h.elim
  · split at h
    · exact X_idiv hd h.1 (hk _ h.2)
    · exact h.elim
  · split at h
    · exact X_irem hd h.1 (hk _ h.2)
    · exact h.elim
  · split at h
    · exact X_ineg hd (hk _ h)
    · exact h.elim
  · split at h
    · exact X_iand hd (hk _ h)
    · exact h.elim
  · split at h
    · exact X_ior hd (hk _ h)
    · exact h.elim
  · split at h
    · exact X_ishl hd (hk _ h)
    · exact h.elim
  · split at h
    · exact X_ishr hd (hk _ h)
    · exact h.elim
  · exact h.elim
theorem s3 {o a b : Nat} {v : Int32} {tl : List Nat} {k : List Value → Prop} (hi : okB sg (pc, 3, o, a, b, v, tl) = true) (hk : ∀ st', k st' → X Z d sg n0 nF Q (pc + (jI pc (3, o, a, b, v, tl)).2) lv st' M) (h : e3 o k st) : X Z d sg n0 nF Q pc lv st M := by
  simp only [okB, Bool.and_eq_true, decide_eq_true_eq] at hi
  obtain ⟨hd, -⟩ := hi
  unfold e3 at h
  split at h
  · split at h
    · exact X_i2l hd (hk _ h)
    · exact h.elim
  · split at h
    · exact X_ladd hd (hk _ h)
    · exact h.elim
  · split at h
    · exact X_lmul hd (hk _ h)
    · exact h.elim
  · split at h
    · exact X_lcmp hd (hk _ h)
    · exact h.elim
  · split at h
    · exact X_i2c hd (hk _ h)
    · exact h.elim
  · exact h.elim
theorem s4 {o a b : Nat} {v : Int32} {tl : List Nat} {kT kF : List Value → Prop} (hi : okB sg (pc, 4, o, a, b, v, tl) = true) (hT : ∀ st', kT st' → X Z d sg n0 nF Q a lv st' M) (hk : ∀ st', kF st' → X Z d sg n0 nF Q (pc + (jI pc (4, o, a, b, v, tl)).2) lv st' M) (h : e4 o kT kF st) : X Z d sg n0 nF Q pc lv st M := by
  simp only [okB, Bool.and_eq_true, decide_eq_true_eq] at hi
  obtain ⟨hd, -⟩ := hi
  unfold e4 at h
  split at h
  · split at h
    · exact X_icmp_eq hd (fun q => by rw [if_pos q] at h; exact hT _ h) (fun q => by rw [if_neg q] at h; exact hk _ h)
    · exact X_icmp_ne hd (fun q => by rw [if_neg q] at h; exact hT _ h) (fun q => by rw [if_pos q] at h; exact hk _ h)
    · exact X_icmp_lt hd (fun q => by rw [if_pos q] at h; exact hT _ h) (fun q => by rw [if_neg q] at h; exact hk _ h)
    · exact X_icmp_ge hd (fun q => by rw [if_pos q] at h; exact hT _ h) (fun q => by rw [if_neg q] at h; exact hk _ h)
    · exact X_icmp_gt hd (fun q => by rw [if_pos q] at h; exact hT _ h) (fun q => by rw [if_neg q] at h; exact hk _ h)
    · exact X_icmp_le hd (fun q => by rw [if_pos q] at h; exact hT _ h) (fun q => by rw [if_neg q] at h; exact hk _ h)
    · exact h.elim
  · exact h.elim
theorem s5 {o a b : Nat} {v : Int32} {tl : List Nat} {kT kF : List Value → Prop} (hi : okB sg (pc, 5, o, a, b, v, tl) = true) (hT : ∀ st', kT st' → X Z d sg n0 nF Q a lv st' M) (hk : ∀ st', kF st' → X Z d sg n0 nF Q (pc + (jI pc (5, o, a, b, v, tl)).2) lv st' M) (h : e5 o kT kF st) : X Z d sg n0 nF Q pc lv st M := by
  simp only [okB, Bool.and_eq_true, decide_eq_true_eq] at hi
  obtain ⟨hd, -⟩ := hi
  unfold e5 at h
  split at h
  · split at h
    · exact X_if_eq hd (fun q => by rw [if_pos q] at h; exact hT _ h) (fun q => by rw [if_neg q] at h; exact hk _ h)
    · exact X_if_ne hd (fun q => by rw [if_neg q] at h; exact hT _ h) (fun q => by rw [if_pos q] at h; exact hk _ h)
    · exact X_if_lt hd (fun q => by rw [if_pos q] at h; exact hT _ h) (fun q => by rw [if_neg q] at h; exact hk _ h)
    · exact X_if_ge hd (fun q => by rw [if_pos q] at h; exact hT _ h) (fun q => by rw [if_neg q] at h; exact hk _ h)
    · exact X_if_gt hd (fun q => by rw [if_pos q] at h; exact hT _ h) (fun q => by rw [if_neg q] at h; exact hk _ h)
    · exact X_if_le hd (fun q => by rw [if_pos q] at h; exact hT _ h) (fun q => by rw [if_neg q] at h; exact hk _ h)
    · exact h.elim
  · exact h.elim
theorem s7 {o a b : Nat} {v : Int32} {tl : List Nat} {k : List Value → Prop} (hi : okB sg (pc, 7, o, a, b, v, tl) = true) (hk : ∀ st', k st' → X Z d sg n0 nF Q (pc + (jI pc (7, o, a, b, v, tl)).2) lv st' M) (h : e7 o k st) : X Z d sg n0 nF Q pc lv st M := by
  simp only [okB, Bool.and_eq_true, decide_eq_true_eq] at hi
  obtain ⟨hd, -⟩ := hi
  unfold e7 at h
  split at h
  · split at h
    · exact X_dup rfl hd (hk _ h)
    · exact X_dup rfl hd (hk _ h)
    · exact h.elim
  · split at h
    · exact X_dup2 rfl rfl hd (hk _ h)
    · exact h.elim
  · split at h
    · exact X_pop rfl hd (hk _ h)
    · exact X_pop rfl hd (hk _ h)
    · exact h.elim
  · exact h.elim
theorem gv0 {i a b : Nat} (h : fk a b = 0) : gval M i a b = .int (mI M i b) := by unfold gval; rw [if_pos h]
theorem gv1 {i a b : Nat} (h : fk a b = 1) : gval M i a b = .ref (mR M i b) := by unfold gval; rw [if_neg (by omega), if_pos h]
theorem gv2 {i a b : Nat} (h : fk a b = 2) : gval M i a b = .int (nI (mR M i b)) := by unfold gval; rw [if_neg (by omega), if_neg (by omega), if_pos h]
theorem gv3 {i a b : Nat} (h : fk a b = 3) : gval M i a b = .long (mL M i) := by unfold gval; rw [if_neg (by omega), if_neg (by omega), if_neg (by omega)]
theorem s8 {o a b : Nat} {v : Int32} {tl : List Nat} {k : List Value → Prop} (hi : okB sg (pc, 8, o, a, b, v, tl) = true) (hw : ∀ w ∈ wI sg.1.cls (8, o, a, b, v, tl), w ∈ WS) (hk : ∀ st', k st' → X Z d sg n0 nF Q (pc + (jI pc (8, o, a, b, v, tl)).2) lv st' M) (h : e8 Z o a b k st M) : X Z d sg n0 nF Q pc lv st M := by
  simp only [okB, Bool.and_eq_true, decide_eq_true_eq] at hi
  obtain ⟨hd, hs⟩ := hi
  unfold e8 at h
  split at h
  · have hs' : a < 5 ∧ b < cW a ∧ fk a b = 0 := of_decide_eq_true hs
    split at h
    · exact X_getf hs'.1 hs'.2.1 (hw _ List.mem_cons_self) hd h.1 (by rw [gv0 hs'.2.2]; exact hk _ h.2)
    · exact h.elim
  · have hs' : a < 5 ∧ b < cW a ∧ fk a b = 1 := of_decide_eq_true hs
    split at h
    · exact X_getf hs'.1 hs'.2.1 (hw _ List.mem_cons_self) hd h.1 (by rw [gv1 hs'.2.2]; exact hk _ h.2)
    · exact h.elim
  · have hs' : a < 5 ∧ b < cW a ∧ fk a b = 2 := of_decide_eq_true hs
    split at h
    · exact X_getf hs'.1 hs'.2.1 (hw _ List.mem_cons_self) hd h.1 (by rw [gv2 hs'.2.2]; exact hk _ h.2)
    · exact h.elim
  · have hs' : a < 5 ∧ b < cW a ∧ fk a b = 3 := of_decide_eq_true hs
    split at h
    · exact X_getf hs'.1 hs'.2.1 (hw _ List.mem_cons_self) hd h.1 (by rw [gv3 hs'.2.2]; exact hk _ h.2)
    · exact h.elim
  · split at h
    · exact X_iald hd h.1 (hk _ h.2)
    · exact h.elim
  · split at h
    · exact X_aald hd h.1.1 h.1.2.1 h.1.2.2 (hk _ h.2)
    · exact h.elim
  · split at h
    · exact X_alen hd h.1.1 h.1.2 (hk _ h.2)
    · exact h.elim
  · split at h
    · next i r =>
      obtain ⟨h1, h3⟩ := h
      obtain ⟨j, hj, rfl⟩ := sub2 h1
      exact X_strV hj (hw _ List.mem_cons_self) hd (hk _ h3)
    · exact h.elim
  · split at h
    · next i r =>
      obtain ⟨h1, h3⟩ := h
      obtain ⟨j, hj, rfl⟩ := sub2 h1
      exact X_strC hj (hw _ List.mem_cons_self) hd (hk _ h3)
    · exact h.elim
  · split at h
    · next jj i r =>
      obtain ⟨⟨h1, h4⟩, h3⟩ := h
      obtain ⟨j, hj, rfl⟩ := sub6 h1
      rw [Nat.add_sub_cancel] at h4 h3
      exact X_bld hj h4 hd (hk _ h3)
    · exact h.elim
  · split at h
    · next i r =>
      obtain ⟨h1, h3⟩ := h
      obtain ⟨j, hj, rfl⟩ := sub6 h1
      rw [Nat.add_sub_cancel] at h3
      exact X_blen hj hd (hk _ h3)
    · exact h.elim
  · split at h
    · obtain ⟨⟨rfl, h4⟩, h3⟩ := h
      exact X_sld hd h4 (hk _ h3)
    · exact h.elim
  · split at h
    · obtain ⟨rfl, h3⟩ := h
      exact X_slen hd (hk _ h3)
    · exact h.elim
  · exact h.elim
theorem s9 {o a b : Nat} {v : Int32} {tl : List Nat} (hi : okB sg (pc, 9, o, a, b, v, tl) = true) (h : e9 o Q st M) : X Z d sg n0 nF Q pc lv st M := by
  simp only [okB, Bool.and_eq_true, decide_eq_true_eq] at hi
  obtain ⟨hd, hs⟩ := hi
  unfold e9 at h
  split at h
  · have hs' : sg.2.2.2 = some .int := of_decide_eq_true hs
    split at h
    · next x => exact X_ret (r := some (.int x)) ⟨hd, _, hs', rfl⟩ h
    · exact h.elim
  · have hs' : sg.2.2.2 = some .boolean := of_decide_eq_true hs
    split at h
    · next x => exact X_ret (r := some (.int x)) ⟨hd, _, hs', bool_nar h.1⟩ h.2
    · exact h.elim
  · have hs' : sg.2.2.2 = some .char ∨ sg.2.2.2 = some .byte := of_decide_eq_true hs
    split at h
    · next x =>
      obtain ⟨⟨j, hj, rfl⟩, h2⟩ := h
      rcases hs' with z | z
      · exact X_ret (r := some (.int (nI j))) ⟨hd, _, z, (char_nar hj).1⟩ h2
      · exact X_ret (r := some (.int (nI j))) ⟨hd, _, z, (char_nar hj).2⟩ h2
    · exact h.elim
  · have hs' : sg.2.2.2 = some .long := of_decide_eq_true hs
    split at h
    · next x => exact X_ret (r := some (.long x)) ⟨hd, hs'⟩ h
    · exact h.elim
  · have hs' : sg.2.2.2 = some (.object "java/lang/String") := of_decide_eq_true hs
    split at h
    · next x => exact X_ret (r := some (.ref x)) ⟨hd, _, hs', Or.inl ⟨_, rfl⟩⟩ h
    · exact h.elim
  · have hs' : sg.2.2.2 = none := of_decide_eq_true hs
    split at h
    · exact X_ret (r := none) ⟨hd, hs'⟩ h
    · exact h.elim
  · exact h.elim
theorem s10 {o a b : Nat} {v : Int32} {tl : List Nat} {k : List Value → Mem → Prop} (hi : okB sg (pc, 10, o, a, b, v, tl) = true) (hw : ∀ w ∈ wI sg.1.cls (10, o, a, b, v, tl), w ∈ WS) (hk : ∀ st' M', k st' M' → X Z d sg n0 nF Q (pc + (jI pc (10, o, a, b, v, tl)).2) lv st' M') (h : e10 nF o a b k st M) : X Z d sg n0 nF Q pc lv st M := by
  simp only [okB, Bool.and_eq_true, decide_eq_true_eq] at hi
  obtain ⟨hd, hs⟩ := hi
  unfold e10 at h
  split at h
  · have hs' : a < 5 ∧ b < cW a ∧ fk a b = 0 ∧ (cT a b).2.2.2 = false ∧ cty a b = .int := of_decide_eq_true hs
    split at h
    · exact X_putI hs'.1 hs'.2.1 hs'.2.2.2.1 hs'.2.2.1 hs'.2.2.2.2 (hw _ List.mem_cons_self) hd h.1 (hk _ _ h.2)
    · exact h.elim
  · have hs' : a < 5 ∧ b < cW a ∧ fk a b = 1 ∧ (cT a b).2.2.2 = true ∧ sg.1.name = "<init>" ∧ (cT a b).1 = sg.1.cls := of_decide_eq_true hs
    split at h
    · exact X_putR hs'.1 hs'.2.1 hs'.2.2.2.1 hs'.2.2.1 hs'.2.2.2.2.1 hs'.2.2.2.2.2 (hw _ List.mem_cons_self) hd h.1 (hk _ _ h.2)
    · exact h.elim
  · have hs' : a < 5 ∧ b < cW a ∧ fk a b = 2 ∧ (cT a b).2.2.2 = true ∧ sg.1.name = "<init>" ∧ (cT a b).1 = sg.1.cls := of_decide_eq_true hs
    split at h
    · obtain ⟨h1, n, rfl, h2⟩ := h
      exact X_putC hs'.1 hs'.2.1 hs'.2.2.2.1 hs'.2.2.1 hs'.2.2.2.2.1 hs'.2.2.2.2.2 (hw _ List.mem_cons_self) hd h1 (hk _ _ h2)
    · exact h.elim
  · exact absurd (show false = true from hs) (by decide)
  · split at h
    · exact X_iast hd h.1 (hk _ _ h.2)
    · exact h.elim
  · split at h
    · exact X_aast hd h.1.1.1 h.1.1.2.1 h.1.1.2.2 h.1.2 (hk _ _ h.2)
    · exact h.elim
  · have hs' : a < 5 := of_decide_eq_true hs
    exact X_new hs' (hw _ List.mem_cons_self) (hw _ (List.mem_cons_of_mem _ List.mem_cons_self)) (hw _ (List.mem_cons_of_mem _ (List.mem_cons_of_mem _ List.mem_cons_self))) hd h.1.1 h.1.2 (hk _ _ h.2)
  · split at h
    · obtain ⟨len, ⟨h1, h2, h3, h4⟩, h5⟩ := h
      exact X_newa (hw _ List.mem_cons_self) hd h1 h2 h3 h4 (hk _ _ h5)
    · exact h.elim
  · split at h
    · obtain ⟨len, ⟨h1, h2, h3, h4⟩, h5⟩ := h
      exact X_anew (hw _ List.mem_cons_self) hd h1 h2 h3 h4 (hk _ _ h5)
    · exact h.elim
  · exact h.elim
theorem s12 {o a b : Nat} {v : Int32} {tl : List Nat} {k : List Value → Mem → Prop} (hi : okB sg (pc, 12, o, a, b, v, tl) = true) (hw : ∀ w ∈ wI sg.1.cls (12, o, a, b, v, tl), w ∈ WS) (hk : ∀ st' M', k st' M' → X Z (d + 1) sg n0 nF Q (pc + (jI pc (12, o, a, b, v, tl)).2) lv st' M') (h : e12 o k st M) : X Z (d + 1) sg n0 nF Q pc lv st M := by
  simp only [okB, Bool.and_eq_true, decide_eq_true_eq] at hi
  obtain ⟨hd, hs⟩ := hi
  unfold e12 at h
  split at h
  · split at h
    · exact X_max (hw _ List.mem_cons_self) (hw _ (List.mem_cons_of_mem _ List.mem_cons_self)) (hw _ (List.mem_cons_of_mem _ (List.mem_cons_of_mem _ List.mem_cons_self))) (hw _ (List.mem_cons_of_mem _ (List.mem_cons_of_mem _ (List.mem_cons_of_mem _ List.mem_cons_self)))) hd h.1 (hk _ _ h.2)
    · exact h.elim
  · split at h
    · exact X_min (hw _ List.mem_cons_self) (hw _ (List.mem_cons_of_mem _ List.mem_cons_self)) (hw _ (List.mem_cons_of_mem _ (List.mem_cons_of_mem _ List.mem_cons_self))) (hw _ (List.mem_cons_of_mem _ (List.mem_cons_of_mem _ (List.mem_cons_of_mem _ List.mem_cons_self)))) hd h.1 (hk _ _ h.2)
    · exact h.elim
  · split at h
    · obtain ⟨n, dp, sp, ⟨rfl, rfl, rfl, g1, g2, g3, g4, g5, g6, g7, g8⟩, h2⟩ := h
      exact X_copy (hw _ List.mem_cons_self) (hw _ (List.mem_cons_of_mem _ List.mem_cons_self)) (hw _ (List.mem_cons_of_mem _ (List.mem_cons_of_mem _ List.mem_cons_self))) (hw _ (List.mem_cons_of_mem _ (List.mem_cons_of_mem _ (List.mem_cons_of_mem _ List.mem_cons_self)))) hd g4 g5.1 g5.2 g6.1 g6.2 g7 g8 g1 g2 g3 (hk _ _ h2)
    · exact h.elim
  · split at h
    · exact X_objI h.1.1 (hw _ List.mem_cons_self) (hw _ (List.mem_cons_of_mem _ List.mem_cons_self)) (hw _ (List.mem_cons_of_mem _ (List.mem_cons_of_mem _ List.mem_cons_self))) hd h.1.2 (hk _ _ h.2)
    · exact h.elim
  · exact h.elim
end XS
theorem okN_spec {k : Nat} (h : okN k = true) : (sgt k).2.2.1 ≤ 17 ∧ (sgt k).1.cls ≠ "java/lang/invoke/MethodHandle" ∧ (sgt k).1.cls ≠ "java/lang/invoke/VarHandle" := by
  simp only [okN, Bool.and_eq_true, decide_eq_true_eq] at h
  exact ⟨h.1.1, h.1.2, h.2⟩
theorem rev_cons_of {l : List Value} {n : Nat} (hl : l.length = n) (h : 0 < n) : ∃ (l' : List Value) (v : Value), l = l' ++ [v] ∧ l'.length = n - 1 ∧ l.reverse = v :: l'.reverse := by
  obtain ⟨w, t, e⟩ : ∃ w t, l.reverse = w :: t := by
    cases e : l.reverse with
    | nil => have := congrArg List.length e; simp at this; rw [this] at hl; simp at hl; omega
    | cons w t => exact ⟨w, t, rfl⟩
  refine ⟨t.reverse, w, ?_, ?_, ?_⟩
  · have := congrArg List.reverse e
    rw [List.reverse_reverse, List.reverse_cons] at this
    exact this
  · have := congrArg List.length e
    simp at this ⊢
    omega
  · rw [e, List.reverse_reverse]
theorem tsw_spec {k : Nat → Prop} {dflt : Nat} : ∀ (tl : List Nat) (x : Int32) (i : Nat), tsw k dflt x i tl → (∃ j t, tl[j]? = some t ∧ x = nI (i + j) ∧ k t) ∨ ((∀ j, j < tl.length → ¬ x = nI (i + j)) ∧ k dflt)
  | [], x, i, h => Or.inr ⟨fun j hj => by simp at hj, h⟩
  | t :: r, x, i, h => by
    unfold tsw at h
    by_cases q : x = nI i
    · rw [if_pos q] at h
      exact Or.inl ⟨0, t, rfl, q, h⟩
    · rw [if_neg q] at h
      rcases tsw_spec r x (i + 1) h with ⟨j, t', h1, h2, h3⟩ | ⟨h1, h2⟩
      · exact Or.inl ⟨j + 1, t', by simpa using h1, by rw [h2, show i + 1 + j = i + (j + 1) by omega], h3⟩
      · refine Or.inr ⟨fun j hj => ?_, h2⟩
        cases j with
        | zero => exact q
        | succ j =>
          have := h1 j (by simp at hj; omega)
          rw [show i + 1 + j = i + (j + 1) by omega] at this
          exact this
section XS2
variable {Z : Zt} {d : Nat} {sg : Sig} {n0 nF : Nat} {Q : Option Value → Mem → Prop} {pc : Nat} {lv : List (Option Value)} {st : List Value} {M : Mem}
theorem X_le {pc : Nat} (h : mN M ≤ nF → X Z d sg n0 nF Q pc lv st M) : X Z d sg n0 nF Q pc lv st M := by
  intro p e R s m args below meth c Qe H locs la hF h1 h2 h3 h4 hR hS hL hE
  exact h h4 p e R s m args below meth c Qe H locs la hF h1 h2 h3 h4 hR hS hL hE
theorem s11 {o a b : Nat} {v : Int32} {tl : List Nat} {e : Ent} {k : List Value → Mem → Prop} (hC : okE Z d b e) (hi : okB sg (pc, 11, o, a, b, v, tl) = true) (hw : ∀ w ∈ wI sg.1.cls (11, o, a, b, v, tl), w ∈ WS) (hn : ∀ q ∈ nI_ sg.1.cls (11, o, a, b, v, tl), q ∈ nestL) (hk : ∀ st' M', k st' M' → X Z (d + 1) sg n0 nF Q (pc + (jI pc (11, o, a, b, v, tl)).2) lv st' M') (h : e11 o a (tl.getD 1 0) e k st M) : X Z (d + 1) sg n0 nF Q pc lv st M := by
  simp only [okB, Bool.and_eq_true, decide_eq_true_eq] at hi
  obtain ⟨hd, hs⟩ := hi
  obtain ⟨l, rest, rfl, hl, ⟨hr, hws⟩, hpre, hpost⟩ := splitA_spec _ _ _ h
  rw [List.append_nil] at hr hpre hpost
  refine X_le fun hle => ?_
  clear h
  revert hd hs hw hn hk hr
  match o with
  | 0 =>
    intro hw hn hk hd hs hr
    simp only [sB, Bool.and_eq_true, decide_eq_true_eq] at hs
    obtain ⟨⟨⟨⟨h0, h1⟩, h2⟩, h3⟩, h4⟩ := hs
    obtain ⟨g1, g2, g3⟩ := okN_spec h0
    obtain ⟨l', w, e1, e2, e3⟩ := rev_cons_of hl h3
    rw [e3] at hr hpre hpost
    subst e1
    cases w with
    | ref i =>
      have := X_callV (d := d) (n0 := n0) (nF := nF) (Q := Q) (lv := lv) (sg := sg) (pc := pc) (av := l'.reverse) (rest := rest) h1 h2 g1 ⟨g2, g3⟩ h4 (by simpa using e2) (hw _ (by simp [wI])) (hw _ (by simp [wI])) (hw _ (by simp [wI])) (hw _ (by simp [wI])) (hw _ (by simp [wI])) hd hws hr (hC _ _ hpre) hle (fun r M' hq _ => hk _ _ (hpost r M' hq))
      rw [List.reverse_reverse] at this
      rw [List.append_assoc]
      exact this
    | _ => exact hr.elim
  | 1 =>
    intro hw hn hk hd hs hr
    simp only [sB, Bool.and_eq_true, decide_eq_true_eq] at hs
    obtain ⟨h0, h4⟩ := hs
    obtain ⟨g1, g2, g3⟩ := okN_spec h0
    have := X_callS (d := d) (n0 := n0) (nF := nF) (Q := Q) (lv := lv) (sg := sg) (pc := pc) (av := l.reverse) (rest := rest) g1 ⟨g2, g3⟩ h4 (by simpa using hl) (hw _ (by simp [wI])) (hw _ (by simp [wI])) (hw _ (by simp [wI])) (hw _ (by simp [wI])) hd hws (hC _ _ hpre) hle (fun r M' hq _ => hk _ _ (hpost r M' hq))
    rw [List.reverse_reverse] at this
    exact this
  | 2 =>
    intro hw hn hk hd hs hr
    simp only [sB, Bool.and_eq_true, decide_eq_true_eq] at hs
    obtain ⟨h0, h4⟩ := hs
    obtain ⟨g1, g2, g3⟩ := okN_spec h0
    have := X_callSN (host := "LimitBank") (d := d) (n0 := n0) (nF := nF) (Q := Q) (lv := lv) (sg := sg) (pc := pc) (av := l.reverse) (rest := rest) g1 ⟨g2, g3⟩ h4 (by simpa using hl) (hn _ (by simp [nI_])) (hw _ (by simp [wI])) (hw _ (by simp [wI])) (hw _ (by simp [wI])) hd hws (hC _ _ hpre) hle (fun r M' hq _ => hk _ _ (hpost r M' hq))
    rw [List.reverse_reverse] at this
    exact this
  | 3 =>
    intro hw hn hk hd hs hr
    simp only [sB, Bool.and_eq_true, decide_eq_true_eq] at hs
    obtain ⟨⟨⟨h0, h1⟩, h3⟩, h4⟩ := hs
    obtain ⟨g1, g2, g3⟩ := okN_spec h0
    obtain ⟨l', w, e1, e2, e3⟩ := rev_cons_of hl h3
    rw [e3] at hr hpre hpost
    subst e1
    cases w with
    | ref i =>
      obtain ⟨j, hj, rfl⟩ := sub2 hr
      have := X_callT (d := d) (n0 := n0) (nF := nF) (Q := Q) (lv := lv) (sg := sg) (pc := pc) (av := l'.reverse) (rest := rest) hj h1 g1 h4 (by simpa using e2) (hw _ (by simp [wI])) (hw _ (by simp [wI])) (hw _ (by simp [wI])) (hw _ (by simp [wI])) (hw _ (by simp [wI])) hd hws (hC _ _ hpre) hle (fun r M' hq _ => hk _ _ (hpost r M' hq))
      rw [List.reverse_reverse] at this
      rw [List.append_assoc]
      exact this
    | _ => exact hr.elim
  | 4 =>
    intro hw hn hk hd hs hr
    simp only [sB, Bool.and_eq_true, decide_eq_true_eq] at hs
    obtain ⟨⟨⟨⟨h0, h1⟩, h2⟩, h3⟩, h4⟩ := hs
    obtain ⟨g1, g2, g3⟩ := okN_spec h0
    obtain ⟨l', w, e1, e2, e3⟩ := rev_cons_of hl h3
    rw [e3] at hr hpre hpost
    subst e1
    cases w with
    | ref i =>
      have := X_callI (d := d) (n0 := n0) (nF := nF) (Q := Q) (lv := lv) (sg := sg) (pc := pc) (av := l'.reverse) (rest := rest) hr h1 h2 g1 ⟨g2, g3⟩ h4 (by simpa using e2) (hw _ (by simp [wI])) (hw _ (by simp [wI])) (hw _ (by simp [wI])) (hw _ (by simp [wI])) hd hws (hC _ _ hpre) hle (fun r M' hq _ => hk _ _ (hpost r M' hq))
      rw [List.reverse_reverse] at this
      rw [List.append_assoc]
      exact this
    | _ => exact hr.elim
  | 5 =>
    intro hw hn hk hd hs hr
    simp only [sB, Bool.and_eq_true, decide_eq_true_eq] at hs
    obtain ⟨⟨⟨⟨h0, h1⟩, h2⟩, h3⟩, h4⟩ := hs
    obtain ⟨g1, g2, g3⟩ := okN_spec h0
    obtain ⟨l', w, e1, e2, e3⟩ := rev_cons_of hl h3
    rw [e3] at hr hpre hpost
    subst e1
    cases w with
    | ref i =>
      have := X_callIN (host := "LimitBank") (d := d) (n0 := n0) (nF := nF) (Q := Q) (lv := lv) (sg := sg) (pc := pc) (av := l'.reverse) (rest := rest) hr h1 h2 g1 ⟨g2, g3⟩ h4 (by simpa using e2) (hn _ (by simp [nI_])) (hw _ (by simp [wI])) (hw _ (by simp [wI])) (hw _ (by simp [wI])) hd hws (hC _ _ hpre) hle (fun r M' hq _ => hk _ _ (hpost r M' hq))
      rw [List.reverse_reverse] at this
      rw [List.append_assoc]
      exact this
    | _ => exact hr.elim
  | o + 6 =>
    intro hw hn hk hd hs hr
    exact absurd hs (by simp [sB])
theorem X_tabIn {a b j t : Nat} {x : Int32} {tl : List Nat} (hd : decode sg.2.1 pc = .ok (.tableswitch ((a : Int) - pc) 0 ((tl.length : Int) - 1) (tl.map fun (t : Nat) => ((t : Int) - (pc : Int))).toArray, b)) (hx : x = nI j) (hj : tl[j]? = some t) (hl : tl.length < 1000) (h : X Z d sg n0 nF Q t lv st M) : X Z d sg n0 nF Q pc lv (.int x :: st) M := by
  intro p e R s m args below meth c Qe H locs la hF h1 h2 h3 h4 hR hS hL hE
  have hlt : j < tl.length := (List.getElem?_eq_some_iff.mp hj).1
  have hxi : x.toInt = (j : Int) := by rw [hx]; exact nI_toInt (by omega)
  exact lv_tableIn hF.1 hF.2.1 hd (by omega) (by omega) (off := (t : Int) - pc) (by rw [hxi]; simp [hj]) (by omega) (h p e R s m args below meth c Qe H locs la hF h1 h2 h3 h4 hR hS hL hE)
theorem X_tabOut {a b : Nat} {x : Int32} {tl : List Nat} (hd : decode sg.2.1 pc = .ok (.tableswitch ((a : Int) - pc) 0 ((tl.length : Int) - 1) (tl.map fun (t : Nat) => ((t : Int) - (pc : Int))).toArray, b)) (hx : ∀ j, j < tl.length → ¬ x = nI j) (hl : tl.length < 1000) (h : X Z d sg n0 nF Q a lv st M) : X Z d sg n0 nF Q pc lv (.int x :: st) M := by
  intro p e R s m args below meth c Qe H locs la hF h1 h2 h3 h4 hR hS hL hE
  have ho : x.toInt < 0 ∨ (tl.length : Int) - 1 < x.toInt := by
    rcases Int.lt_or_le x.toInt 0 with q | q
    · exact Or.inl q
    · rcases Int.lt_or_le ((tl.length : Int) - 1) x.toInt with q2 | q2
      · exact Or.inr q2
      · exfalso
        have hj : x.toInt.toNat < tl.length := by omega
        refine hx _ hj (Int32.toInt_inj.mp ?_)
        rw [nI_toInt (by omega)]
        omega
  exact lv_tableOut hF.1 hF.2.1 hd ho (by omega) (h p e R s m args below meth c Qe H locs la hF h1 h2 h3 h4 hR hS hL hE)
/-- what 'run' computes at an instruction carries the machine from there to the frame's end -/
theorem run_X {C : List (Nat × Ent)} {S : List Nat} (hC : ∀ q ∈ C, okE Z d q.1 q.2) : ∀ (f : Nat) (t : List PI) (lv : List (Option Value)) (st : List Value) (M : Mem), okP sg t → run Z nF C S (fun pc lv st M => X Z (d + 1) sg n0 nF Q pc lv st M) Q f t lv st M → ∀ (x : PI) (r : List PI), t = x :: r → X Z (d + 1) sg n0 nF Q x.1 lv st M := by
  intro f
  induction f with
  | zero => intro t lv st M _ h; exact h.elim
  | succ f ih =>
    intro t lv st M hP h x r e
    subst e
    obtain ⟨pc, g, o, a, b, v, tl⟩ := x
    obtain ⟨⟨hi, hw, hn⟩, hnx, hr⟩ := hP
    have hgo : ∀ (t : List PI) (tgt : Nat), okP sg t → (∀ y q, t = y :: q → y.1 = tgt) → ∀ lv' st' M', go S (fun pc lv st M => X Z (d + 1) sg n0 nF Q pc lv st M) (run Z nF C S (fun pc lv st M => X Z (d + 1) sg n0 nF Q pc lv st M) Q f) t lv' st' M' → X Z (d + 1) sg n0 nF Q tgt lv' st' M' := by
      intro t tgt hP ht lv' st' M' h
      match t, hP, ht, h with
      | [], _, _, h => exact h.elim
      | (pc', i') :: t, hP, ht, h =>
        have e1 := ht _ _ rfl
        simp only at e1
        subst e1
        unfold go at h
        by_cases q : inS S pc' = true
        · simp only [q, if_true] at h
          exact h
        · simp only [if_neg q] at h
          exact ih _ _ _ _ hP h _ _ rfl
    have hN : ∀ lv' st' M', go S (fun pc lv st M => X Z (d + 1) sg n0 nF Q pc lv st M) (run Z nF C S (fun pc lv st M => X Z (d + 1) sg n0 nF Q pc lv st M) Q f) r lv' st' M' → X Z (d + 1) sg n0 nF Q (pc + (jI pc (g, o, a, b, v, tl)).2) lv' st' M' := by
      refine hgo r _ hr fun y q e => ?_
      subst e
      exact hnx
    have hJ : ∀ tgt lv' st' M', jmp S (fun pc lv st M => X Z (d + 1) sg n0 nF Q pc lv st M) (run Z nF C S (fun pc lv st M => X Z (d + 1) sg n0 nF Q pc lv st M) Q f) pc tgt r lv' st' M' → X Z (d + 1) sg n0 nF Q tgt lv' st' M' := by
      intro tgt lv' st' M' h
      unfold jmp at h
      by_cases q : tgt ≤ pc
      · rw [if_pos q] at h
        exact h
      · rw [if_neg q] at h
        exact hgo _ tgt (okP_seek tgt r hr) (fun y q e => seek_hd tgt r y q e) _ _ _ h
    match g, hi, hw, hn, hN, h with
    | 0, hi, hw, hn, hN, h => exact s0 hi hw (fun st' h' => hN _ _ _ h') h
    | 1, hi, hw, hn, hN, h => exact s1 hi (fun lv' st' h' => hN _ _ _ h') h
    | 2, hi, hw, hn, hN, h => exact s2 hi (fun st' h' => hN _ _ _ h') h
    | 3, hi, hw, hn, hN, h => exact s3 hi (fun st' h' => hN _ _ _ h') h
    | 4, hi, hw, hn, hN, h => exact s4 hi (fun st' h' => hJ _ _ _ _ h') (fun st' h' => hN _ _ _ h') h
    | 5, hi, hw, hn, hN, h => exact s5 hi (fun st' h' => hJ _ _ _ _ h') (fun st' h' => hN _ _ _ h') h
    | 6, hi, hw, hn, hN, h =>
      simp only [okB, Bool.and_eq_true, decide_eq_true_eq] at hi
      match o, hi, h with
      | 0, hi, h => exact X_goto hi.1 (hJ _ _ _ _ h)
      | 1, hi, h =>
        match st, h with
        | .int y :: st, h =>
          have hl : tl.length < 1000 := of_decide_eq_true hi.2
          rcases tsw_spec tl y 0 h with ⟨j, t, h1, h2, h3⟩ | ⟨h1, h2⟩
          · rw [Nat.zero_add] at h2
            exact X_tabIn hi.1 h2 h1 hl (hJ _ _ _ _ h3)
          · exact X_tabOut hi.1 (fun j hj => by have := h1 j hj; rw [Nat.zero_add] at this; exact this) hl (hJ _ _ _ _ h2)
      | o + 2, hi, h => exact h.elim
    | 7, hi, hw, hn, hN, h => exact s7 hi (fun st' h' => hN _ _ _ h') h
    | 8, hi, hw, hn, hN, h => exact s8 hi hw (fun st' h' => hN _ _ _ h') h
    | 9, hi, hw, hn, hN, h => exact s9 hi h
    | 10, hi, hw, hn, hN, h => exact s10 hi hw (fun st' M' h' => hN _ _ _ h') h
    | 11, hi, hw, hn, hN, h => exact s11 (clook_ok hC b) hi hw hn (fun st' M' h' => hN _ _ _ h') h
    | 12, hi, hw, hn, hN, h => exact s12 hi hw (fun st' M' h' => hN _ _ _ h') h
    | g + 13, hi, hw, hn, hN, h => exact h.elim
end XS2
