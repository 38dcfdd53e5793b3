/-! ===== the text typed, and how it is read ===== -/
theorem apF_tl {f : Nat → Nat → Int32} {v : Int32} (h : tl f < 60) : tl (apF f v) = tl f + 1 := by
  unfold apF
  rw [if_pos h]
  exact tN_of u2_eq (by omega)
theorem apF_T {f : Nat → Nat → Int32} {v : Int32} (h : tl f < 60) : TxD (apF f v) := by
  have e := apF_tl (v := v) h
  refine ⟨?_, by omega⟩
  rw [e]
  unfold apF
  rw [if_pos h, u2_eq]
theorem apF_18 {f : Nat → Nat → Int32} {v : Int32} (h : tl f < 60) (y : Nat) : apF f v 18 y = if y = tl f then v else f 18 y := by
  unfold apF
  rw [if_pos h, u2_ne (by omega), u2_at]
  by_cases z : y = tl f
  · rw [if_pos ⟨rfl, z⟩, if_pos z]
  · rw [if_neg (fun q => z q.2), if_neg z]
theorem apF_o {f : Nat → Nat → Int32} {v : Int32} {x y : Nat} (h : x ≠ 17) (h2 : x ≠ 18) : apF f v x y = f x y := by
  unfold apF
  split
  · rw [u2_ne h, u2_ne h2]
  · rfl
def apL (f : Nat → Nat → Int32) : List Int32 → Nat → Nat → Int32
  | [] => f
  | v :: l => apL (apF f v) l
theorem apL_tl : ∀ (l : List Int32) (f : Nat → Nat → Int32), tl f + l.length ≤ 60 → tl (apL f l) = tl f + l.length
  | [], _, _ => rfl
  | v :: l, f, h => by
    rw [List.length_cons] at h ⊢
    have e := apF_tl (f := f) (v := v) (by omega)
    rw [apL, apL_tl l _ (by omega), e]
    omega
theorem apL_T : ∀ (l : List Int32) (f : Nat → Nat → Int32), TxD f → tl f + l.length ≤ 60 → TxD (apL f l)
  | [], _, h, _ => h
  | v :: l, f, hT, h => by
    rw [List.length_cons] at h
    have e := apF_tl (f := f) (v := v) (by omega)
    exact apL_T l _ (apF_T (by omega)) (by omega)
theorem apL_o {x y : Nat} (h : x ≠ 17) (h2 : x ≠ 18) : ∀ (l : List Int32) (f : Nat → Nat → Int32), apL f l x y = f x y
  | [], _ => rfl
  | v :: l, f => (apL_o h h2 l _).trans (apF_o h h2)
theorem apL_lo {y : Nat} : ∀ (l : List Int32) (f : Nat → Nat → Int32), tl f + l.length ≤ 60 → y < tl f → apL f l 18 y = f 18 y
  | [], _, _, _ => rfl
  | v :: l, f, h, hy => by
    rw [List.length_cons] at h
    have e := apF_tl (f := f) (v := v) (by omega)
    rw [apL, apL_lo l _ (by omega) (by omega), apF_18 (by omega), if_neg (by omega)]
theorem apL_at : ∀ (l : List Int32) (f : Nat → Nat → Int32) (i : Nat), tl f + l.length ≤ 60 → i < l.length → apL f l 18 (tl f + i) = l.getD i 0
  | [], _, i, _, hi => absurd hi (Nat.not_lt_zero i)
  | v :: l, f, 0, h, _ => by
    rw [List.length_cons] at h
    have e := apF_tl (f := f) (v := v) (by omega)
    rw [apL, apL_lo l _ (by omega) (by omega), apF_18 (by omega), if_pos (by omega)]
    rfl
  | v :: l, f, i + 1, h, hi => by
    rw [List.length_cons] at h hi
    have e := apF_tl (f := f) (v := v) (by omega)
    have := apL_at l (apF f v) i (by omega) (by omega)
    rw [apL, show tl f + (i + 1) = tl (apF f v) + i by omega, this]
    rfl
theorem apL_app : ∀ (l l2 : List Int32) (f : Nat → Nat → Int32), apL (apL f l) l2 = apL f (l ++ l2)
  | [], _, _ => rfl
  | v :: l, l2, f => apL_app l l2 (apF f v)
/-! runs of blanks and letters -/
theorem skF_run {P : Int32 → Bool} {t : Nat → Int32} {n : Nat} : ∀ m i, (∀ y, i ≤ y → y < i + m → y < n ∧ P (t y) = true) → ¬ (i + m < n ∧ P (t (i + m)) = true) → skF P t n i = i + m
  | 0, i, _, h => skF_e h
  | m + 1, i, h1, h2 => by
    have := h1 i (Nat.le_refl _) (by omega)
    rw [skF_s this.1 this.2, skF_run m (i + 1) (fun y a b => h1 y (by omega) (by omega)) (by rw [show i + 1 + m = i + (m + 1) by omega]; exact h2)]
    omega
/-! what may follow a text -/
abbrev isLt (v : Int32) : Prop := 97 ≤ v ∧ v ≤ 122
def Ext (g h : Nat → Nat → Int32) : Prop := tl g ≤ tl h ∧ (∀ y, y < tl g → h 18 y = g 18 y) ∧ (tl g < tl h → isLt (h 18 (tl g)))
theorem Ext.rf (g : Nat → Nat → Int32) : Ext g g := ⟨Nat.le_refl _, fun _ _ => rfl, fun h => absurd h (Nat.lt_irrefl _)⟩
/-- the text is read to its end without a fault: j names, the mask w, the units u -/
def RdI (g : Nat → Nat → Int32) (j w : Nat) (u : Nat → Int32) : Prop := ∀ h, Ext g h → ∃ u', (∀ q, q < 4 → u' q = u q) ∧ rvF h = rvS h (5 - j) (tl g) (nI w) u'
theorem RdI.end_ {g h : Nat → Nat → Int32} {j w : Nat} {u : Nat → Int32} (hI : RdI g j w u) (he : Ext g h) (h2 : tl h = tl g) : (rvF h).1 = -1000003 ∧ ∀ q, q < 4 → (rvF h).2 q = u q := by
  obtain ⟨u', h1, e⟩ := hI h he
  have : rvS h (5 - j) (tl g) (nI w) u' = (-1000003, u') := by
    cases hk : 5 - j with
    | zero => rfl
    | succ k =>
      rw [rvS, if_neg (by omega)]
  rw [e, this]
  exact ⟨rfl, h1⟩
def nmB (r : Nat) : List Int32 := bytL.getD r []
theorem nmB_len : ∀ r, r < 4 → (nmB r).length = lenL.getD r 0 ∧ 3 ≤ (nmB r).length ∧ (nmB r).length ≤ 4 := by decide +kernel
theorem nmB_let : ∀ r, r < 4 → ∀ i, i < (nmB r).length → 97 ≤ (nmB r).getD i 0 ∧ (nmB r).getD i 0 ≤ 122 := by decide +kernel
theorem nmB_dif : ∀ r, r < 4 → ∀ k, k < r → (nmB k).length ≠ (nmB r).length ∨ (nmB k).getD 0 0 ≠ (nmB r).getD 0 0 := by decide +kernel
theorem nmB_all : ∀ r, r < 4 → ∀ v ∈ nmB r, 97 ≤ v ∧ v ≤ 122 := by decide +kernel
/-- a name, read -/
theorem nm_rd {h : Nat → Nat → Int32} {i r : Nat} (hr : r < 4) (ht : i + (nmB r).length ≤ tl h) (hb : ∀ q, q < (nmB r).length → h 18 (i + q) = (nmB r).getD q 0) (hx : ¬ (i + (nmB r).length < tl h ∧ isLt (h 18 (i + (nmB r).length)))) : alF h i = i + (nmB r).length ∧ nmN h i (i + (nmB r).length) = r := by
  obtain ⟨e1, e2, e3⟩ := nmB_len r hr
  refine ⟨skF_run _ _ (fun y h1 h2 => ⟨by omega, ?_⟩) (fun q => hx ⟨q.1, of_decide_eq_true q.2⟩), nmN_at hr (fun k hk q => ?_) ⟨?_, fun q hq => ?_⟩⟩
  · have := hb (y - i) (by omega)
    rw [show i + (y - i) = y by omega] at this
    rw [this]
    exact decide_eq_true (nmB_let r hr (y - i) (by omega))
  · have hk4 : k < 4 := by omega
    have f1 : slen (k + 2) = (nmB k).length := by
      have := (nmB_len k hk4).1
      unfold slen
      rw [Nat.add_sub_cancel, this]
    obtain ⟨-, g2, -⟩ := nmB_len k hk4
    obtain ⟨q1, q2⟩ := q
    rw [f1] at q1 q2
    rcases nmB_dif r hr k hk with z | z
    · exact z (by omega)
    · have := q2 0 (by omega)
      unfold byF at this
      rw [if_pos (by omega), hb 0 (by omega)] at this
      exact z this.symm
  · unfold slen
    rw [Nat.add_sub_cancel, ← e1]
    omega
  · have hq' : q < (nmB r).length := by
      unfold slen at hq
      rw [Nat.add_sub_cancel, ← e1] at hq
      exact hq
    unfold byF
    rw [if_pos (by omega), hb q hq']
    rfl
/-- a name behind the text: a fault at its end -/
theorem rd_name {g h : Nat → Nat → Int32} {j w r : Nat} {u : Nat → Int32} (hI : RdI g j w u) (hj : j < 5) (hw : w < 16) (hr : r < 4) (hb : w.testBit r = false) (ht : tl h = tl g + (nmB r).length) (h1 : ∀ y, y < tl g → h 18 y = g 18 y) (h2 : ∀ q, q < (nmB r).length → h 18 (tl g + q) = (nmB r).getD q 0) : (rvF h).1 = nI (tl h) := by
  obtain ⟨e1, e2, e3⟩ := nmB_len r hr
  have hE : Ext g h := ⟨by omega, h1, fun _ => by
    have := h2 0 (by omega)
    rw [Nat.add_zero] at this
    rw [this]
    exact nmB_let r hr 0 (by omega)⟩
  obtain ⟨u', -, e⟩ := hI h hE
  obtain ⟨a1, a2⟩ := nm_rd (h := h) (i := tl g) hr (by omega) h2 (fun q => by omega)
  have hsn := mk_B w hw r hr
  rw [hb] at hsn
  have hab : abF h (tl g + (nmB r).length) = tl g + (nmB r).length := skF_e (fun q => by omega)
  have hdg : ¬ dgF h (tl g + (nmB r).length) := fun q => by
    have := dg_lt q
    omega
  rw [e]
  obtain ⟨k, hk⟩ : ∃ k, 5 - j = k + 1 := ⟨4 - j, by omega⟩
  rw [hk, rvS, if_pos (by omega), a1, a2, hab, if_neg (fun q => q.elim (fun z => by omega) (fun z => z (by rw [hsn]; rfl))), if_neg hdg, ht]
def nuB (v : Nat) : List Int32 := if v < 10 then [nI (48 + v)] else [nI (48 + v / 10), nI (48 + v % 10)]
theorem nuB_1 {v : Nat} (h : v < 10) : nuB v = [nI (48 + v)] := if_pos h
theorem nuB_2 {v : Nat} (h : ¬ v < 10) : nuB v = [nI (48 + v / 10), nI (48 + v % 10)] := if_neg h
theorem dg_nI {v : Nat} (h : v < 10) : (48 : Int32) ≤ nI (48 + v) ∧ nI (48 + v) ≤ 57 := ⟨(nI_leI (a := 48) (by omega) (by omega)).mpr (by omega), (nI_leI (b := 57) (by omega) (by omega)).mpr (by omega)⟩
theorem let_nI {v : Nat} (h : v < 10) : ¬ isLt (nI (48 + v)) := fun q => by
  have := (nI_leI (a := 97) (b := 48 + v) (by omega) (by omega)).mp q.1
  omega
theorem let_dg {v : Int32} (h : isLt v) : ¬ (48 ≤ v ∧ v ≤ 57) := fun q => by
  have h1 := h.1
  have h2 := q.2
  rw [fa_le', (show (97 : Int32).toInt = 97 by decide)] at h1
  rw [fa_le', (show (57 : Int32).toInt = 57 by decide)] at h2
  omega
theorem let_32 {v : Int32} (h : isLt v) : ¬ v = 32 := fun q => by
  have h1 := h.1
  rw [q] at h1
  exact absurd h1 (by decide)
theorem dg_32 {v : Int32} (h : 48 ≤ v ∧ v ≤ 57) : ¬ v = 32 := fun q => by
  have h1 := h.1
  rw [q] at h1
  exact absurd h1 (by decide)
/-- the blanks between: none or one -/
def spB (s : Nat) : List Int32 := if s = 0 then [] else [32]
/-- a name with its number behind the text -/
theorem rd_num {g g2 : Nat → Nat → Int32} {j w r v s : Nat} {u : Nat → Int32} (hI : RdI g j w u) (hj : j < 5) (hw : w < 16) (hr : r < 4) (hb : w.testBit r = false) (hv : v < 100) (e2 : tl g2 = tl g + (nmB r ++ (spB s ++ nuB v)).length) (h1 : ∀ y, y < tl g → g2 18 y = g 18 y) (h2 : ∀ q, q < (nmB r ++ (spB s ++ nuB v)).length → g2 18 (tl g + q) = (nmB r ++ (spB s ++ nuB v)).getD q 0) : RdI g2 (j + 1) (w ||| 1 <<< r) (upF u r (nI v)) := by
  intro h hE
  obtain ⟨m1, m2, m3⟩ := hE
  obtain ⟨l1, l2, l3⟩ := nmB_len r hr
  have hlen : (nmB r ++ (spB s ++ nuB v)).length = (nmB r).length + ((spB s).length + (nuB v).length) := by rw [List.length_append, List.length_append]
  have hnu : 1 ≤ (nuB v).length := by
    by_cases z : v < 10
    · rw [nuB_1 z]; exact Nat.le_refl _
    · rw [nuB_2 z]; exact Nat.le_succ _
  rw [hlen] at e2 h2
  have by_ : ∀ q, q < (nmB r).length + ((spB s).length + (nuB v).length) → h 18 (tl g + q) = (nmB r ++ (spB s ++ nuB v)).getD q 0 := fun q hq => by rw [m2 _ (by omega), h2 q hq]
  have bn : ∀ q, q < (nmB r).length → h 18 (tl g + q) = (nmB r).getD q 0 := fun q hq => by
    rw [by_ q (by omega)]
    simp only [List.getD_eq_getElem?_getD]
    rw [List.getElem?_append_left hq]
  have bs : ∀ q, q < (spB s).length → h 18 (tl g + ((nmB r).length + q)) = (spB s).getD q 0 := fun q hq => by
    rw [by_ _ (by omega)]
    simp only [List.getD_eq_getElem?_getD]
    rw [List.getElem?_append_right (by omega), Nat.add_sub_cancel_left, List.getElem?_append_left hq]
  have bd : ∀ q, q < (nuB v).length → h 18 (tl g + ((nmB r).length + ((spB s).length + q))) = (nuB v).getD q 0 := fun q hq => by
    rw [by_ _ (by omega)]
    simp only [List.getD_eq_getElem?_getD]
    rw [List.getElem?_append_right (by omega), Nat.add_sub_cancel_left, List.getElem?_append_right (by omega), Nat.add_sub_cancel_left]
  have hE2 : Ext g h := ⟨by omega, fun y hy => by rw [m2 y (by omega), h1 y hy], fun _ => by
    have := bn 0 (by omega)
    rw [Nat.add_zero] at this
    rw [this]
    exact nmB_let r hr 0 (by omega)⟩
  obtain ⟨u', hu, e⟩ := hI h hE2
  refine ⟨upF u' r (nI v), fun q hq => ?_, ?_⟩
  · unfold upF
    by_cases z : q = r
    · rw [if_pos z, if_pos z]
    · rw [if_neg z, if_neg z, hu q hq]
  -- the first digit
  have d0 : ∃ x, x < 10 ∧ (nuB v).getD 0 0 = nI (48 + x) := by
    by_cases z : v < 10
    · exact ⟨v, z, by rw [nuB_1 z]; rfl⟩
    · exact ⟨v / 10, by omega, by rw [nuB_2 z]; rfl⟩
  obtain ⟨x0, hx0, ex0⟩ := d0
  have b0 := bd 0 (by omega)
  rw [Nat.add_zero, ex0] at b0
  -- behind the name
  have nx : ¬ (tl g + (nmB r).length < tl h ∧ isLt (h 18 (tl g + (nmB r).length))) := fun q => by
    by_cases z : s = 0
    · have : (spB s).length = 0 := by unfold spB; rw [if_pos z]; rfl
      rw [this, Nat.add_zero] at b0
      rw [b0] at q
      exact let_nI hx0 q.2
    · have e32 : spB s = [32] := if_neg z
      have := bs 0 (by rw [e32]; exact Nat.zero_lt_one)
      rw [Nat.add_zero, e32] at this
      rw [this] at q
      exact absurd q.2.1 (by decide)
  obtain ⟨a1, a2⟩ := nm_rd (h := h) (i := tl g) hr (by omega) bn nx
  have hsn := mk_B w hw r hr
  rw [hb] at hsn
  have hab : abF h (tl g + (nmB r).length) = tl g + ((nmB r).length + (spB s).length) := by
    rw [← Nat.add_assoc]
    refine skF_run _ _ (fun y q1 q2 => ⟨by omega, ?_⟩) (fun q => ?_)
    · by_cases z : s = 0
      · have : (spB s).length = 0 := by unfold spB; rw [if_pos z]; rfl
        omega
      · have e32 : spB s = [32] := if_neg z
        rw [e32] at q2
        have hy : y = tl g + ((nmB r).length + 0) := by
          have : ([32] : List Int32).length = 1 := rfl
          omega
        rw [hy, bs 0 (by rw [e32]; exact Nat.zero_lt_one), e32]
        rfl
    · have q2 := of_decide_eq_true q.2
      rw [Nat.add_assoc, b0] at q2
      exact dg_32 (dg_nI hx0) q2
  have hp : tl g + ((nmB r).length + (spB s).length) < tl h := by omega
  have hdg : dgF h (tl g + ((nmB r).length + (spB s).length)) := by
    unfold dgF byF
    rw [if_pos hp, b0]
    exact dg_nI hx0
  -- the end of the number
  have hend : ¬ dgF h (tl g2) := fun q => by
    have q1 := dg_lt q
    have q2 := m3 q1
    unfold dgF byF at q
    rw [if_pos q1] at q
    exact let_dg q2 q
  have hen : enF h (tl g + ((nmB r).length + (spB s).length)) = tl g2 := by
    unfold enF
    by_cases z : v < 10
    · have hl : (nuB v).length = 1 := by rw [nuB_1 z]; rfl
      rw [hl] at e2
      rw [if_neg (by rw [show tl g + ((nmB r).length + (spB s).length) + 1 = tl g2 by omega]; exact hend)]
      omega
    · have hl : (nuB v).length = 2 := by rw [nuB_2 z]; rfl
      rw [hl] at e2
      have b1 := bd 1 (by omega)
      have hd1 : dgF h (tl g + ((nmB r).length + (spB s).length) + 1) := by
        unfold dgF byF
        rw [if_pos (by omega), show tl g + ((nmB r).length + (spB s).length) + 1 = tl g + ((nmB r).length + ((spB s).length + 1)) by omega, b1, nuB_2 z]
        exact dg_nI (by omega)
      rw [if_pos hd1]
      omega
  have hab2 : abF h (tl g2) = tl g2 := skF_e (fun q => let_32 (m3 q.1) (of_decide_eq_true q.2))
  have hnum : nuF h (tl g2 - (tl g + ((nmB r).length + (spB s).length))) (tl g + ((nmB r).length + (spB s).length)) 0 = nI v := by
    rw [show tl g2 - (tl g + ((nmB r).length + (spB s).length)) = (nuB v).length by omega]
    have by0 : byF h (tl g + ((nmB r).length + (spB s).length)) = (nuB v).getD 0 0 := by
      unfold byF
      rw [if_pos hp]
      have := bd 0 (by omega)
      rw [Nat.add_zero] at this
      exact this
    by_cases z : v < 10
    · rw [nuB_1 z] at by0 ⊢
      show nuF h 1 _ 0 = _
      unfold nuF nuF
      rw [by0]
      show 10 * 0 + nI (48 + v) - 48 = nI v
      rw [show (10 * 0 : Int32) = nI 0 from rfl, nI_add, show (48 : Int32) = nI 48 from rfl, pk_sub (by omega), show 0 + (48 + v) - 48 = v by omega]
    · have by1 : byF h (tl g + ((nmB r).length + (spB s).length) + 1) = (nuB v).getD 1 0 := by
        have hl : (nuB v).length = 2 := by rw [nuB_2 z]; rfl
        unfold byF
        rw [if_pos (by omega), show tl g + ((nmB r).length + (spB s).length) + 1 = tl g + ((nmB r).length + ((spB s).length + 1)) by omega]
        exact bd 1 (by omega)
      rw [nuB_2 z] at by0 by1 ⊢
      show nuF h 2 _ 0 = _
      unfold nuF nuF nuF
      rw [by0, by1]
      show 10 * (10 * 0 + nI (48 + v / 10) - 48) + nI (48 + v % 10) - 48 = nI v
      rw [show (10 * 0 : Int32) = nI 0 from rfl, nI_add, show (48 : Int32) = nI 48 from rfl, pk_sub (by omega), show (10 : Int32) = nI 10 from rfl, pk_mul, nI_add, pk_sub (by omega), show 10 * (0 + (48 + v / 10) - 48) + (48 + v % 10) - 48 = v by omega]
  rw [e]
  obtain ⟨k, hk⟩ : ∃ k, 5 - j = k + 1 := ⟨4 - j, by omega⟩
  rw [hk, rvS, if_pos (by omega), a1, a2, hab, if_neg (fun q => q.elim (fun z => by omega) (fun z => z (by rw [hsn]; rfl))), if_pos hdg, hen, hab2, hnum, (mk_O w hw r hr).1, show 5 - (j + 1) = k by omega]
/-- the text of one blank -/
theorem rd_0 {g : Nat → Nat → Int32} (h1 : tl g = 1) (h2 : g 18 0 = 32) : RdI g 0 0 (fun _ => 0) := by
  intro h hE
  obtain ⟨m1, m2, m3⟩ := hE
  refine ⟨fun y => if y < 4 then 0 else h 19 y, fun q hq => if_pos hq, ?_⟩
  have hab : abF h 0 = 1 := by
    have := skF_run (P := isB_) (t := h 18) (n := tl h) 1 0 (fun y q1 q2 => ⟨by omega, by rw [show y = 0 by omega, m2 0 (by omega), h2]; rfl⟩) (fun q => by
      have q3 := m3 (by omega)
      rw [h1] at q3
      exact let_32 q3 (of_decide_eq_true q.2))
    exact this
  unfold rvF
  rw [hab, h1]
  rfl
