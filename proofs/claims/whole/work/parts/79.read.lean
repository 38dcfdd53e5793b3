/-! ===== the text, read on both sides ===== -/
def TE (f g : Nat → Nat → Int32) : Prop := tl f = tL g ∧ tL g ≤ 60 ∧ ∀ y, y < tL g → f 18 y = g 178 y
theorem skN_cg {P : Int32 → Bool} {t s : Nat → Int32} {n : Nat} (h : ∀ y, y < n → t y = s y) : ∀ k i, skN P t n k i = skN P s n k i
  | 0, _ => rfl
  | k + 1, i => by
    unfold skN
    by_cases z : i < n
    · rw [h i z, skN_cg h k (i + 1)]
    · rw [if_neg (fun q => z q.1), if_neg (fun q => z q.1)]
section Rd
variable {f g : Nat → Nat → Int32}
theorem te_ab (h : TE f g) (i : Nat) : abF f i = abU g i := by
  unfold abF abU skF
  rw [h.1]
  exact skN_cg h.2.2 _ _
theorem te_al (h : TE f g) (i : Nat) : alF f i = alU g i := by
  unfold alF alU skF
  rw [h.1]
  exact skN_cg h.2.2 _ _
theorem te_by (h : TE f g) {i : Nat} (hi : i < tL g) : byF f i = nxB g i := by
  unfold byF nxB
  rw [h.1, if_pos hi, if_pos hi, h.2.2 i hi]
theorem te_dg (h : TE f g) (i : Nat) : dgF f i ↔ dgB g i := by
  by_cases z : i < tL g
  · unfold dgF dgB
    rw [te_by h z]
    rfl
  · constructor
    · intro q
      have := dg_lt q
      rw [h.1] at this
      exact absurd this z
    · intro q
      exact absurd (dgB_lt q) z
theorem te_w (h : TE f g) {s a e n : Nat} {B : Int32} (he : e ≤ tL g) (hs : slen s = n) (hB : ∀ i, i < n → chF s i = wdC B n i) : isW f s a e ↔ wdQ g a e B n := by
  unfold isW wdQ wdP
  rw [hs]
  constructor
  · rintro ⟨h1, h2⟩
    refine ⟨h1, fun k hk => ?_⟩
    have hlt : a + k < tL g := by omega
    rw [← hB k hk, ← h2 k hk, te_by h hlt]
    unfold nxB
    rw [if_pos hlt]
  · rintro ⟨h1, h2⟩
    refine ⟨h1, fun k hk => ?_⟩
    have hlt : a + k < tL g := by omega
    rw [hB k hk, ← h2 k hk, te_by h hlt]
    unfold nxB
    rw [if_pos hlt]
theorem w_cpu : ∀ i, i < 3 → chF 2 i = wdC (nI 6516853) 3 i := by decide +kernel
theorem w_mem : ∀ i, i < 3 → chF 3 i = wdC (nI 7169389) 3 i := by decide +kernel
theorem w_net : ∀ i, i < 3 → chF 4 i = wdC (nI 7234932) 3 i := by decide +kernel
theorem w_disk : ∀ i, i < 4 → chF 5 i = wdC (nI 1684632427) 4 i := by decide +kernel
theorem te_nm (h : TE f g) {a e : Nat} (he : e ≤ tL g) : (nmN f a e = 4 ∧ nmR g a e = -1000003) ∨ ∃ r, r < 4 ∧ nmN f a e = r ∧ nmR g a e = nI r := by
  have e0 := te_w (a := a) (s := 2) (n := 3) h he rfl w_cpu
  have e1 := te_w (a := a) (s := 3) (n := 3) h he rfl w_mem
  have e2 := te_w (a := a) (s := 4) (n := 3) h he rfl w_net
  have e3 := te_w (a := a) (s := 5) (n := 4) h he rfl w_disk
  unfold nmN nmR
  by_cases z0 : isW f 2 a e
  · rw [if_pos z0, if_pos (e0.mp z0)]
    exact Or.inr ⟨0, by omega, rfl, rfl⟩
  · rw [if_neg z0, if_neg (fun q => z0 (e0.mpr q))]
    by_cases z1 : isW f 3 a e
    · rw [if_pos z1, if_pos (e1.mp z1)]
      exact Or.inr ⟨1, by omega, rfl, rfl⟩
    · rw [if_neg z1, if_neg (fun q => z1 (e1.mpr q))]
      by_cases z2 : isW f 4 a e
      · rw [if_pos z2, if_pos (e2.mp z2)]
        exact Or.inr ⟨2, by omega, rfl, rfl⟩
      · rw [if_neg z2, if_neg (fun q => z2 (e2.mpr q))]
        by_cases z3 : isW f 5 a e
        · rw [if_pos z3, if_pos (e3.mp z3)]
          exact Or.inr ⟨3, by omega, rfl, rfl⟩
        · rw [if_neg z3, if_neg (fun q => z3 (e3.mpr q))]
          exact Or.inl ⟨rfl, rfl⟩
/-! the names seen: a mask -/
theorem mk_B : ∀ w, w < 16 → ∀ r, r < 4 → snB (nI w) r = if w.testBit r then 1 else 0 := by decide +kernel
theorem mk_O : ∀ w, w < 16 → ∀ r, r < 4 → snO (nI w) r = nI (w ||| 1 <<< r) ∧ (w ||| 1 <<< r) < 16 ∧ (∀ q, q < 4 → (w ||| 1 <<< r).testBit q = (w.testBit q || decide (q = r))) := by decide +kernel
def cbN (w : Nat) : Nat := fcnt (fun r => w.testBit r = true) 4
theorem mk_C : ∀ w, w < 16 → ∀ r, r < 4 → w.testBit r = false → cbN (w ||| 1 <<< r) = cbN w + 1 := by decide +kernel
theorem cbN_4 (w : Nat) : cbN w ≤ 4 := fcnt_le _ 4
theorem nmN_0 {i : Nat} : nmN f i i = 4 := by
  refine nmN_no (fun k hk q => ?_)
  have h1 := q.1
  have : k = 0 ∨ k = 1 ∨ k = 2 ∨ k = 3 := by omega
  rcases this with z | z | z | z <;> subst z <;> (rw [Nat.sub_self] at h1; revert h1; decide)
theorem dg_noL {x : Int32} (h : 48 ≤ x ∧ x ≤ 57) : isL_ x = false ∧ isB_ x = false := by
  obtain ⟨h1, h2⟩ := h
  rw [fa_le', (show (48 : Int32).toInt = 48 by decide)] at h1
  rw [fa_le', (show (57 : Int32).toInt = 57 by decide)] at h2
  unfold isL_ isB_
  refine ⟨decide_eq_false (fun q => ?_), decide_eq_false (fun q => ?_)⟩
  · have := q.1
    rw [fa_le', (show (97 : Int32).toInt = 97 by decide)] at this
    omega
  · rw [q, (show (32 : Int32).toInt = 32 by decide)] at h1
    omega
/-- a digit where a name is wanted -/
theorem rv_dig {k i : Nat} {v : Int32} {u : Nat → Int32} (h : dgF f i) : rvS f (k + 1) (abF f i) v u = (nI i, u) := by
  have hl := dg_lt h
  have hx : 48 ≤ f 18 i ∧ f 18 i ≤ 57 := by
    have := h
    unfold dgF byF at this
    rw [if_pos hl] at this
    exact this
  obtain ⟨n1, n2⟩ := dg_noL hx
  have ea : abF f i = i := skF_e (fun q => by rw [n2] at q; exact absurd q.2 (by decide))
  have el : alF f i = i := skF_e (fun q => by rw [n1] at q; exact absurd q.2 (by decide))
  rw [ea, rvS, if_pos hl, el, if_pos (Or.inl nmN_0)]
theorem di_v {x y : Int32} {a : Int} (h : 48 ≤ x ∧ x ≤ 57) (h0 : y.toInt = a) (h1 : 0 ≤ a) (h2 : a ≤ 9) : (10 * y + x - 48).toInt = 10 * a + x.toInt - 48 ∧ 0 ≤ 10 * a + x.toInt - 48 ∧ 10 * a + x.toInt - 48 ≤ 10 * a + 9 := by
  obtain ⟨g1, g2⟩ := h
  rw [fa_le', (show (48 : Int32).toInt = 48 by decide)] at g1
  rw [fa_le', (show (57 : Int32).toInt = 57 by decide)] at g2
  have e1 : (10 * y).toInt = 10 * a := by rw [ti_mul (by rw [ti_10, h0]; omega) (by rw [ti_10, h0]; omega), ti_10, h0]
  have e2 : (10 * y + x).toInt = 10 * a + x.toInt := by rw [ti_add (by omega) (by omega), e1]
  rw [ti_sub (by rw [e2, (show (48 : Int32).toInt = 48 by decide)]; omega) (by rw [e2, (show (48 : Int32).toInt = 48 by decide)]; omega), e2, (show (48 : Int32).toInt = 48 by decide)]
  exact ⟨rfl, by omega, by omega⟩
def UE (u rd : Nat → Int32) (w : Nat) : Prop := (∀ r, r < 4 → u r = rd r) ∧ (∀ r, r < 4 → w.testBit r = false → rd r = 0) ∧ ∀ r, r < 4 → 0 ≤ (rd r).toInt ∧ (rd r).toInt ≤ 99
theorem UE_up {u rd : Nat → Int32} {w r : Nat} {x : Int32} (h : UE u rd w) (hw : w < 16) (hr : r < 4) (h0 : 0 ≤ x.toInt) (h1 : x.toInt ≤ 99) : UE (upF u r x) (upF rd r x) (w ||| 1 <<< r) := by
  obtain ⟨-, -, hb⟩ := mk_O w hw r hr
  refine ⟨fun q hq => ?_, fun q hq hz => ?_, fun q hq => ?_⟩
  · by_cases z : q = r
    · rw [z, up_at, up_at]
    · rw [up_ne z, up_ne z]
      exact h.1 q hq
  · rw [hb q hq] at hz
    by_cases z : q = r
    · rw [decide_eq_true z, Bool.or_true] at hz
      exact absurd hz (by decide)
    · rw [up_ne z]
      rw [decide_eq_false z, Bool.or_false] at hz
      exact h.2.1 q hq hz
  · by_cases z : q = r
    · rw [z, up_at]
      exact ⟨h0, h1⟩
    · rw [up_ne z]
      exact h.2.2 q hq
theorem nx_dig {i : Nat} (h : dgB g i) : 48 ≤ nxB g i ∧ nxB g i ≤ 57 := h
theorem rv_rw (h : TE f g) : ∀ k m i w (u rd : Nat → Int32), w < 16 → 5 ≤ cbN w + k → i ≤ tL g → tL g < i + m → UE u rd w → (rvS f k i (nI w) u).1 = (rwU g m i (nI w) rd).1 ∧ ((rwU g m i (nI w) rd).1 = -1000003 → ∃ w', UE (rvS f k i (nI w) u).2 (rwU g m i (nI w) rd).2.1 w')
  | 0, m, i, w, u, rd, hw, hk, hi, hm, hu => by
    have := cbN_4 w
    omega
  | k + 1, m, i, w, u, rd, hw, hk, hi, hm, hu => by
    obtain ⟨m', rfl⟩ : ∃ m', m = m' + 1 := ⟨m - 1, by omega⟩
    have hc4 := cbN_4 w
    rw [rvS, rwU, h.1]
    by_cases zi : i < tL g
    · rw [if_pos zi, if_pos zi, te_al h]
      have hle : alU g i ≤ tL g := skF_b hi
      have hge : i ≤ alU g i := skF_a
      rcases te_nm h (a := i) hle with ⟨n1, n2⟩ | ⟨r, hr, n1, n2⟩
      · rw [if_pos (Or.inl n1), if_pos (Or.inl n2)]
        exact ⟨rfl, fun q => absurd q (nI_neN (by have := h.2.1; omega))⟩
      · have hT60 := h.2.1
        have hgt : i < alU g i := by
          rcases nmR_cases g i (alU g i) with q | ⟨r', -, -, q⟩
          · rw [q] at n2
            exact absurd n2.symm (nI_neN (by omega))
          · exact q
        rw [n1, n2]
        have eB := mk_B w hw r hr
        by_cases zb : w.testBit r = true
        · rw [zb, if_pos rfl] at eB
          rw [if_pos (Or.inr (by rw [eB]; decide)), if_pos (Or.inr (by unfold snB at eB; rw [nn_1]; exact eB))]
          exact ⟨rfl, fun q => absurd q (nI_neN (by omega))⟩
        · have zb' : w.testBit r = false := by
            cases hh : w.testBit r
            · rfl
            · exact absurd hh zb
          rw [zb', if_neg (by decide)] at eB
          have c1 : ¬ (r = 4 ∨ ¬ snB (nI w) r = 0) := fun q => q.elim (fun q => by omega) (fun q => q eB)
          have c2 : ¬ (nI r = -1000003 ∨ (nI w >>> (nI r &&& 31)) &&& nI 1 = nI 1) := fun q => q.elim (fun q => nI_neN (by omega) q) (fun q => by unfold snB at eB; rw [nn_1] at q; exact absurd (eB.symm.trans q) (by decide))
          rw [if_neg c1, if_neg c2, nI_clamp (by omega), te_ab h]
          have hale : abU g (alU g i) ≤ tL g := skF_b hle
          have hage : alU g i ≤ abU g (alU g i) := skF_a
          generalize abU g (alU g i) = a at *
          have hO := mk_O w hw r hr
          have hC := mk_C w hw r hr zb'
          have hc4' := cbN_4 (w ||| 1 <<< r)
          have h00 := hu.2.1 r hr zb'
          have eO : nI w ||| nI 1 <<< (nI r &&& 31) = nI (w ||| 1 <<< r) := by
            have := hO.1
            unfold snO at this
            exact this
          by_cases d0 : dgB g a
          · have x0 := nx_dig d0
            have hal := dgB_lt d0
            have v0 := di_v (y := 0) x0 ti_0 (by omega) (by omega)
            rw [if_pos ((te_dg h a).mpr d0), te_ab h]
            by_cases d1 : dgB g (a + 1)
            · have x1 := nx_dig d1
              have ha1 := dgB_lt d1
              have eE : enF f a = a + 2 := by unfold enF; rw [if_pos ((te_dg h _).mpr d1)]
              have eN : nuF f (a + 2 - a) a 0 = 10 * (10 * 0 + nxB g a - 48) + nxB g (a + 1) - 48 := by
                rw [show a + 2 - a = 2 by omega, nuF, nuF, nuF, te_by h hal, te_by h ha1]
              have eD : dgN g r 2 a rd = (a + 2, upF rd r (10 * (10 * 0 + nxB g a - 48) + nxB g (a + 1) - 48)) := by
                rw [dgN, if_pos d0, dgN, if_pos d1, dgN, up_at, h00, nn_10, (show nI 48 = 48 from rfl)]
                congr 1
                funext y
                unfold upF
                by_cases zy : y = r
                · rw [if_pos zy, if_pos zy]
                · rw [if_neg zy, if_neg zy, if_neg zy]
              have v1 := di_v (x := nxB g (a + 1)) x1 v0.1 v0.2.1 (by omega)
              rw [eE, eN, eD]
              by_cases d2 : dgB g (a + 2)
              · rw [if_pos (Or.inr d2)]
                obtain ⟨k', rfl⟩ : ∃ k', k = k' + 1 := ⟨k - 1, by omega⟩
                rw [← te_ab h, rv_dig ((te_dg h _).mpr d2)]
                have := dgB_lt d2
                exact ⟨rfl, fun q => absurd q (nI_neN (by omega))⟩
              · rw [if_neg (fun q => q.elim (fun q => by simp only at q; omega) d2), eO, hO.1]
                have hb2 : abU g (a + 2) ≤ tL g := skF_b (by omega)
                have hb3 : a + 2 ≤ abU g (a + 2) := skF_a
                exact rv_rw h k m' _ _ _ _ hO.2.1 (by omega) hb2 (by omega) (UE_up hu hw hr (by rw [v1.1]; omega) (by rw [v1.1]; omega))
            · have eE : enF f a = a + 1 := by unfold enF; rw [if_neg (fun q => d1 ((te_dg h _).mp q))]
              have eN : nuF f (a + 1 - a) a 0 = 10 * 0 + nxB g a - 48 := by
                rw [show a + 1 - a = 1 by omega, nuF, nuF, te_by h hal]
              have eD : dgN g r 2 a rd = (a + 1, upF rd r (10 * 0 + nxB g a - 48)) := by
                rw [dgN, if_pos d0, dgN, if_neg d1, h00, nn_10, (show nI 48 = 48 from rfl)]
              rw [eE, eN, eD, if_neg (fun q => q.elim (fun q => by simp only at q; omega) d1), eO, hO.1]
              have hb2 : abU g (a + 1) ≤ tL g := skF_b (by omega)
              have hb3 : a + 1 ≤ abU g (a + 1) := skF_a
              exact rv_rw h k m' _ _ _ _ hO.2.1 (by omega) hb2 (by omega) (UE_up hu hw hr (by rw [v0.1]; omega) (by rw [v0.1]; omega))
          · have eD : dgN g r 2 a rd = (a, rd) := by rw [dgN, if_neg d0]
            rw [if_neg (fun q => d0 ((te_dg h a).mp q)), eD, if_pos (Or.inl rfl)]
            exact ⟨rfl, fun q => absurd q (nI_neN (by omega))⟩
    · rw [if_neg zi, if_neg zi]
      exact ⟨rfl, fun _ => ⟨w, hu⟩⟩
theorem te_rd (h : TE f g) : (rvF f).1 = (rdX g).1 ∧ ((rdX g).1 = -1000003 → ∃ w, UE (rvF f).2 (rdX g).2.1 w) := by
  have h60 := h.2.1
  have hb : abU g 0 ≤ tL g := skF_b (Nat.zero_le _)
  unfold rvF rdX
  rw [te_ab h]
  refine rv_rw h 5 61 (abU g 0) 0 _ _ (by omega) (by omega) hb (by omega) ⟨fun r hr => ?_, fun r hr _ => ?_, fun r hr => ?_⟩
  · show (if r < 4 then (0 : Int32) else f 19 r) = (if r < 4 then nI 0 else g 179 r)
    rw [if_pos hr, if_pos hr, nn_0]
  · show (if r < 4 then nI 0 else g 179 r) = 0
    rw [if_pos hr, nn_0]
  · show 0 ≤ (if r < 4 then nI 0 else g 179 r).toInt ∧ (if r < 4 then nI 0 else g 179 r).toInt ≤ 99
    rw [if_pos hr, nn_0, ti_0]
    omega
end Rd
