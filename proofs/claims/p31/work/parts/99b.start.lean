/-! ===== what is given at the law's beginning ===== -/
theorem nest_tbl : ∀ q ∈ nestL, nestW q ∈ lw_tbl := by decide +kernel
theorem inst_tbl : ∀ ci, ci < 5 → Cond.instantiable (cnm ci) (cW ci) ∈ lw_tbl := by decide +kernel
theorem str_tbl : ∀ i, i < 4 → Cond.stringRef RX3 (strL.getD i (0, "")).1 (strL.getD i (0, "")).2 ∈ lw_tbl := by decide +kernel
theorem q4 {i : Nat} (h : i < 4) : i = 0 ∨ i = 1 ∨ i = 2 ∨ i = 3 := by omega
set_option maxRecDepth 100000 in
set_option maxHeartbeats 4000000 in
theorem start_GS {s : State} (l : Launch) {b L : Nat} {xs : Nat → Int32} (hts : ∀ w ∈ lw_tbl, w.before #[Value.ref b] s = true) (hX : va_X b L xs s s.heap) (hbl : b < s.heap.size) (hgv : (Jvm.Cond.and given_1 narrow_1).before #[Value.ref b] s = true) : ∃ Z : Zt, zl Z = l ∧ zb Z = b ∧ zn Z = L ∧ zo Z = s.heap.size ∧ GS Z s := by
  have hs := flat_of_before _ hgv
  have hA : ∀ a : Nat, a < s.heap.size → ¬ (fun q : Nat => s.heap.size ≤ q) a := fun a h q => Nat.not_le.mpr h q
  -- the classes
  have h0 : ∀ ci : Nat, ∃ q : ClassId × (Nat → Nat), ci < 5 → u_Kn s (cnm ci) (cT ci) (cW ci) q.1 q.2 := fun ci => by
    by_cases h : ci < 5
    · obtain ⟨cC, iS, hK⟩ := u_known (n := cW ci) (fun w hw => hts w (WS_tbl w hw)) (clsW ci h) (hts _ (inst_tbl ci h))
      exact ⟨(cC, iS), fun _ => hK⟩
    · exact ⟨(0, fun _ => 0), fun q => absurd q h⟩
  obtain ⟨fD, hfD⟩ := Classical.axiomOfChoice h0
  -- the two array classes
  obtain ⟨cI, kI, compI, i1, i2, i3⟩ := Cond.arrayClass_spec (hts (.arrayClass .int) (by decide +kernel))
  have hAO := hts (.arrayOver (.object RX2)) (by decide +kernel)
  obtain ⟨compL, cL, kL, l1, l2, l3, l4, l5⟩ := Cond.arrayOver_spec hAO
  -- the texts
  obtain ⟨K, V, hKV, hKe⟩ := vk_Sof (args := #[Value.ref b]) (s := s) (N := 4) (tm := fun i => .string RX3 (strL.getD i (0, "")).1) (len := lenL) (byt := bytL) (A := fun q : Nat => s.heap.size ≤ q)
    (fun i hi => by rcases q4 hi with z | z | z | z <;> subst z <;> decide)
    (fun i hi => by rcases q4 hi with z | z | z | z <;> subst z <;> exact hs _ (by decide +kernel))
    (fun i hi => by rcases q4 hi with z | z | z | z <;> subst z <;> exact hs _ (by decide +kernel))
    (fun i hi => by rcases q4 hi with z | z | z | z <;> subst z <;> exact hs _ (by decide +kernel))
    (fun i hi => by rcases q4 hi with z | z | z | z <;> subst z <;> exact hs _ (by decide +kernel))
    (fun i hi j hj => by
      have hj4 : j < 4 := by
        rcases q4 hi with z | z | z | z <;> subst z <;> (simp [lenL] at hj; omega)
      rcases q4 hi with z | z | z | z <;> subst z <;> rcases q4 hj4 with y | y | y | y <;> subst y <;> first | exact hs _ (by decide +kernel) | (exfalso; simp [lenL] at hj))
    (fun i j hi hj hne => by
      rcases q4 hi with z | z | z | z <;> subst z <;> rcases q4 hj with y | y | y | y <;> subst y <;> first | exact absurd rfl hne | exact Or.inl (hs _ (by decide +kernel)) | exact Or.inr (hs _ (by decide +kernel))) hA
  -- a static that is only carried
  have hZ2 : ∃ F : Option Nat, va_Z "jdk/internal/util/Preconditions" "SIOOBE_FORMATTER" "Ljava/util/function/BiFunction;" (va_rf F) (fun q : Nat => s.heap.size ≤ q) s s.heap := by
    rcases va_Zqof (A := fun q : Nat => s.heap.size ≤ q) (hts (.laysStatic "jdk/internal/util/Preconditions" "SIOOBE_FORMATTER" "Ljava/util/function/BiFunction;") (by decide +kernel)) (hts (.initialized "jdk/internal/util/Preconditions") (by decide +kernel)) (hs _ (by decide +kernel)) hA with h | ⟨t, h⟩
    · exact ⟨none, h⟩
    · exact ⟨some t, h⟩
  obtain ⟨F, hF⟩ := hZ2
  have hZ1 : va_Z "java/lang/String" "COMPACT_STRINGS" "Z" (.int 1) (fun q : Nat => s.heap.size ≤ q) s s.heap := va_Zof (hts (.laysStatic "java/lang/String" "COMPACT_STRINGS" "Z") (by decide +kernel)) (hts (.initialized "java/lang/String") (by decide +kernel)) (va_eqi (hs _ (by decide +kernel))) hA
  refine ⟨(l, (b, L, xs), s.heap.size, (fun ci => (fD ci).1, fun ci => (fD ci).2), (cI, cL), K, V, F), rfl, rfl, rfl, rfl, ⟨fun c q hq => ?_, fun k q hq => ?_⟩, fun q hq => va_Nw.of rfl (hts _ (nest_tbl q hq)), va_AO.of hAO, fun i hi => vk_R.of (hts _ (str_tbl i hi)) (hKe i hi), hKV, hZ1, hF, ?_⟩
  · have hc : c < 5 := (List.getElem?_eq_some_iff.mp hq).1
    have := (clsGet c hc).symm.trans hq
    cases this
    exact hfD c hc
  · match k, hq with
    | 0, hq =>
      cases hq
      exact ⟨fun n z => ⟨fun k h => (by cases h), kI, i2, compI, i3⟩, i1⟩
    | 1, hq =>
      cases hq
      exact ⟨fun n z => ⟨fun k h => (by cases h), kL, l3, compL, l4⟩, kL, compL, l3, l4, l1, l5⟩
    | k + 2, hq => simp [tysZ] at hq
  · obtain ⟨scr, h1, h2, h3, h4, h5⟩ := hX
    exact ⟨scr, h1, h2, h3, Nat.le_of_eq h4.symm, by rw [h4]; rfl, h5, hA b hbl⟩
