/-! ===== the law: demands withdrawn, grants released ===== -/
theorem X_mkS {Z : Zt} {d : Nat} {sg : Sig} {n0 nF n1 : Nat} {Q Qc : Option Value → Mem → Prop} {pc a b : Nat} {v : Int32} {tl : List Nat} {lv : List (Option Value)} {av rest : List Value} {M : Mem} (hi : okI sg (pc, 11, 1, a, b, v, tl)) (hn : av.length = tl.getD 1 0) (hws : wsum rest ≤ 8) (hG : GmA Z d (sgt b) av M n1 Qc) (h1n : n1 ≤ nF)
    (h : ∀ r M', Qc r M' → mN M' = n1 → X Z (d + 1) sg n0 nF Q (pc + 3) lv (r.toList ++ rest) M') : X Z (d + 1) sg n0 nF Q pc lv (av.reverse ++ rest) M := by
  obtain ⟨h0, hw, -⟩ := hi
  simp only [okB, Bool.and_eq_true, decide_eq_true_eq] at h0
  obtain ⟨hd, hs⟩ := h0
  simp only [sB, Bool.and_eq_true, decide_eq_true_eq] at hs
  obtain ⟨h0, h4⟩ := hs
  obtain ⟨g1, g2, g3⟩ := okN_spec h0
  exact X_callS (d := d) (n0 := n0) (nF := nF) (Q := Q) (lv := lv) (sg := sg) (pc := pc) (av := av) (rest := rest) g1 ⟨g2, g3⟩ h4 (by omega) (hw _ (by simp [wI])) (hw _ (by simp [wI])) (hw _ (by simp [wI])) (hw _ (by simp [wI])) hd hws hG h1n h
theorem okC_law (Z : Zt) (hz : zn Z ≤ 260) : ∀ q ∈ C_law, okE Z 10 q.1 q.2 := (okE_cons (ok_B_grant Z 5) (okE_cons (ok_B_demand Z 2) (okE_cons (ok_B_release Z 5) (okE_cons (ok_B_withdraw Z 5) (okE_cons (ok_B_undo Z 5) (okE_cons (ok_B_plan Z 3) (okE_cons (ok_W_isTold Z 5) (okE_cons (ok_W_cell Z 9 hz) (okE_cons (ok_W_low Z 9) (okE_cons (ok_W_setsResource Z 4) (okE_cons (ok_W_addsTenant Z 4) (okE_cons (ok_W_setsLimit Z 4) (okE_cons (ok_W_isGranted Z 3) (okE_cons (ok_W_firstOf Z 9) (okE_cons (ok_W_drops Z 9) (okE_cons (ok_W_ends Z 9) (okE_cons (ok_W_demands Z 0) (okE_cons (ok_W_areGrants Z 4) okE_nil))))))))))))))))))
section Wr
variable {M : Mem}
/-- other rows of grants and demands, the same tenants -/
theorem PI_mk {M2 : Mem} {u' : Nat → Int32} {c : Nat} (hP : PI_ M) (h2 : CU M2 c u') (hn : mN M2 = mN M) (ea : mI M2 174 = mI M 174) (eR : RE (UM M2) u') (hL : LX (mI M 174) (mI M2 175)) (hk : kaM M2 ≤ kaM M) : StQ 0 0 M (some (.int (nI 1))) M2 := ⟨rfl, hn, ⟨h2.1, RL_re h2.2.1 h2.2.2.1 eR, IV_re h2.2.2 eR, by rw [ea]; exact hL, by rw [hn]; exact hP.2.2.2.2.1, Nat.le_trans hk hP.2.2.2.2.2⟩, hk, by rw [ea]; rfl⟩
theorem wd_no {t : Nat} (hP : PI_ M) (ht : t < aT (mI M 174)) (e : foW (mI M 176) (nI t) = -1) : wdR (mI M) (nI t) = -1000001 ∧ wdM M (nI t) = M := by
  have h24 := hP.D24.2
  have hf : fwF (mI M) (20 + 12) 4 (nI t) = foW (mI M 176) (nI t) := fo_L hP.2.1 hP.2.2.1 (nI t)
  rcases co_withdraw hP.cu (t := t) ht with ⟨-, e1, e2⟩ | ⟨k, hk, e1, -⟩
  · exact ⟨e1, e2⟩
  · have hk' : k < wn (mI M 176) := hk
    have e1' : fwF (mI M) (20 + 12) 4 (nI t) = nI k := e1
    rw [hf, e] at e1'
    exact absurd e1'.symm (nI_m1 (by omega))
theorem wd_yes {t k : Nat} (hP : PI_ M) (ht : t < aT (mI M 174)) (e : foW (mI M 176) (nI t) = nI k) (hk : k < wn (mI M 176)) : WB (mW M (rwF (mI M) 176 (drW (mI M 176) k))) ∧ wdR (mI (mW M (rwF (mI M) 176 (drW (mI M 176) k)))) (nI t) = nI (wn (mI M 176) - 1) ∧ mI (wdM (mW M (rwF (mI M) 176 (drW (mI M 176) k))) (nI t)) 176 63 = nI (wn (mI M 176) - 1) ∧ StQ 0 0 M (some (.int (nI 1))) (wdM (mW M (rwF (mI M) 176 (drW (mI M 176) k))) (nI t)) := by
  have h24 := hP.D24.2
  have hc := CU_row (x := 176) (w := drW (mI M 176) k) hP.cu (by omega)
  have hf : fwF (mI (mW M (rwF (mI M) 176 (drW (mI M 176) k)))) (20 + 12) 4 (nI t) = foW (mI M 176) (nI t) := fo_L hc.2.1 hc.2.2 (nI t)
  rcases co_withdraw hc (t := t) ht with ⟨e1, -⟩ | ⟨k', hk', e1, e2, e3, e4⟩
  · have e1' : fwF (mI (mW M (rwF (mI M) 176 (drW (mI M 176) k)))) (20 + 12) 4 (nI t) = -1 := e1
    rw [hf, e] at e1'
    exact absurd e1' (nI_m1 (by omega))
  · have hk2 : k' < wn (mI M 176) := hk'
    have e1' : fwF (mI (mW M (rwF (mI M) 176 (drW (mI M 176) k)))) (20 + 12) 4 (nI t) = nI k' := e1
    rw [hf, e, nI_eq (by omega) (by omega)] at e1'
    subst e1'
    have ea := (e4.row (x := 174) (by omega)).trans (mr_ne (by omega))
    have eg := (e4.row (x := 175) (by omega)).trans (mr_ne (by omega))
    have ey := (e4.row (x := 176) (by omega)).trans (mr_at _ _ _)
    have eN : mN (wdM (mW M (rwF (mI M) 176 (drW (mI M 176) k))) (nI t)) = mN M := e4.1
    have e63 : drW (mI M 176) k 63 = nI (wn (mI M 176) - 1) := drP_63 _ _ _
    refine ⟨hc.1, e2, by rw [ey]; exact e63, ?_⟩
    generalize wdM (mW M (rwF (mI M) 176 (drW (mI M 176) k))) (nI t) = M2 at *
    have eU : UM M2 = Uw (mI M 174) (mI M 175) (drW (mI M 176) k) := by
      unfold UM
      rw [ea, eg, ey]
    refine PI_mk hP e3 eN ea ?_ (by rw [eg]; exact hP.2.2.2.1) ?_
    · rw [eU]
      exact RE_dr hP.2.2.1
    · unfold kaM kaU
      rw [eU]
      unfold UM
      rw [Uw_451, Uw_451, Uw_D, Uw_D, dr_wn (by omega)]
      omega
theorem rl_bad {n : Int32} (hP : PI_ M) (h : ∀ k, k < wn (mI M 175) → ¬ mI M 175 (40 + k) = n) : rlR (mI M) n = -1000000 ∧ rlM M n = M := by
  have h40 := hP.G40.2
  rcases co_release (n := n) hP.cu with ⟨-, e1, e2⟩ | ⟨k, hk, e, -⟩
  · exact ⟨e1, e2⟩
  · have hk' : k < wn (mI M 175) := hk
    unfold UM at e
    rw [Uw_n (by omega)] at e
    exact absurd e (h k hk')
theorem shR_ne (i k : Nat) : shR i k ≠ i := by
  unfold shR
  split
  · omega
  · omega
theorem shR_mono {i j k : Nat} (h : j < k) : shR i j < shR i k := by
  unfold shR
  split
  · split
    · omega
    · omega
  · split
    · omega
    · omega
theorem LX_en {a g : Nat → Int32} {i : Nat} (h : LX a g) (hw : wn g ≤ 22) : LX a (enW g i) := by
  obtain ⟨x1, x2, x3, x4, x5, x6, x7⟩ := h
  have ew : wn (enW g i) = wn g - 1 := en_wn (by omega)
  refine ⟨x1, x2, x3, x4, by rw [ew]; omega, fun j k hj hk => ?_, fun k hk => ?_⟩
  · rw [ew] at hk
    rw [(en_row (k := i) (j := j) (by omega) hw).2, (en_row (k := i) (j := k) hk hw).2]
    exact x6 _ _ (shR_mono hj) (shR_lt hk)
  · rw [ew] at hk
    rw [(en_row (k := i) (j := k) hk hw).2]
    exact x7 _ (shR_lt hk)
theorem rl_yes {i : Nat} (hP : PI_ M) (hi : i < wn (mI M 175)) : WB (mW M (rwF (mI M) 175 (enW (mI M 175) i))) ∧ rlR (mI (mW M (rwF (mI M) 175 (enW (mI M 175) i)))) (mI M 175 (40 + i)) = nI (wn (mI M 175) - 1) ∧ mI (rlM (mW M (rwF (mI M) 175 (enW (mI M 175) i))) (mI M 175 (40 + i))) 175 63 = nI (wn (mI M 175) - 1) ∧ StQ 0 0 M (some (.int (nI 1))) (rlM (mW M (rwF (mI M) 175 (enW (mI M 175) i))) (mI M 175 (40 + i))) ∧ ∀ k, k < wn (mI (rlM (mW M (rwF (mI M) 175 (enW (mI M 175) i))) (mI M 175 (40 + i))) 175) → ¬ mI (rlM (mW M (rwF (mI M) 175 (enW (mI M 175) i))) (mI M 175 (40 + i))) 175 (40 + k) = mI M 175 (40 + i) := by
  have h22 := hP.G22.2
  have hc := CU_row (x := 175) (w := enW (mI M 175) i) hP.cu (by omega)
  have hpo := g_po hP hi
  rcases co_release (n := mI M 175 (40 + i)) hc with ⟨e1, -⟩ | ⟨k', hk', e1, e2, e3, e4⟩
  · rcases rl_row hc.2.1 hc.2.2 (mI M 175 (40 + i)) with ⟨-, q⟩ | ⟨k, hk, -, q, -⟩
    · rw [hpo] at q
      have := congrArg Int32.toInt q
      rw [nI_toInt (by omega), show (-1000003 : Int32).toInt = -1000003 from by decide] at this
      omega
    · have hk2 : k < wn (mI M 175) := hk
      have e1' : rowF (mI (mW M (rwF (mI M) 175 (enW (mI M 175) i)))) (20 + 10) (mI M 175 (40 + i)) = -1 := e1
      rw [e1'] at q
      exact absurd q.symm (nI_m1 (by omega))
  · have hk2 : k' < wn (mI M 175) := hk'
    unfold UM at e1
    rw [Uw_n (by omega)] at e1
    have hki := hP.ginj hk2 hi e1
    subst hki
    have ea := (e4.row (x := 174) (by omega)).trans (mr_ne (by omega))
    have eg := (e4.row (x := 175) (by omega)).trans (mr_at _ _ _)
    have ey := (e4.row (x := 176) (by omega)).trans (mr_ne (by omega))
    have eN : mN (rlM (mW M (rwF (mI M) 175 (enW (mI M 175) k'))) (mI M 175 (40 + k'))) = mN M := e4.1
    have e63 : enW (mI M 175) k' 63 = nI (wn (mI M 175) - 1) := enP_63 _ _ _
    have ew : wn (enW (mI M 175) k') = wn (mI M 175) - 1 := en_wn (by omega)
    refine ⟨hc.1, e2, by rw [eg]; exact e63, ?_, fun k hk => ?_⟩
    · generalize rlM (mW M (rwF (mI M) 175 (enW (mI M 175) k'))) (mI M 175 (40 + k')) = M2 at *
      have eU : UM M2 = Uw (mI M 174) (enW (mI M 175) k') (mI M 176) := by
        unfold UM
        rw [ea, eg, ey]
      refine PI_mk hP e3 eN ea ?_ (by rw [eg]; exact LX_en hP.2.2.2.1 h22) ?_
      · rw [eU]
        exact RE_en hP.2.2.1 h22
      · unfold kaM kaU
        rw [eU]
        unfold UM
        rw [Uw_451, Uw_451, Uw_D, Uw_D]
        exact Nat.le_refl _
    · rw [eg] at hk ⊢
      rw [ew] at hk
      rw [(en_row (k := k') (j := k) hk h22).2]
      exact fun q => shR_ne k' k (hP.ginj (shR_lt hk) hi q)
end Wr
