/-! ===== the digest ===== -/
theorem mixN_cg {g g' : Nat → Int32} {h : Int64} : ∀ n, (∀ k, k < n → g k = g' k) → mixN g n h = mixN g' n h
  | 0, _ => rfl
  | n + 1, e => by rw [mixN, mixN, mixN_cg n (fun k hk => e k (by omega)), e n (by omega)]
theorem mixN_add (g : Nat → Int32) (m : Nat) (h : Int64) : ∀ n, mixN g (m + n) h = mixN (fun k => g (m + k)) n (mixN g m h)
  | 0 => rfl
  | n + 1 => by rw [← Nat.add_assoc, mixN, mixN, mixN_add g m h n]
theorem mixN_hd (g : Nat → Int32) (n : Nat) (h : Int64) : mixN g (n + 1) h = mixN (fun k => g (1 + k)) n (31 * h + (g 0).toInt64) := by
  rw [Nat.add_comm, mixN_add]
  rfl
section Dg
variable {f g : Nat → Nat → Int32} {c : Nat} {u : Nat → Int32}
theorem dg_R (h : RL f 20 u) (hi : IV u c) (x : Int64) : ∀ r, r ≤ 4 → dgR f r x = mixN (urcG u) (6 * r) x
  | 0, _ => rfl
  | r + 1, hr => by
    rw [dgR, dg_R h hi x r (by omega), show 6 * (r + 1) = 6 * r + 6 by omega, mixN_add]
    refine mixN_cg 6 (fun j hj => ?_)
    unfold rcG urcG
    rw [rq_resource h hi, show (6 * r + j) / 6 = r by omega, show 6 * r + j - r * 6 = j by omega]
theorem dg_A (h : RL f 20 u) (hi : IV u c) {t : Nat} (ht : t < uT u) (x : Int64) : ∀ r, r ≤ 4 → dgA f t r x = umA u t r x
  | 0, _ => rfl
  | r + 1, hr => by
    have m1 := hi.1.1.2
    have e : wtR f (nI t) (nI r) = uwP u t r 4 := by
      rw [rq_worth h hi]
      unfold uwtR uV vR
      rw [if_pos ⟨⟨nI_ge0 (by omega), (nI_ltI (by omega) (by omega)).mpr ht⟩, nI_ge0 (by omega), (nI_ltI (b := 4) (by omega) (by omega)).mpr (by omega)⟩, nI_clamp (by omega), nI_clamp (by omega)]
    rw [dgA, umA, dg_A h hi ht x r (by omega), e]
    rw [mixN_cg (g := acG f t r) (g' := uacG u t r) 4 (fun j hj => ?_)]
    unfold acG uacG
    rw [rq_account h hi]
theorem dg_S (h : RL f 20 u) (hi : IV u c) (h3 : ∀ t, t < uT u → f 173 t = uruR u (nI t)) (x : Int64) : ∀ n, n ≤ uT u → dgS f n x = udH u n x
  | 0, _ => rfl
  | n + 1, hn => by
    rw [dgS, udH, dg_S h hi h3 x n (by omega)]
    unfold dgT umT
    rw [dg_A h hi (by omega) _ 4 (by omega), h3 n (by omega), mixN_cg (g := tnG f n) (g' := utnG u n) 8 (fun j hj => by unfold tnG utnG; rw [rq_tenant h hi])]
theorem cell_g (h : RL f 20 u) (hi : IV u c) {k j : Nat} (hk : k < uG u) (hj : j < 5) : cellF f 30 (nI k) (nI j) = u (80 + 6 * k + (1 + j)) ∧ cellF f 30 (nI k) 5 = u (80 + 6 * k) := by
  have m2 := hi.1.2.1.2
  have hs : f 30 2 = nI (uG u) := by rw [(h.2.2.1.1 : f 30 2 = u 448)]; exact hi.1.2.1.1
  unfold cellF
  rw [if_pos ⟨⟨nI_ge0 (by omega), by rw [hs, nI_ltI (by omega) (by omega)]; exact hk⟩, nI_ge0 (by omega), (nI_leI (b := 5) (by omega) (by omega)).mpr (by omega)⟩, if_pos ⟨⟨nI_ge0 (by omega), by rw [hs, nI_ltI (by omega) (by omega)]; exact hk⟩, by decide, by decide⟩, nI_clamp (by omega), nI_clamp (by omega)]
  exact ⟨rl_gg h hk hj, (h.2.2.1.2 k hk).1⟩
theorem cell_d (h : RL f 20 u) (hi : IV u c) {k j : Nat} (hk : k < uD u) (hj : j < 5) : cellF f 32 (nI k) (nI j) = u (320 + 5 * k + j) := by
  have m2 := hi.1.2.2.1.2
  have hs : f 32 2 = nI (uD u) := by rw [(h.2.2.2.1.1 : f 32 2 = u 449)]; exact hi.1.2.2.1.1
  unfold cellF
  rw [if_pos ⟨⟨nI_ge0 (by omega), by rw [hs, nI_ltI (by omega) (by omega)]; exact hk⟩, nI_ge0 (by omega), (nI_leI (b := 5) (by omega) (by omega)).mpr (by omega)⟩, nI_clamp (by omega), nI_clamp (by omega)]
  exact rl_dd h hk hj
theorem dg_G (h : RL f 20 u) (hi : IV u c) (x : Int64) : ∀ n, n ≤ uG u → dgC f 30 1 n x = mixN (fun k => u (80 + k)) (6 * n) x
  | 0, _ => rfl
  | n + 1, hn => by
    rw [dgC, if_neg (by decide), dg_G h hi x n (by omega), show 6 * (n + 1) = 6 * n + (5 + 1) by omega, mixN_add, mixN_hd (fun k => u (80 + (6 * n + k))), (cell_g h hi (k := n) (j := 0) (by omega) (by omega)).2]
    rw [show (80 + (6 * n + 0)) = 80 + 6 * n by omega]
    refine mixN_cg 5 (fun j hj => ?_)
    unfold clG
    rw [(cell_g h hi (k := n) (j := j) (by omega) hj).1, show 80 + (6 * n + (1 + j)) = 80 + 6 * n + (1 + j) by omega]
theorem dg_D (h : RL f 20 u) (hi : IV u c) (x : Int64) : ∀ n, n ≤ uD u → dgC f 32 0 n x = mixN (fun k => u (320 + k)) (5 * n) x
  | 0, _ => rfl
  | n + 1, hn => by
    rw [dgC, if_pos rfl, dg_D h hi x n (by omega), show 5 * (n + 1) = 5 * n + 5 by omega, mixN_add]
    refine mixN_cg 5 (fun j hj => ?_)
    unfold clG
    rw [cell_d h hi (k := n) (j := j) (by omega) hj, show 320 + (5 * n + j) = 320 + 5 * n + j by omega]
theorem udG_p {x y : Nat} (hx : x ≠ 177) : ∀ n, udG f n x y = f x y
  | 0 => rfl
  | n + 1 => by
    rw [udG]
    unfold uruM
    by_cases z : uV (udG f n 175) (nI n) ∧ ¬ udG f n 175 (8 + 12 * (nI n).toNatClampNeg + 3) = nI 0
    · rw [if_pos z]
      unfold asG
      rw [rw_ne hx]
      exact udG_p hx n
    · rw [if_neg z]
      exact udG_p hx n
end Dg
section St
variable {c : Nat} {M : Mem}
theorem dg_ok (h : RR c M) : DgOk (mI M 175) := ⟨⟨h.2.1.2.1.1, h.2.1.2.1.2.1⟩, ds_ok h.2.1.2.1, pr_ok h.2.1.2.1⟩
theorem st_digest (h : RR c M) (hc : c < 900000) : dgX (mI M) = udX (mI (mW M (dgM (mI M)))) ∧ RR (c + 1) (stL (mW (mW M (dgM (mI M))) (udM (mI (mW M (dgM (mI M)))))) 174 (udX (mI (mW M (dgM (mI M)))))) := by
  have hX := h.2.1
  have hi := hX.2.1
  have m1 := hi.1.1.2
  have eL := rr_tl h
  have kG : ∀ x y, x < 35 ∨ 49 < x → x ≠ 172 → x ≠ 173 → dgM (mI M) x y = mI M x y := fun x y a1 a2 a3 => by
    unfold dgM
    rw [plG_o a1 a2, frF_o a1 a3]
  have kF : ∀ x y, x < 35 ∨ 49 < x → x ≠ 173 → frF (mI M) x y = mI M x y := fun x y a1 a3 => frF_o a1 a3
  have hRL : RL (frF (mI M)) 20 (mI M 175) := RL_fg hX.1 (fun i y hi => kF _ _ (by omega) (by omega))
  have e175 : dgM (mI M) 175 = mI M 175 := funext fun y => kG _ _ (by omega) (by omega) (by omega)
  have e178 : dgM (mI M) 178 = mI M 178 := funext fun y => kG _ _ (by omega) (by omega) (by omega)
  have eTl : tL (dgM (mI M)) = tL (mI M) := by unfold tL; rw [kG _ _ (by omega) (by omega) (by omega)]
  refine ⟨?_, ?_⟩
  · rw [mI_mW]
    have s1 : dg1 (mI M) = mixN (urcG (mI M 175)) 24 (mixN (ucnG (dgM (mI M))) 10 113) := by
      unfold dg1
      rw [dg_R hX.1 hi _ 4 (by omega)]
      rw [mixN_cg (g := cnG (mI M)) (g' := ucnG (dgM (mI M))) 10 (fun j hj => ?_)]
      unfold cnG ucnG
      rw [rq_count h]
      unfold ucnR
      rw [e175, kG 174 3 (by omega) (by omega) (by omega), kG 174 5 (by omega) (by omega) (by omega)]
    have s2 : dg2 (frF (mI M)) (dg1 (mI M)) = ud2 (dgM (mI M)) := by
      unfold dg2 ud2 ud1
      rw [rl_T hRL, show csz (frF (mI M)) 32 = uD (mI M 175) from rl_D hRL, show csz (frF (mI M)) 30 = uG (mI M 175) from rl_G hRL, dg_D hRL hi _ _ (Nat.le_refl _), dg_G hRL hi _ _ (Nat.le_refl _), dg_S hRL hi (fun t ht => fr_uru hX.1 hi hX.2.2 ht) _ _ (Nat.le_refl _), s1, e175]
    obtain ⟨p1, p2⟩ := pl_pa (dgM (mI M) 180) hRL hi (by omega)
    unfold dgX dg3 udX ud3
    rw [s2]
    unfold dgP
    rw [p1, e175, e178, eTl, mixN_cg (g := plG (frF (mI M)) 172) (g' := paS (mI M 175) (dgM (mI M) 180)) _ p2, show tl (plG (frF (mI M))) = tL (mI M) from by unfold tl tL; rw [show plG (frF (mI M)) 17 2 = mI M 17 2 from kG _ _ (by omega) (by omega) (by omega), h.2.2.2.2.2.2.1]]
    refine mixN_cg _ (fun j hj => ?_)
    rw [show plG (frF (mI M)) 18 j = mI M 18 j from kG _ _ (by omega) (by omega) (by omega)]
    exact h.2.2.2.2.2.2.2 j hj
  · have := RR_scr (g := udM (dgM (mI M))) h (fun x y z => by
      unfold udM
      rw [paG_o (by unfold KC at z; omega) (by unfold KC at z; omega), udG_p (by unfold KC at z; omega)]
      exact kG _ _ (by unfold KC at z; omega) (by unfold KC at z; omega) (by unfold KC at z; omega)) (LedD_cg (plG_D (LedD_cg h.1.2.1 (fun y => kF _ _ (by omega) (by omega)) (fun y => kF _ _ (by omega) (by omega)) (fun y => kF _ _ (by omega) (by omega)))) (fun y => by unfold udM; rw [paG_o (by omega) (by omega), udG_p (by omega)]; rfl) (fun y => by unfold udM; rw [paG_o (by omega) (by omega), udG_p (by omega)]; rfl) (fun y => by unfold udM; rw [paG_o (by omega) (by omega), udG_p (by omega)]; rfl))
    exact this
end St
