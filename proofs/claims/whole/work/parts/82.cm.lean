/-! ===== what the class leaves of the model ===== -/
def CM (M N : Mem) : Prop := BkS N ∧ ∀ x y, 173 < x → mI N x y = mI M x y
section Cm
variable {c : Nat} {M N : Mem}
theorem CM_id (h : RR c M) : CM M M := ⟨h.1.1, fun _ _ _ => rfl⟩
theorem CM_kp {F : Nat → Nat → Int32} (h : RR c M) (hF : ∀ x y, 173 < x → F x y = mI (kpM M) x y) : CM M (mW (kpM M) F) := ⟨kp_B h.1.1, fun x y z => (hF x y z).trans (kp_i h.1.1 h.1.2.2.2.1 (by omega))⟩
theorem CM_mW {F : Nat → Nat → Int32} (h : RR c M) (hF : ∀ x y, 173 < x → F x y = mI M x y) : CM M (mW M F) := ⟨h.1.1, hF⟩
theorem CM.tr {P : Mem} (h : CM M N) (h2 : CM N P) : CM M P := ⟨h2.1, fun x y z => (h2.2 x y z).trans (h.2 x y z)⟩
theorem CM.r (h : CM M N) : mI N 175 = mI M 175 := funext fun y => h.2 _ _ (by omega)
theorem CM.U (h : CM M N) (hr : RR c M) : MuD (mI N) := by
  have e : mU (mI N) = mU (mI M) := by unfold mU; rw [h.2 _ _ (by omega)]
  unfold MuD
  rw [e, h.2 _ _ (by omega)]
  exact hr.2.2.1
theorem CM.T (h : CM M N) (hr : RR c M) : MtD (mI N) := by
  have e : tL (mI N) = tL (mI M) := by unfold tL; rw [h.2 _ _ (by omega)]
  unfold MtD
  rw [e, h.2 _ _ (by omega)]
  exact hr.2.2.2.2.2.1
theorem CM.O (h : CM M N) (hr : RR c M) : MO N := ⟨h.1, by rw [h.r]; exact hr.2.1.2.1.1⟩
theorem CM.W (h : CM M N) (hr : RR c M) : WM N := ⟨h.1, by rw [h.r]; exact hr.2.1.2.1.1, h.U hr⟩
theorem CM.ds (h : CM M N) (hr : RR c M) : DsAll (mI N 175) := by rw [h.r]; exact ds_ok hr.2.1.2.1
theorem CM.pr (h : CM M N) (hr : RR c M) : PrOk (mI N 175) := by rw [h.r]; exact pr_ok hr.2.1.2.1
theorem CM.tk (h : CM M N) (hr : RR c M) : TkOk (mI N 175) := by rw [h.r]; exact ⟨hr.2.1.2.1.1, hr.2.1.2.1.2.1⟩
theorem CM.dg (h : CM M N) (hr : RR c M) : DgOk (mI N 175) := by rw [h.r]; exact dg_ok hr
theorem cm_type (h : RR c M) (v : Int32) : CM M (mW M (tyF (mI M) v)) := CM_mW h (fun x y z => by
  unfold tyF apF
  split
  · split
    · rw [u2_ne (by omega), u2_ne (by omega)]
    · rfl
  · rfl)
theorem cm_clearText (h : RR c M) : CM M (mW M (u2 (mI M) 17 2 0)) := CM_mW h (fun x y z => u2_ne (by omega))
theorem cm_fault (h : RR c M) : CM M (rvM M) := CM_mW h (fun x y z => rowF_o (by omega))
theorem cm_setResource (h : RR c M) (r b n : Int32) : CM M (srM M r b n) := by
  unfold srM
  split
  · split
    · exact CM_id h
    · exact CM_kp h (fun x y z => u2_ne (by split <;> omega))
  · exact CM_id h
theorem cm_setRest (h : RR c M) (n : Int32) : CM M (rtM M n) := by
  unfold rtM
  split
  · exact CM_kp h (fun x y z => u2_ne (by omega))
  · exact CM_id h
theorem cm_addTenant (h : RR c M) (n : Int32) : CM M (atM M n) := by
  unfold atM
  split
  · exact CM_kp h (fun x y z => by rw [u2_ne (by omega), u2_ne (by omega)])
  · exact CM_id h
theorem cm_setWeight (h : RR c M) (t n : Int32) : CM M (swM M t n) := by
  unfold swM
  split
  · exact CM_kp h (fun x y z => u2_ne (by omega))
  · exact CM_id h
theorem cm_setLimit (h : RR c M) (t r n : Int32) : CM M (slM M t r n) := by
  unfold slM
  split
  · split
    · exact CM_id h
    · exact CM_kp h (fun x y z => u2_ne (by omega))
  · exact CM_id h
theorem cm_demand (h : RR c M) (t : Int32) : CM M (dmM M t) := by
  unfold dmM
  split
  · split
    · exact CM_id h
    · split
      · exact cm_fault h
      · refine (cm_fault h).tr (CM_kp (RR_rv h) (fun x y z => ?_))
        unfold addF
        rw [u2_ne (by omega), u2_ne (by omega), u2_ne (by omega), addP_ne (by omega)]
  · exact CM_id h
theorem cm_withdraw (h : RR c M) (t : Int32) : CM M (wdM M t) := by
  unfold wdM
  split
  · exact CM_kp h (fun x y z => rmF_ne (by omega) (by omega))
  · exact CM_id h
theorem cm_grant (h : RR c M) : CM M (gtM M) := by
  unfold gtM
  split
  · exact CM_id h
  · exact CM_kp h (fun x y z => svF_o (by omega))
theorem cm_grantAll (h : RR c M) : CM M (gaM M) := by
  unfold gaM
  split
  · exact CM_id h
  · exact CM_kp h (fun x y z => saP_o (by omega) (by omega) _ _ _)
theorem cm_release (h : RR c M) (n : Int32) : CM M (rlM M n) := by
  unfold rlM
  split
  · exact CM_id h
  · exact CM_kp h (fun x y z => by rw [rmF_ne (by omega) (by omega), auF_ne (by omega) (by omega)])
theorem cm_exchange (h : RR c M) (t a b n : Int32) : CM M (exM M t a b n) := by
  unfold exM exN
  split
  · split
    · exact CM_id h
    · refine CM_kp h (fun x y z => ?_)
      unfold exG afF
      rw [u2_ne (by omega), u2_ne (by omega), u2_ne (by omega), u2_ne (by omega)]
  · exact CM_id h
theorem cm_borrow (h : RR c M) (t r n : Int32) : CM M (boM M t r n) := by
  unfold boM boN
  split
  · split
    · exact CM_id h
    · exact CM_kp h (fun x y z => by rw [u2_ne (by omega), u2_ne (by omega), u2_ne (by omega)])
  · exact CM_id h
theorem cm_repay (h : RR c M) (t r n : Int32) : CM M (rpM M t r n) := by
  unfold rpM rpN
  split
  · split
    · exact CM_id h
    · refine CM_kp h (fun x y z => ?_)
      unfold gbF afF
      rw [u2_ne (by omega), u2_ne (by omega), u2_ne (by omega)]
  · exact CM_id h
theorem cm_pass (h : RR c M) (n : Int32) : CM M (psM M n) := by
  unfold psM
  split
  · exact CM_kp h (fun x y z => tkI_o (by omega) _)
  · exact CM_id h
theorem cm_undo (h : RR c M) : CM M (rsM M) := by
  unfold rsM
  split
  · exact CM_id h
  · exact CM_mW h (fun x y z => by rw [cfF_out (by omega), u2_ne (by omega)])
theorem cm_plan (h : RR c M) (i : Int32) : CM M (plM M i) := by
  unfold plM
  split
  · exact CM_id h
  · exact CM_mW h (fun x y z => plG_o (by omega) (by omega))
theorem cm_ruin (h : RR c M) (t : Int32) : CM M (ruM M t) := by
  unfold ruM
  split
  · exact CM_mW h (fun x y z => frF_o (by omega) (by omega))
  · exact CM_id h
theorem cm_digest (h : RR c M) : CM M (mW M (dgM (mI M))) := CM_mW h (fun x y z => by
  unfold dgM
  rw [plG_o (by omega) (by omega), frF_o (by omega) (by omega)])
end Cm
theorem lc_0 (a : Int64) : lg_cmp a a = nI 0 := by
  simp [lg_cmp, nI]
