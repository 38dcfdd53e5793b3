theorem clsW : ∀ ci, ci < 5 → ∀ w ∈ u_ws (cnm ci) (cT ci) (cW ci), w ∈ WS := by decide +kernel
theorem clsNm : ∀ ci, ci < 5 → ∀ a, a < cW ci → ∀ b, b < cW ci → a ≠ b → (cT ci a).2.1 ≠ (cT ci b).2.1 := by decide +kernel
theorem clsTy : ∀ ci, ci < 5 → ∀ k, k < cW ci → parseFieldDescriptor (cT ci k).2.2.1 = some (cty ci k) := by decide +kernel
theorem clsGet : ∀ ci, ci < 5 → cls[ci]? = some (cnm ci, cT ci, cW ci) := by
  intro ci h
  rcases (by omega : ci = 0 ∨ ci = 1 ∨ ci = 2 ∨ ci = 3 ∨ ci = 4) with h | h | h | h | h <;> subst h <;> rfl
/-- the type of a field fits how it is kept -/
theorem clsFk : ∀ ci, ci < 5 → ∀ k, k < cW ci → (fk ci k = 0 ∧ cty ci k = .int) ∨ (fk ci k = 1 ∧ (cty ci k).isReference = true) ∨ (fk ci k = 2 ∧ cty ci k = .int) ∨ (fk ci k = 3 ∧ cty ci k = .long) := by decide +kernel
def isO (M : Mem) (i ci : Nat) : Prop := i < mN M ∧ (kd i).1 = ci + 3 ∧ (kd i).2 = cW ci
def isA (M : Mem) (a : Nat) (i : Int32) : Prop := a < mN M ∧ (kd a).1 = 1 ∧ vp_in i (kd a).2
theorem isO.lo {M : Mem} {i ci : Nat} (h : isO M i ci) : 16 ≤ i := kd_lo (by rw [h.2.1]; omega)
theorem isA.lo {M : Mem} {a : Nat} {i : Int32} (h : isA M a i) : 16 ≤ a := kd_lo (by rw [h.2.1]; omega)
theorem isO.ce {Z : Zt} {M : Mem} {i ci : Nat} (h : isO M i ci) : ce Z M i = .inr (ci, (List.range (cW ci)).map (fv Z M i ci)) := by
  show (if (kd i).1 = 1 then _ else _) = _
  rw [h.2.1, h.2.2, if_neg (by omega), if_neg (by omega), show ci + 3 - 3 = ci by omega]
/-- what getfield pushes -/
def gval (M : Mem) (i ci k : Nat) : Value := if fk ci k = 0 then .int (mI M i k) else if fk ci k = 1 then .ref (mR M i k) else if fk ci k = 2 then .int (nI (mR M i k)) else .long (mL M i)
theorem gval_cv (Z : Zt) (M : Mem) (i ci k : Nat) : cv Z (gval M i ci k) = fv Z M i ci k := by
  unfold gval fv
  split
  · rfl
  · split
    · rfl
    · split <;> rfl
theorem Rep.at {Z : Zt} {M : Mem} {H : Heap} (h : Rep Z M H) {i : Nat} (h1 : 16 ≤ i) (h2 : i < mN M) : (wsZ Z M)[i - 16]? = some (zo Z + (i - 16), ce Z M i) := wsZ_at h1 h2
theorem isO_at {Z : Zt} {M : Mem} {i ci : Nat} (ho : isO M i ci) : (wsZ Z M)[i - 16]? = some (zo Z + (i - 16), .inr (ci, (List.range (cW ci)).map (fv Z M i ci))) := by
  rw [wsZ_at ho.lo ho.1, ho.ce]
theorem ce_arr {Z : Zt} {M : Mem} {a : Nat} (h : (kd a).1 = 1) : ce Z M a = .inl (zcI Z, (kd a).2, .inl (mI M a)) := by
  show (if (kd a).1 = 1 then _ else _) = _
  rw [if_pos h]
theorem ce_led {Z : Zt} {M : Mem} {a : Nat} (h : (kd a).1 = 2) : ce Z M a = .inl (zcL Z, (kd a).2, .inr (.inr (.inr (.inr (fun j => rfo Z (mR M a j)))))) := by
  show (if (kd a).1 = 1 then _ else _) = _
  rw [if_neg (by omega), if_pos h]
theorem arr_at {Z : Zt} {M : Mem} {a : Nat} (h1 : a < mN M) (h : (kd a).1 = 1) : (wsZ Z M)[a - 16]? = some (zo Z + (a - 16), .inl (zcI Z, (kd a).2, .inl (mI M a))) := by
  rw [wsZ_at (kd_lo (by omega)) h1, ce_arr h]
theorem led_at {Z : Zt} {M : Mem} {a : Nat} (h1 : a < mN M) (h : (kd a).1 = 2) : (wsZ Z M)[a - 16]? = some (zo Z + (a - 16), .inl (zcL Z, (kd a).2, .inr (.inr (.inr (.inr (fun j => rfo Z (mR M a j))))))) := by
  rw [wsZ_at (kd_lo (by omega)) h1, ce_led h]
theorem ad_of {Z : Zt} {M : Mem} {i : Nat} (h : 16 ≤ i) : cv Z (.ref i) = .ref (zo Z + (i - 16)) := ad_cell h
section XH
variable {Z : Zt} {d : Nat} {sg : Sig} {n0 nF : Nat} {Q : Option Value → Mem → Prop} {pc : Nat} {lv : List (Option Value)} {st : List Value} {M : Mem}
theorem X_getf {i ci k ix : Nat} (hci : ci < 5) (hk : k < cW ci) (hw : Cond.fieldLink sg.1.cls ix (cT ci k).1 (cT ci k).2.1 (cT ci k).2.2.1 ∈ WS) (hd : decode sg.2.1 pc = .ok (.getfield ix, 3)) (ho : isO M i ci) (h : X Z d sg n0 nF Q (pc + 3) lv (gval M i ci k :: st) M) : X Z d sg n0 nF Q pc lv (.ref i :: st) M := by
  intro p e R s m args below meth c Qe H locs la hF h1 h2 h3 h4 hR hS hL hE
  have kk := h p e R s m args below meth c Qe H locs la hF h1 h2 h3 h4 hR hS hL hE
  rw [List.map_cons, gval_cv] at kk
  rw [List.map_cons, ad_of (M := M) ho.lo]
  exact va_get (Ts := WS) hF.1 hF.2.1 hF.2.2.2.2.1 (clsW ci hci) hF.2.2.2.1 hF.2.2.2.2.2.1.1 hR.1 (i - 16) (isO_at ho) (clsGet ci hci) k hk (hF.2.2.2.2.1 _ hw) (fun _ h => h) (fv_get hk) hd kk
theorem Rep.set {Z : Zt} {M M' : Mem} {i : Nat} {H H1 : Heap} {e : va_E} (hR : Rep Z M H) (h : 16 ≤ i) (h2 : i < mN M) (hn : mN M' = mN M) (ho : ∀ j, j ≠ i → ce Z M' j = ce Z M j) (he : ce Z M' i = e) (hz : H1.size = H.size) (hP : va_P (zD Z) cls ((wsZ Z M).set (i - 16) (zo Z + (i - 16), e)) H1) : Rep Z M' H1 := by
  subst he
  rw [wsZ_set h h2 hn ho] at hP
  exact ⟨hP, by rw [hz, hR.2.1, hn], by rw [hn]; exact hR.2.2⟩
theorem va_P_size {Z : Zt} {H H1 : Heap} {A : Nat → Prop} {H0 : Heap} {locs locs1 : List Loc} (h : va_S A H0 H locs) (h' : va_S A H0 H1 locs1) : True := trivial
theorem X_putI {i ci k ix : Nat} {v : Int32} (hci : ci < 5) (hk : k < cW ci) (hf : (cT ci k).2.2.2 = false) (h0 : fk ci k = 0) (hty : cty ci k = .int) (hw : Cond.fieldLink sg.1.cls ix (cT ci k).1 (cT ci k).2.1 (cT ci k).2.2.1 ∈ WS) (hd : decode sg.2.1 pc = .ok (.putfield ix, 3)) (ho : isO M i ci) (h : X Z d sg n0 nF Q (pc + 3) lv st (stI M i k v)) : X Z d sg n0 nF Q pc lv (.int v :: .ref i :: st) M := by
  intro p e R s m args below meth c Qe H locs la hF h1 h2 h3 h4 hR hS hL hE
  rw [List.map_cons, List.map_cons, ad_of (M := M) ho.lo]
  have hap := va_apart (own := sg.1.cls) hF.2.2.2.2.1 (clsW ci hci) (cty ci) (clsTy ci hci) (clsNm ci hci) hF.2.2.2.2.2.1.1 (clsGet ci hci)
  obtain ⟨r, g1, cell, q1, q2, q3, q4⟩ := hR.1 (i - 16) _ (isO_at ho)
  have hr : r = (cnm ci, cT ci, cW ci) := Option.some.inj (g1.symm.trans (clsGet ci hci))
  subst hr
  obtain ⟨hSl, hfc, kC, hkC, hkind⟩ := hF.2.2.2.2.2.1.1.1 ci _ (clsGet ci hci)
  obtain ⟨cf, kf, fi, f, hi, hsl⟩ := hSl k hk
  have hlay := hF.2.2.2.2.1 _ (clsW ci hci _ (u_in_lay hk))
  unfold u_lay at hlay
  rw [if_neg (by rw [hf]; decide)] at hlay
  have hst := (u_facts hfc hkC (u_lays hF.2.2.2.2.1 (clsW ci hci) hk) hi).1
  have h6 := u_store (v := .int v) hfc hkC hkind hlay hi (clsTy ci hci k hk) (by rw [hty]; rfl) (by rw [hty]; rfl)
  refine W.putK hF.1 hF.2.1 (f := f) ⟨hF.2.2.2.1, hF.2.2.2.2.1 _ hw, ⟨_, _, _, hi⟩, hst⟩ (by rw [q2]; exact h6) q1 q3 (by rw [hsl]; exact k2_hasslot (q4 k hk)) rfl rfl hd fun H' e1 e2 e3 => ?_
  rw [hsl] at e1 ⊢
  have hl : k < ((List.range (cW ci)).map (fv Z M i ci)).length := by simpa using hk
  have hP := hR.1.set (wsD Z M) (isO_at ho) (e := .inr (ci, ((List.range (cW ci)).map (fv Z M i ci)).set k (.int v))) ⟨_, clsGet ci hci, t_OB.to (V := updV (vp_V ((List.range (cW ci)).map (fv Z M i ci))) k (.int v)) ⟨_, e1, q2, q3, t_set q4 hap hk (.int v)⟩ (fun j _ => vp_updV_set hl (.int v) j)⟩ e3
  have ho' : isO (stI M i k v) i ci := ho
  have hR' : Rep Z (stI M i k v) H' := Rep.set (M' := stI M i k v) hR ho.lo ho.1 rfl (fun j hj => ce_stI hj) (by
    rw [ho'.ce]
    congr 2
    refine (map_set_range _ _ _ _ _ ?_ ?_).symm
    · unfold fv
      rw [if_pos h0]
      simp [mI, stI, u2]
    · intro j hj
      unfold fv
      have e9 : mI (stI M i k v) i j = mI M i j := by simp [mI, stI, u2, hj]
      rw [e9]
      rfl) e2 hP
  exact h p e R s m args below meth c Qe H' _ la hF h1 h2 h3 h4 hR' (hS.put e2 e3 ((wsD Z M).2 (i - 16) _ (isO_at ho))) hL hE
theorem X_putJ {i ci k ix : Nat} {v : Int64} (hci : ci < 5) (hk : k < cW ci) (hf : (cT ci k).2.2.2 = false) (h0 : fk ci k = 3) (hu : ∀ j, j < cW ci → j ≠ k → fk ci j < 3) (hty : cty ci k = .long) (hw : Cond.fieldLink sg.1.cls ix (cT ci k).1 (cT ci k).2.1 (cT ci k).2.2.1 ∈ WS) (hd : decode sg.2.1 pc = .ok (.putfield ix, 3)) (ho : isO M i ci) (h : X Z d sg n0 nF Q (pc + 3) lv st (stL M i v)) : X Z d sg n0 nF Q pc lv (.long v :: .ref i :: st) M := by
  intro p e R s m args below meth c Qe H locs la hF h1 h2 h3 h4 hR hS hL hE
  rw [List.map_cons, List.map_cons, ad_of (M := M) ho.lo]
  have hap := va_apart (own := sg.1.cls) hF.2.2.2.2.1 (clsW ci hci) (cty ci) (clsTy ci hci) (clsNm ci hci) hF.2.2.2.2.2.1.1 (clsGet ci hci)
  obtain ⟨r, g1, cell, q1, q2, q3, q4⟩ := hR.1 (i - 16) _ (isO_at ho)
  have hr : r = (cnm ci, cT ci, cW ci) := Option.some.inj (g1.symm.trans (clsGet ci hci))
  subst hr
  obtain ⟨hSl, hfc, kC, hkC, hkind⟩ := hF.2.2.2.2.2.1.1.1 ci _ (clsGet ci hci)
  obtain ⟨cf, kf, fi, f, hi, hsl⟩ := hSl k hk
  have hlay := hF.2.2.2.2.1 _ (clsW ci hci _ (u_in_lay hk))
  unfold u_lay at hlay
  rw [if_neg (by rw [hf]; decide)] at hlay
  have hst := (u_facts hfc hkC (u_lays hF.2.2.2.2.1 (clsW ci hci) hk) hi).1
  have h6 := u_store (v := .long v) hfc hkC hkind hlay hi (clsTy ci hci k hk) (by rw [hty]; rfl) (by rw [hty]; rfl)
  refine W.putK hF.1 hF.2.1 (f := f) ⟨hF.2.2.2.1, hF.2.2.2.2.1 _ hw, ⟨_, _, _, hi⟩, hst⟩ (by rw [q2]; exact h6) q1 q3 (by rw [hsl]; exact k2_hasslot (q4 k hk)) rfl rfl hd fun H' e1 e2 e3 => ?_
  rw [hsl] at e1 ⊢
  have hl : k < ((List.range (cW ci)).map (fv Z M i ci)).length := by simpa using hk
  have hP := hR.1.set (wsD Z M) (isO_at ho) (e := .inr (ci, ((List.range (cW ci)).map (fv Z M i ci)).set k (.long v))) ⟨_, clsGet ci hci, t_OB.to (V := updV (vp_V ((List.range (cW ci)).map (fv Z M i ci))) k (.long v)) ⟨_, e1, q2, q3, t_set q4 hap hk (.long v)⟩ (fun j _ => vp_updV_set hl (.long v) j)⟩ e3
  have ho' : isO (stL M i v) i ci := ho
  have hR' : Rep Z (stL M i v) H' := Rep.set (M' := stL M i v) hR ho.lo ho.1 rfl (fun j hj => ce_stL hj) (by
    rw [ho'.ce]
    congr 2
    apply List.ext_getElem?
    intro j
    by_cases hjl : j < cW ci
    · rw [fv_get hjl]
      by_cases hj : j = k
      · subst hj
        rw [List.getElem?_set_self hl]
        unfold fv
        rw [if_neg (by omega), if_neg (by omega), if_neg (by omega)]
        simp [mL, stL, u1]
      · rw [List.getElem?_set_ne (fun z => hj z.symm), fv_get hjl]
        have := hu j hjl hj
        unfold fv
        rcases (by omega : fk ci j = 0 ∨ fk ci j = 1 ∨ fk ci j = 2) with z | z | z <;> rw [z] <;> rfl
    · rw [List.getElem?_eq_none (by simp; omega), List.getElem?_eq_none (by simp; omega)]) e2 hP
  exact h p e R s m args below meth c Qe H' _ la hF h1 h2 h3 h4 hR' (hS.put e2 e3 ((wsD Z M).2 (i - 16) _ (isO_at ho))) hL hE
/-- a final field, in the constructor -/
theorem X_putF {i ci k ix : Nat} {v : Value} {M' : Mem} (hci : ci < 5) (hk : k < cW ci) (hf : (cT ci k).2.2.2 = true) (hin : sg.1.name = "<init>") (hdc : (cT ci k).1 = sg.1.cls) (hn : narrow (cty ci k) (cv Z v) = cv Z v) (hfit : fits (cty ci k) (cv Z v) = true) (hw : Cond.fieldLink sg.1.cls ix (cT ci k).1 (cT ci k).2.1 (cT ci k).2.2.1 ∈ WS) (hd : decode sg.2.1 pc = .ok (.putfield ix, 3)) (ho : isO M i ci) (hM : mN M' = mN M ∧ (∀ j, j ≠ i → ce Z M' j = ce Z M j) ∧ fv Z M' i ci k = cv Z v ∧ ∀ j, j ≠ k → fv Z M' i ci j = fv Z M i ci j) (h : X Z d sg n0 nF Q (pc + 3) lv st M') : X Z d sg n0 nF Q pc lv (v :: .ref i :: st) M := by
  intro p e R s m args below meth c Qe H locs la hF h1 h2 h3 h4 hR hS hL hE
  obtain ⟨m1, m2, m3, m4⟩ := hM
  rw [List.map_cons, List.map_cons, ad_of (M := M) ho.lo]
  generalize cv Z v = w at hn hfit m3 ⊢
  have hap := va_apart (own := sg.1.cls) hF.2.2.2.2.1 (clsW ci hci) (cty ci) (clsTy ci hci) (clsNm ci hci) hF.2.2.2.2.2.1.1 (clsGet ci hci)
  obtain ⟨r, g1, cell, q1, q2, q3, q4⟩ := hR.1 (i - 16) _ (isO_at ho)
  have hr : r = (cnm ci, cT ci, cW ci) := Option.some.inj (g1.symm.trans (clsGet ci hci))
  subst hr
  obtain ⟨hSl, hfc, kC, hkC, hkind⟩ := hF.2.2.2.2.2.1.1.1 ci _ (clsGet ci hci)
  obtain ⟨cf, kf, fi, f, hi, hsl⟩ := hSl k hk
  have hlay := hF.2.2.2.2.1 _ (clsW ci hci _ (u_in_lay hk))
  unfold u_lay at hlay
  rw [if_pos hf] at hlay
  have hst := (u_facts hfc hkC (u_lays hF.2.2.2.2.1 (clsW ci hci) hk) hi).1
  have hcf : m.cls = cf := by
    obtain ⟨_, _, c', _, _, _, -, -, hf', -, -, -, hown2, -⟩ := Cond.laysFinal_spec hlay
    have e1 : c' = cf := by have := hi.symm.trans hf'; simp at this; exact this.1.symm
    rw [hdc] at hown2
    rw [← e1]; exact Option.some.inj (hF.2.2.2.1.symm.trans hown2)
  have h6 := u_fits (v := w) hfc hkC hkind (Or.inr hlay) hi (clsTy ci hci k hk) hn hfit
  refine W.putFinK hF.1 hF.2.1 hF.2.2.2.1 (hF.2.2.2.2.1 _ hw) hi hst hcf (by rw [hF.2.2.2.2.2.2.2.2]; exact hin) (by rw [q2]; exact h6) q1 q3 (by rw [hsl]; exact k2_hasslot (q4 k hk)) rfl rfl hd fun H' e1 e2 e3 => ?_
  rw [hsl] at e1 ⊢
  have hl : k < ((List.range (cW ci)).map (fv Z M i ci)).length := by simpa using hk
  have hP := hR.1.set (wsD Z M) (isO_at ho) (e := .inr (ci, ((List.range (cW ci)).map (fv Z M i ci)).set k w)) ⟨_, clsGet ci hci, t_OB.to (V := updV (vp_V ((List.range (cW ci)).map (fv Z M i ci))) k w) ⟨_, e1, q2, q3, t_set q4 hap hk w⟩ (fun j _ => vp_updV_set hl w j)⟩ e3
  have ho' : isO M' i ci := ⟨by rw [m1]; exact ho.1, ho.2⟩
  have hR' : Rep Z M' H' := Rep.set (M' := M') hR ho.lo ho.1 m1 m2 (by
    rw [ho'.ce]
    congr 2
    exact (map_set_range _ _ _ _ _ m3 m4).symm) e2 hP
  have hS' := hS.put (k := (zD Z).2 ci k) e2 e3 ((wsD Z M).2 (i - 16) _ (isO_at ho))
  have hx := h p e R s m args below meth c Qe H' (locs ++ [⟨zo Z + (i - 16), (zD Z).2 ci k⟩]) la hF h1 h2 (by rw [m1]; exact h3) (by rw [m1]; exact h4) hR' hS' hL hE
  rw [m1] at hx
  exact hx
theorem X_putR {i ci k ix r : Nat} (hci : ci < 5) (hk : k < cW ci) (hf : (cT ci k).2.2.2 = true) (h0 : fk ci k = 1) (hin : sg.1.name = "<init>") (hdc : (cT ci k).1 = sg.1.cls) (hw : Cond.fieldLink sg.1.cls ix (cT ci k).1 (cT ci k).2.1 (cT ci k).2.2.1 ∈ WS) (hd : decode sg.2.1 pc = .ok (.putfield ix, 3)) (ho : isO M i ci) (h : X Z d sg n0 nF Q (pc + 3) lv st (stR M i k r)) : X Z d sg n0 nF Q pc lv (.ref r :: .ref i :: st) M := by
  have hty : (cty ci k).isReference = true := by
    rcases clsFk ci hci k hk with z | z | z | z
    · omega
    · exact z.2
    · omega
    · omega
  refine X_putF (v := .ref r) (M' := stR M i k r) hci hk hf hin hdc (fits_ad Z r _ hty).2 (fits_ad Z r _ hty).1 hw hd ho ⟨rfl, fun j hj => ce_stR hj, ?_, fun j hj => ?_⟩ h
  · unfold fv
    rw [if_neg (by omega), if_pos h0]
    simp [mR, stR, u2, cv]
  · unfold fv
    have e9 : mR (stR M i k r) i j = mR M i j := by simp [mR, stR, u2, hj]
    rw [e9]
    rfl
theorem X_putC {i ci k ix n : Nat} (hci : ci < 5) (hk : k < cW ci) (hf : (cT ci k).2.2.2 = true) (h0 : fk ci k = 2) (hin : sg.1.name = "<init>") (hdc : (cT ci k).1 = sg.1.cls) (hw : Cond.fieldLink sg.1.cls ix (cT ci k).1 (cT ci k).2.1 (cT ci k).2.2.1 ∈ WS) (hd : decode sg.2.1 pc = .ok (.putfield ix, 3)) (ho : isO M i ci) (h : X Z d sg n0 nF Q (pc + 3) lv st (stR M i k n)) : X Z d sg n0 nF Q pc lv (.int (nI n) :: .ref i :: st) M := by
  have hty : cty ci k = .int := by
    rcases clsFk ci hci k hk with z | z | z | z
    · omega
    · omega
    · exact z.2
    · omega
  refine X_putF (v := .int (nI n)) (M' := stR M i k n) hci hk hf hin hdc (by rw [hty]; rfl) (by rw [hty]; rfl) hw hd ho ⟨rfl, fun j hj => ce_stR hj, ?_, fun j hj => ?_⟩ h
  · unfold fv
    rw [if_neg (by omega), if_neg (by omega), if_pos h0]
    simp [mR, stR, u2, cv]
  · unfold fv
    have e9 : mR (stR M i k n) i j = mR M i j := by simp [mR, stR, u2, hj]
    rw [e9]
    rfl
theorem X_iald {a : Nat} {i : Int32} (hd : decode sg.2.1 pc = .ok (.iaload, 1)) (ho : isA M a i) (h : X Z d sg n0 nF Q (pc + 1) lv (.int (mI M a i.toNatClampNeg) :: st) M) : X Z d sg n0 nF Q pc lv (.int i :: .ref a :: st) M := by
  intro p e R s m args below meth c Qe H locs la hF h1 h2 h3 h4 hR hS hL hE
  have kk := h p e R s m args below meth c Qe H locs la hF h1 h2 h3 h4 hR hS hL hE
  rw [List.map_cons, List.map_cons, ad_of (M := M) ho.lo]
  exact va_iald hF.1 hF.2.1 hF.2.2.2.2.2.1.1 hR.1 (a - 16) 0 (arr_at ho.1 ho.2.1) rfl ho.2.2 hd kk
theorem X_iast {a : Nat} {i v : Int32} (hd : decode sg.2.1 pc = .ok (.iastore, 1)) (ho : isA M a i) (h : X Z d sg n0 nF Q (pc + 1) lv st (stI M a i.toNatClampNeg v)) : X Z d sg n0 nF Q pc lv (.int v :: .int i :: .ref a :: st) M := by
  intro p e R s m args below meth c Qe H locs la hF h1 h2 h3 h4 hR hS hL hE
  rw [List.map_cons, List.map_cons, List.map_cons, ad_of (M := M) ho.lo]
  have hlt : i.toNatClampNeg < (kd a).2 := Nat.not_le.mp fun q => ho.2.2 (Or.inr q)
  refine W.iast hF.1 hF.2.1 (hR.1 (a - 16) _ (arr_at ho.1 ho.2.1)) ((hF.2.2.2.2.2.1.1.2 0 _ rfl).1 (kd a).2 (fun j => .int (mI M a j))) (fun q => by cases q) (by show ¬ (i < 0 ∨ (arrV _ _ _).slots.size ≤ _); rw [arrV_size]; exact ho.2.2) rfl rfl hd fun H1 e1 z oq => ?_
  have hP := hR.1.set (wsD Z M) (arr_at ho.1 ho.2.1) (e := .inl (zcI Z, (kd a).2, .inl (upd (mI M a) i.toNatClampNeg v))) (by
    show H1[zo Z + (a - 16)]? = some (vp_cell _ _)
    rw [e1, vp_cell_i, vp_cell_i, arrV_store]
    congr 2
    funext q
    by_cases hq : q = i.toNatClampNeg
    · subst hq
      simp [updV, upd]
    · simp [updV, upd, hq]) oq
  have hR' : Rep Z (stI M a i.toNatClampNeg v) H1 := Rep.set (M' := stI M a i.toNatClampNeg v) hR ho.lo ho.1 rfl (fun j hj => ce_stI hj) (by
    rw [ce_arr ho.2.1]
    congr 4
    funext q
    by_cases hq : q = i.toNatClampNeg
    · subst hq
      simp [upd, mI, stI, u2]
    · simp [upd, mI, stI, u2, hq]) z hP
  exact h p e R s m args below meth c Qe H1 _ la hF h1 h2 h3 h4 hR' (hS.put z oq ((wsD Z M).2 (a - 16) _ (arr_at ho.1 ho.2.1))) hL hE
theorem X_aald {a : Nat} {i : Int32} (hd : decode sg.2.1 pc = .ok (.aaload, 1)) (h1 : a < mN M) (h2 : (kd a).1 = 2) (h3 : vp_in i (kd a).2) (h : X Z d sg n0 nF Q (pc + 1) lv (.ref (mR M a i.toNatClampNeg) :: st) M) : X Z d sg n0 nF Q pc lv (.int i :: .ref a :: st) M := by
  intro p e R s m args below meth c Qe H locs la hF g1 g2 g3 g4 hR hS hL hE
  have kk := h p e R s m args below meth c Qe H locs la hF g1 g2 g3 g4 hR hS hL hE
  rw [List.map_cons, List.map_cons, ad_of (M := M) (kd_lo (by omega))]
  exact va_aldq hF.1 hF.2.1 hF.2.2.2.2.2.1.1 hR.1 (a - 16) 1 (led_at h1 h2) rfl h3 hd kk
theorem X_aast {a v : Nat} {i : Int32} (hd : decode sg.2.1 pc = .ok (.aastore, 1)) (h1 : a < mN M) (h2 : (kd a).1 = 2) (h3 : vp_in i (kd a).2) (hv : isO M v 2) (h : X Z d sg n0 nF Q (pc + 1) lv st (stR M a i.toNatClampNeg v)) : X Z d sg n0 nF Q pc lv (.ref v :: .int i :: .ref a :: st) M := by
  intro p e R s m args below meth c Qe H locs la hF g1 g2 g3 g4 hR hS hL hE
  have h16 : 16 ≤ a := kd_lo (by omega)
  rw [List.map_cons, List.map_cons, List.map_cons, ad_of (M := M) h16, ad_of (M := M) hv.lo]
  have hK := hF.2.2.2.2.2.1.1
  have hlt : i.toNatClampNeg < (kd a).2 := Nat.not_le.mp fun q => h3 (Or.inr q)
  have h0 : ¬ i < 0 := fun q => h3 (Or.inl q)
  obtain ⟨r', hr', cellV, q1, q2, q3, -⟩ := hR.1 (v - 16) _ (isO_at hv)
  have hcls := (hK.1 2 _ (clsGet 2 (by omega))).2
  obtain ⟨kA, comp, k1, k2, k3, -⟩ := (hK.2 1 _ rfl).2
  have hcomp : comp = (zD Z).1 2 := Option.some.inj (k3.symm.trans hcls.1)
  subst hcomp
  obtain ⟨kC, hkC, -⟩ := hcls.2
  refine W.aast hF.1 hF.2.1 (hR.1 (a - 16) _ (led_at h1 h2)) (fun q h => by cases h) (fun h => by cases h) k1 k2 rfl hkC ⟨h0, by show _ < (arrV _ _ _).slots.size; rw [arrV_size]; exact hlt⟩ q1 (fun q h => by rw [q3] at h; cases h) (by rw [q2]; exact hkC) (by rw [q2]; exact va_assign hcls) rfl rfl hd fun H1 e1 z oq => ?_
  have hP := hR.1.set (wsD Z M) (led_at h1 h2) (e := .inl (zcL Z, (kd a).2, .inr (.inr (.inr (.inr (va_up (fun j => rfo Z (mR M a j)) i.toNatClampNeg (some (zo Z + (v - 16))))))))) (by
    show H1[zo Z + (a - 16)]? = some (vp_cell _ _)
    rw [e1, vp_cell_q, vp_cell_q, arrV_store]
    congr 2
    funext q
    by_cases hq : q = i.toNatClampNeg
    · subst hq
      simp [updV, va_up, va_rf]
    · simp [updV, va_up, hq]) oq
  have hR' : Rep Z (stR M a i.toNatClampNeg v) H1 := Rep.set (M' := stR M a i.toNatClampNeg v) hR h16 h1 rfl (fun j hj => ce_stR hj) (by
    rw [ce_led h2]
    congr 7
    funext q
    by_cases hq : q = i.toNatClampNeg
    · subst hq
      simp [va_up, mR, stR, u2, rfo_cell hv.lo]
    · simp [va_up, mR, stR, u2, hq]) z hP
  exact h p e R s m args below meth c Qe H1 _ la hF g1 g2 g3 g4 hR' (hS.put z oq ((wsD Z M).2 (a - 16) _ (led_at h1 h2))) hL hE
end XH
