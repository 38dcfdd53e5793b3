section XA
variable {Z : Zt} {d : Nat} {sg : Sig} {n0 nF : Nat} {Q : Option Value → Mem → Prop} {pc : Nat} {lv : List (Option Value)} {st : List Value} {M : Mem}
theorem fv_al (Z : Zt) (M : Mem) (ci k : Nat) (hci : ci < 5) (hk : k < cW ci) : fv Z (al M) (mN M) ci k = defaultValue (cty ci k) := by
  have e1 : mI (al M) (mN M) k = 0 := by simp [mI, al, mN]
  have e2 : mR (al M) (mN M) k = 0 := by simp [mR, al, mN]
  have e3 : mL (al M) (mN M) = 0 := by simp [mL, al, mN]
  unfold fv
  rw [e1, e2, e3]
  rcases clsFk ci hci k hk with ⟨a, b⟩ | ⟨a, b⟩ | ⟨a, b⟩ | ⟨a, b⟩
  · rw [if_pos a, b]; rfl
  · rw [if_neg (by omega), if_pos a]
    have : ad Z 0 = .null := rfl
    rw [this]
    cases hc : cty ci k <;> rw [hc] at b <;> first | rfl | simp [FieldType.isReference] at b
  · rw [if_neg (by omega), if_neg (by omega), if_pos a, b]; rfl
  · rw [if_neg (by omega), if_neg (by omega), if_neg (by omega), b]; rfl
theorem X_new {ci ix : Nat} (hci : ci < 5) (hw : Cond.classLink sg.1.cls ix (cnm ci) ∈ WS) (hw2 : Cond.instantiable (cnm ci) (cW ci) ∈ WS) (hw3 : Cond.initialized (cnm ci) ∈ WS) (hd : decode sg.2.1 pc = .ok (.new ix, 3)) (hk : kd (mN M) = (ci + 3, cW ci)) (hn : mN M + 1 ≤ nF) (h : X Z d sg n0 nF Q (pc + 3) lv (.ref (mN M) :: st) (al M)) : X Z d sg n0 nF Q pc lv st M := by
  intro p e R s m args below meth c Qe H locs la hF h1 h2 h3 h4 hR hS hL hE
  have hts := hF.2.2.2.2.1
  have hKn := hF.2.2.2.2.2.1.1.1 ci _ (clsGet ci hci)
  have h16 := hR.2.2
  have hsl : sl (mN M + 1) = sl (mN M) + cW ci := by rw [sl_succ h16, hk]
  have hmo := sl_mono hn
  have hmo2 := sl_mono h3
  refine W.newcK hF.1 hF.2.1 hF.2.2.2.1 (hts _ hw) (hts _ hw2) (hts _ hw3) rfl hd (by omega) (by omega) hKn.2.1 rfl fun H1 kC hkC e1 z1 o1 => ?_
  have hkk : ∀ (k : Nat) (x : Nat × va_E), (wsZ Z M)[k]? = some x → H1[x.1]? = H[x.1]? := fun k x hx => o1 x.1 ((hR.1 k x hx).lt)
  have hce : ce Z (al M) (mN M) = .inr (ci, (List.range (cW ci)).map (fv Z (al M) (mN M) ci)) := by
    have ho : isO (al M) (mN M) ci := ⟨Nat.lt_succ_self _, by rw [hk], by rw [hk]⟩
    exact ho.ce
  have hP : va_P (zD Z) cls (wsZ Z M ++ [(zo Z + (mN M - 16), ce Z (al M) (mN M))]) H1 := by
    refine (hR.1.kept hkk).app (fun k x hx => ?_)
    have hz : k < 1 := (List.getElem?_eq_some_iff.mp hx).1
    rw [show k = 0 by omega] at hx
    cases hx
    rw [hce]
    refine ⟨_, clsGet ci hci, ?_⟩
    rw [hR.2.1] at e1
    refine (u_born (cty ci) hts (clsW ci hci) hKn hkC e1 (clsTy ci hci)).to fun j hj => ?_
    show _ = vp_V _ j
    unfold vp_V
    rw [List.getD_eq_getElem?_getD, fv_get hj, fv_al Z M ci j hci hj]
    rfl
  rw [wsZ_push h16 rfl (fun j hj => ce_al hj)] at hP
  have hR' : Rep Z (al M) H1 := ⟨hP, by rw [z1, hR.2.1]; show _ = zo Z + (mN M + 1 - 16); omega, by show 16 ≤ mN M + 1; omega⟩
  have hS' : va_S (Ar Z) s.heap H1 locs := ⟨Nat.le_trans hS.1 (by omega), fun x h1 h2 => (o1 x (Nat.lt_of_lt_of_le h1 hS.1)).trans (hS.2.1 x h1 h2), hS.2.2⟩
  have hx := h p e R s m args below meth c Qe H1 locs la hF h1 h2 (by show n0 ≤ mN M + 1; omega) hn hR' hS' hL hE
  rw [List.map_cons, ad_of (M := M) h16] at hx
  have ea : mN (al M) = mN M + 1 := rfl
  rw [ea, hsl, show mN M + 1 - n0 = mN M - n0 + 1 by omega, show sl (mN M) + cW ci - sl n0 = sl (mN M) - sl n0 + cW ci by omega] at hx
  rw [hR.2.1]
  exact hx
theorem X_newa {v : Int32} {len : Nat} (hw : Cond.arrayClass .int ∈ WS) (hd : decode sg.2.1 pc = .ok (.newarray .int, 2)) (hv : v = nI len) (hk : kd (mN M) = (1, len)) (hlen : len < 100000) (hn : mN M + 1 ≤ nF) (h : X Z d sg n0 nF Q (pc + 2) lv (.ref (mN M) :: st) (al M)) : X Z d sg n0 nF Q pc lv (.int v :: st) M := by
  intro p e R s m args below meth c Qe H locs la hF h1 h2 h3 h4 hR hS hL hE
  have hts := hF.2.2.2.2.1
  have h16 := hR.2.2
  have hsl : sl (mN M + 1) = sl (mN M) + len := by rw [sl_succ h16, hk]
  have hmo := sl_mono hn
  have hmo2 := sl_mono h3
  have hcl : v.toNatClampNeg = len := by rw [hv]; exact nI_clamp (by omega)
  refine va_newaK (atype := .int) hF.1 hF.2.1 (hts _ hw) rfl hd rfl (by rw [hv]; exact nI_pos (by omega)) hcl (by show len * 4 ≤ _; omega) (by omega) (by omega) rfl fun H1 cA e1 z1 o1 hAr hNm => ?_
  have hcA : cA = zcI Z := by
    have := (hF.2.2.2.2.2.1.1.2 0 _ rfl).2
    change s.vm.findClass ("[" ++ (FieldType.int).toString) = some (zcI Z) at this
    exact Option.some.inj (hNm.symm.trans this)
  subst hcA
  have hkk : ∀ (k : Nat) (x : Nat × va_E), (wsZ Z M)[k]? = some x → H1[x.1]? = H[x.1]? := fun k x hx => o1 x.1 ((hR.1 k x hx).lt)
  have hmi : mI (al M) (mN M) = fun _ => 0 := by funext k; simp [mI, al, mN]
  have hP : va_P (zD Z) cls (wsZ Z M ++ [(zo Z + (mN M - 16), ce Z (al M) (mN M))]) H1 := by
    refine (hR.1.kept hkk).app (fun k x hx => ?_)
    have hz : k < 1 := (List.getElem?_eq_some_iff.mp hx).1
    rw [show k = 0 by omega] at hx
    cases hx
    rw [ce_arr (by rw [hk]), hk, hmi]
    rw [hR.2.1] at e1
    show H1[_]? = some (vp_cell _ _)
    rw [vp_cell_i]
    exact e1
  rw [wsZ_push h16 rfl (fun j hj => ce_al hj)] at hP
  have hR' : Rep Z (al M) H1 := ⟨hP, by rw [z1, hR.2.1]; show _ = zo Z + (mN M + 1 - 16); omega, by show 16 ≤ mN M + 1; omega⟩
  have hS' : va_S (Ar Z) s.heap H1 locs := ⟨Nat.le_trans hS.1 (by omega), fun x h1 h2 => (o1 x (Nat.lt_of_lt_of_le h1 hS.1)).trans (hS.2.1 x h1 h2), hS.2.2⟩
  have hx := h p e R s m args below meth c Qe H1 locs la hF h1 h2 (by show n0 ≤ mN M + 1; omega) hn hR' hS' hL hE
  rw [List.map_cons, ad_of (M := M) h16] at hx
  have ea : mN (al M) = mN M + 1 := rfl
  rw [ea, hsl, show mN M + 1 - n0 = mN M - n0 + 1 by omega, show sl (mN M) + len - sl n0 = sl (mN M) - sl n0 + len by omega] at hx
  rw [hR.2.1]
  exact hx
theorem X_anew {v : Int32} {len ix : Nat} (hw : Cond.classLink sg.1.cls ix RX2 ∈ WS) (hd : decode sg.2.1 pc = .ok (.anewarray ix, 3)) (hv : v = nI len) (hk : kd (mN M) = (2, len)) (hlen : len < 100000) (hn : mN M + 1 ≤ nF) (h : X Z d sg n0 nF Q (pc + 3) lv (.ref (mN M) :: st) (al M)) : X Z d sg n0 nF Q pc lv (.int v :: st) M := by
  intro p e R s m args below meth c Qe H locs la hF h1 h2 h3 h4 hR hS hL hE
  have hts := hF.2.2.2.2.1
  have h16 := hR.2.2
  have hsl : sl (mN M + 1) = sl (mN M) + len := by rw [sl_succ h16, hk]
  have hmo := sl_mono hn
  have hmo2 := sl_mono h3
  have hcl : v.toNatClampNeg = len := by rw [hv]; exact nI_clamp (by omega)
  refine W.anew hF.1 hF.2.1 hF.2.2.2.1 (hts _ hw) (va_AO.use hF.2.2.2.2.2.1.2.2.1) rfl hd rfl (by rw [hv]; exact nI_pos (by omega)) (by rw [hcl]; omega) (by omega) (by rw [hcl]; omega) fun cA kA comp f1 f2 f3 f4 => ?_
  rw [hcl]
  generalize hH1 : H.push ({ cls := cA, slots := Array.replicate len .null, vm := .none } : Cell) = H1
  have z1 : H1.size = H.size + 1 := by rw [← hH1, Array.size_push]
  have e1 : H1[H.size]? = some (arrV cA len (fun _ => .null)) := by rw [← hH1, Array.getElem?_push_size, ← arrV_new]
  have o1 : ∀ q : Nat, q < H.size → H1[q]? = H[q]? := fun q hq => by rw [← hH1, Array.getElem?_push, if_neg (Nat.ne_of_lt hq)]
  have hcA : cA = zcL Z := by
    obtain ⟨kA', comp', k1, k2, k3, k4⟩ := (hF.2.2.2.2.2.1.1.2 1 _ rfl).2
    exact Option.some.inj (f1.symm.trans k4)
  subst hcA
  have hkk : ∀ (k : Nat) (x : Nat × va_E), (wsZ Z M)[k]? = some x → H1[x.1]? = H[x.1]? := fun k x hx => o1 x.1 ((hR.1 k x hx).lt)
  have hP : va_P (zD Z) cls (wsZ Z M ++ [(zo Z + (mN M - 16), ce Z (al M) (mN M))]) H1 := by
    refine (hR.1.kept hkk).app (fun k x hx => ?_)
    have hz : k < 1 := (List.getElem?_eq_some_iff.mp hx).1
    rw [show k = 0 by omega] at hx
    cases hx
    rw [ce_led (by rw [hk]), hk]
    rw [hR.2.1] at e1
    show H1[_]? = some (vp_cell _ _)
    rw [vp_cell_q, e1]
    congr 2
    funext j
    have : mR (al M) (mN M) j = 0 := by simp [mR, al, mN]
    rw [this]
    rfl
  rw [wsZ_push h16 rfl (fun j hj => ce_al hj)] at hP
  have hR' : Rep Z (al M) H1 := ⟨hP, by rw [z1, hR.2.1]; show _ = zo Z + (mN M + 1 - 16); omega, by show 16 ≤ mN M + 1; omega⟩
  have hS' : va_S (Ar Z) s.heap H1 locs := ⟨Nat.le_trans hS.1 (by omega), fun x h1 h2 => (o1 x (Nat.lt_of_lt_of_le h1 hS.1)).trans (hS.2.1 x h1 h2), hS.2.2⟩
  have hx := h p e R s m args below meth c Qe H1 locs la hF h1 h2 (by show n0 ≤ mN M + 1; omega) hn hR' hS' hL hE
  rw [List.map_cons, ad_of (M := M) h16] at hx
  have ea : mN (al M) = mN M + 1 := rfl
  rw [ea, hsl, show mN M + 1 - n0 = mN M - n0 + 1 by omega, show sl (mN M) + len - sl n0 = sl (mN M) - sl n0 + len by omega] at hx
  rw [hR.2.1]
  exact hx
theorem X_alen {a : Nat} (hd : decode sg.2.1 pc = .ok (.arraylength, 1)) (h1 : a < mN M) (h2 : (kd a).1 = 1) (h : X Z d sg n0 nF Q (pc + 1) lv (.int (nI (kd a).2) :: st) M) : X Z d sg n0 nF Q pc lv (.ref a :: st) M := by
  intro p e R s m args below meth c Qe H locs la hF g1 g2 g3 g4 hR hS hL hE
  have kk := h p e R s m args below meth c Qe H locs la hF g1 g2 g3 g4 hR hS hL hE
  rw [List.map_cons, ad_of (M := M) (kd_lo (by omega))]
  exact va_alen hF.1 hF.2.1 hF.2.2.2.2.2.1.1 hR.1 (a - 16) 0 (arr_at h1 h2) rfl rfl hd kk
/-- the script -/
theorem X_slen (hd : decode sg.2.1 pc = .ok (.arraylength, 1)) (h : X Z d sg n0 nF Q (pc + 1) lv (.int (nI (zn Z)) :: st) M) : X Z d sg n0 nF Q pc lv (.ref 1 :: st) M := by
  intro p e R s m args below meth c Qe H locs la hF g1 g2 g3 g4 hR hS hL hE
  have kk := h p e R s m args below meth c Qe H locs la hF g1 g2 g3 g4 hR hS hL hE
  exact va_tlen hF.1 hF.2.1 hF.2.2.2.2.2.1.2.2.2.2.2.2.2 hS rfl hd kk
theorem X_sld {i : Int32} (hd : decode sg.2.1 pc = .ok (.iaload, 1)) (hin : vp_in i (zn Z)) (h : X Z d sg n0 nF Q (pc + 1) lv (.int (zx Z i.toNatClampNeg) :: st) M) : X Z d sg n0 nF Q pc lv (.int i :: .ref 1 :: st) M := by
  intro p e R s m args below meth c Qe H locs la hF g1 g2 g3 g4 hR hS hL hE
  have kk := h p e R s m args below meth c Qe H locs la hF g1 g2 g3 g4 hR hS hL hE
  exact va_ti hF.1 hF.2.1 hF.2.2.2.2.2.1.2.2.2.2.2.2.2 hS hin rfl hd kk
/-- the texts and their bytes -/
theorem ad_str (Z : Zt) {i : Nat} (hi : i < 4) : ad Z (i + 2) = .ref (zK Z i) := by
  have a : ¬ 16 ≤ i + 2 := by omega
  have b : ¬ i + 2 = 1 := by omega
  have c : 2 ≤ i + 2 ∧ i + 2 < 6 := by omega
  unfold ad rfo
  rw [if_neg a, if_neg b, if_pos c, show i + 2 - 2 = i by omega]
  rfl
theorem ad_byt (Z : Zt) {i : Nat} (hi : i < 4) : ad Z (i + 6) = .ref (zV Z i) := by
  have a : ¬ 16 ≤ i + 6 := by omega
  have b : ¬ i + 6 = 1 := by omega
  have c : ¬ (2 ≤ i + 6 ∧ i + 6 < 6) := by omega
  have c2 : 6 ≤ i + 6 ∧ i + 6 < 10 := by omega
  unfold ad rfo
  rw [if_neg a, if_neg b, if_neg c, if_pos c2, show i + 6 - 6 = i by omega]
  rfl
theorem X_strV {i ix : Nat} (hi : i < 4) (hw : Cond.fieldLink sg.1.cls ix "java/lang/String" "value" "[B" ∈ WS) (hd : decode sg.2.1 pc = .ok (.getfield ix, 3)) (h : X Z d sg n0 nF Q (pc + 3) lv (.ref (i + 6) :: st) M) : X Z d sg n0 nF Q pc lv (.ref (i + 2) :: st) M := by
  intro p e R s m args below meth c Qe H locs la hF g1 g2 g3 g4 hR hS hL hE
  have kk := h p e R s m args below meth c Qe H locs la hF g1 g2 g3 g4 hR hS hL hE
  rw [List.map_cons] at kk ⊢
  change W p (zl Z) e R s m args below meth c H locs _ _ Qe (F0 m _ la (ad Z (i + 6) :: _)) at kk
  change W p (zl Z) e R s m args below meth c H locs _ _ Qe (F0 m _ la (ad Z (i + 2) :: _))
  rw [ad_byt Z hi] at kk
  rw [ad_str Z hi]
  exact vk_getf hF.1 hF.2.1 (hF.2.2.2.2.2.1.2.2.2.2.1.1 i hi).2.2.1 hS hF.2.2.2.1 (hF.2.2.2.2.1 _ hw) (fun _ h => h) hd kk
theorem X_strC {i ix : Nat} (hi : i < 4) (hw : Cond.fieldLink sg.1.cls ix "java/lang/String" "coder" "B" ∈ WS) (hd : decode sg.2.1 pc = .ok (.getfield ix, 3)) (h : X Z d sg n0 nF Q (pc + 3) lv (.int 0 :: st) M) : X Z d sg n0 nF Q pc lv (.ref (i + 2) :: st) M := by
  intro p e R s m args below meth c Qe H locs la hF g1 g2 g3 g4 hR hS hL hE
  have kk := h p e R s m args below meth c Qe H locs la hF g1 g2 g3 g4 hR hS hL hE
  rw [List.map_cons]
  change W p (zl Z) e R s m args below meth c H locs _ _ Qe (F0 m _ la (ad Z (i + 2) :: _))
  rw [ad_str Z hi]
  exact vk_getf hF.1 hF.2.1 (hF.2.2.2.2.2.1.2.2.2.2.1.1 i hi).2.1 hS hF.2.2.2.1 (hF.2.2.2.2.1 _ hw) (fun _ h => h) hd kk
theorem X_blen {i : Nat} (hi : i < 4) (hd : decode sg.2.1 pc = .ok (.arraylength, 1)) (h : X Z d sg n0 nF Q (pc + 1) lv (.int (nI (lenL.getD i 0)) :: st) M) : X Z d sg n0 nF Q pc lv (.ref (i + 6) :: st) M := by
  intro p e R s m args below meth c Qe H locs la hF g1 g2 g3 g4 hR hS hL hE
  have kk := h p e R s m args below meth c Qe H locs la hF g1 g2 g3 g4 hR hS hL hE
  rw [List.map_cons]
  change W p (zl Z) e R s m args below meth c H locs _ _ Qe (F0 m _ la (ad Z (i + 6) :: _))
  rw [ad_byt Z hi]
  exact va_tlen hF.1 hF.2.1 (hF.2.2.2.2.2.1.2.2.2.2.1.1 i hi).2.2.2 hS rfl hd kk
theorem X_bld {i : Nat} {j : Int32} (hi : i < 4) (hj : vp_in j (lenL.getD i 0)) (hd : decode sg.2.1 pc = .ok (.baload, 1)) (h : X Z d sg n0 nF Q (pc + 1) lv (.int ((bytL.getD i []).getD j.toNatClampNeg 0) :: st) M) : X Z d sg n0 nF Q pc lv (.int j :: .ref (i + 6) :: st) M := by
  intro p e R s m args below meth c Qe H locs la hF g1 g2 g3 g4 hR hS hL hE
  have kk := h p e R s m args below meth c Qe H locs la hF g1 g2 g3 g4 hR hS hL hE
  rw [List.map_cons, List.map_cons]
  change W p (zl Z) e R s m args below meth c H locs _ _ Qe (F0 m _ la (.int j :: ad Z (i + 6) :: _))
  rw [ad_byt Z hi]
  exact va_tb hF.1 hF.2.1 (hF.2.2.2.2.2.1.2.2.2.2.1.1 i hi).2.2.2 hS hj rfl hd kk
theorem X_compact {ix : Nat} (hw : Cond.fieldLink sg.1.cls ix "java/lang/String" "COMPACT_STRINGS" "Z" ∈ WS) (hd : decode sg.2.1 pc = .ok (.getstatic ix, 3)) (h : X Z d sg n0 nF Q (pc + 3) lv (.int 1 :: st) M) : X Z d sg n0 nF Q pc lv st M := by
  intro p e R s m args below meth c Qe H locs la hF g1 g2 g3 g4 hR hS hL hE
  have kk := h p e R s m args below meth c Qe H locs la hF g1 g2 g3 g4 hR hS hL hE
  exact va_gets hF.1 hF.2.1 hF.2.2.2.2.2.1.2.2.2.2.2.1 hS hF.2.2.2.1 (hF.2.2.2.2.1 _ hw) (fun _ h => h) hd kk
theorem X_format {ix : Nat} (hw : Cond.fieldLink sg.1.cls ix "jdk/internal/util/Preconditions" "SIOOBE_FORMATTER" "Ljava/util/function/BiFunction;" ∈ WS) (hd : decode sg.2.1 pc = .ok (.getstatic ix, 3)) (h : X Z d sg n0 nF Q (pc + 3) lv (.ref 10 :: st) M) : X Z d sg n0 nF Q pc lv st M := by
  intro p e R s m args below meth c Qe H locs la hF g1 g2 g3 g4 hR hS hL hE
  have kk := h p e R s m args below meth c Qe H locs la hF g1 g2 g3 g4 hR hS hL hE
  exact va_gets (v := va_rf (zF Z)) hF.1 hF.2.1 hF.2.2.2.2.2.1.2.2.2.2.2.2.1 hS hF.2.2.2.1 (hF.2.2.2.2.1 _ hw) (fun _ h => h) hd kk
end XA
