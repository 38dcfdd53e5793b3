/-! ===== contracts: a method, its arguments, the memory before; at its end an answer and a memory in Q, nF cells made in all ===== -/
def wk (sg : Sig) : List Cond := Cond.code sg.1 sg.2.1 sg.2.2.1 sg.2.2.2 :: WS
def rmk (d mc ms : Nat) : Room := { frames := d, cells := mc, slots := ms, locals := 36 * d }
def Pm (Z : Zt) (av : List Value) (M : Mem) : Array Value → State → Prop := va_Pc (av.map (cv Z)) (fun U => Rep Z M U.heap ∧ GS Z U)
def Qm (Z : Zt) (nF : Nat) (Q : Option Value → Mem → Prop) : Array Value → State → Outcome → State → Prop := fun _ st o t => (∃ (r : Option Value) (M' : Mem), o = .returned (r.map (cv Z)) ∧ Q r M' ∧ mN M' = nF ∧ Rep Z M' t.heap) ∧ va_F (Ar Z) st t
def GmA (Z : Zt) (d : Nat) (sg : Sig) (av : List Value) (M : Mem) (nF : Nat) (Q : Option Value → Mem → Prop) : Prop := mN M ≤ nF ∧ Met (zl Z) sg.1 (wk sg) (rmk d (nF - mN M) (sl nF - sl (mN M))) (Pm Z av M) (Qm Z nF Q) (nF - mN M) (sl nF - sl (mN M)) (Ar Z)
def Gm (Z : Zt) (d : Nat) (sg : Sig) (av : List Value) (M : Mem) (Q : Option Value → Mem → Prop) : Prop := GmA Z d sg av M (mN M) Q
theorem Pm_blind (Z : Zt) (av : List Value) (M : Mem) : FrameBlind (Pm Z av M) := fun _ _ _ _ q => ⟨q.1, q.2.1, GS.calling q.2.2⟩
theorem Gm.cons {Z : Zt} {d : Nat} {sg : Sig} {av : List Value} {M : Mem} {nF : Nat} {Q Q' : Option Value → Mem → Prop} (h : GmA Z d sg av M nF Q) (hq : ∀ r M', Q r M' → Q' r M') : GmA Z d sg av M nF Q' := by
  refine ⟨h.1, fun p e ha hc hk s m args below hf happ hP hw => ?_⟩
  obtain ⟨k, o, h1, h2, h3, ⟨⟨r, M', a, b, c, d⟩, f⟩, g⟩ := h.2 p e ha hc hk s m args below hf happ hP hw
  exact ⟨k, o, h1, h2, h3, ⟨⟨r, M', a, hq r M' b, c, d⟩, f⟩, g⟩
theorem wk_good {sg : Sig} (h : Cond.code sg.1 sg.2.1 sg.2.2.1 sg.2.2.2 ∈ WS) : GoodIn WS (wk sg) := by
  intro w hw
  rcases List.mem_cons.mp hw with rfl | hw
  · exact ⟨h, good_of_word (WS_good _ h)⟩
  · exact ⟨hw, good_of_word (WS_good _ hw)⟩
def argL (l : List Value) : List (Option Value) := match l with
  | [] => []
  | v :: t => if v.category = 2 then some v :: none :: argL t else some v :: argL t
theorem argL_len (Z : Zt) : ∀ l : List Value, (lg_sl (l.map (cv Z))).length = (argL l).length
  | [] => rfl
  | v :: t => by
    have ih := argL_len Z t
    by_cases h : v.category = 2
    · have e : lg_sl (((v :: t).map (cv Z))) = [.val (cv Z v), .second] ++ lg_sl (t.map (cv Z)) := by simp [lg_sl, cv_cat, h]
      rw [e, argL, if_pos h]
      simp [ih]
    · have e : lg_sl (((v :: t).map (cv Z))) = [.val (cv Z v)] ++ lg_sl (t.map (cv Z)) := by simp [lg_sl, cv_cat, h]
      rw [e, argL, if_neg h]
      simp [ih]
theorem lget_none : ∀ (n i : Nat) (v : Value), ¬ lget (List.replicate n none) i = some v
  | 0, i, v => by simp [lget]
  | n + 1, 0, v => by simp [List.replicate_succ, lget]
  | n + 1, i + 1, v => by rw [List.replicate_succ]; simp only [lget]; exact lget_none n i v
theorem argL_mem (Z : Zt) (n : Nat) : ∀ (l : List Value) (k i : Nat) (v : Value), lget (argL l ++ List.replicate n none) i = some v → (k + i, cv Z v) ∈ lv_args k (l.map (cv Z))
  | [], k, i, v, h => by simp only [argL, List.nil_append] at h; exact absurd h (lget_none n i v)
  | w :: t, k, i, v, h => by
    by_cases hc : w.category = 2
    · rw [argL, if_pos hc] at h
      simp only [List.map_cons, lv_args, cv_cat, hc, if_true]
      match i, h with
      | 0, h => simp [lget] at h; subst h; exact List.mem_cons_self
      | 1, h => simp [lget] at h
      | i + 2, h =>
        simp only [List.cons_append, lget] at h
        refine List.mem_cons_of_mem _ ?_
        have := argL_mem Z n t (k + 2) i v h
        rw [show k + (i + 2) = k + 2 + i by omega]
        exact this
    · rw [argL, if_neg hc] at h
      simp only [List.map_cons, lv_args, cv_cat, hc, if_false]
      match i, h with
      | 0, h => simp [lget] at h; subst h; exact List.mem_cons_self
      | i + 1, h =>
        simp only [List.cons_append, lget] at h
        refine List.mem_cons_of_mem _ ?_
        have := argL_mem Z n t (k + 1) i v h
        rw [show k + (i + 1) = k + 1 + i by omega]
        exact this
/-- a method's entry -/
theorem Gm_of {Z : Zt} {d : Nat} {sg : Sig} {av : List Value} {M : Mem} {nF : Nat} {Q : Option Value → Mem → Prop} {lv : List (Option Value)} (hy : plainName sg.1.cls = true) (hl : lv = argL av ++ List.replicate (sg.2.2.1 - (argL av).length) none) (hn : (argL av).length ≤ sg.2.2.1) (hM : mN M ≤ nF) (hQ : ∀ r M', Q r M' → mN M' = nF)
    (h : X Z d sg (mN M) nF Q 0 lv [] M) : GmA Z d sg av M nF Q := by
  refine ⟨hM, ?_⟩
  refine Met.ofW (cc := sg.2.1) (maxL := sg.2.2.1) (ret := sg.2.2.2) hy rfl ?_
  intro p e s m args below meth c s₁ B hml hv
  obtain ⟨rfl, hR, hG⟩ := hv
  have hx := B.exec
  have hb := B.bytes
  have hr := B.returns
  have hts := atoms_spec (ws := wk sg) B.pre
  have hown : s.vm.findClass sg.1.cls = some m.cls := findClass_of_methodNamed B.named
  have hin : meth.name = sg.1.name := (name_of_methodNamed B.named B.method).1
  have hlocks := B.notSynchronized
  have hFC : FC Z d sg (headSpec (wk sg) (rmk d (nF - mN M) (sl nF - sl (mN M)))).room p s m ((av.map (cv Z)).toArray) meth c := ⟨hx, hb, hml, hown, fun w hw => hts w (List.mem_cons_of_mem _ hw), hG, Nat.le_refl _, Nat.le_refl _, hin⟩
  have he := lv_entry (av.map (cv Z)) (n := sg.2.2.1) (by rw [argL_len]; exact hn)
  rw [lg_entry_eq]
  generalize hla : (lg_sl (av.map (cv Z)) ++ List.replicate (sg.2.2.1 - (lg_sl (av.map (cv Z))).length) Slot.unset).toArray = la at he ⊢
  have hL : LH Z la sg.2.2.1 lv := by
    refine ⟨he.1, he.2.1, fun i v hi => ?_⟩
    rw [hl] at hi
    have := he.2.2 _ (argL_mem Z _ av 0 i v hi)
    simpa using this
  have key := h p e _ s m _ below meth c (MQ below (Qm Z nF Q) ((av.map (cv Z)).toArray) s (nF - mN M) (sl nF - sl (mN M)) (Ar Z)) s.heap [] la hFC (Nat.le_refl _) (Nat.le_refl _) (Nat.le_refl _) hM hR va_S.rf hL (fun r M' H' locs' la' pc' hq h1 h2 hR' hS' hr' => ?_)
  · rw [Nat.sub_self, Nat.sub_self] at key
    exact key
  · have hMn := hQ r M' hq
    subst hMn
    have hpost : ∀ t : State, t.heap = H' → Qm Z (mN M') Q ((av.map (cv Z)).toArray) s (.returned (r.map (cv Z))) t := fun t ht => ⟨⟨r, M', rfl, hq, rfl, by rw [ht]; exact hR'⟩, by rw [va_F, ht]; exact ⟨hS'.1, hS'.2.1⟩⟩
    cases r with
    | none => exact W.vret hx hb (by rw [hr]; exact hr'.2) (fun t ht _ => hpost t ht) hS'.2.2 hr'.1 hlocks
    | some v =>
      cases v with
      | int v => exact W.zret hx hb (by rw [hr]; exact hr'.2.choose_spec.1) hr'.2.choose_spec.2 (fun t ht _ => hpost t ht) hS'.2.2 hr'.1 hlocks
      | long v => exact W.lret hx hb (by rw [hr]; exact hr'.2) (fun t ht _ => hpost t ht) hS'.2.2 hr'.1 hlocks
      | ref i => exact W.aret hx hb (by rw [hr]; exact hr'.2.choose_spec.1) hr'.2.choose_spec.2 (ad_or Z i) (fun t ht _ => hpost t ht) hS'.2.2 hr'.1 hlocks
      | _ => exact hr'.elim
/-! ===== calls ===== -/
def wsum (l : List Value) : Nat := (l.map fun v => v.category).sum
theorem wsum_cv (Z : Zt) (l : List Value) : ((l.map (cv Z)).map fun v => v.category).sum = wsum l := by
  unfold wsum
  rw [List.map_map]
  congr 1
  apply List.map_congr_left
  intro v _
  exact cv_cat Z v
section XC
variable {Z : Zt} {d : Nat} {sg : Sig} {n0 nF : Nat} {Q : Option Value → Mem → Prop} {pc : Nat} {lv : List (Option Value)} {st : List Value} {M : Mem}
/-- from a callee's run to the caller's next instruction -/
theorem W_call {p : Program} {e : Env} {R : Room} {s : State} {m : MethodId} {args : Array Value} {below : List Frame} {meth : Method} {c : Code} {Qe : State → Prop} {H : Heap} {locs : List Loc} {la : Array Slot} {mc ms k n : Nat} {st0 rest : List Value} {Qc : Option Value → Mem → Prop} {a : Array Value} (hr : va_Run p (zl Z) e R s m args below meth c H locs k n mc ms (F0 m pc la st0) rest (Qm Z nF Qc a) (Ar Z)) (hS : va_S (Ar Z) s.heap H locs)
    (kk : ∀ (r : Option Value) (M' : Mem) (H1 : Heap) (locs1 : List Loc), Qc r M' → mN M' = nF → Rep Z M' H1 → va_S (Ar Z) s.heap H1 locs1 → W p (zl Z) e R s m args below meth c H1 locs1 (k + mc) (n + ms) Qe (F0 m (pc + 3) la ((r.map (cv Z)).toList ++ rest))) : W p (zl Z) e R s m args below meth c H locs k n Qe (F0 m pc la st0) := by
  intro T hT X
  obtain ⟨v, st₀, t, T', L, h0, X', hL, e1, e2, ⟨⟨r, M', hv, hq, hn, hR⟩, hz, hk⟩, st⟩ := hr T hT X
  cases hv
  rw [h0] at hz hk
  obtain ⟨t2, a1, b1⟩ := kk r M' T'.heap (locs ++ L) hq hn (by rw [e1]; exact hR) ⟨Nat.le_trans hS.1 (by rw [e1]; exact hz), fun q h1 h2 => by rw [e1, hk q (Nat.lt_of_lt_of_le h1 hS.1) h2]; exact hS.2.1 q h1 h2, fun q hq => by
      rcases List.mem_append.mp hq with h | h
      · exact hS.2.2 q h
      · exact hL q h⟩ T' rfl X'
  exact ⟨t2, st t2 a1, b1⟩
theorem X_fin {p : Program} {e : Env} {R : Room} {s : State} {m : MethodId} {args : Array Value} {below : List Frame} {meth : Method} {c : Code} {Qe : State → Prop} {H1 : Heap} {locs1 : List Loc} {la : Array Slot} {rest : List Value} {r : Option Value} {M' : Mem} {pc' n1 : Nat}
    (hF : FC Z d sg R p s m args meth c) (h1 : nF - n0 ≤ R.cells) (h2 : sl nF - sl n0 ≤ R.slots) (h3 : n0 ≤ mN M) (h5 : mN M ≤ n1) (h4 : n1 ≤ nF) (hn : mN M' = n1) (hR' : Rep Z M' H1) (hS' : va_S (Ar Z) s.heap H1 locs1) (hL : LH Z la sg.2.2.1 lv)
    (hE : ∀ (r : Option Value) (M' : Mem) (H' : Heap) (locs' : List Loc) (la' : Array Slot) (pc' : Nat), Q r M' → n0 ≤ mN M' → mN M' ≤ nF → Rep Z M' H' → va_S (Ar Z) s.heap H' locs' → rOK sg pc' r → W p (zl Z) e R s m args below meth c H' locs' (mN M' - n0) (sl (mN M') - sl n0) Qe (F0 m pc' la' (r.map (cv Z)).toList))
    (hx : X Z d sg n0 nF Q pc' lv (r.toList ++ rest) M') : W p (zl Z) e R s m args below meth c H1 locs1 (mN M - n0 + (n1 - mN M)) (sl (mN M) - sl n0 + (sl n1 - sl (mN M))) Qe (F0 m pc' la ((r.map (cv Z)).toList ++ rest.map (cv Z))) := by
  subst hn
  have hmo := sl_mono h3
  have hmo2 := sl_mono h5
  have := hx p e R s m args below meth c Qe H1 locs1 la hF h1 h2 (by omega) h4 hR' hS' hL hE
  rw [show mN M - n0 + (mN M' - mN M) = mN M' - n0 by omega, show sl (mN M) - sl n0 + (sl (mN M') - sl (mN M)) = sl (mN M') - sl n0 by omega]
  rw [List.map_append] at this
  cases r <;> exact this
theorem Pm_pre {s : State} {H : Heap} {locs : List Loc} {av : List Value} (hR : Rep Z M H) (hG : GS Z s) (hS : va_S (Ar Z) s.heap H locs) : ∀ U : State, U.heap = H → s.WarmedH U.vm → Pm Z av M (av.map (cv Z)).toArray U := fun _ hU hW => ⟨rfl, by rw [hU]; exact hR, hG.step hS hU hW⟩
/-- an instance method of the receiver's own class -/
theorem X_callV {sg2 : Sig} {ci b n1 ix n : Nat} {av rest : List Value} {Qc : Option Value → Mem → Prop} (hci : ci < 5) (hcl : sg2.1.cls = cnm ci) (hmaxL : sg2.2.2.1 ≤ 17) (hpn : sg2.1.cls ≠ "java/lang/invoke/MethodHandle" ∧ sg2.1.cls ≠ "java/lang/invoke/VarHandle") (hnp : (parseMethodDescriptor sg2.1.desc).map (fun d => d.parameters.length) = some n) (hn : av.length = n)
    (hw1 : Cond.methodLink sg.1.cls ix sg2.1 ∈ WS) (hw2 : Cond.instanceMethod sg2.1 ∈ WS) (hw3 : Cond.selects sg2.1.cls sg2.1 sg2.1 ∈ WS) (hw4 : Cond.initialized sg2.1.cls ∈ WS) (hw5 : Cond.code sg2.1 sg2.2.1 sg2.2.2.1 sg2.2.2.2 ∈ WS) (hd : decode sg.2.1 pc = .ok (.invokevirtual ix, 3)) (hst : wsum rest ≤ 8) (ho : isO M b ci) (hG : GmA Z d sg2 (.ref b :: av) M n1 Qc) (h1n : n1 ≤ nF)
    (h : ∀ r M', Qc r M' → mN M' = n1 → X Z (d + 1) sg n0 nF Q (pc + 3) lv (r.toList ++ rest) M') : X Z (d + 1) sg n0 nF Q pc lv (av.reverse ++ .ref b :: rest) M := by
  intro p e R s m args below meth c Qe H locs la hF h1 h2 h3 h4 hR hS hL hE
  have hts := hF.2.2.2.2.1
  have hfr := hF.2.2.2.2.2.2.1
  have hlo := hF.2.2.2.2.2.2.2.1
  have hmo := sl_mono h1n
  have hmo2 := sl_mono h3
  have hmo3 := sl_mono hG.1
  have hrecv : ∃ cell : Cell, H[zo Z + (b - 16)]? = some cell ∧ cell.vm.isStatics = false ∧ s.vm.findClass sg2.1.cls = some cell.cls := by
    rw [hcl]
    exact va_recv (q := (cnm ci, cT ci, cW ci)) hF.2.2.2.2.2.1.1 hR.1 (clsGet ci hci) (isO_at ho)
  rw [show (av.reverse ++ Value.ref b :: rest).map (cv Z) = (av.map (cv Z)).reverse ++ .ref (zo Z + (b - 16)) :: rest.map (cv Z) by rw [List.map_append, List.map_cons, List.map_reverse, ad_of (M := M) ho.lo]]
  refine W_call (rest := rest.map (cv Z)) (a := (Value.ref (zo Z + (b - 16)) :: av.map (cv Z)).toArray) (va_runV (As := av.map (cv Z)) (C := sg2.1.cls) ⟨hF.1, hF.2.1, hF.2.2.1, hF.2.2.2.1, hts⟩ hG.2 ⟨callB_of n hts (wk_good hw5) rfl rfl rfl (hts _ hw4) (hts _ hw1) ⟨hpn.1, hpn.2, hnp⟩ ⟨by show d + 1 ≤ _; omega, by show 8 + (_ + 11) + 36 * d ≤ _; omega⟩, hts _ hw2, hts _ hw3⟩ ⟨Pm_blind _ _ _, hrecv, ?_⟩ rfl (by simpa using hn) (hL.1.trans rfl) rfl ?_ hd ⟨by omega, by omega⟩) hS (fun r M' H1 locs1 hq hn' hR' hS' => X_fin hF h1 h2 h3 hG.1 h1n hn' hR' hS' hL hE (h r M' hq hn'))
  · have := Pm_pre (av := .ref b :: av) hR hF.2.2.2.2.2.1 hS
    rw [List.map_cons, ad_of (M := M) ho.lo] at this
    exact this
  · exact lv_room (by rw [wsum_cv]; exact hst)
/-- an instance method of a text -/
theorem X_callT {sg2 : Sig} {i n1 ix n : Nat} {av rest : List Value} {Qc : Option Value → Mem → Prop} (hi : i < 4) (hcl : sg2.1.cls = "java/lang/String") (hmaxL : sg2.2.2.1 ≤ 17) (hnp : (parseMethodDescriptor sg2.1.desc).map (fun d => d.parameters.length) = some n) (hn : av.length = n)
    (hw1 : Cond.methodLink sg.1.cls ix sg2.1 ∈ WS) (hw2 : Cond.instanceMethod sg2.1 ∈ WS) (hw3 : Cond.selects sg2.1.cls sg2.1 sg2.1 ∈ WS) (hw4 : Cond.initialized sg2.1.cls ∈ WS) (hw5 : Cond.code sg2.1 sg2.2.1 sg2.2.2.1 sg2.2.2.2 ∈ WS) (hd : decode sg.2.1 pc = .ok (.invokevirtual ix, 3)) (hst : wsum rest ≤ 8) (hG : GmA Z d sg2 (.ref (i + 2) :: av) M n1 Qc) (h1n : n1 ≤ nF)
    (h : ∀ r M', Qc r M' → mN M' = n1 → X Z (d + 1) sg n0 nF Q (pc + 3) lv (r.toList ++ rest) M') : X Z (d + 1) sg n0 nF Q pc lv (av.reverse ++ .ref (i + 2) :: rest) M := by
  intro p e R s m args below meth c Qe H locs la hF h1 h2 h3 h4 hR hS hL hE
  have hts := hF.2.2.2.2.1
  have hfr := hF.2.2.2.2.2.2.1
  have hlo := hF.2.2.2.2.2.2.2.1
  have hmo := sl_mono h1n
  have hmo2 := sl_mono h3
  have hmo3 := sl_mono hG.1
  have hrecv : ∃ cell : Cell, H[zK Z i]? = some cell ∧ cell.vm.isStatics = false ∧ s.vm.findClass sg2.1.cls = some cell.cls := by
    rw [hcl]
    exact vk_recv hF.2.2.2.2.2.1.2.2.2.2.1 hi hS
  have hcv : cv Z (.ref (i + 2)) = .ref (zK Z i) := ad_str Z hi
  rw [show (av.reverse ++ Value.ref (i + 2) :: rest).map (cv Z) = (av.map (cv Z)).reverse ++ .ref (zK Z i) :: rest.map (cv Z) by rw [List.map_append, List.map_cons, List.map_reverse, hcv]]
  refine W_call (rest := rest.map (cv Z)) (a := (Value.ref (zK Z i) :: av.map (cv Z)).toArray) (va_runV (As := av.map (cv Z)) (C := sg2.1.cls) ⟨hF.1, hF.2.1, hF.2.2.1, hF.2.2.2.1, hts⟩ hG.2 ⟨callB_of n hts (wk_good hw5) rfl rfl rfl (hts _ hw4) (hts _ hw1) ⟨by rw [hcl]; decide, by rw [hcl]; decide, hnp⟩ ⟨by show d + 1 ≤ _; omega, by show 8 + (_ + 11) + 36 * d ≤ _; omega⟩, hts _ hw2, hts _ hw3⟩ ⟨Pm_blind _ _ _, hrecv, ?_⟩ rfl (by simpa using hn) (hL.1.trans rfl) rfl ?_ hd ⟨by omega, by omega⟩) hS (fun r M' H1 locs1 hq hn' hR' hS' => X_fin hF h1 h2 h3 hG.1 h1n hn' hR' hS' hL hE (h r M' hq hn'))
  · have := Pm_pre (av := .ref (i + 2) :: av) hR hF.2.2.2.2.2.1 hS
    rw [List.map_cons, hcv] at this
    exact this
  · exact lv_room (by rw [wsum_cv]; exact hst)
/-- a static method -/
theorem X_callS {sg2 : Sig} {n1 ix n : Nat} {av rest : List Value} {Qc : Option Value → Mem → Prop} (hmaxL : sg2.2.2.1 ≤ 17) (hpn : sg2.1.cls ≠ "java/lang/invoke/MethodHandle" ∧ sg2.1.cls ≠ "java/lang/invoke/VarHandle") (hnp : (parseMethodDescriptor sg2.1.desc).map (fun d => d.parameters.length) = some n) (hn : av.length = n)
    (hw1 : Cond.methodLink sg.1.cls ix sg2.1 ∈ WS) (hw2 : Cond.static sg2.1 ∈ WS) (hw4 : Cond.initialized sg2.1.cls ∈ WS) (hw5 : Cond.code sg2.1 sg2.2.1 sg2.2.2.1 sg2.2.2.2 ∈ WS) (hd : decode sg.2.1 pc = .ok (.invokestatic ix, 3)) (hst : wsum rest ≤ 8) (hG : GmA Z d sg2 av M n1 Qc) (h1n : n1 ≤ nF)
    (h : ∀ r M', Qc r M' → mN M' = n1 → X Z (d + 1) sg n0 nF Q (pc + 3) lv (r.toList ++ rest) M') : X Z (d + 1) sg n0 nF Q pc lv (av.reverse ++ rest) M := by
  intro p e R s m args below meth c Qe H locs la hF h1 h2 h3 h4 hR hS hL hE
  have hts := hF.2.2.2.2.1
  have hfr := hF.2.2.2.2.2.2.1
  have hlo := hF.2.2.2.2.2.2.2.1
  have hmo := sl_mono h1n
  have hmo2 := sl_mono h3
  have hmo3 := sl_mono hG.1
  rw [show (av.reverse ++ rest).map (cv Z) = (av.map (cv Z)).reverse ++ rest.map (cv Z) by rw [List.map_append, List.map_reverse]]
  exact W_call (rest := rest.map (cv Z)) (a := (av.map (cv Z)).toArray) (va_runS (As := av.map (cv Z)) ⟨hF.1, hF.2.1, hF.2.2.1, hF.2.2.2.1, hts⟩ hG.2 ⟨callB_of n hts (wk_good hw5) rfl rfl rfl (hts _ hw4) (hts _ hw1) ⟨hpn.1, hpn.2, hnp⟩ ⟨by show d + 1 ≤ _; omega, by show 8 + (_ + 11) + 36 * d ≤ _; omega⟩, hts _ hw2⟩ ⟨Pm_blind _ _ _, Pm_pre hR hF.2.2.2.2.2.1 hS⟩ rfl (by simpa using hn) (hL.1.trans rfl) rfl (lv_room (by rw [wsum_cv]; exact hst)) hd ⟨by omega, by omega⟩) hS (fun r M' H1 locs1 hq hn' hR' hS' => X_fin hF h1 h2 h3 hG.1 h1n hn' hR' hS' hL hE (h r M' hq hn'))
/-- a private static method of a nest mate -/
theorem X_callSN {sg2 : Sig} {n1 ix n : Nat} {host : String} {av rest : List Value} {Qc : Option Value → Mem → Prop} (hmaxL : sg2.2.2.1 ≤ 17) (hpn : sg2.1.cls ≠ "java/lang/invoke/MethodHandle" ∧ sg2.1.cls ≠ "java/lang/invoke/VarHandle") (hnp : (parseMethodDescriptor sg2.1.desc).map (fun d => d.parameters.length) = some n) (hn : av.length = n)
    (hw1 : (sg.1.cls, ix, sg2.1, host) ∈ nestL) (hw2 : Cond.static sg2.1 ∈ WS) (hw4 : Cond.initialized sg2.1.cls ∈ WS) (hw5 : Cond.code sg2.1 sg2.2.1 sg2.2.2.1 sg2.2.2.2 ∈ WS) (hd : decode sg.2.1 pc = .ok (.invokestatic ix, 3)) (hst : wsum rest ≤ 8) (hG : GmA Z d sg2 av M n1 Qc) (h1n : n1 ≤ nF)
    (h : ∀ r M', Qc r M' → mN M' = n1 → X Z (d + 1) sg n0 nF Q (pc + 3) lv (r.toList ++ rest) M') : X Z (d + 1) sg n0 nF Q pc lv (av.reverse ++ rest) M := by
  intro p e R s m args below meth c Qe H locs la hF h1 h2 h3 h4 hR hS hL hE
  have hts := hF.2.2.2.2.1
  have hfr := hF.2.2.2.2.2.2.1
  have hlo := hF.2.2.2.2.2.2.2.1
  have hmo := sl_mono h1n
  have hmo2 := sl_mono h3
  have hmo3 := sl_mono hG.1
  rw [show (av.reverse ++ rest).map (cv Z) = (av.map (cv Z)).reverse ++ rest.map (cv Z) by rw [List.map_append, List.map_reverse]]
  exact W_call (rest := rest.map (cv Z)) (a := (av.map (cv Z)).toArray) (va_runSN (As := av.map (cv Z)) ⟨hF.1, hF.2.1, hF.2.2.1, hF.2.2.2.1, hts⟩ hG.2 ⟨va_cnB n hts (wk_good hw5) rfl rfl rfl (hF.2.2.2.2.2.1.2.1 _ hw1) (hts _ hw4) ⟨hpn.1, hpn.2, hnp⟩ ⟨by show d + 1 ≤ _; omega, by show 8 + (_ + 11) + 36 * d ≤ _; omega⟩, hts _ hw2, trivial⟩ ⟨Pm_blind _ _ _, Pm_pre hR hF.2.2.2.2.2.1 hS⟩ rfl (by simpa using hn) (hL.1.trans rfl) rfl (lv_room (by rw [wsum_cv]; exact hst)) hd ⟨by omega, by omega⟩) hS (fun r M' H1 locs1 hq hn' hR' hS' => X_fin hF h1 h2 h3 hG.1 h1n hn' hR' hS' hL hE (h r M' hq hn'))
/-- a constructor -/
theorem X_callI {sg2 : Sig} {b n1 ix n : Nat} {av rest : List Value} {Qc : Option Value → Mem → Prop} (hb16 : 16 ≤ b) (hnm : sg2.1.name = "<init>") (hrt : sg2.2.2.2 = none) (hmaxL : sg2.2.2.1 ≤ 17) (hpn : sg2.1.cls ≠ "java/lang/invoke/MethodHandle" ∧ sg2.1.cls ≠ "java/lang/invoke/VarHandle") (hnp : (parseMethodDescriptor sg2.1.desc).map (fun d => d.parameters.length) = some n) (hn : av.length = n)
    (hw1 : Cond.methodLink sg.1.cls ix sg2.1 ∈ WS) (hw2 : Cond.instanceMethod sg2.1 ∈ WS) (hw4 : Cond.initialized sg2.1.cls ∈ WS) (hw5 : Cond.code sg2.1 sg2.2.1 sg2.2.2.1 sg2.2.2.2 ∈ WS) (hd : decode sg.2.1 pc = .ok (.invokespecial ix, 3)) (hst : wsum rest ≤ 8) (hG : GmA Z d sg2 (.ref b :: av) M n1 Qc) (h1n : n1 ≤ nF)
    (h : ∀ r M', Qc r M' → mN M' = n1 → X Z (d + 1) sg n0 nF Q (pc + 3) lv (r.toList ++ rest) M') : X Z (d + 1) sg n0 nF Q pc lv (av.reverse ++ .ref b :: rest) M := by
  intro p e R s m args below meth c Qe H locs la hF h1 h2 h3 h4 hR hS hL hE
  have hts := hF.2.2.2.2.1
  have hfr := hF.2.2.2.2.2.2.1
  have hlo := hF.2.2.2.2.2.2.2.1
  have hmo := sl_mono h1n
  have hmo2 := sl_mono h3
  have hmo3 := sl_mono hG.1
  have hcv : cv Z (.ref b) = .ref (zo Z + (b - 16)) := ad_cell hb16
  rw [show (av.reverse ++ Value.ref b :: rest).map (cv Z) = (av.map (cv Z)).reverse ++ .ref (zo Z + (b - 16)) :: rest.map (cv Z) by rw [List.map_append, List.map_cons, List.map_reverse, hcv]]
  obtain ⟨y2, b2, l2, r2⟩ := sg2
  cases hrt
  refine W_call (rest := rest.map (cv Z)) (a := (Value.ref (zo Z + (b - 16)) :: av.map (cv Z)).toArray) (va_runI (As := av.map (cv Z)) ⟨hF.1, hF.2.1, hF.2.2.1, hF.2.2.2.1, hts⟩ hG.2 ⟨callB_of n hts (wk_good hw5) rfl rfl rfl (hts _ hw4) (hts _ hw1) ⟨hpn.1, hpn.2, hnp⟩ ⟨by show d + 1 ≤ _; omega, by show 8 + (_ + 11) + 36 * d ≤ _; omega⟩, hnm, hts _ hw2⟩ ⟨Pm_blind _ _ _, ?_⟩ rfl (by simpa using hn) (hL.1.trans rfl) rfl ?_ hd ⟨by omega, by omega⟩) hS (fun r M' H1 locs1 hq hn' hR' hS' => X_fin hF h1 h2 h3 hG.1 h1n hn' hR' hS' hL hE (h r M' hq hn'))
  · have := Pm_pre (av := .ref b :: av) hR hF.2.2.2.2.2.1 hS
    rw [List.map_cons, hcv] at this
    exact this
  · exact lv_room (by rw [wsum_cv]; exact hst)
/-- a private constructor of a nest mate -/
theorem X_callIN {sg2 : Sig} {b n1 ix n : Nat} {host : String} {av rest : List Value} {Qc : Option Value → Mem → Prop} (hb16 : 16 ≤ b) (hnm : sg2.1.name = "<init>") (hrt : sg2.2.2.2 = none) (hmaxL : sg2.2.2.1 ≤ 17) (hpn : sg2.1.cls ≠ "java/lang/invoke/MethodHandle" ∧ sg2.1.cls ≠ "java/lang/invoke/VarHandle") (hnp : (parseMethodDescriptor sg2.1.desc).map (fun d => d.parameters.length) = some n) (hn : av.length = n)
    (hw1 : (sg.1.cls, ix, sg2.1, host) ∈ nestL) (hw2 : Cond.instanceMethod sg2.1 ∈ WS) (hw4 : Cond.initialized sg2.1.cls ∈ WS) (hw5 : Cond.code sg2.1 sg2.2.1 sg2.2.2.1 sg2.2.2.2 ∈ WS) (hd : decode sg.2.1 pc = .ok (.invokespecial ix, 3)) (hst : wsum rest ≤ 8) (hG : GmA Z d sg2 (.ref b :: av) M n1 Qc) (h1n : n1 ≤ nF)
    (h : ∀ r M', Qc r M' → mN M' = n1 → X Z (d + 1) sg n0 nF Q (pc + 3) lv (r.toList ++ rest) M') : X Z (d + 1) sg n0 nF Q pc lv (av.reverse ++ .ref b :: rest) M := by
  intro p e R s m args below meth c Qe H locs la hF h1 h2 h3 h4 hR hS hL hE
  have hts := hF.2.2.2.2.1
  have hfr := hF.2.2.2.2.2.2.1
  have hlo := hF.2.2.2.2.2.2.2.1
  have hmo := sl_mono h1n
  have hmo2 := sl_mono h3
  have hmo3 := sl_mono hG.1
  have hcv : cv Z (.ref b) = .ref (zo Z + (b - 16)) := ad_cell hb16
  rw [show (av.reverse ++ Value.ref b :: rest).map (cv Z) = (av.map (cv Z)).reverse ++ .ref (zo Z + (b - 16)) :: rest.map (cv Z) by rw [List.map_append, List.map_cons, List.map_reverse, hcv]]
  obtain ⟨y2, b2, l2, r2⟩ := sg2
  cases hrt
  refine W_call (rest := rest.map (cv Z)) (a := (Value.ref (zo Z + (b - 16)) :: av.map (cv Z)).toArray) (va_runIN (As := av.map (cv Z)) ⟨hF.1, hF.2.1, hF.2.2.1, hF.2.2.2.1, hts⟩ hG.2 ⟨va_cnB n hts (wk_good hw5) rfl rfl rfl (hF.2.2.2.2.2.1.2.1 _ hw1) (hts _ hw4) ⟨hpn.1, hpn.2, hnp⟩ ⟨by show d + 1 ≤ _; omega, by show 8 + (_ + 11) + 36 * d ≤ _; omega⟩, hnm, hts _ hw2⟩ ⟨Pm_blind _ _ _, ?_⟩ rfl (by simpa using hn) (hL.1.trans rfl) rfl ?_ hd ⟨by omega, by omega⟩) hS (fun r M' H1 locs1 hq hn' hR' hS' => X_fin hF h1 h2 h3 hG.1 h1n hn' hR' hS' hL hE (h r M' hq hn'))
  · have := Pm_pre (av := .ref b :: av) hR hF.2.2.2.2.2.1 hS
    rw [List.map_cons, hcv] at this
    exact this
  · exact lv_room (by rw [wsum_cv]; exact hst)
/-- Math.max, Math.min, System.arraycopy, Object's constructor -/
theorem X_max {ix : Nat} {x y : Int32} (hw : Cond.methodLink sg.1.cls ix Lib.Math.max.name ∈ WS) (hw2 : Cond.static Lib.Math.max.name ∈ WS) (hw3 : Cond.initialized "java/lang/Math" ∈ WS) (hw4 : Cond.code Lib.Math.max.name Lib.Math.max.code 2 (some .int) ∈ WS) (hd : decode sg.2.1 pc = .ok (.invokestatic ix, 3)) (hst : wsum st ≤ 8) (h : X Z (d + 1) sg n0 nF Q (pc + 3) lv (.int (if x < y then y else x) :: st) M) : X Z (d + 1) sg n0 nF Q pc lv (.int y :: .int x :: st) M := by
  intro p e R s m args below meth c Qe H locs la hF h1 h2 h3 h4 hR hS hL hE
  have hts := hF.2.2.2.2.1
  have hfr := hF.2.2.2.2.2.2.1
  have hlo := hF.2.2.2.2.2.2.2.1
  have hmo := sl_mono h4
  have hsum := wsum_cv Z st
  exact va_mmax hF.1 hF.2.1 (hF.2.2.1.trans hL.1.symm) hF.2.2.2.1 (hts _ hw) (hts _ hw2) (hts _ hw3) (hts _ hw4) (by omega) (by omega) (by omega) (by omega) hd (h p e R s m args below meth c Qe H locs la hF h1 h2 h3 h4 hR hS hL hE)
theorem X_min {ix : Nat} {x y : Int32} (hw : Cond.methodLink sg.1.cls ix Lib.Math.min.name ∈ WS) (hw2 : Cond.static Lib.Math.min.name ∈ WS) (hw3 : Cond.initialized "java/lang/Math" ∈ WS) (hw4 : Cond.code Lib.Math.min.name Lib.Math.min.code 2 (some .int) ∈ WS) (hd : decode sg.2.1 pc = .ok (.invokestatic ix, 3)) (hst : wsum st ≤ 8) (h : X Z (d + 1) sg n0 nF Q (pc + 3) lv (.int (if y < x then y else x) :: st) M) : X Z (d + 1) sg n0 nF Q pc lv (.int y :: .int x :: st) M := by
  intro p e R s m args below meth c Qe H locs la hF h1 h2 h3 h4 hR hS hL hE
  have hts := hF.2.2.2.2.1
  have hfr := hF.2.2.2.2.2.2.1
  have hlo := hF.2.2.2.2.2.2.2.1
  have hmo := sl_mono h4
  have hsum := wsum_cv Z st
  exact va_mmin hF.1 hF.2.1 (hF.2.2.1.trans hL.1.symm) hF.2.2.2.1 (hts _ hw) (hts _ hw2) (hts _ hw3) (hts _ hw4) (by omega) (by omega) (by omega) (by omega) hd (h p e R s m args below meth c Qe H locs la hF h1 h2 h3 h4 hR hS hL hE)
theorem X_objI {ix a : Nat} (h16 : 16 ≤ a) (hw : Cond.methodLink sg.1.cls ix Lib.objectInit ∈ WS) (hw2 : Cond.instanceMethod Lib.objectInit ∈ WS) (hw4 : Cond.code Lib.objectInit ⟨#[0xb1]⟩ 1 none ∈ WS) (hd : decode sg.2.1 pc = .ok (.invokespecial ix, 3)) (hst : wsum st ≤ 8) (h : X Z (d + 1) sg n0 nF Q (pc + 3) lv st M) : X Z (d + 1) sg n0 nF Q pc lv (.ref a :: st) M := by
  intro p e R s m args below meth c Qe H locs la hF h1 h2 h3 h4 hR hS hL hE
  have hts := hF.2.2.2.2.1
  have hfr := hF.2.2.2.2.2.2.1
  have hlo := hF.2.2.2.2.2.2.2.1
  have hsum := wsum_cv Z st
  rw [List.map_cons, ad_of (M := M) h16]
  exact W.objInit hF.1 hF.2.1 hF.2.2.2.1 (hts _ hw) (hts _ hw2) (hts _ hw4) rfl (hL.1.trans hF.2.2.1.symm) rfl hd (by omega) (by show 2 * 0 + _ + 12 ≤ _; omega) (h p e R s m args below meth c Qe H locs la hF h1 h2 h3 h4 hR hS hL hE)
/-- copying n ints from place sp of a to place dp of b -/
def cpI (M : Mem) (a sp b dp n : Nat) : Mem := (M.1, fun x y => if x = b ∧ dp ≤ y ∧ y < dp + n then M.2.1 a (sp + (y - dp)) else M.2.1 x y, M.2.2.1, M.2.2.2)
theorem ce_cpI {M : Mem} {a sp b dp n j : Nat} (h : j ≠ b) : ce Z (cpI M a sp b dp n) j = ce Z M j := by
  have e2 : mI (cpI M a sp b dp n) j = mI M j := by funext y; simp [mI, cpI, h]
  have e3 : fv Z (cpI M a sp b dp n) j = fv Z M j := by
    funext ci y
    unfold fv
    rw [e2]
    rfl
  unfold ce
  rw [e2, e3]
  rfl
theorem X_copy {ix a b sp dp n : Nat} (hw : Cond.methodLink sg.1.cls ix arraycopyName ∈ WS) (hw2 : Cond.native arraycopyName ∈ WS) (hw3 : Cond.static arraycopyName ∈ WS) (hw4 : Cond.initialized "java/lang/System" ∈ WS) (hd : decode sg.2.1 pc = .ok (.invokestatic ix, 3)) (hst : wsum st ≤ 8) (ha : a < mN M) (ha2 : (kd a).1 = 1) (hb : b < mN M) (hb2 : (kd b).1 = 1) (h4 : sp + n ≤ (kd a).2) (h5 : dp + n ≤ (kd b).2) (hsm : sp < 2 ^ 31) (hdm : dp < 2 ^ 31) (hnm : n < 2 ^ 31) (h : X Z (d + 1) sg n0 nF Q (pc + 3) lv st (cpI M a sp b dp n)) : X Z (d + 1) sg n0 nF Q pc lv (.int (nI n) :: .int (nI dp) :: .ref b :: .int (nI sp) :: .ref a :: st) M := by
  intro p e R s m args below meth c Qe H locs la hF g1 g2 g3 g4 hR hS hL hE
  have hts := hF.2.2.2.2.1
  have hfr := hF.2.2.2.2.2.2.1
  have hlo := hF.2.2.2.2.2.2.2.1
  have hK := hF.2.2.2.2.2.1.1
  have hsum := wsum_cv Z st
  have a16 : 16 ≤ a := kd_lo (by omega)
  have hnw : nativeFrameWords "java/lang/System" "arraycopy" 5 ≤ 17 := by decide
  have b16 : 16 ≤ b := kd_lo (by omega)
  have nn : ∀ k : Nat, k < 2 ^ 31 → (nI k).toInt = (k : Int) := fun k hk => nI_toInt hk
  rw [List.map_cons, List.map_cons, List.map_cons, List.map_cons, List.map_cons, ad_of (M := M) a16, ad_of (M := M) b16]
  intro T hT X
  have hc0 : H[zo Z + (a - 16)]? = some (vp_cell (zcI Z) ((kd a).2, .inl (mI M a))) := hR.1 (a - 16) _ (arr_at ha ha2)
  have hc1 : H[zo Z + (b - 16)]? = some (vp_cell (zcI Z) ((kd b).2, .inl (mI M b))) := hR.1 (b - 16) _ (arr_at hb hb2)
  obtain ⟨-, k0, hk0, cm0, hkk0⟩ := (hK.2 0 _ rfl).1 (kd a).2 (fun j => .int (mI M a j))
  obtain ⟨-, k1, hk1, cm1, hkk1⟩ := (hK.2 0 _ rfl).1 (kd b).2 (fun j => .int (mI M b j))
  obtain ⟨vm', X', step⟩ := X.arraycopy hF.1 hF.2.2.2.1 (hts _ hw) (hts _ hw2) (hts _ hw3) (hts _ hw4) (src := zo Z + (a - 16)) (dst := zo Z + (b - 16)) (cs := vp_cell (zcI Z) ((kd a).2, .inl (mI M a))) (cd := vp_cell (zcI Z) ((kd b).2, .inl (mI M b))) (srcPos := nI sp) (destPos := nI dp) (n := nI n) (by rw [hT]; exact hc0) (by rw [hT]; exact hc1)
    (fun _ h => by cases h) (fun _ h => by cases h) (fun h => by cases h) (fun h => by cases h) hk0 hk1 hkk0 hkk1 (by simp [refKind]) (nI_pos hsm) (nI_pos hdm) (nI_pos hnm)
    (by rw [nn sp hsm, nn n hnm]; show ¬ _ > ((arrV (zcI Z) (kd a).2 (fun j => .int (mI M a j))).slots.size : Int); rw [arrV_size]; omega)
    (by rw [nn dp hdm, nn n hnm]; show ¬ _ > ((arrV (zcI Z) (kd b).2 (fun j => .int (mI M b j))).slots.size : Int); rw [arrV_size]; omega)
    (fun vm₁ _ i hi => by
      rw [nI_clamp hnm] at hi
      rw [nI_clamp hsm]
      have e : (vp_cell (zcI Z) ((kd a).2, .inl (mI M a))).slots.getD (sp + i) .null = .int (mI M a (sp + i)) := by
        rw [vp_cell_i, Array.getD_eq_getD_getElem?, arrV_read _ _ (by omega)]
        rfl
      rw [e]
      exact ⟨rfl, trivial⟩)
    (g := F0 m pc la (.int (nI n) :: .int (nI dp) :: .ref (zo Z + (b - 16)) :: .int (nI sp) :: .ref (zo Z + (a - 16)) :: st.map (cv Z))) rfl (by rw [hF.2.2.1]; exact hL.1) (rest := st.map (cv Z)) rfl (by rw [hF.2.1]; exact hd) (by omega) (by show 2 * 0 + _ + (nativeFrameWords "java/lang/System" "arraycopy" 5 + 11) ≤ _; rw [hsum]; omega)
  have e1 : copied (vp_cell (zcI Z) ((kd a).2, .inl (mI M a))) (vp_cell (zcI Z) ((kd b).2, .inl (mI M b))) (nI sp) (nI dp) (nI n) = vp_cell (zcI Z) ((kd b).2, .inl (va_cpy (mI M a) (mI M b) sp dp n)) := by
    have := va_copied (sp := (nI sp).toNatClampNeg) (dp := (nI dp).toNatClampNeg) (n := (nI n).toNatClampNeg) (fun z => .int z) (zcI Z) (zcI Z) (mI M a) (mI M b) (n0 := (kd a).2) (n1 := (kd b).2) (by rw [nI_clamp hsm, nI_clamp hnm]; exact h4)
    rw [show va_cpy (mI M a) (mI M b) sp dp n = va_cpy (mI M a) (mI M b) (nI sp).toNatClampNeg (nI dp).toNatClampNeg (nI n).toNatClampNeg by rw [nI_clamp hsm, nI_clamp hnm, nI_clamp hdm]]
    exact this
  rw [e1] at X' step
  have hl : zo Z + (b - 16) < H.size := (Array.getElem?_eq_some_iff.mp hc1).1
  have hheap : ((T.setVm vm').setCell (zo Z + (b - 16)) (vp_cell (zcI Z) ((kd b).2, .inl (va_cpy (mI M a) (mI M b) sp dp n)))).heap = H.setIfInBounds (zo Z + (b - 16)) (vp_cell (zcI Z) ((kd b).2, .inl (va_cpy (mI M a) (mI M b) sp dp n))) := by rw [← hT]; rfl
  have oq : ∀ q : Nat, q ≠ zo Z + (b - 16) → (H.setIfInBounds (zo Z + (b - 16)) (vp_cell (zcI Z) ((kd b).2, .inl (va_cpy (mI M a) (mI M b) sp dp n))))[q]? = H[q]? := fun q hq => by simp [Array.getElem?_setIfInBounds, Ne.symm hq]
  have hP := hR.1.set (wsD Z M) (arr_at hb hb2) (e := .inl (zcI Z, (kd b).2, .inl (va_cpy (mI M a) (mI M b) sp dp n))) (show (H.setIfInBounds (zo Z + (b - 16)) _)[zo Z + (b - 16)]? = some _ by simp [Array.getElem?_setIfInBounds, hl]) oq
  have hR' : Rep Z (cpI M a sp b dp n) (H.setIfInBounds (zo Z + (b - 16)) (vp_cell (zcI Z) ((kd b).2, .inl (va_cpy (mI M a) (mI M b) sp dp n)))) := Rep.set (M' := cpI M a sp b dp n) hR b16 hb rfl (fun j hj => ce_cpI hj) (by
    rw [ce_arr hb2]
    congr 4
    funext q
    simp [va_cpy, mI, cpI]) (by simp) hP
  obtain ⟨t, a1, b1⟩ := h p e R s m args below meth c Qe _ _ la hF g1 g2 g3 g4 hR' ⟨by simp; exact hS.1, fun q g1 g2 => by
      rw [oq q (fun e => g2 (by rw [e]; show zo Z ≤ _; omega))]
      exact hS.2.1 q g1 g2, fun q hq => by
      rcases List.mem_append.mp hq with h | h
      · exact hS.2.2 q h
      · obtain ⟨z, -, hz⟩ := List.mem_map.mp h
        rw [← hz]
        exact Nat.le_add_right (zo Z) (b - 16)⟩ hL hE _ hheap X'
  exact ⟨t, step t a1, b1⟩
end XC
