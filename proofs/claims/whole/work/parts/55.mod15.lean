/-! reading -/
/-- what is read off: fault F, units rd, at 0 -/
def gbF_ (f : Nat → Nat → Int32) (F : Int32) (rd : Nat → Int32) : Nat → Nat → Int32 := rwF (rwF f 174 (upF (upF (f 174) 7 (nI 0)) 8 F)) 179 rd
theorem gb_7 (f : Nat → Nat → Int32) (F : Int32) (rd : Nat → Int32) : gbF_ f F rd 174 7 = nI 0 := by
  unfold gbF_
  rw [rw_ne (by omega), rw_at, up_ne (by omega), up_at]
theorem gb_5 (f : Nat → Nat → Int32) (F : Int32) (rd : Nat → Int32) : gbF_ f F rd 174 5 = f 174 5 := by
  unfold gbF_
  rw [rw_ne (by omega), rw_at, up_ne (by omega), up_ne (by omega)]
theorem gb_8 (f : Nat → Nat → Int32) (F : Int32) (rd : Nat → Int32) : gbF_ f F rd 174 8 = F := by
  unfold gbF_
  rw [rw_ne (by omega), rw_at, up_at]
theorem gb_178 (f : Nat → Nat → Int32) (F : Int32) (rd : Nat → Int32) : gbF_ f F rd 178 = f 178 := by
  unfold gbF_
  rw [rw_ne (by omega), rw_ne (by omega)]
theorem gb_179 (f : Nat → Nat → Int32) (F : Int32) (rd : Nat → Int32) : gbF_ f F rd 179 = rd := rw_at _ _ _
theorem gb_L (f : Nat → Nat → Int32) (F : Int32) (rd : Nat → Int32) : tL (gbF_ f F rd) = tL f := by
  unfold tL
  rw [gb_5]
theorem gb_R {f : Nat → Nat → Int32} (h : MtD f) (F : Int32) (rd : Nat → Int32) : RdS (gbF_ f F rd) := by
  have e : tA (gbF_ f F rd) = 0 := by
    unfold tA
    rw [gb_7]
    rfl
  refine ⟨⟨by rw [gb_5, gb_L]; exact h.1, by rw [gb_L]; exact h.2⟩, by rw [e, gb_7], by rw [e]; exact Nat.zero_le _⟩
theorem gb_nx (f : Nat → Nat → Int32) (F : Int32) (rd : Nat → Int32) (i : Nat) : nxB (gbF_ f F rd) i = nxB f i := by
  unfold nxB
  rw [gb_L, gb_178]
theorem gb_dg (f : Nat → Nat → Int32) (F : Int32) (rd : Nat → Int32) (i : Nat) : dgB (gbF_ f F rd) i = dgB f i := by
  unfold dgB
  rw [gb_nx]
theorem gb_nm (f : Nat → Nat → Int32) (F : Int32) (rd : Nat → Int32) (a e : Nat) : nmR (gbF_ f F rd) a e = nmR f a e := by
  unfold nmR wdQ wdP
  rw [gb_178]
/-- the memory while it is read: at A -/
def rqF (f : Nat → Nat → Int32) (A : Nat) (F : Int32) (rd : Nat → Int32) : Nat → Nat → Int32 := atF (gbF_ f F rd) A
theorem rm_5 (f : Nat → Nat → Int32) (A : Nat) (F : Int32) (rd : Nat → Int32) : rqF f A F rd 174 5 = f 174 5 := by
  unfold rqF atF
  rw [rw_at, up_ne (by omega), gb_5]
theorem rm_7 (f : Nat → Nat → Int32) (A : Nat) (F : Int32) (rd : Nat → Int32) : rqF f A F rd 174 7 = nI A := at_7
theorem rm_8 (f : Nat → Nat → Int32) (A : Nat) (F : Int32) (rd : Nat → Int32) : rqF f A F rd 174 8 = F := by
  unfold rqF
  rw [atF_8, gb_8]
theorem rm_179 (f : Nat → Nat → Int32) (A : Nat) (F : Int32) (rd : Nat → Int32) : rqF f A F rd 179 = rd := by
  unfold rqF
  rw [atF_179, gb_179]
theorem rm_form (f : Nat → Nat → Int32) (A : Nat) (F : Int32) (rd : Nat → Int32) : rqF f A F rd = rwF (rwF f 174 (upF (upF (f 174) 7 (nI A)) 8 F)) 179 rd := by
  unfold rqF atF gbF_
  rw [rw_ne (show (174 : Nat) ≠ 179 by omega), rw_at, rw_179_174, rw_rw]
  congr 2
  funext y
  unfold upF
  by_cases h : y = 8
  · rw [if_neg (by omega), if_pos h, if_pos h]
  · rw [if_neg h, if_neg h]
    by_cases h2 : y = 7
    · rw [if_pos h2, if_pos h2]
    · rw [if_neg h2, if_neg h2, if_neg h2]
theorem rm_at (f : Nat → Nat → Int32) (A B : Nat) (F : Int32) (rd : Nat → Int32) : rwF (rqF f A F rd) 174 (upF (rqF f A F rd 174) 7 (nI B)) = rqF f B F rd := at_u _ A B
theorem rm_rd (f : Nat → Nat → Int32) (A : Nat) (F : Int32) (rd w : Nat → Int32) : rwF (rqF f A F rd) 179 w = rqF f A F w := by
  rw [rm_form, rm_form, rw_rw]
theorem rm_fl (f : Nat → Nat → Int32) (A : Nat) (F G : Int32) (rd : Nat → Int32) : rwF (rqF f A F rd) 174 (upF (rqF f A F rd 174) 8 G) = rqF f A G rd := by
  rw [rm_form, rm_form, rw_ne (show (174 : Nat) ≠ 179 by omega), rw_at, rw_179_174, rw_rw]
  congr 2
  funext y
  unfold upF
  by_cases h : y = 8
  · rw [if_pos h, if_pos h]
  · rw [if_neg h, if_neg h, if_neg h]
noncomputable def dgN (f : Nat → Nat → Int32) (r : Nat) : Nat → Nat → (Nat → Int32) → Nat × (Nat → Int32)
  | 0, c, rd => (c, rd)
  | j + 1, c, rd => @ite _ (dgB f c) (Classical.propDecidable _) (dgN f r j (c + 1) (upF rd r (nI 10 * rd r + nxB f c - nI 48))) (c, rd)
noncomputable def rwU (f : Nat → Nat → Int32) : Nat → Nat → Int32 → (Nat → Int32) → Int32 × (Nat → Int32) × Nat
  | 0, A, _, rd => (-1000003, rd, A)
  | m + 1, A, v, rd => if A < tL f then
      @ite _ (nmR f A (alU f A) = -1000003 ∨ (v >>> (nmR f A (alU f A) &&& 31)) &&& nI 1 = nI 1) (Classical.propDecidable _) (nI A, rd, alU f A)
        (@ite _ ((dgN f (nmR f A (alU f A)).toNatClampNeg 2 (abU f (alU f A)) rd).1 = abU f (alU f A) ∨ dgB f (dgN f (nmR f A (alU f A)).toNatClampNeg 2 (abU f (alU f A)) rd).1) (Classical.propDecidable _)
          (nI (dgN f (nmR f A (alU f A)).toNatClampNeg 2 (abU f (alU f A)) rd).1, (dgN f (nmR f A (alU f A)).toNatClampNeg 2 (abU f (alU f A)) rd).2, abU f (dgN f (nmR f A (alU f A)).toNatClampNeg 2 (abU f (alU f A)) rd).1)
          (rwU f m (abU f (dgN f (nmR f A (alU f A)).toNatClampNeg 2 (abU f (alU f A)) rd).1) (v ||| (nI 1 <<< (nmR f A (alU f A) &&& 31))) (dgN f (nmR f A (alU f A)).toNatClampNeg 2 (abU f (alU f A)) rd).2))
    else (-1000003, rd, A)
theorem nmR_cases (f : Nat → Nat → Int32) (a e : Nat) : nmR f a e = -1000003 ∨ ∃ r, r < 4 ∧ nmR f a e = nI r ∧ a < e := by
  unfold nmR
  split
  · next h => exact Or.inr ⟨0, by omega, rfl, by have := h.1; omega⟩
  · split
    · next h => exact Or.inr ⟨1, by omega, rfl, by have := h.1; omega⟩
    · split
      · next h => exact Or.inr ⟨2, by omega, rfl, by have := h.1; omega⟩
      · split
        · next h => exact Or.inr ⟨3, by omega, rfl, by have := h.1; omega⟩
        · exact Or.inl rfl
theorem dgB_lt {f : Nat → Nat → Int32} {c : Nat} (h : dgB f c) : c < tL f := by
  unfold dgB nxB at h
  by_cases q : c < tL f
  · exact q
  · rw [if_neg q] at h
    exact absurd h.1 (by decide)
theorem dgN_le {f : Nat → Nat → Int32} {r : Nat} : ∀ j c rd, c ≤ tL f → c ≤ (dgN f r j c rd).1 ∧ (dgN f r j c rd).1 ≤ tL f
  | 0, c, rd, h => ⟨Nat.le_refl _, h⟩
  | j + 1, c, rd, h => by
    unfold dgN
    split
    · next q =>
      have := dgN_le (r := r) j (c + 1) (upF rd r (nI 10 * rd r + nxB f c - nI 48)) (dgB_lt q)
      omega
    · exact ⟨Nat.le_refl _, h⟩
noncomputable def rdX (f : Nat → Nat → Int32) : Int32 × (Nat → Int32) × Nat := rwU f 61 (abU f 0) (nI 0) (fun y => if y < 4 then nI 0 else f 179 y)
noncomputable def rdW (f : Nat → Nat → Int32) : Nat → Nat → Int32 := rqF f (rdX f).2.2 (rdX f).1 (rdX f).2.1
def e_M_reads : Ent := (fun av M => ∃ (o : Nat), av = [.ref o] ∧ (o = 174 ∧ BkS M ∧ MtD (mI M)), fun av M r_ M_ => ∀ (o : Nat), av = [.ref o] → r_ = (none) ∧ M_ = (mW M (rdW (mI M))))
theorem pc_M_reads {o : Nat} {M : Mem} {K : Option Value → Mem → Prop} (hp : o = 174 ∧ BkS M ∧ MtD (mI M)) : pcall e_M_reads [.ref o] M K = K (none) (mW M (rdW (mI M))) := propext ⟨fun h => h.2 _ _ (fun o' e => by simp only [List.cons.injEq, Value.ref.injEq, Value.int.injEq, Value.long.injEq, and_true] at e; have q0 := e; obtain rfl := q0; exact ⟨rfl, rfl⟩), fun h => ⟨⟨o, rfl, hp⟩, fun r_ M_ q => by obtain ⟨rfl, rfl⟩ := q _ rfl; exact h⟩⟩
theorem mk_M_reads {Z : Zt} {d : Nat} (h : ∀ (o : Nat) (M : Mem), (o = 174 ∧ BkS M ∧ MtD (mI M)) → Gm Z d s_M_reads [.ref o] M (ex (none) (mW M (rdW (mI M))))) : okE Z d i_M_reads e_M_reads := by
  rintro av M ⟨o, rfl, hp⟩
  exact Gm.cons (h o M  hp) (fun r_ M_ q o' e => by simp only [List.cons.injEq, Value.ref.injEq, Value.int.injEq, Value.long.injEq, and_true] at e; have q0 := e; obtain rfl := q0; exact q)
def C_M_reads : List (Nat × Ent) := [(i_M_blanks, e_M_blanks), (i_M_name, e_M_name), (i_M_fails, e_M_fails), (i_M_isDigit, e_M_isDigit), (i_M_next, e_M_next)]
abbrev S_M_reads : List Nat := [15, 37, 106]
def t_M_reads_191 : List PI := (191, 9, 5, 0, 0, 0, []) :: []
def t_M_reads_188 : List PI := (188, 6, 0, 37, 0, 0, []) :: t_M_reads_191
def t_M_reads_184 : List PI := (184, 1, 1, 0, 0, 0, []) :: (185, 11, 0, 5, 114, 0, [60, 1]) :: t_M_reads_188
def t_M_reads_176 : List PI := (176, 1, 1, 0, 0, 0, []) :: (177, 1, 1, 0, 0, 0, []) :: (178, 8, 0, 5, 7, 0, [42]) :: (181, 11, 0, 5, 115, 0, [66, 2]) :: t_M_reads_184
def t_M_reads_173 : List PI := (173, 5, 0, 184, 0, 0, []) :: t_M_reads_176
def t_M_reads_169 : List PI := (169, 1, 1, 0, 0, 0, []) :: (170, 11, 0, 5, 116, 0, [70, 1]) :: t_M_reads_173
def t_M_reads_160 : List PI := (160, 1, 1, 0, 0, 0, []) :: (161, 8, 0, 5, 7, 0, [42]) :: (164, 1, 0, 4, 0, 0, []) :: (166, 4, 0, 176, 0, 0, []) :: t_M_reads_169
def t_M_reads_157 : List PI := (157, 6, 0, 106, 0, 0, []) :: t_M_reads_160
def t_M_reads_142 : List PI := (142, 2, 0, 0, 0, 0, []) :: (143, 0, 0, 0, 1, 48, []) :: (145, 2, 1, 0, 0, 0, []) :: (146, 10, 4, 0, 0, 0, []) :: (147, 1, 1, 0, 0, 0, []) :: (148, 7, 0, 0, 0, 0, []) :: (149, 8, 0, 5, 7, 0, [42]) :: (152, 0, 0, 0, 0, 1, []) :: (153, 2, 0, 0, 0, 0, []) :: (154, 10, 0, 5, 7, 0, [42]) :: t_M_reads_157
def t_M_reads_124 : List PI := (124, 1, 1, 0, 0, 0, []) :: (125, 8, 1, 5, 6, 0, [22]) :: (128, 1, 0, 3, 0, 0, []) :: (129, 0, 0, 0, 1, 10, []) :: (131, 1, 1, 0, 0, 0, []) :: (132, 8, 1, 5, 6, 0, [22]) :: (135, 1, 0, 3, 0, 0, []) :: (136, 8, 4, 0, 0, 0, []) :: (137, 2, 2, 0, 0, 0, []) :: (138, 1, 1, 0, 0, 0, []) :: (139, 11, 0, 5, 113, 0, [45, 1]) :: t_M_reads_142
def t_M_reads_121 : List PI := (121, 5, 0, 160, 0, 0, []) :: t_M_reads_124
def t_M_reads_117 : List PI := (117, 1, 1, 0, 0, 0, []) :: (118, 11, 0, 5, 116, 0, [70, 1]) :: t_M_reads_121
def t_M_reads_106 : List PI := (106, 1, 1, 0, 0, 0, []) :: (107, 8, 0, 5, 7, 0, [42]) :: (110, 1, 0, 4, 0, 0, []) :: (112, 0, 0, 0, 0, 2, []) :: (113, 2, 0, 0, 0, 0, []) :: (114, 4, 3, 160, 0, 0, []) :: t_M_reads_117
def t_M_reads_100 : List PI := (100, 1, 1, 0, 0, 0, []) :: (101, 8, 0, 5, 7, 0, [42]) :: (104, 1, 3, 4, 0, 0, []) :: t_M_reads_106
def t_M_reads_90 : List PI := (90, 1, 0, 1, 0, 0, []) :: (91, 0, 0, 0, 0, 1, []) :: (92, 1, 0, 3, 0, 0, []) :: (93, 2, 8, 0, 0, 0, []) :: (94, 2, 7, 0, 0, 0, []) :: (95, 1, 3, 1, 0, 0, []) :: (96, 1, 1, 0, 0, 0, []) :: (97, 11, 0, 5, 114, 0, [60, 1]) :: t_M_reads_100
def t_M_reads_87 : List PI := (87, 6, 0, 188, 0, 0, []) :: t_M_reads_90
def t_M_reads_82 : List PI := (82, 1, 1, 0, 0, 0, []) :: (83, 1, 0, 2, 0, 0, []) :: (84, 11, 0, 5, 115, 0, [66, 2]) :: t_M_reads_87
def t_M_reads_73 : List PI := (73, 1, 0, 1, 0, 0, []) :: (74, 1, 0, 3, 0, 0, []) :: (75, 2, 9, 0, 0, 0, []) :: (76, 0, 0, 0, 0, 1, []) :: (77, 2, 6, 0, 0, 0, []) :: (78, 0, 0, 0, 0, 1, []) :: (79, 4, 1, 90, 0, 0, []) :: t_M_reads_82
def t_M_reads_66 : List PI := (66, 1, 3, 3, 0, 0, []) :: (67, 1, 0, 3, 0, 0, []) :: (68, 0, 0, 52, 3, -1000003, []) :: (70, 4, 0, 82, 0, 0, []) :: t_M_reads_73
def t_M_reads_57 : List PI := (57, 1, 1, 0, 0, 0, []) :: (58, 8, 0, 5, 7, 0, [42]) :: (61, 1, 3, 2, 0, 0, []) :: (62, 1, 1, 0, 0, 0, []) :: (63, 11, 0, 5, 118, 0, [63, 1]) :: t_M_reads_66
def t_M_reads_48 : List PI := (48, 1, 1, 0, 0, 0, []) :: (49, 8, 0, 5, 8, 0, [49]) :: (52, 0, 0, 52, 3, -1000003, []) :: (54, 4, 1, 191, 0, 0, []) :: t_M_reads_57
def t_M_reads_37 : List PI := (37, 1, 1, 0, 0, 0, []) :: (38, 8, 0, 5, 7, 0, [42]) :: (41, 1, 1, 0, 0, 0, []) :: (42, 8, 0, 5, 5, 0, [38]) :: (45, 4, 3, 191, 0, 0, []) :: t_M_reads_48
def t_M_reads_33 : List PI := (33, 1, 1, 0, 0, 0, []) :: (34, 11, 0, 5, 114, 0, [60, 1]) :: t_M_reads_37
def t_M_reads_20 : List PI := (20, 1, 1, 0, 0, 0, []) :: (21, 8, 1, 5, 6, 0, [22]) :: (24, 1, 0, 2, 0, 0, []) :: (25, 0, 0, 0, 0, 0, []) :: (26, 10, 4, 0, 0, 0, []) :: (27, 1, 6, 2, 0, 1, []) :: (30, 6, 0, 15, 0, 0, []) :: t_M_reads_33
def t_M_reads_15 : List PI := (15, 1, 0, 2, 0, 0, []) :: (16, 0, 0, 0, 0, 4, []) :: (17, 4, 3, 33, 0, 0, []) :: t_M_reads_20
def t_M_reads_11 : List PI := (11, 0, 0, 0, 0, 0, []) :: (12, 1, 3, 1, 0, 0, []) :: (13, 0, 0, 0, 0, 0, []) :: (14, 1, 3, 2, 0, 0, []) :: t_M_reads_15
def t_M_reads_0 : List PI := (0, 1, 1, 0, 0, 0, []) :: (1, 0, 0, 0, 0, 0, []) :: (2, 10, 0, 5, 7, 0, [42]) :: (5, 1, 1, 0, 0, 0, []) :: (6, 0, 0, 52, 3, -1000003, []) :: (8, 10, 0, 5, 8, 0, [49]) :: t_M_reads_11
theorem kt_M_reads : okP s_M_reads t_M_reads_0 := k_M_reads
theorem g_M_reads_0 {Z : Zt} {nF f : Nat} {Kx : Nat → Kt} {Q : Option Value → Mem → Prop} {M : Mem} {x1 : Nat} : run Z nF C_M_reads S_M_reads Kx Q (f + 6) t_M_reads_0 [some (.ref (x1)), none, none, none, none] [] M = (isO (M) (x1) 5 ∧ isO (stI (M) (x1) 7 ((nI 0))) (x1) 5 ∧ run Z nF C_M_reads S_M_reads Kx Q f t_M_reads_11 [some (.ref (x1)), none, none, none, none] [] (stI (stI (M) (x1) 7 ((nI 0))) (x1) 8 ((-1000003 : Int32)))) := rfl
theorem g_M_reads_11 {Z : Zt} {nF f : Nat} {Kx : Nat → Kt} {Q : Option Value → Mem → Prop} {M : Mem} {x1 : Nat} : run Z nF C_M_reads S_M_reads Kx Q (f + 4) t_M_reads_11 [some (.ref (x1)), none, none, none, none] [] M = (Kx 15 [some (.ref (x1)), some (.int ((nI 0))), some (.int ((nI 0))), none, none] [] (M)) := rfl
theorem g_M_reads_15 {Z : Zt} {nF f : Nat} {Kx : Nat → Kt} {Q : Option Value → Mem → Prop} {M : Mem} {x1 : Nat} {x2 : Int32} {x3 : Int32} : run Z nF C_M_reads S_M_reads Kx Q (f + 3) t_M_reads_15 [some (.ref (x1)), some (.int (x2)), some (.int (x3)), none, none] [] M = ((if ((nI 4)) ≤ (x3) then run Z nF C_M_reads S_M_reads Kx Q f t_M_reads_33 [some (.ref (x1)), some (.int (x2)), some (.int (x3)), none, none] [] (M) else run Z nF C_M_reads S_M_reads Kx Q f t_M_reads_20 [some (.ref (x1)), some (.int (x2)), some (.int (x3)), none, none] [] (M))) := rfl
theorem g_M_reads_20 {Z : Zt} {nF f : Nat} {Kx : Nat → Kt} {Q : Option Value → Mem → Prop} {M : Mem} {x1 : Nat} {x2 : Int32} {x3 : Int32} : run Z nF C_M_reads S_M_reads Kx Q (f + 7) t_M_reads_20 [some (.ref (x1)), some (.int (x2)), some (.int (x3)), none, none] [] M = (isO (M) (x1) 5 ∧ isA (M) (mR (M) (x1) 6) (x3) ∧ Kx 15 [some (.ref (x1)), some (.int (x2)), some (.int (x3 + (nI 1))), none, none] [] (stI (M) (mR (M) (x1) 6) (Int32.toNatClampNeg (x3)) ((nI 0)))) := rfl
theorem g_M_reads_33 {Z : Zt} {nF f : Nat} {Kx : Nat → Kt} {Q : Option Value → Mem → Prop} {M : Mem} {x1 : Nat} {x2 : Int32} {x3 : Int32} : run Z nF C_M_reads S_M_reads Kx Q (f + 2) t_M_reads_33 [some (.ref (x1)), some (.int (x2)), some (.int (x3)), none, none] [] M = (((isO (M) (x1) 5) ∧ wsum [] ≤ 8) ∧ pcall e_M_blanks [.ref (x1)] (M) (fun v M_ => Kx 37 [some (.ref (x1)), some (.int (x2)), some (.int (x3)), none, none] (v.toList ++ []) M_)) := rfl
theorem g_M_reads_37 {Z : Zt} {nF f : Nat} {Kx : Nat → Kt} {Q : Option Value → Mem → Prop} {M : Mem} {x1 : Nat} {x2 : Int32} {x3 : Int32} {x4 : Option Value} {x5 : Option Value} : run Z nF C_M_reads S_M_reads Kx Q (f + 5) t_M_reads_37 [some (.ref (x1)), some (.int (x2)), some (.int (x3)), x4, x5] [] M = (isO (M) (x1) 5 ∧ isO (M) (x1) 5 ∧ (if (mI (M) (x1) 5) ≤ (mI (M) (x1) 7) then run Z nF C_M_reads S_M_reads Kx Q f t_M_reads_191 [some (.ref (x1)), some (.int (x2)), some (.int (x3)), x4, x5] [] (M) else run Z nF C_M_reads S_M_reads Kx Q f t_M_reads_48 [some (.ref (x1)), some (.int (x2)), some (.int (x3)), x4, x5] [] (M))) := rfl
theorem g_M_reads_48 {Z : Zt} {nF f : Nat} {Kx : Nat → Kt} {Q : Option Value → Mem → Prop} {M : Mem} {x1 : Nat} {x2 : Int32} {x3 : Int32} {x4 : Option Value} {x5 : Option Value} : run Z nF C_M_reads S_M_reads Kx Q (f + 4) t_M_reads_48 [some (.ref (x1)), some (.int (x2)), some (.int (x3)), x4, x5] [] M = (isO (M) (x1) 5 ∧ (if (mI (M) (x1) 8) = ((-1000003 : Int32)) then run Z nF C_M_reads S_M_reads Kx Q f t_M_reads_57 [some (.ref (x1)), some (.int (x2)), some (.int (x3)), x4, x5] [] (M) else run Z nF C_M_reads S_M_reads Kx Q f t_M_reads_191 [some (.ref (x1)), some (.int (x2)), some (.int (x3)), x4, x5] [] (M))) := rfl
theorem g_M_reads_57 {Z : Zt} {nF f : Nat} {Kx : Nat → Kt} {Q : Option Value → Mem → Prop} {M : Mem} {x1 : Nat} {x2 : Int32} {x3 : Int32} {x4 : Option Value} {x5 : Option Value} : run Z nF C_M_reads S_M_reads Kx Q (f + 5) t_M_reads_57 [some (.ref (x1)), some (.int (x2)), some (.int (x3)), x4, x5] [] M = (isO (M) (x1) 5 ∧ ((isO (M) (x1) 5) ∧ wsum [] ≤ 8) ∧ pcall e_M_name [.ref (x1)] (M) (fun v M_ => run Z nF C_M_reads S_M_reads Kx Q f t_M_reads_66 [some (.ref (x1)), some (.int (x2)), some (.int (mI (M) (x1) 7)), x4, x5] (v.toList ++ []) M_)) := rfl
theorem g_M_reads_66 {Z : Zt} {nF f : Nat} {Kx : Nat → Kt} {Q : Option Value → Mem → Prop} {M : Mem} {x1 : Nat} {x2 : Int32} {x3 : Int32} {x4 : Option Value} {x5 : Option Value} {x6 : Int32} : run Z nF C_M_reads S_M_reads Kx Q (f + 4) t_M_reads_66 [some (.ref (x1)), some (.int (x2)), some (.int (x3)), x4, x5] [.int (x6)] M = ((if (x6) = ((-1000003 : Int32)) then run Z nF C_M_reads S_M_reads Kx Q f t_M_reads_82 [some (.ref (x1)), some (.int (x2)), some (.int (x3)), some (.int (x6)), x5] [] (M) else run Z nF C_M_reads S_M_reads Kx Q f t_M_reads_73 [some (.ref (x1)), some (.int (x2)), some (.int (x3)), some (.int (x6)), x5] [] (M))) := rfl
theorem g_M_reads_73 {Z : Zt} {nF f : Nat} {Kx : Nat → Kt} {Q : Option Value → Mem → Prop} {M : Mem} {x1 : Nat} {x2 : Int32} {x3 : Int32} {x4 : Int32} {x5 : Option Value} : run Z nF C_M_reads S_M_reads Kx Q (f + 7) t_M_reads_73 [some (.ref (x1)), some (.int (x2)), some (.int (x3)), some (.int (x4)), x5] [] M = ((if (((x2) >>> ((x4) &&& 31)) &&& ((nI 1))) = ((nI 1)) then run Z nF C_M_reads S_M_reads Kx Q f t_M_reads_82 [some (.ref (x1)), some (.int (x2)), some (.int (x3)), some (.int (x4)), x5] [] (M) else run Z nF C_M_reads S_M_reads Kx Q f t_M_reads_90 [some (.ref (x1)), some (.int (x2)), some (.int (x3)), some (.int (x4)), x5] [] (M))) := rfl
theorem g_M_reads_82 {Z : Zt} {nF f : Nat} {Kx : Nat → Kt} {Q : Option Value → Mem → Prop} {M : Mem} {x1 : Nat} {x2 : Int32} {x3 : Int32} {x4 : Int32} {x5 : Option Value} : run Z nF C_M_reads S_M_reads Kx Q (f + 3) t_M_reads_82 [some (.ref (x1)), some (.int (x2)), some (.int (x3)), some (.int (x4)), x5] [] M = (((isO (M) (x1) 5) ∧ wsum [] ≤ 8) ∧ pcall e_M_fails [.ref (x1), .int (x3)] (M) (fun v M_ => run Z nF C_M_reads S_M_reads Kx Q f t_M_reads_87 [some (.ref (x1)), some (.int (x2)), some (.int (x3)), some (.int (x4)), x5] (v.toList ++ []) M_)) := rfl
theorem g_M_reads_87 {Z : Zt} {nF f : Nat} {Kx : Nat → Kt} {Q : Option Value → Mem → Prop} {M : Mem} {x1 : Nat} {x2 : Int32} {x3 : Int32} {x4 : Int32} {x5 : Option Value} : run Z nF C_M_reads S_M_reads Kx Q (f + 1) t_M_reads_87 [some (.ref (x1)), some (.int (x2)), some (.int (x3)), some (.int (x4)), x5] [] M = (run Z nF C_M_reads S_M_reads Kx Q f t_M_reads_188 [some (.ref (x1)), some (.int (x2)), some (.int (x3)), some (.int (x4)), x5] [] (M)) := rfl
theorem g_M_reads_90 {Z : Zt} {nF f : Nat} {Kx : Nat → Kt} {Q : Option Value → Mem → Prop} {M : Mem} {x1 : Nat} {x2 : Int32} {x3 : Int32} {x4 : Int32} {x5 : Option Value} : run Z nF C_M_reads S_M_reads Kx Q (f + 8) t_M_reads_90 [some (.ref (x1)), some (.int (x2)), some (.int (x3)), some (.int (x4)), x5] [] M = (((isO (M) (x1) 5) ∧ wsum [] ≤ 8) ∧ pcall e_M_blanks [.ref (x1)] (M) (fun v M_ => run Z nF C_M_reads S_M_reads Kx Q f t_M_reads_100 [some (.ref (x1)), some (.int ((x2) ||| (((nI 1)) <<< ((x4) &&& 31)))), some (.int (x3)), some (.int (x4)), x5] (v.toList ++ []) M_)) := rfl
theorem g_M_reads_100 {Z : Zt} {nF f : Nat} {Kx : Nat → Kt} {Q : Option Value → Mem → Prop} {M : Mem} {x1 : Nat} {x2 : Int32} {x3 : Int32} {x4 : Int32} {x5 : Option Value} : run Z nF C_M_reads S_M_reads Kx Q (f + 3) t_M_reads_100 [some (.ref (x1)), some (.int (x2)), some (.int (x3)), some (.int (x4)), x5] [] M = (isO (M) (x1) 5 ∧ Kx 106 [some (.ref (x1)), some (.int (x2)), some (.int (x3)), some (.int (x4)), some (.int (mI (M) (x1) 7))] [] (M)) := rfl
theorem g_M_reads_106 {Z : Zt} {nF f : Nat} {Kx : Nat → Kt} {Q : Option Value → Mem → Prop} {M : Mem} {x1 : Nat} {x2 : Int32} {x3 : Int32} {x4 : Int32} {x5 : Int32} : run Z nF C_M_reads S_M_reads Kx Q (f + 6) t_M_reads_106 [some (.ref (x1)), some (.int (x2)), some (.int (x3)), some (.int (x4)), some (.int (x5))] [] M = (isO (M) (x1) 5 ∧ (if ((x5) + ((nI 2))) ≤ (mI (M) (x1) 7) then run Z nF C_M_reads S_M_reads Kx Q f t_M_reads_160 [some (.ref (x1)), some (.int (x2)), some (.int (x3)), some (.int (x4)), some (.int (x5))] [] (M) else run Z nF C_M_reads S_M_reads Kx Q f t_M_reads_117 [some (.ref (x1)), some (.int (x2)), some (.int (x3)), some (.int (x4)), some (.int (x5))] [] (M))) := rfl
theorem g_M_reads_117 {Z : Zt} {nF f : Nat} {Kx : Nat → Kt} {Q : Option Value → Mem → Prop} {M : Mem} {x1 : Nat} {x2 : Int32} {x3 : Int32} {x4 : Int32} {x5 : Int32} : run Z nF C_M_reads S_M_reads Kx Q (f + 2) t_M_reads_117 [some (.ref (x1)), some (.int (x2)), some (.int (x3)), some (.int (x4)), some (.int (x5))] [] M = (((isO (M) (x1) 5) ∧ wsum [] ≤ 8) ∧ pcall e_M_isDigit [.ref (x1)] (M) (fun v M_ => run Z nF C_M_reads S_M_reads Kx Q f t_M_reads_121 [some (.ref (x1)), some (.int (x2)), some (.int (x3)), some (.int (x4)), some (.int (x5))] (v.toList ++ []) M_)) := rfl
theorem g_M_reads_121 {Z : Zt} {nF f : Nat} {Kx : Nat → Kt} {Q : Option Value → Mem → Prop} {M : Mem} {x1 : Nat} {x2 : Int32} {x3 : Int32} {x4 : Int32} {x5 : Int32} {x6 : Int32} : run Z nF C_M_reads S_M_reads Kx Q (f + 1) t_M_reads_121 [some (.ref (x1)), some (.int (x2)), some (.int (x3)), some (.int (x4)), some (.int (x5))] [.int (x6)] M = ((if (x6) = nI 0 then run Z nF C_M_reads S_M_reads Kx Q f t_M_reads_160 [some (.ref (x1)), some (.int (x2)), some (.int (x3)), some (.int (x4)), some (.int (x5))] [] (M) else run Z nF C_M_reads S_M_reads Kx Q f t_M_reads_124 [some (.ref (x1)), some (.int (x2)), some (.int (x3)), some (.int (x4)), some (.int (x5))] [] (M))) := rfl
theorem g_M_reads_124 {Z : Zt} {nF f : Nat} {Kx : Nat → Kt} {Q : Option Value → Mem → Prop} {M : Mem} {x1 : Nat} {x2 : Int32} {x3 : Int32} {x4 : Int32} {x5 : Int32} : run Z nF C_M_reads S_M_reads Kx Q (f + 11) t_M_reads_124 [some (.ref (x1)), some (.int (x2)), some (.int (x3)), some (.int (x4)), some (.int (x5))] [] M = (isO (M) (x1) 5 ∧ isO (M) (x1) 5 ∧ isA (M) (mR (M) (x1) 6) (x4) ∧ ((isO (M) (x1) 5) ∧ wsum [.int (((nI 10)) * (mI (M) (mR (M) (x1) 6) (Int32.toNatClampNeg (x4)))), .int (x4), .ref (mR (M) (x1) 6)] ≤ 8) ∧ pcall e_M_next [.ref (x1)] (M) (fun v M_ => run Z nF C_M_reads S_M_reads Kx Q f t_M_reads_142 [some (.ref (x1)), some (.int (x2)), some (.int (x3)), some (.int (x4)), some (.int (x5))] (v.toList ++ [.int (((nI 10)) * (mI (M) (mR (M) (x1) 6) (Int32.toNatClampNeg (x4)))), .int (x4), .ref (mR (M) (x1) 6)]) M_)) := rfl
theorem g_M_reads_142 {Z : Zt} {nF f : Nat} {Kx : Nat → Kt} {Q : Option Value → Mem → Prop} {M : Mem} {x1 : Nat} {x2 : Int32} {x3 : Int32} {x4 : Int32} {x5 : Int32} {x6 : Int32} {x7 : Int32} {x8 : Int32} {x9 : Nat} : run Z nF C_M_reads S_M_reads Kx Q (f + 10) t_M_reads_142 [some (.ref (x1)), some (.int (x2)), some (.int (x3)), some (.int (x4)), some (.int (x5))] [.int (x6), .int (x7), .int (x8), .ref (x9)] M = (isA (M) (x9) (x8) ∧ isO (stI (M) (x9) (Int32.toNatClampNeg (x8)) (((x7) + (x6)) - ((nI 48)))) (x1) 5 ∧ isO (stI (M) (x9) (Int32.toNatClampNeg (x8)) (((x7) + (x6)) - ((nI 48)))) (x1) 5 ∧ run Z nF C_M_reads S_M_reads Kx Q f t_M_reads_157 [some (.ref (x1)), some (.int (x2)), some (.int (x3)), some (.int (x4)), some (.int (x5))] [] (stI (stI (M) (x9) (Int32.toNatClampNeg (x8)) (((x7) + (x6)) - ((nI 48)))) (x1) 7 ((mI (stI (M) (x9) (Int32.toNatClampNeg (x8)) (((x7) + (x6)) - ((nI 48)))) (x1) 7) + ((nI 1))))) := rfl
theorem g_M_reads_157 {Z : Zt} {nF f : Nat} {Kx : Nat → Kt} {Q : Option Value → Mem → Prop} {M : Mem} {x1 : Nat} {x2 : Int32} {x3 : Int32} {x4 : Int32} {x5 : Int32} : run Z nF C_M_reads S_M_reads Kx Q (f + 1) t_M_reads_157 [some (.ref (x1)), some (.int (x2)), some (.int (x3)), some (.int (x4)), some (.int (x5))] [] M = (Kx 106 [some (.ref (x1)), some (.int (x2)), some (.int (x3)), some (.int (x4)), some (.int (x5))] [] (M)) := rfl
theorem g_M_reads_160 {Z : Zt} {nF f : Nat} {Kx : Nat → Kt} {Q : Option Value → Mem → Prop} {M : Mem} {x1 : Nat} {x2 : Int32} {x3 : Int32} {x4 : Int32} {x5 : Int32} : run Z nF C_M_reads S_M_reads Kx Q (f + 4) t_M_reads_160 [some (.ref (x1)), some (.int (x2)), some (.int (x3)), some (.int (x4)), some (.int (x5))] [] M = (isO (M) (x1) 5 ∧ (if (mI (M) (x1) 7) = (x5) then run Z nF C_M_reads S_M_reads Kx Q f t_M_reads_176 [some (.ref (x1)), some (.int (x2)), some (.int (x3)), some (.int (x4)), some (.int (x5))] [] (M) else run Z nF C_M_reads S_M_reads Kx Q f t_M_reads_169 [some (.ref (x1)), some (.int (x2)), some (.int (x3)), some (.int (x4)), some (.int (x5))] [] (M))) := rfl
theorem g_M_reads_169 {Z : Zt} {nF f : Nat} {Kx : Nat → Kt} {Q : Option Value → Mem → Prop} {M : Mem} {x1 : Nat} {x2 : Int32} {x3 : Int32} {x4 : Int32} {x5 : Int32} : run Z nF C_M_reads S_M_reads Kx Q (f + 2) t_M_reads_169 [some (.ref (x1)), some (.int (x2)), some (.int (x3)), some (.int (x4)), some (.int (x5))] [] M = (((isO (M) (x1) 5) ∧ wsum [] ≤ 8) ∧ pcall e_M_isDigit [.ref (x1)] (M) (fun v M_ => run Z nF C_M_reads S_M_reads Kx Q f t_M_reads_173 [some (.ref (x1)), some (.int (x2)), some (.int (x3)), some (.int (x4)), some (.int (x5))] (v.toList ++ []) M_)) := rfl
theorem g_M_reads_173 {Z : Zt} {nF f : Nat} {Kx : Nat → Kt} {Q : Option Value → Mem → Prop} {M : Mem} {x1 : Nat} {x2 : Int32} {x3 : Int32} {x4 : Int32} {x5 : Int32} {x6 : Int32} : run Z nF C_M_reads S_M_reads Kx Q (f + 1) t_M_reads_173 [some (.ref (x1)), some (.int (x2)), some (.int (x3)), some (.int (x4)), some (.int (x5))] [.int (x6)] M = ((if (x6) = nI 0 then run Z nF C_M_reads S_M_reads Kx Q f t_M_reads_184 [some (.ref (x1)), some (.int (x2)), some (.int (x3)), some (.int (x4)), some (.int (x5))] [] (M) else run Z nF C_M_reads S_M_reads Kx Q f t_M_reads_176 [some (.ref (x1)), some (.int (x2)), some (.int (x3)), some (.int (x4)), some (.int (x5))] [] (M))) := rfl
theorem g_M_reads_176 {Z : Zt} {nF f : Nat} {Kx : Nat → Kt} {Q : Option Value → Mem → Prop} {M : Mem} {x1 : Nat} {x2 : Int32} {x3 : Int32} {x4 : Int32} {x5 : Int32} : run Z nF C_M_reads S_M_reads Kx Q (f + 4) t_M_reads_176 [some (.ref (x1)), some (.int (x2)), some (.int (x3)), some (.int (x4)), some (.int (x5))] [] M = (isO (M) (x1) 5 ∧ ((isO (M) (x1) 5) ∧ wsum [] ≤ 8) ∧ pcall e_M_fails [.ref (x1), .int (mI (M) (x1) 7)] (M) (fun v M_ => run Z nF C_M_reads S_M_reads Kx Q f t_M_reads_184 [some (.ref (x1)), some (.int (x2)), some (.int (x3)), some (.int (x4)), some (.int (x5))] (v.toList ++ []) M_)) := rfl
theorem g_M_reads_184 {Z : Zt} {nF f : Nat} {Kx : Nat → Kt} {Q : Option Value → Mem → Prop} {M : Mem} {x1 : Nat} {x2 : Int32} {x3 : Int32} {x4 : Int32} {x5 : Int32} : run Z nF C_M_reads S_M_reads Kx Q (f + 2) t_M_reads_184 [some (.ref (x1)), some (.int (x2)), some (.int (x3)), some (.int (x4)), some (.int (x5))] [] M = (((isO (M) (x1) 5) ∧ wsum [] ≤ 8) ∧ pcall e_M_blanks [.ref (x1)] (M) (fun v M_ => run Z nF C_M_reads S_M_reads Kx Q f t_M_reads_188 [some (.ref (x1)), some (.int (x2)), some (.int (x3)), some (.int (x4)), some (.int (x5))] (v.toList ++ []) M_)) := rfl
theorem g_M_reads_188 {Z : Zt} {nF f : Nat} {Kx : Nat → Kt} {Q : Option Value → Mem → Prop} {M : Mem} {x1 : Nat} {x2 : Int32} {x3 : Int32} {x4 : Int32} {x5 : Option Value} : run Z nF C_M_reads S_M_reads Kx Q (f + 1) t_M_reads_188 [some (.ref (x1)), some (.int (x2)), some (.int (x3)), some (.int (x4)), x5] [] M = (Kx 37 [some (.ref (x1)), some (.int (x2)), some (.int (x3)), some (.int (x4)), x5] [] (M)) := rfl
theorem g_M_reads_191 {Z : Zt} {nF f : Nat} {Kx : Nat → Kt} {Q : Option Value → Mem → Prop} {M : Mem} {x1 : Nat} {x2 : Int32} {x3 : Int32} {x4 : Option Value} {x5 : Option Value} : run Z nF C_M_reads S_M_reads Kx Q (f + 1) t_M_reads_191 [some (.ref (x1)), some (.int (x2)), some (.int (x3)), x4, x5] [] M = (Q none (M)) := rfl
theorem rm_nx {M : Mem} {f : Nat → Nat → Int32} {A : Nat} {F : Int32} {rd : Nat → Int32} {K : Option Value → Mem → Prop} (hB : BkS M) (h : MtD f) (hA : A ≤ tL f) : pcall e_M_next [.ref 174] (mW M (rqF f A F rd)) K = K (some (.int (nxB f A))) (mW M (rqF f A F rd)) := by
  have := nx_v (M := M) (f := gbF_ f F rd) (A := A) (K := K) hB (gb_R h F rd) (by rw [gb_L]; exact hA)
  rw [gb_nx] at this
  exact this
theorem rm_dg {M : Mem} {f : Nat → Nat → Int32} {A : Nat} {F : Int32} {rd : Nat → Int32} {K : Option Value → Mem → Prop} (hB : BkS M) (h : MtD f) (hA : A ≤ tL f) : pcall e_M_isDigit [.ref 174] (mW M (rqF f A F rd)) K = K (some (.int (bv (dgB f A)))) (mW M (rqF f A F rd)) := by
  have := dg_v (M := M) (f := gbF_ f F rd) (A := A) (K := K) hB (gb_R h F rd) (by rw [gb_L]; exact hA)
  rw [gb_dg] at this
  exact this
theorem rm_bl {M : Mem} {f : Nat → Nat → Int32} {A : Nat} {F : Int32} {rd : Nat → Int32} {K : Option Value → Mem → Prop} (hB : BkS M) (h : MtD f) (hA : A ≤ tL f) : pcall e_M_blanks [.ref 174] (mW M (rqF f A F rd)) K = K none (mW M (rqF f (abU f A) F rd)) := by
  have := bl_v (M := M) (f := gbF_ f F rd) (A := A) (K := K) hB (gb_R h F rd) (by rw [gb_L]; exact hA)
  rw [gb_178, gb_L] at this
  exact this
theorem rm_nm {M : Mem} {f : Nat → Nat → Int32} {A : Nat} {F : Int32} {rd : Nat → Int32} {K : Option Value → Mem → Prop} (hB : BkS M) (h : MtD f) (hA : A ≤ tL f) : pcall e_M_name [.ref 174] (mW M (rqF f A F rd)) K = K (some (.int (nmR f A (alU f A)))) (mW M (rqF f (alU f A) F rd)) := by
  have h60 := h.2
  have hR := gb_R h F rd
  have hAg : A ≤ tL (gbF_ f F rd) := by rw [gb_L]; exact hA
  have e1 : tA (rqF f A F rd) = A := atF_A (by omega)
  have e2 : alU (rqF f A F rd) A = alU f A := by
    unfold alU rqF
    rw [atF_178, gb_178, atF_L, gb_L]
  rw [pc_M_name (o := 174) (M := mW M (rqF f A F rd)) ⟨rfl, hB, atF_R hR hAg⟩, mI_mW, mW_mW, e1, e2]
  have e3 : nmR (rqF f A F rd) A (alU f A) = nmR f A (alU f A) := by
    unfold rqF
    rw [show nmR (atF (gbF_ f F rd) A) A (alU f A) = nmR (gbF_ f F rd) A (alU f A) from by unfold nmR wdQ wdP; rw [atF_178], gb_nm]
  have e4 : atF (rqF f A F rd) (alU f A) = rqF f (alU f A) F rd := atF_atF _ _ _
  rw [e3, e4]
theorem rm_fa {M : Mem} {f : Nat → Nat → Int32} {A : Nat} {x : Int32} {rd : Nat → Int32} {K : Option Value → Mem → Prop} (hB : BkS M) : pcall e_M_fails [.ref 174, .int x] (mW M (rqF f A (-1000003) rd)) K = K none (mW M (rqF f A x rd)) := by
  rw [pc_M_fails (o := 174) (x := x) (M := mW M (rqF f A (-1000003) rd)) ⟨rfl, hB⟩, mI_mW, mW_mW, if_pos (rm_8 f A (-1000003) rd), rm_fl]
set_option maxRecDepth 100000 in
set_option maxHeartbeats 4000000 in
theorem lp_M_readsE (Z : Zt) (d : Nat) {M : Mem} {f : Nat → Nat → Int32} {A : Nat} {F v : Int32} {rd : Nat → Int32} {x2 : Int32} {w3 w4 : Option Value} (hB : BkS M) (hT : MtD f) (hA : A ≤ tL f) (h : tL f ≤ A ∨ ¬ F = -1000003) : X Z (d + 3) s_M_reads (mN M) (mN M) (ex none (mW M (rqF f A F rd))) 37 [some (.ref 174), some (.int v), some (.int x2), w3, w4] [] (mW M (rqF f A F rd)) := by
  have h60 := hT.2
  refine X_runT (C := C_M_reads) (S := S_M_reads) (T := t_M_reads_37) 1000 kt_M_reads (okE_cons (ok_M_blanks Z d) (okE_cons (ok_M_name Z d) (okE_cons (ok_M_fails Z (d + 1)) (okE_cons (ok_M_isDigit Z d) (okE_cons (ok_M_next Z (d + 1)) okE_nil))))) ?_
  simp (maxSteps := 3000000) (disch := first | exact True.intro | assumption | omega) only [↓eq_self, Option.toList_some, Option.toList_none, List.nil_append, List.cons_append, wsum_0, wsum_1, wsum_2, wsum_3, wsum_4, lkill, ↓reduceIte, if_true, if_false, Bool.false_eq_true, and_true, true_and, and_self, or_self, true_or, or_true, not_true, not_false_iff, mR_stI, mN_stI, isO_stI, isA_stI, mI_stI, mR_mW, mN_mW, isO_mW, isA_mW, mI_mW, mW_mW, stI_mW, vp_0, nI_addL, nI_mulL, nI_subL, nI_ltL, nI_leL, nI_Llt, nI_Lle, nI_eqL, nI_Leq, nI_add, pk_mul, nI_ltI, nI_leI, nI_eq, vpi, nI_clamp, nI_toN, ↓g_M_reads_37, bk_oM hB, rm_5, rm_7, hT.1, nI_leI]
  by_cases h1 : tL f ≤ A
  · rw [if_pos h1]
    simp (maxSteps := 3000000) (disch := first | exact True.intro | assumption | omega) only [↓eq_self, Option.toList_some, Option.toList_none, List.nil_append, List.cons_append, wsum_0, wsum_1, wsum_2, wsum_3, wsum_4, lkill, ↓reduceIte, if_true, if_false, Bool.false_eq_true, and_true, true_and, and_self, or_self, true_or, or_true, not_true, not_false_iff, mR_stI, mN_stI, isO_stI, isA_stI, mI_stI, mR_mW, mN_mW, isO_mW, isA_mW, mI_mW, mW_mW, stI_mW, vp_0, nI_addL, nI_mulL, nI_subL, nI_ltL, nI_leL, nI_Llt, nI_Lle, nI_eqL, nI_Leq, nI_add, pk_mul, nI_ltI, nI_leI, nI_eq, vpi, nI_clamp, nI_toN, ↓g_M_reads_191]
    exact ⟨rfl, rfl⟩
  · rw [if_neg h1]
    simp (maxSteps := 3000000) (disch := first | exact True.intro | assumption | omega) only [↓eq_self, Option.toList_some, Option.toList_none, List.nil_append, List.cons_append, wsum_0, wsum_1, wsum_2, wsum_3, wsum_4, lkill, ↓reduceIte, if_true, if_false, Bool.false_eq_true, and_true, true_and, and_self, or_self, true_or, or_true, not_true, not_false_iff, mR_stI, mN_stI, isO_stI, isA_stI, mI_stI, mR_mW, mN_mW, isO_mW, isA_mW, mI_mW, mW_mW, stI_mW, vp_0, nI_addL, nI_mulL, nI_subL, nI_ltL, nI_leL, nI_Llt, nI_Lle, nI_eqL, nI_Leq, nI_add, pk_mul, nI_ltI, nI_leI, nI_eq, vpi, nI_clamp, nI_toN, ↓g_M_reads_48, bk_oM hB, rm_8]
    rw [if_neg (h.resolve_left h1)]
    simp (maxSteps := 3000000) (disch := first | exact True.intro | assumption | omega) only [↓eq_self, Option.toList_some, Option.toList_none, List.nil_append, List.cons_append, wsum_0, wsum_1, wsum_2, wsum_3, wsum_4, lkill, ↓reduceIte, if_true, if_false, Bool.false_eq_true, and_true, true_and, and_self, or_self, true_or, or_true, not_true, not_false_iff, mR_stI, mN_stI, isO_stI, isA_stI, mI_stI, mR_mW, mN_mW, isO_mW, isA_mW, mI_mW, mW_mW, stI_mW, vp_0, nI_addL, nI_mulL, nI_subL, nI_ltL, nI_leL, nI_Llt, nI_Lle, nI_eqL, nI_Leq, nI_add, pk_mul, nI_ltI, nI_leI, nI_eq, vpi, nI_clamp, nI_toN, ↓g_M_reads_191]
    exact ⟨rfl, rfl⟩
set_option maxRecDepth 100000 in
set_option maxHeartbeats 4000000 in
theorem lp_M_readsD (Z : Zt) (d : Nat) {M : Mem} {f : Nat → Nat → Int32} {Q : Option Value → Mem → Prop} {v x2 : Int32} {r b : Nat} {c1 : Nat} {rd1 : Nat → Int32} (hB : BkS M) (hT : MtD f) (hr : r < 4) (hb : b ≤ tL f)
    (hF : c1 = b ∨ dgB f c1 → X Z (d + 3) s_M_reads (mN M) (mN M) Q 37 [some (.ref 174), some (.int v), some (.int x2), some (.int (nI r)), some (.int (nI b))] [] (mW M (rqF f (abU f c1) (nI c1) rd1)))
    (hG : ¬ (c1 = b ∨ dgB f c1) → X Z (d + 3) s_M_reads (mN M) (mN M) Q 37 [some (.ref 174), some (.int v), some (.int x2), some (.int (nI r)), some (.int (nI b))] [] (mW M (rqF f (abU f c1) (-1000003) rd1))) : ∀ j c rd, c + j = b + 2 → c ≤ tL f → dgN f r j c rd = (c1, rd1) → X Z (d + 3) s_M_reads (mN M) (mN M) Q 106 [some (.ref 174), some (.int v), some (.int x2), some (.int (nI r)), some (.int (nI b))] [] (mW M (rqF f c (-1000003) rd)) := by
  have h60 := hT.2
  intro j
  induction j with
  | zero =>
    intro c rd hcj hc hd
    cases hd
    have h1 : b + 2 ≤ c1 := by omega
    refine X_runT (C := C_M_reads) (S := S_M_reads) (T := t_M_reads_106) 1000 kt_M_reads (okE_cons (ok_M_blanks Z d) (okE_cons (ok_M_name Z d) (okE_cons (ok_M_fails Z (d + 1)) (okE_cons (ok_M_isDigit Z d) (okE_cons (ok_M_next Z (d + 1)) okE_nil))))) ?_
    simp (maxSteps := 3000000) (disch := first | exact True.intro | assumption | omega) only [↓eq_self, Option.toList_some, Option.toList_none, List.nil_append, List.cons_append, wsum_0, wsum_1, wsum_2, wsum_3, wsum_4, lkill, ↓reduceIte, if_true, if_false, Bool.false_eq_true, and_true, true_and, and_self, or_self, true_or, or_true, not_true, not_false_iff, mR_stI, mN_stI, isO_stI, isA_stI, mI_stI, mR_mW, mN_mW, isO_mW, isA_mW, mI_mW, mW_mW, stI_mW, vp_0, nI_addL, nI_mulL, nI_subL, nI_ltL, nI_leL, nI_Llt, nI_Lle, nI_eqL, nI_Leq, nI_add, pk_mul, nI_ltI, nI_leI, nI_eq, vpi, nI_clamp, nI_toN, ↓g_M_reads_106, bk_oM hB, rm_7, nI_add, nI_leI, h1]
    by_cases g1 : c1 = b
    · have hxf := hF (Or.inl g1)
      simp (maxSteps := 3000000) (disch := first | exact True.intro | assumption | omega) only [↓eq_self, Option.toList_some, Option.toList_none, List.nil_append, List.cons_append, wsum_0, wsum_1, wsum_2, wsum_3, wsum_4, lkill, ↓reduceIte, if_true, if_false, Bool.false_eq_true, and_true, true_and, and_self, or_self, true_or, or_true, not_true, not_false_iff, mR_stI, mN_stI, isO_stI, isA_stI, mI_stI, mR_mW, mN_mW, isO_mW, isA_mW, mI_mW, mW_mW, stI_mW, vp_0, nI_addL, nI_mulL, nI_subL, nI_ltL, nI_leL, nI_Llt, nI_Lle, nI_eqL, nI_Leq, nI_add, pk_mul, nI_ltI, nI_leI, nI_eq, vpi, nI_clamp, nI_toN, ↓g_M_reads_160, bk_oM hB, rm_7, nI_eq, g1]
      rw [g1] at hxf
      simp (maxSteps := 3000000) (disch := first | exact True.intro | assumption | omega) only [↓eq_self, Option.toList_some, Option.toList_none, List.nil_append, List.cons_append, wsum_0, wsum_1, wsum_2, wsum_3, wsum_4, lkill, ↓reduceIte, if_true, if_false, Bool.false_eq_true, and_true, true_and, and_self, or_self, true_or, or_true, not_true, not_false_iff, mR_stI, mN_stI, isO_stI, isA_stI, mI_stI, mR_mW, mN_mW, isO_mW, isA_mW, mI_mW, mW_mW, stI_mW, vp_0, nI_addL, nI_mulL, nI_subL, nI_ltL, nI_leL, nI_Llt, nI_Lle, nI_eqL, nI_Leq, nI_add, pk_mul, nI_ltI, nI_leI, nI_eq, vpi, nI_clamp, nI_toN, ↓g_M_reads_176, ↓g_M_reads_184, ↓g_M_reads_188, bk_oM hB, rm_7, rm_fa hB, rm_bl hB hT hb]
      exact hxf
    · by_cases g2 : dgB f c1
      · have hxf := hF (Or.inr g2)
        simp (maxSteps := 3000000) (disch := first | exact True.intro | assumption | omega) only [↓eq_self, Option.toList_some, Option.toList_none, List.nil_append, List.cons_append, wsum_0, wsum_1, wsum_2, wsum_3, wsum_4, lkill, ↓reduceIte, if_true, if_false, Bool.false_eq_true, and_true, true_and, and_self, or_self, true_or, or_true, not_true, not_false_iff, mR_stI, mN_stI, isO_stI, isA_stI, mI_stI, mR_mW, mN_mW, isO_mW, isA_mW, mI_mW, mW_mW, stI_mW, vp_0, nI_addL, nI_mulL, nI_subL, nI_ltL, nI_leL, nI_Llt, nI_Lle, nI_eqL, nI_Leq, nI_add, pk_mul, nI_ltI, nI_leI, nI_eq, vpi, nI_clamp, nI_toN, ↓g_M_reads_160, ↓g_M_reads_169, ↓g_M_reads_173, ↓g_M_reads_176, ↓g_M_reads_184, ↓g_M_reads_188, bk_oM hB, rm_7, nI_eq, g1, rm_dg hB hT hc, bv_0n, g2, rm_fa hB, rm_bl hB hT hc]
        exact hxf
      · have hxg := hG (fun q => Or.elim q g1 g2)
        simp (maxSteps := 3000000) (disch := first | exact True.intro | assumption | omega) only [↓eq_self, Option.toList_some, Option.toList_none, List.nil_append, List.cons_append, wsum_0, wsum_1, wsum_2, wsum_3, wsum_4, lkill, ↓reduceIte, if_true, if_false, Bool.false_eq_true, and_true, true_and, and_self, or_self, true_or, or_true, not_true, not_false_iff, mR_stI, mN_stI, isO_stI, isA_stI, mI_stI, mR_mW, mN_mW, isO_mW, isA_mW, mI_mW, mW_mW, stI_mW, vp_0, nI_addL, nI_mulL, nI_subL, nI_ltL, nI_leL, nI_Llt, nI_Lle, nI_eqL, nI_Leq, nI_add, pk_mul, nI_ltI, nI_leI, nI_eq, vpi, nI_clamp, nI_toN, ↓g_M_reads_160, ↓g_M_reads_169, ↓g_M_reads_173, ↓g_M_reads_176, ↓g_M_reads_184, ↓g_M_reads_188, bk_oM hB, rm_7, nI_eq, g1, rm_dg hB hT hc, bv_0n, g2, rm_bl hB hT hc]
        exact hxg
  | succ j ih =>
    intro c rd hcj hc hd
    have h1 : ¬ b + 2 ≤ c := by omega
    have hdg : ∀ {K : Option Value → Mem → Prop}, pcall e_M_isDigit [.ref 174] (mW M (rqF f c (-1000003) rd)) K = K (some (.int (bv (dgB f c)))) (mW M (rqF f c (-1000003) rd)) := rm_dg hB hT hc
    have hnx : ∀ {K : Option Value → Mem → Prop}, pcall e_M_next [.ref 174] (mW M (rqF f c (-1000003) rd)) K = K (some (.int (nxB f c))) (mW M (rqF f c (-1000003) rd)) := rm_nx hB hT hc
    unfold dgN at hd
    refine X_runT (C := C_M_reads) (S := S_M_reads) (T := t_M_reads_106) 1000 kt_M_reads (okE_cons (ok_M_blanks Z d) (okE_cons (ok_M_name Z d) (okE_cons (ok_M_fails Z (d + 1)) (okE_cons (ok_M_isDigit Z d) (okE_cons (ok_M_next Z (d + 1)) okE_nil))))) ?_
    by_cases g0 : dgB f c
    · rw [if_pos g0] at hd
      have hlt := dgB_lt g0
      simp (maxSteps := 3000000) (disch := first | exact True.intro | assumption | omega) only [↓eq_self, Option.toList_some, Option.toList_none, List.nil_append, List.cons_append, wsum_0, wsum_1, wsum_2, wsum_3, wsum_4, lkill, ↓reduceIte, if_true, if_false, Bool.false_eq_true, and_true, true_and, and_self, or_self, true_or, or_true, not_true, not_false_iff, mR_stI, mN_stI, isO_stI, isA_stI, mI_stI, mR_mW, mN_mW, isO_mW, isA_mW, mI_mW, mW_mW, stI_mW, vp_0, nI_addL, nI_mulL, nI_subL, nI_ltL, nI_leL, nI_Llt, nI_Lle, nI_eqL, nI_Leq, nI_add, pk_mul, nI_ltI, nI_leI, nI_eq, vpi, nI_clamp, nI_toN, ↓g_M_reads_106, ↓g_M_reads_117, ↓g_M_reads_121, ↓g_M_reads_124, ↓g_M_reads_142, ↓g_M_reads_157, bk_oM hB, bk_m6 hB, md_r hB, rm_7, nI_add, nI_leI, h1, hdg, bv_0n, g0, rm_179, nI_toN, hnx, u2_rw, rm_rd, rm_at]
      exact ih (c + 1) _ (by omega) (by omega) hd
    · rw [if_neg g0] at hd
      cases hd
      simp (maxSteps := 3000000) (disch := first | exact True.intro | assumption | omega) only [↓eq_self, Option.toList_some, Option.toList_none, List.nil_append, List.cons_append, wsum_0, wsum_1, wsum_2, wsum_3, wsum_4, lkill, ↓reduceIte, if_true, if_false, Bool.false_eq_true, and_true, true_and, and_self, or_self, true_or, or_true, not_true, not_false_iff, mR_stI, mN_stI, isO_stI, isA_stI, mI_stI, mR_mW, mN_mW, isO_mW, isA_mW, mI_mW, mW_mW, stI_mW, vp_0, nI_addL, nI_mulL, nI_subL, nI_ltL, nI_leL, nI_Llt, nI_Lle, nI_eqL, nI_Leq, nI_add, pk_mul, nI_ltI, nI_leI, nI_eq, vpi, nI_clamp, nI_toN, ↓g_M_reads_106, ↓g_M_reads_117, ↓g_M_reads_121, bk_oM hB, rm_7, nI_add, nI_leI, h1, hdg, bv_0n, g0]
      by_cases g1 : c1 = b
      · have hxf := hF (Or.inl g1)
        simp (maxSteps := 3000000) (disch := first | exact True.intro | assumption | omega) only [↓eq_self, Option.toList_some, Option.toList_none, List.nil_append, List.cons_append, wsum_0, wsum_1, wsum_2, wsum_3, wsum_4, lkill, ↓reduceIte, if_true, if_false, Bool.false_eq_true, and_true, true_and, and_self, or_self, true_or, or_true, not_true, not_false_iff, mR_stI, mN_stI, isO_stI, isA_stI, mI_stI, mR_mW, mN_mW, isO_mW, isA_mW, mI_mW, mW_mW, stI_mW, vp_0, nI_addL, nI_mulL, nI_subL, nI_ltL, nI_leL, nI_Llt, nI_Lle, nI_eqL, nI_Leq, nI_add, pk_mul, nI_ltI, nI_leI, nI_eq, vpi, nI_clamp, nI_toN, ↓g_M_reads_160, bk_oM hB, rm_7, nI_eq, g1]
        rw [g1] at hxf
        simp (maxSteps := 3000000) (disch := first | exact True.intro | assumption | omega) only [↓eq_self, Option.toList_some, Option.toList_none, List.nil_append, List.cons_append, wsum_0, wsum_1, wsum_2, wsum_3, wsum_4, lkill, ↓reduceIte, if_true, if_false, Bool.false_eq_true, and_true, true_and, and_self, or_self, true_or, or_true, not_true, not_false_iff, mR_stI, mN_stI, isO_stI, isA_stI, mI_stI, mR_mW, mN_mW, isO_mW, isA_mW, mI_mW, mW_mW, stI_mW, vp_0, nI_addL, nI_mulL, nI_subL, nI_ltL, nI_leL, nI_Llt, nI_Lle, nI_eqL, nI_Leq, nI_add, pk_mul, nI_ltI, nI_leI, nI_eq, vpi, nI_clamp, nI_toN, ↓g_M_reads_176, ↓g_M_reads_184, ↓g_M_reads_188, bk_oM hB, rm_7, rm_fa hB, rm_bl hB hT hb]
        exact hxf
      · by_cases g2 : dgB f c1
        · have hxf := hF (Or.inr g2)
          simp (maxSteps := 3000000) (disch := first | exact True.intro | assumption | omega) only [↓eq_self, Option.toList_some, Option.toList_none, List.nil_append, List.cons_append, wsum_0, wsum_1, wsum_2, wsum_3, wsum_4, lkill, ↓reduceIte, if_true, if_false, Bool.false_eq_true, and_true, true_and, and_self, or_self, true_or, or_true, not_true, not_false_iff, mR_stI, mN_stI, isO_stI, isA_stI, mI_stI, mR_mW, mN_mW, isO_mW, isA_mW, mI_mW, mW_mW, stI_mW, vp_0, nI_addL, nI_mulL, nI_subL, nI_ltL, nI_leL, nI_Llt, nI_Lle, nI_eqL, nI_Leq, nI_add, pk_mul, nI_ltI, nI_leI, nI_eq, vpi, nI_clamp, nI_toN, ↓g_M_reads_160, ↓g_M_reads_169, ↓g_M_reads_173, ↓g_M_reads_176, ↓g_M_reads_184, ↓g_M_reads_188, bk_oM hB, rm_7, nI_eq, g1, rm_dg hB hT hc, bv_0n, g2, rm_fa hB, rm_bl hB hT hc]
          exact hxf
        · have hxg := hG (fun q => Or.elim q g1 g2)
          simp (maxSteps := 3000000) (disch := first | exact True.intro | assumption | omega) only [↓eq_self, Option.toList_some, Option.toList_none, List.nil_append, List.cons_append, wsum_0, wsum_1, wsum_2, wsum_3, wsum_4, lkill, ↓reduceIte, if_true, if_false, Bool.false_eq_true, and_true, true_and, and_self, or_self, true_or, or_true, not_true, not_false_iff, mR_stI, mN_stI, isO_stI, isA_stI, mI_stI, mR_mW, mN_mW, isO_mW, isA_mW, mI_mW, mW_mW, stI_mW, vp_0, nI_addL, nI_mulL, nI_subL, nI_ltL, nI_leL, nI_Llt, nI_Lle, nI_eqL, nI_Leq, nI_add, pk_mul, nI_ltI, nI_leI, nI_eq, vpi, nI_clamp, nI_toN, ↓g_M_reads_160, ↓g_M_reads_169, ↓g_M_reads_173, ↓g_M_reads_176, ↓g_M_reads_184, ↓g_M_reads_188, bk_oM hB, rm_7, nI_eq, g1, rm_dg hB hT hc, bv_0n, g2, rm_bl hB hT hc]
          exact hxg
set_option maxRecDepth 100000 in
set_option maxHeartbeats 4000000 in
theorem lp_M_reads2 (Z : Zt) (d : Nat) {M : Mem} {f : Nat → Nat → Int32} {G : Nat → Nat → Int32} (hB : BkS M) (hT : MtD f) : ∀ m A v rd x2 w3 w4, tL f < A + m → A ≤ tL f → rqF f (rwU f m A v rd).2.2 (rwU f m A v rd).1 (rwU f m A v rd).2.1 = G → X Z (d + 3) s_M_reads (mN M) (mN M) (ex none (mW M G)) 37 [some (.ref 174), some (.int v), some (.int x2), w3, w4] [] (mW M (rqF f A (-1000003) rd)) := by
  have h60 := hT.2
  intro m
  induction m with
  | zero => intro A v rd x2 w3 w4 h1 h2; omega
  | succ m ih =>
    intro A v rd x2 w3 w4 hm hA hG
    rw [rwU] at hG
    by_cases h1 : A < tL f
    · rw [if_pos h1] at hG
      have ha1 : A ≤ alU f A := skF_a
      have ha2 : alU f A ≤ tL f := skF_b hA
      have hb1 : alU f A ≤ abU f (alU f A) := skF_a
      have hb2 : abU f (alU f A) ≤ tL f := skF_b ha2
      have h1' : ¬ tL f ≤ A := by omega
      have hnm : ∀ {K : Option Value → Mem → Prop}, pcall e_M_name [.ref 174] (mW M (rqF f A (-1000003) rd)) K = K (some (.int (nmR f A (alU f A)))) (mW M (rqF f (alU f A) (-1000003) rd)) := rm_nm hB hT hA
      have hbl : ∀ {K : Option Value → Mem → Prop}, pcall e_M_blanks [.ref 174] (mW M (rqF f (alU f A) (-1000003) rd)) K = K none (mW M (rqF f (abU f (alU f A)) (-1000003) rd)) := rm_bl hB hT ha2
      have hfl : ∀ {x : Int32} {K : Option Value → Mem → Prop}, pcall e_M_fails [.ref 174, .int x] (mW M (rqF f (alU f A) (-1000003) rd)) K = K none (mW M (rqF f (alU f A) x rd)) := fun {x K} => rm_fa hB
      refine X_runT (C := C_M_reads) (S := S_M_reads) (T := t_M_reads_37) 1000 kt_M_reads (okE_cons (ok_M_blanks Z d) (okE_cons (ok_M_name Z d) (okE_cons (ok_M_fails Z (d + 1)) (okE_cons (ok_M_isDigit Z d) (okE_cons (ok_M_next Z (d + 1)) okE_nil))))) ?_
      simp (maxSteps := 3000000) (disch := first | exact True.intro | assumption | omega) only [↓eq_self, Option.toList_some, Option.toList_none, List.nil_append, List.cons_append, wsum_0, wsum_1, wsum_2, wsum_3, wsum_4, lkill, ↓reduceIte, if_true, if_false, Bool.false_eq_true, and_true, true_and, and_self, or_self, true_or, or_true, not_true, not_false_iff, mR_stI, mN_stI, isO_stI, isA_stI, mI_stI, mR_mW, mN_mW, isO_mW, isA_mW, mI_mW, mW_mW, stI_mW, vp_0, nI_addL, nI_mulL, nI_subL, nI_ltL, nI_leL, nI_Llt, nI_Lle, nI_eqL, nI_Leq, nI_add, pk_mul, nI_ltI, nI_leI, nI_eq, vpi, nI_clamp, nI_toN, ↓g_M_reads_37, ↓g_M_reads_48, bk_oM hB, rm_5, rm_7, hT.1, nI_leI, h1', rm_8]
      rcases nmR_cases f A (alU f A) with e | ⟨r, hr, e, hlt⟩
      · rw [if_pos (Or.inl e)] at hG
        subst hG
        simp (maxSteps := 3000000) (disch := first | exact True.intro | assumption | omega) only [↓eq_self, Option.toList_some, Option.toList_none, List.nil_append, List.cons_append, wsum_0, wsum_1, wsum_2, wsum_3, wsum_4, lkill, ↓reduceIte, if_true, if_false, Bool.false_eq_true, and_true, true_and, and_self, or_self, true_or, or_true, not_true, not_false_iff, mR_stI, mN_stI, isO_stI, isA_stI, mI_stI, mR_mW, mN_mW, isO_mW, isA_mW, mI_mW, mW_mW, stI_mW, vp_0, nI_addL, nI_mulL, nI_subL, nI_ltL, nI_leL, nI_Llt, nI_Lle, nI_eqL, nI_Leq, nI_add, pk_mul, nI_ltI, nI_leI, nI_eq, vpi, nI_clamp, nI_toN, ↓g_M_reads_57, ↓g_M_reads_66, bk_oM hB, rm_7, hnm]
        rw [if_pos e]
        simp (maxSteps := 3000000) (disch := first | exact True.intro | assumption | omega) only [↓eq_self, Option.toList_some, Option.toList_none, List.nil_append, List.cons_append, wsum_0, wsum_1, wsum_2, wsum_3, wsum_4, lkill, ↓reduceIte, if_true, if_false, Bool.false_eq_true, and_true, true_and, and_self, or_self, true_or, or_true, not_true, not_false_iff, mR_stI, mN_stI, isO_stI, isA_stI, mI_stI, mR_mW, mN_mW, isO_mW, isA_mW, mI_mW, mW_mW, stI_mW, vp_0, nI_addL, nI_mulL, nI_subL, nI_ltL, nI_leL, nI_Llt, nI_Lle, nI_eqL, nI_Leq, nI_add, pk_mul, nI_ltI, nI_leI, nI_eq, vpi, nI_clamp, nI_toN, ↓g_M_reads_82, ↓g_M_reads_87, ↓g_M_reads_188, bk_oM hB, hfl]
        exact lp_M_readsE Z d hB hT ha2 (Or.inr (nI_neN (by omega)))
      · have hne : ¬ nI r = -1000003 := nI_neN (by omega)
        rw [e, nI_toN (show r < 2 ^ 31 by omega)] at hG
        simp (maxSteps := 3000000) (disch := first | exact True.intro | assumption | omega) only [↓eq_self, Option.toList_some, Option.toList_none, List.nil_append, List.cons_append, wsum_0, wsum_1, wsum_2, wsum_3, wsum_4, lkill, ↓reduceIte, if_true, if_false, Bool.false_eq_true, and_true, true_and, and_self, or_self, true_or, or_true, not_true, not_false_iff, mR_stI, mN_stI, isO_stI, isA_stI, mI_stI, mR_mW, mN_mW, isO_mW, isA_mW, mI_mW, mW_mW, stI_mW, vp_0, nI_addL, nI_mulL, nI_subL, nI_ltL, nI_leL, nI_Llt, nI_Lle, nI_eqL, nI_Leq, nI_add, pk_mul, nI_ltI, nI_leI, nI_eq, vpi, nI_clamp, nI_toN, ↓g_M_reads_57, ↓g_M_reads_66, bk_oM hB, rm_7, hnm]
        rw [e, if_neg hne]
        simp (maxSteps := 3000000) (disch := first | exact True.intro | assumption | omega) only [↓eq_self, Option.toList_some, Option.toList_none, List.nil_append, List.cons_append, wsum_0, wsum_1, wsum_2, wsum_3, wsum_4, lkill, ↓reduceIte, if_true, if_false, Bool.false_eq_true, and_true, true_and, and_self, or_self, true_or, or_true, not_true, not_false_iff, mR_stI, mN_stI, isO_stI, isA_stI, mI_stI, mR_mW, mN_mW, isO_mW, isA_mW, mI_mW, mW_mW, stI_mW, vp_0, nI_addL, nI_mulL, nI_subL, nI_ltL, nI_leL, nI_Llt, nI_Lle, nI_eqL, nI_Leq, nI_add, pk_mul, nI_ltI, nI_leI, nI_eq, vpi, nI_clamp, nI_toN, ↓g_M_reads_73]
        by_cases g1 : (v >>> (nI r &&& 31)) &&& nI 1 = nI 1
        · rw [if_pos (Or.inr g1)] at hG
          subst hG
          rw [if_pos g1]
          simp (maxSteps := 3000000) (disch := first | exact True.intro | assumption | omega) only [↓eq_self, Option.toList_some, Option.toList_none, List.nil_append, List.cons_append, wsum_0, wsum_1, wsum_2, wsum_3, wsum_4, lkill, ↓reduceIte, if_true, if_false, Bool.false_eq_true, and_true, true_and, and_self, or_self, true_or, or_true, not_true, not_false_iff, mR_stI, mN_stI, isO_stI, isA_stI, mI_stI, mR_mW, mN_mW, isO_mW, isA_mW, mI_mW, mW_mW, stI_mW, vp_0, nI_addL, nI_mulL, nI_subL, nI_ltL, nI_leL, nI_Llt, nI_Lle, nI_eqL, nI_Leq, nI_add, pk_mul, nI_ltI, nI_leI, nI_eq, vpi, nI_clamp, nI_toN, ↓g_M_reads_82, ↓g_M_reads_87, ↓g_M_reads_188, bk_oM hB, hfl]
          exact lp_M_readsE Z d hB hT ha2 (Or.inr (nI_neN (by omega)))
        · rw [if_neg (fun q => Or.elim q hne g1)] at hG
          rw [if_neg g1]
          have hdl := dgN_le (f := f) (r := r) 2 (abU f (alU f A)) rd hb2
          simp (maxSteps := 3000000) (disch := first | exact True.intro | assumption | omega) only [↓eq_self, Option.toList_some, Option.toList_none, List.nil_append, List.cons_append, wsum_0, wsum_1, wsum_2, wsum_3, wsum_4, lkill, ↓reduceIte, if_true, if_false, Bool.false_eq_true, and_true, true_and, and_self, or_self, true_or, or_true, not_true, not_false_iff, mR_stI, mN_stI, isO_stI, isA_stI, mI_stI, mR_mW, mN_mW, isO_mW, isA_mW, mI_mW, mW_mW, stI_mW, vp_0, nI_addL, nI_mulL, nI_subL, nI_ltL, nI_leL, nI_Llt, nI_Lle, nI_eqL, nI_Leq, nI_add, pk_mul, nI_ltI, nI_leI, nI_eq, vpi, nI_clamp, nI_toN, ↓g_M_reads_90, ↓g_M_reads_100, bk_oM hB, hbl, rm_7]
          generalize hdd : dgN f r 2 (abU f (alU f A)) rd = D at *
          obtain ⟨c1, rd1⟩ := D
          have hc1 : abU f c1 ≤ tL f := skF_b hdl.2
          have hc0 : c1 ≤ abU f c1 := skF_a
          have hdl1 := hdl.1
          refine lp_M_readsD Z d hB hT hr hb2 (fun q => ?_) (fun q => ?_) 2 (abU f (alU f A)) rd rfl hb2 hdd
          · rw [if_pos q] at hG
            subst hG
            exact lp_M_readsE Z d hB hT hc1 (Or.inr (nI_neN (by have := hdl.2; omega)))
          · rw [if_neg q] at hG
            exact ih (abU f c1) _ rd1 _ _ _ (by omega) hc1 hG
    · rw [if_neg h1] at hG
      subst hG
      exact lp_M_readsE Z d (A := A) (F := -1000003) (rd := rd) hB hT hA (Or.inl (by omega))
def zrU (u : Nat → Int32) (i : Nat) : Nat → Int32 := fun y => if y < i then nI 0 else u y
theorem zrU_s (u : Nat → Int32) (i : Nat) : upF (zrU u i) i (nI 0) = zrU u (i + 1) := by
  funext y
  unfold upF zrU
  by_cases h : y = i
  · rw [if_pos h, if_pos (by omega)]
  · rw [if_neg h]
    by_cases h2 : y < i
    · rw [if_pos h2, if_pos (by omega)]
    · rw [if_neg h2, if_neg (by omega)]
set_option maxRecDepth 100000 in
set_option maxHeartbeats 4000000 in
theorem lp_M_reads1 (Z : Zt) (d : Nat) {M : Mem} {f : Nat → Nat → Int32} {G : Nat → Nat → Int32} (hB : BkS M) (hT : MtD f) (hG : rdW f = G) : ∀ n i, i + n = 4 → X Z (d + 3) s_M_reads (mN M) (mN M) (ex none (mW M G)) 15 [some (.ref 174), some (.int (nI 0)), some (.int (nI i)), none, none] [] (mW M (rqF f 0 (-1000003) (zrU (f 179) i))) := by
  intro n
  induction n with
  | zero =>
    intro i hi
    obtain rfl : i = 4 := by omega
    have hbl : ∀ {K : Option Value → Mem → Prop}, pcall e_M_blanks [.ref 174] (mW M (rqF f 0 (-1000003) (zrU (f 179) 4))) K = K none (mW M (rqF f (abU f 0) (-1000003) (zrU (f 179) 4))) := rm_bl hB hT (Nat.zero_le _)
    have h60 := hT.2
    refine X_runT (C := C_M_reads) (S := S_M_reads) (T := t_M_reads_15) 1000 kt_M_reads (okE_cons (ok_M_blanks Z d) (okE_cons (ok_M_name Z d) (okE_cons (ok_M_fails Z (d + 1)) (okE_cons (ok_M_isDigit Z d) (okE_cons (ok_M_next Z (d + 1)) okE_nil))))) ?_
    simp (maxSteps := 3000000) (disch := first | exact True.intro | assumption | omega) only [↓eq_self, Option.toList_some, Option.toList_none, List.nil_append, List.cons_append, wsum_0, wsum_1, wsum_2, wsum_3, wsum_4, lkill, ↓reduceIte, if_true, if_false, Bool.false_eq_true, and_true, true_and, and_self, or_self, true_or, or_true, not_true, not_false_iff, mR_stI, mN_stI, isO_stI, isA_stI, mI_stI, mR_mW, mN_mW, isO_mW, isA_mW, mI_mW, mW_mW, stI_mW, vp_0, nI_addL, nI_mulL, nI_subL, nI_ltL, nI_leL, nI_Llt, nI_Lle, nI_eqL, nI_Leq, nI_add, pk_mul, nI_ltI, nI_leI, nI_eq, vpi, nI_clamp, nI_toN, ↓g_M_reads_15, ↓g_M_reads_20, ↓g_M_reads_33, bk_oM hB, nI_leI, Nat.le_refl, hbl]
    exact lp_M_reads2 Z d hB hT 61 (abU f 0) (nI 0) _ _ _ _ (by omega) (skF_b (Nat.zero_le _)) hG
  | succ n ih =>
    intro i hi
    have h1 : ¬ 4 ≤ i := by omega
    have h2 : i < 4 := by omega
    refine X_runT (C := C_M_reads) (S := S_M_reads) (T := t_M_reads_15) 1000 kt_M_reads (okE_cons (ok_M_blanks Z d) (okE_cons (ok_M_name Z d) (okE_cons (ok_M_fails Z (d + 1)) (okE_cons (ok_M_isDigit Z d) (okE_cons (ok_M_next Z (d + 1)) okE_nil))))) ?_
    simp (maxSteps := 3000000) (disch := first | exact True.intro | assumption | omega) only [↓eq_self, Option.toList_some, Option.toList_none, List.nil_append, List.cons_append, wsum_0, wsum_1, wsum_2, wsum_3, wsum_4, lkill, ↓reduceIte, if_true, if_false, Bool.false_eq_true, and_true, true_and, and_self, or_self, true_or, or_true, not_true, not_false_iff, mR_stI, mN_stI, isO_stI, isA_stI, mI_stI, mR_mW, mN_mW, isO_mW, isA_mW, mI_mW, mW_mW, stI_mW, vp_0, nI_addL, nI_mulL, nI_subL, nI_ltL, nI_leL, nI_Llt, nI_Lle, nI_eqL, nI_Leq, nI_add, pk_mul, nI_ltI, nI_leI, nI_eq, vpi, nI_clamp, nI_toN, ↓g_M_reads_15, ↓g_M_reads_20, bk_oM hB, bk_m6 hB, md_r hB, nI_leI, h1, h2, nI_add, nI_toN, rm_179, u2_rw, rm_rd, zrU_s]
    exact ih (i + 1) (by omega)
set_option maxRecDepth 100000 in
set_option maxHeartbeats 4000000 in
theorem ok_M_reads (Z : Zt) (d : Nat) : okE Z (d + 3) i_M_reads e_M_reads := mk_M_reads fun o M hp => by
  obtain ⟨rfl, hB, hT⟩ := hp
  have e : rwF (mI M) 174 (upF (upF (mI M 174) 7 (nI 0)) 8 (-1000003)) = rqF (mI M) 0 (-1000003) (zrU (mI M 179) 0) := by
    rw [rm_form, show zrU (mI M 179) 0 = rwF (mI M) 174 (upF (upF (mI M 174) 7 (nI 0)) 8 (-1000003)) 179 from by rw [rw_ne (by omega)]; funext y; exact if_neg (Nat.not_lt_zero _), rwF_self]
  refine Gm_run (C := C_M_reads) (S := S_M_reads) [some (.ref 174), none, none, none, none] 1000 kt_M_reads (okE_cons (ok_M_blanks Z d) (okE_cons (ok_M_name Z d) (okE_cons (ok_M_fails Z (d + 1)) (okE_cons (ok_M_isDigit Z d) (okE_cons (ok_M_next Z (d + 1)) okE_nil))))) (ex_n rfl) ?_
  simp (maxSteps := 3000000) (disch := first | exact True.intro | assumption | omega) only [↓eq_self, Option.toList_some, Option.toList_none, List.nil_append, List.cons_append, wsum_0, wsum_1, wsum_2, wsum_3, wsum_4, lkill, ↓reduceIte, if_true, if_false, Bool.false_eq_true, and_true, true_and, and_self, or_self, true_or, or_true, not_true, not_false_iff, mR_stI, mN_stI, isO_stI, isA_stI, mI_stI, mR_mW, mN_mW, isO_mW, isA_mW, mI_mW, mW_mW, stI_mW, vp_0, nI_addL, nI_mulL, nI_subL, nI_ltL, nI_leL, nI_Llt, nI_Lle, nI_eqL, nI_Leq, nI_add, pk_mul, nI_ltI, nI_leI, nI_eq, vpi, nI_clamp, nI_toN, ↓g_M_reads_0, ↓g_M_reads_11, bk_oM hB, u2_rw, rw_at, rw_rw, e]
  exact lp_M_reads1 Z d hB hT rfl 4 0 rfl
def e_M_fault : Ent := (fun av M => ∃ (o : Nat), av = [.ref o] ∧ (o = 174 ∧ BkS M ∧ MtD (mI M)), fun av M r_ M_ => ∀ (o : Nat), av = [.ref o] → r_ = (some (.int (rdX (mI M)).1)) ∧ M_ = (mW M (rdW (mI M))))
theorem pc_M_fault {o : Nat} {M : Mem} {K : Option Value → Mem → Prop} (hp : o = 174 ∧ BkS M ∧ MtD (mI M)) : pcall e_M_fault [.ref o] M K = K (some (.int (rdX (mI M)).1)) (mW M (rdW (mI M))) := propext ⟨fun h => h.2 _ _ (fun o' e => by simp only [List.cons.injEq, Value.ref.injEq, Value.int.injEq, Value.long.injEq, and_true] at e; have q0 := e; obtain rfl := q0; exact ⟨rfl, rfl⟩), fun h => ⟨⟨o, rfl, hp⟩, fun r_ M_ q => by obtain ⟨rfl, rfl⟩ := q _ rfl; exact h⟩⟩
theorem mk_M_fault {Z : Zt} {d : Nat} (h : ∀ (o : Nat) (M : Mem), (o = 174 ∧ BkS M ∧ MtD (mI M)) → Gm Z d s_M_fault [.ref o] M (ex (some (.int (rdX (mI M)).1)) (mW M (rdW (mI M))))) : okE Z d i_M_fault e_M_fault := by
  rintro av M ⟨o, rfl, hp⟩
  exact Gm.cons (h o M  hp) (fun r_ M_ q o' e => by simp only [List.cons.injEq, Value.ref.injEq, Value.int.injEq, Value.long.injEq, and_true] at e; have q0 := e; obtain rfl := q0; exact q)
def C_M_fault : List (Nat × Ent) := [(i_M_reads, e_M_reads)]
abbrev S_M_fault : List Nat := []
def t_M_fault_4 : List PI := (4, 1, 1, 0, 0, 0, []) :: (5, 8, 0, 5, 8, 0, [49]) :: (8, 9, 0, 0, 0, 0, []) :: []
def t_M_fault_0 : List PI := (0, 1, 1, 0, 0, 0, []) :: (1, 11, 0, 5, 119, 0, [74, 1]) :: t_M_fault_4
theorem kt_M_fault : okP s_M_fault t_M_fault_0 := k_M_fault
theorem g_M_fault_0 {Z : Zt} {nF f : Nat} {Kx : Nat → Kt} {Q : Option Value → Mem → Prop} {M : Mem} {x1 : Nat} : run Z nF C_M_fault S_M_fault Kx Q (f + 2) t_M_fault_0 [some (.ref (x1))] [] M = (((isO (M) (x1) 5) ∧ wsum [] ≤ 8) ∧ pcall e_M_reads [.ref (x1)] (M) (fun v M_ => run Z nF C_M_fault S_M_fault Kx Q f t_M_fault_4 [some (.ref (x1))] (v.toList ++ []) M_)) := rfl
theorem g_M_fault_4 {Z : Zt} {nF f : Nat} {Kx : Nat → Kt} {Q : Option Value → Mem → Prop} {M : Mem} {x1 : Nat} : run Z nF C_M_fault S_M_fault Kx Q (f + 3) t_M_fault_4 [some (.ref (x1))] [] M = (isO (M) (x1) 5 ∧ Q (some (.int (mI (M) (x1) 8))) (M)) := rfl
set_option maxRecDepth 100000 in
set_option maxHeartbeats 4000000 in
theorem ok_M_fault (Z : Zt) (d : Nat) : okE Z (d + 4) i_M_fault e_M_fault := mk_M_fault fun o M hp => by
  obtain ⟨rfl, hB, hT⟩ := hp
  have hrd : ∀ {K : Option Value → Mem → Prop}, pcall e_M_reads [.ref 174] M K = K none (mW M (rdW (mI M))) := pc_M_reads (o := 174) (M := M) ⟨rfl, hB, hT⟩
  have e8 : rdW (mI M) 174 8 = (rdX (mI M)).1 := rm_8 _ _ _ _
  refine Gm_run (C := C_M_fault) (S := S_M_fault) [some (.ref 174)] 1000 kt_M_fault (okE_cons (ok_M_reads Z d) okE_nil) (ex_n rfl) ?_
  simp (maxSteps := 3000000) (disch := first | exact True.intro | assumption | omega) only [↓eq_self, Option.toList_some, Option.toList_none, List.nil_append, List.cons_append, wsum_0, wsum_1, wsum_2, wsum_3, wsum_4, lkill, ↓reduceIte, if_true, if_false, Bool.false_eq_true, and_true, true_and, and_self, or_self, true_or, or_true, not_true, not_false_iff, mR_stI, mN_stI, isO_stI, isA_stI, mI_stI, mR_mW, mN_mW, isO_mW, isA_mW, mI_mW, mW_mW, stI_mW, vp_0, nI_addL, nI_mulL, nI_subL, nI_ltL, nI_leL, nI_Llt, nI_Lle, nI_eqL, nI_Leq, nI_add, pk_mul, nI_ltI, nI_leI, nI_eq, vpi, nI_clamp, nI_toN, ↓g_M_fault_0, ↓g_M_fault_4, bk_oM hB, hrd, e8]
  exact ⟨rfl, rfl⟩
