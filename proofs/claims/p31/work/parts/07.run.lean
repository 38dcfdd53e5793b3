/-! ===== programs: a method's instructions as data, and what is to be shown of them, computed ===== -/
abbrev Ins : Type := Nat × Nat × Nat × Nat × Int32 × List Nat
abbrev PI : Type := Nat × Ins
/-- a contract as a caller uses it: what must hold before, what holds behind -/
abbrev Ent : Type := (List Value → Mem → Prop) × (List Value → Mem → Option Value → Mem → Prop)
def f4 (a : Nat) : Fin 4 := Fin.ofNat 4 a
/-- the cells' strings of a field -/
def jI (pc : Nat) (x : Ins) : Instr × Nat := match x with
  | (g, o, a, b, v, tl) => match g with
    | 0 => match o with
      | 0 => match b with
        | 0 => (.iconst v.toInt, 1)
        | 1 => (.bipush v.toInt, 2)
        | 2 => (.sipush v.toInt, 3)
        | _ => (.ldc a, 2)
      | 1 => (.ldc2_w a, 3)
      | 5 => (.ldc2_w a, 3)
      | 2 => (.ldc (strL.getD a (0, "")).1, 2)
      | _ => (.getstatic a, 3)
    | 1 => match o with
      | 0 => if a < 4 then (.iload_n (f4 a), 1) else (.iload a, 2)
      | 1 => if a < 4 then (.aload_n (f4 a), 1) else (.aload a, 2)
      | 2 => if a < 4 then (.lload_n (f4 a), 1) else (.lload a, 2)
      | 3 => if a < 4 then (.istore_n (f4 a), 1) else (.istore a, 2)
      | 4 => if a < 4 then (.astore_n (f4 a), 1) else (.astore a, 2)
      | 5 => if a < 4 then (.lstore_n (f4 a), 1) else (.lstore a, 2)
      | _ => (.iinc a v.toInt, 3)
    | 2 => match o with
      | 0 => (.iadd, 1)
      | 1 => (.isub, 1)
      | 2 => (.imul, 1)
      | 3 => (.idiv, 1)
      | 4 => (.irem, 1)
      | 5 => (.ineg, 1)
      | 6 => (.iand, 1)
      | 7 => (.ior, 1)
      | 8 => (.ishl, 1)
      | _ => (.ishr, 1)
    | 3 => match o with
      | 0 => (.i2l, 1)
      | 1 => (.ladd, 1)
      | 2 => (.lmul, 1)
      | 3 => (.lcmp, 1)
      | _ => (.i2c, 1)
    | 4 => match o with
      | 0 => (.if_icmp .eq ((a : Int) - pc), 3)
      | 1 => (.if_icmp .ne ((a : Int) - pc), 3)
      | 2 => (.if_icmp .lt ((a : Int) - pc), 3)
      | 3 => (.if_icmp .ge ((a : Int) - pc), 3)
      | 4 => (.if_icmp .gt ((a : Int) - pc), 3)
      | _ => (.if_icmp .le ((a : Int) - pc), 3)
    | 5 => match o with
      | 0 => (.ifCond .eq ((a : Int) - pc), 3)
      | 1 => (.ifCond .ne ((a : Int) - pc), 3)
      | 2 => (.ifCond .lt ((a : Int) - pc), 3)
      | 3 => (.ifCond .ge ((a : Int) - pc), 3)
      | 4 => (.ifCond .gt ((a : Int) - pc), 3)
      | _ => (.ifCond .le ((a : Int) - pc), 3)
    | 6 => match o with
      | 0 => (.goto ((a : Int) - pc), 3)
      | _ => (.tableswitch ((a : Int) - pc) 0 ((tl.length : Int) - 1) (tl.map fun (t : Nat) => ((t : Int) - (pc : Int))).toArray, b)
    | 7 => match o with
      | 0 => (.dup, 1)
      | 1 => (.dup2, 1)
      | _ => (.pop, 1)
    | 8 => match o with
      | 0 => (.getfield (tl.getD 0 0), 3)
      | 1 => (.getfield (tl.getD 0 0), 3)
      | 2 => (.getfield (tl.getD 0 0), 3)
      | 3 => (.getfield (tl.getD 0 0), 3)
      | 4 => (.iaload, 1)
      | 5 => (.aaload, 1)
      | 6 => (.arraylength, 1)
      | 7 => (.getfield (tl.getD 0 0), 3)
      | 8 => (.getfield (tl.getD 0 0), 3)
      | 9 => (.baload, 1)
      | 10 => (.arraylength, 1)
      | 11 => (.iaload, 1)
      | _ => (.arraylength, 1)
    | 9 => match o with
      | 0 => (.ireturn, 1)
      | 1 => (.ireturn, 1)
      | 2 => (.ireturn, 1)
      | 3 => (.lreturn, 1)
      | 4 => (.areturn, 1)
      | _ => (.return_, 1)
    | 10 => match o with
      | 0 => (.putfield (tl.getD 0 0), 3)
      | 1 => (.putfield (tl.getD 0 0), 3)
      | 2 => (.putfield (tl.getD 0 0), 3)
      | 3 => (.putfield (tl.getD 0 0), 3)
      | 4 => (.iastore, 1)
      | 5 => (.aastore, 1)
      | 6 => (.new (tl.getD 0 0), 3)
      | 7 => (.newarray .int, 2)
      | _ => (.anewarray (tl.getD 0 0), 3)
    | 11 => match o with
      | 0 => (.invokevirtual (tl.getD 0 0), 3)
      | 1 => (.invokestatic (tl.getD 0 0), 3)
      | 2 => (.invokestatic (tl.getD 0 0), 3)
      | 3 => (.invokevirtual (tl.getD 0 0), 3)
      | 4 => (.invokespecial (tl.getD 0 0), 3)
      | _ => (.invokespecial (tl.getD 0 0), 3)
    | 12 => match o with
      | 0 => (.invokestatic (tl.getD 0 0), 3)
      | 1 => (.invokestatic (tl.getD 0 0), 3)
      | 2 => (.invokestatic (tl.getD 0 0), 3)
      | _ => (.invokespecial (tl.getD 0 0), 3)
    | _ => (.nop, b)
/-! what each instruction asks, and where it goes on -/
def e0 (o a : Nat) (v : Int32) (k : List Value → Prop) (st : List Value) : Prop := match o with
  | 0 => k (.int v :: st)
  | 1 => k (.long 31 :: st)
  | 5 => k (.long 113 :: st)
  | 2 => k (.ref (a + 2) :: st)
  | 3 => k (.int 1 :: st)
  | 4 => k (.ref 10 :: st)
  | _ => False
def e1 (o a : Nat) (v : Int32) (k : List (Option Value) → List Value → Prop) (lv : List (Option Value)) (st : List Value) : Prop := match o with
  | 0 => match lget lv a with
    | some (.int x) => k lv (.int x :: st)
    | _ => False
  | 1 => match lget lv a with
    | some (.ref x) => k lv (.ref x :: st)
    | _ => False
  | 2 => match lget lv a with
    | some (.long x) => k lv (.long x :: st)
    | _ => False
  | 3 => match st with
    | .int x :: r => k (lset lv a (.int x)) r
    | _ => False
  | 4 => match st with
    | .ref x :: r => k (lset lv a (.ref x)) r
    | _ => False
  | 5 => match st with
    | .long x :: r => k (lset2 lv a (.long x)) r
    | _ => False
  | 6 => match lget lv a with
    | some (.int x) => k (lset lv a (.int (x + v))) st
    | _ => False
  | _ => False
def e2 (o : Nat) (k : List Value → Prop) (st : List Value) : Prop := match o with
  | 0 => match st with
    | .int y :: .int x :: r => k (.int (x + y) :: r)
    | _ => False
  | 1 => match st with
    | .int y :: .int x :: r => k (.int (x - y) :: r)
    | _ => False
  | 2 => match st with
    | .int y :: .int x :: r => k (.int (x * y) :: r)
    | _ => False
  | 3 => match st with
    | .int y :: .int x :: r => ¬ y = 0 ∧ k (.int (x / y) :: r)
    | _ => False
  | 4 => match st with
    | .int y :: .int x :: r => ¬ y = 0 ∧ k (.int (x - x / y * y) :: r)
    | _ => False
  | 5 => match st with
    | .int x :: r => k (.int (-x) :: r)
    | _ => False
  | 6 => match st with
    | .int y :: .int x :: r => k (.int (x &&& y) :: r)
    | _ => False
  | 7 => match st with
    | .int y :: .int x :: r => k (.int (x ||| y) :: r)
    | _ => False
  | 8 => match st with
    | .int y :: .int x :: r => k (.int (x <<< (y &&& 31)) :: r)
    | _ => False
  | 9 => match st with
    | .int y :: .int x :: r => k (.int (x >>> (y &&& 31)) :: r)
    | _ => False
  | _ => False
def e3 (o : Nat) (k : List Value → Prop) (st : List Value) : Prop := match o with
  | 0 => match st with
    | .int x :: r => k (.long x.toInt64 :: r)
    | _ => False
  | 1 => match st with
    | .long y :: .long x :: r => k (.long (x + y) :: r)
    | _ => False
  | 2 => match st with
    | .long y :: .long x :: r => k (.long (x * y) :: r)
    | _ => False
  | 3 => match st with
    | .long y :: .long x :: r => k (.int (lg_cmp x y) :: r)
    | _ => False
  | 4 => match st with
    | .int x :: r => k (.int (x.toUInt32 % 65536).toInt32 :: r)
    | _ => False
  | _ => False
def e4 (o : Nat) (kT kF : List Value → Prop) (st : List Value) : Prop := match st with
  | .int y :: .int x :: r => match o with
    | 0 => if x = y then kT r else kF r
    | 1 => if x = y then kF r else kT r
    | 2 => if x < y then kT r else kF r
    | 3 => if y ≤ x then kT r else kF r
    | 4 => if y < x then kT r else kF r
    | 5 => if x ≤ y then kT r else kF r
    | _ => False
  | _ => False
def e5 (o : Nat) (kT kF : List Value → Prop) (st : List Value) : Prop := match st with
  | .int x :: r => match o with
    | 0 => if x = 0 then kT r else kF r
    | 1 => if x = 0 then kF r else kT r
    | 2 => if x < 0 then kT r else kF r
    | 3 => if 0 ≤ x then kT r else kF r
    | 4 => if 0 < x then kT r else kF r
    | 5 => if x ≤ 0 then kT r else kF r
    | _ => False
  | _ => False
/-- a table: from 0 on -/
def tsw (k : Nat → Prop) (dflt : Nat) (x : Int32) (i : Nat) (tl : List Nat) : Prop := match tl with
  | [] => k dflt
  | t :: r => if x = nI i then k t else tsw k dflt x (i + 1) r
def e7 (o : Nat) (k : List Value → Prop) (st : List Value) : Prop := match o with
  | 0 => match st with
    | .int x :: r => k (.int x :: .int x :: r)
    | .ref x :: r => k (.ref x :: .ref x :: r)
    | _ => False
  | 1 => match st with
    | .int y :: .ref x :: r => k (.int y :: .ref x :: .int y :: .ref x :: r)
    | _ => False
  | 2 => match st with
    | .int _ :: r => k r
    | .ref _ :: r => k r
    | _ => False
  | _ => False
/-- a text's or its bytes' number -/
def e8 (Z : Zt) (o a b : Nat) (k : List Value → Prop) (st : List Value) (M : Mem) : Prop := match o with
  | 0 => match st with
    | .ref i :: r => isO M i a ∧ k (.int (mI M i b) :: r)
    | _ => False
  | 1 => match st with
    | .ref i :: r => isO M i a ∧ k (.ref (mR M i b) :: r)
    | _ => False
  | 2 => match st with
    | .ref i :: r => isO M i a ∧ k (.int (nI (mR M i b)) :: r)
    | _ => False
  | 3 => match st with
    | .ref i :: r => isO M i a ∧ k (.long (mL M i) :: r)
    | _ => False
  | 4 => match st with
    | .int j :: .ref i :: r => isA M i j ∧ k (.int (mI M i j.toNatClampNeg) :: r)
    | _ => False
  | 5 => match st with
    | .int j :: .ref i :: r => (i < mN M ∧ (kd i).1 = 2 ∧ vp_in j (kd i).2) ∧ k (.ref (mR M i j.toNatClampNeg) :: r)
    | _ => False
  | 6 => match st with
    | .ref i :: r => (i < mN M ∧ (kd i).1 = 1) ∧ k (.int (nI (kd i).2) :: r)
    | _ => False
  | 7 => match st with
    | .ref i :: r => (2 ≤ i ∧ i < 6) ∧ k (.ref (i + 4) :: r)
    | _ => False
  | 8 => match st with
    | .ref i :: r => (2 ≤ i ∧ i < 6) ∧ k (.int 0 :: r)
    | _ => False
  | 9 => match st with
    | .int j :: .ref i :: r => ((6 ≤ i ∧ i < 10) ∧ vp_in j (lenL.getD (i - 6) 0)) ∧ k (.int ((bytL.getD (i - 6) []).getD j.toNatClampNeg 0) :: r)
    | _ => False
  | 10 => match st with
    | .ref i :: r => (6 ≤ i ∧ i < 10) ∧ k (.int (nI (lenL.getD (i - 6) 0)) :: r)
    | _ => False
  | 11 => match st with
    | .int j :: .ref i :: r => (i = 1 ∧ vp_in j (zn Z)) ∧ k (.int (zx Z j.toNatClampNeg) :: r)
    | _ => False
  | 12 => match st with
    | .ref i :: r => i = 1 ∧ k (.int (nI (zn Z)) :: r)
    | _ => False
  | _ => False
def e9 (o : Nat) (Q : Option Value → Mem → Prop) (st : List Value) (M : Mem) : Prop := match o with
  | 0 => match st with
    | [.int v] => Q (some (.int v)) M
    | _ => False
  | 1 => match st with
    | [.int v] => (v = 0 ∨ v = 1) ∧ Q (some (.int v)) M
    | _ => False
  | 2 => match st with
    | [.int v] => (∃ j : Nat, j < 128 ∧ v = nI j) ∧ Q (some (.int v)) M
    | _ => False
  | 3 => match st with
    | [.long v] => Q (some (.long v)) M
    | _ => False
  | 4 => match st with
    | [.ref v] => Q (some (.ref v)) M
    | _ => False
  | 5 => match st with
    | [] => Q none M
    | _ => False
  | _ => False
def e10 (nF o a b : Nat) (k : List Value → Mem → Prop) (st : List Value) (M : Mem) : Prop := match o with
  | 0 => match st with
    | .int v :: .ref i :: r => isO M i a ∧ k r (stI M i b v)
    | _ => False
  | 1 => match st with
    | .ref v :: .ref i :: r => isO M i a ∧ k r (stR M i b v)
    | _ => False
  | 2 => match st with
    | .int v :: .ref i :: r => isO M i a ∧ ∃ n, v = nI n ∧ k r (stR M i b n)
    | _ => False
  | 3 => match st with
    | .long v :: .ref i :: r => isO M i a ∧ k r (stL M i v)
    | _ => False
  | 4 => match st with
    | .int v :: .int j :: .ref i :: r => isA M i j ∧ k r (stI M i j.toNatClampNeg v)
    | _ => False
  | 5 => match st with
    | .ref v :: .int j :: .ref i :: r => ((i < mN M ∧ (kd i).1 = 2 ∧ vp_in j (kd i).2) ∧ isO M v 2) ∧ k r (stR M i j.toNatClampNeg v)
    | _ => False
  | 6 => (kd (mN M) = (a + 3, cW a) ∧ mN M + 1 ≤ nF) ∧ k (.ref (mN M) :: st) (al M)
  | 7 => match st with
    | .int v :: r => ∃ len, (v = nI len ∧ kd (mN M) = (1, len) ∧ len < 100000 ∧ mN M + 1 ≤ nF) ∧ k (.ref (mN M) :: r) (al M)
    | _ => False
  | 8 => match st with
    | .int v :: r => ∃ len, (v = nI len ∧ kd (mN M) = (2, len) ∧ len < 100000 ∧ mN M + 1 ≤ nF) ∧ k (.ref (mN M) :: r) (al M)
    | _ => False
  | _ => False
def e12 (o : Nat) (k : List Value → Mem → Prop) (st : List Value) (M : Mem) : Prop := match o with
  | 0 => match st with
    | .int y :: .int x :: r => wsum r ≤ 8 ∧ k (.int (if x < y then y else x) :: r) M
    | _ => False
  | 1 => match st with
    | .int y :: .int x :: r => wsum r ≤ 8 ∧ k (.int (if y < x then y else x) :: r) M
    | _ => False
  | 2 => match st with
    | .int vn :: .int vd :: .ref b :: .int vs :: .ref a :: r => ∃ n dp sp : Nat, (vn = nI n ∧ vd = nI dp ∧ vs = nI sp ∧ sp < 2 ^ 31 ∧ dp < 2 ^ 31 ∧ n < 2 ^ 31 ∧ wsum r ≤ 8 ∧ (a < mN M ∧ (kd a).1 = 1) ∧ (b < mN M ∧ (kd b).1 = 1) ∧ sp + n ≤ (kd a).2 ∧ dp + n ≤ (kd b).2) ∧ k r (cpI M a sp b dp n)
    | _ => False
  | 3 => match st with
    | .ref a :: r => (16 ≤ a ∧ wsum r ≤ 8) ∧ k r M
    | _ => False
  | _ => False
/-- calls: by the entry that the caller brings -/
def clook (C : List (Nat × Ent)) (k : Nat) : Ent := match C with
  | [] => (fun _ _ => False, fun _ _ _ _ => True)
  | (j, e) :: t => if k = j then e else clook t k
def pcall (e : Ent) (av : List Value) (M : Mem) (K : Option Value → Mem → Prop) : Prop := e.1 av M ∧ ∀ r M', e.2 av M r M' → K r M'
def splitA (n : Nat) (st acc : List Value) (K : List Value → List Value → Prop) : Prop := match n, st with
  | 0, st => K acc st
  | _ + 1, [] => False
  | n + 1, v :: r => splitA n r (v :: acc) K
def rcv (o ci : Nat) (M : Mem) (av : List Value) : Prop := match o with
  | 0 => match av with
    | .ref i :: _ => isO M i ci
    | _ => False
  | 3 => match av with
    | .ref i :: _ => 2 ≤ i ∧ i < 6
    | _ => False
  | 4 => match av with
    | .ref i :: _ => 16 ≤ i
    | _ => False
  | 5 => match av with
    | .ref i :: _ => 16 ≤ i
    | _ => False
  | _ => True
def e11 (o ci n : Nat) (e : Ent) (k : List Value → Mem → Prop) (st : List Value) (M : Mem) : Prop := splitA n st [] fun av r => (rcv o ci M av ∧ wsum r ≤ 8) ∧ pcall e av M fun v M' => k (v.toList ++ r) M'
def seek (tgt : Nat) (t : List PI) : List PI := match t with
  | [] => []
  | (pc, i) :: t => if pc = tgt then (pc, i) :: t else seek tgt t
def inS (S : List Nat) (pc : Nat) : Bool := match S with
  | [] => false
  | s :: S => if pc = s then true else inS S pc
abbrev Kt : Type := List (Option Value) → List Value → Mem → Prop
def go (S : List Nat) (Kx : Nat → Kt) (rn : List PI → Kt) (t : List PI) : Kt := fun lv st M => match t with
  | [] => False
  | (pc, i) :: t => if inS S pc = true then Kx pc lv st M else rn ((pc, i) :: t) lv st M
def jmp (S : List Nat) (Kx : Nat → Kt) (rn : List PI → Kt) (pc tgt : Nat) (t : List PI) : Kt := if tgt ≤ pc then Kx tgt else go S Kx rn (seek tgt t)
def run (Z : Zt) (nF : Nat) (C : List (Nat × Ent)) (S : List Nat) (Kx : Nat → Kt) (Q : Option Value → Mem → Prop) : Nat → List PI → Kt
  | 0, _ => fun _ _ _ => False
  | _, [] => fun _ _ _ => False
  | f + 1, (pc, g, o, a, b, v, tl) :: t => fun lv st M => match g with
    | 0 => e0 o a v (fun st' => go S Kx (run Z nF C S Kx Q f) t lv st' M) st
    | 1 => e1 o a v (fun lv' st' => go S Kx (run Z nF C S Kx Q f) t lv' st' M) lv st
    | 2 => e2 o (fun st' => go S Kx (run Z nF C S Kx Q f) t lv st' M) st
    | 3 => e3 o (fun st' => go S Kx (run Z nF C S Kx Q f) t lv st' M) st
    | 4 => e4 o (fun st' => jmp S Kx (run Z nF C S Kx Q f) pc a t lv st' M) (fun st' => go S Kx (run Z nF C S Kx Q f) t lv st' M) st
    | 5 => e5 o (fun st' => jmp S Kx (run Z nF C S Kx Q f) pc a t lv st' M) (fun st' => go S Kx (run Z nF C S Kx Q f) t lv st' M) st
    | 6 => match o with
      | 0 => jmp S Kx (run Z nF C S Kx Q f) pc a t lv st M
      | 1 => match st with
        | .int x :: r => tsw (fun tgt => jmp S Kx (run Z nF C S Kx Q f) pc tgt t lv r M) a x 0 tl
        | _ => False
      | _ => False
    | 7 => e7 o (fun st' => go S Kx (run Z nF C S Kx Q f) t lv st' M) st
    | 8 => e8 Z o a b (fun st' => go S Kx (run Z nF C S Kx Q f) t lv st' M) st M
    | 9 => e9 o Q st M
    | 10 => e10 nF o a b (fun st' M' => go S Kx (run Z nF C S Kx Q f) t lv st' M') st M
    | 11 => e11 o a (tl.getD 1 0) (clook C b) (fun st' M' => go S Kx (run Z nF C S Kx Q f) t lv st' M') st M
    | 12 => e12 o (fun st' M' => go S Kx (run Z nF C S Kx Q f) t lv st' M') st M
    | _ => False
