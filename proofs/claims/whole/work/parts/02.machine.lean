/-! ===== A SMALL MACHINE: the methods that make no object, over a world of 93 cells whose shape stays ===== -/
abbrev zA : Type := Nat → Nat → Int32
abbrev zL : Type := Nat → Nat → Int64
abbrev zR : Type := Option Value × zA × zL
abbrev zLv : Type := List (Nat × Value)
/-- an instruction, its length, a place, a second one, places, choices, an int, a long -/
abbrev zO : Type := Instr × Nat × Nat × Nat × List Nat × List (Int32 × Nat) × Int32 × Int64
/-- a block: its start, the locals that it needs, its instructions, the block behind it -/
abbrev zBk : Type := Nat × List Nat × List zO × Nat
/-- a method: its name, bytes, locals, answer, blocks -/
abbrev zM : Type := MethodName × ByteArray × Nat × Option FieldType × List zBk
/-- a cell's shape: an array (kind, length), or an object (its place in vwCl, its fields: .int an int, .float a boolean, .long a long, .ref a cell's place) -/
abbrev zS : Type := (Nat × Nat) ⊕ (Nat × List Value)
def zSH : List zS := [.inr (9, [.ref 1, .ref 17, .ref 33, .ref 51, .ref 55, .ref 56, .ref 59, .ref 61, .ref 62, .int 0, .float 0]), .inr (8, [.ref 2, .ref 9, .ref 14, .int 0, .int 0]), .inr (1, [.ref 3, .ref 4, .ref 5, .ref 6, .ref 7, .ref 8, .int 0, .int 0]), .inl (0, 24), .inl (0, 24), .inl (0, 24), .inl (0, 24), .inl (0, 64), .inl (0, 8), .inr (3, [.ref 10, .ref 11, .ref 12, .ref 13, .int 0]), .inl (0, 4), .inl (0, 4), .inl (0, 24), .inl (0, 4), .inr (7, [.ref 15, .ref 16, .int 0, .float 0]), .inl (0, 8), .inl (0, 9), .inr (8, [.ref 18, .ref 25, .ref 30, .int 0, .int 0]), .inr (1, [.ref 19, .ref 20, .ref 21, .ref 22, .ref 23, .ref 24, .int 0, .int 0]), .inl (0, 24), .inl (0, 24), .inl (0, 24), .inl (0, 24), .inl (0, 64), .inl (0, 8), .inr (3, [.ref 26, .ref 27, .ref 28, .ref 29, .int 0]), .inl (0, 4), .inl (0, 4), .inl (0, 24), .inl (0, 4), .inr (7, [.ref 31, .ref 32, .int 0, .float 0]), .inl (0, 8), .inl (0, 9), .inr (6, [.ref 34, .ref 35, .int 0, .int 0]), .inl (0, 64), .inr (8, [.ref 36, .ref 43, .ref 48, .int 0, .int 0]), .inr (1, [.ref 37, .ref 38, .ref 39, .ref 40, .ref 41, .ref 42, .int 0, .int 0]), .inl (0, 24), .inl (0, 24), .inl (0, 24), .inl (0, 24), .inl (0, 64), .inl (0, 8), .inr (3, [.ref 44, .ref 45, .ref 46, .ref 47, .int 0]), .inl (0, 4), .inl (0, 4), .inl (0, 24), .inl (0, 4), .inr (7, [.ref 49, .ref 50, .int 0, .float 0]), .inl (0, 8), .inl (0, 9), .inr (2, [.ref 1, .ref 52, .ref 53, .ref 54, .int 0]), .inl (0, 4096), .inl (0, 4096), .inl (0, 325), .inr (0, [.ref 1, .ref 51, .int 0]), .inr (4, [.ref 1, .ref 51, .ref 57, .ref 58, .int 0, .long 0, .float 0, .int 0]), .inl (1, 16), .inl (0, 16), .inr (5, [.ref 1, .ref 60, .long 0, .float 0]), .inl (1, 16), .inl (0, 8), .inl (0, 7), .inr (10, [.ref 64, .ref 65, .ref 66, .ref 67, .ref 68, .ref 69, .ref 70, .ref 71, .ref 72, .ref 73, .int 0, .int 0, .int 0, .int 0, .int 0, .int 0, .int 0, .int 0, .int 0, .ref 74, .ref 75, .ref 76, .ref 77, .ref 78, .ref 79, .ref 80, .int 0, .int 0, .int 0, .ref 81, .float 0, .float 0, .int 0, .int 0, .ref 82, .ref 83, .ref 84, .ref 85, .ref 86, .ref 87, .ref 88, .ref 89, .ref 90, .ref 91, .ref 92, .int 0, .int 0]), .inl (0, 7), .inl (0, 24), .inl (0, 24), .inl (0, 24), .inl (0, 24), .inl (0, 4), .inl (0, 4), .inl (0, 24), .inl (0, 4), .inl (0, 8), .inl (0, 64), .inl (0, 32), .inl (0, 32), .inl (0, 32), .inl (0, 32), .inl (0, 32), .inl (0, 32), .inl (0, 400), .inl (0, 32), .inl (0, 64), .inl (0, 64), .inl (0, 256), .inl (0, 4608), .inl (0, 4608), .inl (0, 18432), .inl (0, 4608), .inl (1, 4608), .inl (2, 4608), .inl (0, 8)]
def zMW : Nat → Int64 := fun j => [6148914691236517205, 3689348814741910323, 1085102592571150095, 71777214294589695, 281470681808895, 4294967295].getD j 0
def zset (A : zA) (c : Nat) (f : Nat → Int32) : zA := fun i => if i = c then f else A i
def zsetL (L : zL) (c : Nat) (f : Nat → Int64) : zL := fun i => if i = c then f else L i
theorem zset_s (A : zA) (c : Nat) (f : Nat → Int32) : zset A c f c = f := by simp [zset]
theorem zset_n {A : zA} {c i : Nat} {f : Nat → Int32} (h : i ≠ c) : zset A c f i = A i := by simp [zset, h]
theorem zsetL_s (L : zL) (c : Nat) (f : Nat → Int64) : zsetL L c f c = f := by simp [zsetL]
theorem zsetL_n {L : zL} {c i : Nat} {f : Nat → Int64} (h : i ≠ c) : zsetL L c f i = L i := by simp [zsetL, h]
def zput (A : zA) (c k : Nat) (v : Int32) : zA := zset A c (upd (A c) k v)
def zputL (L : zL) (c k : Nat) (v : Int64) : zL := zsetL L c (vp_updL (L c) k v)
def zcpy (A : zA) (a c n : Nat) : zA := zset A c (va_cpy (A a) (A c) 0 0 n)
def zget (lv : zLv) (i : Nat) : Option Value := match lv with
  | [] => none
  | q :: r => bif q.1 == i then some q.2 else zget r i
def zpick (lv : zLv) (is : List Nat) : Option zLv := match is with
  | [] => some []
  | i :: r => match zget lv i with
    | some v => match zpick lv r with
      | some vs => some ((i, v) :: vs)
      | none => none
    | none => none
def zst1 (lv : zLv) (i : Nat) (v : Value) : zLv := (i, v) :: lv.filter (fun q => !(q.1 == i) && !(q.1 + 1 == i && q.2.category == 2))
def zst2 (lv : zLv) (i : Nat) (v : Value) : zLv := (i, v) :: lv.filter (fun q => !(q.1 == i) && (!(q.1 == i + 1) && !(q.1 + 1 == i && q.2.category == 2)))
/-- an index is within, else nothing -/
def zck (i : Int32) (n : Nat) (k : Option zR) : Option zR := if i < 0 ∨ n ≤ i.toNatClampNeg then none else k
/-- an int is a boolean, else nothing -/
def zcb (x : Int32) (k : Option zR) : Option zR := if x = 0 ∨ x = 1 then k else none
/-- a divisor isn't 0, else nothing -/
def zcd (x : Int32) (k : Option zR) : Option zR := if x = 0 then none else k
/-- so much can be copied from the start of a row of n0 to the start of one of n1 -/
def zcc (sp dp n : Int32) (n0 n1 : Nat) (k : Option zR) : Option zR := if sp = 0 ∧ dp = 0 ∧ ¬ n < 0 ∧ n.toNatClampNeg ≤ n0 ∧ n.toNatClampNeg ≤ n1 then k else none
def zbi (r : Option zR) (k : Int32 → zA → zL → Option zR) : Option zR := match r with
  | some (some (.int v), A, L) => k v A L
  | _ => none
def zbl (r : Option zR) (k : Int64 → zA → zL → Option zR) : Option zR := match r with
  | some (some (.long v), A, L) => k v A L
  | _ => none
def zbv (r : Option zR) (k : zA → zL → Option zR) : Option zR := match r with
  | some (none, A, L) => k A L
  | _ => none
def zushr (x y : Int32) : Int32 := (x.toUInt32 >>> (y.toUInt32 &&& Int32.toUInt32 31)).toInt32
def zlushr (x : Int64) (y : Int32) : Int64 := (x.toUInt64 >>> (y.toInt64.toUInt64 &&& Int64.toUInt64 63)).toInt64
def zlshl (x : Int64) (y : Int32) : Int64 := x <<< (y.toInt64 &&& 63)
def zshl (x y : Int32) : Int32 := x <<< (y &&& 31)
def zshr (x y : Int32) : Int32 := x >>> (y &&& 31)
def zrem (x y : Int32) : Int32 := x - x / y * y
def zsw (x : Int32) (ps : List (Int32 × Nat)) (j : Nat → Option zR) (k : Option zR) : Option zR := match ps with
  | [] => k
  | q :: r => if x = q.1 then j q.2 else zsw x r j k
def zcat (st : List Value) : Nat := (st.map fun v => v.category).sum
/-- instructions that look at the stack alone -/
def zpure (i : Instr) (c : Int32) (d : Int64) (st : List Value) : Option (List Value) := match i with
  | .iconst _ => some (.int c :: st)
  | .bipush _ => some (.int c :: st)
  | .sipush _ => some (.int c :: st)
  | .ldc _ => some (.int c :: st)
  | .ldc_w _ => some (.int c :: st)
  | .lconst _ => some (.long d :: st)
  | .ldc2_w _ => some (.long d :: st)
  | .iadd => match st with | .int y :: .int x :: st => some (.int (x + y) :: st) | _ => none
  | .isub => match st with | .int y :: .int x :: st => some (.int (x - y) :: st) | _ => none
  | .imul => match st with | .int y :: .int x :: st => some (.int (x * y) :: st) | _ => none
  | .iand => match st with | .int y :: .int x :: st => some (.int (x &&& y) :: st) | _ => none
  | .ior => match st with | .int y :: .int x :: st => some (.int (x ||| y) :: st) | _ => none
  | .ixor => match st with | .int y :: .int x :: st => some (.int (x ^^^ y) :: st) | _ => none
  | .ishl => match st with | .int y :: .int x :: st => some (.int (zshl x y) :: st) | _ => none
  | .ishr => match st with | .int y :: .int x :: st => some (.int (zshr x y) :: st) | _ => none
  | .iushr => match st with | .int y :: .int x :: st => some (.int (zushr x y) :: st) | _ => none
  | .ineg => match st with | .int x :: st => some (.int (-x) :: st) | _ => none
  | .land => match st with | .long y :: .long x :: st => some (.long (x &&& y) :: st) | _ => none
  | .lor => match st with | .long y :: .long x :: st => some (.long (x ||| y) :: st) | _ => none
  | .lxor => match st with | .long y :: .long x :: st => some (.long (x ^^^ y) :: st) | _ => none
  | .lshl => match st with | .int y :: .long x :: st => some (.long (zlshl x y) :: st) | _ => none
  | .lushr => match st with | .int y :: .long x :: st => some (.long (zlushr x y) :: st) | _ => none
  | .lcmp => match st with | .long y :: .long x :: st => some (.int (lg_cmp x y) :: st) | _ => none
  | .i2l => match st with | .int x :: st => some (.long x.toInt64 :: st) | _ => none
  | .l2i => match st with | .long x :: st => some (.int x.toInt32 :: st) | _ => none
  | .ladd => match st with | .long y :: .long x :: st => some (.long (x + y) :: st) | _ => none
  | .lsub => match st with | .long y :: .long x :: st => some (.long (x - y) :: st) | _ => none
  | .dup => match st with | .int x :: st => some (.int x :: .int x :: st) | .ref x :: st => some (.ref x :: .ref x :: st) | _ => none
  | .dup2 => match st with | .int x :: .ref y :: st => some (.int x :: .ref y :: .int x :: .ref y :: st) | .long x :: st => some (.long x :: .long x :: st) | _ => none
  | .pop => match st with | .int _ :: st => some st | .ref _ :: st => some st | _ => none
  | _ => none
/-- a call: a the method, b how many arguments (the receiver too), r what it answers (0 nothing, 1 an int, 2 a long) -/
def zcl (C : Nat → List Value → zA → zL → Option zR) (k : List Value → zA → zL → Option zR) (a b r : Nat) (st : List Value) (A : zA) (L : zL) : Option zR :=
  bif (Nat.ble b st.length && Nat.ble (zcat (st.drop b)) 8) then match r with
    | 0 => zbv (C a (st.take b).reverse A L) (fun A L => k (st.drop b) A L)
    | 1 => zbi (C a (st.take b).reverse A L) (fun v A L => k (.int v :: st.drop b) A L)
    | _ => zbl (C a (st.take b).reverse A L) (fun v A L => k (.long v :: st.drop b) A L)
  else none
/-- the receiver's class -/
def zrv (st : List Value) (b ci : Nat) : Bool := match st[b - 1]? with
  | some (.ref q) => match zSH[q]? with
    | some (.inr (c, _)) => c == ci
    | _ => false
  | _ => false
def zop (sc : Option (Nat × (Nat → Int32))) (o : zO) (lv : zLv) (st : List Value) (A : zA) (L : zL)
    (k : zLv → List Value → zA → zL → Option zR) (j : Nat → zLv → List Value → zA → zL → Option zR) (C : Nat → List Value → zA → zL → Option zR) : Option zR :=
  match o with
  | (i, _, a, b, ns, ps, c, d) => match i with
  | .iload _ => match zget lv a with | some (.int x) => k lv (.int x :: st) A L | _ => none
  | .iload_n _ => match zget lv a with | some (.int x) => k lv (.int x :: st) A L | _ => none
  | .lload _ => match zget lv a with | some (.long x) => k lv (.long x :: st) A L | _ => none
  | .lload_n _ => match zget lv a with | some (.long x) => k lv (.long x :: st) A L | _ => none
  | .aload _ => match zget lv a with | some (.ref x) => k lv (.ref x :: st) A L | _ => none
  | .aload_n _ => match zget lv a with | some (.ref x) => k lv (.ref x :: st) A L | _ => none
  | .istore _ => match st with | .int x :: st => k (zst1 lv a (.int x)) st A L | _ => none
  | .istore_n _ => match st with | .int x :: st => k (zst1 lv a (.int x)) st A L | _ => none
  | .astore _ => match st with | .ref x :: st => k (zst1 lv a (.ref x)) st A L | _ => none
  | .astore_n _ => match st with | .ref x :: st => k (zst1 lv a (.ref x)) st A L | _ => none
  | .lstore _ => match st with | .long x :: st => k (zst2 lv a (.long x)) st A L | _ => none
  | .lstore_n _ => match st with | .long x :: st => k (zst2 lv a (.long x)) st A L | _ => none
  | .iinc _ _ => match zget lv a with | some (.int x) => k (zst1 lv a (.int (x + c))) st A L | _ => none
  | .idiv => match st with | .int y :: .int x :: st => zcd y (k lv (.int (x / y) :: st) A L) | _ => none
  | .irem => match st with | .int y :: .int x :: st => zcd y (k lv (.int (zrem x y) :: st) A L) | _ => none
  | .getfield _ => match st with
    | .ref q :: st => match zSH[q]? with
      | some (.inr (ci, fs)) => bif ci == a then match fs[b]? with
        | some (.int _) => k lv (.int (A q b) :: st) A L
        | some (.float _) => k lv (.int (A q b) :: st) A L
        | some (.long _) => k lv (.long (L q b) :: st) A L
        | some (.ref t) => k lv (.ref t :: st) A L
        | _ => none else none
      | _ => none
    | _ => none
  | .putfield _ => match st with
    | .int x :: .ref q :: st => match zSH[q]? with
      | some (.inr (ci, fs)) => bif ci == a then match fs[b]? with
        | some (.int _) => k lv st (zput A q b x) L
        | some (.float _) => zcb x (k lv st (zput A q b x) L)
        | _ => none else none
      | _ => none
    | .long x :: .ref q :: st => match zSH[q]? with
      | some (.inr (ci, fs)) => bif ci == a then match fs[b]? with
        | some (.long _) => k lv st A (zputL L q b x)
        | _ => none else none
      | _ => none
    | _ => none
  | .getstatic _ => k lv (.ref 1001 :: st) A L
  | .iaload => match st with
    | .int i :: .ref q :: st => bif q == 1000 then (match sc with | some s => zck i s.1 (k lv (.int (s.2 i.toNatClampNeg) :: st) A L) | none => none) else match zSH[q]? with
      | some (.inl (0, n)) => zck i n (k lv (.int (A q i.toNatClampNeg) :: st) A L)
      | _ => none
    | _ => none
  | .baload => match st with
    | .int i :: .ref q :: st => match zSH[q]? with
      | some (.inl (2, n)) => zck i n (k lv (.int (A q i.toNatClampNeg) :: st) A L)
      | _ => none
    | _ => none
  | .laload => match st with
    | .int i :: .ref q :: st => bif q == 1001 then zck i 6 (k lv (.long (zMW i.toNatClampNeg) :: st) A L) else match zSH[q]? with
      | some (.inl (1, n)) => zck i n (k lv (.long (L q i.toNatClampNeg) :: st) A L)
      | _ => none
    | _ => none
  | .iastore => match st with
    | .int x :: .int i :: .ref q :: st => match zSH[q]? with
      | some (.inl (0, n)) => zck i n (k lv st (zput A q i.toNatClampNeg x) L)
      | _ => none
    | _ => none
  | .bastore => match st with
    | .int x :: .int i :: .ref q :: st => match zSH[q]? with
      | some (.inl (2, n)) => zck i n (zcb x (k lv st (zput A q i.toNatClampNeg x) L))
      | _ => none
    | _ => none
  | .lastore => match st with
    | .long x :: .int i :: .ref q :: st => match zSH[q]? with
      | some (.inl (1, n)) => zck i n (k lv st A (zputL L q i.toNatClampNeg x))
      | _ => none
    | _ => none
  | .arraylength => match st with
    | .ref q :: st => bif q == 1000 then (match sc with | some s => k lv (.int (nI s.1) :: st) A L | none => none) else match zSH[q]? with
      | some (.inl (_, n)) => k lv (.int (nI n) :: st) A L
      | _ => none
    | _ => none
  | .ifCond cc _ => match st with
    | .int x :: st => match cc with
      | .eq => if x = 0 then j a lv st A L else k lv st A L
      | .ne => if x = 0 then k lv st A L else j a lv st A L
      | .lt => if x < 0 then j a lv st A L else k lv st A L
      | .ge => if 0 ≤ x then j a lv st A L else k lv st A L
      | .gt => if 0 < x then j a lv st A L else k lv st A L
      | .le => if x ≤ 0 then j a lv st A L else k lv st A L
    | _ => none
  | .if_icmp cc _ => match st with
    | .int y :: .int x :: st => match cc with
      | .eq => if x = y then j a lv st A L else k lv st A L
      | .ne => if x = y then k lv st A L else j a lv st A L
      | .lt => if x < y then j a lv st A L else k lv st A L
      | .ge => if y ≤ x then j a lv st A L else k lv st A L
      | .gt => if y < x then j a lv st A L else k lv st A L
      | .le => if x ≤ y then j a lv st A L else k lv st A L
    | _ => none
  | .goto _ => j a lv st A L
  | .tableswitch _ _ _ _ => match st with
    | .int x :: st => zsw x ps (fun b => j b lv st A L) (j a lv st A L)
    | _ => none
  | .lookupswitch _ _ => match st with
    | .int x :: st => zsw x ps (fun b => j b lv st A L) (j a lv st A L)
    | _ => none
  | .ireturn => match st with
    | [.int x] => match a with
      | 0 => some (some (.int x), A, L)
      | _ => zcb x (some (some (.int x), A, L))
    | _ => none
  | .lreturn => match st with
    | [.long x] => some (some (.long x), A, L)
    | _ => none
  | .return_ => match st with
    | [] => some (none, A, L)
    | _ => none
  | .invokevirtual _ => bif zrv st b (ns.getD 1 0) then zcl C (fun st A L => k lv st A L) a b (ns.headD 0) st A L else none
  | .invokestatic _ => match ns.headD 0 with
    | 9 => match st with
      | .int n :: .int dp :: .ref q1 :: .int sp :: .ref q0 :: st => match zSH[q0]?, zSH[q1]? with
        | some (.inl (0, n0)), some (.inl (0, n1)) => bif Nat.ble (zcat st) 8 then zcc sp dp n n0 n1 (k lv st (zcpy A q0 q1 n.toNatClampNeg) L) else none
        | _, _ => none
      | _ => none
    | r => zcl C (fun st A L => k lv st A L) a b r st A L
  | i => match zpure i c d st with
    | some st => k lv st A L
    | none => none
/-- to a block, with the locals that it needs -/
def zjmp (J : Nat → zLv → List Value → zA → zL → Option zR) (bs : List zBk) (b : Nat) (lv : zLv) (st : List Value) (A : zA) (L : zL) : Option zR :=
  match bs[b]? with
  | some bk => match zpick lv bk.2.1 with
    | some lv => J b lv st A L
    | none => none
  | none => none
def zgo (sc : Option (Nat × (Nat → Int32))) (J : Nat → zLv → List Value → zA → zL → Option zR) (C : Nat → List Value → zA → zL → Option zR) (bs : List zBk) (nx : Nat) (os : List zO) (lv : zLv) (st : List Value) (A : zA) (L : zL) : Option zR :=
  match os with
  | [] => zjmp J bs nx lv st A L
  | o :: r => zop sc o lv st A L (fun lv st A L => zgo sc J C bs nx r lv st A L) (fun b lv st A L => zjmp J bs b lv st A L) C
def zno : Option (Nat × (Nat → Int32)) := none
/-- the arguments find room in the callee's frame -/
def zfit (T : List zM) (k : Nat) (as : List Value) : Bool := match T[k]? with
  | some M => Nat.ble (zcat as) M.2.2.1
  | none => false
def zex (T : List zM) (n d m b : Nat) (lv : zLv) (st : List Value) (A : zA) (L : zL) : Option zR :=
  match n with
  | 0 => none
  | n + 1 => match T[m]? with
    | some M => match M.2.2.2.2[b]? with
      | some bk => zgo zno (fun b lv st A L => zex T n d m b lv st A L) (fun k as A L => match d with
          | 0 => none
          | d + 1 => bif zfit T k as then zex T n d k 0 (lv_args 0 as) [] A L else none) M.2.2.2.2 bk.2.2.2 bk.2.2.1 lv st A L
      | none => none
    | none => none
