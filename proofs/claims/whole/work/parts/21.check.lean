/-! ===== what is looked at, of each instruction, block and method ===== -/
def zokJ (bs : List zBk) (pc : Nat) (off : Int) (b : Nat) : Bool := match bs[b]? with
  | some bk => decide ((pc : Int) + off = (bk.1 : Int))
  | none => false
def zokF (own : String) (x a b p : Nat) : Bool := match vwCl[a]? with
  | some q => decide (b < q.2.2) && decide ((q.2.1 b).1 = q.1) && (zwd p (.fieldLink own x q.1 (q.2.1 b).2.1 (q.2.1 b).2.2.1) || zwn p (.fieldLinkNest own x q.1 (q.2.1 b).2.1 (q.2.1 b).2.2.1 "EverySecondWord"))
  | none => false
def zokP (a b : Nat) : Bool := match vwCl[a]? with
  | some q => !(q.2.1 b).2.2.2
  | none => false
/-- a call's callee: ck 0 a method of a class, 1 static, 2 and 3 those of a nest mate -/
def zokC (T : List zM) (own : String) (x a b : Nat) (ns : List Nat) (st : Bool) : Bool := match T[a]? with
  | some M => (match ns with
    | [_, ci, ck, w0, w1, w2, w3, w4] => (match st, ck with
        | false, 0 => zwd w0 (.methodLink own x M.1) && zwd w1 (.instanceMethod M.1) && zwd w2 (.selects M.1.cls M.1 M.1) && (match vwCl[ci]? with | some q => decide (q.1 = M.1.cls) | none => false) && decide ((parseMethodDescriptor M.1.desc).map (fun d => d.parameters.length + 1) = some b)
        | false, 2 => zwn w0 (.methodLinkNest own x M.1 "EverySecondWord") && zwd w1 (.instanceMethod M.1) && zwd w2 (.selects M.1.cls M.1 M.1) && (match vwCl[ci]? with | some q => decide (q.1 = M.1.cls) | none => false) && decide ((parseMethodDescriptor M.1.desc).map (fun d => d.parameters.length + 1) = some b)
        | true, 1 => zwd w0 (.methodLink own x M.1) && zwd w1 (.static M.1) && decide ((parseMethodDescriptor M.1.desc).map (fun d => d.parameters.length) = some b)
        | true, 3 => zwn w0 (.methodLinkNest own x M.1 "EverySecondWord") && zwd w1 (.static M.1) && decide ((parseMethodDescriptor M.1.desc).map (fun d => d.parameters.length) = some b)
        | _, _ => false) && zwd w3 (.initialized M.1.cls) && zwd w4 (.code M.1 M.2.1 M.2.2.1 M.2.2.2.1)
    | _ => false) && decide (M.1.cls ≠ "java/lang/invoke/MethodHandle") && decide (M.1.cls ≠ "java/lang/invoke/VarHandle") && decide (M.2.2.1 ≤ 60)
  | none => false
def zokA (own : String) (x : Nat) (ns : List Nat) : Bool := match ns with
  | [_, w0, w1, w2, w3] => zwd w0 (.methodLink own x arraycopyName) && zwd w1 (.native arraycopyName) && zwd w2 (.static arraycopyName) && zwd w3 (.initialized "java/lang/System")
  | _ => false
def zokT (bs : List zBk) (pc : Nat) (v : Int) (offs : List Int) (ps : List (Int32 × Nat)) : Bool := match offs, ps with
  | [], [] => true
  | o :: os, q :: qs => decide (q.1.toInt = v) && zokJ bs pc o q.2 && zokT bs pc (v + 1) os qs
  | _, _ => false
def zokL (bs : List zBk) (pc : Nat) (prs : List (Int × Int)) (ps : List (Int32 × Nat)) : Bool := match prs, ps with
  | [], [] => true
  | o :: os, q :: qs => decide (q.1.toInt = o.1) && zokJ bs pc o.2 q.2 && zokL bs pc os qs
  | _, _ => false
/-- 1 as its length, for the instructions of one byte -/
def zokO (T : List zM) (own : String) (nL : Nat) (rt : Option FieldType) (bs : List zBk) (pc : Nat) (o : zO) : Bool := match o with
  | (i, n, a, b, ns, ps, c, d) => match i with
  | .iload k => k == a && n == 2
  | .lload k => k == a && n == 2
  | .aload k => k == a && n == 2
  | .iload_n k => k.val == a && n == 1
  | .lload_n k => k.val == a && n == 1
  | .aload_n k => k.val == a && n == 1
  | .istore k => k == a && n == 2 && decide (a < nL)
  | .astore k => k == a && n == 2 && decide (a < nL)
  | .lstore k => k == a && n == 2 && decide (a + 1 < nL)
  | .istore_n k => k.val == a && n == 1 && decide (a < nL)
  | .astore_n k => k.val == a && n == 1 && decide (a < nL)
  | .lstore_n k => k.val == a && n == 1 && decide (a + 1 < nL)
  | .iinc k v => k == a && n == 3 && decide (a < nL) && decide (Int32.ofInt v = c)
  | .iconst v => n == 1 && decide (Int32.ofInt v = c)
  | .bipush v => n == 2 && decide ((Int8.ofInt v).toInt32 = c)
  | .sipush v => n == 3 && decide ((Int16.ofInt v).toInt32 = c)
  | .lconst v => n == 1 && decide (Int64.ofNat v.val = d)
  | .ldc x => n == 2 && zwd a (.constant own x c)
  | .ldc_w x => n == 3 && zwd a (.constant own x c)
  | .ldc2_w x => n == 3 && zwd a (.constantLong own x d)
  | .getfield x => n == 3 && zokF own x a b (ns.headD 0)
  | .putfield x => n == 3 && zokF own x a b (ns.headD 0) && zokP a b
  | .getstatic x => n == 3 && zwd (ns.headD 0) (.fieldLink own x "EverySecondWord$Grammar" "MEANINGS_WITHOUT" "[J")
  | .ifCond _ off => n == 3 && zokJ bs pc off a
  | .if_icmp _ off => n == 3 && zokJ bs pc off a
  | .goto off => n == 3 && zokJ bs pc off a
  | .tableswitch df lo hi offs => zokJ bs pc df a && decide (hi - lo + 1 = offs.toList.length) && zokT bs pc lo offs.toList ps
  | .lookupswitch df prs => zokJ bs pc df a && zokL bs pc prs.toList ps && (prs.toList.zip (prs.toList.drop 1)).all (fun (a, next) => a.1 < next.1)
  | .ireturn => n == 1 && ((a == 0 && decide (rt = some .int)) || (!(a == 0) && decide (rt = some .boolean)))
  | .lreturn => n == 1 && decide (rt = some .long)
  | .return_ => n == 1 && decide (rt = none)
  | .invokevirtual x => n == 3 && zokC T own x a b ns false
  | .invokestatic x => n == 3 && (match ns.headD 0 with | 9 => zokA own x ns | _ => zokC T own x a b ns true)
  | _ => n == 1
def zend (i : Instr) : Bool := match i with
  | .goto _ => true
  | .tableswitch _ _ _ _ => true
  | .lookupswitch _ _ => true
  | .ireturn => true
  | .lreturn => true
  | .return_ => true
  | _ => false
def zokS (T : List zM) (own : String) (cc : ByteArray) (nL : Nat) (rt : Option FieldType) (bs : List zBk) (nx pc : Nat) (os : List zO) : Bool := match os with
  | [] => match bs[nx]? with
    | some bk => bk.1 == pc
    | none => false
  | o :: r => decide (decode cc pc = .ok (o.1, o.2.1)) && zokO T own nL rt bs pc o && (zend o.1 || zokS T own cc nL rt bs nx (pc + o.2.1) r)
def zokM (T : List zM) (M : zM) : Bool := (match M.2.2.2.2[0]? with | some bk => bk.1 == 0 | none => false) && plainFor M.1 && M.2.2.2.2.all (fun bk => zokS T M.1.cls M.2.1 M.2.2.1 M.2.2.2.1 M.2.2.2.2 bk.2.2.2 bk.1 bk.2.2.1)


