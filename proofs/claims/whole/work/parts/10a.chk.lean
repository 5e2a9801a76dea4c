/-! THE TABLES HELD AGAINST THE BYTES (by program): each entry is what its bytes decode to, its link stands among the words, its targets are entries -/
def NWT : List (Nat × Nat × Nat × Nat × Nat) := [(84, 2, 86, 88, 0), (84, 2, 138, 88, 0), (84, 2, 187, 88, 0), (84, 2, 211, 88, 0), (84, 2, 260, 88, 1), (84, 2, 265, 88, 1), (84, 2, 280, 88, 1), (84, 2, 330, 88, 1), (84, 2, 332, 88, 1), (84, 2, 334, 88, 1), (320, 0, 322, 324, 1), (325, 1, 327, 329, 1)]
def ACT : List (Nat × Nat) := [(4, 60), (2, 29), (0, 109)]
def jt (c : List Ent) (j : Nat) (t : Int) : Bool := match c[j]? with
  | some e => (e.1 : Int) == t
  | none => false
/-- 'throw new E(text)' from entry i on: its class's entry, its text's, its constructor's -/
def thr (c : List Ent) (i : Nat) (ik E : Nat) : Bool := match c[i]?, c[i + 1]?, c[i + 2]?, c[i + 3]?, c[i + 4]? with
  | some e0, some (p1, .dup, _), some (p2, .ldc s, _), some (p3, .invokespecial ic, _), some (p4, .athrow, _) => p1 == e0.1 + 3 && p2 == e0.1 + 4 && p3 == e0.1 + 6 && p4 == e0.1 + 9 && NWT.contains (ik, E, s, ic, 0)
  | some e0, some (p1, .dup, _), some (p2, .ldc_w s, _), some (p3, .invokespecial ic, _), some (p4, .athrow, _) => p1 == e0.1 + 3 && p2 == e0.1 + 4 && p3 == e0.1 + 7 && p4 == e0.1 + 10 && NWT.contains (ik, E, s, ic, 1)
  | _, _, _, _, _ => false
def npar (q : Nat) : Nat := match parseMethodDescriptor (mi q).1.desc with
  | some d => d.parameters.length
  | none => 1000
def retk : Option FieldType → Nat
  | none => 5
  | some .int => 0
  | some .boolean => 1
  | some .char => 2
  | some .byte => 2
  | some .long => 3
  | some (.object _) => 4
  | _ => 6
def chkI (o : Nat) (rt nl : Nat) (c : List Ent) (i : Nat) (e : Ent) : Bool := match e.2.1 with
  | .getfield idx => if xg e 0 == 11 then o == 11 && ((idx == 9 && xg e 1 == 0 && xg e 2 == 2) || (idx == 15 && xg e 2 == 5 && e.2.2.2 == 0)) else (FLT.getD o []).contains (idx, xg e 0, xg e 1) && (xg e 2 == fty (xg e 0) (xg e 1) || (xg e 2 == 0 && fty (xg e 0) (xg e 1) == 4))
  | .putfield idx => (FLT.getD o []).contains (idx, xg e 0, xg e 1) && xg e 2 == fty (xg e 0) (xg e 1) && (xg e 2 == 0 || xg e 2 == 1 || xg e 2 == 3 || xg e 2 == 4)
  | .getstatic idx => if xg e 0 == 0 then (xg e 1 == 116 || xg e 1 == 117) && ((SLT.getD o []).contains (idx, xg e 1, 0) || (SLT.getD o []).contains (idx, xg e 1, 1)) else (SLT.getD o []).contains (idx, 0, 0) && e.2.2.2 == 1
  | .ldc idx => if xg e 0 == 0 then (KIT.getD o []).contains (idx, e.2.2.2) else (KST.getD o []).contains (idx, xg e 1)
  | .ldc_w idx => if xg e 0 == 0 then (KIT.getD o []).contains (idx, e.2.2.2) else true
  | .ldc2_w idx => (KLT.getD o []).contains (idx, e.2.2.2)
  | .invokevirtual idx => xg e 0 < 288 && (MLT.getD o []).contains (idx, xg e 0, 0) && xg e 1 == npar (xg e 0) + 1 && (xg e 2 == 0) == (retk (mi (xg e 0)).2.2.2.1 == 5) && (mi (xg e 0)).2.2.2.2.2 == 0 && (mi (xg e 0)).2.2.2.2.1 < 12 && e.2.2.2.toNat == (mi (xg e 0)).2.2.2.2.1
  | .invokestatic idx => (xg e 0 == 9000 && ACT.contains (o, idx)) || xg e 0 == 8999 || (xg e 0 == 9001 && o == 12 && idx == 9) || (xg e 0 < 288 && ((MLT.getD o []).contains (idx, xg e 0, 1) || (MLT.getD o []).contains (idx, xg e 0, 2)) && xg e 1 == npar (xg e 0) && (xg e 2 == 0) == (retk (mi (xg e 0)).2.2.2.1 == 5) && (mi (xg e 0)).2.2.2.2.2 == 1)
  | .new idx => o == 9 && thr c i idx (xg e 0)
  | .ifCond _ off => jt c (xg e 0) ((e.1 : Int) + off)
  | .if_icmp _ off => jt c (xg e 0) ((e.1 : Int) + off)
  | .goto off => jt c (xg e 0) ((e.1 : Int) + off)
  | .ifnonnull off => jt c (xg e 0) ((e.1 : Int) + off)
  | .tableswitch df lo hi offs => jt c (xg e 0) ((e.1 : Int) + df) && lo ≤ hi && offs.size == (hi - lo).toNat + 1 && e.2.2.1.length == offs.size + 1 && -2147483648 ≤ lo && hi ≤ 2147483647 && (List.range offs.size).all (fun k => jt c (xg e (k + 1)) ((e.1 : Int) + offs.toList.getD k 0))
  | .iconst k => -2147483648 ≤ k && k ≤ 2147483647
  | .bipush k => (Int8.ofInt k).toInt == k
  | .sipush k => (Int16.ofInt k).toInt == k
  | .istore i => decide (i < nl)
  | .istore_n i => decide (i.val < nl)
  | .astore i => decide (i < nl)
  | .astore_n i => decide (i.val < nl)
  | .lstore i => decide (i + 1 < nl)
  | .lstore_n i => decide (i.val + 1 < nl)
  | .ireturn => xg e 0 == rt && rt < 3
  | .lreturn => rt == 3
  | .areturn => rt == 4
  | .return_ => rt == 5
  | _ => true
/-- an instruction's length, where it is one alone -/
def iln : Instr → Nat
  | .iload _ | .lload _ | .aload _ | .istore _ | .lstore _ | .astore _ | .bipush _ | .ldc _ => 2
  | .sipush _ | .ldc_w _ | .ldc2_w _ | .getfield _ | .putfield _ | .getstatic _ | .invokevirtual _ | .invokestatic _ | .invokespecial _ | .new _ | .ifCond _ _ | .if_icmp _ _ | .goto _ | .ifnonnull _ | .iinc _ _ => 3
  | .tableswitch _ _ _ _ => 0
  | _ => 1
def chkE (o : Nat) (rt nl : Nat) (by' : ByteArray) (c : List Ent) (i : Nat) : Bool := match c[i]? with
  | none => true
  | some e => decide (e.2.1 = .nop) || (match decode by' e.1 with
    | .ok (ins, len) => decide (ins = e.2.1) && (iln ins == 0 || len == iln ins) && (match c[i + 1]? with | some e' => e'.1 == e.1 + len | none => true) && chkI o rt nl c i e
    | .error _ => false)
def nine (e : Ent) : Bool := match e.2.1 with
  | .putfield _ => xg e 0 != 900
  | _ => true
/-- rows of handlers: the class that a row waits for; the entry behind its store, and the local; the rows that cover a pc, as a call's entry lists them -/
def hE (ct : Nat) : Nat := if ct = 13 then 2 else if ct = 22 then 1 else if ct = 28 then 0 else 7
def hk (c : List Ent) (t : Nat) : Nat × Nat := match c.findIdx? (fun e => e.1 == t) with
  | some i => (match c[i]? with
    | some (_, .astore k, _) => (i + 1, k)
    | some (_, .astore_n k, _) => (i + 1, k.val)
    | _ => (0, 1000))
  | none => (0, 1000)
def hrow (c : List Ent) (pc : Nat) : List (Nat × Nat × Nat × Nat) → List Nat
  | [] => []
  | r :: rs => if r.1 ≤ pc ∧ pc < r.2.1 then hE r.2.2.2 :: (hk c r.2.2.1).1 :: (hk c r.2.2.1).2 :: hrow c pc rs else hrow c pc rs
def chkH (nl : Nat) (hh : List (Nat × Nat × Nat × Nat)) (c : List Ent) : Bool :=
  c.all (fun e => match e.2.1 with
    | .invokevirtual _ => e.2.2.1.drop 3 == hrow c e.1 hh
    | .invokestatic _ => e.2.2.1.drop 3 == hrow c e.1 hh
    | _ => true) && hh.all (fun r => hE r.2.2.2 != 7 && (hk c r.2.2.1).2 < nl)
def chkM (q : Nat) : Bool := match prg q with
  | none => false
  | some (c, nl) => nl == (mi q).2.2.1 && nl ≤ 45 && c.all nine && chkH nl (hhs q) c && (List.range c.length).all (fun i => chkE (mi q).2.2.2.2.1 (retk (mi q).2.2.2.1) nl (mi q).2.1 c i)
