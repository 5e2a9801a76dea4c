/-! THE ABSTRACT MACHINE. Values: an int as Int (in the range of 32 bits), a long as Int64, a reference as (tag, instance). Memory: an int plane and a long plane, by tag, instance, slot. -/
abbrev AV : Type := Int ⊕ (Int64 ⊕ (Nat × Nat))
abbrev vi (x : Int) : AV := Sum.inl x
abbrev vl (x : Int64) : AV := Sum.inr (Sum.inl x)
abbrev vr (t i : Nat) : AV := Sum.inr (Sum.inr (t, i))
abbrev JK : AV := vr 1000 0
abbrev Mem : Type := (Nat → Nat → Nat → Int) × (Nat → Nat → Nat → Int64)
def sI (M : Mem) (t i j : Nat) (v : Int) : Mem := (fun a b c => if a = t ∧ b = i ∧ c = j then v else M.1 a b c, M.2)
def sL (M : Mem) (t i j : Nat) (v : Int64) : Mem := (M.1, fun a b c => if a = t ∧ b = i ∧ c = j then v else M.2 a b c)
/-- a stretch of one array onto a stretch of another -/
def cpI (M : Mem) (t i p t' i' p' n : Nat) : Mem := (fun a b c => if a = t' ∧ b = i' ∧ p' ≤ c ∧ c < p' + n then M.1 t i (p + (c - p')) else M.1 a b c, M.2)
def cpL (M : Mem) (t i p t' i' p' n : Nat) : Mem := (M.1, fun a b c => if a = t' ∧ b = i' ∧ p' ≤ c ∧ c < p' + n then M.2 t i (p + (c - p')) else M.2 a b c)
/-- 32 bits that wrap -/
def w32 (z : Int) : Int := (Int32.ofInt z).toInt
def band (x y : Int) : Int := (Int32.ofInt x &&& Int32.ofInt y).toInt
def bor (x y : Int) : Int := (Int32.ofInt x ||| Int32.ofInt y).toInt
def bxor (x y : Int) : Int := (Int32.ofInt x ^^^ Int32.ofInt y).toInt
def bshl (x y : Int) : Int := (Int32.ofInt x <<< (Int32.ofInt y &&& 31)).toInt
def bshr (x y : Int) : Int := (Int32.ofInt x >>> (Int32.ofInt y &&& 31)).toInt
def bushr (x y : Int) : Int := ((Int32.ofInt x).toUInt32 >>> ((Int32.ofInt y).toUInt32 &&& Int32.toUInt32 31)).toInt32.toInt
def lsl (x : Int64) (y : Int) : Int64 := x <<< ((Int32.ofInt y).toInt64 &&& 63)
def lsr (x : Int64) (y : Int) : Int64 := x >>> ((Int32.ofInt y).toInt64 &&& 63)
def cmp64 (x y : Int64) : Int := if x < y then -1 else if x = y then 0 else 1
/-- an instruction in a table: its pc, itself, what it is linked to, a constant -/
abbrev Ent : Type := Nat × Instr × List Nat × Int
abbrev xg (e : Ent) (k : Nat) : Nat := e.2.2.1.getD k 0
/-- a dead long's first half -/
def kl (v : AV) : AV := match v with
  | .inr (.inl _) => JK
  | v => v
def stv (l : List AV) (i : Nat) (v : AV) : List AV := match i with
  | 0 => l.set 0 v
  | j + 1 => (l.modify j kl).set (j + 1) v
def stw (l : List AV) (i : Nat) (v : AV) : List AV := (stv l i v).set (i + 1) JK
def allP : List Prop → Prop
  | [] => True
  | [g] => g
  | g :: gs => g ∧ allP gs
/-- how a step ends: goes on; jumps; calls; returns; throws -/
abbrev AR : Type := (List AV × List AV × Mem) ⊕ ((Nat × List AV × List AV × Mem) ⊕ ((Nat × List AV × List AV × List AV × Mem) ⊕ ((AV × Mem) ⊕ (Nat × Mem))))
abbrev rNx (l st : List AV) (M : Mem) : AR := .inl (l, st, M)
abbrev rJp (i : Nat) (l st : List AV) (M : Mem) : AR := .inr (.inl (i, l, st, M))
abbrev rCl (q : Nat) (as l st : List AV) (M : Mem) : AR := .inr (.inr (.inl (q, as, l, st, M)))
abbrev rRt (v : AV) (M : Mem) : AR := .inr (.inr (.inr (.inl (v, M))))
abbrev rTh (E : Nat) (M : Mem) : AR := .inr (.inr (.inr (.inr (E, M))))
abbrev SR : Type := Option (List Prop × AR)
def ldI (l : List AV) (i : Nat) (st : List AV) (M : Mem) : SR := match l[i]? with
  | some (.inl x) => some ([], rNx l (vi x :: st) M)
  | _ => none
def ldL (l : List AV) (i : Nat) (st : List AV) (M : Mem) : SR := match l[i]? with
  | some (.inr (.inl x)) => some ([], rNx l (vl x :: st) M)
  | _ => none
def ldR (l : List AV) (i : Nat) (st : List AV) (M : Mem) : SR := match l[i]? with
  | some (.inr (.inr (t, k))) => if t = 1000 then none else some ([], rNx l (vr t k :: st) M)
  | _ => none
def stI (l : List AV) (i : Nat) (st : List AV) (M : Mem) : SR := match st with
  | .inl x :: st => some ([], rNx (stv l i (vi x)) st M)
  | _ => none
def stL (l : List AV) (i : Nat) (st : List AV) (M : Mem) : SR := match st with
  | .inr (.inl x) :: st => some ([], rNx (stw l i (vl x)) st M)
  | _ => none
def stR (l : List AV) (i : Nat) (st : List AV) (M : Mem) : SR := match st with
  | .inr (.inr (t, k)) :: st => some ([], rNx (stv l i (vr t k)) st M)
  | _ => none
def bnI (f : Int → Int → Int) (l st : List AV) (M : Mem) : SR := match st with
  | .inl y :: .inl x :: st => some ([], rNx l (vi (f x y) :: st) M)
  | _ => none
def bnL (f : Int64 → Int64 → Int64) (l st : List AV) (M : Mem) : SR := match st with
  | .inr (.inl y) :: .inr (.inl x) :: st => some ([], rNx l (vl (f x y) :: st) M)
  | _ => none
def shL (f : Int64 → Int → Int64) (l st : List AV) (M : Mem) : SR := match st with
  | .inl y :: .inr (.inl x) :: st => some ([], rNx l (vl (f x y) :: st) M)
  | _ => none
def jmp (j : Nat) (c : Prop) (d : Decidable c) (l st : List AV) (M : Mem) : AR := if c then rJp j l st M else rNx l st M
def if1 (k : ClassFile.Cond) (j : Nat) (l st : List AV) (M : Mem) : SR := match st with
  | .inl x :: st => some ([], match k with
    | .eq => jmp j (x = 0) inferInstance l st M
    | .ne => jmp j (x ≠ 0) inferInstance l st M
    | .lt => jmp j (x < 0) inferInstance l st M
    | .ge => jmp j (0 ≤ x) inferInstance l st M
    | .gt => jmp j (0 < x) inferInstance l st M
    | .le => jmp j (x ≤ 0) inferInstance l st M)
  | _ => none
def if2 (k : ClassFile.Cond) (j : Nat) (l st : List AV) (M : Mem) : SR := match st with
  | .inl y :: .inl x :: st => some ([], match k with
    | .eq => jmp j (x = y) inferInstance l st M
    | .ne => jmp j (x ≠ y) inferInstance l st M
    | .lt => jmp j (x < y) inferInstance l st M
    | .ge => jmp j (y ≤ x) inferInstance l st M
    | .gt => jmp j (y < x) inferInstance l st M
    | .le => jmp j (x ≤ y) inferInstance l st M)
  | _ => none
def tsel (lo hi : Int) (xs : List Nat) (x : Int) : Nat := if lo ≤ x ∧ x ≤ hi then xs.getD ((x - lo).toNat + 1) 0 else xs.getD 0 0
