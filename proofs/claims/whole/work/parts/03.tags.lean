/-! TAGS (by program): 0..10 the classes, 11 String, 20.. an array-valued field each (its nested rows the tags behind it), then out, the two static rows, the script, the bytes of Strings -/
def akT : List Nat := [0, 0, 0, 0, 0, 0, 0, 0, 0, 0, 0, 0, 0, 0, 0, 0, 0, 0, 0, 0, 1, 2, 2, 2, 2, 2, 2, 1, 1, 2, 2, 1, 1, 1, 1, 1, 1, 3, 3, 1, 1, 1, 2, 1, 2, 2, 3, 1, 1, 1, 2, 1, 3, 4, 1, 1, 1, 1, 4, 1, 4, 1, 1, 1, 4, 1, 4, 1, 4, 4, 4, 2, 4, 4, 4, 1, 4, 4, 2, 1, 1, 1, 2, 4, 2, 4, 4, 1, 4, 2, 4, 1, 1, 4, 1, 4, 1, 1, 4, 4, 4, 1, 2, 4, 2, 4, 2, 2, 2, 3, 4, 3, 1, 4, 2, 2, 5, 5, 5, 6]
def azT : List Nat := [0, 0, 0, 0, 0, 0, 0, 0, 0, 0, 0, 0, 0, 0, 0, 0, 0, 0, 0, 0, 875, 875, 2625, 125, 125, 3, 875, 75, 9, 9, 9, 9, 9, 3, 3, 15, 15, 3, 175, 500, 500, 64, 875, 3, 5, 5, 15, 3, 125, 125, 375, 15, 15, 3, 500, 500, 3, 3, 3, 4, 3, 4, 3, 3, 3, 4, 3, 4, 7, 125, 8, 3, 7, 125, 8, 3, 7, 125, 8, 3, 3, 3, 3, 125, 3, 3, 5, 6, 7, 5, 7, 5, 9, 3, 500, 3, 10, 3, 3, 3, 5, 6, 3, 125, 8, 125, 8, 125, 125, 125, 3, 5, 3, 7, 5, 1, 3, 3, 0, 0]
def niT : List Nat := [3, 1, 4, 1, 6, 1, 2, 1, 3, 1, 1, 28, 0, 0, 0, 0, 0, 0, 0, 0, 3, 3, 3, 3, 3, 1, 1, 4, 4, 1, 1, 1, 1, 6, 6, 6, 6, 6, 6, 1, 2, 2, 1, 1, 1, 1, 3, 3, 3, 3, 3, 3, 3, 1, 1, 1, 1, 1, 1, 3, 1, 3, 1, 1, 1, 3, 1, 3, 2, 14, 1750, 14000, 1, 7, 875, 7000, 1, 7, 875, 1, 1, 1, 1, 1, 125, 1, 3, 15, 1, 7, 1, 7, 1, 1, 3, 1, 3, 1, 1, 3, 9, 45, 1, 1, 125, 1, 125, 1, 1, 1, 1, 3, 1, 1, 7, 1, 1, 1, 1, 28]
abbrev akd (t : Nat) : Nat := akT.getD t 0
abbrev asz (t : Nat) : Nat := azT.getD t 0
def rcB (i : Nat) : Nat := if i = 2 then 5 else 0
def pFT : List (List (Nat → Nat × Nat)) := [[fun i => (4, rcB i), fun i => (8, i), fun _ => (0, 0), fun i => (20, i), fun i => (21, i), fun i => (22, i), fun i => (23, i), fun i => (24, i)],
  [fun i => (25, i), fun _ => (0, 0), fun _ => (0, 0), fun _ => (0, 0), fun _ => (0, 0), fun _ => (0, 0), fun _ => (0, 0), fun _ => (0, 0), fun i => (26, i)],
  [fun i => (4, i), fun i => (27, i), fun i => (28, i), fun _ => (0, 0)],
  [fun i => (29, i), fun i => (30, i), fun i => (31, i), fun i => (32, i)],
  [fun _ => (0, 0), fun _ => (0, 0), fun _ => (0, 0), fun _ => (0, 0), fun _ => (0, 0), fun _ => (0, 0), fun _ => (0, 0), fun _ => (0, 0), fun i => (33, i), fun i => (34, i), fun i => (35, i), fun i => (36, i), fun i => (37, i), fun i => (38, i)],
  [fun _ => (4, 4), fun _ => (0, 0), fun _ => (0, 0), fun i => (39, i), fun _ => (6, 0), fun _ => (6, 1), fun _ => (0, 0), fun _ => (0, 0), fun _ => (0, 0), fun _ => (0, 0)],
  [fun i => (40, i), fun _ => (0, 0), fun i => (41, i), fun _ => (0, 0)],
  [fun _ => (4, 0), fun i => (42, i), fun i => (43, i), fun i => (44, i), fun i => (45, i), fun _ => (0, 0)],
  [fun i => (46, i), fun i => (47, i), fun i => (48, i), fun i => (49, i), fun i => (50, i), fun i => (4, rcB i), fun i => (51, i), fun i => (52, i), fun _ => (0, 0)],
  [fun _ => (5, 0), fun _ => (0, 0), fun _ => (2, 0), fun i => (53, i), fun _ => (0, 0), fun _ => (0, 0), fun _ => (0, 1), fun _ => (0, 0), fun _ => (4, 5), fun _ => (0, 2), fun _ => (1, 0), fun _ => (7, 0), fun _ => (3, 0), fun _ => (0, 0), fun _ => (0, 0)],
  [fun _ => (0, 0), fun _ => (0, 0), fun _ => (0, 0), fun _ => (0, 0), fun _ => (0, 0), fun _ => (0, 0), fun _ => (0, 0), fun _ => (0, 0), fun _ => (0, 0), fun i => (54, i), fun i => (55, i), fun _ => (0, 0), fun _ => (0, 0), fun _ => (0, 0), fun _ => (0, 0), fun _ => (0, 0), fun _ => (0, 0), fun _ => (0, 0), fun _ => (0, 0), fun _ => (0, 0), fun _ => (0, 0), fun i => (56, i), fun i => (57, i), fun i => (58, i), fun i => (60, i), fun _ => (0, 0), fun _ => (0, 0), fun _ => (0, 0), fun _ => (0, 0), fun _ => (0, 0), fun _ => (0, 0), fun _ => (0, 0), fun _ => (0, 0), fun _ => (0, 0), fun i => (62, i), fun i => (63, i), fun i => (64, i), fun i => (66, i), fun _ => (0, 0), fun _ => (0, 0), fun _ => (0, 0), fun i => (68, i), fun i => (72, i), fun i => (76, i), fun _ => (0, 0), fun i => (79, i), fun i => (80, i), fun i => (81, i), fun i => (82, i), fun i => (83, i), fun i => (85, i), fun _ => (68, 1), fun i => (88, i), fun i => (90, i), fun _ => (0, 0), fun _ => (0, 0), fun i => (92, i), fun i => (93, i), fun i => (95, i), fun i => (97, i), fun i => (98, i), fun _ => (0, 0), fun _ => (0, 0), fun _ => (0, 0), fun i => (102, i), fun i => (103, i), fun i => (105, i), fun i => (107, i), fun i => (108, i), fun i => (109, i), fun i => (110, i), fun i => (112, i), fun i => (113, i)],
  [fun i => (119, i)]]
def pF (t j i : Nat) : Nat × Nat := ((pFT.getD t []).getD j (fun _ => (0, 0))) i
def pA (t i j : Nat) : Nat × Nat := if t = 53 then (2, j + 1) else (t + 1, i * asz t + j)
def strT : List (List Int) := [[110, 111, 116, 32, 115, 111, 32, 109, 97, 110, 121, 32, 98, 121, 116, 101, 115, 32, 111, 110, 32, 116, 104, 101, 32, 116, 97, 112, 101], [110, 111, 32, 115, 117, 99, 104, 32, 119, 104, 97, 116], [110, 111, 32, 115, 117, 99, 104, 32, 114, 117, 108, 101], [110, 111, 32, 115, 117, 99, 104, 32, 100, 111, 105, 110, 103], [110, 111, 32, 115, 117, 99, 104, 32, 112, 114, 105, 122, 101], [110, 111, 32, 115, 117, 99, 104, 32, 99, 111, 105, 110], [110, 111, 32, 115, 117, 99, 104, 32, 102, 101, 101], [116, 104, 101, 114, 101, 32, 105, 115, 32, 110, 111, 32, 114, 97, 99, 101], [110, 111, 32, 115, 117, 99, 104, 32, 115, 104, 111, 112], [116, 104, 101, 121, 32, 97, 114, 101, 32, 111, 110, 101], [110, 111, 32, 115, 117, 99, 104, 32, 115, 116, 97, 116, 101], [110, 111, 32, 115, 117, 99, 104, 32, 119, 101, 101, 107, 115, 32, 111, 114, 32, 115, 116, 101, 112, 115], [115, 104, 111, 112], [112, 114, 105, 122, 101], [115, 101, 99, 111, 110, 100], [119, 101, 101, 107, 115], [108, 101, 97, 114, 110], [98, 101, 104, 105, 110, 100], [115, 101, 108, 108], [108, 101, 97, 118, 101], [112, 97, 99, 101], [97, 116], [111, 114], [97, 110, 100], [110, 111, 116], [111, 119, 110], [110, 101, 120, 116], [119, 101, 101, 107]]
def roI (t i j : Nat) : Int := if t = 116 then [1, 5, 25].getD j 0 else if t = 117 then [25, 5, 1].getD j 0 else (strT.getD i []).getD j 0
def aln (M : Mem) (t i : Nat) : Int := if t = 118 then M.1 118 1 0 else if t = 119 then ((strT.getD i []).length : Int) else (asz t : Int)
def rdI (M : Mem) (t i j : Nat) : Int := if t = 116 ∨ t = 117 ∨ t = 119 then roI t i j else M.1 t i j

def gtf (c j k : Nat) (v : Int) (l st : List AV) (M : Mem) : SR := match st with
  | .inr (.inr (t, i)) :: st => if t = c then
      (match k with
      | 0 => some ([], rNx l (vi (M.1 c i j) :: st) M)
      | 1 => some ([], rNx l (vl (M.2 c i j) :: st) M)
      | 2 => some ([], rNx l (vr (pF c j i).1 (pF c j i).2 :: st) M)
      | 3 => some ([], rNx l (vr 6 (M.1 c i j).toNat :: st) M)
      | 5 => some ([], rNx l (vi v :: st) M)
      | _ => none) else none
  | _ => none
def ptf (c j k : Nat) (l st : List AV) (M : Mem) : SR := match k, st with
  | 0, .inl x :: .inr (.inr (t, i)) :: st => if t = c then some ([], rNx l st (sI M c i j x)) else none
  | 4, .inl x :: .inr (.inr (t, i)) :: st => if t = c then some ([x = 0 ∨ x = 1], rNx l st (sI M c i j x)) else none
  | 1, .inr (.inl x) :: .inr (.inr (t, i)) :: st => if t = c then some ([], rNx l st (sL M c i j x)) else none
  | 3, .inr (.inr (6, x)) :: .inr (.inr (t, i)) :: st => if t = c then some ([x < 2], rNx l st (sI M c i j (x : Int))) else none
  | _, _ => none
def aldI (kd : Nat → Bool) (l st : List AV) (M : Mem) : SR := match st with
  | .inl j :: .inr (.inr (t, i)) :: st => if kd (akd t) = true then some ([0 ≤ j ∧ j < aln M t i], rNx l (vi (rdI M t i j.toNat) :: st) M) else none
  | _ => none
def aldL (l st : List AV) (M : Mem) : SR := match st with
  | .inl j :: .inr (.inr (t, i)) :: st => if akd t = 2 then some ([0 ≤ j ∧ j < aln M t i], rNx l (vl (M.2 t i j.toNat) :: st) M) else none
  | _ => none
def aldR (l st : List AV) (M : Mem) : SR := match st with
  | .inl j :: .inr (.inr (t, i)) :: st => if akd t = 4 then some ([0 ≤ j ∧ j < aln M t i], rNx l (vr (pA t i j.toNat).1 (pA t i j.toNat).2 :: st) M) else none
  | _ => none
def astI (kd : Nat) (f : Int → Int) (l st : List AV) (M : Mem) : SR := match st with
  | .inl x :: .inl j :: .inr (.inr (t, i)) :: st => if akd t = kd then some ([0 ≤ j ∧ j < aln M t i], rNx l st (sI M t i j.toNat (f x))) else none
  | _ => none
def astL (l st : List AV) (M : Mem) : SR := match st with
  | .inr (.inl x) :: .inl j :: .inr (.inr (t, i)) :: st => if akd t = 2 then some ([0 ≤ j ∧ j < aln M t i], rNx l st (sL M t i j.toNat x)) else none
  | _ => none
/-- words on the stack -/
def wds : List AV → Nat
  | [] => 0
  | .inr (.inl _) :: r => wds r + 2
  | _ :: r => wds r + 1
def arC (l st : List AV) (M : Mem) : SR := match st with
  | .inl n :: .inl p' :: .inr (.inr (t', i')) :: .inl p :: .inr (.inr (t, i)) :: st =>
    if 8 < wds st then none else if akd t = akd t' ∧ (akd t = 1 ∨ akd t = 3) then some ([0 ≤ p ∧ 0 ≤ p' ∧ 0 ≤ n ∧ p + n ≤ aln M t i ∧ p' + n ≤ aln M t' i'], rNx l st (cpI M t i p.toNat t' i' p'.toNat n.toNat))
    else if akd t = 2 ∧ akd t' = 2 then some ([0 ≤ p ∧ 0 ≤ p' ∧ 0 ≤ n ∧ p + n ≤ aln M t i ∧ p' + n ≤ aln M t' i'], rNx l st (cpL M t i p.toNat t' i' p'.toNat n.toNat))
    else none
  | _ => none
def step (e : Ent) (l st : List AV) (M : Mem) : SR := match e.2.1 with
  | .iconst n => some ([], rNx l (vi n :: st) M)
  | .bipush n => some ([], rNx l (vi n :: st) M)
  | .sipush n => some ([], rNx l (vi n :: st) M)
  | .lconst k => some ([], rNx l (vl (match k with | 0 => 0 | 1 => 1) :: st) M)
  | .ldc _ => match xg e 0 with
    | 0 => some ([], rNx l (vi e.2.2.2 :: st) M)
    | _ => some ([], rNx l (vr 11 (xg e 1) :: st) M)
  | .ldc_w _ => match xg e 0 with
    | 0 => some ([], rNx l (vi e.2.2.2 :: st) M)
    | _ => none
  | .ldc2_w _ => some ([], rNx l (vl (Int64.ofInt e.2.2.2) :: st) M)
  | .iload i => ldI l i st M
  | .iload_n i => ldI l i.val st M
  | .lload i => ldL l i st M
  | .lload_n i => ldL l i.val st M
  | .aload i => ldR l i st M
  | .aload_n i => ldR l i.val st M
  | .istore i => stI l i st M
  | .istore_n i => stI l i.val st M
  | .lstore i => stL l i st M
  | .lstore_n i => stL l i.val st M
  | .astore i => stR l i st M
  | .astore_n i => stR l i.val st M
  | .iinc i n => match l[i]? with
    | some (.inl x) => some ([], rNx (stv l i (vi (w32 (x + n)))) st M)
    | _ => none
  | .iadd => bnI (fun x y => w32 (x + y)) l st M
  | .isub => bnI (fun x y => w32 (x - y)) l st M
  | .imul => bnI (fun x y => w32 (x * y)) l st M
  | .iand => bnI band l st M
  | .ior => bnI bor l st M
  | .ixor => bnI bxor l st M
  | .ishl => bnI bshl l st M
  | .ishr => bnI bshr l st M
  | .iushr => bnI bushr l st M
  | .idiv => match st with
    | .inl y :: .inl x :: st => some ([y ≠ 0], rNx l (vi (w32 (x.tdiv y)) :: st) M)
    | _ => none
  | .irem => match st with
    | .inl y :: .inl x :: st => some ([y ≠ 0], rNx l (vi (x.tmod y) :: st) M)
    | _ => none
  | .ineg => match st with
    | .inl x :: st => some ([], rNx l (vi (w32 (-x)) :: st) M)
    | _ => none
  | .ladd => bnL (fun x y => x + y) l st M
  | .lsub => bnL (fun x y => x - y) l st M
  | .lmul => bnL (fun x y => x * y) l st M
  | .lneg => match st with
    | .inr (.inl x) :: st => some ([], rNx l (vl (-x) :: st) M)
    | _ => none
  | .lshl => shL lsl l st M
  | .lshr => shL lsr l st M
  | .lcmp => match st with
    | .inr (.inl y) :: .inr (.inl x) :: st => some ([], rNx l (vi (cmp64 x y) :: st) M)
    | _ => none
  | .i2l => match st with
    | .inl x :: st => some ([], rNx l (vl (Int64.ofInt x) :: st) M)
    | _ => none
  | .i2c => match st with
    | .inl x :: st => some ([0 ≤ x ∧ x < 65536], rNx l (vi x :: st) M)
    | _ => none
  | .dup => match st with
    | .inl x :: st => some ([], rNx l (vi x :: vi x :: st) M)
    | .inr (.inr (t, k)) :: st => some ([], rNx l (vr t k :: vr t k :: st) M)
    | _ => none
  | .dup2 => match st with
    | .inr (.inl x) :: st => some ([], rNx l (vl x :: vl x :: st) M)
    | .inl x :: .inr (.inr (t, k)) :: st => some ([], rNx l (vi x :: vr t k :: vi x :: vr t k :: st) M)
    | _ => none
  | .pop => match st with
    | .inl _ :: st => some ([], rNx l st M)
    | .inr (.inr _) :: st => some ([], rNx l st M)
    | _ => none
  | .getfield _ => gtf (xg e 0) (xg e 1) (xg e 2) e.2.2.2 l st M
  | .putfield _ => ptf (xg e 0) (xg e 1) (xg e 2) l st M
  | .getstatic _ => match xg e 0 with
    | 0 => some ([], rNx l (vr (xg e 1) 0 :: st) M)
    | _ => some ([], rNx l (vi e.2.2.2 :: st) M)
  | .iaload => aldI (fun k => k == 1 || k == 5) l st M
  | .baload => aldI (fun k => k == 3 || k == 6) l st M
  | .laload => aldL l st M
  | .aaload => aldR l st M
  | .iastore => astI 1 (fun x => x) l st M
  | .bastore => astI 3 (fun x => x % 2) l st M
  | .lastore => astL l st M
  | .arraylength => match st with
    | .inr (.inr (t, i)) :: st => if akd t = 0 then none else some ([], rNx l (vi (aln M t i) :: st) M)
    | _ => none
  | .ifCond k _ => if1 k (xg e 0) l st M
  | .if_icmp k _ => if2 k (xg e 0) l st M
  | .ifnonnull _ => match st with
    | .inr (.inr _) :: st => some ([], rJp (xg e 0) l st M)
    | _ => none
  | .goto _ => some ([], rJp (xg e 0) l st M)
  | .tableswitch _ lo hi _ => match st with
    | .inl x :: st => some ([], rJp (tsel lo hi e.2.2.1 x) l st M)
    | _ => none
  | .invokevirtual _ => if 8 < wds (st.drop (xg e 1)) ∨ st.length < xg e 1 then none else match (st.take (xg e 1)).reverse with
    | .inr (.inr (t, i)) :: as => if t = e.2.2.2.toNat then some ([], rCl (xg e 0) (vr t i :: as) l (st.drop (xg e 1)) M) else none
    | _ => none
  | .invokestatic _ => match xg e 0 with
    | 9000 => arC l st M
    | 9001 => match st with
      | .inl n :: .inl j :: st => if 8 < wds st then none else some ([0 ≤ j ∧ j < n], rNx l st M)
      | _ => none
    | q => if 8 < wds (st.drop (xg e 1)) ∨ st.length < xg e 1 then none else some ([], rCl q (st.take (xg e 1)).reverse l (st.drop (xg e 1)) M)
  | .new _ => if 8 < wds st then none else some ([], rTh (xg e 0) M)
  | .ireturn => match st with
    | [.inl x] => match xg e 0 with
      | 0 => some ([], rRt (vi x) M)
      | 1 => some ([], rRt (vi (x % 2)) M)
      | _ => some ([0 ≤ x ∧ x < 128], rRt (vi x) M)
    | _ => none
  | .lreturn => match st with
    | [.inr (.inl x)] => some ([], rRt (vl x) M)
    | _ => none
  | .areturn => match st with
    | [.inr (.inr (t, i))] => some ([], rRt (vr t i) M)
    | _ => none
  | .return_ => match st with
    | [] => some ([], rRt (vi 0) M)
    | _ => none
  | _ => none
/-- so many straight steps: their guards, and where they end -/
def run : Nat → List Ent → List AV → List AV → Mem → Option (List Prop × List AV × List AV × Mem)
  | 0, _, l, st, M => some ([], l, st, M)
  | n + 1, is, l, st, M => match is with
    | [] => none
    | e :: is => match step e l st M with
      | some (gs, .inl (l, st, M)) => match run n is l st M with
        | some (gs', r) => some (gs ++ gs', r)
        | none => none
      | _ => none
abbrev RS : Type := (AV ⊕ Nat) × Mem
/-- how many throws were caught: counted for the room -/
def gh (M : Mem) : Mem := sI M 900 0 0 (M.1 900 0 0 + 1)
def hnd (E : Nat) : List Nat → Option (Nat × Nat)
  | e :: t :: k :: r => if e = E then some (t, k) else hnd E r
  | _ => none
noncomputable def ev : Nat → (Nat → List AV → Mem → Option RS) → List Ent → List Ent → List AV → List AV → Mem → Option RS
  | 0, _, _, _, _, _, _ => none
  | n + 1, call, c, is, l, st, M => match is with
    | [] => none
    | e :: is => match step e l st M with
      | none => none
      | some (gs, r) => @ite _ (allP gs) (Classical.propDecidable _) (match r with
        | .inl (l, st, M) => ev n call c is l st M
        | .inr (.inl (i, l, st, M)) => ev n call c (c.drop i) l st M
        | .inr (.inr (.inl (q, as, l, st, M))) => match call q as M with
          | none => none
          | some (.inl v, M) => ev n call c is l (if xg e 2 = 0 then st else v :: st) M
          | some (.inr E, M) => match hnd E (e.2.2.1.drop 3) with
            | none => some (.inr E, M)
            | some (t, k) => if M.1 900 0 0 < 1000 then ev n call c (c.drop t) (stv l k JK) [] (gh M) else none
        | .inr (.inr (.inr (.inl (v, M)))) => some (.inl v, M)
        | .inr (.inr (.inr (.inr (E, M)))) => some (.inr E, M)) none
/-- arguments as locals: a long takes two -/
def lay : List AV → List AV
  | [] => []
  | .inr (.inl x) :: r => vl x :: JK :: lay r
  | v :: r => v :: lay r
abbrev Prg : Type := Nat → Option (List Ent × Nat)
noncomputable def callD (P : Prg) : Nat → Nat → Nat → List AV → Mem → Option RS
  | 0, _, _, _, _ => none
  | d + 1, n, q, as, M => match P q with
    | none => none
    | some (c, nl) => if (lay as).length ≤ nl then ev n (callD P d n) c c (lay as ++ List.replicate (nl - (lay as).length) JK) [] M else none
