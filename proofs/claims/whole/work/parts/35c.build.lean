/-! LAYER 5, THE BUILDER: what constructors make, by offsets from the first new cell -/
abbrev BE : Type := (Nat × List (Option AV)) ⊕ ((FieldType × List Nat) ⊕ List (Option Nat))
abbrev BW : Type := Nat × Nat × List (Nat × BE)
def arrN (ty : FieldType) : Nat → FieldType
  | 0 => ty
  | k + 1 => .array (arrN ty k)
def nS : List Nat → Nat
  | [] => 0
  | n :: r => 1 + n * nS r
def nSl : List Nat → Nat
  | [] => 0
  | n :: r => n + n * nSl r
def Dms (K : FieldType → ClassId) (ty : FieldType) : List Nat → Dm
  | [] => []
  | n :: r => (K (arrN ty r.length), n) :: Dms K ty r
def bsz : BE → Nat
  | .inr (.inl (_, ns)) => nS ns
  | _ => 1
def bfind (o : Nat) : List (Nat × BE) → Option (Nat × BE)
  | [] => none
  | (a, x) :: r => if a = o then some (0, x) else (bfind o r).map (fun q => (q.1 + 1, q.2))
def dflt (t : Nat) : List (Option AV) := (List.range (nfl t)).map (fun j => match fty t j with
  | 1 => some (vl 0)
  | 2 => none
  | 3 => none
  | _ => some (vi 0))
def bty : Nat → FieldType
  | 0 => .int
  | 1 => .long
  | _ => .boolean
/-- how a step ends: goes on; jumps; calls; returns -/
abbrev BR : Type := (List AV × List AV × BW) ⊕ ((Nat × List AV × List AV) ⊕ ((Nat × List AV × List AV) ⊕ Unit))
def sml (x : Int) : Bool := decide (0 ≤ x) && decide (x ≤ 3000)
def dms : List AV → Option (List Nat)
  | [] => some []
  | .inl x :: r => if sml x = true then (dms r).map (fun ns => x.toNat :: ns) else none
  | _ => none
def bnew (lv st : List AV) (w : BW) (x : BE) (sl : Nat) : Option BR := some (.inl (lv, vr 0 w.1 :: st, (w.1 + bsz x, w.2.1 + sl, w.2.2 ++ [(w.1, x)])))
def isRef : AV → Bool
  | .inr (.inr (t, _)) => t == 0
  | _ => false
def bput (t j : Nat) (lv : List AV) (w : BW) : List AV → Option BR
  | v :: .inr (.inr (_, o)) :: r => match bfind o w.2.2 with
    | some (k, .inl (t', fs)) => if t' = t ∧ j < fs.length ∧ ((fty t j = 0 ∧ v.isLeft = true) ∨ ((fty t j = 2 ∨ fty t j = 3) ∧ isRef v = true)) then some (.inl (lv, r, (w.1, w.2.1, w.2.2.set k (o, .inl (t, fs.set j (some v)))))) else none
    | _ => none
  | _ => none
def bget (t j : Nat) (lv : List AV) (w : BW) : List AV → Option BR
  | .inr (.inr (_, o)) :: r => match bfind o w.2.2 with
    | some (_, .inl (t', fs)) => if t' = t then (match fs[j]? with | some (some v) => if isRef v = true then some (.inl (lv, v :: r, w)) else none | _ => none) else none
    | _ => none
  | _ => none
def baas (lv : List AV) (w : BW) : List AV → Option BR
  | .inr (.inr (_, v)) :: .inl i :: .inr (.inr (_, a)) :: r => match bfind a w.2.2, bfind v w.2.2 with
    | some (k, .inr (.inr xs)), some (_, .inl (2, _)) => if sml i = true ∧ i.toNat < xs.length then some (.inl (lv, r, (w.1, w.2.1, w.2.2.set k (a, .inr (.inr (xs.set i.toNat (some v))))))) else none
    | _, _ => none
  | _ => none
def bstp (e : Ent) (lv st : List AV) (w : BW) : Option BR := match e.2.1 with
  | .aload_n i => match lv[i.val]? with
    | some v => if isRef v = true then some (.inl (lv, v :: st, w)) else none
    | _ => none
  | .iload_n i => match lv[i.val]? with
    | some (.inl x) => some (.inl (lv, vi x :: st, w))
    | _ => none
  | .iconst k => some (.inl (lv, vi k :: st, w))
  | .bipush k => some (.inl (lv, vi k :: st, w))
  | .sipush k => some (.inl (lv, vi k :: st, w))
  | .istore_n i => match st with
    | .inl x :: r => some (.inl (stv lv i.val (vi x), r, w))
    | _ => none
  | .iinc i k => match lv[i]? with
    | some (.inl x) => some (.inl (stv lv i (vi (x + k)), st, w))
    | _ => none
  | .if_icmp .ge _ => match st with
    | .inl y :: .inl x :: r => if sml x = true ∧ sml y = true then (if y ≤ x then some (.inr (.inl (xg e 0, lv, r))) else some (.inl (lv, r, w))) else none
    | _ => none
  | .goto _ => some (.inr (.inl (xg e 0, lv, st)))
  | .dup => match st with
    | v :: r => if isRef v = true then some (.inl (lv, v :: v :: r, w)) else none
    | _ => none
  | .new _ => bnew lv st w (.inl (xg e 0, dflt (xg e 0))) (nfl (xg e 0))
  | .invokespecial _ => if xg e 0 = 99 then (match st with
    | [v] => if isRef v = true then some (.inl (lv, [], w)) else none
    | _ => none) else (if xg e 1 + 1 ≤ st.length ∧ st.length ≤ xg e 1 + 4 ∧ st.all (fun v => isRef v || v.isLeft) = true then some (.inr (.inr (.inl (xg e 0, (st.take (xg e 1 + 1)).reverse, st.drop (xg e 1 + 1))))) else none)
  | .putfield _ => bput (xg e 0) (xg e 1) lv w st
  | .getfield _ => bget (xg e 0) (xg e 1) lv w st
  | .newarray _ => match st with
    | .inl x :: r => if sml x = true then bnew lv r w (.inr (.inl (bty (xg e 0), [x.toNat]))) x.toNat else none
    | _ => none
  | .anewarray _ => match st with
    | .inl x :: r => if sml x = true then bnew lv r w (.inr (.inr (List.replicate x.toNat none))) x.toNat else none
    | _ => none
  | .aastore => baas lv w st
  | .multianewarray _ d => match dms (st.take d).reverse with
    | some ns => if ns.length = d then bnew lv (st.drop d) w (.inr (.inl (bty (xg e 0), ns))) (nSl ns) else none
    | _ => none
  | .return_ => if st = [] then some (.inr (.inr (.inr ()))) else none
  | _ => none
def bev : Nat → (Nat → List AV → BW → Option BW) → List Ent → Nat → List AV → List AV → BW → Option BW
  | 0, _, _, _, _, _, _ => none
  | n + 1, call, tb, i, lv, st, w => match tb[i]? with
    | none => none
    | some e => match bstp e lv st w with
      | none => none
      | some (.inl (lv', st', w')) => bev n call tb (i + 1) lv' st' w'
      | some (.inr (.inl (j, lv', st'))) => bev n call tb j lv' st' w
      | some (.inr (.inr (.inl (q, as, rest)))) => match call q as w with
        | none => none
        | some w' => bev n call tb (i + 1) lv rest w'
      | some (.inr (.inr (.inr ()))) => some w
def bcall (prg : Nat → Option (List Ent × Nat)) : Nat → Nat → Nat → List AV → BW → Option BW
  | 0, _, _, _, _ => none
  | d + 1, n, q, as, w => match prg q with
    | none => none
    | some (tb, nl) => if (lay as).length ≤ nl then bev n (bcall prg d n) tb 0 (lay as ++ List.replicate (nl - (lay as).length) JK) [] w else none
