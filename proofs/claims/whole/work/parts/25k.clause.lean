/-! LAYER 3, THE CLAUSES: one reading of a race's text -/
abbrev TT : Type := Nat → Option (Nat × Rd)
abbrev CRs : Type := (Int × Int) ⊕ ((RT × TT) × Nat)
def sD (D : RT) (t j : Nat) (v : Int) : RT := fun t' j' => if t' = t ∧ j' = j then v else D t' j'
def sTt (T : TT) (i : Nat) (x : Option (Nat × Rd)) : TT := fun i' => if i' = i then x else T i'
def nmb (B : BT) (n k : Nat) (lo hi : Int) : (Int × Int) ⊕ (Int × Nat) :=
  if dge B n (blk B n k) = blk B n k then .inl (1, (blk B n k : Int)) else if lo ≤ nvl B n (blk B n k) 0 ∧ nvl B n (blk B n k) 0 ≤ hi then .inr (nvl B n (blk B n k) 0, dge B n (blk B n k)) else .inl (2, (blk B n k : Int))
def pxF (n : Nat) : Nat := 16 * (n + 1) + 100
def rd0 : Rd := ([], fun _ _ _ => 0)
/-- paces of the shop s: 3 - f are told already -/
def pcx (B : BT) (n s : Nat) : Nat → RT → Nat → (Int × Int) ⊕ (RT × Nat)
  | 0, D, k => if isW B n k (wd 20) then .inl (3, (k : Int)) else .inr (D, k)
  | f + 1, D, k => if isW B n k (wd 20) then
      match nmb B n (k + 4) 0 99 with
      | .inl e => .inl e
      | .inr (c, k1) => if isW B n (blk B n k1) (wd 21) then
          match nmb B n (blk B n k1 + 2) 0 4 with
          | .inl e => .inl e
          | .inr (v, k2) => pcx B n s f (sD (sD (sD D 34 s (3 - f : Nat)) 35 (s * 5 + (3 - f)) c) 36 (s * 5 + (3 - f)) v) (blk B n k2)
        else .inl (1, (blk B n k1 : Int))
    else .inr (D, k)
def scl (B : BT) (n : Nat) (D : RT) (k : Nat) : (Int × Int) ⊕ (RT × Nat) :=
  if 3 ≤ D 4 1 then .inl (3, (k : Int)) else
  match nmb B n (k + 4) 1 4 with
  | .inl e => .inl e
  | .inr (v, k1) => pcx B n (D 4 1).toNat 3 (sD (sD D 4 1 (D 4 1 + 1)) 33 (D 4 1).toNat v) (blk B n k1)
/-- one clause without its sign; k is where its first word would stand -/
def cl1 (B : BT) (n : Nat) (D : RT) (T : TT) (k : Nat) : CRs :=
  if isW B n k (wd 12) then (match scl B n D k with | .inl e => .inl e | .inr (D', k1) => .inr ((D', T), k1))
  else if isW B n k (wd 13) then
    match nmb B n (k + 5) 0 9999 with
    | .inl e => .inl e
    | .inr (v, k1) => if isW B n (blk B n k1) (wd 14) then
        match nmb B n (blk B n k1 + 6) 0 9999 with
        | .inl e => .inl e
        | .inr (v2, k2) => .inr ((sD (sD D 4 3 v) 4 4 v2, T), k2)
      else .inr ((sD (sD D 4 3 v) 4 4 0, T), blk B n k1)
  else if isW B n k (wd 15) then
    match nmb B n (k + 5) 1 6 with
    | .inl e => .inl e
    | .inr (v, k1) => .inr ((sD D 4 2 v, T), k1)
  else if isW B n k (wd 16) then
    match nmb B n (k + 5) 0 4 with
    | .inl e => .inl e
    | .inr (v, k1) => if isW B n (blk B n k1) (wd 17) then
        match nmb B n (blk B n k1 + 6) 1 3 with
        | .inl e => .inl e
        | .inr (v2, k2) => .inr ((sD (sD D 4 5 v) 4 6 v2, T), k2)
      else .inl (1, (blk B n k1 : Int))
  else if isW B n k (wd 18) then
    match px B n (pxF n) 5 0 (k + 4) rd0 with
    | .inl e => .inl e
    | .inr (r, k1) => .inr ((D, sTt T 0 (some (k + 4, r))), k1)
  else if isW B n k (wd 19) then
    match px B n (pxF n) 5 0 (k + 5) rd0 with
    | .inl e => .inl e
    | .inr (r, k1) => .inr ((D, sTt T 1 (some (k + 5, r))), k1)
  else .inl (1, (k : Int))
def cl2 (B : BT) (n : Nat) (D : RT) (T : TT) (k : Nat) : CRs :=
  match cl1 B n D T k with
  | .inl e => .inl e
  | .inr ((D', T'), k1) => if byt B n (blk B n k1) = 59 then .inr ((sD D' 4 7 (D' 4 7 + 1), T'), blk B n k1 + 1) else .inl (1, (blk B n k1 : Int))
def cls (B : BT) (n : Nat) : Nat → RT → TT → Nat → (Int × Int) ⊕ (RT × TT)
  | 0, _, _, _ => .inl (9, 0)
  | f + 1, D, T, k => if k < n then
      match cl2 B n D T k with
      | .inl e => .inl e
      | .inr ((D', T'), k1) => cls B n f D' T' (blk B n k1)
    else if D 4 1 = 0 then .inl (4, (n : Int)) else .inr (D, T)
def D0 : RT := fun t j => if t = 4 ∧ j = 2 then 4 else 0
/-- the whole text -/
def txt (B : BT) (n : Nat) : (Int × Int) ⊕ (RT × TT) := cls B n (n + 2) D0 (fun _ => none) (blk B n 0)

/-- the class at a clause -/
def DA (D : RT) (M : Mem) : Prop := ∀ t j : Nat, (t = 4 ∧ 1 ≤ j ∧ j ≤ 7) ∨ ((t = 33 ∨ t = 34) ∧ j < 3) ∨ ((t = 35 ∨ t = 36) ∧ j < 15) → M.1 t 4 j = D t j
def TA (T : TT) (M : Mem) : Prop := ∀ i : Nat, i < 2 → (0 ≤ M.1 6 i 1 ∧ M.1 6 i 1 ≤ 500) ∧ match T i with
  | none => M.1 6 i 1 = 0
  | some (_, r) => M.1 6 i 1 = (r.1.length : Int) ∧ Hc i M 0 r.1
def CK (B : BT) (n : Nat) (D : RT) (T : TT) (M : Mem) (k : Nat) : Prop := (TC B n M ∧ M.1 5 0 8 = (k : Int) ∧ k ≤ n ∧ M.1 5 0 9 = 0 ∧ M.1 5 0 1 = -1 ∧ (M.1 5 0 6 = 0 ∨ M.1 5 0 6 = 1)) ∧ DA D M ∧ TA T M
def CF (B : BT) (n : Nat) (a b : Int) (M : Mem) : Prop := ∃ tp : Nat, FX B n tp a b M
abbrev pRd (t i j : Nat) : Prop := (t = 5 ∧ i = 0 ∧ (j = 1 ∨ j = 6 ∨ j = 8 ∨ j = 9)) ∨ (t = 4 ∧ i = 4 ∧ 1 ≤ j) ∨ (33 ≤ t ∧ t ≤ 36 ∧ i = 4) ∨ (((t = 6 ∧ j = 1) ∨ t = 40) ∧ i < 2)
theorem TA.fr {T M M'} (h : TA T M) (h1 : ∀ i, i < 2 → M'.1 6 i 1 = M.1 6 i 1) (h2 : ∀ i j, i < 2 → M'.1 40 i j = M.1 40 i j) : TA T M' := by
  intro i hi
  have := h i hi
  rw [h1 i hi]
  refine ⟨this.1, ?_⟩
  have t2 := this.2
  cases hT : T i with
  | none => rw [hT] at t2; exact t2
  | some x => rw [hT] at t2; exact ⟨t2.1, t2.2.fr (fun j _ => h2 i j hi)⟩
theorem CK.at {B n D T M k k'} (h : CK B n D T M k) (hk : k' ≤ n) : CK B n D T (sI M 5 0 8 ((k' : Nat) : Int)) k' := by
  obtain ⟨⟨h1, h2, h3, h4, h5, h6⟩, h7, h8⟩ := h
  refine ⟨⟨h1.at, sI_eq, hk, ?_, ?_, ?_⟩, ?_, h8.fr (fun i hi => by rw [sI_ne (by omega)]) (fun i j hi => by rw [sI_ne (by omega)])⟩
  · rw [sI_ne (by omega)]; exact h4
  · rw [sI_ne (by omega)]; exact h5
  · rw [sI_ne (by omega)]; exact h6
  · intro t j ht; rw [sI_ne (by omega)]; exact h7 t j ht
theorem CK.d {B n D T M k t j v} (h : CK B n D T M k) (ht : t = 4 ∨ (33 ≤ t ∧ t ≤ 36)) : CK B n (sD D t j v) T (sI M t 4 j v) k := by
  obtain ⟨⟨⟨t1, t2, t3⟩, h2, h3, h4, h5, h6⟩, h7, h8⟩ := h
  refine ⟨⟨⟨?_, t2, ?_⟩, ?_, h3, ?_, ?_, ?_⟩, ?_, h8.fr (fun i hi => by rw [sI_ne (by omega)]) (fun i j hi => by rw [sI_ne (by omega)])⟩
  · rw [sI_ne (by omega)]; exact t1
  · intro j hj; rw [sI_ne (by omega)]; exact t3 j hj
  · rw [sI_ne (by omega)]; exact h2
  · rw [sI_ne (by omega)]; exact h4
  · rw [sI_ne (by omega)]; exact h5
  · rw [sI_ne (by omega)]; exact h6
  · intro t' j' ht'
    unfold sD
    by_cases he : t' = t ∧ j' = j
    · rw [if_pos he, he.1, he.2, sI_eq]
    · rw [if_neg he, sI_ne (by omega)]; exact h7 t' j' ht'
theorem FX.d {B n tp a b M t j v} (h : FX B n tp a b M) (ht : t = 4 ∨ (33 ≤ t ∧ t ≤ 36)) : FX B n tp a b (sI M t 4 j v) := by
  obtain ⟨⟨k, ⟨⟨t1, t2, t3⟩, h2, h3, h4, h5, h6, h7⟩⟩, h8, h9⟩ := h
  refine ⟨⟨k, ⟨?_, t2, ?_⟩, ?_, h3, ?_, h5, ?_, ?_⟩, ?_, ?_⟩
  · rw [sI_ne (by omega)]; exact t1
  · intro j hj; rw [sI_ne (by omega)]; exact t3 j hj
  · rw [sI_ne (by omega)]; exact h2
  · rw [sI_ne (by omega)]; exact h4
  · rw [sI_ne (by omega)]; exact h6
  · rw [sI_ne (by omega)]; exact h7
  · rw [sI_ne (by omega)]; exact h8
  · rw [sI_ne (by omega)]; exact h9
theorem CF.d {B n a b M t j v} (h : CF B n a b M) (ht : t = 4 ∨ (33 ≤ t ∧ t ≤ 36)) : CF B n a b (sI M t 4 j v) := by
  obtain ⟨tp, h⟩ := h
  exact ⟨tp, h.d ht⟩
theorem CK.rst {B n D T M k} (h : CK B n D T M k) : RSt B n (M.1 5 0 6).toNat M k := by
  obtain ⟨⟨h1, h2, h3, h4, h5, h6⟩, h7, h8⟩ := h
  have := (h8 (M.1 5 0 6).toNat (by omega)).1
  exact ⟨h1, h2, h3, by omega, by omega, this.1, this.2⟩
theorem CK.bad {B n D T M k} {a b : Int} (h : CK B n D T M k) : CF B n a b (rfs M a b) := ⟨_, FX.of_rfs h.rst h.1.2.2.2.1⟩
theorem CF.low {B n a b M} (h : CF B n a b M) : ∃ tp : Nat, tp < 2 ∧ FX B n tp a b M := by
  obtain ⟨tp, h⟩ := h
  obtain ⟨k, hk⟩ := h.1
  exact ⟨tp, hk.2.2.2.2.1, h⟩
theorem Fs.cr {tp M M'} (h : Fs (pCr tp) M M') (ht : tp < 2) : Fs pRd M M' := Fs.mono (fun t i j z => by omega) h
