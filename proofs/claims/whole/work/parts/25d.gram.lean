/-! LAYER 3, THE GRAMMAR OF CONDITIONS: one reading, with its codes (operands first) and its value -/
abbrev Rd : Type := List Int × (Int → Int → Int → Int)
abbrev PRs : Type := (Int × Int) ⊕ (Rd × Nat)
def bn (f : Int → Int → Int) (c : Int) (a b : Rd) : Rd := (a.1 ++ b.1 ++ [c], fun x y z => f (a.2 x y z) (b.2 x y z))
def wrk (c x y : Int) : Int := if c = -4 then w32 (x + y) else if c = -5 then w32 (x - y) else if c = -6 then w32 (x * y) else if c = -7 then (if x < y then 1 else 0) else if c = -8 then (if y < x then 1 else 0) else if c = -9 then (if x = y then 1 else 0) else if c = -10 then band x y else bor x y
def rel (c : Int) : Int := if c = 60 then -7 else if c = 62 then -8 else -9
def nt (a : Rd) : Rd := (a.1 ++ [-12], fun x y z => w32 (1 - a.2 x y z))
/-- kinds: 0 U, 1 T, 2 E, 3 B, 4 A, 5 C; 6 7 8 9 what may follow in T, E, A, C -/
def px (B : BT) (n : Nat) : Nat → Nat → Nat → Nat → Rd → PRs
  | 0, _, _, _, _ => .inl (9, 0)
  | f + 1, 0, o, k, r =>
    if byt B n (blk B n k) = 40 then
      if 6 ≤ o then .inl (3, (blk B n k : Int)) else
      match px B n f 2 (o + 1) (blk B n k + 1) r with
      | .inl e => .inl e
      | .inr (r2, k2) => if byt B n (blk B n k2) = 41 then .inr (r2, blk B n k2 + 1) else .inl (1, (blk B n k2 : Int))
    else if isW B n (blk B n k) (wd 25) then .inr (([-1], fun x _ _ => x), blk B n k + 3)
    else if isW B n (blk B n k) (wd 26) then .inr (([-2], fun _ y _ => y), blk B n k + 4)
    else if isW B n (blk B n k) (wd 27) then .inr (([-3], fun _ _ z => z), blk B n k + 4)
    else if dge B n (blk B n k) = blk B n k then .inl (1, (blk B n k : Int))
    else if nvl B n (blk B n k) 0 ≤ 9999 then .inr (([nvl B n (blk B n k) 0], fun _ _ _ => nvl B n (blk B n k) 0), dge B n (blk B n k))
    else .inl (2, (blk B n k : Int))
  | f + 1, 1, o, k, r => match px B n f 0 o k r with
    | .inl e => .inl e
    | .inr (r2, k2) => px B n f 6 o k2 r2
  | f + 1, 2, o, k, r => match px B n f 1 o k r with
    | .inl e => .inl e
    | .inr (r2, k2) => px B n f 7 o k2 r2
  | f + 1, 3, o, k, r =>
    if isW B n (blk B n k) (wd 24) then
      if 6 ≤ o then .inl (3, (blk B n k : Int)) else
      match px B n f 3 (o + 1) (blk B n k + 3) r with
      | .inl e => .inl e
      | .inr (r2, k2) => .inr (nt r2, k2)
    else if byt B n (blk B n k) = 91 then
      if 6 ≤ o then .inl (3, (blk B n k : Int)) else
      match px B n f 5 (o + 1) (blk B n k + 1) r with
      | .inl e => .inl e
      | .inr (r2, k2) => if byt B n (blk B n k2) = 93 then .inr (r2, blk B n k2 + 1) else .inl (1, (blk B n k2 : Int))
    else match px B n f 2 o k r with
      | .inl e => .inl e
      | .inr (r2, k2) =>
        if byt B n (blk B n k2) = 60 ∨ byt B n (blk B n k2) = 62 ∨ byt B n (blk B n k2) = 61 then
          match px B n f 2 o (blk B n k2 + 1) r with
          | .inl e => .inl e
          | .inr (r3, k3) => .inr (bn (wrk (rel (byt B n (blk B n k2)))) (rel (byt B n (blk B n k2))) r2 r3, k3)
        else .inl (1, (blk B n k2 : Int))
  | f + 1, 4, o, k, r => match px B n f 3 o k r with
    | .inl e => .inl e
    | .inr (r2, k2) => px B n f 8 o k2 r2
  | f + 1, 5, o, k, r => match px B n f 4 o k r with
    | .inl e => .inl e
    | .inr (r2, k2) => px B n f 9 o k2 r2
  | f + 1, 6, o, k, r => if byt B n (blk B n k) = 42 then
      match px B n f 0 o (blk B n k + 1) r with
      | .inl e => .inl e
      | .inr (r2, k2) => px B n f 6 o k2 (bn (wrk (-6)) (-6) r r2)
    else .inr (r, blk B n k)
  | f + 1, 7, o, k, r => if byt B n (blk B n k) = 43 then
      match px B n f 1 o (blk B n k + 1) r with
      | .inl e => .inl e
      | .inr (r2, k2) => px B n f 7 o k2 (bn (wrk (-4)) (-4) r r2)
    else if byt B n (blk B n k) = 45 then
      match px B n f 1 o (blk B n k + 1) r with
      | .inl e => .inl e
      | .inr (r2, k2) => px B n f 7 o k2 (bn (wrk (-5)) (-5) r r2)
    else .inr (r, blk B n k)
  | f + 1, 8, o, k, r => if isW B n (blk B n k) (wd 23) then
      match px B n f 3 o (blk B n k + 3) r with
      | .inl e => .inl e
      | .inr (r2, k2) => px B n f 8 o k2 (bn (wrk (-10)) (-10) r r2)
    else .inr (r, blk B n k)
  | f + 1, 9, o, k, r => if isW B n (blk B n k) (wd 22) then
      match px B n f 4 o (blk B n k + 2) r with
      | .inl e => .inl e
      | .inr (r2, k2) => px B n f 9 o k2 (bn (wrk (-11)) (-11) r r2)
    else .inr (r, blk B n k)
  | _ + 1, _, _, _, _ => .inl (9, 0)
theorem px_0 {B : BT} {n f o k : Nat} {r : Rd} : px B n (f + 1) 0 o k r = (
      if byt B n (blk B n k) = 40 then
        if 6 ≤ o then .inl (3, (blk B n k : Int)) else
        match px B n f 2 (o + 1) (blk B n k + 1) r with
        | .inl e => .inl e
        | .inr (r2, k2) => if byt B n (blk B n k2) = 41 then .inr (r2, blk B n k2 + 1) else .inl (1, (blk B n k2 : Int))
      else if isW B n (blk B n k) (wd 25) then .inr (([-1], fun x _ _ => x), blk B n k + 3)
      else if isW B n (blk B n k) (wd 26) then .inr (([-2], fun _ y _ => y), blk B n k + 4)
      else if isW B n (blk B n k) (wd 27) then .inr (([-3], fun _ _ z => z), blk B n k + 4)
      else if dge B n (blk B n k) = blk B n k then .inl (1, (blk B n k : Int))
      else if nvl B n (blk B n k) 0 ≤ 9999 then .inr (([nvl B n (blk B n k) 0], fun _ _ _ => nvl B n (blk B n k) 0), dge B n (blk B n k))
      else .inl (2, (blk B n k : Int))) := rfl
theorem px_1 {B : BT} {n f o k : Nat} {r : Rd} : px B n (f + 1) 1 o k r = (
      match px B n f 0 o k r with
      | .inl e => .inl e
      | .inr (r2, k2) => px B n f 6 o k2 r2) := rfl
theorem px_2 {B : BT} {n f o k : Nat} {r : Rd} : px B n (f + 1) 2 o k r = (
      match px B n f 1 o k r with
      | .inl e => .inl e
      | .inr (r2, k2) => px B n f 7 o k2 r2) := rfl
theorem px_3 {B : BT} {n f o k : Nat} {r : Rd} : px B n (f + 1) 3 o k r = (
      if isW B n (blk B n k) (wd 24) then
        if 6 ≤ o then .inl (3, (blk B n k : Int)) else
        match px B n f 3 (o + 1) (blk B n k + 3) r with
        | .inl e => .inl e
        | .inr (r2, k2) => .inr (nt r2, k2)
      else if byt B n (blk B n k) = 91 then
        if 6 ≤ o then .inl (3, (blk B n k : Int)) else
        match px B n f 5 (o + 1) (blk B n k + 1) r with
        | .inl e => .inl e
        | .inr (r2, k2) => if byt B n (blk B n k2) = 93 then .inr (r2, blk B n k2 + 1) else .inl (1, (blk B n k2 : Int))
      else match px B n f 2 o k r with
        | .inl e => .inl e
        | .inr (r2, k2) =>
          if byt B n (blk B n k2) = 60 ∨ byt B n (blk B n k2) = 62 ∨ byt B n (blk B n k2) = 61 then
            match px B n f 2 o (blk B n k2 + 1) r with
            | .inl e => .inl e
            | .inr (r3, k3) => .inr (bn (wrk (rel (byt B n (blk B n k2)))) (rel (byt B n (blk B n k2))) r2 r3, k3)
          else .inl (1, (blk B n k2 : Int))) := rfl
theorem px_4 {B : BT} {n f o k : Nat} {r : Rd} : px B n (f + 1) 4 o k r = (
      match px B n f 3 o k r with
      | .inl e => .inl e
      | .inr (r2, k2) => px B n f 8 o k2 r2) := rfl
theorem px_5 {B : BT} {n f o k : Nat} {r : Rd} : px B n (f + 1) 5 o k r = (
      match px B n f 4 o k r with
      | .inl e => .inl e
      | .inr (r2, k2) => px B n f 9 o k2 r2) := rfl
theorem px_6 {B : BT} {n f o k : Nat} {r : Rd} : px B n (f + 1) 6 o k r = (
      if byt B n (blk B n k) = 42 then
        match px B n f 0 o (blk B n k + 1) r with
        | .inl e => .inl e
        | .inr (r2, k2) => px B n f 6 o k2 (bn (wrk (-6)) (-6) r r2)
      else .inr (r, blk B n k)) := rfl
theorem px_7 {B : BT} {n f o k : Nat} {r : Rd} : px B n (f + 1) 7 o k r = (
      if byt B n (blk B n k) = 43 then
        match px B n f 1 o (blk B n k + 1) r with
        | .inl e => .inl e
        | .inr (r2, k2) => px B n f 7 o k2 (bn (wrk (-4)) (-4) r r2)
      else if byt B n (blk B n k) = 45 then
        match px B n f 1 o (blk B n k + 1) r with
        | .inl e => .inl e
        | .inr (r2, k2) => px B n f 7 o k2 (bn (wrk (-5)) (-5) r r2)
      else .inr (r, blk B n k)) := rfl
theorem px_8 {B : BT} {n f o k : Nat} {r : Rd} : px B n (f + 1) 8 o k r = (
      if isW B n (blk B n k) (wd 23) then
        match px B n f 3 o (blk B n k + 3) r with
        | .inl e => .inl e
        | .inr (r2, k2) => px B n f 8 o k2 (bn (wrk (-10)) (-10) r r2)
      else .inr (r, blk B n k)) := rfl
theorem px_9 {B : BT} {n f o k : Nat} {r : Rd} : px B n (f + 1) 9 o k r = (
      if isW B n (blk B n k) (wd 22) then
        match px B n f 4 o (blk B n k + 2) r with
        | .inl e => .inl e
        | .inr (r2, k2) => px B n f 9 o k2 (bn (wrk (-11)) (-11) r r2)
      else .inr (r, blk B n k)) := rfl
/-- codes at work on a stack -/
def st1 (x y z c : Int) (s : List Int) : List Int :=
  if 0 ≤ c then c :: s else if c = -1 then x :: s else if c = -2 then y :: s else if c = -3 then z :: s else
  if c = -12 then match s with | a :: s => w32 (1 - a) :: s | [] => []
  else match s with | b :: a :: s => wrk c a b :: s | _ => []
def xr (x y z : Int) (cs : List Int) (s : List Int) : List Int := cs.foldl (fun s c => st1 x y z c s) s
theorem xr_app {x y z a b s} : xr x y z (a ++ b) s = xr x y z b (xr x y z a s) := by unfold xr; rw [List.foldl_append]
/-- how high the stack stands behind the codes, if it never gets too high or too low -/
def h1 (c : Int) (h : Nat) : Option Nat := if -3 ≤ c then (if h < 60 then some (h + 1) else none) else if c = -12 then (if 1 ≤ h then some h else none) else (if 2 ≤ h then some (h - 1) else none)
def hg : List Int → Nat → Option Nat
  | [], h => some h
  | c :: cs, h => match h1 c h with | some h' => hg cs h' | none => none
theorem hg_app : ∀ (a b : List Int) (h : Nat), hg (a ++ b) h = match hg a h with | some h' => hg b h' | none => none
  | [], b, h => rfl
  | c :: a, b, h => by
    show (match h1 c h with | some h' => hg (a ++ b) h' | none => none) = (match (match h1 c h with | some h' => hg a h' | none => none) with | some h' => hg b h' | none => none)
    cases h1 c h with
    | none => rfl
    | some h' => exact hg_app a b h'
/-- a reading as it must be -/
def Gd (n kd o k k' : Nat) (r : Rd) : Prop := (k < k' ∧ k' ≤ n) ∧ (1 ≤ r.1.length ∧ r.1.length ≤ k' - k) ∧ (∀ x y z s, xr x y z r.1 s = r.2 x y z :: s) ∧ (∀ h : Nat, h + 2 * (6 - o) + 1 + kd ≤ 60 → hg r.1 h = some (h + 1)) ∧ (3 ≤ kd → ∀ x y z, r.2 x y z = 0 ∨ r.2 x y z = 1) ∧ (∀ c ∈ r.1, -12 ≤ c ∧ c ≤ 9999)
theorem Gd.up {n kd kd' o k k' r} (h : Gd n kd o k k' r) (hk : kd ≤ kd') (h3 : 3 ≤ kd' → 3 ≤ kd) : Gd n kd' o k k' r := ⟨h.1, h.2.1, h.2.2.1, fun q hq => h.2.2.2.1 q (by omega), fun q => h.2.2.2.2.1 (h3 q), h.2.2.2.2.2⟩
theorem Gd.dn {n kd o o' k k' k0 k1 r} (h : Gd n kd o' k k' r) {kd' : Nat} (ho : 2 * (6 - o') + kd ≤ 2 * (6 - o) + kd') (h3 : 3 ≤ kd' → 3 ≤ kd) (h0 : k0 ≤ k) (h1 : k' ≤ k1) (hn : k1 ≤ n) : Gd n kd' o k0 k1 r := ⟨by have := h.1; omega, by have := h.1; have := h.2.1; omega, h.2.2.1, fun q hq => h.2.2.2.1 q (by omega), fun q => h.2.2.2.2.1 (h3 q), h.2.2.2.2.2⟩
theorem Gd.bin {n kd kd' o k k1 k2 k3 a b c} {g : Int → Int → Int} (ha : Gd n kd' o k k1 a) (hb : Gd n kd o k2 k3 b) (hk : kd + 1 ≤ kd') (h12 : k1 + 1 ≤ k2) (hc : -11 ≤ c ∧ c ≤ -4) (hg' : ∀ x y, g x y = wrk c x y) (h3 : 3 ≤ kd' → ∀ x y z, g (a.2 x y z) (b.2 x y z) = 0 ∨ g (a.2 x y z) (b.2 x y z) = 1) : Gd n kd' o k k3 (bn g c a b) := by
  obtain ⟨a1, a2, a3, a4, a5, a6⟩ := ha
  obtain ⟨b1, b2, b3, b4, b5, b6⟩ := hb
  refine ⟨by omega, ?_, ?_, ?_, h3, ?_⟩
  · show 1 ≤ (a.1 ++ b.1 ++ [c]).length ∧ (a.1 ++ b.1 ++ [c]).length ≤ k3 - k
    simp only [List.length_append, List.length_cons, List.length_nil]
    omega
  · intro x y z s
    show xr x y z (a.1 ++ b.1 ++ [c]) s = g (a.2 x y z) (b.2 x y z) :: s
    rw [xr_app, xr_app, a3, b3, hg']
    show st1 x y z c (b.2 x y z :: a.2 x y z :: s) = _
    unfold st1
    rw [if_neg (by omega), if_neg (by omega), if_neg (by omega), if_neg (by omega), if_neg (by omega)]
  · intro h hh
    show hg (a.1 ++ b.1 ++ [c]) h = some (h + 1)
    rw [hg_app, hg_app, a4 h hh]
    show (match hg b.1 (h + 1) with | some h' => hg [c] h' | none => none) = _
    rw [b4 (h + 1) (by omega)]
    show (match h1 c (h + 1 + 1) with | some h' => hg [] h' | none => none) = _
    unfold h1
    rw [if_neg (by omega), if_neg (by omega), if_pos (by omega)]
    rfl
  · intro e he
    have he : e ∈ a.1 ++ b.1 ++ [c] := he
    simp only [List.mem_append, List.mem_singleton] at he
    rcases he with (he | he) | he
    · exact a6 e he
    · exact b6 e he
    · omega
theorem isW_len {B : BT} {n k : Nat} {w : List Int} (h : isW B n k w) (hk : k ≤ n) : k + w.length ≤ n := by
  have := lte_le (B := B) hk
  have := h.1
  omega
theorem wl : (wd 22).length = 2 ∧ (wd 23).length = 3 ∧ (wd 24).length = 3 ∧ (wd 25).length = 3 ∧ (wd 26).length = 4 ∧ (wd 27).length = 4 := by decide
theorem byt_ne {B : BT} {n k : Nat} (h : byt B n k ≠ -1) : k < n := by
  unfold byt at h
  by_cases hk : k < n
  · exact hk
  · rw [if_neg hk] at h; exact absurd rfl h
theorem wrk01 {c x y : Int} (hc : c = -7 ∨ c = -8 ∨ c = -9) : wrk c x y = 0 ∨ wrk c x y = 1 := by
  unfold wrk
  rcases hc with rfl | rfl | rfl <;> simp <;> omega
theorem wrkb {c x y : Int} (hc : c = -10 ∨ c = -11) (hx : x = 0 ∨ x = 1) (hy : y = 0 ∨ y = 1) : wrk c x y = 0 ∨ wrk c x y = 1 := by
  rcases hc with rfl | rfl <;> rcases hx with rfl | rfl <;> rcases hy with rfl | rfl <;> decide
theorem px_gd (B : BT) (n : Nat) (hn : n ≤ 500) : ∀ (f kd o k : Nat) (r : Rd) (r' : Rd) (k' : Nat), o ≤ 6 → k ≤ n → px B n f kd o k r = .inr (r', k') →
    (kd ≤ 5 → Gd n kd o k k' r') ∧ (kd = 6 → ∀ k0, Gd n 1 o k0 k r → Gd n 1 o k0 k' r' ∧ k ≤ k') ∧ (kd = 7 → ∀ k0, Gd n 2 o k0 k r → Gd n 2 o k0 k' r' ∧ k ≤ k') ∧ (kd = 8 → ∀ k0, Gd n 4 o k0 k r → Gd n 4 o k0 k' r' ∧ k ≤ k') ∧ (kd = 9 → ∀ k0, Gd n 5 o k0 k r → Gd n 5 o k0 k' r' ∧ k ≤ k') := by
  intro f
  induction f with
  | zero => intro kd o k r r' k' _ _ h; cases h
  | succ f ih =>
    intro kd o k r r' k' ho hk h
    have hb := blk_le (B := B) hk
    obtain ⟨w22, w23, w24, w25, w26, w27⟩ := wl
    match kd, h with
    | 0, h =>
      refine ⟨fun _ => ?_, by omega, by omega, by omega, by omega⟩
      rw [px_0] at h
      split at h
      · rename_i hc
        have hlt := byt_ne (B := B) (n := n) (k := blk B n k) (by omega)
        split at h
        · cases h
        · rename_i ho6
          split at h
          · cases h
          · rename_i r2 k2 hp
            have g := (ih 2 (o + 1) _ _ _ _ (by omega) (by omega) hp).1 (by omega)
            have hk2 := g.1
            split at h
            · rename_i h41
              have hb2 := blk_le (B := B) hk2.2
              have hlt2 := byt_ne (B := B) (n := n) (k := blk B n k2) (by omega)
              cases h
              exact g.dn (by omega) (by omega) (by omega) (by omega) (by omega)
            · cases h
      · split at h
        · rename_i hw
          have := isW_len hw hb.2
          cases h
          refine ⟨by omega, ⟨by decide, by show 1 ≤ _; omega⟩, fun _ _ _ _ => rfl, ?_, by omega, by simp⟩
          intro q hq
          show (match h1 (-1) q with | some h' => hg [] h' | none => none) = _
          unfold h1; rw [if_pos (by omega), if_pos (by omega)]; rfl
        · split at h
          · rename_i hw
            have := isW_len hw hb.2
            cases h
            refine ⟨by omega, ⟨by decide, by show 1 ≤ _; omega⟩, fun _ _ _ _ => rfl, ?_, by omega, by simp⟩
            intro q hq
            show (match h1 (-2) q with | some h' => hg [] h' | none => none) = _
            unfold h1; rw [if_pos (by omega), if_pos (by omega)]; rfl
          · split at h
            · rename_i hw
              have := isW_len hw hb.2
              cases h
              refine ⟨by omega, ⟨by decide, by show 1 ≤ _; omega⟩, fun _ _ _ _ => rfl, ?_, by omega, by simp⟩
              intro q hq
              show (match h1 (-3) q with | some h' => hg [] h' | none => none) = _
              unfold h1; rw [if_pos (by omega), if_pos (by omega)]; rfl
            · split at h
              · cases h
              · rename_i hd
                split at h
                · rename_i h9
                  have hdl := dge_le (B := B) hb.2
                  have hv := nvl_ge (B := B) (n := n) (blk B n k) 0 (by omega)
                  cases h
                  refine ⟨by omega, ⟨by show 1 ≤ 1; omega, by show 1 ≤ _; omega⟩, fun x y z s => ?_, ?_, by omega, by simp; omega⟩
                  · show st1 x y z _ s = _
                    unfold st1; rw [if_pos hv]
                  · intro q hq
                    show (match h1 _ q with | some h' => hg [] h' | none => none) = _
                    unfold h1; rw [if_pos (by omega), if_pos (by omega)]; rfl
                · cases h
    | 1, h =>
      refine ⟨fun _ => ?_, by omega, by omega, by omega, by omega⟩
      rw [px_1] at h
      split at h
      · cases h
      · rename_i r2 k2 hp
        have g := (ih 0 o k r r2 k2 ho hk hp).1 (by omega)
        exact ((ih 6 o k2 r2 r' k' ho g.1.2 h).2.1 rfl k (g.up (by omega) (by omega))).1
    | 2, h =>
      refine ⟨fun _ => ?_, by omega, by omega, by omega, by omega⟩
      rw [px_2] at h
      split at h
      · cases h
      · rename_i r2 k2 hp
        have g := (ih 1 o k r r2 k2 ho hk hp).1 (by omega)
        exact ((ih 7 o k2 r2 r' k' ho g.1.2 h).2.2.1 rfl k (g.up (by omega) (by omega))).1
    | 3, h =>
      refine ⟨fun _ => ?_, by omega, by omega, by omega, by omega⟩
      rw [px_3] at h
      split at h
      · rename_i hw
        have hwl := isW_len hw hb.2
        split at h
        · cases h
        · rename_i ho6
          split at h
          · cases h
          · rename_i r2 k2 hp
            have g := (ih 3 (o + 1) _ _ _ _ (by omega) (by omega) hp).1 (by omega)
            obtain ⟨g1, g2, g3, g4, g5, g6⟩ := g
            cases h
            refine ⟨by omega, ?_, ?_, ?_, ?_, ?_⟩
            · show 1 ≤ (r2.1 ++ [-12]).length ∧ (r2.1 ++ [-12]).length ≤ _
              simp only [List.length_append, List.length_cons, List.length_nil]; omega
            · intro x y z s
              show xr x y z (r2.1 ++ [-12]) s = w32 (1 - r2.2 x y z) :: s
              rw [xr_app, g3]; rfl
            · intro q hq
              show hg (r2.1 ++ [-12]) q = some (q + 1)
              rw [hg_app, g4 q (by omega)]
              show (match h1 (-12) (q + 1) with | some h' => hg [] h' | none => none) = _
              unfold h1; rw [if_neg (by omega), if_pos rfl, if_pos (by omega)]; rfl
            · intro _ x y z
              show w32 (1 - r2.2 x y z) = 0 ∨ w32 (1 - r2.2 x y z) = 1
              rcases g5 (by omega) x y z with q | q <;> rw [q] <;> decide
            · intro e he
              have he : e ∈ r2.1 ++ [-12] := he
              simp only [List.mem_append, List.mem_singleton] at he
              rcases he with he | he
              · exact g6 e he
              · omega
      · split at h
        · rename_i hc
          have hlt := byt_ne (B := B) (n := n) (k := blk B n k) (by omega)
          split at h
          · cases h
          · rename_i ho6
            split at h
            · cases h
            · rename_i r2 k2 hp
              have g := (ih 5 (o + 1) _ _ _ _ (by omega) (by omega) hp).1 (by omega)
              have hk2 := g.1
              split at h
              · rename_i h41
                have hb2 := blk_le (B := B) hk2.2
                have hlt2 := byt_ne (B := B) (n := n) (k := blk B n k2) (by omega)
                cases h
                exact g.dn (by omega) (by omega) (by omega) (by omega) (by omega)
              · cases h
        · split at h
          · cases h
          · rename_i r2 k2 hp
            have g := (ih 2 o k r r2 k2 ho hk hp).1 (by omega)
            have hb2 := blk_le (B := B) g.1.2
            split at h
            · rename_i hrel
              have hlt2 := byt_ne (B := B) (n := n) (k := blk B n k2) (by omega)
              split at h
              · cases h
              · rename_i r3 k3 hp3
                have g3 := (ih 2 o _ r r3 k3 ho (by omega) hp3).1 (by omega)
                cases h
                have hrc : rel (byt B n (blk B n k2)) = -7 ∨ rel (byt B n (blk B n k2)) = -8 ∨ rel (byt B n (blk B n k2)) = -9 := by
                  unfold rel; split
                  · simp
                  · split <;> simp
                have q1 : Gd n 2 o k k2 r2 := g
                obtain ⟨a1, a2, a3, a4, a5, a6⟩ := g
                have g' : Gd n 3 o k k2 (r2.1, fun x y z => r2.2 x y z) → True := fun _ => trivial
                obtain ⟨b1, b2, b3, b4, b5, b6⟩ := g3
                refine ⟨by omega, ?_, ?_, ?_, ?_, ?_⟩
                · show 1 ≤ (r2.1 ++ r3.1 ++ [_]).length ∧ (r2.1 ++ r3.1 ++ [_]).length ≤ _
                  simp only [List.length_append, List.length_cons, List.length_nil]; omega
                · intro x y z s
                  show xr x y z (r2.1 ++ r3.1 ++ [_]) s = wrk _ (r2.2 x y z) (r3.2 x y z) :: s
                  rw [xr_app, xr_app, a3, b3]
                  show st1 x y z _ (r3.2 x y z :: r2.2 x y z :: s) = _
                  unfold st1
                  rw [if_neg (by omega), if_neg (by omega), if_neg (by omega), if_neg (by omega), if_neg (by omega)]
                · intro q hq
                  show hg (r2.1 ++ r3.1 ++ [_]) q = some (q + 1)
                  rw [hg_app, hg_app, a4 q (by omega)]
                  show (match hg r3.1 (q + 1) with | some h' => hg [_] h' | none => none) = _
                  rw [b4 (q + 1) (by omega)]
                  show (match h1 _ (q + 1 + 1) with | some h' => hg [] h' | none => none) = _
                  unfold h1
                  rw [if_neg (by omega), if_neg (by omega), if_pos (by omega)]
                  rfl
                · intro _ x y z
                  exact wrk01 hrc
                · intro e he
                  have he : e ∈ r2.1 ++ r3.1 ++ [_] := he
                  simp only [List.mem_append, List.mem_singleton] at he
                  rcases he with (he | he) | he
                  · exact a6 e he
                  · exact b6 e he
                  · omega
            · cases h
    | 4, h =>
      refine ⟨fun _ => ?_, by omega, by omega, by omega, by omega⟩
      rw [px_4] at h
      split at h
      · cases h
      · rename_i r2 k2 hp
        have g := (ih 3 o k r r2 k2 ho hk hp).1 (by omega)
        exact ((ih 8 o k2 r2 r' k' ho g.1.2 h).2.2.2.1 rfl k (g.up (by omega) (by omega))).1
    | 5, h =>
      refine ⟨fun _ => ?_, by omega, by omega, by omega, by omega⟩
      rw [px_5] at h
      split at h
      · cases h
      · rename_i r2 k2 hp
        have g := (ih 4 o k r r2 k2 ho hk hp).1 (by omega)
        exact ((ih 9 o k2 r2 r' k' ho g.1.2 h).2.2.2.2 rfl k (g.up (by omega) (by omega))).1
    | 6, h =>
      refine ⟨by omega, fun _ k0 hr => ?_, by omega, by omega, by omega⟩
      rw [px_6] at h
      split at h
      · rename_i hc
        have hlt := byt_ne (B := B) (n := n) (k := blk B n k) (by omega)
        split at h
        · cases h
        · rename_i r2 k2 hp
          have g := (ih 0 o _ r r2 k2 ho (by omega) hp).1 (by omega)
          have q := (ih 6 o k2 _ r' k' ho g.1.2 h).2.1 rfl k0 (hr.bin g (by omega) (by omega) (by omega) (fun _ _ => rfl) (by omega))
          have := g.1
          exact ⟨q.1, by omega⟩
      · cases h
        exact ⟨hr.dn (by omega) (by omega) (by omega) hb.1 hb.2, hb.1⟩
    | 7, h =>
      refine ⟨by omega, by omega, fun _ k0 hr => ?_, by omega, by omega⟩
      rw [px_7] at h
      split at h
      · rename_i hc
        have hlt := byt_ne (B := B) (n := n) (k := blk B n k) (by omega)
        split at h
        · cases h
        · rename_i r2 k2 hp
          have g := (ih 1 o _ r r2 k2 ho (by omega) hp).1 (by omega)
          have q := (ih 7 o k2 _ r' k' ho g.1.2 h).2.2.1 rfl k0 (hr.bin g (by omega) (by omega) (by omega) (fun _ _ => rfl) (by omega))
          have := g.1
          exact ⟨q.1, by omega⟩
      · split at h
        · rename_i hc
          have hlt := byt_ne (B := B) (n := n) (k := blk B n k) (by omega)
          split at h
          · cases h
          · rename_i r2 k2 hp
            have g := (ih 1 o _ r r2 k2 ho (by omega) hp).1 (by omega)
            have q := (ih 7 o k2 _ r' k' ho g.1.2 h).2.2.1 rfl k0 (hr.bin g (by omega) (by omega) (by omega) (fun _ _ => rfl) (by omega))
            have := g.1
            exact ⟨q.1, by omega⟩
        · cases h
          exact ⟨hr.dn (by omega) (by omega) (by omega) hb.1 hb.2, hb.1⟩
    | 8, h =>
      refine ⟨by omega, by omega, by omega, fun _ k0 hr => ?_, by omega⟩
      rw [px_8] at h
      split at h
      · rename_i hw
        have hwl := isW_len hw hb.2
        split at h
        · cases h
        · rename_i r2 k2 hp
          have g := (ih 3 o _ r r2 k2 ho (by omega) hp).1 (by omega)
          have q := (ih 8 o k2 _ r' k' ho g.1.2 h).2.2.2.1 rfl k0 (hr.bin g (by omega) (by omega) (by omega) (fun _ _ => rfl) (fun _ x y z => wrkb (Or.inl rfl) (hr.2.2.2.2.1 (by omega) x y z) (g.2.2.2.2.1 (by omega) x y z)))
          have := g.1
          exact ⟨q.1, by omega⟩
      · cases h
        exact ⟨hr.dn (by omega) (by omega) (by omega) hb.1 hb.2, hb.1⟩
    | 9, h =>
      refine ⟨by omega, by omega, by omega, by omega, fun _ k0 hr => ?_⟩
      rw [px_9] at h
      split at h
      · rename_i hw
        have hwl := isW_len hw hb.2
        split at h
        · cases h
        · rename_i r2 k2 hp
          have g := (ih 4 o _ r r2 k2 ho (by omega) hp).1 (by omega)
          have q := (ih 9 o k2 _ r' k' ho g.1.2 h).2.2.2.2 rfl k0 (hr.bin g (by omega) (by omega) (by omega) (fun _ _ => rfl) (fun _ x y z => wrkb (Or.inr rfl) (hr.2.2.2.2.1 (by omega) x y z) (g.2.2.2.2.1 (by omega) x y z)))
          have := g.1
          exact ⟨q.1, by omega⟩
      · cases h
        exact ⟨hr.dn (by omega) (by omega) (by omega) hb.1 hb.2, hb.1⟩
    | kd + 10, h => unfold px at h; cases h
/-- enough steps: the reading ends -/
def rk (kd : Nat) : Nat := if kd ≤ 5 then kd else 0
theorem px_fuel (B : BT) (n : Nat) (hn : n ≤ 500) : ∀ (f kd o k : Nat) (r : Rd), kd ≤ 9 → o ≤ 6 → k ≤ n → 16 * (n + 1 - k) + rk kd < f → px B n f kd o k r ≠ .inl (9, 0) := by
  intro f
  induction f with
  | zero => intro kd o k r _ _ _ h; omega
  | succ f ih =>
    intro kd o k r h9 ho hk hm
    have hb := blk_le (B := B) hk
    obtain ⟨w22, w23, w24, w25, w26, w27⟩ := wl
    have two : ∀ {a b : Int}, (a ≠ 9) → (Sum.inl (a, b) : PRs) ≠ .inl (9, 0) := by intro a b ha h; cases h; exact ha rfl
    match kd, h9, hm with
    | 0, _, hm =>
      have hm : 16 * (n + 1 - k) + 0 < f + 1 := hm
      rw [px_0]
      split
      · rename_i hc
        have hlt := byt_ne (B := B) (n := n) (k := blk B n k) (by omega)
        split
        · exact two (by omega)
        · rename_i ho6
          have q := ih 2 (o + 1) (blk B n k + 1) r (by omega) (by omega) (by omega) (by show 16 * (n + 1 - (blk B n k + 1)) + 2 < f; omega)
          cases hp : px B n f 2 (o + 1) (blk B n k + 1) r with
          | inl e => rw [hp] at q; exact q
          | inr e =>
            obtain ⟨r2, k2⟩ := e
            dsimp only
            split
            · simp
            · exact two (by omega)
      · repeat' split
        all_goals first | exact two (by omega) | simp
    | 1, _, hm =>
      have hm : 16 * (n + 1 - k) + 1 < f + 1 := hm
      rw [px_1]
      have q := ih 0 o k r (by omega) ho hk (by show 16 * (n + 1 - k) + 0 < f; omega)
      cases hp : px B n f 0 o k r with
      | inl e => rw [hp] at q; exact q
      | inr e =>
        obtain ⟨r2, k2⟩ := e
        have g := (px_gd B n hn f 0 o k r r2 k2 ho hk hp).1 (by omega)
        exact ih 6 o k2 r2 (by omega) ho g.1.2 (by have := g.1; show 16 * (n + 1 - k2) + 0 < f; omega)
    | 2, _, hm =>
      have hm : 16 * (n + 1 - k) + 2 < f + 1 := hm
      rw [px_2]
      have q := ih 1 o k r (by omega) ho hk (by show 16 * (n + 1 - k) + 1 < f; omega)
      cases hp : px B n f 1 o k r with
      | inl e => rw [hp] at q; exact q
      | inr e =>
        obtain ⟨r2, k2⟩ := e
        have g := (px_gd B n hn f 1 o k r r2 k2 ho hk hp).1 (by omega)
        exact ih 7 o k2 r2 (by omega) ho g.1.2 (by have := g.1; show 16 * (n + 1 - k2) + 0 < f; omega)
    | 3, _, hm =>
      have hm : 16 * (n + 1 - k) + 3 < f + 1 := hm
      rw [px_3]
      split
      · rename_i hw
        have hwl := isW_len hw hb.2
        split
        · exact two (by omega)
        · rename_i ho6
          have q := ih 3 (o + 1) (blk B n k + 3) r (by omega) (by omega) (by omega) (by show 16 * (n + 1 - (blk B n k + 3)) + 3 < f; omega)
          cases hp : px B n f 3 (o + 1) (blk B n k + 3) r with
          | inl e => rw [hp] at q; exact q
          | inr e => simp
      · split
        · rename_i hc
          have hlt := byt_ne (B := B) (n := n) (k := blk B n k) (by omega)
          split
          · exact two (by omega)
          · rename_i ho6
            have q := ih 5 (o + 1) (blk B n k + 1) r (by omega) (by omega) (by omega) (by show 16 * (n + 1 - (blk B n k + 1)) + 5 < f; omega)
            cases hp : px B n f 5 (o + 1) (blk B n k + 1) r with
            | inl e => rw [hp] at q; exact q
            | inr e =>
              obtain ⟨r2, k2⟩ := e
              dsimp only
              split
              · simp
              · exact two (by omega)
        · have q := ih 2 o k r (by omega) ho hk (by show 16 * (n + 1 - k) + 2 < f; omega)
          cases hp : px B n f 2 o k r with
          | inl e => rw [hp] at q; exact q
          | inr e =>
            obtain ⟨r2, k2⟩ := e
            have g := (px_gd B n hn f 2 o k r r2 k2 ho hk hp).1 (by omega)
            have hb2 := blk_le (B := B) g.1.2
            dsimp only
            split
            · rename_i hrel
              have hlt2 := byt_ne (B := B) (n := n) (k := blk B n k2) (by omega)
              have q := ih 2 o (blk B n k2 + 1) r (by omega) ho (by omega) (by have := g.1; show 16 * (n + 1 - (blk B n k2 + 1)) + 2 < f; omega)
              cases hp2 : px B n f 2 o (blk B n k2 + 1) r with
              | inl e => rw [hp2] at q; exact q
              | inr e => simp
            · exact two (by omega)
    | 4, _, hm =>
      have hm : 16 * (n + 1 - k) + 4 < f + 1 := hm
      rw [px_4]
      have q := ih 3 o k r (by omega) ho hk (by show 16 * (n + 1 - k) + 3 < f; omega)
      cases hp : px B n f 3 o k r with
      | inl e => rw [hp] at q; exact q
      | inr e =>
        obtain ⟨r2, k2⟩ := e
        have g := (px_gd B n hn f 3 o k r r2 k2 ho hk hp).1 (by omega)
        exact ih 8 o k2 r2 (by omega) ho g.1.2 (by have := g.1; show 16 * (n + 1 - k2) + 0 < f; omega)
    | 5, _, hm =>
      have hm : 16 * (n + 1 - k) + 5 < f + 1 := hm
      rw [px_5]
      have q := ih 4 o k r (by omega) ho hk (by show 16 * (n + 1 - k) + 4 < f; omega)
      cases hp : px B n f 4 o k r with
      | inl e => rw [hp] at q; exact q
      | inr e =>
        obtain ⟨r2, k2⟩ := e
        have g := (px_gd B n hn f 4 o k r r2 k2 ho hk hp).1 (by omega)
        exact ih 9 o k2 r2 (by omega) ho g.1.2 (by have := g.1; show 16 * (n + 1 - k2) + 0 < f; omega)
    | 6, _, hm =>
      have hm : 16 * (n + 1 - k) + 0 < f + 1 := hm
      rw [px_6]
      split
      · rename_i hc
        have hlt := byt_ne (B := B) (n := n) (k := blk B n k) (by omega)
        have q := ih 0 o (blk B n k + 1) r (by omega) ho (by omega) (by show 16 * (n + 1 - (blk B n k + 1)) + 0 < f; omega)
        cases hp : px B n f 0 o (blk B n k + 1) r with
        | inl e => rw [hp] at q; exact q
        | inr e =>
          obtain ⟨r2, k2⟩ := e
          have g := (px_gd B n hn f 0 o _ r r2 k2 ho (by omega) hp).1 (by omega)
          exact ih 6 o k2 _ (by omega) ho g.1.2 (by have := g.1; show 16 * (n + 1 - k2) + 0 < f; omega)
      · simp
    | 7, _, hm =>
      have hm : 16 * (n + 1 - k) + 0 < f + 1 := hm
      rw [px_7]
      split
      · rename_i hc
        have hlt := byt_ne (B := B) (n := n) (k := blk B n k) (by omega)
        have q := ih 1 o (blk B n k + 1) r (by omega) ho (by omega) (by show 16 * (n + 1 - (blk B n k + 1)) + 1 < f; omega)
        cases hp : px B n f 1 o (blk B n k + 1) r with
        | inl e => rw [hp] at q; exact q
        | inr e =>
          obtain ⟨r2, k2⟩ := e
          have g := (px_gd B n hn f 1 o _ r r2 k2 ho (by omega) hp).1 (by omega)
          exact ih 7 o k2 _ (by omega) ho g.1.2 (by have := g.1; show 16 * (n + 1 - k2) + 0 < f; omega)
      · split
        · rename_i hc
          have hlt := byt_ne (B := B) (n := n) (k := blk B n k) (by omega)
          have q := ih 1 o (blk B n k + 1) r (by omega) ho (by omega) (by show 16 * (n + 1 - (blk B n k + 1)) + 1 < f; omega)
          cases hp : px B n f 1 o (blk B n k + 1) r with
          | inl e => rw [hp] at q; exact q
          | inr e =>
            obtain ⟨r2, k2⟩ := e
            have g := (px_gd B n hn f 1 o _ r r2 k2 ho (by omega) hp).1 (by omega)
            exact ih 7 o k2 _ (by omega) ho g.1.2 (by have := g.1; show 16 * (n + 1 - k2) + 0 < f; omega)
        · simp
    | 8, _, hm =>
      have hm : 16 * (n + 1 - k) + 0 < f + 1 := hm
      rw [px_8]
      split
      · rename_i hw
        have hwl := isW_len hw hb.2
        have q := ih 3 o (blk B n k + 3) r (by omega) ho (by omega) (by show 16 * (n + 1 - (blk B n k + 3)) + 3 < f; omega)
        cases hp : px B n f 3 o (blk B n k + 3) r with
        | inl e => rw [hp] at q; exact q
        | inr e =>
          obtain ⟨r2, k2⟩ := e
          have g := (px_gd B n hn f 3 o _ r r2 k2 ho (by omega) hp).1 (by omega)
          exact ih 8 o k2 _ (by omega) ho g.1.2 (by have := g.1; show 16 * (n + 1 - k2) + 0 < f; omega)
      · simp
    | 9, _, hm =>
      have hm : 16 * (n + 1 - k) + 0 < f + 1 := hm
      rw [px_9]
      split
      · rename_i hw
        have hwl := isW_len hw hb.2
        have q := ih 4 o (blk B n k + 2) r (by omega) ho (by omega) (by show 16 * (n + 1 - (blk B n k + 2)) + 4 < f; omega)
        cases hp : px B n f 4 o (blk B n k + 2) r with
        | inl e => rw [hp] at q; exact q
        | inr e =>
          obtain ⟨r2, k2⟩ := e
          have g := (px_gd B n hn f 4 o _ r r2 k2 ho (by omega) hp).1 (by omega)
          exact ih 9 o k2 _ (by omega) ho g.1.2 (by have := g.1; show 16 * (n + 1 - k2) + 0 < f; omega)
      · simp
