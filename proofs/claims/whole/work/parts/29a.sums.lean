/-! LAYER 3, WHAT GOES BY: sums, and the values by the rows -/
def sumN (g : Int → Int) : Nat → Int
  | 0 => 0
  | k + 1 => sumN g k + g (k : Int)
theorem sumN_s {g : Int → Int} {k : Int} (hk : 0 ≤ k) : sumN g (k + 1).toNat = sumN g k.toNat + g k := by
  obtain ⟨n, rfl⟩ : ∃ n : Nat, k = (n : Int) := ⟨k.toNat, by omega⟩
  rw [show ((n : Int) + 1).toNat = n + 1 by omega, show ((n : Int)).toNat = n by omega]
  rfl
theorem sumN_congr {g g' : Int → Int} : ∀ k : Nat, (∀ x : Int, 0 ≤ x → x < k → g x = g' x) → sumN g k = sumN g' k
  | 0, _ => rfl
  | k + 1, h => by
    show sumN g k + g (k : Int) = sumN g' k + g' (k : Int)
    rw [sumN_congr k (fun x a b => h x a (by omega)), h (k : Int) (by omega) (by omega)]
theorem sumN_z {g : Int → Int} : ∀ k : Nat, (∀ x : Int, 0 ≤ x → x < k → g x = 0) → sumN g k = 0
  | 0, _ => rfl
  | k + 1, h => by
    show sumN g k + g (k : Int) = 0
    rw [sumN_z k (fun x a b => h x a (by omega)), h (k : Int) (by omega) (by omega)]; omega
theorem sumN_up {g : Int → Int} {y e : Int} : ∀ k : Nat, 0 ≤ y → y < k → sumN (fun x => if x = y then g x + e else g x) k = sumN g k + e
  | 0, a, b => by omega
  | k + 1, a, b => by
    show sumN (fun x => if x = y then g x + e else g x) k + (if (k : Int) = y then g (k : Int) + e else g (k : Int)) = sumN g k + g (k : Int) + e
    by_cases hk : (k : Int) = y
    · rw [if_pos hk, sumN_congr (g' := g) k (fun x _ hx => by rw [if_neg (by omega)])]; omega
    · rw [if_neg hk, sumN_up k a (by omega)]; omega
theorem sumN_nn {g : Int → Int} : ∀ k : Nat, (∀ x : Int, 0 ≤ x → x < k → 0 ≤ g x) → 0 ≤ sumN g k
  | 0, _ => by show (0 : Int) ≤ 0; omega
  | k + 1, h => by
    have := sumN_nn k (fun x a b => h x a (by omega))
    have := h (k : Int) (by omega) (by omega)
    show 0 ≤ sumN g k + g (k : Int); omega
theorem sumN_tl {g : Int → Int} : ∀ (k c : Nat), c ≤ k → (∀ x : Int, 0 ≤ x → x < k → 0 ≤ g x) → sumN g c ≤ sumN g k ∧ ∀ x : Int, (c : Int) ≤ x → x < k → g x ≤ sumN g k - sumN g c
  | 0, c, hc, _ => by
    obtain rfl : c = 0 := by omega
    exact ⟨by omega, fun x a b => by omega⟩
  | k + 1, c, hc, h => by
    have hk := h (k : Int) (by omega) (by omega)
    have e : sumN g (k + 1) = sumN g k + g (k : Int) := rfl
    by_cases hck : c = k + 1
    · subst hck
      exact ⟨by omega, fun x a b => by omega⟩
    · obtain ⟨i1, i2⟩ := sumN_tl k c (by omega) (fun x a b => h x a (by omega))
      refine ⟨by omega, fun x a b => ?_⟩
      by_cases hx : x = (k : Int)
      · subst hx; omega
      · have := i2 x a (by omega); omega
/-- one entry more -/
def upf (f : Int → Int) (y e : Int) : Int → Int := fun x => if x = y then f x + e else f x
theorem upf_z {f : Int → Int} {y : Int} : upf f y 0 = f := by
  funext x; unfold upf; split <;> omega
theorem sum_upf {f g : Int → Int} {y e : Int} {k : Nat} (h0 : 0 ≤ y) (h1 : y < k) : sumN (fun x => upf f y e x * g x) k = sumN (fun x => f x * g x) k + e * g y := by
  rw [← sumN_up (g := fun x => f x * g x) (e := e * g y) k h0 h1]
  refine sumN_congr k (fun x _ _ => ?_)
  unfold upf
  by_cases hx : x = y
  · rw [if_pos hx, if_pos hx, hx, Int.add_mul]
  · rw [if_neg hx, if_neg hx]
theorem sum_upf1 {f : Int → Int} {y e : Int} {k : Nat} (h0 : 0 ≤ y) (h1 : y < k) : sumN (upf f y e) k = sumN f k + e := sumN_up k h0 h1
/-- the scale as a whole number -/
def scI (n w : Int) : Int := (sc n w).toInt
def p4 (n : Int) : Int := if n = 0 then 1 else if n = 1 then 4 else if n = 2 then 16 else 64
theorem sc_I {n w : Int} : sc n w = Int64.ofInt (scI n w) := by unfold scI; exact (Int64.ofInt_toInt _).symm
theorem scI_s {n w : Int} (hn : 0 ≤ n ∧ n ≤ 3) (hw : 1 ≤ w ∧ w ≤ 6) : scI n w = p4 n * scI n (w - 1) := by
  rcases (by omega : n = 0 ∨ n = 1 ∨ n = 2 ∨ n = 3) with rfl | rfl | rfl | rfl <;> rcases (by omega : w = 1 ∨ w = 2 ∨ w = 3 ∨ w = 4 ∨ w = 5 ∨ w = 6) with rfl | rfl | rfl | rfl | rfl | rfl <;> rfl
theorem scI_R {n w : Int} (hn : 0 ≤ n ∧ n ≤ 3) (hw : 0 ≤ w ∧ w ≤ 6) : 1 ≤ scI n w ∧ scI n w ≤ 68719476736 := by
  rcases (by omega : n = 0 ∨ n = 1 ∨ n = 2 ∨ n = 3) with rfl | rfl | rfl | rfl <;> rcases (by omega : w = 0 ∨ w = 1 ∨ w = 2 ∨ w = 3 ∨ w = 4 ∨ w = 5 ∨ w = 6) with rfl | rfl | rfl | rfl | rfl | rfl | rfl <;> decide +kernel
/-- the week's chances together -/
theorem wS {R : RT} {w x r : Int} (hn : 1 ≤ R 4 1 ∧ R 4 1 ≤ 3) : sumN (wI R w x r) (pw (R 4 1)).toNat = p4 (R 4 1) := by
  rcases (by omega : R 4 1 = 1 ∨ R 4 1 = 2 ∨ R 4 1 = 3) with e | e | e
  · rw [e, show (pw 1).toNat = 2 from rfl, show p4 1 = 4 from rfl]
    show 0 + wI R w x r 0 + wI R w x r 1 = 4
    unfold wI wI1
    rw [e, b0.1, b1.1]
    simp only [show (0 : Int) < 1 by omega, show ¬ (1 : Int) < 1 by omega, show ¬ (2 : Int) < 1 by omega, if_true, if_false, show ¬ (0 : Int) = 1 by omega]
    omega
  · rw [e, show (pw 2).toNat = 4 from rfl, show p4 2 = 16 from rfl]
    show 0 + wI R w x r 0 + wI R w x r 1 + wI R w x r 2 + wI R w x r 3 = 16
    unfold wI wI1
    rw [e, b0.1, b1.1, b2.1, b3.1, b0.2.1, b1.2.1, b2.2.1, b3.2.1]
    simp only [show (0 : Int) < 2 by omega, show (1 : Int) < 2 by omega, show ¬ (2 : Int) < 2 by omega, if_true, if_false, show ¬ (0 : Int) = 1 by omega]
    grind
  · rw [e, show (pw 3).toNat = 8 from rfl, show p4 3 = 64 from rfl]
    show 0 + wI R w x r 0 + wI R w x r 1 + wI R w x r 2 + wI R w x r 3 + wI R w x r 4 + wI R w x r 5 + wI R w x r 6 + wI R w x r 7 = 64
    unfold wI wI1
    rw [e, b0.1, b1.1, b2.1, b3.1, b4.1, b5.1, b6.1, b7.1, b0.2.1, b1.2.1, b2.2.1, b3.2.1, b4.2.1, b5.2.1, b6.2.1, b7.2.1, b0.2.2, b1.2.2, b2.2.2, b3.2.2, b4.2.2, b5.2.2, b6.2.2, b7.2.2]
    simp only [show (0 : Int) < 3 by omega, show (1 : Int) < 3 by omega, show (2 : Int) < 3 by omega, if_true, if_false, show ¬ (0 : Int) = 1 by omega]
    grind
/-- what is counted: 0 late, 1 waste, 2 that somebody has it, 3 to 5 who -/
def cQ (R : RT) (q : Nat) (w x : Int) : Int := if q = 0 then scI (R 4 1) w else if q = 1 then scI (R 4 1) w * cA R (rwX R w x) else 0
def eQ (R : RT) (q : Nat) (w v : Int) : Int := if q = 2 then scI (R 4 1) (w - 1) else if 3 ≤ q then bit v ((q : Int) - 3) * scI (R 4 1) (w - 1) else 0
def tQ (R : RT) (q : Nat) (f : Int → Int) (w x m : Int) : Int := if won x (dvm (rwX R w x) m) = 0 then f (aft x (dvm (rwX R w x) m)) else eQ R q w (won x (dvm (rwX R w x) m))
def phi (R : RT) (q : Nat) : Nat → Int → Int
  | 0 => fun _ => 0
  | n + 1 => fun x => if x = 0 then 0 else cQ R q ((n + 1 : Nat) : Int) x + sumN (fun m => wI R ((n + 1 : Nat) : Int) x (rwX R ((n + 1 : Nat) : Int) x) m * tQ R q (phi R q n) ((n + 1 : Nat) : Int) x m) (pw (R 4 1)).toNat
theorem phi_0 {R q n} : phi R q n 0 = 0 := by
  cases n with
  | zero => rfl
  | succ n => unfold phi; rw [if_pos rfl]
theorem phi_at {R : RT} {q : Nat} {w x : Int} (hw : 1 ≤ w) (hx : x ≠ 0) : phi R q w.toNat x = cQ R q w x + sumN (fun m => wI R w x (rwX R w x) m * tQ R q (phi R q (w - 1).toNat) w x m) (pw (R 4 1)).toNat := by
  obtain ⟨n, hn⟩ : ∃ n : Nat, w = ((n + 1 : Nat) : Int) := ⟨(w - 1).toNat, by omega⟩
  subst hn
  rw [show ((n + 1 : Nat) : Int).toNat = n + 1 by omega, show (((n + 1 : Nat) : Int) - 1).toNat = n by omega]
  show (if x = 0 then 0 else _) = _
  rw [if_neg hx]
/-- a part goes to a state behind, or to who has it -/
abbrev GS : Type := (Nat → Int) × (Int → Int)
def fl (part v y : Int) (E : Nat → Int) (G : GS) : GS := if v = 0 then (G.1, upf G.2 y part) else (fun q => G.1 q + part * E q, G.2)
theorem fl_z {v y : Int} {E : Nat → Int} {G : GS} : fl 0 v y E G = G := by
  unfold fl
  split
  · rw [upf_z]
  · have : (fun q => G.1 q + 0 * E q) = G.1 := by funext q; rw [Int.zero_mul, Int.add_zero]
    rw [this]
theorem fl_pot {part v y : Int} {E : Nat → Int} {G : GS} {g : Int → Int} {k : Nat} (q : Nat) (h0 : 0 ≤ y) (h1 : y < k) : (fl part v y E G).1 q + sumN (fun x => (fl part v y E G).2 x * g x) k = G.1 q + sumN (fun x => G.2 x * g x) k + part * (if v = 0 then g y else E q) := by
  unfold fl
  by_cases hv : v = 0
  · rw [if_pos hv, if_pos hv]
    show G.1 q + sumN (fun x => upf G.2 y part x * g x) k = _
    rw [sum_upf h0 h1]; omega
  · rw [if_neg hv, if_neg hv]
    show G.1 q + part * E q + sumN (fun x => G.2 x * g x) k = _
    omega
theorem fl_nn {part v y : Int} {E : Nat → Int} {G : GS} {k : Nat} (hp : 0 ≤ part) (h0 : 0 ≤ y) (h1 : y < k) (h : ∀ x : Int, 0 ≤ x → x < k → 0 ≤ G.2 x) : (∀ x : Int, 0 ≤ x → x < k → 0 ≤ (fl part v y E G).2 x) ∧ sumN (fl part v y E G).2 k ≤ sumN G.2 k + part := by
  unfold fl
  by_cases hv : v = 0
  · rw [if_pos hv]
    refine ⟨fun x a b => ?_, ?_⟩
    · have := h x a b
      show 0 ≤ upf G.2 y part x
      unfold upf; split <;> omega
    · show sumN (upf G.2 y part) k ≤ _
      rw [sum_upf1 h0 h1]; omega
  · rw [if_neg hv]
    exact ⟨h, by show sumN G.2 k ≤ _; omega⟩
theorem ofI_pos {z : Int} (h : 0 ≤ z ∧ z ≤ 9000000000000000000) : (0 : Int64) < Int64.ofInt z ↔ 0 < z := by
  rw [Int64.lt_iff_toInt_lt, Int64.toInt_ofInt, Int.bmod_eq_of_le (by simp [Int64.size]; omega) (by simp [Int64.size]; omega)]
  rfl
