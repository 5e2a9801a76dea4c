/-! LAYER 3, STATES THAT SHARE A CODE: digit by digit -/
def s5 (h : Int → Int) : Int := h 0 + h 1 + h 2 + h 3 + h 4
theorem s5_congr {h h' : Int → Int} (e : ∀ a : Int, 0 ≤ a → a ≤ 4 → h a = h' a) : s5 h = s5 h' := by
  unfold s5
  rw [e 0 (by omega) (by omega), e 1 (by omega) (by omega), e 2 (by omega) (by omega), e 3 (by omega) (by omega), e 4 (by omega) (by omega)]
theorem s5_mul {h : Int → Int} {k : Int} : s5 h * k = s5 (fun a => h a * k) := by
  unfold s5; rw [Int.add_mul, Int.add_mul, Int.add_mul, Int.add_mul]
theorem s5_add {h h' : Int → Int} : s5 h + s5 h' = s5 (fun a => h a + h' a) := by
  show (h 0 + h 1 + h 2 + h 3 + h 4) + (h' 0 + h' 1 + h' 2 + h' 3 + h' 4) = (h 0 + h' 0) + (h 1 + h' 1) + (h 2 + h' 2) + (h 3 + h' 3) + (h 4 + h' 4)
  omega
theorem s5_z {h : Int → Int} (e : ∀ a : Int, 0 ≤ a → a ≤ 4 → h a = 0) : s5 h = 0 := by
  rw [s5_congr (h' := fun _ => 0) e]; rfl
theorem sumN_5 {f : Int → Int} : ∀ k : Nat, sumN f (5 * k) = sumN (fun j => s5 (fun a => f (5 * j + a))) k
  | 0 => rfl
  | k + 1 => by
    have ih := sumN_5 (f := f) k
    have e : sumN f (5 * (k + 1)) = sumN f (5 * k) + f ((5 * k : Nat) : Int) + f ((5 * k + 1 : Nat) : Int) + f ((5 * k + 2 : Nat) : Int) + f ((5 * k + 3 : Nat) : Int) + f ((5 * k + 4 : Nat) : Int) := rfl
    show _ = sumN (fun j => s5 (fun a => f (5 * j + a))) k + s5 (fun a => f (5 * (k : Int) + a))
    rw [e, ih]
    show _ = sumN (fun j => s5 (fun a => f (5 * j + a))) k + (f (5 * (k : Int) + 0) + f (5 * (k : Int) + 1) + f (5 * (k : Int) + 2) + f (5 * (k : Int) + 3) + f (5 * (k : Int) + 4))
    generalize sumN (fun j => s5 (fun a => f (5 * j + a))) k = Z
    rw [show ((5 * k : Nat) : Int) = 5 * (k : Int) + 0 by omega, show ((5 * k + 1 : Nat) : Int) = 5 * (k : Int) + 1 by omega, show ((5 * k + 2 : Nat) : Int) = 5 * (k : Int) + 2 by omega, show ((5 * k + 3 : Nat) : Int) = 5 * (k : Int) + 3 by omega, show ((5 * k + 4 : Nat) : Int) = 5 * (k : Int) + 4 by omega]
    omega
theorem sumN_125 {f : Int → Int} : sumN f 125 = s5 (fun c => s5 (fun b => s5 (fun a => f (a + b * 5 + c * 25)))) := by
  rw [show 125 = 5 * 25 from rfl, sumN_5, show 25 = 5 * 5 from rfl, sumN_5]
  show 0 + _ + _ + _ + _ + _ = _
  rw [Int.zero_add]
  show s5 (fun k => s5 (fun b => s5 (fun a => f (5 * (5 * k + b) + a)))) = _
  refine s5_congr (fun c _ _ => s5_congr (fun b _ _ => s5_congr (fun a _ _ => ?_)))
  congr 1; omega
theorem sum1_N {f : Int → Int} (h0 : f 0 = 0) : ∀ n : Nat, sum1 f n = sumN f (n + 1)
  | 0 => by show 0 = 0 + f 0; omega
  | n + 1 => by
    have ih := sum1_N h0 n
    show sum1 f n + f ((n : Int) + 1) = sumN f (n + 1) + f ((n + 1 : Nat) : Int)
    rw [ih, show ((n + 1 : Nat) : Int) = (n : Int) + 1 by omega]
/-- one shop: codes weighed, or steps and whether it is in -/
theorem op_eq {act : Prop} [Decidable act] {s : Int} {h : Int → Int} (hs : 0 ≤ s ∧ s ≤ 4) (ha : act ↔ 1 ≤ s) : s5 (fun a => if a ≤ s then h a * (if act ∧ a = 0 then s else 1) else 0) = s5 (fun a => if (act → a ≠ 0) ∧ a ≤ s then (if act then h 0 + h a else h 0) else 0) := by
  by_cases hA : act
  · have := ha.mp hA
    rcases (by omega : s = 1 ∨ s = 2 ∨ s = 3 ∨ s = 4) with rfl | rfl | rfl | rfl <;> unfold s5 <;> simp [hA] <;> omega
  · have : ¬ 1 ≤ s := fun z => hA (ha.mpr z)
    obtain rfl : s = 0 := by omega
    unfold s5; simp [hA]
section
variable {n s0 s1 s2 : Int} {g : Int → Int → Int → Int}
def kk (n i s a : Int) : Int := if i < n ∧ a = 0 then s else 1
def q0 (n : Int) (g : Int → Int → Int → Int) (a b c : Int) : Int := if 0 < n then g 0 b c + g a b c else g 0 b c
def q1 (n : Int) (g : Int → Int → Int → Int) (a b c : Int) : Int := if 1 < n then q0 n g a 0 c + q0 n g a b c else q0 n g a 0 c
def q2 (n : Int) (g : Int → Int → Int → Int) (a b c : Int) : Int := if 2 < n then q1 n g a b 0 + q1 n g a b c else q1 n g a b 0
theorem dig_c : s5 (fun c => s5 (fun b => s5 (fun a => if a ≤ s0 ∧ b ≤ s1 ∧ c ≤ s2 then g a b c * (kk n 0 s0 a * kk n 1 s1 b * kk n 2 s2 c) else 0))) = s5 (fun c => if c ≤ s2 then s5 (fun b => if b ≤ s1 then s5 (fun a => if a ≤ s0 then g a b c * kk n 0 s0 a else 0) * kk n 1 s1 b else 0) * kk n 2 s2 c else 0) := by
  refine s5_congr (fun c _ _ => ?_)
  by_cases hc : c ≤ s2
  · rw [if_pos hc, s5_mul]
    refine s5_congr (fun b _ _ => ?_)
    by_cases hb : b ≤ s1
    · rw [if_pos hb, s5_mul, s5_mul]
      refine s5_congr (fun a _ _ => ?_)
      by_cases ha : a ≤ s0
      · rw [if_pos ha, if_pos ⟨ha, hb, hc⟩, Int.mul_assoc, Int.mul_assoc, Int.mul_assoc]
      · rw [if_neg ha, if_neg (fun z => ha z.1), Int.zero_mul, Int.zero_mul]
    · rw [if_neg hb, Int.zero_mul]
      exact s5_z (fun a _ _ => if_neg (fun z => hb z.2.1))
  · rw [if_neg hc]
    exact s5_z (fun b _ _ => s5_z (fun a _ _ => if_neg (fun z => hc z.2.2)))
theorem dig_r (h0 : 0 < n) : s5 (fun c => s5 (fun b => s5 (fun a => if ((0 < n → a ≠ 0) ∧ a ≤ s0) ∧ ((1 < n → b ≠ 0) ∧ b ≤ s1) ∧ ((2 < n → c ≠ 0) ∧ c ≤ s2) then q2 n g a b c else 0))) = s5 (fun c => if (2 < n → c ≠ 0) ∧ c ≤ s2 then (if 2 < n then s5 (fun b => if (1 < n → b ≠ 0) ∧ b ≤ s1 then (if 1 < n then s5 (fun a => if (0 < n → a ≠ 0) ∧ a ≤ s0 then q0 n g a 0 0 else 0) + s5 (fun a => if (0 < n → a ≠ 0) ∧ a ≤ s0 then q0 n g a b 0 else 0) else s5 (fun a => if (0 < n → a ≠ 0) ∧ a ≤ s0 then q0 n g a 0 0 else 0)) else 0) + s5 (fun b => if (1 < n → b ≠ 0) ∧ b ≤ s1 then (if 1 < n then s5 (fun a => if (0 < n → a ≠ 0) ∧ a ≤ s0 then q0 n g a 0 c else 0) + s5 (fun a => if (0 < n → a ≠ 0) ∧ a ≤ s0 then q0 n g a b c else 0) else s5 (fun a => if (0 < n → a ≠ 0) ∧ a ≤ s0 then q0 n g a 0 c else 0)) else 0) else s5 (fun b => if (1 < n → b ≠ 0) ∧ b ≤ s1 then (if 1 < n then s5 (fun a => if (0 < n → a ≠ 0) ∧ a ≤ s0 then q0 n g a 0 0 else 0) + s5 (fun a => if (0 < n → a ≠ 0) ∧ a ≤ s0 then q0 n g a b 0 else 0) else s5 (fun a => if (0 < n → a ≠ 0) ∧ a ≤ s0 then q0 n g a 0 0 else 0)) else 0)) else 0) := by
  have k1 : ∀ b c : Int, (if 1 < n then s5 (fun a => if (0 < n → a ≠ 0) ∧ a ≤ s0 then q0 n g a 0 c else 0) + s5 (fun a => if (0 < n → a ≠ 0) ∧ a ≤ s0 then q0 n g a b c else 0) else s5 (fun a => if (0 < n → a ≠ 0) ∧ a ≤ s0 then q0 n g a 0 c else 0)) = s5 (fun a => if (0 < n → a ≠ 0) ∧ a ≤ s0 then q1 n g a b c else 0) := by
    intro b c
    unfold q1
    by_cases h1 : 1 < n
    · rw [if_pos h1, s5_add]
      refine s5_congr (fun a _ _ => ?_)
      split
      · first | rfl | rw [if_pos h1]
      · omega
    · rw [if_neg h1]
      refine s5_congr (fun a _ _ => ?_)
      split
      · first | rfl | rw [if_neg h1]
      · rfl
  refine s5_congr (fun c _ _ => ?_)
  by_cases hc : (2 < n → c ≠ 0) ∧ c ≤ s2
  · rw [if_pos hc]
    have k2 : ∀ c : Int, s5 (fun b => if (1 < n → b ≠ 0) ∧ b ≤ s1 then (if 1 < n then s5 (fun a => if (0 < n → a ≠ 0) ∧ a ≤ s0 then q0 n g a 0 c else 0) + s5 (fun a => if (0 < n → a ≠ 0) ∧ a ≤ s0 then q0 n g a b c else 0) else s5 (fun a => if (0 < n → a ≠ 0) ∧ a ≤ s0 then q0 n g a 0 c else 0)) else 0) = s5 (fun b => s5 (fun a => if ((0 < n → a ≠ 0) ∧ a ≤ s0) ∧ ((1 < n → b ≠ 0) ∧ b ≤ s1) then q1 n g a b c else 0)) := by
      intro c
      refine s5_congr (fun b _ _ => ?_)
      by_cases hb : (1 < n → b ≠ 0) ∧ b ≤ s1
      · rw [if_pos hb, k1]
        refine s5_congr (fun a _ _ => ?_)
        by_cases ha : (0 < n → a ≠ 0) ∧ a ≤ s0
        · rw [if_pos ha, if_pos ⟨ha, hb⟩]
        · rw [if_neg ha, if_neg (fun z => ha z.1)]
      · rw [if_neg hb]
        exact (s5_z (fun a _ _ => if_neg (fun z => hb z.2))).symm
    rw [k2 0, k2 c]
    unfold q2
    by_cases h2 : 2 < n
    · rw [if_pos h2, s5_add]
      refine s5_congr (fun b _ _ => ?_)
      rw [s5_add]
      refine s5_congr (fun a _ _ => ?_)
      by_cases hab : ((0 < n → a ≠ 0) ∧ a ≤ s0) ∧ ((1 < n → b ≠ 0) ∧ b ≤ s1)
      · rw [if_pos hab, if_pos hab, if_pos ⟨hab.1, hab.2, hc⟩, if_pos h2]
      · rw [if_neg hab, if_neg hab, if_neg (fun z => hab ⟨z.1, z.2.1⟩)]; rfl
    · rw [if_neg h2]
      refine s5_congr (fun b _ _ => ?_)
      refine s5_congr (fun a _ _ => ?_)
      by_cases hab : ((0 < n → a ≠ 0) ∧ a ≤ s0) ∧ ((1 < n → b ≠ 0) ∧ b ≤ s1)
      · rw [if_pos hab, if_pos ⟨hab.1, hab.2, hc⟩, if_neg h2]
      · rw [if_neg hab, if_neg (fun z => hab ⟨z.1, z.2.1⟩)]
  · rw [if_neg hc]
    exact s5_z (fun b _ _ => s5_z (fun a _ _ => if_neg (fun z => hc z.2.2)))
/-- both count alike -/
theorem dig_eq (h0 : 0 < n) (r0 : 0 ≤ s0 ∧ s0 ≤ 4) (r1 : 0 ≤ s1 ∧ s1 ≤ 4) (r2 : 0 ≤ s2 ∧ s2 ≤ 4) (a0 : 0 < n ↔ 1 ≤ s0) (a1 : 1 < n ↔ 1 ≤ s1) (a2 : 2 < n ↔ 1 ≤ s2) :
    s5 (fun c => s5 (fun b => s5 (fun a => if a ≤ s0 ∧ b ≤ s1 ∧ c ≤ s2 then g a b c * (kk n 0 s0 a * kk n 1 s1 b * kk n 2 s2 c) else 0))) = s5 (fun c => s5 (fun b => s5 (fun a => if ((0 < n → a ≠ 0) ∧ a ≤ s0) ∧ ((1 < n → b ≠ 0) ∧ b ≤ s1) ∧ ((2 < n → c ≠ 0) ∧ c ≤ s2) then q2 n g a b c else 0))) := by
  rw [dig_c, dig_r h0]
  have e0 : ∀ b c : Int, s5 (fun a => if a ≤ s0 then g a b c * kk n 0 s0 a else 0) = s5 (fun a => if (0 < n → a ≠ 0) ∧ a ≤ s0 then q0 n g a b c else 0) := fun b c => op_eq (h := fun a => g a b c) r0 a0
  have e1 : ∀ c : Int, s5 (fun b => if b ≤ s1 then s5 (fun a => if (0 < n → a ≠ 0) ∧ a ≤ s0 then q0 n g a b c else 0) * kk n 1 s1 b else 0) = s5 (fun b => if (1 < n → b ≠ 0) ∧ b ≤ s1 then (if 1 < n then s5 (fun a => if (0 < n → a ≠ 0) ∧ a ≤ s0 then q0 n g a 0 c else 0) + s5 (fun a => if (0 < n → a ≠ 0) ∧ a ≤ s0 then q0 n g a b c else 0) else s5 (fun a => if (0 < n → a ≠ 0) ∧ a ≤ s0 then q0 n g a 0 c else 0)) else 0) := fun c => op_eq (h := fun b => s5 (fun a => if (0 < n → a ≠ 0) ∧ a ≤ s0 then q0 n g a b c else 0)) r1 a1
  have l : ∀ c : Int, s5 (fun b => if b ≤ s1 then s5 (fun a => if a ≤ s0 then g a b c * kk n 0 s0 a else 0) * kk n 1 s1 b else 0) = s5 (fun b => if b ≤ s1 then s5 (fun a => if (0 < n → a ≠ 0) ∧ a ≤ s0 then q0 n g a b c else 0) * kk n 1 s1 b else 0) := fun c => s5_congr (fun b _ _ => by rw [e0])
  have step : s5 (fun c => if c ≤ s2 then s5 (fun b => if b ≤ s1 then s5 (fun a => if a ≤ s0 then g a b c * kk n 0 s0 a else 0) * kk n 1 s1 b else 0) * kk n 2 s2 c else 0) = s5 (fun c => if c ≤ s2 then s5 (fun b => if (1 < n → b ≠ 0) ∧ b ≤ s1 then (if 1 < n then s5 (fun a => if (0 < n → a ≠ 0) ∧ a ≤ s0 then q0 n g a 0 c else 0) + s5 (fun a => if (0 < n → a ≠ 0) ∧ a ≤ s0 then q0 n g a b c else 0) else s5 (fun a => if (0 < n → a ≠ 0) ∧ a ≤ s0 then q0 n g a 0 c else 0)) else 0) * kk n 2 s2 c else 0) := s5_congr (fun c _ _ => by rw [l, e1])
  rw [step]
  exact op_eq (h := fun c => s5 (fun b => if (1 < n → b ≠ 0) ∧ b ≤ s1 then (if 1 < n then s5 (fun a => if (0 < n → a ≠ 0) ∧ a ≤ s0 then q0 n g a 0 c else 0) + s5 (fun a => if (0 < n → a ≠ 0) ∧ a ≤ s0 then q0 n g a b c else 0) else s5 (fun a => if (0 < n → a ≠ 0) ∧ a ≤ s0 then q0 n g a 0 c else 0)) else 0)) r2 a2
end
