/-! LAYER 3, THE ANSWER: what the others come to -/
def chO (R : RT) (s d i : Int) : Int := if i ≠ s ∧ i < R 4 1 ∧ 1 ≤ d ∧ d ≤ pcs R i then chc R i d else 0
def wO1 (R : RT) (s d m i : Int) : Int := if i < R 4 1 then (if i = s then (if bit m i = 1 then 0 else 1) else (if bit m i = 1 then chO R s d i else 4 - chO R s d i)) else 1
def wO (R : RT) (s d m : Int) : Int := wO1 R s d m 0 * wO1 R s d m 1 * wO1 R s d m 2
def wnO1 (R : RT) (s p i : Int) : Int := if i < R 4 1 ∧ i ≠ s ∧ dg p i = 0 then pw i else 0
def wnO (R : RT) (s p : Int) : Int := wnO1 R s p 0 + wnO1 R s p 1 + wnO1 R s p 2
def stU (R : RT) (s : Int) : Int := bgn R - stp R s * su s
def gvO (R : RT) (s d : Int) (f : Int → Int) (p y : Int) : Int := if wnO R s p = 0 then sumN (fun m => if ct p m = y then f p * wO R s d m else 0) (pw (R 4 1)).toNat else 0
def mO (R : RT) (s d : Int) : Nat → Int → Int
  | 0 => fun y => if y = stU R s then 1 else 0
  | k + 1 => fun y => sumN (fun p => gvO R s d (mO R s d k) p y) 125
theorem sumN_add {g g' : Int → Int} : ∀ k : Nat, sumN (fun x => g x + g' x) k = sumN g k + sumN g' k
  | 0 => rfl
  | k + 1 => by
    show sumN (fun x => g x + g' x) k + (g k + g' k) = (sumN g k + g k) + (sumN g' k + g' k)
    rw [sumN_add k]; omega
theorem sumN_mul {g : Int → Int} {c : Int} : ∀ k : Nat, sumN (fun x => g x * c) k = sumN g k * c
  | 0 => by show (0 : Int) = 0 * c; omega
  | k + 1 => by
    show sumN (fun x => g x * c) k + g k * c = (sumN g k + g k) * c
    rw [sumN_mul k, Int.add_mul]
theorem sumN_swap {f : Int → Int → Int} {b : Nat} : ∀ a : Nat, sumN (fun y => sumN (fun p => f p y) a) b = sumN (fun p => sumN (fun y => f p y) b) a
  | 0 => sumN_z b (fun _ _ _ => rfl)
  | a + 1 => by
    show sumN (fun y => sumN (fun p => f p y) a + f a y) b = sumN (fun p => sumN (fun y => f p y) b) a + sumN (fun y => f a y) b
    rw [sumN_add, sumN_swap a]
theorem sumN_pt {g : Int → Int} {c : Int} : ∀ b : Nat, 0 ≤ c → c < b → sumN (fun y => if c = y then g y else 0) b = g c
  | 0, h0, h1 => by omega
  | b + 1, h0, h1 => by
    show sumN (fun y => if c = y then g y else 0) b + (if c = (b : Int) then g b else 0) = g c
    by_cases h : c = (b : Int)
    · rw [if_pos h, sumN_z b (fun x _ hx => by rw [if_neg (by omega)]), h]; omega
    · rw [if_neg h, sumN_pt b h0 (by omega)]; omega
theorem sumN_ex {g : Int → Int} : ∀ b : Nat, sumN g b ≠ 0 → ∃ x : Int, 0 ≤ x ∧ x < b ∧ g x ≠ 0
  | 0, h => absurd rfl h
  | b + 1, h => by
    have e : sumN g (b + 1) = sumN g b + g b := rfl
    by_cases hz : g b = 0
    · obtain ⟨x, a, c, f⟩ := sumN_ex b (fun z => h (by rw [e, z, hz]; rfl))
      exact ⟨x, a, by omega, f⟩
    · exact ⟨b, by omega, by omega, hz⟩
theorem sumN_le {g g' : Int → Int} : ∀ k : Nat, (∀ x : Int, 0 ≤ x → x < k → g x ≤ g' x) → sumN g k ≤ sumN g' k
  | 0, _ => Int.le_refl _
  | k + 1, h => by
    have a := sumN_le k (fun x a b => h x a (by omega))
    have b := h (k : Int) (by omega) (by omega)
    show sumN g k + g k ≤ sumN g' k + g' k
    omega
theorem chO_R {R : RT} (h : WR R) {s d i : Int} (hd : 0 ≤ d ∧ d < 5) (hi : 0 ≤ i ∧ i < 3) : 0 ≤ chO R s d i ∧ chO R s d i ≤ 4 := by
  have := h.chc i d hi hd
  unfold chO; split <;> omega
theorem wO1_R {R : RT} (h : WR R) {s d m i : Int} (hd : 0 ≤ d ∧ d < 5) (hi : 0 ≤ i ∧ i < 3) : 0 ≤ wO1 R s d m i ∧ wO1 R s d m i ≤ 4 := by
  have := chO_R h (s := s) hd hi
  unfold wO1
  repeat' split
  all_goals omega
theorem wO_R {R : RT} (h : WR R) {s d m : Int} (hd : 0 ≤ d ∧ d < 5) : 0 ≤ wO R s d m ∧ wO R s d m ≤ 64 := by
  have a := wO1_R h (s := s) (m := m) (i := 0) hd (by omega)
  have b := wO1_R h (s := s) (m := m) (i := 1) hd (by omega)
  have c := wO1_R h (s := s) (m := m) (i := 2) hd (by omega)
  unfold wO
  have p1 := Int.mul_nonneg a.1 b.1
  have p2 : wO1 R s d m 0 * wO1 R s d m 1 ≤ 4 * 4 := Int.mul_le_mul a.2 b.2 b.1 (by omega)
  have p3 := Int.mul_nonneg p1 c.1
  have p4 : wO1 R s d m 0 * wO1 R s d m 1 * wO1 R s d m 2 ≤ 4 * 4 * 4 := Int.mul_le_mul p2 c.2 c.1 (by omega)
  omega
theorem wO_sum {R : RT} (hn : R 4 1 ≤ 3) {s d : Int} (hs : 0 ≤ s ∧ s < R 4 1) : sumN (wO R s d) (pw (R 4 1)).toNat = p4 (R 4 1 - 1) := by
  rcases (by omega : R 4 1 = 1 ∨ R 4 1 = 2 ∨ R 4 1 = 3) with e | e | e
  · obtain rfl : s = 0 := by omega
    rw [e, show (pw 1).toNat = 2 from rfl, show p4 (1 - 1) = 1 from rfl]
    show 0 + wO R 0 d 0 + wO R 0 d 1 = 1
    unfold wO wO1
    rw [e]
    simp only [b0, b1, show (0 : Int) < 1 by omega, show ¬ (1 : Int) < 1 by omega, show ¬ (2 : Int) < 1 by omega, if_true, if_false, i01]
    omega
  · rw [e, show (pw 2).toNat = 4 from rfl, show p4 (2 - 1) = 4 from rfl]
    show 0 + wO R s d 0 + wO R s d 1 + wO R s d 2 + wO R s d 3 = 4
    unfold wO wO1
    rw [e]
    rcases (by omega : s = 0 ∨ s = 1) with rfl | rfl
    · simp only [b0, b1, b2, b3, show (0 : Int) < 2 by omega, show (1 : Int) < 2 by omega, show ¬ (2 : Int) < 2 by omega, if_true, if_false, i01, i10]
      grind
    · simp only [b0, b1, b2, b3, show (0 : Int) < 2 by omega, show (1 : Int) < 2 by omega, show ¬ (2 : Int) < 2 by omega, if_true, if_false, i01, i10]
      grind
  · rw [e, show (pw 3).toNat = 8 from rfl, show p4 (3 - 1) = 16 from rfl]
    show 0 + wO R s d 0 + wO R s d 1 + wO R s d 2 + wO R s d 3 + wO R s d 4 + wO R s d 5 + wO R s d 6 + wO R s d 7 = 16
    unfold wO wO1
    rw [e]
    rcases (by omega : s = 0 ∨ s = 1 ∨ s = 2) with rfl | rfl | rfl
    · simp only [b0, b1, b2, b3, b4, b5, b6, b7, show (0 : Int) < 3 by omega, show (1 : Int) < 3 by omega, show (2 : Int) < 3 by omega, if_true, if_false, i01, i10, i20, i02, i12, i21]
      grind
    · simp only [b0, b1, b2, b3, b4, b5, b6, b7, show (0 : Int) < 3 by omega, show (1 : Int) < 3 by omega, show (2 : Int) < 3 by omega, if_true, if_false, i01, i10, i20, i02, i12, i21]
      grind
    · simp only [b0, b1, b2, b3, b4, b5, b6, b7, show (0 : Int) < 3 by omega, show (1 : Int) < 3 by omega, show (2 : Int) < 3 by omega, if_true, if_false, i01, i10, i20, i02, i12, i21]
      grind
theorem wnO_0 {R : RT} {s p : Int} : wnO R s p = 0 ↔ ∀ i : Int, 0 ≤ i → i < 3 → i < R 4 1 → i ≠ s → dg p i ≠ 0 := by
  have nn : ∀ i : Int, 0 ≤ i → i < 3 → 0 ≤ wnO1 R s p i ∧ (wnO1 R s p i = 0 ↔ ¬ (i < R 4 1 ∧ i ≠ s ∧ dg p i = 0)) := fun i i0 i3 => by
    unfold wnO1
    by_cases h : i < R 4 1 ∧ i ≠ s ∧ dg p i = 0
    · have hp : 1 ≤ pw i := by unfold pw; repeat' split
                               all_goals omega
      rw [if_pos h]
      exact ⟨by omega, ⟨fun z => by omega, fun z => absurd h z⟩⟩
    · rw [if_neg h]
      exact ⟨by omega, ⟨fun _ => h, fun _ => rfl⟩⟩
  have n0 := nn 0 (by omega) (by omega)
  have n1 := nn 1 (by omega) (by omega)
  have n2 := nn 2 (by omega) (by omega)
  constructor
  · intro h i i0 i3 hn hs hd
    unfold wnO at h
    rcases (by omega : i = 0 ∨ i = 1 ∨ i = 2) with rfl | rfl | rfl
    · exact n0.2.mp (by omega) ⟨hn, hs, hd⟩
    · exact n1.2.mp (by omega) ⟨hn, hs, hd⟩
    · exact n2.2.mp (by omega) ⟨hn, hs, hd⟩
  · intro h
    unfold wnO
    have z0 := n0.2.mpr (fun z => h 0 (by omega) (by omega) z.1 z.2.1 z.2.2)
    have z1 := n1.2.mpr (fun z => h 1 (by omega) (by omega) z.1 z.2.1 z.2.2)
    have z2 := n2.2.mpr (fun z => h 2 (by omega) (by omega) z.1 z.2.1 z.2.2)
    omega
theorem bit_ltn {n m i : Int} (hn : 1 ≤ n ∧ n ≤ 3) (hm : 0 ≤ m ∧ m < pw n) (hi : n ≤ i ∧ i < 3) : bit m i = 0 := by
  have := pw_n hn
  unfold bit
  rcases (by omega : i = 1 ∨ i = 2) with rfl | rfl
  · rw [if_neg (by omega), if_pos rfl]; omega
  · rw [if_neg (by omega), if_neg (by omega)]; omega
/-- an outcome that can be takes steps that are there -/
theorem wO_le {R : RT} (hn : 1 ≤ R 4 1 ∧ R 4 1 ≤ 3) {s d p m : Int} (hs : 0 ≤ s ∧ s < R 4 1) (hm : 0 ≤ m ∧ m < pw (R 4 1)) (hp : wnO R s p = 0) (hw : wO R s d m ≠ 0) : (∀ k : Int, 0 ≤ k → k < 3 → bit m k ≤ dg p k) ∧ bit m s = 0 := by
  have hb : bit m s = 0 := by
    have hbs := bit_R m s
    rcases (by omega : bit m s = 0 ∨ bit m s = 1) with z | z
    · exact z
    · exfalso
      apply hw
      have : wO1 R s d m s = 0 := by unfold wO1; rw [if_pos hs.2, if_pos rfl, if_pos z]
      unfold wO
      rcases (by omega : s = 0 ∨ s = 1 ∨ s = 2) with rfl | rfl | rfl <;> rw [this]
      · rw [Int.zero_mul, Int.zero_mul]
      · rw [Int.mul_zero, Int.zero_mul]
      · rw [Int.mul_zero]
  refine ⟨fun k k0 k3 => ?_, hb⟩
  have hg := dg_R p k
  have hk := bit_R m k
  by_cases h1 : k = s
  · rw [h1, hb]; have := dg_R p s; omega
  · by_cases h2 : k < R 4 1
    · have := wnO_0.mp hp k k0 k3 h2 h1; omega
    · rw [bit_ltn hn hm (by omega)]; omega
/-- places that can come up -/
def Pl (R : RT) (s y : Int) : Prop := (0 ≤ y ∧ y < 125) ∧ ∀ k : Int, 0 ≤ k → k < 3 → dg y k ≤ if k = s then 0 else stp R k
theorem stU_Pl {R : RT} (h : WR R) {s : Int} (hs : 0 ≤ s ∧ s < 3) : Pl R s (stU R s) ∧ ∀ k : Int, 0 ≤ k → k < 3 → k ≠ s → dg (stU R s) k = stp R k := by
  have hb := h.b
  have hR : 0 ≤ bgn R ∧ bgn R < 125 := bgo_R h (R 4 1)
  have d0 : bgn R % 5 = stp R 0 := dg_bgn h (s := 0) (by omega)
  have d1 : bgn R / 5 % 5 = stp R 1 := dg_bgn h (s := 1) (by omega)
  have d2 : bgn R / 25 % 5 = stp R 2 := dg_bgn h (s := 2) (by omega)
  have s0 := h.stp 0 (by omega)
  have s1 := h.stp 1 (by omega)
  have s2 := h.stp 2 (by omega)
  unfold stU Pl
  generalize bgn R = y at *
  generalize hA : stp R 0 = A at *
  generalize hB : stp R 1 = B at *
  generalize hC : stp R 2 = C at *
  rcases (by omega : s = 0 ∨ s = 1 ∨ s = 2) with rfl | rfl | rfl
  · rw [hA, show su 0 = 1 from rfl]
    have e0 : dg (y - A * 1) 0 = 0 := by show (y - A * 1) % 5 = 0; omega
    have e1 : dg (y - A * 1) 1 = B := by show (y - A * 1) / 5 % 5 = B; omega
    have e2 : dg (y - A * 1) 2 = C := by show (y - A * 1) / 25 % 5 = C; omega
    refine ⟨⟨by omega, fun k k0 k3 => ?_⟩, fun k k0 k3 hk => ?_⟩
    · rcases (by omega : k = 0 ∨ k = 1 ∨ k = 2) with rfl | rfl | rfl
      · rw [e0, if_pos rfl]; omega
      · rw [e1, if_neg (by omega), hB]; omega
      · rw [e2, if_neg (by omega), hC]; omega
    · rcases (by omega : k = 1 ∨ k = 2) with rfl | rfl
      · rw [e1, hB]
      · rw [e2, hC]
  · rw [hB, show su 1 = 5 from rfl]
    have e0 : dg (y - B * 5) 0 = A := by show (y - B * 5) % 5 = A; omega
    have e1 : dg (y - B * 5) 1 = 0 := by show (y - B * 5) / 5 % 5 = 0; omega
    have e2 : dg (y - B * 5) 2 = C := by show (y - B * 5) / 25 % 5 = C; omega
    refine ⟨⟨by omega, fun k k0 k3 => ?_⟩, fun k k0 k3 hk => ?_⟩
    · rcases (by omega : k = 0 ∨ k = 1 ∨ k = 2) with rfl | rfl | rfl
      · rw [e0, if_neg (by omega), hA]; omega
      · rw [e1, if_pos rfl]; omega
      · rw [e2, if_neg (by omega), hC]; omega
    · rcases (by omega : k = 0 ∨ k = 2) with rfl | rfl
      · rw [e0, hA]
      · rw [e2, hC]
  · rw [hC, show su 2 = 25 from rfl]
    have e0 : dg (y - C * 25) 0 = A := by show (y - C * 25) % 5 = A; omega
    have e1 : dg (y - C * 25) 1 = B := by show (y - C * 25) / 5 % 5 = B; omega
    have e2 : dg (y - C * 25) 2 = 0 := by show (y - C * 25) / 25 % 5 = 0; omega
    refine ⟨⟨by omega, fun k k0 k3 => ?_⟩, fun k k0 k3 hk => ?_⟩
    · rcases (by omega : k = 0 ∨ k = 1 ∨ k = 2) with rfl | rfl | rfl
      · rw [e0, if_neg (by omega), hA]; omega
      · rw [e1, if_neg (by omega), hB]; omega
      · rw [e2, if_pos rfl]; omega
    · rcases (by omega : k = 0 ∨ k = 1) with rfl | rfl
      · rw [e0, hA]
      · rw [e1, hB]
theorem Pl.ctP {R : RT} (hn : 1 ≤ R 4 1 ∧ R 4 1 ≤ 3) {s d p m : Int} (hs : 0 ≤ s ∧ s < R 4 1) (h : Pl R s p) (hm : 0 ≤ m ∧ m < pw (R 4 1)) (hp : wnO R s p = 0) (hw : wO R s d m ≠ 0) : Pl R s (ct p m) := by
  obtain ⟨h1, h2⟩ := h
  have hle := (wO_le hn hs hm hp hw).1
  refine ⟨(dg_ct h1 hle (k := 0) (by omega)).2, fun k k0 k3 => ?_⟩
  have := bit_R m k
  have := h2 k k0 k3
  rw [(dg_ct h1 hle ⟨k0, k3⟩).1]; omega
theorem mO_s {R : RT} {s d : Int} {k : Nat} {y : Int} : mO R s d (k + 1) y = sumN (fun p => gvO R s d (mO R s d k) p y) 125 := rfl
theorem mO_z {R : RT} {s d y : Int} : mO R s d 0 y = if y = stU R s then 1 else 0 := rfl
theorem mO_Pl {R : RT} (h : WR R) {s d : Int} (hs : 0 ≤ s ∧ s < R 4 1) (k : Nat) : ∀ (y : Int), mO R s d k y ≠ 0 → Pl R s y := by
  have hb := h.b
  induction k with
  | zero =>
    intro y hy
    rw [mO_z] at hy
    by_cases z : y = stU R s
    · rw [z]; exact (stU_Pl h (by omega)).1
    · rw [if_neg z] at hy; exact absurd rfl hy
  | succ k ih =>
    intro y hy
    rw [mO_s] at hy
    obtain ⟨p, p0, p1, hp⟩ := sumN_ex 125 hy
    unfold gvO at hp
    by_cases hw : wnO R s p = 0
    · rw [if_pos hw] at hp
      obtain ⟨m, m0, m1, hm⟩ := sumN_ex _ hp
      by_cases hc : ct p m = y
      · rw [if_pos hc] at hm
        have a1 : mO R s d k p ≠ 0 := fun z => hm (by rw [z, Int.zero_mul])
        have a2 : wO R s d m ≠ 0 := fun z => hm (by rw [z, Int.mul_zero])
        rw [← hc]
        exact (ih p a1).ctP (by omega) hs ⟨m0, by omega⟩ hw a2
      · rw [if_neg hc] at hm; exact absurd rfl hm
    · rw [if_neg hw] at hp; exact absurd rfl hp
theorem mO_nn {R : RT} (h : WR R) {s d : Int} (hd : 0 ≤ d ∧ d < 5) : ∀ (k : Nat) (y : Int), 0 ≤ mO R s d k y
  | 0, y => by show 0 ≤ (if y = stU R s then (1 : Int) else 0); split <;> omega
  | k + 1, y => by
    rw [mO_s]
    refine sumN_nn _ (fun p _ _ => ?_)
    unfold gvO
    split
    · refine sumN_nn _ (fun m _ _ => ?_)
      show 0 ≤ (if ct p m = y then mO R s d k p * wO R s d m else 0)
      split
      · exact Int.mul_nonneg (mO_nn h hd k p) (wO_R h hd).1
      · omega
    · omega
/-- sums by where they come from, and by where they go -/
theorem mO_ex {R : RT} (h : WR R) {s d : Int} (hs : 0 ≤ s ∧ s < R 4 1) {k : Nat} {F : Int → Int} : sumN (fun y => mO R s d (k + 1) y * F y) 125 = sumN (fun p => if wnO R s p = 0 then sumN (fun m => mO R s d k p * wO R s d m * F (ct p m)) (pw (R 4 1)).toNat else 0) 125 := by
  have hb := h.b
  have e1 : sumN (fun y => mO R s d (k + 1) y * F y) 125 = sumN (fun y => sumN (fun p => gvO R s d (mO R s d k) p y * F y) 125) 125 := sumN_congr 125 (fun y _ _ => by rw [mO_s, sumN_mul])
  rw [e1, sumN_swap]
  refine sumN_congr 125 (fun p p0 p1 => ?_)
  unfold gvO
  by_cases hw : wnO R s p = 0
  · simp only [if_pos hw]
    have e2 : sumN (fun y => sumN (fun m => if ct p m = y then mO R s d k p * wO R s d m else 0) (pw (R 4 1)).toNat * F y) 125 = sumN (fun y => sumN (fun m => if ct p m = y then mO R s d k p * wO R s d m * F y else 0) (pw (R 4 1)).toNat) 125 := sumN_congr 125 (fun y _ _ => by
      rw [← sumN_mul]
      refine sumN_congr _ (fun m _ _ => ?_)
      by_cases hc : ct p m = y
      · rw [if_pos hc, if_pos hc]
      · rw [if_neg hc, if_neg hc, Int.zero_mul])
    rw [e2, sumN_swap]
    refine sumN_congr _ (fun m m0 m1 => ?_)
    by_cases hz : mO R s d k p * wO R s d m = 0
    · rw [hz, Int.zero_mul]
      exact sumN_z 125 (fun y _ _ => by rw [Int.zero_mul]; split <;> rfl)
    · have a1 : mO R s d k p ≠ 0 := fun z => hz (by rw [z, Int.zero_mul])
      have a2 : wO R s d m ≠ 0 := fun z => hz (by rw [z, Int.mul_zero])
      have hc := ((mO_Pl h hs k p a1).ctP (by omega) hs ⟨m0, by omega⟩ hw a2).1
      exact sumN_pt (g := fun y => mO R s d k p * wO R s d m * F y) 125 hc.1 hc.2
  · simp only [if_neg hw]
    exact sumN_z 125 (fun y _ _ => by rw [Int.zero_mul])
def p16 : Nat → Int
  | 0 => 1
  | k + 1 => 16 * p16 k
theorem mO_T {R : RT} (h : WR R) {s d : Int} (hs : 0 ≤ s ∧ s < R 4 1) (hd : 0 ≤ d ∧ d < 5) : ∀ k : Nat, sumN (mO R s d k) 125 ≤ p16 k
  | 0 => by
    have hb := h.b
    have hst := (stU_Pl h (s := s) (by omega)).1.1
    have : sumN (mO R s d 0) 125 = 1 := by
      have e : sumN (mO R s d 0) 125 = sumN (fun y => if stU R s = y then (fun _ => (1 : Int)) y else 0) 125 := sumN_congr 125 (fun y _ _ => by
        show (if y = stU R s then (1 : Int) else 0) = if stU R s = y then 1 else 0
        by_cases z : y = stU R s
        · rw [if_pos z, if_pos z.symm]
        · rw [if_neg z, if_neg (fun q => z q.symm)])
      rw [e, sumN_pt 125 hst.1 hst.2]
    rw [this]; show (1 : Int) ≤ 1; omega
  | k + 1 => by
    have hb := h.b
    have ih := mO_T h hs hd k
    have e1 : sumN (mO R s d (k + 1)) 125 = sumN (fun y => mO R s d (k + 1) y * (fun _ => (1 : Int)) y) 125 := sumN_congr 125 (fun y _ _ => by rw [Int.mul_one])
    rw [e1, mO_ex h hs]
    have e2 : sumN (fun p => if wnO R s p = 0 then sumN (fun m => mO R s d k p * wO R s d m * (fun _ => (1 : Int)) (ct p m)) (pw (R 4 1)).toNat else 0) 125 ≤ sumN (fun p => mO R s d k p * 16) 125 := sumN_le 125 (fun p _ _ => by
      have hnn := mO_nn h (s := s) hd k p
      show (if wnO R s p = 0 then sumN (fun m => mO R s d k p * wO R s d m * (1 : Int)) (pw (R 4 1)).toNat else 0) ≤ mO R s d k p * 16
      split
      · have e3 : sumN (fun m => mO R s d k p * wO R s d m * (1 : Int)) (pw (R 4 1)).toNat = mO R s d k p * p4 (R 4 1 - 1) := by
          rw [← wO_sum (by omega) (d := d) hs, Int.mul_comm (mO R s d k p), ← sumN_mul]
          exact sumN_congr _ (fun m _ _ => by rw [Int.mul_one, Int.mul_comm])
        have hp4 : p4 (R 4 1 - 1) ≤ 16 := by
          rcases (by omega : R 4 1 = 1 ∨ R 4 1 = 2 ∨ R 4 1 = 3) with e | e | e <;> rw [e] <;> decide
        rw [e3]
        exact Int.mul_le_mul_of_nonneg_left hp4 hnn
      · omega)
    rw [sumN_mul] at e2
    refine Int.le_trans e2 ?_
    show sumN (mO R s d k) 125 * 16 ≤ 16 * p16 k
    omega
theorem p16_le {k : Nat} (hk : k ≤ 6) : p16 k ≤ 16777216 := by
  rcases (by omega : k = 0 ∨ k = 1 ∨ k = 2 ∨ k = 3 ∨ k = 4 ∨ k = 5 ∨ k = 6) with rfl | rfl | rfl | rfl | rfl | rfl | rfl <;> decide
theorem mO_b {R : RT} (h : WR R) {s d : Int} (hs : 0 ≤ s ∧ s < R 4 1) (hd : 0 ≤ d ∧ d < 5) {k : Nat} (hk : k ≤ 6) {y : Int} (hy : 0 ≤ y ∧ y < 125) : 0 ≤ mO R s d k y ∧ mO R s d k y ≤ 16777216 := by
  have a := mO_nn h (s := s) hd k y
  have b := (sumN_tl (g := mO R s d k) 125 0 (by omega) (fun x _ _ => mO_nn h hd k x)).2 y (by omega) (by omega)
  have c := mO_T h hs hd k
  have e := p16_le hk
  have z : sumN (mO R s d k) 0 = 0 := rfl
  omega
/-- what the shop gets as a week ends, who goes on, and the best that it can do -/
def wnP (R : RT) (s p o : Int) : Int := wnO R s p + (if o = 0 then pw s else 0)
def eO (R : RT) (s o y : Int) : Int := if wnP R s y o = 0 then 0 else prt R s (wnP R s y o) (y + o * su s)
def pdO (R : RT) (s d : Int) (k : Nat) (o : Int) : Int := sumN (fun y => mO R s d k y * eO R s o y) 125
def goO (R : RT) (s d : Int) (k : Nat) : Int := sumN (fun p => if wnO R s p = 0 then mO R s d k p else 0) 125
def enV (R : RT) (s d : Int) (pv : Int → Int64) (l o : Int) : Int64 := pv o + Int64.ofInt (pdO R s d (R 4 2 - l).toNat o) * sc (R 4 1) l
def blV (R : RT) (s d : Int) (pv : Int → Int64) (l o e : Int) : Int64 := (4 - Int64.ofInt (chA R s e)) * enV R s d pv (l - 1) o + Int64.ofInt (chA R s e) * enV R s d pv (l - 1) (o - 1) - Int64.ofInt (goO R s d (R 4 2 - l).toNat) * sc (R 4 1) l * Int64.ofInt (cst R s e)
def mxe (v : Int → Int64) : Nat → Int64
  | 0 => v 0
  | n + 1 => mxJ (mxe v n) (v ((n + 1 : Nat) : Int))
def bst (R : RT) (s d : Int) : Nat → Int → Int64
  | 0 => fun _ => 0
  | l + 1 => fun o => if o ≤ 0 then 0 else mxe (blV R s d (bst R s d l) ((l + 1 : Nat) : Int) o) (pcs R s).toNat
theorem bst_0 {R : RT} {s d : Int} : ∀ l : Nat, bst R s d l 0 = 0
  | 0 => rfl
  | l + 1 => by unfold bst; rw [if_pos (by omega)]
theorem bst_s {R : RT} {s d l o : Int} (hl : 1 ≤ l) (ho : 1 ≤ o) : bst R s d l.toNat o = mxe (blV R s d (bst R s d (l - 1).toNat) l o) (pcs R s).toNat := by
  obtain ⟨n, hn⟩ : ∃ n : Nat, l = ((n + 1 : Nat) : Int) := ⟨(l - 1).toNat, by omega⟩
  subst hn
  have e : (((n + 1 : Nat) : Int) - 1).toNat = n := by omega
  rw [e, show (((n + 1 : Nat) : Int)).toNat = n + 1 by omega]
  show (if o ≤ 0 then (0 : Int64) else mxe (blV R s d (bst R s d n) ((n + 1 : Nat) : Int) o) (pcs R s).toNat) = _
  rw [if_neg (by omega)]
theorem wnO_R {R : RT} {s p : Int} : 0 ≤ wnO R s p ∧ wnO R s p < 8 := by
  unfold wnO wnO1
  have : pw 0 = 1 ∧ pw 1 = 2 ∧ pw 2 = 4 := ⟨rfl, rfl, rfl⟩
  repeat' split
  all_goals omega
theorem bit_wnO {R : RT} {s p i : Int} (hi : 0 ≤ i ∧ i < 3) : bit (wnO R s p) i = if i < R 4 1 ∧ i ≠ s ∧ dg p i = 0 then 1 else 0 := by
  have k : ∀ j : Int, wnO1 R s p j = 0 ∧ ¬ (j < R 4 1 ∧ j ≠ s ∧ dg p j = 0) ∨ wnO1 R s p j = pw j ∧ (j < R 4 1 ∧ j ≠ s ∧ dg p j = 0) := fun j => by
    unfold wnO1
    by_cases h : j < R 4 1 ∧ j ≠ s ∧ dg p j = 0
    · rw [if_pos h]; exact Or.inr ⟨rfl, h⟩
    · rw [if_neg h]; exact Or.inl ⟨rfl, h⟩
  have k0 := k 0
  have k1 := k 1
  have k2 := k 2
  rw [show pw 0 = 1 from rfl] at k0
  rw [show pw 1 = 2 from rfl] at k1
  rw [show pw 2 = 4 from rfl] at k2
  unfold wnO
  generalize wnO1 R s p 0 = a at *
  generalize wnO1 R s p 1 = b at *
  generalize wnO1 R s p 2 = c at *
  clear k
  rcases (by omega : i = 0 ∨ i = 1 ∨ i = 2) with rfl | rfl | rfl
  · show (a + b + c) % 2 = _
    rcases k0 with ⟨u, v⟩ | ⟨u, v⟩
    · rw [if_neg v]; clear v; rcases k1 with ⟨e1, _⟩ | ⟨e1, _⟩ <;> rcases k2 with ⟨e2, _⟩ | ⟨e2, _⟩ <;> rw [u, e1, e2] <;> rfl
    · rw [if_pos v]; clear v; rcases k1 with ⟨e1, _⟩ | ⟨e1, _⟩ <;> rcases k2 with ⟨e2, _⟩ | ⟨e2, _⟩ <;> rw [u, e1, e2] <;> rfl
  · show (a + b + c) / 2 % 2 = _
    rcases k1 with ⟨u, v⟩ | ⟨u, v⟩
    · rw [if_neg v]; clear v; rcases k0 with ⟨e1, _⟩ | ⟨e1, _⟩ <;> rcases k2 with ⟨e2, _⟩ | ⟨e2, _⟩ <;> rw [u, e1, e2] <;> rfl
    · rw [if_pos v]; clear v; rcases k0 with ⟨e1, _⟩ | ⟨e1, _⟩ <;> rcases k2 with ⟨e2, _⟩ | ⟨e2, _⟩ <;> rw [u, e1, e2] <;> rfl
  · show (a + b + c) / 4 % 2 = _
    rcases k2 with ⟨u, v⟩ | ⟨u, v⟩
    · rw [if_neg v]; clear v; rcases k0 with ⟨e1, _⟩ | ⟨e1, _⟩ <;> rcases k1 with ⟨e2, _⟩ | ⟨e2, _⟩ <;> rw [u, e1, e2] <;> rfl
    · rw [if_pos v]; clear v; rcases k0 with ⟨e1, _⟩ | ⟨e1, _⟩ <;> rcases k1 with ⟨e2, _⟩ | ⟨e2, _⟩ <;> rw [u, e1, e2] <;> rfl
theorem bor_pw {a s : Int} (ha : 0 ≤ a ∧ a < 8) (hs : 0 ≤ s ∧ s < 3) (hb : bit a s = 0) : bor a (pw s) = a + pw s := by
  rcases (by omega : a = 0 ∨ a = 1 ∨ a = 2 ∨ a = 3 ∨ a = 4 ∨ a = 5 ∨ a = 6 ∨ a = 7) with rfl | rfl | rfl | rfl | rfl | rfl | rfl | rfl <;> rcases (by omega : s = 0 ∨ s = 1 ∨ s = 2) with rfl | rfl | rfl <;> first | decide +kernel | (exfalso; revert hb; decide +kernel)
theorem bor_0 {a : Int} (ha : 0 ≤ a ∧ a < 8) : bor a 0 = a := by
  rcases (by omega : a = 0 ∨ a = 1 ∨ a = 2 ∨ a = 3 ∨ a = 4 ∨ a = 5 ∨ a = 6 ∨ a = 7) with rfl | rfl | rfl | rfl | rfl | rfl | rfl | rfl <;> decide +kernel
