/-! LAYER 3, ONE THAT IS ALONE: what its row is worth -/
/-- how a week ends for the one that is in -/
def em (R : RT) (V : Int → Int → Int64) (w s o m : Int) : Int64 := EE R V w (o * su s) (if s = 0 then m else 0) (if s = 1 then m else 0) (if s = 2 then m else 0) s
theorem c0z {R : RT} (h : WR R) {s : Int} (hs : 0 ≤ s ∧ s < 3) : Int64.ofInt (cst R s 0) = 0 := by rw [cst_z h hs (Or.inl rfl)]; rfl
theorem dr_one {s d k : Int} (hs : 0 ≤ s ∧ s < 3) (hd : 0 ≤ d ∧ d < 5) (hk : 0 ≤ k ∧ k < 3) : dr (d * ru s) k = if k = s then d else 0 := by
  rcases (by omega : s = 0 ∨ s = 1 ∨ s = 2) with rfl | rfl | rfl <;> rcases (by omega : k = 0 ∨ k = 1 ∨ k = 2) with rfl | rfl | rfl
  · show d * 25 / 25 % 5 = d; omega
  · show d * 25 / 5 % 5 = 0; omega
  · show d * 25 % 5 = 0; omega
  · show d * 5 / 25 % 5 = 0; omega
  · show d * 5 / 5 % 5 = d; omega
  · show d * 5 % 5 = 0; omega
  · show d * 1 / 25 % 5 = 0; omega
  · show d * 1 / 5 % 5 = 0; omega
  · show d * 1 % 5 = d; omega
/-- what one doing of the one that is in is worth to it -/
def vOne (R : RT) (V : Int → Int → Int64) (w s o d : Int) : Int64 := Int64.ofInt (p4 (R 4 1 - 1)) * ((4 - Int64.ofInt (chn R w (o * su s) s d)) * (if d = 4 then em R V w s o 2 else em R V w s o 0) + Int64.ofInt (chn R w (o * su s) s d) * (if d = 4 then em R V w s o 2 else em R V w s o 1)) - Int64.ofInt (cst R s d) * sc (R 4 1) w
theorem i10 : ¬ (1 : Int) = 0 := by omega
theorem i20 : ¬ (2 : Int) = 0 := by omega
theorem i01 : ¬ (0 : Int) = 1 := by omega
theorem i02 : ¬ (0 : Int) = 2 := by omega
theorem i12 : ¬ (1 : Int) = 2 := by omega
theorem i21 : ¬ (2 : Int) = 1 := by omega
theorem i04 : ¬ (0 : Int) = 4 := by omega
theorem G0_one {R : RT} (h : WR R) {V : Int → Int → Int64} {w s o d : Int} (hs : 0 ≤ s ∧ s < R 4 1) (hw : 1 ≤ w ∧ w ≤ 6) (hd : 0 ≤ d ∧ d < 5) : rG R V w (o * su s) (d * ru s) s = vOne R V w s o d := by
  have hb := h.b
  unfold rG vOne
  rw [dr_one (by omega) hd (by omega), dr_one (by omega) hd (by omega), dr_one (by omega) hd (by omega)]
  generalize hx : o * su s = x
  unfold em
  rw [hx]
  have l0 := lsr0 (n := R 4 1) (w := w) (by omega) hw
  rcases (by omega : R 4 1 = 1 ∨ R 4 1 = 2 ∨ R 4 1 = 3) with e | e | e
  · obtain rfl : s = 0 := by omega
    rw [e] at l0
    have p : Int64.ofInt (p4 (1 - 1)) = 1 := rfl
    simp only [e, p, if_true, if_false, i10, i20, i01, i02, G0, G1, G2, fvM, l0, show (0 : Int) < 1 by omega, show ¬ (1 : Int) < 1 by omega, show ¬ (2 : Int) < 1 by omega]
    grind
  · have l1 := lsr1 (n := R 4 1) (w := w) (by omega) hw
    rw [e] at l0 l1
    have p : Int64.ofInt (p4 (2 - 1)) = 4 := rfl
    rcases (by omega : s = 0 ∨ s = 1) with rfl | rfl
    · simp only [e, p, if_true, if_false, i10, i20, i01, i02, i04, G0, G1, G2, fvM, l0, chn0, of0, show (0 : Int) < 2 by omega, show (1 : Int) < 2 by omega, show ¬ (2 : Int) < 2 by omega]
      by_cases h4 : d = 4
      · simp only [h4, if_true]; grind
      · simp only [h4, if_false]; grind
    · simp only [e, p, if_true, if_false, i10, i20, i01, i02, i12, i21, i04, G0, G1, G2, fvM, l0, chn0, of0, show (0 : Int) < 2 by omega, show (1 : Int) < 2 by omega, show ¬ (2 : Int) < 2 by omega]
      by_cases h4 : d = 4
      · simp only [h4, if_true]; grind
      · simp only [h4, if_false]; grind
  · have l1 := lsr1 (n := R 4 1) (w := w) (by omega) hw
    have l2 := lsr2 (w := w) hw
    rw [e] at l0 l1
    have p : Int64.ofInt (p4 (3 - 1)) = 16 := rfl
    rcases (by omega : s = 0 ∨ s = 1 ∨ s = 2) with rfl | rfl | rfl
    · simp only [e, p, if_true, if_false, i10, i20, i01, i02, i12, i21, i04, G0, G1, G2, fvM, l0, chn0, of0, show (0 : Int) < 3 by omega, show (1 : Int) < 3 by omega, show (2 : Int) < 3 by omega]
      by_cases h4 : d = 4
      · simp only [h4, if_true]; grind
      · simp only [h4, if_false]; grind
    · simp only [e, p, if_true, if_false, i10, i20, i01, i02, i12, i21, i04, G0, G1, G2, fvM, l0, chn0, of0, show (0 : Int) < 3 by omega, show (1 : Int) < 3 by omega, show (2 : Int) < 3 by omega]
      by_cases h4 : d = 4
      · simp only [h4, if_true]; grind
      · simp only [h4, if_false]; grind
    · simp only [e, p, if_true, if_false, i10, i20, i01, i02, i12, i21, i04, G0, G1, G2, fvM, l0, chn0, of0, show (0 : Int) < 3 by omega, show (1 : Int) < 3 by omega, show (2 : Int) < 3 by omega]
      by_cases h4 : d = 4
      · simp only [h4, if_true]; grind
      · simp only [h4, if_false]; grind
/-- digits of a state with one in -/
theorem dg_one {s o k : Int} (hs : 0 ≤ s ∧ s < 3) (ho : 0 ≤ o ∧ o ≤ 4) (hk : 0 ≤ k ∧ k < 3) : dg (o * su s) k = if k = s then o else 0 := by
  rcases (by omega : s = 0 ∨ s = 1 ∨ s = 2) with rfl | rfl | rfl <;> rcases (by omega : k = 0 ∨ k = 1 ∨ k = 2) with rfl | rfl | rfl
  · show o * 1 % 5 = o; omega
  · show o * 1 / 5 % 5 = 0; omega
  · show o * 1 / 25 % 5 = 0; omega
  · show o * 5 % 5 = 0; omega
  · show o * 5 / 5 % 5 = o; omega
  · show o * 5 / 25 % 5 = 0; omega
  · show o * 25 % 5 = 0; omega
  · show o * 25 / 5 % 5 = 0; omega
  · show o * 25 / 25 % 5 = o; omega
theorem ru_R {s : Int} : ru s = 25 ∨ ru s = 5 ∨ ru s = 1 := by
  unfold ru
  repeat' split
  all_goals omega
/-- which rows can be done: only the one that is in has a choice -/
theorem ok_one {R : RT} {w s o r : Int} (hs : 0 ≤ s ∧ s < 3) (ho : 1 ≤ o ∧ o ≤ 4) (hr : 0 ≤ r ∧ r < 125) (hok : okR R w (o * su s) r = true) : ∃ d : Int, (0 ≤ d ∧ d < 5) ∧ r = d * ru s ∧ canP R w (o * su s) s d := by
  obtain ⟨c0, c1, c2⟩ := ok_of hok
  have hz : ∀ k : Int, 0 ≤ k → k < 3 → k ≠ s → canP R w (o * su s) k (dr r k) → dr r k = 0 := by
    intro k k0 k3 hk hc
    rcases hc with z | z
    · exact z
    · have := z.1
      rw [dg_one hs (by omega) ⟨k0, k3⟩, if_neg hk] at this; omega
  have hm := mm_dr hr
  unfold mm at hm
  have q := dr_R r s
  refine ⟨dr r s, by omega, ?_, ?_⟩
  · rcases (by omega : s = 0 ∨ s = 1 ∨ s = 2) with rfl | rfl | rfl
    · rw [hz 1 (by omega) (by omega) (by omega) c1, hz 2 (by omega) (by omega) (by omega) c2] at hm
      show r = dr r 0 * 25; omega
    · rw [hz 0 (by omega) (by omega) (by omega) c0, hz 2 (by omega) (by omega) (by omega) c2] at hm
      show r = dr r 1 * 5; omega
    · rw [hz 0 (by omega) (by omega) (by omega) c0, hz 1 (by omega) (by omega) (by omega) c1] at hm
      show r = dr r 2 * 1; omega
  · rcases (by omega : s = 0 ∨ s = 1 ∨ s = 2) with rfl | rfl | rfl
    · exact c0
    · exact c1
    · exact c2
