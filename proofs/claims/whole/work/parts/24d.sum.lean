/-! LAYER 3: a row's worth, folded or summed over all that can be made -/
def md (d u : Int) : Int := if d = 4 then 2 else u
def tm (R : RT) (V : Int → Int → Int64) (w x d0 d1 d2 m i : Int) : Int64 := EE R V w x (md d0 (bit m 0)) (md d1 (bit m 1)) (md d2 (bit m 2)) i
theorem lsr0 {n w : Int} (hn : 1 ≤ n ∧ n ≤ 3) (hw : 1 ≤ w ∧ w ≤ 6) : lsr (sc n w) (2 * 0) = sc n w := by
  rcases (by omega : n = 1 ∨ n = 2 ∨ n = 3) with rfl | rfl | rfl <;> rcases (by omega : w = 1 ∨ w = 2 ∨ w = 3 ∨ w = 4 ∨ w = 5 ∨ w = 6) with rfl | rfl | rfl | rfl | rfl | rfl <;> decide
theorem lsr1 {n w : Int} (hn : 2 ≤ n ∧ n ≤ 3) (hw : 1 ≤ w ∧ w ≤ 6) : 4 * lsr (sc n w) (2 * 1) = sc n w := by
  rcases (by omega : n = 2 ∨ n = 3) with rfl | rfl <;> rcases (by omega : w = 1 ∨ w = 2 ∨ w = 3 ∨ w = 4 ∨ w = 5 ∨ w = 6) with rfl | rfl | rfl | rfl | rfl | rfl <;> decide
theorem lsr2 {w : Int} (hw : 1 ≤ w ∧ w ≤ 6) : 16 * lsr (sc 3 w) (2 * 2) = sc 3 w := by
  rcases (by omega : w = 1 ∨ w = 2 ∨ w = 3 ∨ w = 4 ∨ w = 5 ∨ w = 6) with rfl | rfl | rfl | rfl | rfl | rfl <;> decide
theorem chn4 {R : RT} {w x s : Int} : chn R w x s 4 = 0 := by unfold chn; rw [if_neg (by omega)]
theorem chn0 {R : RT} {w x s : Int} : chn R w x s 0 = 0 := by unfold chn; rw [if_neg (by omega)]
theorem of0 : Int64.ofInt 0 = 0 := rfl
theorem of4 : Int64.ofInt 4 = 4 := rfl
theorem of4s {c : Int} : Int64.ofInt (4 - c) = 4 - Int64.ofInt c := by rw [Int64.ofInt_sub, of4]
theorem fvM {R : RT} {w x s d i : Int} {st sp lv : Int64} : fv R w x s d i st sp lv = (4 - Int64.ofInt (chn R w x s d)) * (if d = 4 then lv else st) + Int64.ofInt (chn R w x s d) * (if d = 4 then lv else sp) - (if i = s then Int64.ofInt (cst R s d) * lsr (sc (R 4 1) w) (2 * s) else 0) := by
  unfold fv
  by_cases hd : d = 4
  · subst hd
    rw [if_pos rfl, if_pos rfl, if_pos rfl, chn4, of0, of4]
    grind
  · rw [if_neg hd, if_neg hd, if_neg hd, of4s]
theorem b0 : bit 0 0 = 0 ∧ bit 0 1 = 0 ∧ bit 0 2 = 0 := ⟨rfl, rfl, rfl⟩
theorem b1 : bit 1 0 = 1 ∧ bit 1 1 = 0 ∧ bit 1 2 = 0 := ⟨rfl, rfl, rfl⟩
theorem b2 : bit 2 0 = 0 ∧ bit 2 1 = 1 ∧ bit 2 2 = 0 := ⟨rfl, rfl, rfl⟩
theorem b3 : bit 3 0 = 1 ∧ bit 3 1 = 1 ∧ bit 3 2 = 0 := ⟨rfl, rfl, rfl⟩
theorem b4 : bit 4 0 = 0 ∧ bit 4 1 = 0 ∧ bit 4 2 = 1 := ⟨rfl, rfl, rfl⟩
theorem b5 : bit 5 0 = 1 ∧ bit 5 1 = 0 ∧ bit 5 2 = 1 := ⟨rfl, rfl, rfl⟩
theorem b6 : bit 6 0 = 0 ∧ bit 6 1 = 1 ∧ bit 6 2 = 1 := ⟨rfl, rfl, rfl⟩
theorem b7 : bit 7 0 = 1 ∧ bit 7 1 = 1 ∧ bit 7 2 = 1 := ⟨rfl, rfl, rfl⟩
theorem md_ite {d : Int} {f : Int → Int64} : (if d = 4 then f 2 else f 0) = f (md d 0) ∧ (if d = 4 then f 2 else f 1) = f (md d 1) := by
  unfold md; split <;> exact ⟨rfl, rfl⟩
/-- the sum that the reference forms, by the made m's below k -/
def sT (R : RT) (V : Int → Int → Int64) (w x d0 d1 d2 i : Int) : Nat → Int64
  | 0 => -(sc (R 4 1) w) * Int64.ofInt (cst R i (if i = 0 then d0 else if i = 1 then d1 else d2))
  | k + 1 => sT R V w x d0 d1 d2 i k + wgt (R 4 1) (k : Int) (chn R w x 0 d0) (chn R w x 1 d1) (chn R w x 2 d2) * tm R V w x d0 d1 d2 (k : Int) i
theorem sT1 {R : RT} {V w x d0 i} (hn : R 4 1 = 1) (hw : 1 ≤ w ∧ w ≤ 6) (hi : i = 0) : sT R V w x d0 0 0 i 2 = G0 R V w x d0 0 0 i := by
  subst hi
  have q0 := b0
  have q1 := b1
  simp only [sT, tm, wgt, wf, hn, G0, G1, G2, fvM, if_true, if_false, lsr0 (show (1 : Int) ≤ 1 ∧ (1 : Int) ≤ 3 by omega) hw, show ((0 : Nat) : Int) = 0 from rfl, show ((0 + 1 : Nat) : Int) = 1 from rfl, q0.1, q0.2.1, q0.2.2, q1.1, q1.2.1, q1.2.2, show ((0 : Int) < 1) = True by simp, show ((1 : Int) < 1) = False by simp, show ((2 : Int) < 1) = False by simp, show ((0 : Int) = 1) = False by simp, of4s]
  have m1 := (md_ite (d := d0) (f := fun a => EE R V w x a 0 0 0)).1
  have m2 := (md_ite (d := d0) (f := fun a => EE R V w x a 0 0 0)).2
  have m0 : md 0 0 = 0 := rfl
  rw [m1, m2, m0]
  grind
theorem sT2 {R : RT} {V w x d0 d1 i} (hn : R 4 1 = 2) (hw : 1 ≤ w ∧ w ≤ 6) (hi : i = 0 ∨ i = 1) : sT R V w x d0 d1 0 i 4 = G0 R V w x d0 d1 0 i := by
  have q0 := b0
  have q1 := b1
  have q2 := b2
  have q3 := b3
  have m0 : md 0 0 = 0 := rfl
  have mA := fun b i => (md_ite (d := d0) (f := fun a => EE R V w x a b 0 i)).1
  have mB := fun b i => (md_ite (d := d0) (f := fun a => EE R V w x a b 0 i)).2
  have mC := fun a i => (md_ite (d := d1) (f := fun b => EE R V w x a b 0 i)).1
  have mD := fun a i => (md_ite (d := d1) (f := fun b => EE R V w x a b 0 i)).2
  have h0 := lsr0 (n := 2) (by omega) hw
  have h1 := lsr1 (n := 2) (by omega) hw
  rcases hi with rfl | rfl
  all_goals
    simp only [sT, tm, wgt, wf, hn, G0, G1, G2, fvM, if_true, if_false, h0, show ((0 : Nat) : Int) = 0 from rfl, show ((0 + 1 : Nat) : Int) = 1 from rfl, show ((0 + 1 + 1 : Nat) : Int) = 2 from rfl, show ((0 + 1 + 1 + 1 : Nat) : Int) = 3 from rfl, q0.1, q0.2.1, q0.2.2, q1.1, q1.2.1, q1.2.2, q2.1, q2.2.1, q2.2.2, q3.1, q3.2.1, q3.2.2, show ((0 : Int) < 2) = True by simp, show ((1 : Int) < 2) = True by simp, show ((2 : Int) < 2) = False by simp, show ((0 : Int) = 1) = False by simp, show ((1 : Int) = 0) = False by simp, of4s, mC, mD, m0]
    generalize lsr (sc 2 w) (2 * 1) = L at *
    by_cases hd : d0 = 4
    · have e0 : md d0 0 = 2 := by unfold md; rw [if_pos hd]
      have e1 : md d0 1 = 2 := by unfold md; rw [if_pos hd]
      simp only [hd, if_true, e0, e1]
      grind
    · have e0 : md d0 0 = 0 := by unfold md; rw [if_neg hd]
      have e1 : md d0 1 = 1 := by unfold md; rw [if_neg hd]
      simp only [hd, if_false, e0, e1]
      grind
theorem sT3 {R : RT} {V w x d0 d1 d2 i} (hn : R 4 1 = 3) (hw : 1 ≤ w ∧ w ≤ 6) (hi : i = 0 ∨ i = 1 ∨ i = 2) : sT R V w x d0 d1 d2 i 8 = G0 R V w x d0 d1 d2 i := by
  have q0 := b0
  have q1 := b1
  have q2 := b2
  have q3 := b3
  have q4 := b4
  have q5 := b5
  have q6 := b6
  have q7 := b7
  have mC := fun a b i => (md_ite (d := d2) (f := fun c => EE R V w x a b c i)).1
  have mD := fun a b i => (md_ite (d := d2) (f := fun c => EE R V w x a b c i)).2
  have h0 := lsr0 (n := 3) (by omega) hw
  have h1 := lsr1 (n := 3) (by omega) hw
  have h2 := lsr2 hw
  have n0 : md 4 0 = 2 := rfl
  have n1 : md 4 1 = 2 := rfl
  rcases hi with rfl | rfl | rfl
  · simp only [sT, tm, wgt, wf, hn, G0, G1, G2, fvM, if_true, if_false, h0, show ((0 : Nat) : Int) = 0 from rfl, show ((0 + 1 : Nat) : Int) = 1 from rfl, show ((0 + 1 + 1 : Nat) : Int) = 2 from rfl, show ((0 + 1 + 1 + 1 : Nat) : Int) = 3 from rfl, show ((0 + 1 + 1 + 1 + 1 : Nat) : Int) = 4 from rfl, show ((0 + 1 + 1 + 1 + 1 + 1 : Nat) : Int) = 5 from rfl, show ((0 + 1 + 1 + 1 + 1 + 1 + 1 : Nat) : Int) = 6 from rfl, show ((0 + 1 + 1 + 1 + 1 + 1 + 1 + 1 : Nat) : Int) = 7 from rfl, q0.1, q0.2.1, q0.2.2, q1.1, q1.2.1, q1.2.2, q2.1, q2.2.1, q2.2.2, q3.1, q3.2.1, q3.2.2, q4.1, q4.2.1, q4.2.2, q5.1, q5.2.1, q5.2.2, q6.1, q6.2.1, q6.2.2, q7.1, q7.2.1, q7.2.2, show ((0 : Int) < 3) = True by simp, show ((1 : Int) < 3) = True by simp, show ((2 : Int) < 3) = True by simp, show ((0 : Int) = 1) = False by simp, show ((1 : Int) = 0) = False by simp, show ((2 : Int) = 0) = False by simp, show ((2 : Int) = 1) = False by simp, show ((0 : Int) = 2) = False by simp, show ((1 : Int) = 2) = False by simp, of4s, mC, mD]
    by_cases hd : d0 = 4 <;> by_cases hd1 : d1 = 4
    · have e0 : md d0 0 = 2 := by unfold md; rw [if_pos hd]
      have e1 : md d0 1 = 2 := by unfold md; rw [if_pos hd]
      have e2 : md d1 0 = 2 := by unfold md; rw [if_pos hd1]
      have e3 : md d1 1 = 2 := by unfold md; rw [if_pos hd1]
      simp only [e0, e1, e2, e3, if_pos hd, if_pos hd1]
      clear e0 e1 e2 e3 hd hd1 q0 q1 q2 q3 q4 q5 q6 q7 mC mD hn hw h0 h1 h2
      grind
    · have e0 : md d0 0 = 2 := by unfold md; rw [if_pos hd]
      have e1 : md d0 1 = 2 := by unfold md; rw [if_pos hd]
      have e2 : md d1 0 = 0 := by unfold md; rw [if_neg hd1]
      have e3 : md d1 1 = 1 := by unfold md; rw [if_neg hd1]
      simp only [e0, e1, e2, e3, if_pos hd, if_neg hd1]
      clear e0 e1 e2 e3 hd hd1 q0 q1 q2 q3 q4 q5 q6 q7 mC mD hn hw h0 h1 h2
      grind
    · have e0 : md d0 0 = 0 := by unfold md; rw [if_neg hd]
      have e1 : md d0 1 = 1 := by unfold md; rw [if_neg hd]
      have e2 : md d1 0 = 2 := by unfold md; rw [if_pos hd1]
      have e3 : md d1 1 = 2 := by unfold md; rw [if_pos hd1]
      simp only [e0, e1, e2, e3, if_neg hd, if_pos hd1]
      clear e0 e1 e2 e3 hd hd1 q0 q1 q2 q3 q4 q5 q6 q7 mC mD hn hw h0 h1 h2
      grind
    · have e0 : md d0 0 = 0 := by unfold md; rw [if_neg hd]
      have e1 : md d0 1 = 1 := by unfold md; rw [if_neg hd]
      have e2 : md d1 0 = 0 := by unfold md; rw [if_neg hd1]
      have e3 : md d1 1 = 1 := by unfold md; rw [if_neg hd1]
      simp only [e0, e1, e2, e3, if_neg hd, if_neg hd1]
      clear e0 e1 e2 e3 hd hd1 q0 q1 q2 q3 q4 q5 q6 q7 mC mD hn hw h0 h1 h2
      grind
  · simp only [sT, tm, wgt, wf, hn, G0, G1, G2, fvM, if_true, if_false, h0, show ((0 : Nat) : Int) = 0 from rfl, show ((0 + 1 : Nat) : Int) = 1 from rfl, show ((0 + 1 + 1 : Nat) : Int) = 2 from rfl, show ((0 + 1 + 1 + 1 : Nat) : Int) = 3 from rfl, show ((0 + 1 + 1 + 1 + 1 : Nat) : Int) = 4 from rfl, show ((0 + 1 + 1 + 1 + 1 + 1 : Nat) : Int) = 5 from rfl, show ((0 + 1 + 1 + 1 + 1 + 1 + 1 : Nat) : Int) = 6 from rfl, show ((0 + 1 + 1 + 1 + 1 + 1 + 1 + 1 : Nat) : Int) = 7 from rfl, q0.1, q0.2.1, q0.2.2, q1.1, q1.2.1, q1.2.2, q2.1, q2.2.1, q2.2.2, q3.1, q3.2.1, q3.2.2, q4.1, q4.2.1, q4.2.2, q5.1, q5.2.1, q5.2.2, q6.1, q6.2.1, q6.2.2, q7.1, q7.2.1, q7.2.2, show ((0 : Int) < 3) = True by simp, show ((1 : Int) < 3) = True by simp, show ((2 : Int) < 3) = True by simp, show ((0 : Int) = 1) = False by simp, show ((1 : Int) = 0) = False by simp, show ((2 : Int) = 0) = False by simp, show ((2 : Int) = 1) = False by simp, show ((0 : Int) = 2) = False by simp, show ((1 : Int) = 2) = False by simp, of4s, mC, mD]
    generalize hL : lsr (sc 3 w) (2 * 1) = L at *
    rw [← h1]
    by_cases hd : d0 = 4 <;> by_cases hd1 : d1 = 4
    · have e0 : md d0 0 = 2 := by unfold md; rw [if_pos hd]
      have e1 : md d0 1 = 2 := by unfold md; rw [if_pos hd]
      have e2 : md d1 0 = 2 := by unfold md; rw [if_pos hd1]
      have e3 : md d1 1 = 2 := by unfold md; rw [if_pos hd1]
      simp only [e0, e1, e2, e3, if_pos hd, if_pos hd1]
      clear e0 e1 e2 e3 hd hd1 q0 q1 q2 q3 q4 q5 q6 q7 mC mD hn hw h0 h1 h2
      grind
    · have e0 : md d0 0 = 2 := by unfold md; rw [if_pos hd]
      have e1 : md d0 1 = 2 := by unfold md; rw [if_pos hd]
      have e2 : md d1 0 = 0 := by unfold md; rw [if_neg hd1]
      have e3 : md d1 1 = 1 := by unfold md; rw [if_neg hd1]
      simp only [e0, e1, e2, e3, if_pos hd, if_neg hd1]
      clear e0 e1 e2 e3 hd hd1 q0 q1 q2 q3 q4 q5 q6 q7 mC mD hn hw h0 h1 h2
      grind
    · have e0 : md d0 0 = 0 := by unfold md; rw [if_neg hd]
      have e1 : md d0 1 = 1 := by unfold md; rw [if_neg hd]
      have e2 : md d1 0 = 2 := by unfold md; rw [if_pos hd1]
      have e3 : md d1 1 = 2 := by unfold md; rw [if_pos hd1]
      simp only [e0, e1, e2, e3, if_neg hd, if_pos hd1]
      clear e0 e1 e2 e3 hd hd1 q0 q1 q2 q3 q4 q5 q6 q7 mC mD hn hw h0 h1 h2
      grind
    · have e0 : md d0 0 = 0 := by unfold md; rw [if_neg hd]
      have e1 : md d0 1 = 1 := by unfold md; rw [if_neg hd]
      have e2 : md d1 0 = 0 := by unfold md; rw [if_neg hd1]
      have e3 : md d1 1 = 1 := by unfold md; rw [if_neg hd1]
      simp only [e0, e1, e2, e3, if_neg hd, if_neg hd1]
      clear e0 e1 e2 e3 hd hd1 q0 q1 q2 q3 q4 q5 q6 q7 mC mD hn hw h0 h1 h2
      grind
  · simp only [sT, tm, wgt, wf, hn, G0, G1, G2, fvM, if_true, if_false, h0, show ((0 : Nat) : Int) = 0 from rfl, show ((0 + 1 : Nat) : Int) = 1 from rfl, show ((0 + 1 + 1 : Nat) : Int) = 2 from rfl, show ((0 + 1 + 1 + 1 : Nat) : Int) = 3 from rfl, show ((0 + 1 + 1 + 1 + 1 : Nat) : Int) = 4 from rfl, show ((0 + 1 + 1 + 1 + 1 + 1 : Nat) : Int) = 5 from rfl, show ((0 + 1 + 1 + 1 + 1 + 1 + 1 : Nat) : Int) = 6 from rfl, show ((0 + 1 + 1 + 1 + 1 + 1 + 1 + 1 : Nat) : Int) = 7 from rfl, q0.1, q0.2.1, q0.2.2, q1.1, q1.2.1, q1.2.2, q2.1, q2.2.1, q2.2.2, q3.1, q3.2.1, q3.2.2, q4.1, q4.2.1, q4.2.2, q5.1, q5.2.1, q5.2.2, q6.1, q6.2.1, q6.2.2, q7.1, q7.2.1, q7.2.2, show ((0 : Int) < 3) = True by simp, show ((1 : Int) < 3) = True by simp, show ((2 : Int) < 3) = True by simp, show ((0 : Int) = 1) = False by simp, show ((1 : Int) = 0) = False by simp, show ((2 : Int) = 0) = False by simp, show ((2 : Int) = 1) = False by simp, show ((0 : Int) = 2) = False by simp, show ((1 : Int) = 2) = False by simp, of4s, mC, mD]
    generalize hL : lsr (sc 3 w) (2 * 2) = L at *
    rw [← h2]
    by_cases hd : d0 = 4 <;> by_cases hd1 : d1 = 4
    · have e0 : md d0 0 = 2 := by unfold md; rw [if_pos hd]
      have e1 : md d0 1 = 2 := by unfold md; rw [if_pos hd]
      have e2 : md d1 0 = 2 := by unfold md; rw [if_pos hd1]
      have e3 : md d1 1 = 2 := by unfold md; rw [if_pos hd1]
      simp only [e0, e1, e2, e3, if_pos hd, if_pos hd1]
      clear e0 e1 e2 e3 hd hd1 q0 q1 q2 q3 q4 q5 q6 q7 mC mD hn hw h0 h1 h2
      grind
    · have e0 : md d0 0 = 2 := by unfold md; rw [if_pos hd]
      have e1 : md d0 1 = 2 := by unfold md; rw [if_pos hd]
      have e2 : md d1 0 = 0 := by unfold md; rw [if_neg hd1]
      have e3 : md d1 1 = 1 := by unfold md; rw [if_neg hd1]
      simp only [e0, e1, e2, e3, if_pos hd, if_neg hd1]
      clear e0 e1 e2 e3 hd hd1 q0 q1 q2 q3 q4 q5 q6 q7 mC mD hn hw h0 h1 h2
      grind
    · have e0 : md d0 0 = 0 := by unfold md; rw [if_neg hd]
      have e1 : md d0 1 = 1 := by unfold md; rw [if_neg hd]
      have e2 : md d1 0 = 2 := by unfold md; rw [if_pos hd1]
      have e3 : md d1 1 = 2 := by unfold md; rw [if_pos hd1]
      simp only [e0, e1, e2, e3, if_neg hd, if_pos hd1]
      clear e0 e1 e2 e3 hd hd1 q0 q1 q2 q3 q4 q5 q6 q7 mC mD hn hw h0 h1 h2
      grind
    · have e0 : md d0 0 = 0 := by unfold md; rw [if_neg hd]
      have e1 : md d0 1 = 1 := by unfold md; rw [if_neg hd]
      have e2 : md d1 0 = 0 := by unfold md; rw [if_neg hd1]
      have e3 : md d1 1 = 1 := by unfold md; rw [if_neg hd1]
      simp only [e0, e1, e2, e3, if_neg hd, if_neg hd1]
      clear e0 e1 e2 e3 hd hd1 q0 q1 q2 q3 q4 q5 q6 q7 mC mD hn hw h0 h1 h2
      grind
