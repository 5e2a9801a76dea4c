/-! LAYER 3, LEAVES: digits, next, places -/
theorem ite_At {c : Prop} [Decidable c] {d : Nat} {k : List Ent} {i : Nat} {l st : List AV} {a b : Int} {M : Mem} {Q X} : (if c then At d k i l (vi a :: st) M Q X else At d k i l (vi b :: st) M Q X) = At d k i l (vi (if c then a else b) :: st) M Q X := by split <;> rfl
theorem ite_AtL {c : Prop} [Decidable c] {d : Nat} {k : List Ent} {i : Nat} {l st : List AV} {a b : Int64} {M : Mem} {Q X} : (if c then At d k i l (vl a :: st) M Q X else At d k i l (vl b :: st) M Q X) = At d k i l (vl (if c then a else b) :: st) M Q X := by split <;> rfl
theorem ite_Q {c : Prop} [Decidable c] {a b : Int} {M : Mem} {Q : AV → Mem → Prop} : (if c then Q (vi a) M else Q (vi b) M) = Q (vi (if c then a else b)) M := by split <;> rfl
/-- the digits of a state, and of a row -/
def dg (x s : Int) : Int := if s = 0 then x % 5 else if s = 1 then x / 5 % 5 else x / 25 % 5
def dr (x s : Int) : Int := if s = 0 then x / 25 % 5 else if s = 1 then x / 5 % 5 else x % 5
theorem dg_R (x s : Int) : 0 ≤ dg x s ∧ dg x s ≤ 4 := by unfold dg; split <;> (try split) <;> omega
theorem dr_R (x s : Int) : 0 ≤ dr x s ∧ dr x s ≤ 4 := by unfold dr; split <;> (try split) <;> omega
theorem c_stepsIn {d : Nat} {M Q X} {x s : Int} (h : 0 ≤ x ∧ x ≤ 100000) : Call (d + 1) qPR_stepsIn [vi x, vi s] M Q X = Q (vi (dg x s)) M := by
  simp (disch := first | omega | (simp (disch := omega) only [w32_id]; omega)) only [bPR_stepsIn_0, bPR_stepsIn_2, bPR_stepsIn_6, bPR_stepsIn_9, bPR_stepsIn_15, bPR_stepsIn_20, ePR_stepsIn, w32_id, tdiv_id, tmod_id]
  unfold dg
  by_cases h0 : s = 0
  · simp [h0]
  · by_cases h1 : s = 1 <;> simp [h0, h1]
theorem c_doingIn {d : Nat} {M Q X} {x s : Int} (h : 0 ≤ x ∧ x ≤ 100000) : Call (d + 1) qPR_doingIn [vi x, vi s] M Q X = Q (vi (dr x s)) M := by
  simp (disch := first | omega | (simp (disch := omega) only [w32_id]; omega)) only [bPR_doingIn_0, bPR_doingIn_2, bPR_doingIn_8, bPR_doingIn_11, bPR_doingIn_17, bPR_doingIn_20, ePR_doingIn, w32_id, tdiv_id, tmod_id]
  unfold dr
  by_cases h0 : s = 0
  · simp [h0]
  · by_cases h1 : s = 1 <;> simp [h0, h1]
/-- "next" -/
def nx1 (x s k n : Int) : Int := if k ≠ s ∧ 0 < dg x k ∧ dg x k < n then dg x k else n
def nxt (x s : Int) : Int := nx1 x s 2 (nx1 x s 1 (nx1 x s 0 9))
theorem c_nextIn {d : Nat} {M Q X} {x s : Int} (h : 0 ≤ x ∧ x ≤ 100000) : Call (d + 2) qPR_nextIn [vi x, vi s] M Q X = Q (vi (nxt x s)) M := by
  have key : ∀ (k n : Int) (z : AV), 0 ≤ k → k < 3 → At (d + 1) kPR_nextIn 4 [vi x, vi s, vi n, vi k, z] [] M Q X = At (d + 1) kPR_nextIn 4 [vi x, vi s, vi (nx1 x s k n), vi (k + 1), vi (dg x k)] [] M Q X := by
    intro k n z h1 h2
    rw [bPR_nextIn_4]
    simp (disch := first | omega | (simp (disch := omega) only [w32_id]; omega)) only [if_neg, bPR_nextIn_7, bPR_nextIn_10, bPR_nextIn_14, bPR_nextIn_16, bPR_nextIn_19, bPR_nextIn_21, c_stepsIn, KV_eq, w32_id]
    unfold nx1
    repeat' split
    all_goals first | rfl | omega
  rw [ePR_nextIn, bPR_nextIn_0, key 0 _ _ (by omega) (by omega), key _ _ _ (by omega) (by omega), key _ _ _ (by omega) (by omega), bPR_nextIn_4, if_pos (by omega), bPR_nextIn_23]
  rfl
theorem nx1_R {x s k n : Int} (h : 1 ≤ n ∧ n ≤ 9) : 1 ≤ nx1 x s k n ∧ nx1 x s k n ≤ 9 := by
  have := dg_R x k
  unfold nx1; split <;> omega
theorem nxt_R (x s : Int) : 1 ≤ nxt x s ∧ nxt x s ≤ 9 := nx1_R (nx1_R (nx1_R (by omega)))
/-- where own and next stand in a table -/
def spl (o n : Int) : Int := if 1 ≤ o ∧ o ≤ 4 ∧ 1 ≤ n then o * 5 + (if n < 5 then n else 0) else 0
theorem c_stepsPlace {d : Nat} {M Q X} {o n : Int} : Call (d + 1) qPR_stepsPlace [vi o, vi n] M Q X = Q (vi (spl o n)) M := by
  rw [ePR_stepsPlace]
  simp only [bPR_stepsPlace_0, bPR_stepsPlace_3, bPR_stepsPlace_6, bPR_stepsPlace_9, bPR_stepsPlace_11, ePR_stepsPlace, ite_At]
  by_cases hA : 1 ≤ o ∧ o ≤ 4 ∧ 1 ≤ n
  · simp (disch := first | omega | (simp (disch := omega) only [w32_id]; omega)) only [bPR_stepsPlace_12, if_neg, w32_id]
    unfold spl
    rw [if_pos hA]
    by_cases h5 : n < 5
    · simp (disch := first | omega | (simp (disch := omega) only [w32_id]; omega)) only [bPR_stepsPlace_15, bPR_stepsPlace_21, bPR_stepsPlace_23, bPR_stepsPlace_24, bPR_stepsPlace_26, bPR_stepsPlace_27, if_neg, if_pos, w32_id]
    · simp (disch := first | omega | (simp (disch := omega) only [w32_id]; omega)) only [bPR_stepsPlace_15, bPR_stepsPlace_21, bPR_stepsPlace_23, bPR_stepsPlace_24, bPR_stepsPlace_26, bPR_stepsPlace_27, if_neg, if_pos, w32_id]
  · have e : (if o < 1 then (0 : Int) else if 4 < o then 0 else if n < 1 then 0 else 1) = 0 := by
      repeat' split
      all_goals omega
    unfold spl
    simp only [e, if_neg hA, bPR_stepsPlace_12, bPR_stepsPlace_15, bPR_stepsPlace_21, bPR_stepsPlace_23, bPR_stepsPlace_24, bPR_stepsPlace_26, bPR_stepsPlace_27, if_true]
theorem spl_R (o n : Int) : 0 ≤ spl o n ∧ spl o n < 25 := by
  unfold spl
  repeat' split
  all_goals omega
/-- units -/
def su (s : Int) : Int := if s = 0 then 1 else if s = 1 then 5 else 25
def ru (s : Int) : Int := if s = 0 then 25 else if s = 1 then 5 else 1
theorem ro_su {s : Int} (h : 0 ≤ s ∧ s < 3) : roI 116 0 s.toNat = su s := by
  rcases (by omega : s = 0 ∨ s = 1 ∨ s = 2) with rfl | rfl | rfl <;> rfl
theorem ro_ru {s : Int} (h : 0 ≤ s ∧ s < 3) : roI 117 0 s.toNat = ru s := by
  rcases (by omega : s = 0 ∨ s = 1 ∨ s = 2) with rfl | rfl | rfl <;> rfl
theorem c_max {d : Nat} {M Q X} {x y : Int} : Call (d + 1) qJm_max [vi x, vi y] M Q X = Q (vi (if x < y then y else x)) M := by
  simp only [bJm_max_0, bJm_max_3, bJm_max_5, bJm_max_6, eJm_max]
  split <;> rfl
theorem c_min {d : Nat} {M Q X} {x y : Int} : Call (d + 1) qJm_min [vi x, vi y] M Q X = Q (vi (if y < x then y else x)) M := by
  simp only [bJm_min_0, bJm_min_3, bJm_min_5, bJm_min_6, eJm_min]
  repeat' split
  all_goals first | rfl | omega
theorem cmp64_lt {x y : Int64} : cmp64 x y < 0 ↔ x < y := by
  unfold cmp64; repeat' split
  all_goals simp_all
theorem cmp64_ge {x y : Int64} : 0 ≤ cmp64 x y ↔ ¬ x < y := by
  unfold cmp64; repeat' split
  all_goals simp_all
theorem c_maxJ {d : Nat} {M Q X} {x y : Int64} : Call (d + 1) qJm_maxJ [vl x, vl y] M Q X = Q (vl (if x < y then y else x)) M := by
  simp only [bJm_maxJ_0, bJm_maxJ_4, bJm_maxJ_6, bJm_maxJ_7, eJm_maxJ, cmp64_lt, cmp64_ge]
  repeat' split
  all_goals first | rfl | contradiction
def bct (x : Int) : Int := x % 2 + x / 2 % 2 + x / 4 % 2
theorem c_bitCount {d : Nat} {M Q X} {x : Int} (h : 0 ≤ x ∧ x < 8) : Call (d + 1) qJi_bitCount [vi x] M Q X = Q (vi (bct x)) M := by
  rw [eJi_bitCount, bJi_bitCount_0]
  rcases (by omega : x = 0 ∨ x = 1 ∨ x = 2 ∨ x = 3 ∨ x = 4 ∨ x = 5 ∨ x = 6 ∨ x = 7) with rfl | rfl | rfl | rfl | rfl | rfl | rfl | rfl <;> rfl
/-- bits of a small number -/
def bit (x s : Int) : Int := if s = 0 then x % 2 else if s = 1 then x / 2 % 2 else x / 4 % 2
theorem bit_R (x s : Int) : 0 ≤ bit x s ∧ bit x s ≤ 1 := by unfold bit; split <;> (try split) <;> omega
theorem band_bit {x s : Int} (hx : 0 ≤ x ∧ x < 8) (hs : 0 ≤ s ∧ s < 3) : band (bshr x s) 1 = bit x s := by
  rcases (by omega : s = 0 ∨ s = 1 ∨ s = 2) with rfl | rfl | rfl <;> rcases (by omega : x = 0 ∨ x = 1 ∨ x = 2 ∨ x = 3 ∨ x = 4 ∨ x = 5 ∨ x = 6 ∨ x = 7) with rfl | rfl | rfl | rfl | rfl | rfl | rfl | rfl <;> rfl
def pw (s : Int) : Int := if s = 0 then 1 else if s = 1 then 2 else if s = 2 then 4 else 8
theorem bshl_pw {s : Int} (hs : 0 ≤ s ∧ s < 4) : bshl 1 s = pw s := by
  rcases (by omega : s = 0 ∨ s = 1 ∨ s = 2 ∨ s = 3) with rfl | rfl | rfl | rfl <;> rfl
