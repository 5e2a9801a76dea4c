/-! THE OPERATIONS ON NUMBERS, abstract and real -/
theorem ar_add (x y : Int) : Int32.ofInt x + Int32.ofInt y = Int32.ofInt (w32 (x + y)) := by rw [of_w32, Int32.ofInt_add]
theorem ar_sub (x y : Int) : Int32.ofInt x - Int32.ofInt y = Int32.ofInt (w32 (x - y)) := by rw [of_w32, Int32.ofInt_sub]
theorem ar_mul (x y : Int) : Int32.ofInt x * Int32.ofInt y = Int32.ofInt (w32 (x * y)) := by rw [of_w32, Int32.ofInt_mul]
theorem ar_neg (x : Int) : -Int32.ofInt x = Int32.ofInt (w32 (-x)) := by rw [of_w32, Int32.ofInt_neg]
theorem ar_div {x y : Int} (hx : inR x) (hy : inR y) : Int32.ofInt x / Int32.ofInt y = Int32.ofInt (w32 (x.tdiv y)) := by
  rw [of_w32]
  apply Int32.toInt_inj.mp
  rw [Int32.toInt_div, toInt_ofInt32 hx, toInt_ofInt32 hy, Int32.toInt_ofInt]
theorem tmod_R {x y : Int} (hx : inR x) : inR (x.tmod y) := by
  have h := Int.natAbs_tmod x y
  have h2 : x.natAbs % y.natAbs ≤ x.natAbs := Nat.mod_le _ _
  obtain ⟨h3, h4⟩ := hx
  have hs : 0 ≤ x → 0 ≤ x.tmod y := fun h => Int.tmod_nonneg _ h
  constructor
  · by_cases h0 : 0 ≤ x
    · have := hs h0; omega
    · omega
  · by_cases h0 : 0 ≤ x
    · omega
    · have : x.tmod y ≤ 0 := by
        have h5 : (-x).tmod y = -(x.tmod y) := Int.neg_tmod x y
        have h6 : 0 ≤ (-x).tmod y := Int.tmod_nonneg _ (by omega)
        omega
      omega
theorem ar_rem {x y : Int} (hx : inR x) (hy : inR y) : Int32.ofInt x - Int32.ofInt x / Int32.ofInt y * Int32.ofInt y = Int32.ofInt (x.tmod y) := by
  rw [ar_div hx hy, of_w32, ← Int32.ofInt_mul, ← Int32.ofInt_sub, Int.tmod_def, Int.mul_comm]
theorem ar_i2l {x : Int} (hx : inR x) : (Int32.ofInt x).toInt64 = Int64.ofInt x := by
  apply Int64.toInt_inj.mp
  rw [Int32.toInt_toInt64, toInt_ofInt32 hx, Int64.toInt_ofInt]
  obtain ⟨h1, h2⟩ := hx
  exact (Int.bmod_eq_of_le (by simp [Int64.size]; omega) (by simp [Int64.size]; omega)).symm
theorem ar_cmp (x y : Int64) : lg_cmp x y = Int32.ofInt (cmp64 x y) := by
  unfold lg_cmp cmp64
  have h1 : x < y ↔ x.toInt < y.toInt := Int64.lt_iff_toInt_lt
  have h2 : y < x ↔ y.toInt < x.toInt := Int64.lt_iff_toInt_lt
  have h3 : x = y ↔ x.toInt = y.toInt := Int64.toInt_inj.symm
  rcases Int.lt_trichotomy x.toInt y.toInt with q | q | q
  · rw [if_neg (by show ¬ (y < x); rw [h2]; omega), if_neg (by rw [h3]; omega), if_pos (by rw [h1]; omega)]; rfl
  · rw [if_neg (by show ¬ (y < x); rw [h2]; omega), if_pos (by rw [h3]; omega), if_neg (by rw [h1]; omega), if_pos (by rw [h3]; omega)]; rfl
  · rw [if_pos (by show y < x; rw [h2]; omega), if_neg (by rw [h1]; omega), if_neg (by rw [h3]; omega)]; rfl
theorem cmp64_R (x y : Int64) : inR (cmp64 x y) := by
  unfold cmp64
  split
  · constructor <;> decide
  · split <;> constructor <;> decide
theorem ofInt_nat (x : Int) : (Int32.ofInt x).toBitVec.toNat = (x % 4294967296).toNat := by
  show (BitVec.ofInt 32 x).toNat = _
  rw [BitVec.toNat_ofInt]
  rfl
theorem ar_and1 (x : Int) : Int32.ofInt x &&& 1 = Int32.ofInt (x % 2) := by
  rw [pk_and (Int32.ofInt x) (m := 1) 1 rfl, ofInt_nat]
  have : ((x % 4294967296).toNat % 2 ^ 1 : Nat) = (x % 2).toNat := by omega
  rw [this]
  rcases (show x % 2 = 0 ∨ x % 2 = 1 by omega) with h | h <;> rw [h] <;> rfl
theorem mod2_R (x : Int) : inR (x % 2) := by constructor <;> omega
theorem nar_z (x : Int32) : narrow .boolean (.int x) = .int (x &&& 1) := rfl
theorem nar_z2 (x : Int) : narrow .boolean (.int (Int32.ofInt x)) = .int (Int32.ofInt (x % 2)) := by rw [nar_z, ar_and1]
theorem vnar_z (x : Int) : vp_nar .boolean (Int32.ofInt x) = Int32.ofInt (x % 2) := by
  unfold vp_nar; rw [nar_z2]
theorem nar_z01 {x : Int} (h : x = 0 ∨ x = 1) : narrow .boolean (.int (Int32.ofInt x)) = .int (Int32.ofInt x) := by
  rcases h with rfl | rfl <;> rfl
theorem nar_small {x : Int} (h0 : 0 ≤ x) (h : x < 128) : narrow .char (.int (Int32.ofInt x)) = .int (Int32.ofInt x) ∧ narrow .byte (.int (Int32.ofInt x)) = .int (Int32.ofInt x) := by
  obtain ⟨n, rfl⟩ : ∃ n : Nat, x = n := ⟨x.toNat, by omega⟩
  have hn : n < 128 := by omega
  have key : ∀ n : Nat, n < 128 → narrow .char (.int (Int32.ofInt (n : Int))) = .int (Int32.ofInt (n : Int)) ∧ narrow .byte (.int (Int32.ofInt (n : Int))) = .int (Int32.ofInt (n : Int)) := by decide +kernel
  exact key n hn
theorem ar_ix {j : Int} {n : Nat} (hj : inR j) (h : 0 ≤ j ∧ j < n) : vp_in (Int32.ofInt j) n ∧ (Int32.ofInt j).toNatClampNeg = j.toNat := by
  have e : (Int32.ofInt j).toInt = j := toInt_ofInt32 hj
  refine ⟨vp_in_iff.mpr ⟨by rw [e]; exact h.1, by rw [e]; exact h.2⟩, ?_⟩
  show (Int32.ofInt j).toInt.toNat = j.toNat
  rw [e]
