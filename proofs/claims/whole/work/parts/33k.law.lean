/-! LAYER 4, THE LAW: its loop ends with true -/
theorem band31 {x : Int} (h : -2147483648 ≤ x ∧ x ≤ 2147483647) : 0 ≤ band x 31 ∧ band x 31 < 32 := by
  unfold band
  have e : (Int32.ofInt x &&& Int32.ofInt 31).toInt = ((Int32.ofInt x &&& 31)).toInt := rfl
  rw [e]
  have hle : (Int32.ofInt x &&& 31).toBitVec.toNat ≤ 31 := by
    show ((Int32.ofInt x).toBitVec &&& (31#32)).toNat ≤ 31
    rw [BitVec.toNat_and]
    exact Nat.and_le_right
  have hi : (Int32.ofInt x &&& 31).toInt = ((Int32.ofInt x &&& 31).toBitVec.toNat : Int) := by
    show (Int32.ofInt x &&& 31).toBitVec.toInt = _
    rw [BitVec.toInt_eq_toNat_of_lt (by omega)]
  rw [hi]
  omega
section
variable {L : Nat} {xs : Nat → Int} {i : Int} {d : Nat} {Q : AV → Mem → Prop} {X : Nat → Mem → Prop}
theorem la_step {M : Mem} {z5 z6 z7 : AV} (hLI : LI L xs i M) (hi : 0 ≤ i ∧ i + 6 ≤ L) (hL : L ≤ 3072) (hx : ∀ j, -2147483648 ≤ xs j ∧ xs j ≤ 2147483647)
    (hq : ∀ M' z5 z6 z7, LI L xs (i + 6) M' → At (d + 70) kLa_law 13 [vr 118 0, vr 9 0, vr 10 0, vr 115 0, vi (i + 6), z5, z6, z7] [] M' Q X) : At (d + 70) kLa_law 13 [vr 118 0, vr 9 0, vr 10 0, vr 115 0, vi i, z5, z6, z7] [] M Q X := by
  have hs := hLI.1
  have hq' : ∀ M' z5 z6 z7, LI L xs (i + 6) M' → At (d + 70) kLa_law 1175 [vr 118 0, vr 9 0, vr 10 0, vr 115 0, vi i, z5, z6, z7] [] M' Q X := fun M' z5 z6 z7 h => by
    rw [bLa_law_1175, w32_id (by omega)]; exact hq M' z5 z6 z7 h
  rw [bLa_law_13, hs.1, w32_id (by omega), if_neg (by omega), bLa_law_19 (by rw [hs.1]; omega), hs.2]
  have hb := band31 (hx i.toNat)
  generalize band (xs i.toNat) 31 = c at hb
  rcases (by omega : c = 0 ∨ c = 1 ∨ c = 2 ∨ c = 3 ∨ c = 4 ∨ c = 5 ∨ c = 6 ∨ c = 7 ∨ c = 8 ∨ c = 9 ∨ c = 10 ∨ c = 11 ∨ c = 12 ∨ c = 13 ∨ c = 14 ∨ c = 15 ∨ c = 16 ∨ c = 17 ∨ c = 18 ∨ c = 19 ∨ c = 20 ∨ c = 21 ∨ c = 22 ∨ c = 23 ∨ c = 24 ∨ c = 25 ∨ c = 26 ∨ c = 27 ∨ c = 28 ∨ c = 29 ∨ c = 30 ∨ c = 31) with rfl | rfl | rfl | rfl | rfl | rfl | rfl | rfl | rfl | rfl | rfl | rfl | rfl | rfl | rfl | rfl | rfl | rfl | rfl | rfl | rfl | rfl | rfl | rfl | rfl | rfl | rfl | rfl | rfl | rfl | rfl | rfl
  · exact la_feed hLI hi hL hx hq'
  · exact la_race hLI hi hL hx hq'
  · exact la_fault hLI hi hL hx hq'
  · exact la_told hLI hi hL hx hq'
  · exact la_shop hLI hi hL hx hq'
  · exact la_worth hLI hi hL hx hq'
  · exact la_doing hLI hi hL hx hq'
  · exact la_gain hLI hi hL hx hq'
  · exact la_unrest hLI hi hL hx hq'
  · exact la_rule hLI hi hL hx hq'
  · exact la_follow hLI hi hL hx hq'
  · exact la_judged hLI hi hL hx hq'
  · exact la_breaks hLI hi hL hx hq'
  · exact la_alone hLI hi hL hx hq'
  · exact la_best hLI hi hL hx hq'
  · exact la_answer hLI hi hL hx hq'
  · exact la_first hLI hi hL hx hq'
  · exact la_late hLI hi hL hx hq'
  · exact la_waste hLI hi hL hx hq'
  · exact la_harder hLI hi hL hx hq'
  · exact la_behind hLI hi hL hx hq'
  · exact la_leavers hLI hi hL hx hq'
  · exact la_joined hLI hi hL hx hq'
  · exact la_sold hLI hi hL hx hq'
  · exact la_offer hLI hi hL hx hq'
  · exact la_king hLI hi hL hx hq'
  · exact la_entry hLI hi hL hx hq'
  · exact la_edge hLI hi hL hx hq'
  · exact la_run hLI hi hL hx hq'
  · exact la_image hLI hi hL hx hq'
  · exact la_restore hLI hi hL hx hq'
  · exact la_count hLI hi hL hx hq'
theorem la_loop (hL : L ≤ 3072) (hx : ∀ j, -2147483648 ≤ xs j ∧ xs j ≤ 2147483647) : ∀ (k : Nat) (i : Int) (M : Mem) (z5 z6 z7 : AV), LI L xs i M → 0 ≤ i → i ≤ (L : Int) → (L : Int) < i + k → (∀ M', 0 ≤ M'.1 900 0 0 → M'.1 900 0 0 ≤ 512 → Q (vi 1) M') → At (d + 70) kLa_law 13 [vr 118 0, vr 9 0, vr 10 0, vr 115 0, vi i, z5, z6, z7] [] M Q X := by
  intro k
  induction k with
  | zero => intro i M z5 z6 z7 hLI h0 h1 hk hq; omega
  | succ k ih =>
    intro i M z5 z6 z7 hLI h0 h1 hk hq
    have hs := hLI.1
    have hg := hLI.2.1
    by_cases hend : (L : Int) - 6 < i
    · rw [bLa_law_13, hs.1, w32_id (by omega), if_pos hend, bLa_law_1177]
      exact hq M hg.1 (by omega)
    · exact la_step hLI (by omega) hL hx (fun M' z5 z6 z7 h => ih (i + 6) M' z5 z6 z7 h (by omega) (by omega) (by omega) hq)
end
