/-! LAYER 3, THE CLASS HAS READ -/
theorem wr_of {D : RT} {M : Mem} (hD : WD D) (hA : DA D M) (h7 : ∀ s : Nat, s < 3 → M.1 37 4 s = 0 ∨ M.1 37 4 s = 1) (h8 : ∀ j : Nat, j < 175 → M.1 38 4 j = 0 ∨ M.1 38 4 j = 1) : WR (rd M 4) := by
  have e4 : ∀ j, 1 ≤ j → j ≤ 7 → rd M 4 4 j = D 4 j := fun j a b => by unfold rd; rw [if_pos (by omega)]; exact hA 4 j (by omega)
  have e33 : ∀ j, j < 3 → rd M 4 33 j = D 33 j := fun j a => by unfold rd; rw [if_pos (by omega)]; exact hA 33 j (by omega)
  have e34 : ∀ j, j < 3 → rd M 4 34 j = D 34 j := fun j a => by unfold rd; rw [if_pos (by omega)]; exact hA 34 j (by omega)
  have e35 : ∀ j, j < 15 → rd M 4 35 j = D 35 j := fun j a => by unfold rd; rw [if_pos (by omega)]; exact hA 35 j (by omega)
  have e36 : ∀ j, j < 15 → rd M 4 36 j = D 36 j := fun j a => by unfold rd; rw [if_pos (by omega)]; exact hA 36 j (by omega)
  have e37 : ∀ j, rd M 4 37 j = M.1 37 4 j := fun j => by unfold rd; rw [if_pos (by omega)]
  have e38 : ∀ j, rd M 4 38 j = M.1 38 4 j := fun j => by unfold rd; rw [if_pos (by omega)]
  obtain ⟨⟨d1, d2, d3, d4, d5, d6, d7⟩, d8⟩ := hD
  have hp : ∀ k : Nat, k < 15 → (0 ≤ D 35 k ∧ D 35 k ≤ 99) ∧ (0 ≤ D 36 k ∧ D 36 k ≤ 4) := by
    intro k hk
    have := (d8 (k / 5) (by omega)).2.2.2.2 (k % 5) (by omega)
    rw [show k / 5 * 5 + k % 5 = k by omega] at this
    exact ⟨this.1, this.2.1⟩
  unfold WR
  rw [e4 1 (by omega) (by omega), e4 2 (by omega) (by omega), e4 3 (by omega) (by omega), e4 4 (by omega) (by omega), e4 5 (by omega) (by omega), e4 6 (by omega) (by omega)]
  refine ⟨d1, by omega, by omega, d4, d5, d6, fun s hs => ?_, fun s hs => ?_, fun s hs => ?_, fun s hs z => ?_, fun k hk => ?_, fun k hk => ?_, fun k hk => ?_, fun s hs => ?_, fun s hs => ?_, d7⟩
  · rw [e33 s hs]; exact (d8 s hs).1
  · rw [e33 s hs]; exact (d8 s hs).2.1
  · rw [e34 s hs]; exact (d8 s hs).2.2.1
  · rw [e34 s hs]; exact (d8 s hs).2.2.2.1 z
  · rw [e35 k hk]; have := (hp k hk).1; omega
  · rw [e36 k hk]; exact (hp k hk).2
  · rw [e38]; exact h8 k hk
  · rw [e37]; exact h7 s hs
  · have w := d8 s hs
    rw [e35 _ (by omega), e35 _ (by omega)]
    have a0 := (w.2.2.2.2 0 (by omega)).2.2 (Or.inl rfl)
    have a4 := (w.2.2.2.2 4 (by omega)).2.2 (Or.inr (by have := w.2.2.1; omega))
    exact ⟨a0.1, a4.1⟩
