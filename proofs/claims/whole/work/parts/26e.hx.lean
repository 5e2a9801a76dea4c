/-! LAYER 3, STEPS AND NEXT OF ONE THAT IS IN -/
theorem hx_of {p b s : Int} (hg : Gng p b) (s0 : 0 ≤ s) (s3 : s < 3) (hb : bit b s = 1) : (1 ≤ dg p s ∧ dg p s ≤ 4) ∧ ((1 ≤ nxm p b s ∧ nxm p b s ≤ 4) ∨ nxm p b s = 9) := by
  have h := hg s s0 s3 hb
  have hr := dg_R p s
  have key : ∀ k n : Int, 0 ≤ k → k < 3 → ((1 ≤ n ∧ n ≤ 4) ∨ n = 9) → ((1 ≤ nm1 p b s k n ∧ nm1 p b s k n ≤ 4) ∨ nm1 p b s k n = 9) := by
    intro k n k0 k3 hn
    unfold nm1
    by_cases e : k ≠ s ∧ bit b k = 1 ∧ dg p k < n
    · rw [if_pos e]
      have := hg k k0 k3 e.2.1
      have := dg_R p k
      omega
    · rw [if_neg e]; exact hn
  refine ⟨by omega, ?_⟩
  unfold nxm
  exact key 2 _ (by omega) (by omega) (key 1 _ (by omega) (by omega) (key 0 9 (by omega) (by omega) (Or.inr rfl)))
