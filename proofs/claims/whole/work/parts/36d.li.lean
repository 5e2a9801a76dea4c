/-! THE LAW'S INVARIANT STANDS AT THE START -/
section
variable {L : Nat} {xs : Nat → Int}
theorem M0_z {t i j : Nat} (h : t ≠ 118) (h2 : t ≠ 9) (h3 : t ≠ 10) (h4 : t ≠ 5) : (M0 L xs).1 t i j = 0 := by
  show (if t = 118 then _ else m0 t i j) = 0
  rw [if_neg h]
  exact if_neg (by omega)
theorem M0_k {t i j : Nat} (h : t ≠ 118) : (M0 L xs).1 t i j = m0 t i j := by
  show (if t = 118 then _ else m0 t i j) = _
  rw [if_neg h]
theorem rd_M0 (i : Nat) : rd (M0 L xs) i = fun _ _ => 0 := by
  funext t j
  unfold rd
  by_cases h : t = 4 ∨ 33 ≤ t ∧ t ≤ 38
  · rw [if_pos h, M0_z (by omega) (by omega) (by omega) (by omega)]
  · rw [if_neg h]
theorem WR_0 : WR (fun _ _ => 0) := by
  unfold WR
  simp
theorem li_0 : LI L xs 0 (M0 L xs) := by
  have z : ∀ t i j : Nat, t ≠ 118 → t ≠ 9 → t ≠ 10 → t ≠ 5 → (M0 L xs).1 t i j = 0 := fun t i j a b c d => M0_z a b c d
  have z2 : ∀ t i j : Nat, (M0 L xs).2 t i j = 0 := fun t i j => rfl
  have k : ∀ t i j : Nat, t ≠ 118 → (M0 L xs).1 t i j = m0 t i j := fun t i j a => M0_k a
  have hr : ∀ i, rd (M0 L xs) i = fun _ _ => 0 := rd_M0
  refine ⟨⟨rfl, fun j => rfl⟩, ⟨by rw [k 900 0 0 (by decide)]; decide, by rw [k 900 0 0 (by decide)]; decide⟩, fun _ => 0, 0, fun _ => 0, -1, 0, fun _ => 0, 0, fun _ => (fun _ _ => 0, fun _ => 0, 0, fun _ => 0, fun _ => 0), ?_, ?_, ?_⟩
  · refine ⟨⟨⟨fun b _ => ⟨fun x i _ _ _ _ => rfl, fun w i _ _ _ _ => rfl, fun w _ _ => ⟨z _ _ _ (by decide) (by decide) (by decide) (by decide), rfl⟩, fun x _ _ => ⟨z _ _ _ (by decide) (by decide) (by decide) (by decide), rfl⟩⟩, fun i _ _ t j ht _ => z t i j (by omega) (by omega) (by omega) (by omega), fun i _ => by rw [hr]; exact WR_0, fun i _ => ?_, fun i j _ _ _ => by rw [hr, hr]⟩, ⟨?_, ?_⟩, ⟨?_, ?_⟩, ?_, ?_, ⟨Or.inl ?_, ?_⟩⟩, ?_, ?_, ?_, ?_, ?_, ?_, ?_, ?_, ?_⟩
    · rw [z 4 i 0 (by decide) (by decide) (by decide) (by decide), k 9 0 1 (by decide)]; decide
    · rw [z 0 0 2 (by decide) (by decide) (by decide) (by decide), k 9 0 1 (by decide)]; decide
    · intro i _ h; rw [hr] at h; exact absurd h (by decide)
    · rw [k 9 0 13 (by decide), k 9 0 1 (by decide)]; decide
    · intro i _ h; rw [hr] at h; exact absurd h (by decide)
    · intro q _
      refine ⟨by rw [z 31 0 q (by decide) (by decide) (by decide) (by decide), k 9 0 1 (by decide)]; decide, fun i _ h => ?_⟩
      rw [hr] at h; exact absurd h (by decide)
    · intro h
      rw [k 9 0 7 (by decide)] at h
      exact absurd (by decide) h
    · rw [k 5 0 6 (by decide)]; decide
    · intro j _; exact Or.inl (z 38 4 j (by decide) (by decide) (by decide) (by decide))
    · intro j _; exact z 27 0 j (by decide) (by decide) (by decide) (by decide)
    · rw [k 5 0 2 (by decide)]; decide
    · intro j; exact z 39 0 j (by decide) (by decide) (by decide) (by decide)
    · rw [k 5 0 1 (by decide)]; decide
    · rw [z 2 0 3 (by decide) (by decide) (by decide) (by decide)]; rfl
    · intro j hj; omega
    · rw [k 9 0 4 (by decide)]; decide
    · rw [k 9 0 1 (by decide)]; decide
    · intro j hj; omega
  · refine ⟨Or.inl ⟨by rw [hr], by rw [k 10 0 20 (by decide)]; decide, fun j _ _ => by rw [hr], fun j h1 h2 => ?_⟩, ?_, ?_, ?_, ?_, ?_, ?_, ?_, ?_, ?_⟩
    · rw [k 10 0 j (by decide)]
      exact if_neg (by omega)
    · intro i x _ _
      rw [z 87 i x (by decide) (by decide) (by decide) (by decide)]
      unfold ruM
      split <;> (try split) <;> rfl
    · rw [k 10 0 1 (by decide)]; decide
    · intro j; exact z 54 0 j (by decide) (by decide) (by decide) (by decide)
    · rw [k 10 0 3 (by decide)]; decide
    · rw [k 10 0 54 (by decide)]; decide
    · intro j hj; omega
    · rw [k 10 0 55 (by decide)]; decide
    · rw [k 10 0 11 (by decide)]; decide
    · intro j hj; omega
  · exact ⟨fun j _ => ⟨⟨by show (0 : Int) ≤ 0; omega, by show (0 : Int) ≤ 4; omega⟩, fun _ => rfl⟩, by omega, ⟨by omega, fun j hj => by omega⟩, by omega, fun j hj => by omega⟩
end
