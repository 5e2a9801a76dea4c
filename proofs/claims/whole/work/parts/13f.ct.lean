/-! EVERY METHOD'S CONTRACT -/
theorem lay_len {G : Gx} (as : List AV) : (lg_sl (as.map (cv G))).length = (lay as).length := by
  induction as with
  | nil => rfl
  | cons v r ih =>
    rcases v with x | x | ⟨t, i⟩
    · show 1 + _ = _ + 1 <;> sorry
    · sorry
    · sorry
theorem lay_args {G : Gx} : ∀ (as : List AV) (k i : Nat) (v : AV), (lay as)[i]? = some v → v ≠ JK → (k + i, cv G v) ∈ lv_args k (as.map (cv G)) := by
  intro as
  induction as with
  | nil => intro k i v h; cases h
  | cons w r ih =>
    intro k i v h hj
    rcases w with x | x | ⟨t, j⟩
    · cases i with
      | zero => cases h; exact List.mem_cons_self
      | succ i =>
        have h2 := ih (k + 1) i v h hj
        rw [Nat.add_right_comm] at h2
        exact List.mem_cons_of_mem _ h2
    · cases i with
      | zero => cases h; exact List.mem_cons_self
      | succ i =>
        cases i with
        | zero => cases h; exact absurd rfl hj
        | succ i =>
          have h2 := ih (k + 2) i v h hj
          rw [Nat.add_right_comm] at h2
          exact List.mem_cons_of_mem _ h2
    · cases i with
      | zero => cases h; exact List.mem_cons_self
      | succ i =>
        have h2 := ih (k + 1) i v h hj
        rw [Nat.add_right_comm] at h2
        exact List.mem_cons_of_mem _ h2
