/-! EVERY METHOD'S CONTRACT -/
theorem lay_len {G : Gx} (as : List AV) : (lg_sl (as.map (cv G))).length = (lay as).length := by
  induction as with
  | nil => rfl
  | cons v r ih =>
    have e : lg_sl ((v :: r).map (cv G)) = (if (cv G v).category = 2 then [Slot.val (cv G v), Slot.second] else [Slot.val (cv G v)]) ++ lg_sl (r.map (cv G)) := rfl
    rw [e, List.length_append, ih]
    rcases v with x | x | ⟨t, i⟩
    · exact Nat.add_comm 1 _
    · exact Nat.add_comm 2 _
    · exact Nat.add_comm 1 _
theorem lay_args {G : Gx} : ∀ (as : List AV) (k i : Nat) (v : AV), (lay as)[i]? = some v → v ≠ JK → (k + i, cv G v) ∈ lv_args k (as.map (cv G)) := by
  intro as
  induction as with
  | nil => intro k i v h; cases h
  | cons w r ih =>
    intro k i v h hj
    rcases w with x | x | ⟨t, j⟩
    · cases i with
      | zero => cases h; exact List.mem_cons_self
      | succ i =>
        have h2 := ih (k + 1) i v h hj
        rw [Nat.add_right_comm] at h2
        exact List.mem_cons_of_mem _ h2
    · cases i with
      | zero => cases h; exact List.mem_cons_self
      | succ i =>
        cases i with
        | zero => cases h; exact absurd rfl hj
        | succ i =>
          have h2 := ih (k + 2) i v h hj
          rw [Nat.add_right_comm] at h2
          exact List.mem_cons_of_mem _ h2
    · cases i with
      | zero => cases h; exact List.mem_cons_self
      | succ i =>
        have h2 := ih (k + 1) i v h hj
        rw [Nat.add_right_comm] at h2
        exact List.mem_cons_of_mem _ h2
theorem LV_entry {G : Gx} {as : List AV} {nL : Nat} (h : (lay as).length ≤ nL) : LV G ((lg_sl (as.map (cv G)) ++ List.replicate (nL - (lg_sl (as.map (cv G))).length) Slot.unset).toArray) nL (lay as ++ List.replicate (nL - (lay as).length) JK) := by
  have hl := lv_entry (as.map (cv G)) (n := nL) (by rw [lay_len]; exact h)
  refine ⟨⟨hl.1, hl.2.1, fun q hq => ?_⟩, by rw [List.length_append, List.length_replicate]; omega⟩
  obtain ⟨i, w⟩ := q
  obtain ⟨v, h1, h2, rfl⟩ := mem_lp.mp hq
  by_cases hi : i < (lay as).length
  · rw [List.getElem?_append_left hi] at h1
    have h3 := hl.2.2 _ (lay_args (G := G) as 0 i v h1 h2)
    rw [Nat.zero_add] at h3
    exact h3
  · rw [List.getElem?_append_right (Nat.le_of_not_lt hi), List.getElem?_replicate] at h1
    split at h1
    · exact absurd (Option.some.inj h1).symm h2
    · cases h1
theorem okL_lay : ∀ {as : List AV}, okL as → okL (lay as) := by
  intro as
  induction as with
  | nil => intro _; exact okL_nil
  | cons v r ih =>
    intro h
    obtain ⟨h1, h2⟩ := okL_cons.mp h
    rcases v with x | x | ⟨t, i⟩
    · exact okL_cons.mpr ⟨h1, ih h2⟩
    · exact okL_cons.mpr ⟨h1, okL_cons.mpr ⟨okV_JK, ih h2⟩⟩
    · exact okL_cons.mpr ⟨h1, ih h2⟩
theorem okL_entry {as : List AV} {k : Nat} (h : okL as) : okL (lay as ++ List.replicate k JK) := by
  intro v hv
  rcases List.mem_append.mp hv with q | q
  · exact okL_lay h v q
  · rw [List.eq_of_mem_replicate q]; exact okV_JK
