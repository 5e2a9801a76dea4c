/-! WHAT A CALLEE THREW: it goes on out, or a row takes it -/
theorem exc_none {E pc : Nat} {tb : List Ent} : ∀ hh : List (Nat × Nat × Nat × Nat), hnd E (hrow tb pc hh) = none → ∀ r ∈ hh, ¬ (r.1 ≤ pc ∧ pc < r.2.1) ∨ hE r.2.2.2 ≠ E := by
  intro hh
  induction hh with
  | nil => intro _ r h; cases h
  | cons r0 rs ih =>
    intro h r hr
    unfold hrow at h
    by_cases q : r0.1 ≤ pc ∧ pc < r0.2.1
    · rw [if_pos q] at h
      unfold hnd at h
      by_cases z : hE r0.2.2.2 = E
      · rw [if_pos z] at h; cases h
      · rw [if_neg z] at h
        rcases List.mem_cons.mp hr with rfl | hr
        · exact Or.inr z
        · exact ih h r hr
    · rw [if_neg q] at h
      rcases List.mem_cons.mp hr with rfl | hr
      · exact Or.inl q
      · exact ih h r hr
theorem exc_some {E pc t k : Nat} {tb : List Ent} : ∀ hh : List (Nat × Nat × Nat × Nat), hnd E (hrow tb pc hh) = some (t, k) → ∃ pre r suf, hh = pre ++ r :: suf ∧ (∀ z ∈ pre, ¬ (z.1 ≤ pc ∧ pc < z.2.1) ∨ hE z.2.2.2 ≠ E) ∧ (r.1 ≤ pc ∧ pc < r.2.1) ∧ hE r.2.2.2 = E ∧ hk tb r.2.2.1 = (t, k) := by
  intro hh
  induction hh with
  | nil => intro h; cases h
  | cons r0 rs ih =>
    intro h
    unfold hrow at h
    by_cases q : r0.1 ≤ pc ∧ pc < r0.2.1
    · rw [if_pos q] at h
      unfold hnd at h
      by_cases z : hE r0.2.2.2 = E
      · rw [if_pos z] at h
        exact ⟨[], r0, rs, rfl, (fun _ h => by cases h), q, z, Option.some.inj h⟩
      · rw [if_neg z] at h
        obtain ⟨pre, r, suf, h1, h2, h3⟩ := ih h
        refine ⟨r0 :: pre, r, suf, by rw [h1]; rfl, fun x hx => ?_, h3⟩
        rcases List.mem_cons.mp hx with rfl | hx
        · exact Or.inr z
        · exact h2 x hx
    · rw [if_neg q] at h
      obtain ⟨pre, r, suf, h1, h2, h3⟩ := ih h
      refine ⟨r0 :: pre, r, suf, by rw [h1]; rfl, fun x hx => ?_, h3⟩
      rcases List.mem_cons.mp hx with rfl | hx
      · exact Or.inl q
      · exact h2 x hx
theorem hk_at {tb : List Ent} {T t k nl : Nat} (h : hk tb T = (t, k)) (hk' : k < nl) (hn : nl ≤ 45) : ∃ i xs v, t = i + 1 ∧ (tb[i]? = some (T, .astore k, xs, v) ∨ ∃ f : Fin 4, f.val = k ∧ tb[i]? = some (T, .astore_n f, xs, v)) := by
  unfold hk at h
  split at h
  · next i hi =>
    have hf := List.findIdx?_eq_some_iff_getElem.mp hi
    obtain ⟨hlt, hT, -⟩ := hf
    split at h
    · next p k' z he =>
      simp only [Prod.mk.injEq] at h
      obtain ⟨rfl, rfl⟩ := h
      have hp : p = T := by
        have h2 := List.getElem?_eq_getElem hlt
        rw [he] at h2
        have h3 := Option.some.inj h2
        rw [← h3] at hT
        exact beq_iff_eq.mp hT
      subst hp
      exact ⟨i, z.1, z.2, rfl, Or.inl he⟩
    · next p k' z he =>
      simp only [Prod.mk.injEq] at h
      obtain ⟨rfl, rfl⟩ := h
      have hp : p = T := by
        have h2 := List.getElem?_eq_getElem hlt
        rw [he] at h2
        have h3 := Option.some.inj h2
        rw [← h3] at hT
        exact beq_iff_eq.mp hT
      subst hp
      exact ⟨i, z.1, z.2, rfl, Or.inr ⟨k', rfl, he⟩⟩
    · simp only [Prod.mk.injEq] at h
      omega
  · simp only [Prod.mk.injEq] at h
    omega
theorem hE_ct {ct : Nat} (h : hE ct ≠ 7) : ct = 13 ∨ ct = 22 ∨ ct = 28 := by
  unfold hE at h
  repeat' split at h
  · exact Or.inl ‹_›
  · exact Or.inr (Or.inl ‹_›)
  · exact Or.inr (Or.inr ‹_›)
  · exact absurd rfl h
theorem cl_in : ∀ ct ∈ [13, 22, 28], Cond.classLink RL ct (exN (hE ct)) ∈ lw_tbl ∧ goodWord (Cond.classLink RL ct (exN (hE ct))) = true := by decide +kernel
theorem ca_in : ∀ E, E < 3 → Cond.castable (exN E) (exN E) ∈ lw_tbl := by decide +kernel
theorem ex_in : ∀ E, E < 3 → exN E ∈ ["java/lang/IllegalStateException", "java/util/NoSuchElementException", "java/lang/IllegalArgumentException"] := by decide +kernel
theorem ex_ne : ∀ E, E < 3 → ∀ E', E' < 3 → E' ≠ E → exN E ≠ exN E' := by decide +kernel
theorem hE_lt {ct : Nat} (h : hE ct ≠ 7) : hE ct < 3 := by
  rcases hE_ct h with rfl | rfl | rfl <;> decide
