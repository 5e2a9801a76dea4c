/-! THE FIVE INSTRUCTIONS OF A THROW, and the ghost's step in a world -/
theorem iln_N {ins : Instr} (h : isN ins = true) : iln ins ≠ 0 := by
  cases ins <;> first | (intro q; cases q; done) | (simp [isN] at h)
theorem iln_R {ins : Instr} (h : isR ins = true) : iln ins ≠ 0 := by
  cases ins <;> first | (intro q; cases q; done) | (simp [isR] at h)
theorem thr_at {o rt nl : Nat} {cc : ByteArray} {tb : List Ent} {i pc idx E : Nat} {xs : List Nat} {v0 : Int} (hchk : ∀ i, chkE o rt nl cc tb i = true) (he : tb[i]? = some (pc, .new idx, xs, v0)) (h : thr tb i idx E = true) :
    ∃ sx ic wd, (idx, E, sx, ic, wd) ∈ NWT ∧ (wd = 0 ∨ wd = 1) ∧ decode cc (pc + 3) = .ok (.dup, 1) ∧ (wd = 0 → decode cc (pc + 4) = .ok (.ldc sx, 2) ∧ decode cc (pc + 6) = .ok (.invokespecial ic, 3) ∧ decode cc (pc + 9) = .ok (.athrow, 1)) ∧
      (wd = 1 → decode cc (pc + 4) = .ok (.ldc_w sx, 3) ∧ decode cc (pc + 7) = .ok (.invokespecial ic, 3) ∧ decode cc (pc + 10) = .ok (.athrow, 1)) := by
  have dec : ∀ {j p : Nat} {ins : Instr} {z : List Nat × Int}, tb[j]? = some (p, ins, z) → ins ≠ .nop → iln ins ≠ 0 → decode cc p = .ok (ins, iln ins) := by
    intro j p ins z h1 h2 h3
    obtain ⟨len, hd, hln, -⟩ := chk_of (hchk j) (xs := z.1) (v0 := z.2) h1 h2
    rcases hln with q | q
    · exact absurd q h3
    · rw [← q]; exact hd
  unfold thr at h
  rw [he] at h
  split at h
  · next e0 p1 z1 p2 sx z2 p3 ic z3 p4 z4 h0 h1 h2 h3 h4 =>
    cases h0
    simp only [Bool.and_eq_true, beq_iff_eq] at h
    obtain ⟨⟨⟨⟨a1, a2⟩, a3⟩, a4⟩, a5⟩ := h
    subst a1 a2 a3 a4
    exact ⟨sx, ic, 0, List.contains_iff_mem.mp a5, Or.inl rfl, dec h1 (by intro q; cases q) (by decide), fun _ => ⟨dec h2 (by intro q; cases q) (by intro q; cases q), dec h3 (by intro q; cases q) (by intro q; cases q), dec h4 (by intro q; cases q) (by decide)⟩, fun q => by omega⟩
  · next e0 p1 z1 p2 sx z2 p3 ic z3 p4 z4 h0 h1 h2 h3 h4 =>
    cases h0
    simp only [Bool.and_eq_true, beq_iff_eq] at h
    obtain ⟨⟨⟨⟨a1, a2⟩, a3⟩, a4⟩, a5⟩ := h
    subst a1 a2 a3 a4
    exact ⟨sx, ic, 1, List.contains_iff_mem.mp a5, Or.inr rfl, dec h1 (by intro q; cases q) (by decide), fun q => by omega, fun _ => ⟨dec h2 (by intro q; cases q) (by intro q; cases q), dec h3 (by intro q; cases q) (by intro q; cases q), dec h4 (by intro q; cases q) (by decide)⟩⟩
  · cases h
theorem gh_off {M : Mem} {a b c : Nat} (h : a ≠ 900) : (gh M).1 a b c = M.1 a b c := if_neg (fun q => h q.1)
theorem Wm.caught {G : Gx} {sc : Nat × (Nat → Int)} {M : Mem} {H : Heap} (h : Wm G sc M H) (hg : M.1 900 0 0 < 1000) : Wm G sc (gh M) H := by
  obtain ⟨h1, h2, h3, h4, h5, h6⟩ := h
  refine ⟨fun a b c => ?_, ?_, ?_, fun t i j ht => ?_, fun t i ht hi => ?_, h6⟩
  · by_cases q : a = 900 ∧ b = 0 ∧ c = 0
    · obtain ⟨rfl, rfl, rfl⟩ := q
      have := h1 900 0 0
      have e : (gh M).1 900 0 0 = M.1 900 0 0 + 1 := gC_gh M
      rw [e]
      exact ⟨by have := this.1; omega, by omega⟩
    · have e : (gh M).1 a b c = M.1 a b c := if_neg q
      rw [e]
      exact h1 a b c
  · rw [gh_off (by decide)]; exact h2
  · refine ⟨by rw [gh_off (by decide)]; exact h3.1, fun j => by rw [gh_off (by decide)]; exact h3.2 j⟩
  · have : t ≠ 900 := fun q => by rw [q] at ht; revert ht; decide
    rw [gh_off this]; exact h4 t i j ht
  · have : t ≠ 900 := by rcases ht with q | q <;> omega
    rw [cel_congr (M := M) (fun c => gh_off this) (fun c => rfl)]
    exact h5 t i ht hi
