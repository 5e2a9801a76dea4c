/-! THE ADDRESSES ARE APART -/
def dsj (t i t' i' : Nat) : Prop := aoff t i + bSz t ≤ aoff t' i' ∨ aoff t' i' + bSz t' ≤ aoff t i
theorem sz1 : ∀ t, t < 116 → 1 ≤ bSz t := by decide +kernel
/-- the roots, laid one behind the other -/
def rtL : List (Nat × Nat) := (List.range 116).flatMap (fun t => if sysB t && !inn t then (List.range (nI' t)).map (fun i => (t, i)) else [])
def rtO : List (Nat × Nat) := (wCv.2.2.map (fun q => (q.1, bsz q.2)))
/-- a root's place in the row of entries -/
def plc' (t i : Nat) : Nat := ((bfind (aoff t i) wCv.2.2).map (·.1)).getD 0
def rtC (t i : Nat) : Bool := rtO.getD (plc' t i) (0, 0) == (aoff t i, bSz t) && decide (plc' t i < 157)
theorem rt_sz : ∀ t, t < 116 → sysB t = true → inn t = false → ∀ i, i < nI' t → rtC t i = true := by decide +kernel
theorem rt_srt : (List.range 156).all (fun k => decide ((rtO.getD k (0, 0)).1 + (rtO.getD k (0, 0)).2 ≤ (rtO.getD (k + 1) (0, 0)).1)) = true := by decide +kernel
def rtI : List (Nat × Nat) := (List.range 157).map (fun k => ((rtL.find? (fun q => plc' q.1 q.2 == k)).getD (0, 0)))
def rtJ (t i : Nat) : Bool := rtI.getD (plc' t i) (0, 0) == (t, i)
theorem rt_inj : ∀ t, t < 116 → sysB t = true → inn t = false → ∀ i, i < nI' t → rtJ t i = true := by decide +kernel
theorem rt_le : ∀ (k d : Nat), k + d + 1 < 157 → (rtO.getD k (0, 0)).1 + (rtO.getD k (0, 0)).2 ≤ (rtO.getD (k + d + 1) (0, 0)).1 := by
  intro k d
  have h := fun j (hj : j < 156) => of_decide_eq_true (List.all_eq_true.mp rt_srt j (List.mem_range.mpr hj))
  induction d with
  | zero => intro hk; exact h k (by omega)
  | succ d ih =>
    intro hk
    have a := ih (by omega)
    have b := h (k + d + 1) (by omega)
    have e : k + d + 1 + 1 = k + (d + 1) + 1 := by omega
    rw [e] at b
    omega
theorem rt_dis {t i t' i' : Nat} (h1 : t < 116) (h2 : sysB t = true) (h3 : inn t = false) (h4 : i < nI' t) (g1 : t' < 116) (g2 : sysB t' = true) (g3 : inn t' = false) (g4 : i' < nI' t') (hne : ¬ (t = t' ∧ i = i')) : dsj t i t' i' := by
  have a := rt_sz t h1 h2 h3 i h4
  have b := rt_sz t' g1 g2 g3 i' g4
  have a2 := rt_inj t h1 h2 h3 i h4
  have b2 := rt_inj t' g1 g2 g3 i' g4
  unfold rtC at a b
  unfold rtJ at a2 b2
  rw [Bool.and_eq_true, beq_iff_eq, decide_eq_true_eq] at a b
  rw [beq_iff_eq] at a2 b2
  obtain ⟨a3, la⟩ := a
  obtain ⟨b3, lb⟩ := b
  rcases Nat.lt_trichotomy (plc' t i) (plc' t' i') with h | h | h
  · have := rt_le (plc' t i) (plc' t' i' - plc' t i - 1) (by omega)
    rw [show plc' t i + (plc' t' i' - plc' t i - 1) + 1 = plc' t' i' by omega, a3, b3] at this
    exact Or.inl this
  · rw [h, b2] at a2
    have e1 := congrArg Prod.fst a2
    have e2 := congrArg Prod.snd a2
    exact absurd ⟨e1.symm, e2.symm⟩ hne
  · have := rt_le (plc' t' i') (plc' t i - plc' t' i' - 1) (by omega)
    rw [show plc' t' i' + (plc' t i - plc' t' i' - 1) + 1 = plc' t i by omega, a3, b3] at this
    exact Or.inr this
theorem chd {t i : Nat} (ht : t < 115) (hin : inn (t + 1) = true) (hi : i < nI' (t + 1)) : i / asz t < nI' t ∧ aoff t (i / asz t) < aoff (t + 1) i ∧ aoff (t + 1) i + bSz (t + 1) ≤ aoff t (i / asz t) + bSz t ∧ sysB t = true := by
  obtain ⟨d1, d2, d3, d4, d5, d6, d7, d8⟩ := inn_dm t ht hin
  have hm : i % asz t < asz t := Nat.mod_lt _ d8
  have hmul : i % asz t * bSz (t + 1) + bSz (t + 1) ≤ asz t * bSz (t + 1) := by rw [← Nat.succ_mul]; exact Nat.mul_le_mul_right _ hm
  refine ⟨?_, ?_, ?_, (sys_B (Or.inr ⟨d4, by omega⟩)).1⟩
  · rw [d3] at hi
    exact Nat.div_lt_of_lt_mul (by rw [Nat.mul_comm]; exact hi)
  · rw [aoff_in hin]; omega
  · rw [aoff_in hin, d2]; omega
theorem root_of : ∀ t i : Nat, t < 116 → sysB t = true → i < nI' t → ∃ r j : Nat, r ≤ t ∧ sysB r = true ∧ inn r = false ∧ j < nI' r ∧ aoff r j ≤ aoff t i ∧ aoff t i + bSz t ≤ aoff r j + bSz r := by
  intro t
  induction t with
  | zero => intro i h1 h2 h3; exact ⟨0, i, Nat.le_refl _, h2, rfl, h3, Nat.le_refl _, Nat.le_refl _⟩
  | succ t ih =>
    intro i h1 h2 h3
    by_cases hin : inn (t + 1) = true
    · obtain ⟨c1, c2, c3, c4⟩ := chd (by omega) hin h3
      obtain ⟨r, j, a1, a2, a3, a4, a5, a6⟩ := ih (i / asz t) (by omega) c4 c1
      exact ⟨r, j, by omega, a2, a3, a4, by omega, by omega⟩
    · exact ⟨t + 1, i, Nat.le_refl _, h2, Bool.eq_false_iff.mpr hin, h3, Nat.le_refl _, Nat.le_refl _⟩
theorem same_tag : ∀ t i i' : Nat, t < 116 → sysB t = true → i < nI' t → i' < nI' t → i ≠ i' → dsj t i t i' := by
  intro t
  induction t with
  | zero => intro i i' h1 h2 h3 h4 hne; exact rt_dis h1 h2 rfl h3 h1 h2 rfl h4 (fun q => hne q.2)
  | succ t ih =>
    intro i i' h1 h2 h3 h4 hne
    by_cases hin : inn (t + 1) = true
    · obtain ⟨d1, d2, d3, d4, d5, d6, d7, d8⟩ := inn_dm t (by omega) hin
      obtain ⟨c1, c2, c3, c4⟩ := chd (by omega) hin h3
      obtain ⟨e1, e2, e3, e4⟩ := chd (by omega) hin h4
      by_cases hp : i / asz t = i' / asz t
      · have hj : i % asz t ≠ i' % asz t := by
          intro q
          apply hne
          rw [← Nat.div_add_mod i (asz t), ← Nat.div_add_mod i' (asz t), hp, q]
        unfold dsj
        rw [aoff_in hin, aoff_in hin, hp]
        rcases Nat.lt_or_gt_of_ne hj with g | g
        · left
          have hmul : i % asz t * bSz (t + 1) + bSz (t + 1) ≤ i' % asz t * bSz (t + 1) := by rw [← Nat.succ_mul]; exact Nat.mul_le_mul_right _ g
          omega
        · right
          have hmul : i' % asz t * bSz (t + 1) + bSz (t + 1) ≤ i % asz t * bSz (t + 1) := by rw [← Nat.succ_mul]; exact Nat.mul_le_mul_right _ g
          omega
      · rcases ih _ _ (by omega) c4 c1 e1 hp with g | g
        · left; omega
        · right; omega
    · exact rt_dis h1 h2 (Bool.eq_false_iff.mpr hin) h3 h1 h2 (Bool.eq_false_iff.mpr hin) h4 (fun q => hne q.2)
theorem cross : ∀ t' t i i' : Nat, t < t' → t' < 116 → sysB t = true → sysB t' = true → i < nI' t → i' < nI' t' → dsj t i t' i' ∨ aoff t i < aoff t' i' := by
  intro t'
  induction t' with
  | zero => intro t i i' h; omega
  | succ u ih =>
    intro t i i' h1 h2 h3 h4 h5 h6
    by_cases hin : inn (u + 1) = true
    · obtain ⟨c1, c2, c3, c4⟩ := chd (by omega) hin h6
      by_cases e : t = u
      · subst e
        by_cases q : i = i' / asz t
        · right; rw [q]; exact c2
        · rcases same_tag t i (i' / asz t) (by omega) h3 h5 c1 q with g | g
          · left; left; omega
          · left; right; omega
      · rcases ih t i (i' / asz u) (by omega) (by omega) h3 c4 h5 c1 with g | g
        · rcases g with g | g
          · left; left; omega
          · left; right; omega
        · right; omega
    · obtain ⟨r, j, a1, a2, a3, a4, a5, a6⟩ := root_of t i (by omega) h3 h5
      rcases rt_dis (t := r) (i := j) (t' := u + 1) (i' := i') (by omega) a2 a3 a4 h2 h4 (Bool.eq_false_iff.mpr hin) h6 (fun q => by omega) with g | g
      · left; left; omega
      · left; right; omega
theorem aok_all {D : va_G} {K : FieldType → ClassId} {N0 : Nat} {X : Nat → Nat → Nat} : AOK (Gw D K N0 X) := by
  refine ⟨fun t i t' i' ht ht' hi hi' h => ?_, fun t i ht hi => ?_⟩
  · obtain ⟨s1, s2⟩ := sys_B ht
    obtain ⟨s3, s4⟩ := sys_B ht'
    rw [Gw_at s1, Gw_at s3] at h
    have z1 := sz1 t s2
    have z2 := sz1 t' s4
    have he : aoff t i = aoff t' i' := by omega
    rcases Nat.lt_trichotomy t t' with g | g | g
    · exfalso
      rcases cross t' t i i' g s4 s1 s3 hi hi' with q | q
      · rcases q with q | q <;> omega
      · omega
    · subst g
      refine ⟨rfl, ?_⟩
      by_cases q : i = i'
      · exact q
      · exfalso
        rcases same_tag t i i' s2 s1 hi hi' q with q | q <;> omega
    · exfalso
      rcases cross t t' i' i g s2 s3 s1 hi' hi with q | q
      · rcases q with q | q <;> omega
      · omega
  · rw [Gw_at (sys_B ht).1]
    exact Nat.le_add_right _ _
