/-! LAYER 3, A CLAUSE IN THE REFERENCE -/
def MP (B : BT) (n : Nat) (M : Mem) (res : CRs) (M' : Mem) : Prop := Fs pMc M M' ∧ match res with
  | .inl e => e.1 ≠ 0 ∧ MF B n e.1 e.2 M'
  | .inr ((D, T), k) => MK B n D T M' k
theorem sD_sD {D : RT} {t j v v'} : sD (sD D t j v) t j v' = sD D t j v' := by
  funext a b
  unfold sD
  split <;> rfl
section
variable {d : Nat} {B : BT} {n : Nat} {D : RT} {T : TT} {M : Mem} {Q : AV → Mem → Prop} {X : Nat → Mem → Prop}
theorem MK.fld {k j jd : Nat} {v : Int} (h : MK B n D T M k) (hj : (j = 26 ∧ jd = 2) ∨ (j = 27 ∧ jd = 3) ∨ (j = 28 ∧ jd = 4) ∨ (j = 29 ∧ jd = 5) ∨ (j = 30 ∧ jd = 6) ∨ (j = 33 ∧ jd = 7)) : MK B n (sD D 4 jd v) T (sI M 10 0 j v) k := by
  obtain ⟨h1, h2, ⟨⟨a1, a2, a3, a4, a5, a6, a7⟩, h4⟩, h5, h6⟩ := h
  refine ⟨h1.j (by omega), by rw [sI_ne (by omega)]; exact h2, ⟨⟨?_, ?_, ?_, ?_, ?_, ?_, ?_⟩, ?_⟩, by rw [sI_ne (by omega)]; exact h5, by rw [sI_ne (by omega)]; exact h6⟩
  · rw [sI_ne (by omega), sD_ne (by omega)]; exact a1
  · by_cases e : j = 26
    · obtain rfl : jd = 2 := by omega
      subst e; rw [sI_eq, sD_eq]
    · rw [sI_ne (by omega), sD_ne (by omega)]; exact a2
  · by_cases e : j = 27
    · obtain rfl : jd = 3 := by omega
      subst e; rw [sI_eq, sD_eq]
    · rw [sI_ne (by omega), sD_ne (by omega)]; exact a3
  · by_cases e : j = 28
    · obtain rfl : jd = 4 := by omega
      subst e; rw [sI_eq, sD_eq]
    · rw [sI_ne (by omega), sD_ne (by omega)]; exact a4
  · by_cases e : j = 29
    · obtain rfl : jd = 5 := by omega
      subst e; rw [sI_eq, sD_eq]
    · rw [sI_ne (by omega), sD_ne (by omega)]; exact a5
  · by_cases e : j = 30
    · obtain rfl : jd = 6 := by omega
      subst e; rw [sI_eq, sD_eq]
    · rw [sI_ne (by omega), sD_ne (by omega)]; exact a6
  · by_cases e : j = 33
    · obtain rfl : jd = 7 := by omega
      subst e; rw [sI_eq, sD_eq]
    · rw [sI_ne (by omega), sD_ne (by omega)]; exact a7
  · intro s hs hs2
    rw [sD_ne (by omega)] at hs2
    obtain ⟨g1, g2, g3⟩ := h4 s hs hs2
    unfold MDs
    rw [sI_ne (by omega), sD_ne (by omega), sI_ne (by omega), sD_ne (by omega)]
    refine ⟨g1, g2, fun q q1 q2 q3 => ?_⟩
    rw [sI_ne (by omega), sD_ne (by omega), sI_ne (by omega), sD_ne (by omega)]
    exact g3 q q1 q2 q3
/-- the end of a clause -/
theorem m_clend {M0 : Mem} {k0 : Nat} {D0' : RT} {T0 : TT} (hn : n ≤ 500) (h7 : ∀ D' T' k1, cl1 B n D0' T0 k0 = .inr ((D', T'), k1) → 0 ≤ D' 4 7 ∧ D' 4 7 ≤ 1000) (hp : MP B n M0 (cl1 B n D0' T0 k0) M) (hq : ∀ M', MP B n M0 (cl2 B n D0' T0 k0) M' → Q (vi 0) M') : At (d + 3) kMo_clause 154 [vr 10 0] [] M Q X := by
  rw [bMo_clause_154]
  obtain ⟨f0, hp⟩ := hp
  cases hcl : cl1 B n D0' T0 k0 with
  | inl e =>
    rw [hcl] at hp
    rw [if_pos (by rw [hp.2.2.2.1]; exact hp.1), bMo_clause_160]
    refine hq _ ⟨f0.sI (by omega), ?_⟩
    unfold cl2; rw [hcl]; exact ⟨hp.1, hp.2.j (by omega)⟩
  | inr x =>
    obtain ⟨⟨D', T'⟩, k1⟩ := x
    rw [hcl] at hp
    have hp : MK B n D' T' M k1 := hp
    have hk := hp.1.2.2.1
    have hb := blk_le (B := B) hk
    have b7 := h7 _ _ _ hcl
    rw [if_neg (by rw [hp.1.2.2.2.1]; omega), bMo_clause_157, m_sign hp.1.1 hp.1.2.1 (by omega)]
    by_cases hs : byt B n (blk B n k1) = 59
    · have hlt := byt_ne (B := B) (n := n) (k := blk B n k1) (by omega)
      rw [if_pos hs, KU_eq, bMo_clause_160, sI_ne (by omega), hp.2.2.1.1.2.2.2.2.2.2, w32_id (by omega)]
      refine hq _ ⟨(f0.sI (by omega)).sI (by omega), ?_⟩
      unfold cl2; rw [hcl]; simp only []; rw [if_pos hs]
      exact (hp.at hlt).fld (by omega)
    · rw [if_neg hs, KU_eq, bMo_clause_160]
      refine hq _ ⟨?_, ?_⟩
      · unfold wrs; split
        · exact (((f0.sI (by omega)).sI (by omega)).sI (by omega)).sI (by omega)
        · exact (f0.sI (by omega)).sI (by omega)
      · unfold cl2; rw [hcl]; simp only []; rw [if_neg hs]
        exact ⟨Int.one_ne_zero, MF.j (hp.at hb.2).bad (by omega)⟩
end
