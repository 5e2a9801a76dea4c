/-! LAYER 3, A RACE IS TOLD, IMAGES: the class -/
theorem WR.cg {R R' : RT} (h : WR R) (he : ∀ t j : Nat, inRa t j → ¬ (t = 4 ∧ j = 0) → R' t j = R t j) : WR R' := by
  obtain ⟨h1, h2, h3, h4, h5, h6, h7, h8, h9, h10, h11, h12, h13, h14, h15, h16⟩ := h
  have e1 := he 4 1 (by omega) (by omega)
  have e2 := he 4 2 (by omega) (by omega)
  have e3 := he 4 3 (by omega) (by omega)
  have e4 := he 4 4 (by omega) (by omega)
  have e5 := he 4 5 (by omega) (by omega)
  have e6 := he 4 6 (by omega) (by omega)
  refine ⟨by rw [e1]; exact h1, by rw [e2]; exact h2, by rw [e3]; exact h3, by rw [e4]; exact h4, by rw [e5]; exact h5, by rw [e6]; exact h6, ?_, ?_, ?_, ?_, ?_, ?_, ?_, ?_, ?_, by rw [e5, e6]; exact h16⟩
  · intro s hs; rw [he 33 s (by omega) (by omega)]; exact h7 s hs
  · intro s hs; rw [he 33 s (by omega) (by omega), e1]; exact h8 s hs
  · intro s hs; rw [he 34 s (by omega) (by omega)]; exact h9 s hs
  · intro s hs; rw [he 34 s (by omega) (by omega), e1]; exact h10 s hs
  · intro k hk; rw [he 35 k (by omega) (by omega)]; exact h11 k hk
  · intro k hk; rw [he 36 k (by omega) (by omega)]; exact h12 k hk
  · intro k hk; rw [he 38 k (by omega) (by omega)]; exact h13 k hk
  · intro s hs; rw [he 37 s (by omega) (by omega)]; exact h14 s hs
  · intro s hs; rw [he 35 _ (by omega) (by omega), he 35 _ (by omega) (by omega)]; exact h15 s hs
theorem RDd.cg {D : RT} {T : TT} {R R' : RT} (h : RDd D T R) (he : ∀ t j : Nat, inRa t j → ¬ (t = 4 ∧ j = 0) → R' t j = R t j) : RDd D T R' := by
  obtain ⟨h1, h2, h3, h4⟩ := h
  have eb : bgn R' = bgn R := by
    unfold bgn bgo
    rw [he 4 1 (by omega) (by omega), he 33 0 (by omega) (by omega), he 33 1 (by omega) (by omega), he 33 2 (by omega) (by omega)]
  refine ⟨h1.cg he, ?_, ?_, ?_⟩
  · intro t j htj; rw [he t j (by omega) (by omega)]; exact h2 t j htj
  · intro w o k a b c e f; rw [he 38 _ (by omega) (by omega)]; exact h3 w o k a b c e f
  · intro s hs; rw [he 37 s (by omega) (by omega), eb]; exact h4 s hs
section
variable {d : Nat} {Q : AV → Mem → Prop} {X : Nat → Mem → Prop}
abbrev pDc (i : Nat) (t i' j : Nat) : Prop := i' = i ∧ (inRa t j ∨ (t = 27 ∧ j < 75) ∨ (t = 28 ∧ j < 9) ∨ (t = 2 ∧ j = 3))
theorem c_deCopy {M : Mem} {i k : Nat} (hik : i ≠ k) (hz : Zo M i) (hq : ∀ M', Fs (pDc i) M M' → rd M' i = nm (rd M k) → Zo M' i → (∀ j : Nat, j < 75 → M'.1 27 i j = M.1 27 k j) → (∀ j : Nat, j < 9 → M'.1 28 i j = M.1 28 k j) → M'.1 2 i 3 = M.1 2 k 3 → Q (vi 0) M') : Call (d + 2) qDe_copyFrom [vr 2 i, vr 2 k] M Q X := by
  rw [eDe_copyFrom, bDe_copyFrom_0]
  refine c_copyFrom hik hz ?_
  intro M1 f1 r1 z1
  rw [KU_eq, bDe_copyFrom_5 (by omega)]
  have g : ∀ t i' j, (t = 27 ∨ t = 28 ∨ t = 2) → M1.1 t i' j = M.1 t i' j := fun t i' j h => f1.g1 t i' j (fun z => by have := z.2; omega)
  have key : ∀ M', Fs (fun t i' j => i' = i ∧ ((t = 27 ∧ j < 75) ∨ (t = 28 ∧ j < 9) ∨ (t = 2 ∧ j = 3))) M1 M' → (∀ j : Nat, j < 75 → M'.1 27 i j = M1.1 27 k j) → (∀ j : Nat, j < 9 → M'.1 28 i j = M1.1 28 k j) → M'.1 2 i 3 = M1.1 2 k 3 → Q (vi 0) M' := by
    intro M' f' a b c
    refine hq M' ((f1.mono (fun t i' j z => ⟨z.1, Or.inl z.2⟩)).tr (f'.mono (fun t i' j z => ⟨z.1, Or.inr z.2⟩))) ?_ (z1.fs f' (fun t j ht hr z => by omega)) (fun j hj => by rw [a j hj, g _ _ _ (by omega)]) (fun j hj => by rw [b j hj, g _ _ _ (by omega)]) (by rw [c, g _ _ _ (by omega)])
    rw [← r1]
    exact rd_fs f' (fun t j ht z => by omega)
  have hik' : ¬ k = i := fun z => hik z.symm
  refine key _ ?_ ?_ ?_ ?_
  · refine Fs.sI (Fs.cpI (Fs.cpI Fs.rf ?_) ?_) ?_
    · intro j h1 h2; exact ⟨rfl, Or.inl ⟨rfl, by omega⟩⟩
    · intro j h1 h2; exact ⟨rfl, Or.inr (Or.inl ⟨rfl, by omega⟩)⟩
    · exact ⟨rfl, Or.inr (Or.inr ⟨rfl, rfl⟩)⟩
  · intro j hj; simp [cpI1, sI1, hik, hik', hj]
  · intro j hj; simp [cpI1, sI1, hik, hik', hj]
  · simp [cpI1, sI1, hik, hik']
theorem c_image {M : Mem} {m : Nat} (hm : M.1 9 0 4 = (m : Int)) (hm3 : m ≤ 3) (hz : m < 3 → Zo M (m + 1)) (hq1 : m = 3 → Q (vi (-1)) M)
    (hq : m < 3 → ∀ M', Fs (fun t i j => pDc (m + 1) t i j ∨ (t = 9 ∧ i = 0 ∧ j = 4)) M M' → rd M' (m + 1) = nm (rd M 0) → Zo M' (m + 1) → (∀ j : Nat, j < 75 → M'.1 27 (m + 1) j = M.1 27 0 j) → (∀ j : Nat, j < 9 → M'.1 28 (m + 1) j = M.1 28 0 j) → M'.1 2 (m + 1) 3 = M.1 2 0 3 → M'.1 9 0 4 = (m : Int) + 1 → Q (vi ((m : Int) + 1)) M') : Call (d + 3) qPR_image [vr 9 0] M Q X := by
  rw [ePR_image, bPR_image_0, hm, if_neg (by omega), bPR_image_3, hm]
  rcases (by omega : m = 3 ∨ m < 3) with h3 | h3
  · rw [if_neg (by omega), bPR_image_7]; exact hq1 h3
  · rw [if_pos (by omega), bPR_image_9 (by omega), bPR_image_19, hm, Int.toNat_natCast]
    refine c_deCopy (by omega) (hz h3) ?_
    intro M1 f1 a1 a2 a3 a4 a5
    have e4 : M1.1 9 0 4 = (m : Int) := (f1.g1 9 0 4 (fun z => by have := z.1; omega)).trans hm
    have fr : Fs (fun t i j => t = 9 ∧ i = 0 ∧ j = 4) M1 (sI M1 9 0 4 ((m : Int) + 1)) := Fs.rf.sI ⟨rfl, rfl, rfl⟩
    rw [KU_eq, bPR_image_23, sI_eq, e4, w32_id (by omega)]
    refine hq h3 _ ((f1.mono (fun t i j z => Or.inl z)).tr (fr.mono (fun t i j z => Or.inr z))) ?_ (a2.fs fr (fun t j ht _ z => by omega)) ?_ ?_ ?_ sI_eq
    · rw [← a1]; exact rd_fs fr (fun t j ht z => by omega)
    · intro j hj; rw [sI_ne (by omega)]; exact a3 j hj
    · intro j hj; rw [sI_ne (by omega)]; exact a4 j hj
    · rw [sI_ne (by omega)]; exact a5
theorem c_restore {M : Mem} {m : Nat} (hm : M.1 9 0 4 = (m : Int)) (hm3 : m ≤ 3) (hz : Zo M 0) (hq1 : m = 0 → Q (vi (-1)) M)
    (hq : 1 ≤ m → ∀ M', Fs (fun t i j => pDc 0 t i j ∨ (t = 9 ∧ i = 0 ∧ (j = 4 ∨ j = 7))) M M' → rd M' 0 = nm (rd M m) → Zo M' 0 → (∀ j : Nat, j < 75 → M'.1 27 0 j = M.1 27 m j) → (∀ j : Nat, j < 9 → M'.1 28 0 j = M.1 28 m j) → M'.1 2 0 3 = M.1 2 m 3 → M'.1 9 0 4 = (m : Int) - 1 → M'.1 9 0 7 = 0 → Q (vi ((m : Int) - 1)) M') : Call (d + 3) qPR_restore [vr 9 0] M Q X := by
  rw [ePR_restore, bPR_restore_0, hm]
  rcases (by omega : m = 0 ∨ 1 ≤ m) with h3 | h3
  · rw [if_pos (by omega), bPR_restore_7]; exact hq1 h3
  · have e1 : w32 ((m : Int) - 1) = (m : Int) - 1 := w32_id (by omega)
    rw [if_neg (by omega), bPR_restore_3, hm, if_pos (by omega), bPR_restore_9 (by rw [hm, e1]; omega), bPR_restore_21, hm, e1, show ((m : Int) - 1).toNat + 1 = m by omega]
    have fr0 : Fs (fun t i j => t = 9 ∧ i = 0 ∧ (j = 4 ∨ j = 7)) M (sI M 9 0 4 ((m : Int) - 1)) := Fs.rf.sI ⟨rfl, rfl, Or.inl rfl⟩
    refine c_deCopy (by omega) (hz.fs fr0 (fun t j ht _ z => by omega)) ?_
    intro M1 f1 a1 a2 a3 a4 a5
    have fr : Fs (fun t i j => t = 9 ∧ i = 0 ∧ (j = 4 ∨ j = 7)) M1 (sI M1 9 0 7 0) := Fs.rf.sI ⟨rfl, rfl, Or.inr rfl⟩
    have e4 : M1.1 9 0 4 = (m : Int) - 1 := (f1.g1 9 0 4 (fun z => by have := z.2; omega)).trans sI_eq
    rw [KU_eq, bPR_restore_31 (by omega), sI_ne (by omega), e4]
    have ra : rd (sI M 9 0 4 ((m : Int) - 1)) m = rd M m := rd_fs fr0 (fun t j ht z => by omega)
    refine hq h3 _ (((fr0.mono (fun t i j z => Or.inr z)).tr (f1.mono (fun t i j z => Or.inl z))).tr (fr.mono (fun t i j z => Or.inr z))) ?_ (a2.fs fr (fun t j ht _ z => by omega)) ?_ ?_ ?_ ?_ sI_eq
    · rw [← ra, ← a1]; exact rd_fs fr (fun t j ht z => by omega)
    · intro j hj; rw [sI_ne (by omega), a3 j hj, sI_ne (by omega)]
    · intro j hj; rw [sI_ne (by omega), a4 j hj, sI_ne (by omega)]
    · rw [sI_ne (by omega), a5, sI_ne (by omega)]
    · rw [sI_ne (by omega)]; exact e4
/-- what the class's race may change -/
abbrev pRz (t i j : Nat) : Prop := t = 5 ∨ ((t = 4 ∨ 33 ≤ t ∧ t ≤ 38) ∧ i = 4) ∨ (i = 0 ∧ inRa t j) ∨ t = 6 ∨ t = 40 ∨ t = 41 ∨ (t = 27 ∧ i = 0) ∨ (t = 9 ∧ (j = 1 ∨ j = 7))
def RdS (M : Mem) : Prop := (M.1 5 0 6 = 0 ∨ M.1 5 0 6 = 1) ∧ ∀ j : Nat, j < 175 → M.1 38 4 j = 0 ∨ M.1 38 4 j = 1
theorem re_rz {t i j : Nat} (h : pRe t i j) : pRz t i j ∧ ¬ ((t = 4 ∨ 33 ≤ t ∧ t ≤ 38) ∧ i ≠ 4) ∧ t ≠ 9 ∧ t ≠ 27 := by
  unfold pRe at h; unfold pRz
  rcases h with h | h | h | h
  · exact ⟨Or.inl h.1, by omega⟩
  · exact ⟨Or.inr (Or.inl (by omega)), by omega⟩
  · exact ⟨Or.inr (Or.inl (by omega)), by omega⟩
  · refine ⟨?_, by omega⟩
    rcases h.1 with h | h | h
    · exact Or.inr (Or.inr (Or.inr (Or.inl h)))
    · exact Or.inr (Or.inr (Or.inr (Or.inr (Or.inl h))))
    · exact Or.inr (Or.inr (Or.inr (Or.inr (Or.inr (Or.inl h)))))
def tRa (f x : Int) : Int := if 0 ≤ x ∧ x ≤ f then 0 else 1
theorem c_race {M : Mem} {x : Int} (hf : M.1 5 0 2 ≤ 500) (hS : RdS M) (hz : Zo M 0) (hst : 0 ≤ M.1 9 0 1 ∧ M.1 9 0 1 ≤ 100000) (hx : tRa (M.1 5 0 2) x = 1 → X 2 M)
    (hq1 : ∀ (n : Nat) e M', x = (n : Int) → tRa (M.1 5 0 2) x = 0 → txt (fun j => M.1 39 0 j) n = .inl e → Fs pRe M M' → M'.1 5 0 2 = 0 → RdS M' → M'.1 5 0 1 = e.2 → Q (vi (w32 (e.1 - 10))) M')
    (hq2 : ∀ (n : Nat) D T M', x = (n : Int) → tRa (M.1 5 0 2) x = 0 → txt (fun j => M.1 39 0 j) n = .inr (D, T) → Fs pRz M M' → M'.1 5 0 2 = 0 → RdS M' → M'.1 5 0 1 = -1 → RDd D T (rd M' 0) → rd M' 0 4 0 = M.1 9 0 1 + 1 → M'.1 9 0 1 = M.1 9 0 1 + 1 → Zo M' 0 → (∀ j : Nat, j < 75 → M'.1 27 0 j = 0) → M'.1 9 0 7 = 0 → Q (vi (D 4 1)) M') : Call (d + 57) qPR_race [vr 9 0, vi x] M Q X := by
  unfold tRa at hx hq1 hq2
  rw [ePR_race, bPR_race_0]
  by_cases h0 : 0 ≤ x ∧ x ≤ M.1 5 0 2
  · rw [if_pos h0] at hq1 hq2
    rw [if_neg (by omega), bPR_race_2, if_pos h0.2, bPR_race_12]
    obtain ⟨n, rfl⟩ : ∃ n : Nat, x = (n : Int) := ⟨x.toNat, by omega⟩
    refine c_read (d := d) (B := fun j => M.1 39 0 j) (by omega) (fun j _ => rfl) hS.1 hS.2 ?_ ?_
    · intro e M1 ht f1 a2 a6 a38 he a1
      rw [KV_eq, bPR_race_16, if_neg he, bPR_race_19]
      exact hq1 n e M1 rfl rfl ht f1 a2 ⟨a6, a38⟩ a1
    · intro D T M1 ht f1 a2 a6 a38 a1 hr
      have e9 : M1.1 9 0 1 = M.1 9 0 1 := f1.g1 9 0 1 (fun z => (re_rz z).2.2.1 rfl)
      rw [KV_eq, bPR_race_16, if_pos rfl, bPR_race_23, e9, w32_id (by omega), sI_eq]
      generalize hM2 : sI (sI M1 9 0 1 (M.1 9 0 1 + 1)) 4 4 0 (M.1 9 0 1 + 1) = M2
      have f12 : Fs (fun t i j => (t = 9 ∧ i = 0 ∧ j = 1) ∨ (t = 4 ∧ i = 4 ∧ j = 0)) M1 M2 := by rw [← hM2]; exact (Fs.rf.sI (Or.inl ⟨rfl, rfl, rfl⟩)).sI (Or.inr ⟨rfl, rfl, rfl⟩)
      have z1 : Zo M2 0 := (hz.fs f1 (fun t j ht _ z => (re_rz z).2.1 ⟨ht, by omega⟩)).fs f12 (fun t j ht _ z => by omega)
      refine c_copyFrom (by omega) z1 ?_
      intro M3 f3 r3 z3
      rw [KU_eq, bPR_race_42]
      refine c_clearRules ?_
      intro M4 f4 u4
      rw [KU_eq, bPR_race_45 (by omega)]
      have fr : Fs (fun t i j => t = 9 ∧ i = 0 ∧ j = 7) M4 (sI M4 9 0 7 0) := Fs.rf.sI ⟨rfl, rfl, rfl⟩
      have r5 : rd (sI M4 9 0 7 0) 0 = nm (rd M2 4) := by
        rw [rd_fs fr (fun t j ht z => by omega), rd_fs f4 (fun t j ht z => by omega)]; exact r3
      have e24 : ∀ t j : Nat, inRa t j → ¬ (t = 4 ∧ j = 0) → nm (rd M2 4) t j = rd M1 4 t j := by
        intro t j hr hn
        rw [nm_in hr]
        unfold rd
        rw [if_pos (by omega), if_pos (by omega)]
        exact f12.g1 t 4 j (by omega)
      have hr5 : RDd D T (rd (sI M4 9 0 7 0) 0) := by rw [r5]; exact hr.cg e24
      have e41 : (sI M4 9 0 7 0).1 4 0 1 = D 4 1 := by
        have := hr5.2.1 4 1 (by omega)
        rw [← this]; rfl
      have g3 : ∀ t i j, t = 5 ∨ t = 9 ∨ (i = 4) → M3.1 t i j = M2.1 t i j := fun t i j h => f3.g1 t i j (fun z => by have := z.1; have := z.2; omega)
      have g4 : ∀ t i j, t = 5 ∨ t = 9 ∨ t = 38 → M4.1 t i j = M3.1 t i j := fun t i j h => f4.g1 t i j (by omega)
      rw [e41]
      refine hq2 n D T _ rfl rfl ht ?_ ?_ ⟨?_, ?_⟩ ?_ hr5 ?_ ?_ ?_ ?_ sI_eq
      · refine ((((f1.mono (fun t i j z => (re_rz z).1)).tr (f12.mono (fun t i j z => ?_))).tr (f3.mono (fun t i j z => Or.inr (Or.inr (Or.inl z))))).tr (f4.mono (fun t i j z => ?_))).tr (fr.mono (fun t i j z => ?_))
        · rcases z with z | z
          · exact Or.inr (Or.inr (Or.inr (Or.inr (Or.inr (Or.inr (Or.inr ⟨z.1, Or.inl z.2.2⟩))))))
          · exact Or.inr (Or.inl ⟨Or.inl z.1, z.2.1⟩)
        · exact Or.inr (Or.inr (Or.inr (Or.inr (Or.inr (Or.inr (Or.inl ⟨z.1, z.2.1⟩))))))
        · exact Or.inr (Or.inr (Or.inr (Or.inr (Or.inr (Or.inr (Or.inr ⟨z.1, Or.inr z.2.2⟩))))))
      · rw [sI_ne (by omega), g4 _ _ _ (by omega), g3 _ _ _ (by omega), f12.g1 5 0 2 (by omega)]; exact a2
      · rw [sI_ne (by omega), g4 _ _ _ (by omega), g3 _ _ _ (by omega), f12.g1 5 0 6 (by omega)]; exact a6
      · intro j hj
        rw [sI_ne (by omega), g4 _ _ _ (by omega), g3 _ _ _ (by omega), f12.g1 38 4 j (by omega)]; exact a38 j hj
      · rw [sI_ne (by omega), g4 _ _ _ (by omega), g3 _ _ _ (by omega), f12.g1 5 0 1 (by omega)]; exact a1
      · rw [r5, nm_in (by omega)]
        show M2.1 4 4 0 = _
        rw [← hM2, sI_eq]
      · rw [sI_ne (by omega), g4 _ _ _ (by omega), g3 _ _ _ (by omega), ← hM2, sI_ne (by omega), sI_eq]
      · exact (z3.fs f4 (fun t j ht _ z => by omega)).fs fr (fun t j ht _ z => by omega)
      · intro j hj; rw [sI_ne (by omega)]; exact u4 j hj
  · rw [if_neg h0] at hx
    by_cases h1 : x < 0
    · rw [if_pos h1, bPR_race_7]; exact hx rfl
    · rw [if_neg h1, bPR_race_2, if_neg (by omega), bPR_race_7]; exact hx rfl
end
