/-! LAYER 4, THE LAW: an image put back, by any text that it tells -/
section
variable {d : Nat} {Q : AV → Mem → Prop} {X : Nat → Mem → Prop}
theorem m_restoreB {M : Mem} {m : Nat} {R : RT} {T : TT} {B : BT} (hm : M.1 10 0 55 = (m : Int)) (hm3 : m ≤ 3) (hq1 : m = 0 → Q (vi (-1)) (sI M 10 0 0 0))
    (hk : 1 ≤ m → M.1 97 0 (m - 1) = -1 ∨ ∃ n : Nat, n ≤ 500 ∧ M.1 97 0 (m - 1) = (n : Int))
    (hq2 : 1 ≤ m → ∀ M', Fs pRr M M' → M'.1 10 0 0 = 0 → M'.1 10 0 55 = (m : Int) - 1 → (∀ i x : Nat, i < 15 → x < 6 → M'.1 87 i x = M.1 101 ((m - 1) * 15 + i) x) → (∀ j : Nat, j < 9 → M'.1 92 0 j = M.1 96 (m - 1) j) → M'.1 10 0 54 = M.1 96 (m - 1) 9 →
      (M.1 97 0 (m - 1) = -1 → M'.1 10 0 20 = 0 ∧ (∀ j : Nat, 12 ≤ j → j ≤ 17 → M'.1 10 0 j = 0) ∧ M'.1 10 0 11 = M.1 10 0 11) → (∀ n : Nat, M.1 97 0 (m - 1) = (n : Int) → CM R B n T M') → Q (vi ((m : Int) - 1)) M')
    (htx : ∀ n : Nat, 1 ≤ m → M.1 97 0 (m - 1) = (n : Int) → TX R B n T) (hBt : ∀ n j : Nat, 1 ≤ m → M.1 97 0 (m - 1) = (n : Int) → j < n → M.1 94 (m - 1) j = B j) : Call (d + 58) qMo_restore [vr 10 0] M Q X := by
  have e55 : (sI M 10 0 0 0).1 10 0 55 = (m : Int) := by rw [sI_ne (by omega)]; exact hm
  rw [eMo_restore, bMo_restore_0, e55]
  rcases (by omega : m = 0 ∨ 1 ≤ m) with h3 | h3
  · rw [if_neg (by omega), bMo_restore_6]; exact hq1 h3
  · have hk := hk h3
    have hq2 := hq2 h3
    have htx := fun n => htx n h3
    have hBt := fun n j => hBt n j h3
    rw [if_pos (by omega), bMo_restore_8, e55, w32_id (by omega)]
    obtain ⟨p, rfl⟩ : ∃ p : Nat, m = p + 1 := ⟨m - 1, by omega⟩
    rw [show p + 1 - 1 = p by omega] at hk hq2 htx hBt
    rw [show ((p + 1 : Nat) : Int) - 1 = (p : Int) by omega] at hq2 ⊢
    generalize hM0 : sI (sI M 10 0 0 0) 10 0 55 (p : Int) = M0
    have g0 : ∀ t i j, ¬ (t = 10 ∧ (j = 0 ∨ j = 55)) → M0.1 t i j = M.1 t i j := fun t i j h => by rw [← hM0, sI_ne (by omega), sI_ne (by omega)]
    have p0 : M0.1 10 0 55 = (p : Int) := by rw [← hM0, sI_eq]
    have y0 : M0.1 10 0 0 = 0 := by rw [← hM0, sI_ne (by omega), sI_eq]
    have f0 : Fs pRr M M0 := by rw [← hM0]; exact (Fs.rf.sI (by omega)).sI (by omega)
    refine m_rs1 p0 (by omega) ?_
    intro M1 f1 a1 z1 z2 z3
    have g1 : ∀ t i j, t ≠ 87 → M1.1 t i j = M0.1 t i j := fun t i j h => f1.g1 t i j (by omega)
    refine m_rs2 (m := p) (by rw [g1 _ _ _ (by omega)]; exact p0) (by omega) ?_
    intro M2 f2 a2 b2 z1 z2 z3
    have g2 : ∀ t i j, ¬ (t = 92 ∨ (t = 10 ∧ j = 54)) → M2.1 t i j = M1.1 t i j := fun t i j h => f2.g1 t i j h
    have e97 : M1.1 97 0 p = M.1 97 0 p := by rw [g1 _ _ _ (by omega), g0 _ _ _ (by omega)]
    have f02 : Fs pRr M M2 := (f0.tr (f1.mono (fun t i j z => Or.inr (Or.inr (Or.inl z))))).tr (f2.mono (fun t i j z => by omega))
    rw [e97]
    -- what stands in M2
    have r2 : ∀ i x : Nat, i < 15 → x < 6 → M2.1 87 i x = M.1 101 (p * 15 + i) x := fun i x hi hx => by rw [g2 _ _ _ (by omega), a1 i x hi hx, g0 _ _ _ (by omega)]
    have o2 : ∀ j : Nat, j < 9 → M2.1 92 0 j = M.1 96 p j := fun j hj => by rw [a2 j hj, g1 _ _ _ (by omega), g0 _ _ _ (by omega)]
    have n2 : M2.1 10 0 54 = M.1 96 p 9 := by rw [b2, g1 _ _ _ (by omega), g0 _ _ _ (by omega)]
    have p2 : M2.1 10 0 55 = (p : Int) := by rw [g2 _ _ _ (by omega), g1 _ _ _ (by omega)]; exact p0
    have y2 : M2.1 10 0 0 = 0 := by rw [g2 _ _ _ (by omega), g1 _ _ _ (by omega)]; exact y0
    have t2 : M2.1 10 0 11 = M.1 10 0 11 := by rw [g2 _ _ _ (by omega), g1 _ _ _ (by omega), g0 _ _ _ (by omega)]
    have k2 : M2.1 97 0 p = M.1 97 0 p := by rw [g2 _ _ _ (by omega), g1 _ _ _ (by omega), g0 _ _ _ (by omega)]
    have x2 : ∀ j, M2.1 94 p j = M.1 94 p j := fun j => by rw [g2 _ _ _ (by omega), g1 _ _ _ (by omega), g0 _ _ _ (by omega)]
    clear g2 a2 b2 f2 g1 a1 f1 g0 p0 y0 f0 hM0 e97
    rcases hk with hk | ⟨n, hn5, hn⟩
    · rw [if_neg (fun z => z hk), bMo_restore_88, eMo_forgets, bMo_forgets_0 (by omega)]
      have key : ∀ M3, Fs (fun t _ j => t = 10 ∧ (12 ≤ j ∧ j ≤ 20 ∨ j = 44)) M2 M3 → M3.1 10 0 20 = 0 → (∀ j : Nat, 12 ≤ j → j ≤ 17 → M3.1 10 0 j = 0) → KU (d + 57) kMo_restore 90 [vr 10 0, z1, z2, z3] [] Q X (vi 0) M3 := by
        intro M3 f3 a b
        have g : ∀ t i j, ¬ (t = 10 ∧ (12 ≤ j ∧ j ≤ 20 ∨ j = 44)) → M3.1 t i j = M2.1 t i j := fun t i j h => f3.g1 t i j h
        rw [KU_eq, bMo_restore_90, g _ _ _ (by omega), p2]
        refine hq2 M3 (f02.tr (f3.mono (fun t i j z => by omega))) (by rw [g _ _ _ (by omega)]; exact y2) (by rw [g _ _ _ (by omega)]; exact p2) (fun i x hi hx => by rw [g _ _ _ (by omega)]; exact r2 i x hi hx) (fun j hj => by rw [g _ _ _ (by omega)]; exact o2 j hj) (by rw [g _ _ _ (by omega)]; exact n2) (fun _ => ⟨a, b, by rw [g _ _ _ (by omega)]; exact t2⟩) (fun n hn => by omega)
      refine key _ ?_ ?_ ?_
      · repeat (first | exact Fs.rf | refine Fs.sI ?_ (by omega))
      · repeat (first | exact sI_eq | rw [sI_ne (by omega)])
      · intro j j0 j1
        rcases (by omega : j = 12 ∨ j = 13 ∨ j = 14 ∨ j = 15 ∨ j = 16 ∨ j = 17) with rfl | rfl | rfl | rfl | rfl | rfl
        all_goals (repeat (first | exact sI_eq | rw [sI_ne (by omega)]))
    · rw [if_pos (by omega)]
      refine m_rs3 (m := p) (n := n) p2 (by omega) (by rw [k2]; exact hn) hn5 ?_
      intro M3 f3 a3 b3 z1 z2 z3
      have g3 : ∀ t i j, ¬ (t = 55 ∨ (t = 10 ∧ j = 11)) → M3.1 t i j = M2.1 t i j := fun t i j h => f3.g1 t i j h
      have hx := htx n hn
      have tx3 : ∀ j : Nat, j < n → M3.1 55 0 j = B j := fun j hj => by rw [a3 j hj, x2]; exact hBt n j hn hj
      rw [bMo_restore_119]
      refine Call_up (d := d + 56) (show d + 56 ≤ d + 57 by omega) (m_tellsAgain (d := d) hx b3 tx3 ?_)
      intro M4 f4 c4 s4
      have g4 : ∀ t i j, ¬ ((t = 10 ∧ 2 ≤ j ∧ j ≤ 44) ∨ (56 ≤ t ∧ t ≤ 67)) → M4.1 t i j = M3.1 t i j := fun t i j h => f4.g1 t i j (by omega)
      rw [KU_eq, bMo_restore_121, g4 _ _ _ (by omega), g3 _ _ _ (by omega), p2]
      refine hq2 M4 ((f02.tr (f3.mono (fun t i j z => by omega))).tr (f4.mono (fun t i j z => by omega))) (by rw [g4 _ _ _ (by omega), g3 _ _ _ (by omega)]; exact y2) (by rw [g4 _ _ _ (by omega), g3 _ _ _ (by omega)]; exact p2) (fun i x hi hx => by rw [g4 _ _ _ (by omega), g3 _ _ _ (by omega)]; exact r2 i x hi hx) (fun j hj => by rw [g4 _ _ _ (by omega), g3 _ _ _ (by omega)]; exact o2 j hj) (by rw [g4 _ _ _ (by omega), g3 _ _ _ (by omega)]; exact n2) (fun z => by omega) (fun n' hn' => ?_)
      have : n' = n := by omega
      subst this
      exact c4
end
