/-! LAYER 3, A STATE AS IT IS ASKED FOR -/
abbrev plP (R : RT) (g : Int) : Prop := 0 ≤ g ∧ g % 10 ≤ R 33 0 ∧ g / 10 % 10 ≤ R 33 1 ∧ g / 10 / 10 % 10 ≤ R 33 2 ∧ g / 10 / 10 / 10 = 0
abbrev stP (R : RT) (w g b : Int) : Prop := (0 ≤ w ∧ w ≤ R 4 2) ∧ plP R g ∧ (0 ≤ b ∧ b < pw (R 4 1))
def plc (g : Int) : Int := g % 10 + g / 10 % 10 * 5 + g / 10 / 10 % 10 * 25
section
variable {d : Nat} {Q : AV → Mem → Prop} {X : Nat → Mem → Prop}
theorem c_needRace {M : Mem} : Call (d + 1) qPR_needRace [vr 9 0] M Q X = if rd M 0 4 1 = 0 then X 0 M else Q (vi 0) M := by
  rw [ePR_needRace, bPR_needRace_0, rd4]
  by_cases h : rd M 0 4 1 = 0
  · rw [if_neg (fun z => z h), if_pos h, bPR_needRace_5]
  · rw [if_pos h, if_neg h, bPR_needRace_10]
theorem c_needShop {M : Mem} {s : Int} (hn : rd M 0 4 1 ≤ 3) : Call (d + 1) qPR_needShop [vr 9 0, vi s] M Q X = if 0 ≤ s ∧ s < rd M 0 4 1 then Q (vi 0) M else X 1 M := by
  rw [ePR_needShop, bPR_needShop_0, bPR_needShop_2, bPR_needShop_8, bPR_needShop_11, bPR_needShop_16, rd4]
  by_cases h : 0 ≤ s ∧ s < rd M 0 4 1
  · rw [if_neg (by omega), if_neg (by omega), if_pos (by omega), if_pos h]
  · rw [if_neg h]
    by_cases h1 : s < 0
    · rw [if_pos h1]
    · rw [if_neg h1, if_pos (by omega)]
theorem c_needState {M : Mem} {w g b : Int} (h : WR (rd M 0)) (hg : g ≤ 2147483647) : Call (d + 1) qPR_needState [vr 9 0, vi w, vi g, vi b] M Q X = if stP (rd M 0) w g b then Q (vi 0) M else X 2 M := by
  have hb := h.b
  have bad : ∀ (x6 k : Int) (z0 z1 z2 z3 : AV), At d kPR_needState 28 [z0, z1, z2, z3, vr 4 0, vi 0, vi x6, vi k] [] M Q X = X 2 M := by
    intro x6 k z0 z1 z2 z3
    rw [bPR_needState_28, bPR_needState_31, if_pos rfl, ite_self, bPR_needState_51, if_pos rfl, bPR_needState_55]
  have key : ∀ (k x6 : Int) (z0 z1 z2 z3 : AV), 0 ≤ k → k < 3 → 0 ≤ x6 → x6 ≤ 2147483647 → At d kPR_needState 28 [z0, z1, z2, z3, vr 4 0, vi 1, vi x6, vi k] [] M Q X = if x6 % 10 ≤ rd M 0 33 k.toNat then At d kPR_needState 28 [z0, z1, z2, z3, vr 4 0, vi 1, vi (x6 / 10), vi (k + 1)] [] M Q X else X 2 M := by
    intro k x6 z0 z1 z2 z3 k0 k3 h0 h1
    have e1 : w32 (x6.tdiv 10) = x6 / 10 := by rw [tdiv_id h0]; exact w32_id (by omega)
    have e2 : w32 (k + 1) = k + 1 := w32_id (by omega)
    rw [bPR_needState_28, if_neg (by omega), bPR_needState_31, if_neg (by omega), bPR_needState_33 (by omega), tmod_id h0, rd33]
    by_cases hc : x6 % 10 ≤ rd M 0 33 k.toNat
    · rw [if_neg (by omega), if_pos hc, bPR_needState_41, bPR_needState_44 (by omega), e1, e2]
    · rw [if_pos (by omega), if_neg hc, bPR_needState_43, bPR_needState_44 (by omega), bad]
  have fin : ∀ (x6 k : Int) (z0 z1 z2 z3 : AV), 3 ≤ k → At d kPR_needState 28 [z0, z1, z2, z3, vr 4 0, vi 1, vi x6, vi k] [] M Q X = if x6 = 0 then Q (vi 0) M else X 2 M := by
    intro x6 k z0 z1 z2 z3 hk
    rw [bPR_needState_28, if_pos hk, bPR_needState_51, if_neg (by omega), bPR_needState_53, bPR_needState_60, bPR_needState_55]
  rw [ePR_needState, bPR_needState_0, bPR_needState_6, bPR_needState_10, bPR_needState_12, bPR_needState_14, rd4, rd4, bshl_pw (by omega), bPR_needState_20, bPR_needState_22, bPR_needState_23, bPR_needState_23, bad]
  by_cases hw : 0 ≤ w ∧ w ≤ rd M 0 4 2
  · by_cases hg0 : 0 ≤ g
    · by_cases hb0 : 0 ≤ b ∧ b < pw (rd M 0 4 1)
      · rw [if_neg (by omega), if_neg (by omega), if_neg (by omega), if_neg (by omega), if_neg (by omega)]
        rw [key 0 g _ _ _ _ (by omega) (by omega) hg0 hg, key _ _ _ _ _ _ (by omega) (by omega) (by omega) (by omega), key _ _ _ _ _ _ (by omega) (by omega) (by omega) (by omega), fin _ _ _ _ _ _ (by omega)]
        simp only [Int.zero_add, Int.reduceAdd, show (0 : Int).toNat = 0 from rfl, show (1 : Int).toNat = 1 from rfl, show (2 : Int).toNat = 2 from rfl]
        unfold stP plP
        by_cases a0 : g % 10 ≤ rd M 0 33 0 <;> by_cases a1 : g / 10 % 10 ≤ rd M 0 33 1 <;> by_cases a2 : g / 10 / 10 % 10 ≤ rd M 0 33 2 <;> by_cases a3 : g / 10 / 10 / 10 = 0 <;> simp only [a0, a1, a2, a3, hw, hg0, hb0, and_true, true_and, and_false, false_and, if_true, if_false]
      · rw [if_neg (show ¬ stP (rd M 0) w g b from fun z => hb0 z.2.2), if_neg (by omega), if_neg (by omega), if_neg (by omega)]
        by_cases hb1 : b < 0
        · rw [if_pos hb1]
        · rw [if_neg hb1, if_pos (by omega)]
    · rw [if_neg (show ¬ stP (rd M 0) w g b from fun z => hg0 z.2.1.1), if_neg (by omega), if_neg (by omega), if_pos (by omega)]
  · rw [if_neg (show ¬ stP (rd M 0) w g b from fun z => hw z.1)]
    by_cases hw1 : w < 0
    · rw [if_pos hw1]
    · rw [if_neg hw1, if_pos (by omega)]
theorem plc_R {R : RT} {g : Int} (h : WR R) (hp : plP R g) : (0 ≤ plc g ∧ plc g < 125) ∧ dg (plc g) 0 = g % 10 ∧ dg (plc g) 1 = g / 10 % 10 ∧ dg (plc g) 2 = g / 10 / 10 % 10 ∧ fitsP R (plc g) := by
  have hb := h.b
  obtain ⟨h0, h1, h2, h3, h4⟩ := hp
  have e0 : 0 ≤ g % 10 := by omega
  have e1 : 0 ≤ g / 10 % 10 := by omega
  have e2 : 0 ≤ g / 10 / 10 % 10 := by omega
  unfold plc fitsP dg
  generalize g % 10 = a at *
  generalize g / 10 % 10 = b at *
  generalize g / 10 / 10 % 10 = c at *
  simp only [if_true, if_false, show ((1 : Int) = 0) = False by simp, show ((2 : Int) = 0) = False by simp, show ((2 : Int) = 1) = False by simp]
  omega
theorem c_codeOf {M : Mem} {R : RT} {g b : Int} (h : WR R) (hp : plP R g) (hb : 0 ≤ b ∧ b < 8) : Call (d + 1) qPR_codeOf [vr 9 0, vi g, vi b] M Q X = Q (vi (cdo (plc g) b)) M := by
  obtain ⟨hP, d0, d1, d2, -⟩ := plc_R h hp
  have hbb := h.b
  have key : ∀ (k c x4 : Int) (z0 z1 z6 : AV), 0 ≤ k → k < 3 → 0 ≤ x4 → x4 ≤ 2147483647 → 0 ≤ c → c ≤ 1000 → At d kPR_codeOf 6 [z0, z1, vi b, vi c, vi x4, vi k, z6] [] M Q X = if bit b k = 1 ∧ x4 % 10 = 0 then Q (vi 0) M else At d kPR_codeOf 6 [z0, z1, vi b, vi (c + if bit b k = 1 then x4 % 10 * su k else 0), vi (x4 / 10), vi (k + 1), vi (x4 % 10)] [] M Q X := by
    intro k c x4 z0 z1 z6 k0 k3 h0 h1 c0 c1
    have e1 : w32 (x4.tdiv 10) = x4 / 10 := by rw [tdiv_id h0]; exact w32_id (by omega)
    have e2 : w32 (k + 1) = k + 1 := w32_id (by omega)
    rw [bPR_codeOf_6, if_neg (by omega), bPR_codeOf_9 (by omega), band_bit hb (by omega), tmod_id h0, e1]
    by_cases h2 : bit b k = 1
    · rw [if_neg (fun z => z h2), bPR_codeOf_24]
      by_cases h3 : x4 % 10 = 0
      · rw [if_neg (fun z => z h3), if_pos ⟨h2, h3⟩, bPR_codeOf_26]
      · rw [if_pos h3, if_neg (fun z => h3 z.2), if_pos h2, bPR_codeOf_28 (by omega), ro_su (by omega), bPR_codeOf_36, e2]
        have hu : su k = 1 ∨ su k = 5 ∨ su k = 25 := su_R
        rcases hu with hu | hu | hu <;> rw [hu, w32_id (z := x4 % 10 * _) (by omega), w32_id (by omega)]
    · rw [if_pos h2, if_neg (fun z => h2 z.1), if_neg h2, bPR_codeOf_36, e2, Int.add_zero]
  have fin : ∀ (c x4 k : Int) (z0 z1 z6 : AV), 3 ≤ k → At d kPR_codeOf 6 [z0, z1, vi b, vi c, vi x4, vi k, z6] [] M Q X = Q (vi c) M := by
    intro c x4 k z0 z1 z6 hk
    rw [bPR_codeOf_6, if_pos hk, bPR_codeOf_38]
  have s0 : su 0 = 1 := rfl
  have s1 : su 1 = 5 := rfl
  have s2 : su 2 = 25 := rfl
  obtain ⟨g0, p0, p1, p2, p3⟩ := hp
  have t0 : 0 ≤ g % 10 := by omega
  have t1 : 0 ≤ g / 10 % 10 := by omega
  have t2 : 0 ≤ g / 10 / 10 % 10 := by omega
  have hgi : g ≤ 1000 := by omega
  have u0 : 0 ≤ g / 10 ∧ g / 10 ≤ 100 := by omega
  have u1 : 0 ≤ g / 10 / 10 ∧ g / 10 / 10 ≤ 100 := by omega
  rw [ePR_codeOf, bPR_codeOf_0, key 0 0 g _ _ _ (by omega) (by omega) g0 (by omega) (by omega) (by omega), s0, Int.zero_add, Int.zero_add]
  rw [key 1 _ _ _ _ _ (by omega) (by omega) u0.1 (by omega) (by split <;> omega) (by split <;> omega), s1, show (1 : Int) + 1 = 2 by omega]
  rw [key 2 _ _ _ _ _ (by omega) (by omega) u1.1 (by omega) (by repeat' (first | omega | split)) (by repeat' (first | omega | split)), s2, fin _ _ _ _ _ _ (by omega)]
  unfold cdo hfP cd lsp
  rw [d0, d1, d2]
  generalize g % 10 = x at *
  generalize g / 10 % 10 = y at *
  generalize g / 10 / 10 % 10 = z at *
  by_cases b0 : bit b 0 = 1 <;> by_cases b1 : bit b 1 = 1 <;> by_cases b2 : bit b 2 = 1 <;> by_cases z0 : x = 0 <;> by_cases z1 : y = 0 <;> by_cases z2 : z = 0 <;> simp only [b0, b1, b2, z0, z1, z2, true_and, and_true, false_and, and_false, or_true, true_or, or_false, false_or, if_true, if_false] <;> simp
theorem m_placeOf {M : Mem} {R : RT} {g : Int} (hM : MR R M) (h : WR R) (hn1 : 1 ≤ R 4 1) (hg : g ≤ 2147483647) : Call (d + 1) qMo_placeOf [vr 10 0, vi g] M Q X = Q (vi (if plP R g then plc g else -1)) M := by
  have hb := h.b
  have key : ∀ (k c x3 u : Int) (z1 z6 : AV), 0 ≤ k → k < R 4 1 → 0 ≤ x3 → x3 ≤ 2147483647 → 0 ≤ c → c ≤ 1000 → (u = 1 ∨ u = 5 ∨ u = 25) → ∃ z1', At d kMo_placeOf 8 [vr 10 0, z1, vi c, vi x3, vi u, vi k, z6] [] M Q X = if x3 % 10 ≤ R 33 k.toNat then At d kMo_placeOf 8 [vr 10 0, z1', vi (c + x3 % 10 * u), vi (x3 / 10), vi (u * 5), vi (k + 1), vi (x3 % 10)] [] M Q X else Q (vi (-1)) M := by
    intro k c x3 u z1 z6 k0 k3 h0 h1 c0 c1 hu
    refine ⟨kl z1, ?_⟩
    have e1 : w32 (x3.tdiv 10) = x3 / 10 := by rw [tdiv_id h0]; exact w32_id (by omega)
    have e2 : w32 (k + 1) = k + 1 := w32_id (by omega)
    have e3 : M.1 56 0 k.toNat = R 33 k.toNat := (hM.2.2.2.2.2.2.1 k k0 (by omega)).1
    rw [bMo_placeOf_8, if_neg (by rw [hM.1]; omega), bMo_placeOf_12 (by omega), if_neg (by omega), tmod_id h0, bMo_placeOf_18 (by omega), e3]
    by_cases hc : x3 % 10 ≤ R 33 k.toNat
    · rw [if_pos hc, if_pos hc, bMo_placeOf_26 (by omega), e1, e2]
      rcases hu with rfl | rfl | rfl <;> rw [w32_id (z := x3 % 10 * _) (by omega), w32_id (z := c + _) (by omega), w32_id (by omega)]
    · rw [if_neg hc, if_neg hc, bMo_placeOf_24]
  have fin : ∀ (c x3 u k : Int) (z1 z6 : AV), R 4 1 ≤ k → At d kMo_placeOf 8 [vr 10 0, z1, vi c, vi x3, vi u, vi k, z6] [] M Q X = Q (vi (if x3 = 0 then c else -1)) M := by
    intro c x3 u k z1 z6 hk
    rw [bMo_placeOf_8, if_pos (by rw [hM.1]; exact hk), bMo_placeOf_42, bMo_placeOf_46, bMo_placeOf_44, bMo_placeOf_47, bMo_placeOf_47]
    by_cases h0 : x3 = 0
    · rw [if_neg (fun z => z h0), if_pos h0]
    · rw [if_pos h0, if_neg h0]
  rw [eMo_placeOf, bMo_placeOf_0]
  by_cases hg0 : 0 ≤ g
  · have t0 : 0 ≤ g % 10 := by omega
    have t1 : 0 ≤ g / 10 % 10 := by omega
    have t2 : 0 ≤ g / 10 / 10 % 10 := by omega
    obtain ⟨w1, q1⟩ := key 0 0 g 1 (vi g) JK (by omega) (by omega) hg0 hg (by omega) (by omega) (by omega)
    rw [q1]
    simp only [Int.zero_add, Int.reduceMul, show (0 : Int).toNat = 0 from rfl]
    rcases (by omega : R 4 1 = 1 ∨ R 4 1 = 2 ∨ R 4 1 = 3) with e | e | e
    · rw [fin _ _ _ _ _ _ (by omega)]
      unfold plP plc
      by_cases a0 : g % 10 ≤ R 33 0
      · by_cases a1 : g / 10 = 0
        · rw [if_pos a0, if_pos a1, if_pos (by omega)]
          rw [a1, Int.mul_one, show g % 10 + 0 % 10 * 5 + 0 / 10 % 10 * 25 = g % 10 by omega]
        · rw [if_pos a0, if_neg a1, if_neg (by omega)]
      · rw [if_neg a0, if_neg (by omega)]
    · obtain ⟨w2, q2⟩ := key 1 (g % 10 * 1) (g / 10) 5 w1 (vi (g % 10)) (by omega) (by omega) (by omega) (by omega) (by omega) (by omega) (by omega)
      rw [q2, fin _ _ _ _ _ _ (by omega)]
      simp only [show (1 : Int).toNat = 1 from rfl]
      unfold plP plc
      by_cases a0 : g % 10 ≤ R 33 0
      · rw [if_pos a0]
        by_cases a2 : g / 10 % 10 ≤ R 33 1
        · rw [if_pos a2]
          by_cases a1 : g / 10 / 10 = 0
          · rw [if_pos a1, if_pos (by omega), a1, Int.mul_one]
            rw [show (0 : Int) % 10 * 25 = 0 by omega, Int.add_zero]
          · rw [if_neg a1, if_neg (by omega)]
        · rw [if_neg a2, if_neg (by omega)]
      · rw [if_neg a0, if_neg (by omega)]
    · obtain ⟨w2, q2⟩ := key 1 (g % 10 * 1) (g / 10) 5 w1 (vi (g % 10)) (by omega) (by omega) (by omega) (by omega) (by omega) (by omega) (by omega)
      rw [q2]
      simp only [Int.reduceAdd, Int.reduceMul, show (1 : Int).toNat = 1 from rfl]
      obtain ⟨w3, q3⟩ := key 2 (g % 10 * 1 + g / 10 % 10 * 5) (g / 10 / 10) 25 w2 (vi (g / 10 % 10)) (by omega) (by omega) (by omega) (by omega) (by omega) (by omega) (by omega)
      rw [q3, fin _ _ _ _ _ _ (by omega)]
      simp only [show (2 : Int).toNat = 2 from rfl]
      unfold plP plc
      by_cases a0 : g % 10 ≤ R 33 0
      · rw [if_pos a0]
        by_cases a2 : g / 10 % 10 ≤ R 33 1
        · rw [if_pos a2]
          by_cases a3 : g / 10 / 10 % 10 ≤ R 33 2
          · rw [if_pos a3]
            by_cases a1 : g / 10 / 10 / 10 = 0
            · rw [if_pos a1, if_pos ⟨hg0, a0, a2, a3, a1⟩, Int.mul_one]
            · rw [if_neg a1, if_neg (fun z => a1 z.2.2.2.2)]
          · rw [if_neg a3, if_neg (fun z => a3 z.2.2.2.1)]
        · rw [if_neg a2, if_neg (fun z => a2 z.2.2.1)]
      · rw [if_neg a0, if_neg (fun z => a0 z.2.1)]
  · rw [bMo_placeOf_8, if_neg (by rw [hM.1]; omega), bMo_placeOf_12 (by omega), if_pos (by omega), bMo_placeOf_24, if_neg (fun z => hg0 z.1)]
end
