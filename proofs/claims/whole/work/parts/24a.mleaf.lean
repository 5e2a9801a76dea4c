/-! LAYER 3, THE REFERENCE: leaves -/
theorem Call_eq {d q as M v M'} (h : ∀ (Q : AV → Mem → Prop) (X : Nat → Mem → Prop), Q v M' → Call d q as M Q X) (Q : AV → Mem → Prop) (X : Nat → Mem → Prop) : Call d q as M Q X = Q v M' := by
  refine propext ⟨fun h0 => ?_, h Q X⟩
  have h1 := h (fun a b => a = v ∧ b = M') (fun _ _ => False) ⟨rfl, rfl⟩
  obtain ⟨w, -, h2⟩ := Call_iff.mp (Call_det h0 h1)
  rcases w with ⟨a | E, M2⟩
  · obtain ⟨h3, rfl, rfl⟩ := h2; exact h3
  · exact absurd h2.2 id
/-- a loop over the shops: those that are not there change nothing -/
theorem loopN {α : Type} (n : Int) (hn : 0 ≤ n ∧ n ≤ 3) (A : Int → α → Prop) (f : Int → α → α) (hs : ∀ k a, 0 ≤ k → k < n → A (k + 1) (f k a) → A k a) (hi : ∀ k a, n ≤ k → k < 3 → f k a = a) (a : α) (h : A n (f 2 (f 1 (f 0 a)))) : A 0 a := by
  rcases (by omega : n = 0 ∨ n = 1 ∨ n = 2 ∨ n = 3) with rfl | rfl | rfl | rfl
  · rw [hi 2 _ (by omega) (by omega), hi 1 _ (by omega) (by omega), hi 0 _ (by omega) (by omega)] at h; exact h
  · rw [hi 2 _ (by omega) (by omega), hi 1 _ (by omega) (by omega)] at h
    exact hs 0 a (by omega) (by omega) h
  · rw [hi 2 _ (by omega) (by omega)] at h
    exact hs 0 a (by omega) (by omega) (hs 1 _ (by omega) (by omega) h)
  · exact hs 0 a (by omega) (by omega) (hs 1 _ (by omega) (by omega) (hs 2 _ (by omega) (by omega) h))
/-- the reference has this race -/
def MR (R : RT) (M : Mem) : Prop := M.1 10 0 20 = R 4 1 ∧ M.1 10 0 13 = R 4 2 ∧ M.1 10 0 14 = R 4 3 ∧ M.1 10 0 15 = R 4 4 ∧ M.1 10 0 16 = R 4 5 ∧ M.1 10 0 17 = R 4 6 ∧ (∀ s : Int, 0 ≤ s → s < 3 → M.1 56 0 s.toNat = stp R s ∧ M.1 57 0 s.toNat = pcs R s) ∧ (∀ s e : Int, 0 ≤ s → s < 3 → 1 ≤ e → e < 4 → M.1 59 s.toNat e.toNat = cst R s e ∧ M.1 61 s.toNat e.toNat = chc R s e)
/-- a place and who is in, as the reference tells states -/
def Sta (R : RT) (p b : Int) : Prop := (0 ≤ p ∧ p < 125) ∧ (0 ≤ b ∧ b < 8) ∧ (∀ s : Int, 0 ≤ s → s < 3 → R 4 1 ≤ s → dg p s = 0 ∧ bit b s = 0)
/-- the steps of one that is in, and the state's code -/
def lsp (p b s : Int) : Int := if bit b s = 1 then dg p s else 0
def cd (p b : Int) : Int := lsp p b 0 + lsp p b 1 * 5 + lsp p b 2 * 25
theorem lsp_R (p b s : Int) : 0 ≤ lsp p b s ∧ lsp p b s ≤ 4 := by
  have := dg_R p s
  unfold lsp; split <;> omega
theorem cd_R (p b : Int) : 0 ≤ cd p b ∧ cd p b < 125 := by
  have h0 := lsp_R p b 0
  have h1 := lsp_R p b 1
  have h2 := lsp_R p b 2
  unfold cd; omega
theorem dg_cd {p b s : Int} (hs : 0 ≤ s ∧ s < 3) : dg (cd p b) s = lsp p b s := by
  have h0 := lsp_R p b 0
  have h1 := lsp_R p b 1
  have h2 := lsp_R p b 2
  rcases (by omega : s = 0 ∨ s = 1 ∨ s = 2) with rfl | rfl | rfl
  · show cd p b % 5 = _; unfold cd; omega
  · show cd p b / 5 % 5 = _; unfold cd; omega
  · show cd p b / 25 % 5 = _; unfold cd; omega
/-- nobody that is in has it yet -/
def Gng (p b : Int) : Prop := ∀ s : Int, 0 ≤ s → s < 3 → bit b s = 1 → 0 < dg p s
theorem m_in {d : Nat} {M Q X} {x a b : Int} : Call (d + 1) qMo_in [vi x, vi a, vi b] M Q X = Q (vi (if a ≤ x ∧ x ≤ b then 1 else 0)) M := by
  simp only [bMo_in_0, bMo_in_3, bMo_in_6, bMo_in_8, bMo_in_9, eMo_in, ite_At]
  congr 2
  repeat' split
  all_goals first | rfl | omega
theorem m_stepsOf {d : Nat} {M Q X} {p s : Int} (hp : 0 ≤ p ∧ p < 125) : Call (d + 1) qMo_stepsOf [vi p, vi s] M Q X = Q (vi (dg p s)) M := by
  simp (disch := first | omega | (simp (disch := omega) only [w32_id]; omega)) only [bMo_stepsOf_0, bMo_stepsOf_2, bMo_stepsOf_6, bMo_stepsOf_9, bMo_stepsOf_15, bMo_stepsOf_18, eMo_stepsOf, w32_id, tdiv_id, tmod_id]
  unfold dg
  by_cases h0 : s = 0
  · simp [h0]
  · by_cases h1 : s = 1
    · simp [h1]
    · simp only [ne_eq, h0, h1, not_false_eq_true, if_true, if_false]
      rw [show p / 25 % 5 = p / 25 by omega]
theorem m_isIn {d : Nat} {M Q X} {b s : Int} (hb : 0 ≤ b ∧ b < 8) (hs : 0 ≤ s ∧ s < 3) : Call (d + 1) qMo_isIn [vi b, vi s] M Q X = Q (vi (bit b s)) M := by
  have := bit_R b s
  simp (disch := first | omega | (simp (disch := omega) only [w32_id]; omega)) only [bMo_isIn_0, bMo_isIn_7, bMo_isIn_9, bMo_isIn_10, eMo_isIn, band_bit]
  rcases (by omega : bit b s = 0 ∨ bit b s = 1) with h | h <;> rw [h] <;> rfl
abbrev ovP (w p b : Int) : Prop := w = 0 ∨ b = 0 ∨ (bit b 0 = 1 ∧ dg p 0 = 0) ∨ (bit b 1 = 1 ∧ dg p 1 = 0) ∨ (bit b 2 = 1 ∧ dg p 2 = 0)
theorem m_isOver {d : Nat} {M Q X} {w p b : Int} {R : RT} (hM : MR R M) (h : WR R) (hS : Sta R p b) : Call (d + 2) qMo_isOver [vr 10 0, vi w, vi p, vi b] M Q X = Q (vi (if ovP w p b then 1 else 0)) M := by
  have hb := h.b
  have n0 := hM.1
  obtain ⟨s1, s2, s3⟩ := hS
  rw [eMo_isOver, bMo_isOver_0, bMo_isOver_2, bMo_isOver_4, bMo_isOver_6]
  by_cases hw : w = 0
  · rw [if_pos hw, if_pos (Or.inl hw)]; rfl
  · rw [if_neg hw]
    by_cases hb0 : b = 0
    · rw [if_neg (by omega), if_pos (Or.inr (Or.inl hb0))]; rfl
    · rw [if_pos hb0]
      have key : ∀ k : Int, 0 ≤ k → k < R 4 1 → At (d + 1) kMo_isOver 8 [vr 10 0, vi w, vi p, vi b, vi k] [] M Q X = if bit b k = 1 ∧ dg p k = 0 then Q (vi 1) M else At (d + 1) kMo_isOver 8 [vr 10 0, vi w, vi p, vi b, vi (k + 1)] [] M Q X := by
        intro k k1 k2
        have hbk := bit_R b k
        rw [bMo_isOver_8, n0, if_neg (by omega), bMo_isOver_12, m_isIn s2 (by omega), KV_eq, bMo_isOver_15, bMo_isOver_16, m_stepsOf s1, KV_eq, bMo_isOver_19, bMo_isOver_20, bMo_isOver_22, w32_id (by omega)]
        by_cases h1 : bit b k = 1
        · by_cases h2 : dg p k = 0 <;> simp [h1, h2]
        · have : bit b k = 0 := by omega
          simp [this]
      have fin : ∀ k : Int, R 4 1 ≤ k → At (d + 1) kMo_isOver 8 [vr 10 0, vi w, vi p, vi b, vi k] [] M Q X = Q (vi 0) M := by
        intro k k1
        rw [bMo_isOver_8, n0, if_pos k1, bMo_isOver_24]; rfl
      have z : ∀ s : Int, 0 ≤ s → s < 3 → R 4 1 ≤ s → ¬ (bit b s = 1 ∧ dg p s = 0) := fun s a1 a2 a3 => by have := s3 s a1 a2 a3; omega
      rcases (by omega : R 4 1 = 0 ∨ R 4 1 = 1 ∨ R 4 1 = 2 ∨ R 4 1 = 3) with h1 | h1 | h1 | h1
      · rw [fin 0 (by omega)]
        simp [ovP, hw, hb0, z 0 (by omega) (by omega) (by omega), z 1 (by omega) (by omega) (by omega), z 2 (by omega) (by omega) (by omega)]
      · rw [key 0 (by omega) (by omega), fin _ (by omega)]
        simp only [ovP, hw, hb0, z 1 (by omega) (by omega) (by omega), z 2 (by omega) (by omega) (by omega), false_or, or_false]
        split <;> rfl
      · rw [key 0 (by omega) (by omega), show (0 : Int) + 1 = 1 from rfl, key 1 (by omega) (by omega), fin _ (by omega)]
        simp only [ovP, hw, hb0, z 2 (by omega) (by omega) (by omega), false_or, or_false]
        by_cases q0 : bit b 0 = 1 ∧ dg p 0 = 0
        · rw [if_pos q0, if_pos (Or.inl q0)]
        · rw [if_neg q0]
          by_cases q1 : bit b 1 = 1 ∧ dg p 1 = 0
          · rw [if_pos q1, if_pos (Or.inr q1)]
          · rw [if_neg q1, if_neg (by simp only [q0, q1, or_self, not_false_eq_true])]
      · rw [key 0 (by omega) (by omega), show (0 : Int) + 1 = 1 from rfl, key 1 (by omega) (by omega), show (1 : Int) + 1 = 2 from rfl, key 2 (by omega) (by omega), fin _ (by omega)]
        simp only [ovP, hw, hb0, false_or, or_false]
        by_cases q0 : bit b 0 = 1 ∧ dg p 0 = 0
        · rw [if_pos q0, if_pos (Or.inl q0)]
        · rw [if_neg q0]
          by_cases q1 : bit b 1 = 1 ∧ dg p 1 = 0
          · rw [if_pos q1, if_pos (Or.inr (Or.inl q1))]
          · rw [if_neg q1]
            by_cases q2 : bit b 2 = 1 ∧ dg p 2 = 0
            · rw [if_pos q2, if_pos (Or.inr (Or.inr q2))]
            · rw [if_neg q2, if_neg (by simp only [q0, q1, q2, or_self, not_false_eq_true])]
/-- "next" by the reference -/
def nm1 (p b s k n : Int) : Int := if k ≠ s ∧ bit b k = 1 ∧ dg p k < n then dg p k else n
def nxm (p b s : Int) : Int := nm1 p b s 2 (nm1 p b s 1 (nm1 p b s 0 9))
theorem m_nextOf {d : Nat} {M Q X} {p b s : Int} {R : RT} (hM : MR R M) (h : WR R) (hS : Sta R p b) : Call (d + 2) qMo_nextOf [vr 10 0, vi p, vi b, vi s] M Q X = Q (vi (nxm p b s)) M := by
  refine Call_eq (fun Q X hq => ?_) Q X
  have hb := h.b
  have n0 := hM.1
  obtain ⟨s1, s2, s3⟩ := hS
  rw [eMo_nextOf, bMo_nextOf_0]
  refine loopN (R 4 1) (by omega) (fun k n => At (d + 1) kMo_nextOf 4 [vr 10 0, vi p, vi b, vi s, vi n, vi k] [] M Q X) (fun k n => nm1 p b s k n) ?_ ?_ 9 ?_
  · intro k n k1 k2 hk
    have hbk := bit_R b k
    rw [bMo_nextOf_4, n0, if_neg (by omega)]
    simp (disch := first | omega | (simp (disch := omega) only [w32_id]; omega)) only [bMo_nextOf_8, bMo_nextOf_11, bMo_nextOf_14, bMo_nextOf_15, bMo_nextOf_18, bMo_nextOf_20, bMo_nextOf_23, bMo_nextOf_24, m_isIn, m_stepsOf, KV_eq, w32_id]
    unfold nm1 at hk
    by_cases h1 : k = s
    · rw [if_pos h1]; rw [if_neg (by omega)] at hk; exact hk
    · rw [if_neg h1]
      by_cases h2 : bit b k = 0
      · rw [if_pos h2]; rw [if_neg (by omega)] at hk; exact hk
      · rw [if_neg h2]
        by_cases h3 : n ≤ dg p k
        · rw [if_pos h3]; rw [if_neg (by omega)] at hk; exact hk
        · rw [if_neg h3]; rw [if_pos ⟨h1, by omega, by omega⟩] at hk; exact hk
  · intro k n k1 k2
    have hz := s3 k (by omega) k2 k1
    unfold nm1; rw [if_neg (by omega)]
  · rw [bMo_nextOf_4, n0, if_pos (by omega), bMo_nextOf_26]
    exact hq
theorem nxm_eq {p b s : Int} (hg : Gng p b) : nxm p b s = nxt (cd p b) s := by
  have e : ∀ k n : Int, 0 ≤ k → k < 3 → nm1 p b s k n = nx1 (cd p b) s k n := by
    intro k n k1 k2
    have hb := bit_R b k
    unfold nm1 nx1
    rw [dg_cd ⟨k1, k2⟩]
    unfold lsp
    by_cases h1 : bit b k = 1
    · have := hg k k1 k2 h1
      rw [if_pos h1]
      by_cases h2 : k ≠ s ∧ dg p k < n
      · rw [if_pos ⟨h2.1, h1, h2.2⟩, if_pos ⟨h2.1, this, h2.2⟩]
      · rw [if_neg (fun z => h2 ⟨z.1, z.2.2⟩), if_neg (fun z => h2 ⟨z.1, z.2.2⟩)]
    · rw [if_neg (fun z => h1 z.2.1), if_neg (fun z => by rw [if_neg h1] at z; omega)]
  unfold nxm nxt
  rw [e 0 9 (by omega) (by omega), e 1 _ (by omega) (by omega), e 2 _ (by omega) (by omega)]
theorem m_costOf {d : Nat} {M Q X} {s e : Int} {R : RT} (hM : MR R M) (h : WR R) (hs : 0 ≤ s ∧ s < 3) (he : 0 ≤ e ∧ e < 5) : Call (d + 2) qMo_costOf [vr 10 0, vi s, vi e] M Q X = Q (vi (cst R s e)) M := by
  rw [eMo_costOf, bMo_costOf_0, m_in, KV_eq, bMo_costOf_4]
  by_cases hr : 1 ≤ e ∧ e ≤ 3
  · rw [if_pos hr, if_neg (by omega), bMo_costOf_5 (by omega), bMo_costOf_13, show 0 * 3 + s.toNat = s.toNat by omega, (hM.2.2.2.2.2.2.2 s e hs.1 hs.2 (by omega) (by omega)).1]
  · rw [if_neg hr, if_pos rfl, bMo_costOf_12, bMo_costOf_13]
    have hz := h.2.2.2.2.2.2.2.2.2.2.2.2.2.2.1 s.toNat (by omega)
    have e0 : cst R s e = 0 := by
      unfold cst
      rcases (by omega : e = 0 ∨ e = 4) with rfl | rfl
      · rw [show (s * 5 + 0).toNat = s.toNat * 5 by omega]; exact hz.1
      · rw [show (s * 5 + 4).toNat = s.toNat * 5 + 4 by omega]; exact hz.2
    rw [e0]
