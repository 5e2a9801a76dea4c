/-! LAYER 3, THE REFERENCE: weights and shares -/
def wf (n m k c : Int) : Int64 := if k < n then Int64.ofInt (if bit m k = 1 then c else 4 - c) else 1
def wgt (n m c0 c1 c2 : Int) : Int64 := 1 * wf n m 0 c0 * wf n m 1 c1 * wf n m 2 c2
theorem m_weight {d : Nat} {M Q X} {m : Int} {R : RT} (hM : MR R M) (h : WR R) (hm : 0 ≤ m ∧ m < 8) (hc : ∀ s : Int, 0 ≤ s → s < R 4 1 → 0 ≤ M.1 112 0 s.toNat ∧ M.1 112 0 s.toNat ≤ 4) : Call (d + 1) qMo_weight [vr 10 0, vi m] M Q X = Q (vl (wgt (R 4 1) m (M.1 112 0 0) (M.1 112 0 1) (M.1 112 0 2))) M := by
  refine Call_eq (fun Q X hq => ?_) Q X
  have hb := h.b
  have n0 := hM.1
  rw [eMo_weight, bMo_weight_0]
  refine loopN (α := Int64) (R 4 1) (by omega) (fun k y => At d kMo_weight 4 [vr 10 0, vi m, vl y, JK, vi k] [] M Q X) (fun k y => y * wf (R 4 1) m k (M.1 112 0 k.toNat)) ?_ ?_ 1 ?_
  · intro k y k1 k2 hk
    have hck := hc k k1 k2
    have hbk := bit_R m k
    rw [bMo_weight_4, n0, if_neg (by omega), bMo_weight_8, band_bit hm (by omega), bMo_weight_16 (by omega), bMo_weight_22 (by omega), bMo_weight_29, bMo_weight_29, w32_id (z := k + 1) (by omega), w32_id (by omega)]
    unfold wf at hk
    rw [if_pos k2] at hk
    by_cases h1 : bit m k = 1
    · rw [if_neg (by omega)]; rw [if_pos h1] at hk; exact hk
    · rw [if_pos h1]; rw [if_neg h1] at hk; exact hk
  · intro k y k1 k2
    unfold wf
    rw [if_neg (by omega), Int64.mul_one]
  · rw [bMo_weight_4, n0, if_pos (by omega), bMo_weight_33]
    exact hq
def zj (p b j : Int) : Int := if bit b j = 1 ∧ dg p j = 0 then 1 else 0
def zc (p b k : Int) : Int := (if 0 < k then zj p b 0 else 0) + (if 1 < k then zj p b 1 else 0) + (if 2 < k then zj p b 2 else 0)
def cq (p b j v : Int) : Int := if lsp p b j = v then 1 else 0
def cnt (p b k v : Int) : Int := (if 0 < k then cq p b 0 v else 0) + (if 1 < k then cq p b 1 v else 0) + (if 2 < k then cq p b 2 v else 0)
theorem zc_s {p b k : Int} (hk : 0 ≤ k ∧ k < 3) : zc p b (k + 1) = zc p b k + zj p b k := by
  rcases (by omega : k = 0 ∨ k = 1 ∨ k = 2) with rfl | rfl | rfl <;> unfold zc <;> simp
theorem cnt_s {p b k v : Int} (hk : 0 ≤ k ∧ k < 3) : cnt p b (k + 1) v = cnt p b k v + cq p b k v := by
  rcases (by omega : k = 0 ∨ k = 1 ∨ k = 2) with rfl | rfl | rfl <;> unfold cnt <;> simp
theorem zj_R (p b j : Int) : 0 ≤ zj p b j ∧ zj p b j ≤ 1 := by unfold zj; split <;> omega
theorem cq_R (p b j v : Int) : 0 ≤ cq p b j v ∧ cq p b j v ≤ 1 := by unfold cq; split <;> omega
theorem zc_R (p b k : Int) : 0 ≤ zc p b k ∧ zc p b k ≤ 3 := by
  have h0 := zj_R p b 0
  have h1 := zj_R p b 1
  have h2 := zj_R p b 2
  unfold zc; repeat' split
  all_goals omega
theorem cnt_R (p b k v : Int) : 0 ≤ cnt p b k v ∧ cnt p b k v ≤ 3 := by
  have h0 := cq_R p b 0 v
  have h1 := cq_R p b 1 v
  have h2 := cq_R p b 2 v
  unfold cnt; repeat' split
  all_goals omega
/-- who has it -/
def wnb (p b : Int) : Int := zj p b 0 + zj p b 1 * 2 + zj p b 2 * 4
theorem wnb_R (p b : Int) : 0 ≤ wnb p b ∧ wnb p b < 8 := by
  have h0 := zj_R p b 0
  have h1 := zj_R p b 1
  have h2 := zj_R p b 2
  unfold wnb; omega
theorem bit_wnb {p b s : Int} (hs : 0 ≤ s ∧ s < 3) : bit (wnb p b) s = zj p b s := by
  have h0 := zj_R p b 0
  have h1 := zj_R p b 1
  have h2 := zj_R p b 2
  rcases (by omega : s = 0 ∨ s = 1 ∨ s = 2) with rfl | rfl | rfl
  · show wnb p b % 2 = _; unfold wnb; omega
  · show wnb p b / 2 % 2 = _; unfold wnb; omega
  · show wnb p b / 4 % 2 = _; unfold wnb; omega
theorem bct_wnb (p b : Int) : bct (wnb p b) = zj p b 0 + zj p b 1 + zj p b 2 := by
  have h0 := zj_R p b 0
  have h1 := zj_R p b 1
  have h2 := zj_R p b 2
  unfold bct wnb; omega
theorem m_share {d : Nat} {M Q X} {p b s : Int} {R : RT} (hM : MR R M) (h : WR R) (hS : Sta R p b) (hs : 0 ≤ s ∧ s < 3) : Call (d + 2) qMo_share [vr 10 0, vi p, vi b, vi s] M Q X = Q (vi (prt R s (wnb p b) (cd p b))) M := by
  refine Call_eq (fun Q X hq => ?_) Q X
  have hb := h.b
  obtain ⟨n0, -, n2, n3, -⟩ := hM
  obtain ⟨s1, s2, s3⟩ := hS
  rw [eMo_share, bMo_share_0]
  refine loop_up (α := Int × Int × Int) (fun k a => ∀ z8, At (d + 1) kMo_share 8 [vr 10 0, vi p, vi b, vi s, vi a.1, vi a.2.1, vi a.2.2, vi k, z8] [] M Q X) (fun k a => a.1 = zc p b k ∧ (1 ≤ a.2.1 ∧ a.2.1 ≤ 9) ∧ (∀ j : Int, 0 ≤ j → j < k → 0 < lsp p b j → a.2.1 ≤ lsp p b j) ∧ (a.2.1 = 9 ∨ ∃ j : Int, 0 ≤ j ∧ j < k ∧ lsp p b j = a.2.1) ∧ a.2.2 = cnt p b k a.2.1) 0 (R 4 1) ?_ ?_ 0 (0, 9, 0) (by omega) (by omega) ⟨by unfold zc; simp, ⟨by decide, by decide⟩, by intros; omega, Or.inl rfl, by unfold cnt; simp⟩ _
  · rintro ⟨f, fw, m⟩ ⟨i1, i2, i3, i4, i5⟩ z8
    dsimp only at i1 i2 i3 i4 i5 ⊢
    have hzR := zc_R p b (R 4 1)
    have hcR := cnt_R p b (R 4 1) fw
    have out : ∀ j : Int, 0 ≤ j → j < 3 → R 4 1 ≤ j → lsp p b j = 0 ∧ zj p b j = 0 := by
      intro j a1 a2 a3
      have := s3 j a1 a2 a3
      unfold lsp zj
      rw [if_neg (by omega), if_neg (by omega)]
      exact ⟨rfl, rfl⟩
    have o0 := out 0 (by omega) (by omega)
    have o1 := out 1 (by omega) (by omega)
    have o2 := out 2 (by omega) (by omega)
    have ez : zc p b (R 4 1) = bct (wnb p b) := by
      rw [bct_wnb]
      unfold zc
      repeat' split
      all_goals omega
    have hbs := bit_R b s
    have hgs := dg_R p s
    rw [bMo_share_8, n0, if_pos (by omega), bMo_share_51, m_isIn s2 hs, KV_eq, bMo_share_54]
    unfold prt at hq
    rw [bit_wnb hs] at hq
    have ed : dg (cd p b) s = lsp p b s := dg_cd hs
    by_cases hin : bit b s = 1
    · have hl : lsp p b s = dg p s := by unfold lsp; rw [if_pos hin]
      rw [if_pos (by omega), bMo_share_57, m_stepsOf s1, KV_eq, bMo_share_60]
      by_cases hz : dg p s = 0
      · have hzj : zj p b s = 1 := by unfold zj; rw [if_pos ⟨hin, hz⟩]
        rw [if_pos hzj] at hq
        have hf1 : 1 ≤ f := by
          rw [i1, ez]
          exact bct_bit hs (by rw [bit_wnb hs]; exact hzj)
        rw [if_neg (by omega), bMo_share_61 (by omega), bMo_share_77, n2, tdiv_id (by omega), i1, ez]
        have := Int.ediv_nonneg (a := R 4 3) (b := bct (wnb p b)) (by omega) (by omega)
        have := Int.ediv_le_self (a := R 4 3) (bct (wnb p b)) (by omega)
        rw [w32_id (by omega)]
        exact hq
      · have hzj : ¬ zj p b s = 1 := by unfold zj; rw [if_neg (fun z => hz z.2)]; omega
        rw [if_neg hzj] at hq
        rw [if_pos hz, bMo_share_66, m_stepsOf s1, KV_eq, bMo_share_69]
        have hsn : s < R 4 1 := by
          by_cases hq9 : s < R 4 1
          · exact hq9
          · have := s3 s hs.1 hs.2 (by omega); omega
        have hfs := i3 s hs.1 hsn (by rw [hl]; omega)
        have l0 := lsp_R p b 0
        have l1 := lsp_R p b 1
        have l2 := lsp_R p b 2
        have f0 := i3 0 (by omega)
        have f1 := i3 1 (by omega)
        have f2 := i3 2 (by omega)
        by_cases he : dg p s = fw
        · have hno : ¬ (dg (cd p b) s = 0 ∨ lss (cd p b) s) := by
            unfold lss
            rw [dg_cd (s := 0) (by omega), dg_cd (s := 1) (by omega), dg_cd (s := 2) (by omega), ed, hl]
            omega
          rw [if_neg hno] at hq
          have em : m = sme (cd p b) s := by
            rw [i5, ← he, ← hl]
            unfold sme cnt cq
            rw [ed, dg_cd (s := 0) (by omega), dg_cd (s := 1) (by omega), dg_cd (s := 2) (by omega)]
            have hpos : lsp p b s ≠ 0 := by rw [hl]; exact hz
            rcases (by omega : R 4 1 = 1 ∨ R 4 1 = 2 ∨ R 4 1 = 3) with h9 | h9 | h9 <;> rw [h9] <;> simp
            · rw [if_neg (show ¬ lsp p b 1 = lsp p b s by omega), if_neg (show ¬ lsp p b 2 = lsp p b s by omega)]; omega
            · rw [if_neg (show ¬ lsp p b 2 = lsp p b s by omega)]; omega
          have hm1 : 1 ≤ m := by
            rw [em]
            unfold sme
            rcases (by omega : s = 0 ∨ s = 1 ∨ s = 2) with rfl | rfl | rfl <;> rw [if_pos rfl] <;> repeat' split
            all_goals omega
          rw [if_neg (by omega), bMo_share_71 (by omega), bMo_share_77, n3, tdiv_id (by omega), em]
          have := Int.ediv_nonneg (a := R 4 4) (b := sme (cd p b) s) (by omega) (by omega)
          have := Int.ediv_le_self (a := R 4 4) (sme (cd p b) s) (by omega)
          rw [w32_id (by omega)]
          exact hq
        · have hyes : dg (cd p b) s = 0 ∨ lss (cd p b) s := by
            right
            unfold lss
            rw [dg_cd (s := 0) (by omega), dg_cd (s := 1) (by omega), dg_cd (s := 2) (by omega), ed, hl]
            rcases i4 with i4 | ⟨j, j1, j2, j3⟩
            · omega
            · rcases (by omega : j = 0 ∨ j = 1 ∨ j = 2) with rfl | rfl | rfl <;> omega
          rw [if_pos hyes] at hq
          rw [if_pos he, bMo_share_76, bMo_share_77]
          exact hq
    · have hl : lsp p b s = 0 := by unfold lsp; rw [if_neg hin]
      have hzj : ¬ zj p b s = 1 := by unfold zj; rw [if_neg (fun z => hin z.1)]; omega
      rw [if_neg hzj, if_pos (Or.inl (ed.trans hl))] at hq
      rw [if_neg (by omega), bMo_share_55]
      exact hq
  · rintro k ⟨f, fw, m⟩ k1 k2 ⟨i1, i2, i3, i4, i5⟩ hk z8
    dsimp only at i1 i2 i3 i4 i5 hk ⊢
    have hbk := bit_R b k
    have hgk := dg_R p k
    have hzR := zc_R p b k
    have hcR := cnt_R p b k fw
    have es := zc_s (p := p) (b := b) (k := k) (by omega)
    rw [bMo_share_8, n0, if_neg (by omega), bMo_share_12, m_isIn s2 (by omega), KV_eq, bMo_share_15]
    by_cases hin : bit b k = 1
    · have hl : lsp p b k = dg p k := by unfold lsp; rw [if_pos hin]
      have hnx : ∀ (f' fw' m' : Int) (z8 : AV), f' = zc p b (k + 1) → (1 ≤ fw' ∧ fw' ≤ 9) → (∀ j : Int, 0 ≤ j → j < k + 1 → 0 < lsp p b j → fw' ≤ lsp p b j) → (fw' = 9 ∨ ∃ j : Int, 0 ≤ j ∧ j < k + 1 ∧ lsp p b j = fw') → m' = cnt p b (k + 1) fw' → At (d + 1) kMo_share 49 [vr 10 0, vi p, vi b, vi s, vi f', vi fw', vi m', vi k, z8] [] M Q X := by
        intro f' fw' m' z8 a1 a2 a3 a4 a5
        rw [bMo_share_49, w32_id (by omega)]
        exact hk (f', fw', m') ⟨a1, a2, a3, a4, a5⟩ z8
      rw [if_pos (by omega), bMo_share_17, m_stepsOf s1, KV_eq, bMo_share_20]
      have hf27 : At (d + 1) kMo_share 27 [vr 10 0, vi p, vi b, vi s, vi f, vi fw, vi m, vi k, vi (dg p k)] [vi (zj p b k), vi f] M Q X := by
        have hzj := zj_R p b k
        rw [bMo_share_27, w32_id (by omega), ← i1] at *
        by_cases hp0 : dg p k ≤ 0
        · have hz0 : dg p k = 0 := by omega
          rw [if_pos hp0, bMo_share_38, if_pos hp0, bMo_share_46, bMo_share_47, w32_id (by omega)]
          refine hnx _ _ _ _ (by omega) i2 ?_ ?_ ?_
          · intro j j1 j2 j3
            by_cases hj : j = k
            · subst hj; omega
            · exact i3 j j1 (by omega) j3
          · rcases i4 with i4 | ⟨j, j1, j2, j3⟩
            · exact Or.inl i4
            · exact Or.inr ⟨j, j1, by omega, j3⟩
          · rw [cnt_s (by omega), ← i5]; unfold cq; rw [if_neg (by omega)]
        · rw [if_neg hp0, bMo_share_31]
          by_cases hlt : fw ≤ dg p k
          · rw [if_pos hlt, bMo_share_38, if_neg hp0, bMo_share_41]
            by_cases heq : dg p k = fw
            · rw [if_neg (by omega), bMo_share_44, bMo_share_47, w32_id (by omega)]
              refine hnx _ _ _ _ (by omega) i2 ?_ ?_ ?_
              · intro j j1 j2 j3
                by_cases hj : j = k
                · subst hj; omega
                · exact i3 j j1 (by omega) j3
              · rcases i4 with i4 | ⟨j, j1, j2, j3⟩
                · exact Or.inl i4
                · exact Or.inr ⟨j, j1, by omega, j3⟩
              · rw [cnt_s (by omega), ← i5]; unfold cq; rw [if_pos (by omega)]
            · rw [if_pos heq, bMo_share_46, bMo_share_47, w32_id (by omega)]
              refine hnx _ _ _ _ (by omega) i2 ?_ ?_ ?_
              · intro j j1 j2 j3
                by_cases hj : j = k
                · subst hj; omega
                · exact i3 j j1 (by omega) j3
              · rcases i4 with i4 | ⟨j, j1, j2, j3⟩
                · exact Or.inl i4
                · exact Or.inr ⟨j, j1, by omega, j3⟩
              · rw [cnt_s (by omega), ← i5]; unfold cq; rw [if_neg (by omega)]
          · rw [if_neg hlt, bMo_share_34, bMo_share_38, if_neg hp0, bMo_share_41, if_neg (by omega), bMo_share_44, bMo_share_47, w32_id (by omega)]
            refine hnx _ _ _ _ (by omega) (by omega) ?_ (Or.inr ⟨k, k1, by omega, hl⟩) ?_
            · intro j j1 j2 j3
              by_cases hj : j = k
              · subst hj; omega
              · have := i3 j j1 (by omega) j3; omega
            · rw [cnt_s (by omega)]
              have hz : cnt p b k (dg p k) = 0 := by
                have q : ∀ j : Int, 0 ≤ j → j < k → ¬ lsp p b j = dg p k := by
                  intro j j1 j2 hz
                  have := i3 j j1 j2 (by omega)
                  omega
                unfold cnt cq
                have q0 := q 0 (by omega)
                have q1 := q 1 (by omega)
                have q2 := q 2 (by omega)
                repeat' split
                all_goals omega
              rw [hz]; unfold cq; rw [if_pos hl]
      by_cases hz0 : dg p k = 0
      · have : zj p b k = 1 := by unfold zj; rw [if_pos ⟨hin, hz0⟩]
        rw [if_neg (by omega), bMo_share_24, ← this]; exact hf27
      · have : zj p b k = 0 := by unfold zj; rw [if_neg (fun z => hz0 z.2)]
        rw [if_pos hz0, bMo_share_26, ← this]; exact hf27
    · have hl : lsp p b k = 0 := by unfold lsp; rw [if_neg hin]
      have hz : zj p b k = 0 := by unfold zj; rw [if_neg (fun z => hin z.1)]
      rw [if_neg (by omega), bMo_share_16, bMo_share_49, w32_id (by omega)]
      refine hk (f, fw, m) ⟨by omega, i2, ?_, ?_, ?_⟩ _
      · intro j j1 j2 j3
        by_cases hj : j = k
        · subst hj; omega
        · exact i3 j j1 (by omega) j3
      · rcases i4 with i4 | ⟨j, j1, j2, j3⟩
        · exact Or.inl i4
        · exact Or.inr ⟨j, j1, by omega, j3⟩
      · dsimp only
        rw [cnt_s (by omega), ← i5]; unfold cq; rw [if_neg (by omega)]; omega
