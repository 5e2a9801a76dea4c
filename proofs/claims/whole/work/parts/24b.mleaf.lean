/-! LAYER 3, THE REFERENCE: chances, shares, where a week ends -/
/-- somebody that is in and so far ahead -/
def lrn (R : RT) (p b s k : Int) : Bool := decide (k ≠ s ∧ bit b k = 1 ∧ R 4 6 ≤ dg p s - dg p k)
theorem m_chanceOf {d : Nat} {M Q X} {w p b s e : Int} {R : RT} (hM : MR R M) (h : WR R) (hS : Sta R p b) (hg : Gng p b) (hs : 0 ≤ s ∧ s < 3) (he : 0 ≤ e ∧ e < 5) (hc : canP R w (cd p b) s e) : Call (d + 2) qMo_chanceOf [vr 10 0, vi p, vi b, vi s, vi e] M Q X = Q (vi (chn R w (cd p b) s e)) M := by
  refine Call_eq (fun Q X hq => ?_) Q X
  have hb := h.b
  obtain ⟨n0, -, -, -, n4, n5, -, n7⟩ := hM
  obtain ⟨s1, s2, s3⟩ := hS
  have hbs := bit_R b s
  have zero : ¬ (canP R w (cd p b) s e ∧ 1 ≤ e ∧ e ≤ 3) → chn R w (cd p b) s e = 0 := fun z => by unfold chn; rw [if_neg z]
  rw [eMo_chanceOf, bMo_chanceOf_0]
  by_cases e0 : e = 0
  · rw [if_pos e0, bMo_chanceOf_9]; rw [zero (by omega)] at hq; exact hq
  · rw [if_neg e0, bMo_chanceOf_2]
    by_cases e4 : e = 4
    · rw [if_pos e4, bMo_chanceOf_9]; rw [zero (by omega)] at hq; exact hq
    · have c13 : 1 ≤ e ∧ e ≤ 3 := by omega
      rw [if_neg e4, bMo_chanceOf_5, m_isIn s2 hs, KV_eq, bMo_chanceOf_8]
      have hin : bit b s = 1 := by
        rcases hc with hc | hc
        · exact absurd hc e0
        · have := hc.1
          rw [dg_cd hs] at this
          unfold lsp at this
          by_cases hz : bit b s = 1
          · exact hz
          · rw [if_neg hz] at this; omega
      have hcr := h.chc s e hs he
      have hch : M.1 61 (0 * 3 + s.toNat) e.toNat = chc R s e := by rw [show 0 * 3 + s.toNat = s.toNat by omega]; exact (n7 s e hs.1 hs.2 (by omega) (by omega)).2
      rw [if_pos (by omega), bMo_chanceOf_11 (by omega), hch]
      have nin : ∀ k : Int, R 4 1 ≤ k → 0 ≤ k → k < 3 → bit b k = 0 := fun k a1 a2 a3 => (s3 k a2 a3 a1).2
      refine loopN (α := Bool) (R 4 1) (by omega) (fun k l => At (d + 1) kMo_chanceOf 22 [vr 10 0, vi p, vi b, vi s, vi e, vi (chc R s e), vi (if l = true then 1 else 0), vi k] [] M Q X) (fun k l => l || lrn R p b s k) ?_ ?_ false ?_
      · intro k l k1 k2 hk
        have hbk := bit_R b k
        have g1 := dg_R p s
        have g2 := dg_R p k
        rw [bMo_chanceOf_22, n0, if_neg (by omega)]
        simp (disch := first | omega | (simp (disch := omega) only [w32_id]; omega)) only [bMo_chanceOf_26, bMo_chanceOf_28, bMo_chanceOf_31, bMo_chanceOf_34, bMo_chanceOf_35, bMo_chanceOf_38, bMo_chanceOf_41, bMo_chanceOf_45, bMo_chanceOf_47, m_isIn, m_stepsOf, KV_eq, n5, w32_id, ite_At]
        rw [bMo_chanceOf_48, w32_id (by omega)]
        have ev : (if (if l = true then (1 : Int) else 0) ≠ 0 then (1 : Int) else if k = s then 0 else if bit b k = 0 then 0 else if dg p s - dg p k < R 4 6 then 0 else 1) = if (l || lrn R p b s k) = true then 1 else 0 := by
          unfold lrn
          cases l
          · simp only [Bool.false_or, decide_eq_true_eq]
            repeat' split
            all_goals first | rfl | omega | (exfalso; simp_all; done) | (exfalso; simp_all; omega)
          · simp
        rw [ev]
        exact hk
      · intro k l k1 k2
        have := nin k k1 (by omega) k2
        have : lrn R p b s k = false := by unfold lrn; exact decide_eq_false (by omega)
        simp [this]
      · have key : (((false || lrn R p b s 0) || lrn R p b s 1) || lrn R p b s 2) = true ↔ ∃ k : Int, 0 ≤ k ∧ k < 3 ∧ k ≠ s ∧ bit b k = 1 ∧ R 4 6 ≤ dg p s - dg p k := by
          unfold lrn
          simp only [Bool.false_or, Bool.or_eq_true, decide_eq_true_eq]
          constructor
          · rintro ((z | z) | z)
            · exact ⟨0, by omega, by omega, z⟩
            · exact ⟨1, by omega, by omega, z⟩
            · exact ⟨2, by omega, by omega, z⟩
          · rintro ⟨k, k1, k2, z⟩
            rcases (by omega : k = 0 ∨ k = 1 ∨ k = 2) with rfl | rfl | rfl
            · exact Or.inl (Or.inl z)
            · exact Or.inl (Or.inr z)
            · exact Or.inr z
        generalize (((false || lrn R p b s 0) || lrn R p b s 1) || lrn R p b s 2) = L at key ⊢
        have hds : dg (cd p b) s = dg p s := by rw [dg_cd hs]; unfold lsp; rw [if_pos hin]
        have hnx : nxt (cd p b) s = nxm p b s := (nxm_eq hg).symm
        have hmre : mre R (cd p b) s = if 0 < R 4 5 ∧ L = true then R 4 5 else 0 := by
          unfold mre
          rw [hds, hnx]
          by_cases h5 : R 4 5 = 0
          · rw [h5]; simp
          · have h6 : 0 < R 4 6 := by
              have := h.2.2.2.2.2.2.2.2.2.2.2.2.2.2.2
              omega
            have lower : ∀ k n : Int, nm1 p b s k n ≤ n ∧ (k ≠ s → bit b k = 1 → nm1 p b s k n ≤ dg p k) ∧ (nm1 p b s k n = n ∨ (k ≠ s ∧ bit b k = 1 ∧ nm1 p b s k n = dg p k)) := by
              intro k n; unfold nm1; split
              · rename_i hz; exact ⟨by omega, fun _ _ => by omega, Or.inr ⟨hz.1, hz.2.1, rfl⟩⟩
              · exact ⟨by omega, fun a1 a2 => by omega, Or.inl rfl⟩
            have l0 := lower 0 9
            have l1 := lower 1 (nm1 p b s 0 9)
            have l2 := lower 2 (nm1 p b s 1 (nm1 p b s 0 9))
            have g1 := dg_R p s
            have hx : nxm p b s = nm1 p b s 2 (nm1 p b s 1 (nm1 p b s 0 9)) := rfl
            have hiff : (0 < R 4 6 ∧ R 4 6 ≤ dg p s - nxm p b s) ↔ (0 < R 4 5 ∧ L = true) := by
              rw [key]
              constructor
              · rintro ⟨-, hz⟩
                refine ⟨by omega, ?_⟩
                rcases l2.2.2 with q | q
                · rcases l1.2.2 with q' | q'
                  · rcases l0.2.2 with q'' | q''
                    · omega
                    · exact ⟨0, by omega, by omega, q''.1, q''.2.1, by omega⟩
                  · exact ⟨1, by omega, by omega, q'.1, q'.2.1, by omega⟩
                · exact ⟨2, by omega, by omega, q.1, q.2.1, by omega⟩
              · rintro ⟨-, k, k1, k2, a1, a2, a3⟩
                refine ⟨h6, ?_⟩
                rcases (by omega : k = 0 ∨ k = 1 ∨ k = 2) with rfl | rfl | rfl
                · have := l0.2.1 a1 a2; omega
                · have := l1.2.1 a1 a2; omega
                · have := l2.2.1 a1 a2; omega
            by_cases hz : 0 < R 4 5 ∧ L = true
            · rw [if_pos (hiff.mpr hz), if_pos hz]
            · rw [if_neg (fun z => hz (hiff.mp z)), if_neg hz]
        have hv : chn R w (cd p b) s e = if chc R s e + mre R (cd p b) s < 4 then chc R s e + mre R (cd p b) s else 4 := by
          unfold chn; rw [if_pos ⟨hc, c13⟩]
        have hmr := mre_R h (cd p b) s
        rw [hv] at hq
        have fin : ∀ (c : Int) (z4 z6 z7 : AV), c = chc R s e + mre R (cd p b) s → At (d + 1) kMo_chanceOf 61 [vr 10 0, vi p, vi b, vi s, z4, vi c, z6, z7] [] M Q X := by
          intro c z4 z6 z7 hcc
          rw [bMo_chanceOf_61, bMo_chanceOf_64, bMo_chanceOf_66, bMo_chanceOf_67, bMo_chanceOf_67]
          by_cases h4 : c ≤ 4
          · rw [if_pos h4]
            by_cases h5 : c < 4
            · rw [← hcc, if_pos h5] at hq; exact hq
            · have : c = 4 := by omega
              rw [← hcc, if_neg h5, ← this] at hq; exact hq
          · rw [if_neg h4]; rw [← hcc, if_neg (by omega)] at hq; exact hq
        rw [bMo_chanceOf_22, n0, if_pos (by omega), bMo_chanceOf_51, n4]
        by_cases h5 : R 4 5 ≤ 0
        · rw [if_pos h5]; exact fin _ _ _ _ (by rw [hmre, if_neg (fun z => absurd z.1 (Int.not_lt.mpr h5)), Int.add_zero])
        · rw [if_neg h5, bMo_chanceOf_54]
          cases L
          · rw [if_pos (by simp)]; exact fin _ _ _ _ (by rw [hmre, if_neg (by simp), Int.add_zero])
          · rw [if_neg (by simp), bMo_chanceOf_56, n4]
            refine fin _ _ _ _ ?_
            rw [hmre, if_pos ⟨Int.not_le.mp h5, rfl⟩, w32_id]
            clear key
            omega
/-- who is in behind, by the doings -/
def ia (b d0 d1 d2 : Int) : Int := (if d0 = 4 then 0 else bit b 0) + (if d1 = 4 then 0 else bit b 1) * 2 + (if d2 = 4 then 0 else bit b 2) * 4
theorem ia_R (b d0 d1 d2 : Int) : 0 ≤ ia b d0 d1 d2 ∧ ia b d0 d1 d2 < 8 := by
  have h0 := bit_R b 0
  have h1 := bit_R b 1
  have h2 := bit_R b 2
  unfold ia; repeat' split
  all_goals omega
theorem bit_ia {b d0 d1 d2 : Int} : bit (ia b d0 d1 d2) 0 = (if d0 = 4 then 0 else bit b 0) ∧ bit (ia b d0 d1 d2) 1 = (if d1 = 4 then 0 else bit b 1) ∧ bit (ia b d0 d1 d2) 2 = (if d2 = 4 then 0 else bit b 2) := by
  have h0 := bit_R b 0
  have h1 := bit_R b 1
  have h2 := bit_R b 2
  refine ⟨?_, ?_, ?_⟩
  · show ia b d0 d1 d2 % 2 = _; unfold ia; repeat' split
    all_goals omega
  · show ia b d0 d1 d2 / 2 % 2 = _; unfold ia; repeat' split
    all_goals omega
  · show ia b d0 d1 d2 / 4 % 2 = _; unfold ia; repeat' split
    all_goals omega
theorem clr_bit {b k : Int} (hb : 0 ≤ b ∧ b < 8) (hk : 0 ≤ k ∧ k < 3) : band b (bxor (bshl 1 k) (-1)) = b - bit b k * pw k := by
  rcases (by omega : k = 0 ∨ k = 1 ∨ k = 2) with rfl | rfl | rfl <;> rcases (by omega : b = 0 ∨ b = 1 ∨ b = 2 ∨ b = 3 ∨ b = 4 ∨ b = 5 ∨ b = 6 ∨ b = 7) with rfl | rfl | rfl | rfl | rfl | rfl | rfl | rfl <;> rfl
theorem kl_kl {z : AV} : kl (kl z) = kl z := by
  rcases z with z | z | z <;> rfl
theorem m_inAfter {d : Nat} {M Q X} {b : Int} {R : RT} (hM : MR R M) (h : WR R) (hb : 0 ≤ b ∧ b < 8) (hz : ∀ s : Int, 0 ≤ s → s < 3 → R 4 1 ≤ s → bit b s = 0) : Call (d + 1) qMo_inAfter [vr 10 0, vi b] M Q X = Q (vi (ia b (M.1 79 0 0) (M.1 79 0 1) (M.1 79 0 2))) M := by
  refine Call_eq (fun Q X hq => ?_) Q X
  have hbb := h.b
  have n0 := hM.1
  rw [eMo_inAfter, bMo_inAfter_0]
  refine loopN (α := Int) (R 4 1) (by omega) (fun k c => 0 ≤ c ∧ c < 8 → ∀ z1, At d kMo_inAfter 4 [vr 10 0, z1, vi c, vi k] [] M Q X) (fun k c => if k < R 4 1 ∧ M.1 79 0 k.toNat = 4 then c - bit c k * pw k else c) ?_ ?_ b ?_ hb _
  · intro k c k1 k2 hk hc z1
    rw [bMo_inAfter_4, n0, if_neg (by omega), bMo_inAfter_8 (by omega)]
    by_cases h4 : M.1 79 0 k.toNat = 4
    · rw [if_neg (by omega), bMo_inAfter_14, clr_bit hc (by omega), bMo_inAfter_22, w32_id (by omega)]
      rw [if_pos ⟨k2, h4⟩] at hk
      refine hk ?_ _
      rcases (by omega : k = 0 ∨ k = 1 ∨ k = 2) with rfl | rfl | rfl
      · have : bit c 0 = c % 2 := rfl
        have : pw 0 = 1 := rfl
        rw [this]; omega
      · have : bit c 1 = c / 2 % 2 := rfl
        have : pw 1 = 2 := rfl
        rw [this]; omega
      · have : bit c 2 = c / 4 % 2 := rfl
        have : pw 2 = 4 := rfl
        rw [this]; omega
    · rw [if_pos h4, bMo_inAfter_22, w32_id (by omega)]
      rw [if_neg (fun z => h4 z.2)] at hk
      exact hk hc _
  · intro k c k1 k2
    rw [if_neg (by omega)]
  · intro hc z1
    rw [bMo_inAfter_4, n0, if_pos (by omega), bMo_inAfter_24]
    have t0 : (0 : Int).toNat = 0 := rfl
    have t1 : (1 : Int).toNat = 1 := rfl
    have t2 : (2 : Int).toNat = 2 := rfl
    have u0 : pw 0 = 1 := rfl
    have u1 : pw 1 = 2 := rfl
    have u2 : pw 2 = 4 := rfl
    have b0 : ∀ c, bit c 0 = c % 2 := fun c => rfl
    have b1 : ∀ c, bit c 1 = c / 2 % 2 := fun c => rfl
    have b2 : ∀ c, bit c 2 = c / 4 % 2 := fun c => rfl
    have z0 := hz 0 (by omega) (by omega)
    have z1 := hz 1 (by omega) (by omega)
    have z2 := hz 2 (by omega) (by omega)
    refine cast ?_ hq
    congr 2
    rw [b0] at z0
    rw [b1] at z1
    rw [b2] at z2
    unfold ia
    simp only [t0, t1, t2, u0, u1, u2, b0, b1, b2]
    generalize M.1 79 0 0 = D0
    generalize M.1 79 0 1 = D1
    generalize M.1 79 0 2 = D2
    by_cases q0 : D0 = 4 <;> by_cases q1 : D1 = 4 <;> by_cases q2 : D2 = 4 <;> simp only [q0, q1, q2, if_true, if_false, and_true, and_false] <;> repeat' split
    all_goals omega
abbrev hfP (p b : Int) : Prop := (bit b 0 = 1 ∧ dg p 0 = 0) ∨ (bit b 1 = 1 ∧ dg p 1 = 0) ∨ (bit b 2 = 1 ∧ dg p 2 = 0)
theorem m_hasFirst {d : Nat} {M Q X} {p b : Int} {R : RT} (hM : MR R M) (h : WR R) (hS : Sta R p b) : Call (d + 2) qMo_hasFirst [vr 10 0, vi p, vi b] M Q X = Q (vi (if hfP p b then 1 else 0)) M := by
  have hb := h.b
  have n0 := hM.1
  obtain ⟨s1, s2, s3⟩ := hS
  rw [eMo_hasFirst, bMo_hasFirst_0]
  have key : ∀ k : Int, 0 ≤ k → k < R 4 1 → At (d + 1) kMo_hasFirst 2 [vr 10 0, vi p, vi b, vi k] [] M Q X = if bit b k = 1 ∧ dg p k = 0 then Q (vi 1) M else At (d + 1) kMo_hasFirst 2 [vr 10 0, vi p, vi b, vi (k + 1)] [] M Q X := by
    intro k k1 k2
    have hbk := bit_R b k
    rw [bMo_hasFirst_2, n0, if_neg (by omega), bMo_hasFirst_6, m_isIn s2 (by omega), KV_eq, bMo_hasFirst_9, bMo_hasFirst_10, m_stepsOf s1, KV_eq, bMo_hasFirst_13, bMo_hasFirst_14, bMo_hasFirst_16, w32_id (by omega)]
    by_cases h1 : bit b k = 1
    · by_cases h2 : dg p k = 0 <;> simp [h1, h2]
    · have : bit b k = 0 := by omega
      simp [this]
  have fin : ∀ k : Int, R 4 1 ≤ k → At (d + 1) kMo_hasFirst 2 [vr 10 0, vi p, vi b, vi k] [] M Q X = Q (vi 0) M := by
    intro k k1
    rw [bMo_hasFirst_2, n0, if_pos k1, bMo_hasFirst_18]; rfl
  have z : ∀ s : Int, 0 ≤ s → s < 3 → R 4 1 ≤ s → ¬ (bit b s = 1 ∧ dg p s = 0) := fun s a1 a2 a3 => by have := s3 s a1 a2 a3; omega
  rcases (by omega : R 4 1 = 0 ∨ R 4 1 = 1 ∨ R 4 1 = 2 ∨ R 4 1 = 3) with h1 | h1 | h1 | h1
  · rw [fin 0 (by omega)]
    simp [hfP, z 0 (by omega) (by omega) (by omega), z 1 (by omega) (by omega) (by omega), z 2 (by omega) (by omega) (by omega)]
  · rw [key 0 (by omega) (by omega), fin _ (by omega)]
    simp only [hfP, z 1 (by omega) (by omega) (by omega), z 2 (by omega) (by omega) (by omega), or_false]
    split <;> rfl
  · rw [key 0 (by omega) (by omega), show (0 : Int) + 1 = 1 from rfl, key 1 (by omega) (by omega), fin _ (by omega)]
    simp only [hfP, z 2 (by omega) (by omega) (by omega), or_false]
    by_cases q0 : bit b 0 = 1 ∧ dg p 0 = 0
    · rw [if_pos q0, if_pos (Or.inl q0)]
    · rw [if_neg q0]
      by_cases q1 : bit b 1 = 1 ∧ dg p 1 = 0
      · rw [if_pos q1, if_pos (Or.inr q1)]
      · rw [if_neg q1, if_neg (by simp only [q0, q1, or_self, not_false_eq_true])]
  · rw [key 0 (by omega) (by omega), show (0 : Int) + 1 = 1 from rfl, key 1 (by omega) (by omega), show (1 : Int) + 1 = 2 from rfl, key 2 (by omega) (by omega), fin _ (by omega)]
    by_cases q0 : bit b 0 = 1 ∧ dg p 0 = 0
    · rw [if_pos q0, if_pos (Or.inl q0)]
    · rw [if_neg q0]
      by_cases q1 : bit b 1 = 1 ∧ dg p 1 = 0
      · rw [if_pos q1, if_pos (Or.inr (Or.inl q1))]
      · rw [if_neg q1]
        by_cases q2 : bit b 2 = 1 ∧ dg p 2 = 0
        · rw [if_pos q2, if_pos (Or.inr (Or.inr q2))]
        · rw [if_neg q2, if_neg (by simp only [hfP, q0, q1, q2, or_self, not_false_eq_true])]
def ct (p m : Int) : Int := p - bit m 0 - 5 * bit m 1 - 25 * bit m 2
theorem m_comesTo {d : Nat} {M Q X} {p m : Int} (hp : 0 ≤ p ∧ p < 125) (hm : 0 ≤ m ∧ m < 8) : Call (d + 1) qMo_comesTo [vr 10 0, vi p, vi m] M Q X = Q (vi (ct p m)) M := by
  have h0 := bit_R m 0
  have h1 := bit_R m 1
  have h2 := bit_R m 2
  have e0 : band m 1 = bit m 0 := by
    rcases (by omega : m = 0 ∨ m = 1 ∨ m = 2 ∨ m = 3 ∨ m = 4 ∨ m = 5 ∨ m = 6 ∨ m = 7) with rfl | rfl | rfl | rfl | rfl | rfl | rfl | rfl <;> rfl
  rw [eMo_comesTo, bMo_comesTo_0, e0, band_bit hm (by omega), band_bit hm (by omega)]
  simp (disch := first | omega | (simp (disch := omega) only [w32_id]; omega)) only [w32_id]
  rfl
