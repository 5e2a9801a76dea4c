/-! LAYER 3, ONE THAT IS ALONE: the calls -/
theorem lsr_I {x : Int64} {k : Int} {n : Nat} (hk : (((Int32.ofInt k).toInt64 &&& 63).toBitVec.smod 64).toNat = n) : (lsr x k).toInt = x.toInt / (2 ^ n : Nat) := by
  subst hk
  show (BitVec.sshiftRight' x.toBitVec _).toInt = _
  unfold BitVec.sshiftRight'
  rw [BitVec.toInt_sshiftRight, Int.shiftRight_eq_div_pow]
  rfl
theorem lsr_sc {m w a : Int} (hm : 0 ≤ m ∧ m ≤ 2) (hw : 0 ≤ w ∧ w ≤ 6) (ha : 0 ≤ a ∧ a ≤ 50000000) : lsr (Int64.ofInt (scI m w * a)) (2 * w * m) = Int64.ofInt a := by
  have key : ∀ (K : Int) (n : Nat) (k : Int), K = ((2 ^ n : Nat) : Int) → 1 ≤ K → K ≤ 16777216 → (((Int32.ofInt k).toInt64 &&& 63).toBitVec.smod 64).toNat = n → lsr (Int64.ofInt (K * a)) k = Int64.ofInt a := by
    intro K n k hK k1 k2 hk
    rw [← Int64.toInt_inj, lsr_I hk, toI_of (by
      have := Int.mul_nonneg (a := K) (b := a) (by omega) (by omega)
      have := Int.mul_le_mul_of_nonneg_left ha.2 (show 0 ≤ K by omega)
      omega), toI_of (by omega), ← hK]
    exact Int.mul_ediv_cancel_left _ (by omega)
  rcases (by omega : m = 0 ∨ m = 1 ∨ m = 2) with rfl | rfl | rfl
  · rw [Int.mul_zero]
    rcases (by omega : w = 0 ∨ w = 1 ∨ w = 2 ∨ w = 3 ∨ w = 4 ∨ w = 5 ∨ w = 6) with rfl | rfl | rfl | rfl | rfl | rfl | rfl <;> exact key _ 0 _ (by decide +kernel) (by decide +kernel) (by decide +kernel) (by decide +kernel)
  · rcases (by omega : w = 0 ∨ w = 1 ∨ w = 2 ∨ w = 3 ∨ w = 4 ∨ w = 5 ∨ w = 6) with rfl | rfl | rfl | rfl | rfl | rfl | rfl
    · exact key _ 0 _ (by decide +kernel) (by decide +kernel) (by decide +kernel) (by decide +kernel)
    · exact key _ 2 _ (by decide +kernel) (by decide +kernel) (by decide +kernel) (by decide +kernel)
    · exact key _ 4 _ (by decide +kernel) (by decide +kernel) (by decide +kernel) (by decide +kernel)
    · exact key _ 6 _ (by decide +kernel) (by decide +kernel) (by decide +kernel) (by decide +kernel)
    · exact key _ 8 _ (by decide +kernel) (by decide +kernel) (by decide +kernel) (by decide +kernel)
    · exact key _ 10 _ (by decide +kernel) (by decide +kernel) (by decide +kernel) (by decide +kernel)
    · exact key _ 12 _ (by decide +kernel) (by decide +kernel) (by decide +kernel) (by decide +kernel)
  · rcases (by omega : w = 0 ∨ w = 1 ∨ w = 2 ∨ w = 3 ∨ w = 4 ∨ w = 5 ∨ w = 6) with rfl | rfl | rfl | rfl | rfl | rfl | rfl
    · exact key _ 0 _ (by decide +kernel) (by decide +kernel) (by decide +kernel) (by decide +kernel)
    · exact key _ 4 _ (by decide +kernel) (by decide +kernel) (by decide +kernel) (by decide +kernel)
    · exact key _ 8 _ (by decide +kernel) (by decide +kernel) (by decide +kernel) (by decide +kernel)
    · exact key _ 12 _ (by decide +kernel) (by decide +kernel) (by decide +kernel) (by decide +kernel)
    · exact key _ 16 _ (by decide +kernel) (by decide +kernel) (by decide +kernel) (by decide +kernel)
    · exact key _ 20 _ (by decide +kernel) (by decide +kernel) (by decide +kernel) (by decide +kernel)
    · exact key _ 24 _ (by decide +kernel) (by decide +kernel) (by decide +kernel) (by decide +kernel)
abbrev alP (R : RT) (s w o : Int) : Prop := (0 ≤ w ∧ w ≤ R 4 2) ∧ (0 ≤ o ∧ o ≤ stp R s)
def tAl (R : RT) (s w o : Int) : Int := if R 4 1 = 0 then 1 else if 0 ≤ s ∧ s < R 4 1 then (if alP R s w o then 0 else 3) else 2
section
variable {d : Nat} {Q : AV → Mem → Prop} {X : Nat → Mem → Prop}
theorem c_needAlone {M : Mem} {s w o : Int} (hs : 0 ≤ s ∧ s < 3) : Call (d + 1) qPR_needAlone [vr 9 0, vi s, vi w, vi o] M Q X = if alP (rd M 0) s w o then Q (vi 0) M else X 2 M := by
  have es : M.1 33 0 s.toNat = stp (rd M 0) s := rfl
  have ew : M.1 4 0 2 = rd M 0 4 2 := rfl
  rw [ePR_needAlone, bPR_needAlone_0]
  by_cases h1 : w < 0
  · rw [if_pos h1, bPR_needAlone_18, if_neg (fun z => by omega)]
  rw [if_neg h1, bPR_needAlone_6, ew]
  by_cases h2 : rd M 0 4 2 < w
  · rw [if_pos h2, bPR_needAlone_18, if_neg (fun z => by omega)]
  rw [if_neg h2, bPR_needAlone_10]
  by_cases h3 : o < 0
  · rw [if_pos h3, bPR_needAlone_18, if_neg (fun z => by omega)]
  rw [if_neg h3, bPR_needAlone_12 hs, es]
  by_cases h4 : o ≤ stp (rd M 0) s
  · rw [if_pos h4, bPR_needAlone_23, if_pos ⟨by omega, by omega⟩]
  · rw [if_neg h4, bPR_needAlone_18, if_neg (fun z => h4 z.2.2)]
theorem c_alone {M : Mem} {s w o : Int} (h0 : CI0 M) (hb : Cb M) (hx : tAl (rd M 0) s w o ≠ 0 → X (tAl (rd M 0) s w o - 1).toNat M)
    (hq : ∀ M', tAl (rd M 0) s w o = 0 → CQ M M' → Q (vl (Int64.ofInt (aI (rd M 0) s w.toNat o))) M') : Call (d + 8) qPR_alone [vr 9 0, vi s, vi w, vi o] M Q X := by
  have hW := h0.2.2.1 0 (by omega)
  have hbb := hW.b
  unfold tAl at hx hq
  rw [ePR_alone, bPR_alone_0, c_needRace]
  by_cases hn : rd M 0 4 1 = 0
  · rw [if_pos hn] at hx; rw [if_pos hn]; exact hx (by omega)
  rw [if_neg hn] at hx hq
  rw [if_neg hn, KU_eq, bPR_alone_2, c_needShop (by omega)]
  by_cases hs : 0 ≤ s ∧ s < rd M 0 4 1
  · rw [if_pos hs] at hx hq
    rw [if_pos hs, KU_eq, bPR_alone_5, c_needAlone (by omega)]
    by_cases hst : alP (rd M 0) s w o
    · rw [if_pos hst] at hx hq
      rw [if_pos hst, KU_eq, bPR_alone_10]
      refine c_settled h0 hb (by omega) ?_
      intro M1 f1 c1 b1 full
      obtain ⟨hw, ho⟩ := hst
      have hsp := hW.stp s (by omega)
      have hxR := su_o (s := s) (o := o) (by omega) (by omega)
      have hfit := fits_one hW (s := s) (o := o) (by omega) ho
      have e1 : M1.1 4 0 1 = rd M 0 4 1 := f1.g1 4 0 1 (fun z => by omega)
      have e2 := (Wf_one hW hs w.toNat o (by omega) ho.1 ho.2).1
      have e3 : ((w.toNat : Nat) : Int) = w := by omega
      have bI := aI_b hW (s := s) (by omega) w.toNat o (by omega)
      have s1 := scI1_R (w := w) (by omega)
      rw [e3] at e2 bI
      rw [KV_eq, bPR_alone_12 (by omega), ro_su (by omega), w32_id (by omega), c_worthAt (by omega) hxR (by omega), KV_eq, bPR_alone_20, e1, full.wrt (c1.1 0 (by omega)) hw (by omega) hxR hfit (by omega), e2, w32_id (z := 2 * w) (by omega), w32_id (z := rd M 0 4 1 - 1) (by omega)]
      have e4 : w32 (2 * w * (rd M 0 4 1 - 1)) = 2 * w * (rd M 0 4 1 - 1) := by
        rcases (by omega : rd M 0 4 1 = 1 ∨ rd M 0 4 1 = 2 ∨ rd M 0 4 1 = 3) with q | q | q <;> rw [q] <;> exact w32_id (by omega)
      rw [e4, lsr_sc (by omega) (by omega) (by omega)]
      exact hq M1 rfl ⟨f1, c1, b1⟩
    · rw [if_neg hst] at hx ⊢
      exact hx (by omega)
  · rw [if_neg hs] at hx ⊢
    exact hx (by omega)
theorem c_best {M : Mem} {s w o : Int} (h0 : CI0 M) (hb : Cb M) (hx : tAl (rd M 0) s w o ≠ 0 → X (tAl (rd M 0) s w o - 1).toNat M)
    (hq : ∀ M', tAl (rd M 0) s w o = 0 → CQ M M' → Q (vi (aD (rd M 0) s w o)) M') : Call (d + 8) qPR_best [vr 9 0, vi s, vi w, vi o] M Q X := by
  have hW := h0.2.2.1 0 (by omega)
  have hbb := hW.b
  unfold tAl at hx hq
  rw [ePR_best, bPR_best_0, c_needRace]
  by_cases hn : rd M 0 4 1 = 0
  · rw [if_pos hn] at hx; rw [if_pos hn]; exact hx (by omega)
  rw [if_neg hn] at hx hq
  rw [if_neg hn, KU_eq, bPR_best_2, c_needShop (by omega)]
  by_cases hs : 0 ≤ s ∧ s < rd M 0 4 1
  · rw [if_pos hs] at hx hq
    rw [if_pos hs, KU_eq, bPR_best_5, c_needAlone (by omega)]
    by_cases hst : alP (rd M 0) s w o
    · rw [if_pos hst] at hx hq
      rw [if_pos hst, KU_eq, bPR_best_10]
      refine c_settled h0 hb (by omega) ?_
      intro M1 f1 c1 b1 full
      obtain ⟨hw, ho⟩ := hst
      have hsp := hW.stp s (by omega)
      have hxR := su_o (s := s) (o := o) (by omega) (by omega)
      have hfit := fits_one hW (s := s) (o := o) (by omega) ho
      have er := full.row (c1.1 0 (by omega)) hw (by omega) hxR hfit
      rw [KV_eq, bPR_best_12 (by omega), ro_su (by omega), w32_id (by omega), c_doingAt (by omega) hxR (by rw [er]; exact rwX_R), KV_eq, bPR_best_20, er]
      have e : dr (rwX (rd M 0) w (o * su s)) s = aD (rd M 0) s w o := by
        unfold rwX
        by_cases hz : w = 0 ∨ o * su s = 0
        · have hz2 : w ≤ 0 ∨ o ≤ 0 := by
            rcases hz with z | z
            · omega
            · have hu : su s = 1 ∨ su s = 5 ∨ su s = 25 := by unfold su; repeat' split
                                                              all_goals simp
              rcases hu with q | q | q <;> rw [q] at z <;> omega
          rw [if_pos hz]
          unfold aD
          rw [if_pos hz2]
          rcases (by omega : s = 0 ∨ s = 1 ∨ s = 2) with rfl | rfl | rfl <;> rfl
        · have ho1 : 1 ≤ o := by
            rcases (by omega : o = 0 ∨ 1 ≤ o) with q | q
            · rw [q, Int.zero_mul] at hz; exact absurd (Or.inr rfl) hz
            · exact q
          have e2 := (Wf_one hW hs w.toNat o (by omega) ho.1 ho.2).2 (by omega) ho1
          rw [show ((w.toNat : Nat) : Int) = w by omega] at e2
          rw [if_neg hz, e2]
          have hD : 0 ≤ aD (rd M 0) s w o ∧ aD (rd M 0) s w o < 5 := by
            unfold aD
            split
            · omega
            · have := fmi_R (c := cB (rd M 0) w (o * su s) s) (v := aBy (rd M 0) s w o (aI (rd M 0) s (w - 1).toNat)) 4
              omega
          rw [dr_one (by omega) hD (by omega), if_pos rfl]
      rw [e]
      exact hq M1 rfl ⟨f1, c1, b1⟩
    · rw [if_neg hst] at hx ⊢
      exact hx (by omega)
  · rw [if_neg hs] at hx ⊢
    exact hx (by omega)
theorem m_alone {M : Mem} {R : RT} {s w o : Int} (hc : Cur R M)
    (hq : ∀ M' v, MS R M M' → M'.1 10 0 0 = tAl R s w o → (tAl R s w o = 0 → v = Int64.ofInt (aI R s w.toNat o)) → Q (vl v) M') : Call (d + 64) qMo_alone [vr 10 0, vi s, vi w, vi o] M Q X := by
  have h20 := hc.n
  rw [eMo_alone, bMo_alone_0, th_ne (by omega), h20]
  by_cases h0 : R 4 1 = 0
  · rw [if_neg (fun z => z h0), bMo_alone_7, bMo_alone_10, m_bad1 (by omega), KV_eq, bMo_alone_12, if_pos (by omega), bMo_alone_49]
    refine hq _ _ (MS.th hc 1) ?_ ?_
    · unfold tAl; rw [if_pos h0]; exact th0_eq
    · unfold tAl; rw [if_pos h0]; intro z; omega
  rw [if_pos h0, bMo_alone_9, bMo_alone_10, m_bad0, KV_eq, bMo_alone_12, if_neg (by omega), bMo_alone_13, th_ne (by omega), h20]
  rcases id hc with hc0 | ⟨B, n, T, hx, hcm⟩
  · exact absurd hc0.1 h0
  have hW := hx.wr
  have hb := hW.b
  have hn1 := hx.2.1
  rw [w32_id (by omega), m_in, KV_eq, bMo_alone_21]
  by_cases hs : 0 ≤ s ∧ s < R 4 1
  · rw [if_pos (by rw [if_pos (by omega)]; omega), bMo_alone_24, bMo_alone_25, m_bad0, KV_eq, bMo_alone_27, if_neg (by omega), bMo_alone_28]
    obtain ⟨fs0, -⟩ := MS.t0 hc
    have hcm0 : CM R B n T (sI M 10 0 0 0) := hcm.fs (by omega) ⟨hn1, by omega⟩ (P := fun t i j => t = 10 ∧ i = 0 ∧ j = 0) (Fs.rf.sI (by omega)) (fun t i j z => by omega)
    have hst := hW.stp s (by omega)
    have bad : ¬ alP R s w o → At (d + 63) kMo_alone 43 [vr 10 0, vi s, vi w, vi o] [vr 10 0] (sI M 10 0 0 0) Q X := by
      intro hno
      rw [bMo_alone_43, bMo_alone_46, m_bad1 (by omega), KV_eq, bMo_alone_48, if_neg (by omega), bMo_alone_49]
      refine hq _ _ (MS.th hc 3) ?_ ?_
      · unfold tAl; rw [if_neg h0, if_pos hs, if_neg hno]; exact th0_eq
      · unfold tAl; rw [if_neg h0, if_pos hs, if_neg hno]; intro z; omega
    rw [hcm0.1.2.1, m_in, KV_eq, bMo_alone_34]
    by_cases hw : 0 ≤ w ∧ w ≤ R 4 2
    · rw [if_neg (by rw [if_pos hw]; omega), bMo_alone_35 (by omega), (hcm0.1.2.2.2.2.2.2.1 s hs.1 (by omega)).1, m_in, KV_eq, bMo_alone_42]
      by_cases ho : 0 ≤ o ∧ o ≤ stp R s
      · rw [if_pos (by rw [if_pos ho]; omega), bMo_alone_45, bMo_alone_46, m_bad0, KV_eq, bMo_alone_48, if_pos rfl, bMo_alone_51]
        refine m_findAlone (d := d + 1) hcm0.1 hW (hl_cm hx hcm0) hs ?_
        intro M' f r
        obtain ⟨r1, r2⟩ := r w o hw.1 hw.2 ho.1 ho.2
        have fsc : Fs scM (sI M 10 0 0 0) M' := f.mono (fun t i j z => by omega)
        have c' : CM R B n T M' := hcm0.fs (by omega) ⟨hn1, by omega⟩ f (fun t i j z => by omega)
        rw [KU_eq, bMo_alone_54 (by omega), show 0 * 7 + w.toNat = w.toNat by omega]
        refine hq M' _ ⟨fs0.tr fsc, Or.inr ⟨B, n, T, hx, c'⟩⟩ ?_ (fun _ => r1)
        unfold tAl
        rw [if_neg h0, if_pos hs, if_pos ⟨hw, ho⟩, f.g1 10 0 0 (fun z => by omega)]; exact sI_eq
      · rw [if_neg (by rw [if_neg ho]; omega)]
        exact bad (fun z => ho z.2)
    · rw [if_pos (by rw [if_neg hw])]
      exact bad (fun z => hw z.1)
  · rw [if_neg (by rw [if_neg (by omega)]; omega), bMo_alone_22, bMo_alone_25, m_bad1 (by omega), KV_eq, bMo_alone_27, if_pos (by omega), bMo_alone_49]
    refine hq _ _ (MS.th hc 2) ?_ ?_
    · unfold tAl; rw [if_neg h0, if_neg hs]; exact th0_eq
    · unfold tAl; rw [if_neg h0, if_neg hs]; intro z; omega
theorem m_bestC {M : Mem} {R : RT} {s w o : Int} (hc : Cur R M)
    (hq : ∀ M' v, MS R M M' → M'.1 10 0 0 = tAl R s w o → (tAl R s w o = 0 → v = aD R s w o) → Q (vi v) M') : Call (d + 64) qMo_best [vr 10 0, vi s, vi w, vi o] M Q X := by
  have h20 := hc.n
  rw [eMo_best, bMo_best_0, th_ne (by omega), h20]
  by_cases h0 : R 4 1 = 0
  · rw [if_neg (fun z => z h0), bMo_best_7, bMo_best_10, m_bad1 (by omega), KV_eq, bMo_best_12, if_pos (by omega), bMo_best_49]
    refine hq _ _ (MS.th hc 1) ?_ ?_
    · unfold tAl; rw [if_pos h0]; exact th0_eq
    · unfold tAl; rw [if_pos h0]; intro z; omega
  rw [if_pos h0, bMo_best_9, bMo_best_10, m_bad0, KV_eq, bMo_best_12, if_neg (by omega), bMo_best_13, th_ne (by omega), h20]
  rcases id hc with hc0 | ⟨B, n, T, hx, hcm⟩
  · exact absurd hc0.1 h0
  have hW := hx.wr
  have hb := hW.b
  have hn1 := hx.2.1
  rw [w32_id (by omega), m_in, KV_eq, bMo_best_21]
  by_cases hs : 0 ≤ s ∧ s < R 4 1
  · rw [if_pos (by rw [if_pos (by omega)]; omega), bMo_best_24, bMo_best_25, m_bad0, KV_eq, bMo_best_27, if_neg (by omega), bMo_best_28]
    obtain ⟨fs0, -⟩ := MS.t0 hc
    have hcm0 : CM R B n T (sI M 10 0 0 0) := hcm.fs (by omega) ⟨hn1, by omega⟩ (P := fun t i j => t = 10 ∧ i = 0 ∧ j = 0) (Fs.rf.sI (by omega)) (fun t i j z => by omega)
    have hst := hW.stp s (by omega)
    have bad : ¬ alP R s w o → At (d + 63) kMo_best 43 [vr 10 0, vi s, vi w, vi o] [vr 10 0] (sI M 10 0 0 0) Q X := by
      intro hno
      rw [bMo_best_43, bMo_best_46, m_bad1 (by omega), KV_eq, bMo_best_48, if_neg (by omega), bMo_best_49]
      refine hq _ _ (MS.th hc 3) ?_ ?_
      · unfold tAl; rw [if_neg h0, if_pos hs, if_neg hno]; exact th0_eq
      · unfold tAl; rw [if_neg h0, if_pos hs, if_neg hno]; intro z; omega
    rw [hcm0.1.2.1, m_in, KV_eq, bMo_best_34]
    by_cases hw : 0 ≤ w ∧ w ≤ R 4 2
    · rw [if_neg (by rw [if_pos hw]; omega), bMo_best_35 (by omega), (hcm0.1.2.2.2.2.2.2.1 s hs.1 (by omega)).1, m_in, KV_eq, bMo_best_42]
      by_cases ho : 0 ≤ o ∧ o ≤ stp R s
      · rw [if_pos (by rw [if_pos ho]; omega), bMo_best_45, bMo_best_46, m_bad0, KV_eq, bMo_best_48, if_pos rfl, bMo_best_51]
        refine m_findAlone (d := d + 1) hcm0.1 hW (hl_cm hx hcm0) hs ?_
        intro M' f r
        obtain ⟨r1, r2⟩ := r w o hw.1 hw.2 ho.1 ho.2
        have fsc : Fs scM (sI M 10 0 0 0) M' := f.mono (fun t i j z => by omega)
        have c' : CM R B n T M' := hcm0.fs (by omega) ⟨hn1, by omega⟩ f (fun t i j z => by omega)
        rw [KU_eq, bMo_best_54 (by omega), show 0 * 7 + w.toNat = w.toNat by omega]
        refine hq M' _ ⟨fs0.tr fsc, Or.inr ⟨B, n, T, hx, c'⟩⟩ ?_ (fun _ => r2)
        unfold tAl
        rw [if_neg h0, if_pos hs, if_pos ⟨hw, ho⟩, f.g1 10 0 0 (fun z => by omega)]; exact sI_eq
      · rw [if_neg (by rw [if_neg ho]; omega)]
        exact bad (fun z => ho z.2)
    · rw [if_pos (by rw [if_neg hw])]
      exact bad (fun z => hw z.1)
  · rw [if_neg (by rw [if_neg (by omega)]; omega), bMo_best_22, bMo_best_25, m_bad1 (by omega), KV_eq, bMo_best_27, if_pos (by omega), bMo_best_49]
    refine hq _ _ (MS.th hc 2) ?_ ?_
    · unfold tAl; rw [if_neg h0, if_neg hs]; exact th0_eq
    · unfold tAl; rw [if_neg h0, if_neg hs]; intro z; omega
end
