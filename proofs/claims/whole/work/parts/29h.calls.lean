/-! LAYER 3, FIRST, LATE, WASTE: the calls -/
def tFi (R : RT) (s : Int) : Int := if R 4 1 = 0 then 1 else if -1 ≤ s ∧ s < R 4 1 then 0 else 2
def fiV (R : RT) (s : Int) : Int64 := if s = -1 then Int64.ofInt (scI (R 4 1) (R 4 2) - phW R 2) else Int64.ofInt (phW R (3 + s.toNat))
theorem go_sc {t i j : Nat} (h : pRgo t i j) : scM t i j ∧ ¬ (t = 10 ∧ j = 0) ∧ t ≠ 55 ∧ ¬ (t = 10 ∧ 11 ≤ j ∧ j ≤ 20) := by
  unfold pRgo at h
  rcases h with h | h | h
  · have a := sv_sc h
    have b := sv_no h
    exact ⟨a.1, a.2, b.2.1, fun z => b.2.2.2.1 ⟨z.1, by omega⟩⟩
  · unfold pFl at h; unfold scM; omega
  · unfold scM; omega
section
variable {d : Nat} {Q : AV → Mem → Prop} {X : Nat → Mem → Prop}
theorem m_throughC {M : Mem} {R B n T} (hx : TX R B n T) (hc : CM R B n T M) (hq : ∀ M', Fs pRgo M M' → CM R B n T M' → WAm (phW R) M' → Q (vi 0) M') : Call (d + 64) qMo_runsThrough [vr 10 0] M Q X := by
  refine m_runsThrough (d := d) hc.1 hx.wr hx.2.1 (hl_cm hx hc) hc.2.2.2.2.2.2 ?_
  intro M' f hM sv hA
  obtain ⟨-, c1, c2, c3, c4, c5, -⟩ := hc
  refine hq M' f ⟨hM, ?_, fun j hj => ?_, ?_, ?_, ?_, fun _ => sv⟩ hA
  · rw [f.g1 10 0 11 (fun z => (go_sc z).2.2.2 ⟨rfl, by omega, by omega⟩)]; exact c1
  · rw [f.g1 55 0 j (fun z => (go_sc z).2.2.1 rfl)]; exact c2 j hj
  · rw [f.g1 10 0 18 (fun z => (go_sc z).2.2.2 ⟨rfl, by omega, by omega⟩)]; exact c3
  · rw [f.g1 10 0 19 (fun z => (go_sc z).2.2.2 ⟨rfl, by omega, by omega⟩)]; exact c4
  · rw [f.g1 10 0 12 (fun z => (go_sc z).2.2.2 ⟨rfl, by omega, by omega⟩)]; exact c5
/-- the class walks its first board -/
theorem c_walk0 {M : Mem} (h0 : CI0 M) (hb : Cb M) (hn : 1 ≤ rd M 0 4 1) (hf : Full (rd M 0) 0 M) (hq : ∀ M', Fs (pWh 0) M M' → CI0 M' → Cb M' → WA (rd M 0) (phW (rd M 0)) M' → Q (vi 0) M') : Call (d + 6) qCo_walk [vr 1 0, vr 0 0] M Q X := by
  have hW := h0.2.2.1 0 (by omega)
  have hbb := hW.b
  refine c_walk (d := d) (b := 0) (al := 1) (R := rd M 0) rfl hW hn (fun w x w1 w2 x1 x2 hs => hf.row (h0.1 0 (by omega)) (by omega) (by omega) (by omega) hs.1) ?_
  intro M' f hA
  obtain ⟨c, b⟩ := h0.kp hb f (fun t i j z => by have := wh_no z; omega)
  exact hq M' f c b hA
theorem wh0_qa {t i j : Nat} (h : pWh 0 t i j) : pQa t i j := by unfold pWh pOp at h; unfold pQa pSd pCl; omega
theorem c_late {M : Mem} (h0 : CI0 M) (hb : Cb M) (hx : tR (rd M 0) = 1 → X 0 M) (hq : ∀ M', tR (rd M 0) = 0 → CQa M M' → Q (vl (Int64.ofInt (phW (rd M 0) 0))) M') : Call (d + 8) qPR_late [vr 9 0] M Q X := by
  have hW := h0.2.2.1 0 (by omega)
  have hbb := hW.b
  unfold tR at hx hq
  rw [ePR_late, bPR_late_0, c_needRace]
  by_cases hn : rd M 0 4 1 = 0
  · rw [if_pos hn] at hx; rw [if_pos hn]; exact hx rfl
  rw [if_neg hn] at hq
  rw [if_neg hn, KU_eq, bPR_late_2]
  refine c_settled h0 hb (by omega) ?_
  intro M1 f1 c1 b1 full
  have er : rd M1 0 = rd M 0 := rd_fs f1 (fun t j ht z => by unfold pSd pCl at z; omega)
  rw [KV_eq, bPR_late_6]
  refine c_walk0 (d := d + 1) c1 b1 (by rw [er]; omega) (by rw [er]; exact full) ?_
  intro M2 f2 c2 b2 hA
  rw [er] at hA
  rw [KU_eq, bPR_late_7, hA.1]
  exact hq M2 rfl ⟨(f1.mono (fun t i j z => Or.inl z)).tr (f2.mono (fun t i j z => wh0_qa z)), c2, b2⟩
theorem c_waste {M : Mem} (h0 : CI0 M) (hb : Cb M) (hx : tR (rd M 0) = 1 → X 0 M) (hq : ∀ M', tR (rd M 0) = 0 → CQa M M' → Q (vl (Int64.ofInt (phW (rd M 0) 1))) M') : Call (d + 8) qPR_waste [vr 9 0] M Q X := by
  have hW := h0.2.2.1 0 (by omega)
  have hbb := hW.b
  unfold tR at hx hq
  rw [ePR_waste, bPR_waste_0, c_needRace]
  by_cases hn : rd M 0 4 1 = 0
  · rw [if_pos hn] at hx; rw [if_pos hn]; exact hx rfl
  rw [if_neg hn] at hq
  rw [if_neg hn, KU_eq, bPR_waste_2]
  refine c_settled h0 hb (by omega) ?_
  intro M1 f1 c1 b1 full
  have er : rd M1 0 = rd M 0 := rd_fs f1 (fun t j ht z => by unfold pSd pCl at z; omega)
  rw [KV_eq, bPR_waste_6]
  refine c_walk0 (d := d + 1) c1 b1 (by rw [er]; omega) (by rw [er]; exact full) ?_
  intro M2 f2 c2 b2 hA
  rw [er] at hA
  rw [KU_eq, bPR_waste_7, hA.2.1]
  exact hq M2 rfl ⟨(f1.mono (fun t i j z => Or.inl z)).tr (f2.mono (fun t i j z => wh0_qa z)), c2, b2⟩
theorem c_first {M : Mem} {s : Int} (h0 : CI0 M) (hb : Cb M) (hx1 : tFi (rd M 0) s = 1 → X 0 M) (hx2 : tFi (rd M 0) s = 2 → X 1 M) (hq : ∀ M', tFi (rd M 0) s = 0 → CQa M M' → Q (vl (fiV (rd M 0) s)) M') : Call (d + 8) qPR_first [vr 9 0, vi s] M Q X := by
  have hW := h0.2.2.1 0 (by omega)
  have hbb := hW.b
  unfold tFi at hx1 hx2 hq
  rw [ePR_first, bPR_first_0, c_needRace]
  by_cases hn : rd M 0 4 1 = 0
  · rw [if_pos hn] at hx1; rw [if_pos hn]; exact hx1 rfl
  rw [if_neg hn] at hq hx2
  rw [if_neg hn, KU_eq, bPR_first_2]
  have go : -1 ≤ s ∧ s < rd M 0 4 1 → At (d + 7) kPR_first 8 [vr 9 0, vi s] [] M Q X := by
    intro hs
    rw [if_pos hs] at hq
    rw [bPR_first_8]
    refine c_settled h0 hb (by omega) ?_
    intro M1 f1 c1 b1 full
    have er : rd M1 0 = rd M 0 := rd_fs f1 (fun t j ht z => by unfold pSd pCl at z; omega)
    rw [KV_eq, bPR_first_12]
    refine c_walk0 (d := d + 1) c1 b1 (by rw [er]; omega) (by rw [er]; exact full) ?_
    intro M2 f2 c2 b2 hA
    rw [er] at hA
    have hq := hq M2 rfl ⟨(f1.mono (fun t i j z => Or.inl z)).tr (f2.mono (fun t i j z => wh0_qa z)), c2, b2⟩
    unfold fiV at hq
    rw [KU_eq, bPR_first_13]
    by_cases h1 : s = -1
    · rw [if_pos h1] at hq
      rw [if_neg (fun z => z h1), bPR_first_16, bPR_first_25, hA.2.2.1]; exact hq
    · rw [if_neg h1] at hq
      rw [if_pos h1, bPR_first_20 (by omega), bPR_first_25]
      have e : M2.2 25 0 s.toNat = Int64.ofInt (phW (rd M 0) (3 + s.toNat)) := by
        rcases (by omega : s = 0 ∨ s = 1 ∨ s = 2) with rfl | rfl | rfl
        · exact hA.2.2.2.1
        · exact hA.2.2.2.2.1
        · exact hA.2.2.2.2.2
      rw [e]; exact hq
  by_cases h1 : s = -1
  · rw [if_pos h1]; exact go (by omega)
  · rw [if_neg h1, bPR_first_5, c_needShop (by omega)]
    by_cases hs : 0 ≤ s ∧ s < rd M 0 4 1
    · rw [if_pos hs, KU_eq]; exact go (by omega)
    · rw [if_neg (by omega)] at hx2
      rw [if_neg hs]; exact hx2 rfl
theorem m_late {M : Mem} {R : RT} (hc : Cur R M) (hq : ∀ M' v, MS R M M' → M'.1 10 0 0 = tR R → (tR R = 0 → v = Int64.ofInt (phW R 0)) → Q (vl v) M') : Call (d + 65) qMo_late [vr 10 0] M Q X := by
  have h20 := hc.n
  rw [eMo_late, bMo_late_0, th_ne (by omega), h20]
  by_cases h0 : R 4 1 = 0
  · rw [if_neg (fun z => z h0), bMo_late_7, bMo_late_10, m_bad1 (by omega), KV_eq, bMo_late_12, if_neg (by omega), bMo_late_13]
    refine hq _ _ (MS.th hc 1) ?_ ?_
    · unfold tR; rw [if_pos h0]; exact th0_eq
    · unfold tR; rw [if_pos h0]; intro z; omega
  rcases id hc with hc0 | ⟨B, n, T, hx, hcm⟩
  · exact absurd hc0.1 h0
  have hb := hx.wr.b
  have hn1 := hx.2.1
  rw [if_pos h0, bMo_late_9, bMo_late_10, m_bad0, KV_eq, bMo_late_12, if_pos rfl, bMo_late_15]
  obtain ⟨fs0, -⟩ := MS.t0 hc
  have hcm0 : CM R B n T (sI M 10 0 0 0) := hcm.fs (by omega) ⟨hn1, by omega⟩ (P := fun t i j => t = 10 ∧ i = 0 ∧ j = 0) (Fs.rf.sI (by omega)) (fun t i j z => by omega)
  refine m_throughC (d := d) hx hcm0 ?_
  intro M1 f1 c1 hA
  rw [KU_eq, bMo_late_17, hA.1]
  refine hq M1 _ ⟨fs0.tr (f1.mono (fun t i j z => (go_sc z).1)), Or.inr ⟨B, n, T, hx, c1⟩⟩ ?_ (fun _ => rfl)
  rw [f1.g1 10 0 0 (fun z => (go_sc z).2.1 ⟨rfl, rfl⟩)]
  unfold tR; rw [if_neg h0]; exact sI_eq
theorem m_waste {M : Mem} {R : RT} (hc : Cur R M) (hq : ∀ M' v, MS R M M' → M'.1 10 0 0 = tR R → (tR R = 0 → v = Int64.ofInt (phW R 1)) → Q (vl v) M') : Call (d + 65) qMo_waste [vr 10 0] M Q X := by
  have h20 := hc.n
  rw [eMo_waste, bMo_waste_0, th_ne (by omega), h20]
  by_cases h0 : R 4 1 = 0
  · rw [if_neg (fun z => z h0), bMo_waste_7, bMo_waste_10, m_bad1 (by omega), KV_eq, bMo_waste_12, if_neg (by omega), bMo_waste_13]
    refine hq _ _ (MS.th hc 1) ?_ ?_
    · unfold tR; rw [if_pos h0]; exact th0_eq
    · unfold tR; rw [if_pos h0]; intro z; omega
  rcases id hc with hc0 | ⟨B, n, T, hx, hcm⟩
  · exact absurd hc0.1 h0
  have hb := hx.wr.b
  have hn1 := hx.2.1
  rw [if_pos h0, bMo_waste_9, bMo_waste_10, m_bad0, KV_eq, bMo_waste_12, if_pos rfl, bMo_waste_15]
  obtain ⟨fs0, -⟩ := MS.t0 hc
  have hcm0 : CM R B n T (sI M 10 0 0 0) := hcm.fs (by omega) ⟨hn1, by omega⟩ (P := fun t i j => t = 10 ∧ i = 0 ∧ j = 0) (Fs.rf.sI (by omega)) (fun t i j z => by omega)
  refine m_throughC (d := d) hx hcm0 ?_
  intro M1 f1 c1 hA
  rw [KU_eq, bMo_waste_17, hA.2.1]
  refine hq M1 _ ⟨fs0.tr (f1.mono (fun t i j z => (go_sc z).1)), Or.inr ⟨B, n, T, hx, c1⟩⟩ ?_ (fun _ => rfl)
  rw [f1.g1 10 0 0 (fun z => (go_sc z).2.1 ⟨rfl, rfl⟩)]
  unfold tR; rw [if_neg h0]; exact sI_eq
theorem m_first {M : Mem} {R : RT} {s : Int} (hc : Cur R M) (hq : ∀ M' v, MS R M M' → M'.1 10 0 0 = tFi R s → (tFi R s = 0 → v = fiV R s) → Q (vl v) M') : Call (d + 65) qMo_first [vr 10 0, vi s] M Q X := by
  have h20 := hc.n
  rw [eMo_first, bMo_first_0, th_ne (by omega), h20]
  by_cases h0 : R 4 1 = 0
  · rw [if_neg (fun z => z h0), bMo_first_7, bMo_first_10, m_bad1 (by omega), KV_eq, bMo_first_12, if_pos (by omega), bMo_first_28]
    refine hq _ _ (MS.th hc 1) ?_ ?_
    · unfold tFi; rw [if_pos h0]; exact th0_eq
    · unfold tFi; rw [if_pos h0]; intro z; omega
  rcases id hc with hc0 | ⟨B, n, T, hx, hcm⟩
  · exact absurd hc0.1 h0
  have hb := hx.wr.b
  have hn1 := hx.2.1
  rw [if_pos h0, bMo_first_9, bMo_first_10, m_bad0, KV_eq, bMo_first_12, if_neg (by omega), bMo_first_13, th_ne (by omega), h20, w32_id (by omega), m_in, KV_eq, bMo_first_21]
  by_cases hs : -1 ≤ s ∧ s < R 4 1
  · rw [if_pos (by rw [if_pos (by omega)]; omega), bMo_first_24, bMo_first_25, m_bad0, KV_eq, bMo_first_27, if_pos rfl, bMo_first_30]
    obtain ⟨fs0, -⟩ := MS.t0 hc
    have hcm0 : CM R B n T (sI M 10 0 0 0) := hcm.fs (by omega) ⟨hn1, by omega⟩ (P := fun t i j => t = 10 ∧ i = 0 ∧ j = 0) (Fs.rf.sI (by omega)) (fun t i j z => by omega)
    refine m_throughC (d := d) hx hcm0 ?_
    intro M1 f1 c1 hA
    have hq := fun v => hq M1 v ⟨fs0.tr (f1.mono (fun t i j z => (go_sc z).1)), Or.inr ⟨B, n, T, hx, c1⟩⟩ (by
      rw [f1.g1 10 0 0 (fun z => (go_sc z).2.1 ⟨rfl, rfl⟩)]
      unfold tFi; rw [if_neg h0, if_pos hs]; exact sI_eq)
    rw [KU_eq, bMo_first_32]
    by_cases h1 : s = -1
    · rw [if_neg (fun z => z h1), bMo_first_35, c1.1.2.1, c1.1.1, m_scale (by omega) (by omega), KV_eq, bMo_first_41, bMo_first_49, hA.2.2.1]
      refine hq _ (fun _ => ?_)
      unfold fiV
      rw [if_pos h1, ofI_sub, sc_I]
    · rw [if_pos h1, bMo_first_45 (by omega), bMo_first_49, hA.2.2.2 s (by omega) (by omega)]
      refine hq _ (fun _ => ?_)
      unfold fiV
      rw [if_neg h1]
  · rw [if_neg (by rw [if_neg (by omega)]; omega), bMo_first_22, bMo_first_25, m_bad1 (by omega), KV_eq, bMo_first_27, if_neg (by omega), bMo_first_28]
    refine hq _ _ (MS.th hc 2) ?_ ?_
    · unfold tFi; rw [if_neg h0, if_neg hs]; exact th0_eq
    · unfold tFi; rw [if_neg h0, if_neg hs]; intro z; omega
end
