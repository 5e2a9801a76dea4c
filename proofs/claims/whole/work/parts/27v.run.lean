/-! LAYER 3, A RUN BY A SEED: the calls -/
/-- what the class's asking calls may change: the first board, its week, the course -/
abbrev pQa (t i j : Nat) : Prop := pSd t i j ∨ t = 47 ∨ t = 1 ∨ t = 25 ∨ t = 26
def CQa (M M' : Mem) : Prop := Fs pQa M M' ∧ CI0 M' ∧ Cb M'
theorem CI0.kp {P M M'} (h0 : CI0 M) (hb : Cb M) (hf : Fs P M M') (hp : ∀ t i j, P t i j → ¬ (t = 4 ∨ 33 ≤ t ∧ t ≤ 38) ∧ ¬ (20 ≤ t ∧ t ≤ 22) ∧ t ≠ 9 ∧ t ≠ 0) : CI0 M' ∧ Cb M' := by
  have hr : ∀ i, rd M' i = rd M i := fun i => rd_fs hf (fun t j ht z => (hp _ _ _ z).1 ht)
  refine ⟨h0.fs hf (fun b hb3 => (h0.1 b hb3).fs hf (fun t j ht z => (hp _ _ _ z).2.1 (by omega))) ((h0.2.1 5 (by omega) (by omega)).fs hf (fun t j ht _ z => (hp _ _ _ z).1 ht)) (fun t i j z => ⟨fun y => (hp _ _ _ z).1 y.1, fun y => (hp _ _ _ z).2.2.1 y.1⟩), ?_⟩
  have e91 : M'.1 9 0 1 = M.1 9 0 1 := hf.g1 9 0 1 (fun z => (hp _ _ _ z).2.2.1 rfl)
  have e02 : M'.1 0 0 2 = M.1 0 0 2 := hf.g1 0 0 2 (fun z => (hp _ _ _ z).2.2.2 rfl)
  refine ⟨by rw [e91, e02]; exact hb.1, ?_⟩
  intro i hi hn hs
  rw [hr i] at hn ⊢
  rw [e02, hf.g1 4 i 0 (fun z => (hp _ _ _ z).1 (Or.inl rfl))] at hs
  exact (hb.2 i hi hn hs).fs hf (fun t j ht z => (hp _ _ _ z).2.1 (by omega))
section
variable {d : Nat} {Q : AV → Mem → Prop} {X : Nat → Mem → Prop}
theorem c_run {M : Mem} {g k : Int} (h0 : CI0 M) (hb : Cb M) (hx1 : tRn (rd M 0) k = 1 → X 0 M) (hx2 : tRn (rd M 0) k = 2 → X 2 M) (hq : ∀ M', tRn (rd M 0) k = 0 → CQa M M' → Q (vi (rnV (rd M 0) g k)) M') : Call (d + 8) qPR_run [vr 9 0, vi g, vi k] M Q X := by
  have hW := h0.2.2.1 0 (by omega)
  have hbb := hW.b
  unfold tRn at hx1 hx2 hq
  rw [ePR_run, bPR_run_0, c_needRace]
  by_cases hn : rd M 0 4 1 = 0
  · rw [if_pos hn] at hx1; rw [if_pos hn]; exact hx1 rfl
  rw [if_neg hn] at hq hx2
  rw [if_neg hn, KU_eq, bPR_run_2]
  by_cases hs : 0 ≤ k ∧ k ≤ 3
  · rw [if_pos hs] at hq
    rw [if_neg (by omega), bPR_run_4, if_pos (by omega), bPR_run_12]
    refine c_settled h0 hb (by omega) ?_
    intro M1 f1 c1 b1 full
    have er : rd M1 0 = rd M 0 := rd_fs f1 (fun t j ht z => by unfold pSd pCl at z; omega)
    have hq := fun M' => hq M' rfl
    generalize rd M 0 = R at *
    rw [KV_eq, bPR_run_16]
    have hx : 0 ≤ bgn R ∧ bgn R < 125 := bgo_R hW (R 4 1)
    refine c_drive (d := d + 2) er hW full (c1.1 0 (by omega)) ?_ (dvR_R hW _ _ hx (bgn_plain hW).2.2.2)
    intro M2 f2 hc h7
    have f2' : Fs pQa M M2 := (f1.mono (fun t i j z => Or.inl z)).tr (f2.mono (fun t i j z => by unfold pDr pOp at z; unfold pSd pCl; omega))
    obtain ⟨c2, b2⟩ := c1.kp b1 f2 (fun t i j z => by have := dr_no z; omega)
    have hq := hq M2 ⟨f2', c2, b2⟩
    unfold rnV rnS at hq
    rw [KU_eq, bPR_run_18]
    rcases (by omega : k = 0 ∨ k = 1 ∨ k = 2 ∨ k = 3) with rfl | rfl | rfl | rfl
    · rw [show tsel 0 2 [32, 20, 24, 28] 0 = 20 from rfl, bPR_run_20, hc.2.2]
      rw [if_pos rfl] at hq; exact hq
    · rw [show tsel 0 2 [32, 20, 24, 28] 1 = 24 from rfl, bPR_run_24, hc.1]
      rw [if_neg (by omega), if_pos rfl] at hq; exact hq
    · rw [show tsel 0 2 [32, 20, 24, 28] 2 = 28 from rfl, bPR_run_28, hc.2.1]
      rw [if_neg (by omega), if_neg (by omega), if_pos rfl] at hq; exact hq
    · rw [show tsel 0 2 [32, 20, 24, 28] 3 = 32 from rfl, bPR_run_32, h7]
      rw [if_neg (by omega), if_neg (by omega), if_neg (by omega)] at hq; exact hq
  · rw [if_neg hs] at hx2
    by_cases h1 : k < 0
    · rw [if_pos h1, bPR_run_7]; exact hx2 rfl
    · rw [if_neg h1, bPR_run_4, if_neg (by omega), bPR_run_7]; exact hx2 rfl
theorem m_run {M : Mem} {R : RT} {g k : Int} (hc : Cur R M) (hq : ∀ M' v, MS R M M' → M'.1 10 0 0 = tRn R k → (tRn R k = 0 → v = rnV R g k) → Q (vi v) M') : Call (d + 64) qMo_run [vr 10 0, vi g, vi k] M Q X := by
  have h20 := hc.n
  rw [eMo_run, bMo_run_0, th_ne (by omega), h20]
  by_cases h0 : R 4 1 = 0
  · rw [if_neg (fun z => z h0), bMo_run_7, bMo_run_10, m_bad1 (by omega), KV_eq, bMo_run_12, if_pos (by omega), bMo_run_25]
    refine hq _ _ (MS.th hc 1) ?_ ?_
    · unfold tRn; rw [if_pos h0]; exact th0_eq
    · unfold tRn; rw [if_pos h0]; intro z; omega
  rw [if_pos h0, bMo_run_9, bMo_run_10, m_bad0, KV_eq, bMo_run_12, if_neg (by omega), bMo_run_13, m_in, KV_eq, bMo_run_18]
  rcases id hc with hc0 | ⟨B, n, T, hx, hcm⟩
  · exact absurd hc0.1 h0
  have hW := hx.wr
  have hb := hW.b
  have hn1 := hx.2.1
  by_cases hs : 0 ≤ k ∧ k ≤ 3
  · rw [if_pos (by rw [if_pos hs]; omega), bMo_run_21, bMo_run_22, m_bad0, KV_eq, bMo_run_24, if_pos rfl, bMo_run_27]
    obtain ⟨fs0, -⟩ := MS.t0 hc
    have hcm0 : CM R B n T (sI M 10 0 0 0) := hcm.fs (by omega) ⟨hn1, by omega⟩ (P := fun t i j => t = 10 ∧ i = 0 ∧ j = 0) (Fs.rf.sI (by omega)) (fun t i j z => by omega)
    refine m_solveC (d := d) hx hcm0 ?_
    intro M1 f c1 sv
    have hM1 := c1.1
    have hxb : 0 ≤ bgn R ∧ bgn R < 125 := bgo_R hW (R 4 1)
    have hpl := bgn_plain hW
    have hev : ∀ s : Int, 0 ≤ s → s < 3 → bit (evb R) s = if s < R 4 1 then 1 else 0 := fun s s0 s3 => bit_evb ⟨hn1, by omega⟩ ⟨s0, s3⟩
    have hbe : 0 ≤ evb R ∧ evb R < pw (R 4 1) := by
      unfold evb
      have := pw_n (n := R 4 1) ⟨hn1, by omega⟩
      omega
    have hS : Sta R (bgn R) (evb R) := sta_of hW hn1 hxb hpl.2.2.2 hbe
    have hcdo := cdo_evb hW hn1 hxb hpl
    have hnf : ¬ hfP (bgn R) (evb R) := by
      have hd : ∀ s : Int, 0 ≤ s → s < 3 → ¬ (bit (evb R) s = 1 ∧ dg (bgn R) s = 0) := by
        intro s s0 s3 z
        rw [hev s s0 s3, dg_bgn hW ⟨s0, s3⟩] at z
        have := stp_n hW ⟨s0, s3⟩
        by_cases hsn : s < R 4 1
        · have := this.mp hsn; omega
        · rw [if_neg hsn] at z; omega
      intro z
      rcases z with z | z | z
      · exact hd 0 (by omega) (by omega) z
      · exact hd 1 (by omega) (by omega) z
      · exact hd 2 (by omega) (by omega) z
    have hcd : cd (bgn R) (evb R) = bgn R := by unfold cdo at hcdo; rw [if_neg hnf] at hcdo; exact hcdo
    have hI : RnI R (g, bgn R, 0, 0, 0) (bgn R) (evb R) := ⟨hS, fun s s0 s3 => by rw [dg_bgn hW ⟨s0, s3⟩]; omega, wnb_0.mpr hnf, hcd⟩
    rw [KU_eq, bMo_run_29, m_beginPlace hM1 hW, KV_eq, bMo_run_33, m_everybody hM1 hW, KV_eq, bMo_run_36]
    have hw2 := hx.pz.2
    refine m_runLoop (d := d + 60) (M0 := M1) (R := R) (k := k) (g0 := g) hW hn1 (R 4 2).toNat (g, bgn R, 0, 0, 0) (bgn R) (evb R) M1 _ _ _ (by omega) Fs.rf hM1 sv hI ?_ ?_ ?_
    · show (0 : Int) = _; omega
    · show (0 : Int) ≤ 0 ∧ (0 : Int) ≤ _; omega
    · intro M2 p' b' g' z8 z9 z10 f2 hM2 sv2 hI2
      refine m_runEnd (d := d + 60) hM2 hW hI2.1 ?_
      have hcm2 : CM R B n T M2 := c1.fs (by omega) ⟨hn1, by omega⟩ f2 (fun t i j z => by omega)
      refine hq M2 _ ⟨(fs0.tr (f.mono (fun t i j z => (sv_sc z).1))).tr (f2.mono (fun t i j z => by unfold scM; omega)), Or.inr ⟨B, n, T, hx, hcm2⟩⟩ ?_ ?_
      · rw [f2.g1 10 0 0 (by omega), f.g1 10 0 0 (fun z => (sv_sc z).2 ⟨rfl, rfl⟩)]
        unfold tRn; rw [if_neg h0, if_pos hs]; exact sI_eq
      · intro _
        unfold rnV rnS
        have hbe := bits_eq (p := p') (b := b') hI2.1.2.1
        rw [hI2.2.2.1, hI2.2.2.2] at hbe
        rw [hbe, ← hI2.2.2.1]
  · rw [if_neg (by rw [if_neg hs]; omega), bMo_run_19, bMo_run_22, m_bad1 (by omega), KV_eq, bMo_run_24, if_neg (by omega), bMo_run_25]
    refine hq _ _ (MS.th hc 2) ?_ ?_
    · unfold tRn; rw [if_neg h0, if_neg hs]; exact th0_eq
    · unfold tRn; rw [if_neg h0, if_neg hs]; intro z; omega
end
