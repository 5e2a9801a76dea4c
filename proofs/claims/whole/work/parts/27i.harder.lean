/-! LAYER 3, WHO RUNS HARDER, WHO LEAVES: the calls -/
theorem cst_Q {R : RT} {s e : Int} : cst R s e = cst R s e := rfl
/-- how a call that asks for a race alone ends, and one that asks for a shop too -/
def tR (R : RT) : Int := if R 4 1 = 0 then 1 else 0
def tS (R : RT) (s : Int) : Int := if R 4 1 = 0 then 1 else if 0 ≤ s ∧ s < R 4 1 then 0 else 2
section
variable {d : Nat} {Q : AV → Mem → Prop} {X : Nat → Mem → Prop}
theorem c_harder {M : Mem} (h0 : CI0 M) (hb : Cb M) (hx : tR (rd M 0) = 1 → X 0 M) (hq : ∀ M', tR (rd M 0) = 0 → CQ M M' → Q (vi (cnA (rd M 0) (hrd (rd M 0)))) M') : Call (d + 8) qPR_harder [vr 9 0] M Q X := by
  have hW := h0.2.2.1 0 (by omega)
  have hbb := hW.b
  unfold tR at hx hq
  rw [ePR_harder, bPR_harder_0, c_needRace]
  by_cases hn : rd M 0 4 1 = 0
  · rw [if_pos hn] at hx; rw [if_pos hn]; exact hx rfl
  rw [if_neg hn] at hq
  rw [if_neg hn, KU_eq, bPR_harder_2]
  refine c_settled h0 hb (by omega) ?_
  intro M1 f1 c1 b1 full
  have er : rd M1 0 = rd M 0 := rd_fs f1 (fun t j ht z => by unfold pSd pCl at z; omega)
  rw [KV_eq, bPR_harder_4, c_statesRunHarder (d := d + 2) (by rw [er]; exact hW) (by rw [er]; exact full) (c1.1 0 (by omega)), KV_eq, bPR_harder_5, er]
  exact hq M1 rfl ⟨f1, c1, b1⟩
theorem c_behind {M : Mem} (h0 : CI0 M) (hb : Cb M) (hx : tR (rd M 0) = 1 → X 0 M) (hq : ∀ M', tR (rd M 0) = 0 → CQ M M' → Q (vi (bhF (rd M 0) (hrd (rd M 0)) (rd M 0 4 2).toNat)) M') : Call (d + 8) qPR_behind [vr 9 0] M Q X := by
  have hW := h0.2.2.1 0 (by omega)
  have hbb := hW.b
  unfold tR at hx hq
  rw [ePR_behind, bPR_behind_0, c_needRace]
  by_cases hn : rd M 0 4 1 = 0
  · rw [if_pos hn] at hx; rw [if_pos hn]; exact hx rfl
  rw [if_neg hn] at hq
  rw [if_neg hn, KU_eq, bPR_behind_2]
  refine c_settled h0 hb (by omega) ?_
  intro M1 f1 c1 b1 full
  have er : rd M1 0 = rd M 0 := rd_fs f1 (fun t j ht z => by unfold pSd pCl at z; omega)
  rw [KV_eq, bPR_behind_4, c_firstRunHarder (d := d + 2) (by rw [er]; exact hW) (by rw [er]; exact full) (c1.1 0 (by omega)), KV_eq, bPR_behind_5, er]
  exact hq M1 rfl ⟨f1, c1, b1⟩
theorem c_leavers {M : Mem} {s : Int} (h0 : CI0 M) (hb : Cb M) (hx1 : tS (rd M 0) s = 1 → X 0 M) (hx2 : tS (rd M 0) s = 2 → X 1 M) (hq : ∀ M', tS (rd M 0) s = 0 → CQ M M' → Q (vi (cnA (rd M 0) (lvB (rd M 0) s))) M') : Call (d + 8) qPR_leavers [vr 9 0, vi s] M Q X := by
  have hW := h0.2.2.1 0 (by omega)
  have hbb := hW.b
  unfold tS at hx1 hx2 hq
  rw [ePR_leavers, bPR_leavers_0, c_needRace]
  by_cases hn : rd M 0 4 1 = 0
  · rw [if_pos hn] at hx1; rw [if_pos hn]; exact hx1 rfl
  rw [if_neg hn] at hq hx2
  rw [if_neg hn, KU_eq, bPR_leavers_2, c_needShop (by omega)]
  by_cases hs : 0 ≤ s ∧ s < rd M 0 4 1
  · rw [if_pos hs] at hq
    rw [if_pos hs, KU_eq, bPR_leavers_5]
    refine c_settled h0 hb (by omega) ?_
    intro M1 f1 c1 b1 full
    have er : rd M1 0 = rd M 0 := rd_fs f1 (fun t j ht z => by unfold pSd pCl at z; omega)
    rw [KV_eq, bPR_leavers_7, c_statesLeftBy (d := d + 2) (by rw [er]; exact hW) (by rw [er]; exact full) (c1.1 0 (by omega)), KV_eq, bPR_leavers_9, er]
    exact hq M1 rfl ⟨f1, c1, b1⟩
  · rw [if_neg hs] at hx2 ⊢; exact hx2 rfl
/-- what the reference's tables say of a plain state -/
theorem row_evb {R : RT} {M : Mem} (h : WR R) (hn : 1 ≤ R 4 1) (sv : Solved R M) {w p s : Int} (hw : 0 ≤ w ∧ w ≤ R 4 2) (hp : 0 ≤ p ∧ p < 125) (hpl : plainP R p) (hs : 0 ≤ s ∧ s < R 4 1) : M.1 75 (((0 * 7 + w.toNat) * 125 + p.toNat) * 8 + (evb R).toNat) s.toNat = rwD R w p s := by
  have hb := h.b
  have hpw := pw_n (n := R 4 1) (by omega)
  have := (sv w p (evb R) hw.1 hw.2 hp.1 hp.2 hpl.2.2.2 (by unfold evb; omega) (by unfold evb; omega)).row hs.1 hs.2
  rw [cdo_evb h hn hp hpl] at this
  exact this
theorem m_isHarder {M : Mem} {R : RT} {w p : Int} (hM : MR R M) (h : WR R) (hn : 1 ≤ R 4 1) (sv : Solved R M) (hw : 0 ≤ w ∧ w ≤ R 4 2) (hp : 0 ≤ p ∧ p < 125) (hpl : plainP R p) : Call (d + 4) qMo_isHarder [vr 10 0, vi w, vi p] M Q X = Q (vi (b01 (hrd R w p))) M := by
  have hb := h.b
  have hpw := pw_n (n := R 4 1) (by omega)
  have hev : 0 ≤ evb R ∧ evb R < 8 := by unfold evb; omega
  have er := fun s a b => row_evb h hn sv hw hp hpl (s := s) ⟨a, b⟩
  rw [eMo_isHarder, bMo_isHarder_0, m_everybody hM h, KV_eq, bMo_isHarder_2]
  have inner : ∀ i : Int, 0 ≤ i → i < R 4 1 → At (d + 3) kMo_isHarder 11 [vr 10 0, vi w, vi p, vi (evb R), vi i, vi 0] [] M Q X = if fs2 (fun j => decide (hr1 R w p i j)) 0 (R 4 1).toNat = -1 then At (d + 3) kMo_isHarder 5 [vr 10 0, vi w, vi p, vi (evb R), vi (i + 1), vi (R 4 1)] [] M Q X else Q (vi 1) M := by
    intro i i0 i1
    refine find_eq (α := Unit) (A := fun j _ => At (d + 3) kMo_isHarder 11 [vr 10 0, vi w, vi p, vi (evb R), vi i, vi j] [] M Q X) (G := fun _ => Q (vi 1) M) (R 4 1).toNat 0 (by omega) ?_ ?_ ()
    · intro j _ j0 j1
      refine ⟨(), ?_⟩
      have e2 : w32 (j + 1) = j + 1 := w32_id (by omega)
      show At _ _ _ _ _ _ _ _ = _
      rw [bMo_isHarder_11, hM.1, if_neg (by omega), bMo_isHarder_15, m_stepsOf hp, KV_eq, bMo_isHarder_18, m_stepsOf hp, KV_eq, bMo_isHarder_21]
      by_cases hd : dg p j < dg p i
      · rw [if_neg (by omega), bMo_isHarder_22 (by omega), er i i0 i1, m_costOf hM h (by omega) rwD_R, KV_eq, bMo_isHarder_35 (by omega), er j (by omega) (by omega), m_costOf hM h (by omega) rwD_R, KV_eq, bMo_isHarder_48]
        by_cases hc : cst R j (rwD R w p j) < cst R i (rwD R w p i)
        · rw [if_neg (by omega), if_pos (decide_eq_true ⟨hd, hc⟩), bMo_isHarder_49, md12.1]
        · rw [if_pos (by omega), if_neg (fun z => hc (of_decide_eq_true z).2), bMo_isHarder_51, e2]
      · rw [if_pos (by omega), if_neg (fun z => hd (of_decide_eq_true z).1), bMo_isHarder_51, e2]
    · intro _
      show At _ _ _ _ _ _ _ _ = _
      rw [bMo_isHarder_11, hM.1, if_pos (by omega), bMo_isHarder_53, w32_id (by omega), show (0 : Int) + ((R 4 1).toNat : Int) = R 4 1 by omega]
  have outer := find_eq (α := AV) (A := fun i z => At (d + 3) kMo_isHarder 5 [vr 10 0, vi w, vi p, vi (evb R), vi i, z] [] M Q X) (G := fun _ => Q (vi 1) M) (F := Q (vi 0) M) (f := fun i => decide (fs2 (fun j => decide (hr1 R w p i j)) 0 (R 4 1).toNat ≠ -1)) (R 4 1).toNat 0 (by omega) (by
      intro i z i0 i1
      refine ⟨vi (R 4 1), ?_⟩
      show At _ _ _ _ _ _ _ _ = _
      rw [bMo_isHarder_5, hM.1, if_neg (by omega), bMo_isHarder_9, inner i i0 (by omega)]
      by_cases hc : fs2 (fun j => decide (hr1 R w p i j)) 0 (R 4 1).toNat = -1
      · rw [if_pos hc, if_neg (fun z => (of_decide_eq_true z) hc)]
      · rw [if_neg hc, if_pos (decide_eq_true hc)]) (by
      intro z
      show At _ _ _ _ _ _ _ _ = _
      rw [bMo_isHarder_5, hM.1, if_pos (by omega), bMo_isHarder_55, md12.2]) JK
  rw [outer]
  unfold hrd b01
  simp only [decide_eq_true_eq]
  split <;> rename_i hh
  · rw [if_neg (fun z => z hh)]
  · first | rfl | rw [if_pos hh]
theorem m_harder {M : Mem} {R : RT} (hc : Cur R M) (hq : ∀ M' v, MS R M M' → M'.1 10 0 0 = tR R → (tR R = 0 → v = cnA R (hrd R)) → Q (vi v) M') : Call (d + 64) qMo_harder [vr 10 0] M Q X := by
  have h20 := hc.n
  rw [eMo_harder, bMo_harder_0, th_ne (by omega), h20]
  by_cases h0 : R 4 1 = 0
  · rw [if_neg (fun z => z h0), bMo_harder_7, bMo_harder_10, m_bad1 (by omega), KV_eq, bMo_harder_12, if_neg (by omega), bMo_harder_13]
    refine hq _ _ (MS.th hc 1) ?_ ?_
    · unfold tR; rw [if_pos h0]; exact th0_eq
    · unfold tR; rw [if_pos h0]; intro z; omega
  rw [if_pos h0, bMo_harder_9, bMo_harder_10, m_bad0, KV_eq, bMo_harder_12, if_pos rfl, bMo_harder_15]
  rcases id hc with hc0 | ⟨B, n, T, hx, hcm⟩
  · exact absurd hc0.1 h0
  have hW := hx.wr
  have hb := hW.b
  have hn1 := hx.2.1
  obtain ⟨fs0, -⟩ := MS.t0 hc
  have hcm0 : CM R B n T (sI M 10 0 0 0) := hcm.fs (by omega) ⟨hn1, by omega⟩ (P := fun t i j => t = 10 ∧ i = 0 ∧ j = 0) (Fs.rf.sI (by omega)) (fun t i j z => by omega)
  refine m_solveC (d := d) hx hcm0 ?_
  intro M' f c' sv
  have hM := c'.1
  have hq' := hq M' (cnA R (hrd R)) ⟨fs0.tr (f.mono (fun t i j z => (sv_sc z).1)), Or.inr ⟨B, n, T, hx, c'⟩⟩ (by unfold tR; rw [if_neg h0, f.g1 10 0 0 (fun z => (sv_sc z).2 ⟨rfl, rfl⟩)]; exact sI_eq) (fun _ => rfl)
  rw [KU_eq, bMo_harder_17, hM.2.1]
  have inner : ∀ w acc : Int, 1 ≤ w → w ≤ R 4 2 → 0 ≤ acc → acc ≤ 1000000 → At (d + 63) kMo_harder 26 [vr 10 0, vi acc, vi w, vi 0] [] M' Q X = At (d + 63) kMo_harder 26 [vr 10 0, vi (acc + cnP R (hrd R) w), vi w, vi 125] [] M' Q X := by
    intro w acc w0 w1 a0 a1
    obtain ⟨_, e⟩ := sum_up0 (α := Unit) (A := fun x acc _ => At (d + 63) kMo_harder 26 [vr 10 0, vi acc, vi w, vi x] [] M' Q X) (f := fun x => b01 (plB R x && hrd R w x)) (c := 1) (B := 1000124) (fun k => b01_R _) (by simp only [plB_0 hn1, Bool.false_and]; rfl) 124 (by
      intro x acc _ x0 x1 b0 b1
      refine ⟨(), ?_⟩
      show At _ _ _ _ _ _ _ _ = At _ _ _ _ _ _ _ _
      rw [bMo_harder_26, if_neg (by omega), bMo_harder_29, m_isWhole hM hW (by omega), KV_eq, bMo_harder_33]
      by_cases hpl : plB R x = true
      · have hfit : plainP R x := of_decide_eq_true hpl
        rw [hpl, b01_t, if_neg (by omega), bMo_harder_34, m_isHarder (d := d + 59) hM hW hn1 sv (by omega) (by omega) hfit, KV_eq, bMo_harder_38, Bool.true_and]
        by_cases hh : hrd R w x = true
        · rw [hh, b01_t, if_neg (by omega), bMo_harder_39, bMo_harder_42, w32_id (by omega), w32_id (by omega)]
        · rw [Bool.not_eq_true] at hh
          rw [hh, b01_f, if_pos rfl, bMo_harder_41, bMo_harder_42, w32_id (by omega), w32_id (by omega)]
      · rw [Bool.not_eq_true] at hpl
        rw [hpl, Bool.false_and, b01_f, if_pos rfl, bMo_harder_41, bMo_harder_42, w32_id (by omega), w32_id (by omega)]) acc () a0 (by omega)
    exact e
  have hnw : ((R 4 2).toNat : Int) = R 4 2 := by omega
  obtain ⟨z', e⟩ := sum_dn (α := AV) (A := fun w acc z => At (d + 63) kMo_harder 22 [vr 10 0, vi acc, vi w, z] [] M' Q X) (f := fun w => cnP R (hrd R) w) (c := 124) (B := 1000000) (fun k => cnP_R k) (R 4 2).toNat (by
    intro w acc z w0 w1 a0 a1
    refine ⟨vi 125, ?_⟩
    show At _ _ _ _ _ _ _ _ = At _ _ _ _ _ _ _ _
    rw [bMo_harder_22, if_neg (by omega), bMo_harder_24, inner w acc w0 (by omega) a0 (by omega), bMo_harder_26, if_pos (by omega), bMo_harder_46, show w + -1 = w - 1 by omega, w32_id (by omega)]) 0 JK (by omega) (by omega)
  rw [hnw] at e
  refine e.mpr ?_
  show At _ _ _ _ _ _ _ _
  rw [bMo_harder_22, if_pos (by omega), bMo_harder_48, Int.zero_add]
  exact hq'
theorem m_leavers {M : Mem} {R : RT} {s : Int} (hc : Cur R M) (hq : ∀ M' v, MS R M M' → M'.1 10 0 0 = tS R s → (tS R s = 0 → v = cnA R (lvB R s)) → Q (vi v) M') : Call (d + 64) qMo_leavers [vr 10 0, vi s] M Q X := by
  have h20 := hc.n
  rw [eMo_leavers, bMo_leavers_0, th_ne (by omega), h20]
  by_cases h0 : R 4 1 = 0
  · rw [if_neg (fun z => z h0), bMo_leavers_7, bMo_leavers_10, m_bad1 (by omega), KV_eq, bMo_leavers_12, if_pos (by omega), bMo_leavers_28]
    refine hq _ _ (MS.th hc 1) ?_ ?_
    · unfold tS; rw [if_pos h0]; exact th0_eq
    · unfold tS; rw [if_pos h0]; intro z; omega
  rw [if_pos h0, bMo_leavers_9, bMo_leavers_10, m_bad0, KV_eq, bMo_leavers_12, if_neg (by omega), bMo_leavers_13, th_ne (by omega), h20]
  rcases id hc with hc0 | ⟨B, n, T, hx, hcm⟩
  · exact absurd hc0.1 h0
  have hW := hx.wr
  have hb := hW.b
  have hn1 := hx.2.1
  have hpw := pw_n (n := R 4 1) (by omega)
  have hev : 0 ≤ evb R ∧ evb R < 8 := by unfold evb; omega
  rw [w32_id (by omega), m_in, KV_eq, bMo_leavers_21]
  by_cases hs : 0 ≤ s ∧ s < R 4 1
  · rw [if_pos (by rw [if_pos (by omega)]; omega), bMo_leavers_24, bMo_leavers_25, m_bad0, KV_eq, bMo_leavers_27, if_pos rfl, bMo_leavers_30]
    obtain ⟨fs0, -⟩ := MS.t0 hc
    have hcm0 : CM R B n T (sI M 10 0 0 0) := hcm.fs (by omega) ⟨hn1, by omega⟩ (P := fun t i j => t = 10 ∧ i = 0 ∧ j = 0) (Fs.rf.sI (by omega)) (fun t i j z => by omega)
    refine m_solveC (d := d) hx hcm0 ?_
    intro M' f c' sv
    have hM := c'.1
    have hq' := hq M' (cnA R (lvB R s)) ⟨fs0.tr (f.mono (fun t i j z => (sv_sc z).1)), Or.inr ⟨B, n, T, hx, c'⟩⟩ (by unfold tS; rw [if_neg h0, if_pos hs, f.g1 10 0 0 (fun z => (sv_sc z).2 ⟨rfl, rfl⟩)]; exact sI_eq) (fun _ => rfl)
    rw [KU_eq, bMo_leavers_32, hM.2.1]
    have inner : ∀ w acc : Int, 1 ≤ w → w ≤ R 4 2 → 0 ≤ acc → acc ≤ 1000000 → At (d + 63) kMo_leavers 41 [vr 10 0, vi s, vi acc, vi w, vi 0] [] M' Q X = At (d + 63) kMo_leavers 41 [vr 10 0, vi s, vi (acc + cnP R (lvB R s) w), vi w, vi 125] [] M' Q X := by
      intro w acc w0 w1 a0 a1
      obtain ⟨_, e⟩ := sum_up0 (α := Unit) (A := fun x acc _ => At (d + 63) kMo_leavers 41 [vr 10 0, vi s, vi acc, vi w, vi x] [] M' Q X) (f := fun x => b01 (plB R x && lvB R s w x)) (c := 1) (B := 1000124) (fun k => b01_R _) (by simp only [plB_0 hn1, Bool.false_and]; rfl) 124 (by
        intro x acc _ x0 x1 b0 b1
        refine ⟨(), ?_⟩
        show At _ _ _ _ _ _ _ _ = At _ _ _ _ _ _ _ _
        rw [bMo_leavers_41, if_neg (by omega), bMo_leavers_44, m_isWhole hM hW (by omega), KV_eq, bMo_leavers_48]
        by_cases hpl : plB R x = true
        · have hfit : plainP R x := of_decide_eq_true hpl
          have er := row_evb hW hn1 sv (w := w) (p := x) (s := s) (by omega) (by omega) hfit hs
          rw [hpl, b01_t, if_neg (by omega), bMo_leavers_49 (by omega), m_everybody hM hW, KV_eq, bMo_leavers_57 (by omega), er, Bool.true_and]
          unfold lvB b01
          simp only [decide_eq_true_eq]
          by_cases hh : rwD R w x s = 4
          · rw [if_neg (fun z => z hh), if_pos hh, bMo_leavers_62, bMo_leavers_65, w32_id (by omega), w32_id (by omega)]
          · rw [if_pos hh, if_neg hh, bMo_leavers_64, bMo_leavers_65, w32_id (by omega), w32_id (by omega)]
        · rw [Bool.not_eq_true] at hpl
          rw [hpl, Bool.false_and, b01_f, if_pos rfl, bMo_leavers_64, bMo_leavers_65, w32_id (by omega), w32_id (by omega)]) acc () a0 (by omega)
      exact e
    have hnw : ((R 4 2).toNat : Int) = R 4 2 := by omega
    obtain ⟨z', e⟩ := sum_dn (α := AV) (A := fun w acc z => At (d + 63) kMo_leavers 37 [vr 10 0, vi s, vi acc, vi w, z] [] M' Q X) (f := fun w => cnP R (lvB R s) w) (c := 124) (B := 1000000) (fun k => cnP_R k) (R 4 2).toNat (by
      intro w acc z w0 w1 a0 a1
      refine ⟨vi 125, ?_⟩
      show At _ _ _ _ _ _ _ _ = At _ _ _ _ _ _ _ _
      rw [bMo_leavers_37, if_neg (by omega), bMo_leavers_39, inner w acc w0 (by omega) a0 (by omega), bMo_leavers_41, if_pos (by omega), bMo_leavers_69, show w + -1 = w - 1 by omega, w32_id (by omega)]) 0 JK (by omega) (by omega)
    rw [hnw] at e
    refine e.mpr ?_
    show At _ _ _ _ _ _ _ _
    rw [bMo_leavers_37, if_pos (by omega), bMo_leavers_71, Int.zero_add]
    exact hq'
  · rw [if_neg (by rw [if_neg (by omega)]; omega), bMo_leavers_22, bMo_leavers_25, m_bad1 (by omega), KV_eq, bMo_leavers_27, if_neg (by omega), bMo_leavers_28]
    refine hq _ _ (MS.th hc 2) ?_ ?_
    · unfold tS; rw [if_neg h0, if_neg hs]; exact th0_eq
    · unfold tS; rw [if_neg h0, if_neg hs]; intro z; omega
theorem m_behind {M : Mem} {R : RT} (hc : Cur R M) (hq : ∀ M' v, MS R M M' → M'.1 10 0 0 = tR R → (tR R = 0 → v = bhF R (hrd R) (R 4 2).toNat) → Q (vi v) M') : Call (d + 64) qMo_behind [vr 10 0] M Q X := by
  have h20 := hc.n
  rw [eMo_behind, bMo_behind_0, th_ne (by omega), h20]
  by_cases h0 : R 4 1 = 0
  · rw [if_neg (fun z => z h0), bMo_behind_7, bMo_behind_10, m_bad1 (by omega), KV_eq, bMo_behind_12, if_neg (by omega), bMo_behind_13]
    refine hq _ _ (MS.th hc 1) ?_ ?_
    · unfold tR; rw [if_pos h0]; exact th0_eq
    · unfold tR; rw [if_pos h0]; intro z; omega
  rw [if_pos h0, bMo_behind_9, bMo_behind_10, m_bad0, KV_eq, bMo_behind_12, if_pos rfl, bMo_behind_15]
  rcases id hc with hc0 | ⟨B, n, T, hx, hcm⟩
  · exact absurd hc0.1 h0
  have hW := hx.wr
  have hb := hW.b
  have hn1 := hx.2.1
  obtain ⟨fs0, -⟩ := MS.t0 hc
  have hcm0 : CM R B n T (sI M 10 0 0 0) := hcm.fs (by omega) ⟨hn1, by omega⟩ (P := fun t i j => t = 10 ∧ i = 0 ∧ j = 0) (Fs.rf.sI (by omega)) (fun t i j z => by omega)
  refine m_solveC (d := d) hx hcm0 ?_
  intro M' f c' sv
  have hM := c'.1
  have hq' := hq M' (bhF R (hrd R) (R 4 2).toNat) ⟨fs0.tr (f.mono (fun t i j z => (sv_sc z).1)), Or.inr ⟨B, n, T, hx, c'⟩⟩ (by unfold tR; rw [if_neg h0, f.g1 10 0 0 (fun z => (sv_sc z).2 ⟨rfl, rfl⟩)]; exact sI_eq) (fun _ => rfl)
  rw [KU_eq, bMo_behind_17, hM.2.1]
  have inner : ∀ w : Int, 1 ≤ w → w ≤ R 4 2 → At (d + 63) kMo_behind 24 [vr 10 0, vi w, vi 0] [] M' Q X = if bh1 R (hrd R) w = -1 then At (d + 63) kMo_behind 20 [vr 10 0, vi (w - 1), vi 125] [] M' Q X else Q (vi (1000 * w + dg (bh1 R (hrd R) w) 0 + 10 * dg (bh1 R (hrd R) w) 1 + 100 * dg (bh1 R (hrd R) w) 2)) M' := by
    intro w w0 w1
    unfold bh1
    rw [← fs2_1 (f := fun x => plB R x && hrd R w x) (by simp only [plB_0 hn1, Bool.false_and])]
    refine find_eq (α := Unit) (A := fun x _ => At (d + 63) kMo_behind 24 [vr 10 0, vi w, vi x] [] M' Q X) (G := fun x => Q (vi (1000 * w + dg x 0 + 10 * dg x 1 + 100 * dg x 2)) M') 125 0 (by omega) ?_ ?_ ()
    · intro x _ x0 x1
      refine ⟨(), ?_⟩
      have ex : w32 (x + 1) = x + 1 := w32_id (by omega)
      show At _ _ _ _ _ _ _ _ = _
      rw [bMo_behind_24, if_neg (by omega), bMo_behind_27, m_isWhole hM hW (by omega), KV_eq, bMo_behind_30]
      by_cases hpl : plB R x = true
      · have hfit : plainP R x := of_decide_eq_true hpl
        rw [hpl, b01_t, if_neg (by omega), bMo_behind_31, m_isHarder (d := d + 59) hM hW hn1 sv (by omega) (by omega) hfit, KV_eq, bMo_behind_35, Bool.true_and]
        by_cases hh : hrd R w x = true
        · have g0 := dg_R x 0
          have g1 := dg_R x 1
          have g2 := dg_R x 2
          rw [hh, b01_t, if_neg (by omega), if_pos rfl, bMo_behind_36, m_stepsOf (by omega), KV_eq, bMo_behind_42, m_stepsOf (by omega), KV_eq, bMo_behind_47, m_stepsOf (by omega), KV_eq, bMo_behind_53]
          rw [w32_id (z := 1000 * w) (by omega), w32_id (z := 10 * dg x 1) (by omega), w32_id (z := 100 * dg x 2) (by omega), w32_id (z := 1000 * w + dg x 0) (by omega), w32_id (z := 1000 * w + dg x 0 + 10 * dg x 1) (by omega), w32_id (by omega)]
        · rw [Bool.not_eq_true] at hh
          rw [hh, b01_f, if_pos rfl, if_neg (by simp), bMo_behind_56, ex]
      · rw [Bool.not_eq_true] at hpl
        rw [hpl, Bool.false_and, b01_f, if_pos rfl, if_neg (by simp), bMo_behind_56, ex]
    · intro _
      show At _ _ _ _ _ _ _ _ = _
      rw [bMo_behind_24, if_pos (by omega), bMo_behind_58, show w + -1 = w - 1 by omega, w32_id (by omega)]
      rfl
  have key : ∀ (n : Nat) (z : AV), (n : Int) ≤ R 4 2 → At (d + 63) kMo_behind 20 [vr 10 0, vi (n : Int), z] [] M' Q X = Q (vi (bhF R (hrd R) n)) M' := by
    intro n
    induction n with
    | zero => intro z _; rw [bMo_behind_20, if_pos (by omega), bMo_behind_60]; rfl
    | succ n ih =>
      intro z hn
      rw [bMo_behind_20, if_neg (by omega), bMo_behind_22, show ((n + 1 : Nat) : Int) = (n : Int) + 1 by omega, inner ((n : Int) + 1) (by omega) (by omega)]
      show _ = Q (vi (if bh1 R (hrd R) ((n : Int) + 1) = -1 then bhF R (hrd R) n else _)) M'
      by_cases hc : bh1 R (hrd R) ((n : Int) + 1) = -1
      · rw [if_pos hc, if_pos hc, show (n : Int) + 1 - 1 = (n : Int) by omega]; exact ih _ (by omega)
      · rw [if_neg hc, if_neg hc]
  rw [show R 4 2 = ((R 4 2).toNat : Int) by omega, key _ _ (by omega)]
  exact hq'
end
