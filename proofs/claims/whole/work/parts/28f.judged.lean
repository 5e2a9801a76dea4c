/-! LAYER 3, JUDGED AND BREAKS: the calls -/
theorem rcB_1 : rcB 1 = 0 := rfl
abbrev pOb (t i j : Nat) : Prop := pCl 1 t i ∨ (t = 9 ∧ i = 0 ∧ j = 7)
/-- the ruled board, if it stands -/
def Cr (U : Nat → Int) (M : Mem) : Prop := M.1 9 0 7 ≠ 0 → FullU (rd M 0) U 1 M
theorem ob_no {t i j : Nat} (h : pOb t i j) : ¬ (t = 4 ∨ 33 ≤ t ∧ t ≤ 38) ∧ ¬ ((20 ≤ t ∧ t ≤ 22) ∧ i ≠ 1) ∧ t ≠ 0 ∧ t ≠ 27 ∧ ¬ (t = 9 ∧ j ≠ 7) := by
  unfold pOb pCl at h; omega
theorem bgn_pos {R : RT} (h : WR R) (hn1 : 1 ≤ R 4 1) : 0 < bgn R ∧ bgn R < 125 := by
  have hx : 0 ≤ bgn R ∧ bgn R < 125 := bgo_R h (R 4 1)
  have hd := dg_bgn h (s := 0) (by omega)
  have hs := (stp_n h (s := 0) (by omega)).mp (by omega)
  refine ⟨?_, hx.2⟩
  by_cases h0 : bgn R = 0
  · rw [h0] at hd
    have : dg 0 0 = 0 := rfl
    omega
  · omega
theorem cSo_x0 {R : RT} {F : Int → Int → Bool} {w : Int} : cSo R F w (0 + 1) = cSo R F w 0 := by
  unfold cSo
  rw [show ((0 : Int) + 1 - 1).toNat = 0 from rfl, show ((0 : Int) - 1).toNat = 0 from rfl]
theorem CI0.ob {M M' : Mem} (h0 : CI0 M) (hb : Cb M) (hf : Fs pOb M M') (hz : Bz 1 M') : CI0 M' ∧ Cb M' := by
  have hr : ∀ i, rd M' i = rd M i := fun i => rd_fs hf (fun t j ht z => (ob_no z).1 ht)
  refine ⟨h0.fs hf (fun b hb3 => ?_) ((h0.2.1 5 (by omega) (by omega)).fs hf (fun t j ht _ z => (ob_no z).1 ht)) (fun t i j z => ⟨fun y => (ob_no z).1 y.1, fun y => (ob_no z).2.2.2.2 ⟨y.1, by omega⟩⟩), ?_⟩
  · by_cases hb1 : b = 1
    · subst hb1; exact hz
    · exact (h0.1 b hb3).fs hf (fun t j ht z => (ob_no z).2.1 ⟨by omega, hb1⟩)
  have e91 : M'.1 9 0 1 = M.1 9 0 1 := hf.g1 9 0 1 (fun z => (ob_no z).2.2.2.2 ⟨rfl, by omega⟩)
  have e02 : M'.1 0 0 2 = M.1 0 0 2 := hf.g1 0 0 2 (fun z => (ob_no z).2.2.1 rfl)
  refine ⟨by rw [e91, e02]; exact hb.1, ?_⟩
  intro i hi hn hs
  rw [hr i] at hn ⊢
  rw [e02, hf.g1 4 i 0 (fun z => (ob_no z).1 (Or.inl rfl))] at hs
  exact (hb.2 i hi hn hs).fs hf (fun t j ht z => (ob_no z).2.1 ⟨by omega, by omega⟩)
section
variable {d : Nat} {Q : AV → Mem → Prop} {X : Nat → Mem → Prop}
theorem c_obeyed {M : Mem} {U : Nat → Int} (h0 : CI0 M) (hb : Cb M) (hU : RuC U 0 M) (hW : WU U) (hr : Cr U M)
    (hq : ∀ M', Fs pOb M M' → CI0 M' → Cb M' → FullU (rd M 0) U 1 M' → Q (vr 0 1) M') : Call (d + 7) qPR_obeyed [vr 9 0] M Q X := by
  have hWR := h0.2.2.1 0 (by omega)
  rw [ePR_obeyed, bPR_obeyed_0]
  by_cases h7 : M.1 9 0 7 = 0
  · rw [if_neg (fun z => z h7), bPR_obeyed_3]
    refine c_obey (b := 1) rfl hWR (h0.1 1 (by omega)) hU hW ?_
    intro M1 f1 z1 F1
    rw [KU_eq, bPR_obeyed_8 (by omega), bPR_obeyed_11]
    have f2 : Fs pOb M (sI M1 9 0 7 1) := (f1.fs (fun t i j z => Or.inl z)).sI (Or.inr ⟨rfl, rfl, rfl⟩)
    have f12 : Fs (fun t i j => t = 9) M1 (sI M1 9 0 7 1) := Fs.rf.sI rfl
    obtain ⟨c2, b2⟩ := h0.ob hb f2 (z1.fs f12 (fun t j ht z => by omega))
    exact hq _ f2 c2 b2 (F1.fs f12 (fun t j ht z => by omega))
  · rw [if_pos h7, bPR_obeyed_11]
    exact hq M Fs.rf h0 hb (hr h7)
theorem FullU.wrt {R : RT} {U : Nat → Int} {M : Mem} {b : Nat} (h : FullU R U b M) (hz : Bz b M) {w x i : Int} (hw : 0 ≤ w ∧ w ≤ R 4 2) (hw6 : R 4 2 ≤ 6) (hx : 0 < x ∧ x < 125) (hf : fitsP R x) (hi : 0 ≤ i ∧ i < 3) : M.2 22 b ((w * 125 + x) * 3 + i).toNat = Wr R U w.toNat x i := by
  by_cases h0 : w = 0
  · subst h0; exact hz.1 x i (by omega) hx.2 hi.1 hi.2
  · exact (h w x (by omega) hw.2 hx.1 hx.2 hf).2 i hi.1 hi.2
theorem c_judged {M : Mem} {U : Nat → Int} {s : Int} (h0 : CI0 M) (hb : Cb M) (hU : RuC U 0 M) (hW : WU U) (hr : Cr U M) (hx1 : tS (rd M 0) s = 1 → X 0 M) (hx2 : tS (rd M 0) s = 2 → X 1 M)
    (hq : ∀ M', tS (rd M 0) s = 0 → Fs pOb M M' → CI0 M' → Cb M' → Cr U M' → Q (vl (Wr (rd M 0) U (rd M 0 4 2).toNat (bgn (rd M 0)) s)) M') : Call (d + 8) qPR_judged [vr 9 0, vi s] M Q X := by
  have hWR := h0.2.2.1 0 (by omega)
  have hbb := hWR.b
  unfold tS at hx1 hx2 hq
  rw [ePR_judged, bPR_judged_0, c_needRace]
  by_cases hn : rd M 0 4 1 = 0
  · rw [if_pos hn] at hx1; rw [if_pos hn]; exact hx1 rfl
  rw [if_neg hn] at hq hx2
  rw [if_neg hn, KU_eq, bPR_judged_2, c_needShop (by omega)]
  by_cases hs : 0 ≤ s ∧ s < rd M 0 4 1
  · rw [if_pos hs] at hq ⊢
    rw [KU_eq, bPR_judged_5]
    refine c_obeyed h0 hb hU hW hr ?_
    intro M1 f1 c1 b1 F1
    have er : rd M1 0 = rd M 0 := rd_fs f1 (fun t j ht z => (ob_no z).1 ht)
    have hq := hq M1 rfl f1 c1 b1 (fun _ => by rw [er]; exact F1)
    have hp := bgn_pos hWR (by omega)
    have e2 : M1.1 4 0 2 = rd M 0 4 2 := by rw [← er]; rfl
    rw [KV_eq, bPR_judged_7, c_beginning (by rw [er]; exact hWR), KV_eq, bPR_judged_15, er, e2, c_worthAt (by omega) (by omega) (by omega), KV_eq, bPR_judged_17, F1.wrt (c1.1 1 (by omega)) (by omega) (by omega) hp (bgn_plain hWR).2.2.2 (by omega)]
    exact hq
  · rw [if_neg hs] at hx2 ⊢; exact hx2 rfl
theorem c_breaks {M : Mem} {U : Nat → Int} (h0 : CI0 M) (hb : Cb M) (hU : RuC U 0 M) (hW : WU U) (hr : Cr U M) (hx : tR (rd M 0) = 1 → X 0 M)
    (hq : ∀ M', tR (rd M 0) = 0 → Fs pOb M M' → CI0 M' → Cb M' → Cr U M' → Q (vi (cnA (rd M 0) (brB (rd M 0) U))) M') : Call (d + 8) qPR_breaks [vr 9 0] M Q X := by
  have hWR := h0.2.2.1 0 (by omega)
  have hbb := hWR.b
  unfold tR at hx hq
  rw [ePR_breaks, bPR_breaks_0, c_needRace]
  by_cases hn : rd M 0 4 1 = 0
  · rw [if_pos hn] at hx; rw [if_pos hn]; exact hx rfl
  rw [if_neg hn] at hq
  rw [if_neg hn, KU_eq, bPR_breaks_2]
  refine c_obeyed h0 hb hU hW hr ?_
  intro M1 f1 c1 b1 F1
  have er : rd M1 0 = rd M 0 := rd_fs f1 (fun t j ht z => (ob_no z).1 ht)
  rw [KV_eq, bPR_breaks_4]
  refine c_statesThatBreak (d := d + 1) (R := rd M 0) (by rw [rcB_1, er]) hWR hW (c1.1 1 (by omega)) F1 (by omega) ?_
  intro M2 f2
  have hno : ∀ t i j, pBk 1 t i j → ¬ (t = 4 ∨ 33 ≤ t ∧ t ≤ 38) ∧ ¬ (20 ≤ t ∧ t ≤ 22) ∧ t ≠ 9 ∧ t ≠ 0 := fun t i j z => by unfold pBk pOp pF2 at z; omega
  obtain ⟨c2, b2⟩ := c1.kp b1 f2 hno
  have er2 : rd M2 0 = rd M 0 := by rw [rd_fs f2 (fun t j ht z => (hno _ _ _ z).1 ht), er]
  rw [KV_eq, bPR_breaks_5]
  refine hq M2 rfl (f1.tr (f2.mono (fun t i j z => by unfold pBk pOp pF2 at z; unfold pOb pCl; omega))) c2 b2 (fun _ => ?_)
  rw [er2]; exact F1.fs f2 (fun t j ht z => (hno _ _ _ z).2.1 (by omega))
theorem su_sc {t i j : Nat} (h : pSu t i j) : scM t i j ∧ ¬ cmP t i j ∧ ¬ (t = 10 ∧ j = 0) := by
  unfold pSu at h
  rcases h with h | h | h | h | h
  · exact ho_sc h
  · unfold scM cmP; omega
  · unfold scM cmP; omega
  · unfold scM cmP; omega
  · unfold scM cmP; omega
theorem m_judged {M : Mem} {R : RT} {U : Nat → Int} {s : Int} (hc : Cur R M) (hU : RuM U M) (hW : WU U) (hq : ∀ M' v, MS R M M' → M'.1 10 0 0 = tS R s → (tS R s = 0 → v = Wr R U (R 4 2).toNat (bgn R) s) → Q (vl v) M') : Call (d + 64) qMo_judged [vr 10 0, vi s] M Q X := by
  have h20 := hc.n
  rw [eMo_judged, bMo_judged_0, th_ne (by omega), h20]
  by_cases h0 : R 4 1 = 0
  · rw [if_neg (fun z => z h0), bMo_judged_7, bMo_judged_10, m_bad1 (by omega), KV_eq, bMo_judged_12, if_pos (by omega), bMo_judged_28]
    refine hq _ _ (MS.th hc 1) ?_ ?_
    · unfold tS; rw [if_pos h0]; exact th0_eq
    · unfold tS; rw [if_pos h0]; intro z; omega
  rcases id hc with hc0 | ⟨B, n, T, hx, hcm⟩
  · exact absurd hc0.1 h0
  have hWR := hx.wr
  have hb := hWR.b
  have hn1 := hx.2.1
  rw [if_pos h0, bMo_judged_9, bMo_judged_10, m_bad0, KV_eq, bMo_judged_12, if_neg (by omega), bMo_judged_13, th_ne (by omega), h20, w32_id (by omega), m_in, KV_eq, bMo_judged_21]
  by_cases hs : 0 ≤ s ∧ s < R 4 1
  · rw [if_pos (by rw [if_pos (by omega)]; omega), bMo_judged_24, bMo_judged_25, m_bad0, KV_eq, bMo_judged_27, if_pos rfl, bMo_judged_30]
    obtain ⟨fs0, -⟩ := MS.t0 hc
    have f00 : Fs (fun t i j => t = 10 ∧ i = 0 ∧ j = 0) M (sI M 10 0 0 0) := Fs.rf.sI (by omega)
    have hcm0 : CM R B n T (sI M 10 0 0 0) := hcm.fs (by omega) ⟨hn1, by omega⟩ f00 (fun t i j z => by omega)
    refine m_solveRules (d := d) (U := U) hcm0.1 hWR hn1 (hl_cm hx hcm0) (fun i x hi hx => (f00.g1 87 i x (by omega)).trans (hU i x hi hx)) hW ?_
    intro M1 f1 sv
    have hcm1 : CM R B n T M1 := hcm0.fs (by omega) ⟨hn1, by omega⟩ f1 (fun t i j z => (su_sc z).2.1)
    have hM1 := hcm1.1
    have hp := bgn_pos hWR hn1
    have hpl := bgn_plain hWR
    have hpn := pw_n (n := R 4 1) ⟨hn1, by omega⟩
    have hev : 0 ≤ evb R ∧ evb R < pw (R 4 1) := by unfold evb; omega
    have ev := sv (R 4 2) (bgn R) (evb R) (by omega) (by omega) (by omega) hp.2 hpl.2.2.2 hev.1 hev.2 s hs.1 hs.2
    rw [cdo_evb hWR hn1 (by omega) hpl] at ev
    have e13 : M1.1 10 0 13 = R 4 2 := hM1.2.1
    rw [KU_eq, bMo_judged_32 (by omega), m_beginPlace hM1 hWR, KV_eq, bMo_judged_39 (by omega), m_everybody hM1 hWR, KV_eq, bMo_judged_42 (by omega), e13]
    refine hq M1 _ ⟨fs0.tr (f1.mono (fun t i j z => (su_sc z).1)), Or.inr ⟨B, n, T, hx, hcm1⟩⟩ ?_ (fun _ => ev)
    rw [f1.g1 10 0 0 (fun z => (su_sc z).2.2 ⟨rfl, rfl⟩)]
    unfold tS; rw [if_neg h0, if_pos hs]; exact sI_eq
  · rw [if_neg (by rw [if_neg (by omega)]; omega), bMo_judged_22, bMo_judged_25, m_bad1 (by omega), KV_eq, bMo_judged_27, if_neg (by omega), bMo_judged_28]
    refine hq _ _ (MS.th hc 2) ?_ ?_
    · unfold tS; rw [if_neg h0, if_neg hs]; exact th0_eq
    · unfold tS; rw [if_neg h0, if_neg hs]; intro z; omega
theorem m_breaks {M : Mem} {R : RT} {U : Nat → Int} (hc : Cur R M) (hU : RuM U M) (hW : WU U) (hq : ∀ M' v, MS R M M' → M'.1 10 0 0 = tR R → (tR R = 0 → v = cnA R (brB R U)) → Q (vi v) M') : Call (d + 64) qMo_breaks [vr 10 0] M Q X := by
  have h20 := hc.n
  rw [eMo_breaks, bMo_breaks_0, th_ne (by omega), h20]
  by_cases h0 : R 4 1 = 0
  · rw [if_neg (fun z => z h0), bMo_breaks_7, bMo_breaks_10, m_bad1 (by omega), KV_eq, bMo_breaks_12, if_neg (by omega), bMo_breaks_13]
    refine hq _ _ (MS.th hc 1) ?_ ?_
    · unfold tR; rw [if_pos h0]; exact th0_eq
    · unfold tR; rw [if_pos h0]; intro z; omega
  rcases id hc with hc0 | ⟨B, n, T, hx, hcm⟩
  · exact absurd hc0.1 h0
  have hWR := hx.wr
  have hb := hWR.b
  have hn1 := hx.2.1
  rw [if_pos h0, bMo_breaks_9, bMo_breaks_10, m_bad0, KV_eq, bMo_breaks_12, if_pos rfl, bMo_breaks_15]
  obtain ⟨fs0, -⟩ := MS.t0 hc
  have f00 : Fs (fun t i j => t = 10 ∧ i = 0 ∧ j = 0) M (sI M 10 0 0 0) := Fs.rf.sI (by omega)
  have hcm0 : CM R B n T (sI M 10 0 0 0) := hcm.fs (by omega) ⟨hn1, by omega⟩ f00 (fun t i j z => by omega)
  refine m_solveRules (d := d) (U := U) hcm0.1 hWR hn1 (hl_cm hx hcm0) (fun i x hi hx => (f00.g1 87 i x (by omega)).trans (hU i x hi hx)) hW ?_
  intro M1 f1 sv
  rw [KU_eq, bMo_breaks_17]
  have hcm1 : CM R B n T M1 := hcm0.fs (by omega) ⟨hn1, by omega⟩ f1 (fun t i j z => (su_sc z).2.1)
  have hU1 : RuM U M1 := fun i x hi hx => (f1.g1 87 i x (fun z => by unfold pSu pHo at z; omega)).trans ((f00.g1 87 i x (by omega)).trans (hU i x hi hx))
  have kp : ∀ M', Fs pBm M1 M' → CM R B n T M' ∧ RuM U M' ∧ SolvU R U M' := fun M' f =>
    ⟨hcm1.fs (by omega) ⟨hn1, by omega⟩ f (fun t i j z => by unfold pBm pHo at z; unfold cmP; omega), fun i x hi hx => (f.g1 87 i x (fun z => by unfold pBm pHo at z; omega)).trans (hU1 i x hi hx), fun w' p' b' a1 a2 a3 a4 a5 a6 a7 s s0 s1 => (f.g2 71 _ _ (fun z => by unfold pBm pHo at z; omega)).trans (sv w' p' b' a1 a2 a3 a4 a5 a6 a7 s s0 s1)⟩
  have hloop := loop2I (α := Mem × Int) 1 (R 4 2 + 1) 0 125 (by omega) (by omega) (fun w a => ∀ z3, At (d + 63) kMo_breaks 21 [vr 10 0, vi a.2, vi w, z3] [] a.1 Q X) (fun w x a => At (d + 63) kMo_breaks 27 [vr 10 0, vi a.2, vi w, vi x] [] a.1 Q X)
    (fun w x a => Fs pBm M1 a.1 ∧ a.2 = cSo R (brB R U) w x) ?_ ?_ ?_ ?_ ?_
  · exact hloop (M1, 0) ⟨Fs.rf, rfl⟩ _
  · rintro ⟨M', acc⟩ ⟨g1, g2⟩ z3
    obtain ⟨hc', -, -⟩ := kp M' g1
    have g2 : acc = cSo R (brB R U) (R 4 2 + 1) 0 := g2
    show At _ _ _ _ _ _ _ _
    rw [bMo_breaks_21, hc'.1.2.1, if_pos (by omega), bMo_breaks_49]
    refine hq M' _ ⟨(fs0.tr (f1.mono (fun t i j z => (su_sc z).1))).tr (g1.mono (fun t i j z => (su_sc (by unfold pSu; unfold pBm at z; omega)).1)), Or.inr ⟨B, n, T, hx, hc'⟩⟩ ?_ (fun _ => by rw [g2, cSo_e (by omega) (by omega)])
    rw [g1.g1 10 0 0 (fun z => by unfold pBm pHo at z; omega), f1.g1 10 0 0 (fun z => (su_sc z).2.2 ⟨rfl, rfl⟩)]
    unfold tR; rw [if_neg h0]; exact sI_eq
  · rintro w ⟨M', acc⟩ w1 w2 ⟨g1, -⟩ g z3
    obtain ⟨hc', -, -⟩ := kp M' g1
    show At _ _ _ _ _ _ _ _
    rw [bMo_breaks_21, hc'.1.2.1, if_neg (by omega), bMo_breaks_25]; exact g
  · rintro w ⟨M', acc⟩ w1 w2 g
    show At _ _ _ _ _ _ _ _
    rw [bMo_breaks_27, if_pos (by omega), bMo_breaks_47, w32_id (by omega)]; exact g _
  · rintro w x ⟨M', acc⟩ w1 w2 x1 x2 ⟨g1, g2⟩ gk
    obtain ⟨hc', hU', sv'⟩ := kp M' g1
    have g2 : acc = cSo R (brB R U) w x := g2
    have hcr := cSo_R (R := R) (F := brB R U) (w := w) (x := x) (by omega) (by omega)
    show At _ _ _ _ _ _ _ _
    rw [bMo_breaks_27, if_neg (by omega), bMo_breaks_30, m_isWhole hc'.1 hWR (by omega), KV_eq, bMo_breaks_33]
    by_cases hp : plB R x = true
    · have hpl : plainP R x := of_decide_eq_true hp
      have hx1 : 1 ≤ x := by
        by_cases hz : x = 0
        · subst hz; rw [plB_0 hn1] at hp; cases hp
        · omega
      have hxs := cSo_x (R := R) (F := brB R U) (w := w) (x := x) hx1
      rw [hp, Bool.true_and] at hxs
      rw [hp, b01_t, if_neg (by omega), bMo_breaks_34]
      refine m_isBroken (d := d) hc'.1 hWR hn1 (hl_cm hx hc') hU' hW sv' (by omega) (by omega) hpl ?_
      intro M2 f2
      rw [KV_eq, bMo_breaks_39]
      by_cases hB : brB R U w x = true
      · rw [hB, b01_t] at hxs
        rw [hB, b01_t, if_neg (by omega), bMo_breaks_40, bMo_breaks_43, bMo_breaks_45, w32_id (z := x + 1) (by omega), w32_id (by omega)]
        exact gk (M2, acc + 1) ⟨g1.tr f2, by show acc + 1 = _; rw [hxs, g2]⟩
      · rw [Bool.not_eq_true] at hB
        rw [hB, b01_f] at hxs
        rw [hB, b01_f, if_pos rfl, bMo_breaks_42, bMo_breaks_43, bMo_breaks_45, w32_id (z := x + 1) (by omega), w32_id (by omega)]
        exact gk (M2, acc + 0) ⟨g1.tr f2, by show acc + 0 = _; rw [hxs, g2]⟩
    · rw [Bool.not_eq_true] at hp
      have hxs : cSo R (brB R U) w (x + 1) = cSo R (brB R U) w x := by
        by_cases hz : x = 0
        · subst hz; exact cSo_x0
        · rw [cSo_x (by omega), hp, Bool.false_and, b01_f]; omega
      rw [hp, b01_f, if_pos rfl, bMo_breaks_45, w32_id (by omega)]
      exact gk (M', acc) ⟨g1, by show acc = _; rw [hxs, g2]⟩
  · rintro w ⟨M', acc⟩ w1 w2 ⟨g1, g2⟩
    exact ⟨g1, Eq.trans g2 (cSo_w0 w1)⟩
end
