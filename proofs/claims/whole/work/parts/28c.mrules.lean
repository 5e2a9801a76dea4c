/-! LAYER 3, RULES OBEYED: the reference -/
theorem Wr_zero {R : RT} {U : Nat → Int} (h : WR R) (hW : WU U) : ∀ (k : Nat) (y i : Int), 0 ≤ i → i < 3 → 0 ≤ y → y < 125 → fitsP R y → dg y i = 0 → Wr R U k y i = 0
  | 0, _, _, _, _, _, _, _, _ => rfl
  | k + 1, y, i, i0, i3, y0, y1, hf, hd => by
    show (if y = 0 then 0 else rG R (Wr R U k) ((k + 1 : Nat) : Int) y (tdR R U ((k + 1 : Nat) : Int) y) i) = 0
    by_cases hy : y = 0
    · rw [if_pos hy]
    · rw [if_neg hy]
      unfold rG
      rw [dr_tdR hW (by omega), dr_tdR hW (by omega), dr_tdR hW (by omega)]
      exact G0_zero h hf hd ⟨i0, i3⟩ (fun y' a b c e => Wr_zero h hW k y' i i0 i3 a b c e) byD_can byD_can byD_can
theorem d3_f {f : Int → Int} {s : Int} (hs : 0 ≤ s ∧ s < 3) : d3 (f 0) (f 1) (f 2) s = f s := by
  rcases (by omega : s = 0 ∨ s = 1 ∨ s = 2) with rfl | rfl | rfl <;> rfl
def EntU (R : RT) (U : Nat → Int) (M : Mem) (w p b : Int) : Prop := ∀ s : Int, 0 ≤ s → s < R 4 1 → M.2 71 (tI 1 w p b) s.toNat = Wr R U w.toNat (cdo p b) s
def SolvU (R : RT) (U : Nat → Int) (M : Mem) : Prop := ∀ w p b : Int, 0 ≤ w → w ≤ R 4 2 → 0 ≤ p → p < 125 → fitsP R p → 0 ≤ b → b < pw (R 4 1) → EntU R U M w p b
abbrev pSu (t i j : Nat) : Prop := pHo t i j ∨ t = 79 ∨ t = 82 ∨ t = 112 ∨ (t = 71 ∧ 7000 ≤ i)
theorem tI1_inj {w p b w' p' b' : Int} (hp : 0 ≤ p ∧ p < 125) (hb : 0 ≤ b ∧ b < 8) (hp' : 0 ≤ p' ∧ p' < 125) (hb' : 0 ≤ b' ∧ b' < 8) (hw : 0 ≤ w) (hw' : 0 ≤ w') (he : tI 1 w p b = tI 1 w' p' b') : w = w' ∧ p = p' ∧ b = b' := by
  unfold tI at he; omega
theorem EntU.keep {R U M M' P} {w p b w' p' b' : Int} (h : EntU R U M w' p' b') (hf : Fs P M M') (hp : 0 ≤ p ∧ p < 125) (hb : 0 ≤ b ∧ b < 8) (hp' : 0 ≤ p' ∧ p' < 125) (hb' : 0 ≤ b' ∧ b' < 8) (hw : 0 ≤ w) (hw' : 0 ≤ w') (hne : ¬ (w' = w ∧ p' = p ∧ b' = b))
    (hP : ∀ t i j, P t i j → t = 71 → i = tI 1 w p b) : EntU R U M' w' p' b' := by
  intro s s0 s1
  rw [hf.g2 71 _ _ (fun z => hne (tI1_inj hp' hb' hp hb hw' hw (hP _ _ _ z rfl)))]
  exact h s s0 s1
section
variable {d : Nat} {Q : AV → Mem → Prop} {X : Nat → Mem → Prop}
theorem m_byRule {M : Mem} {R : RT} {U : Nat → Int} {w p b s : Int} (hM : MR R M) (h : WR R) (hH : HL R M) (hU : RuM U M) (hW : WU U) (hS : Sta R p b) (hg : Gng p b) (hw : 1 ≤ w ∧ w ≤ 6) (hs : 0 ≤ s ∧ s < 3)
    (hq : ∀ M', Fs pHo M M' → Q (vi (byD R U w (cd p b) s)) M') : Call (d + 62) qMo_byRule [vr 10 0, vi w, vi p, vi b, vi s] M Q X := by
  rw [show d + 62 = (d + 61) + 1 from rfl, eMo_byRule, bMo_byRule_0, m_isIn hS.2.1 hs, KV_eq, bMo_byRule_3]
  by_cases hb : bit b s = 1
  · obtain ⟨ho, hn⟩ := hx_of hg hs.1 hs.2 hb
    have hlsp : dg (cd p b) s = dg p s := by rw [dg_cd hs]; unfold lsp; rw [if_pos hb]
    have hru := ruM_q (U := U) hs ho hn
    have hnp : 0 ≤ nxp (nxm p b s) ∧ nxp (nxm p b s) < 6 := by unfold nxp; split <;> omega
    have hM87 : M.1 87 ((0 * 3 + s.toNat) * 5 + (dg p s).toNat) (nxp (nxm p b s)).toNat = byE U (cd p b) s := by
      unfold byE
      rw [hlsp, if_neg (by omega), ← nxm_eq hg, ← hru, show 0 * 3 + s.toNat = s.toNat by omega]
      exact hU _ _ (by omega) (by omega)
    rw [if_pos (by omega), bMo_byRule_6 hs, m_stepsOf hS.1, KV_eq, bMo_byRule_13 (by omega), m_nextOf hM h hS, KV_eq, bMo_byRule_19, m_nextPlace, KV_eq, bMo_byRule_20 hnp, hM87]
    refine m_mayDo (d := d) hM h hH hS hg hw hs (byE_R hW hs) ?_
    intro M' f
    have hq' := hq M' f
    unfold byD at hq'
    rw [KV_eq, bMo_byRule_29]
    by_cases hc : canP R w (cd p b) s (byE U (cd p b) s)
    · rw [if_pos hc] at hq'
      rw [if_pos hc, if_neg (by omega), bMo_byRule_30, bMo_byRule_33]; exact hq'
    · rw [if_neg hc] at hq'
      rw [if_neg hc, if_pos rfl, bMo_byRule_32, bMo_byRule_33]; exact hq'
  · have hbr := bit_R b s
    have hlsp : dg (cd p b) s = 0 := by rw [dg_cd hs]; unfold lsp; rw [if_neg hb]
    have e : byD R U w (cd p b) s = 0 := by
      have : byE U (cd p b) s = 0 := by unfold byE; rw [if_pos hlsp]
      unfold byD
      rw [this]; split <;> rfl
    have hq' := hq M Fs.rf
    rw [e] at hq'
    rw [if_neg (by omega), bMo_byRule_4]; exact hq'
/-- one state by rules -/
theorem m_ruleCell {M : Mem} {R : RT} {U : Nat → Int} {w p b : Int} {z4 z5 : AV} (hM : MR R M) (h : WR R) (hn1 : 1 ≤ R 4 1) (hH : HL R M) (hU : RuM U M) (hW : WU U) (hS : Sta R p b) (hfit : ∀ s : Int, 0 ≤ s → s < 3 → dg p s ≤ stp R s) (hw : 0 ≤ w ∧ w ≤ R 4 2)
    (hV : 1 ≤ w → ∀ p' b' : Int, Sta R p' b' → (∀ s : Int, 0 ≤ s → s < 3 → dg p' s ≤ stp R s) → EntU R U M (w - 1) p' b')
    (hq : ∀ M' z4 z5, Fs (fun t i j => pHo t i j ∨ t = 79 ∨ t = 82 ∨ t = 112 ∨ (t = 71 ∧ i = tI 1 w p b)) M M' → EntU R U M' w p b → At (d + 62) kMo_solveRules 94 [vr 10 0, vi w, vi p, vi b, z4, z5] [] M' Q X) : At (d + 62) kMo_solveRules 23 [vr 10 0, vi w, vi p, vi b, z4, z5] [] M Q X := by
  have hb := h.b
  rw [bMo_solveRules_23, m_isOver hM h hS, KV_eq, bMo_solveRules_28]
  refine loop_up (fun s M' => At (d + 62) kMo_solveRules 31 [vr 10 0, vi w, vi p, vi b, vi (if ovP w p b then 1 else 0), vi s] [] M' Q X) (fun s M' => Fs (fun t i j => pHo t i j ∨ t = 79 ∨ (t = 71 ∧ i = tI 1 w p b)) M M' ∧ ∀ e : Int, 0 ≤ e → e < s → M'.2 71 (tI 1 w p b) e.toNat = 0 ∧ M'.1 79 0 e.toNat = if ovP w p b then 0 else byD R U w (cd p b) e) 0 (R 4 1) ?_ ?_ 0 M (by omega) (by omega) ⟨Fs.rf, fun e a b => by omega⟩
  · rintro M1 ⟨f1, r1⟩
    have hM1 : MR R M1 := hM.fs f1 (fun t i j z => by omega)
    show At _ _ _ _ _ _ _ _
    rw [bMo_solveRules_31, hM1.1, if_pos (by omega), bMo_solveRules_62]
    by_cases ho : ovP w p b
    · rw [if_neg (by rw [if_pos ho]; omega), bMo_solveRules_64]
      refine hq M1 _ _ (f1.mono (fun t i j z => by omega)) ?_
      intro s s0 s1
      rw [(r1 s s0 s1).1]
      rcases ov_z ho with z | z
      · subst z; rfl
      · rw [z, Wr_0]
    · rw [if_pos (by rw [if_neg ho]), bMo_solveRules_65]
      obtain ⟨hg, hw0, hnf, hcd⟩ := ov_no hS.2.1 ho
      have hfx : fitsP R (cd p b) := fits_cd hfit
      have e3 : ∀ s : Int, 0 ≤ s → s < 3 → d3 (byD R U w (cd p b) 0) (byD R U w (cd p b) 1) (byD R U w (cd p b) 2) s = byD R U w (cd p b) s := fun s s0 s3 => d3_f (f := fun s => byD R U w (cd p b) s) ⟨s0, s3⟩
      refine m_weighs (d := d + 59) (tb := 1) (V := Wr R U (w - 1).toNat) (d0 := byD R U w (cd p b) 0) (d1 := byD R U w (cd p b) 1) (d2 := byD R U w (cd p b) 2) hM1 h hn1 hS hg hfit (by omega) ?_ ?_ ?_ ?_ ?_ (fun y i i0 i3 y0 y1 hf hd => Wr_zero h hW _ y i i0 i3 y0 y1 hf hd) ?_
      · intro s s0 s1
        rw [e3 s s0 (by omega), (r1 s s0 s1).2, if_neg ho]
      · intro s s0 s3
        rw [e3 s (by omega) s3]
        exact can_nin h hfx (by omega) s3 s0 (byD_can (R := R) (U := U))
      · intro s s0 s3
        rw [e3 s s0 s3]; exact byD_R hW ⟨s0, s3⟩
      · intro s s0 s3
        rw [e3 s s0 s3]; exact byD_can
      · intro p' b' i a1 a2 a3 a4 a5
        have hE := hV (by omega) p' b' a1 a2
        have hE1 : EntU R U M1 (w - 1) p' b' := hE.keep f1 hS.1 hS.2.1 a1.1 a1.2.1 hw.1 (by omega) (by omega) (fun t i j z q => by omega)
        rw [hE1 i a4 a5]
        unfold cdo; rw [if_neg a3]
      · intro M2 f2 g2
        rw [KU_eq, bMo_solveRules_72]
        have hM2 : MR R M2 := hM1.fr f2 (fun t i z => by omega)
        refine loop_up (fun s M' => ∀ z4, At (d + 62) kMo_solveRules 74 [vr 10 0, vi w, vi p, vi b, z4, vi s] [] M' Q X) (fun s M' => Fs (fun t i j => t = 71 ∧ i = tI 1 w p b) M2 M' ∧ ∀ e : Int, 0 ≤ e → e < s → M'.2 71 (tI 1 w p b) e.toNat = M2.2 82 0 e.toNat) 0 (R 4 1) ?_ ?_ 0 M2 (by omega) (by omega) ⟨Fs.rf, fun e a b => by omega⟩ _
        · rintro M3 ⟨f3, r3⟩ z4
          have hM3 : MR R M3 := hM2.fs f3 (fun t i j z => by omega)
          rw [bMo_solveRules_74, hM3.1, if_pos (by omega)]
          refine hq M3 _ _ (((f1.mono (fun t i j z => by omega)).tr (f2.fs (fun t i j z => by omega))).tr (f3.mono (fun t i j z => by omega))) ?_
          intro s s0 s1
          have hc : cdo p b = cd p b := by unfold cdo; rw [if_neg hnf]
          rw [r3 s s0 s1, g2 s s0 s1, hc, Wr_at (by omega) hcd]
          unfold rG
          rw [dr_tdR hW (by omega), dr_tdR hW (by omega), dr_tdR hW (by omega)]
        · rintro s M3 s0 s1 ⟨f3, r3⟩ hn z4
          have hM3 : MR R M3 := hM2.fs f3 (fun t i j z => by omega)
          rw [bMo_solveRules_74, hM3.1, if_neg (by omega), bMo_solveRules_78 ⟨by omega, hS.1, hS.2.1, by omega, by omega⟩, w32_id (by omega)]
          refine hn _ ⟨f3.sL ⟨rfl, rfl⟩, ?_⟩ _
          intro e e0 e1
          by_cases ee : e = s
          · subst ee
            show (sL M3 71 (tI 1 w p b) e.toNat _).2 71 (tI 1 w p b) e.toNat = _
            rw [sL_eq, f3.g2 82 0 _ (by omega)]
          · show (sL M3 71 (tI 1 w p b) s.toNat _).2 71 (tI 1 w p b) e.toNat = _
            rw [sL2, if_neg (by omega)]; exact r3 e e0 (by omega)
  · rintro s M1 s0 s1 ⟨f1, r1⟩ hn
    have hM1 : MR R M1 := hM.fs f1 (fun t i j z => by omega)
    have hpost : ∀ M2 v, Fs (fun t i j => pHo t i j) (sL M1 71 (tI 1 w p b) s.toNat 0) M2 → v = (if ovP w p b then 0 else byD R U w (cd p b) s) → At (d + 62) kMo_solveRules 59 [vr 10 0, vi w, vi p, vi b, vi (if ovP w p b then 1 else 0), vi s] [vi v, vi s, vr 79 0] M2 Q X := by
      intro M2 v f2 hv
      rw [bMo_solveRules_59 (by omega), w32_id (by omega)]
      have f12 : Fs (fun t i j => pHo t i j ∨ t = 79 ∨ (t = 71 ∧ i = tI 1 w p b)) M M2 := (f1.sL (Or.inr (Or.inr ⟨rfl, rfl⟩))).tr (f2.mono (fun t i j z => Or.inl z))
      refine hn _ ⟨f12.sI (Or.inr (Or.inl rfl)), ?_⟩
      intro e e0 e1
      by_cases ee : e = s
      · subst ee
        refine ⟨?_, by rw [sI_eq]; exact hv⟩
        rw [sI2, f2.g2 71 _ _ (by omega), sL_eq]
      · have := r1 e e0 (by omega)
        rw [sI2, sI_ne (by omega), f2.g2 71 _ _ (by omega), f2.g1 79 _ _ (by omega), sL2, if_neg (by omega), sL1]
        exact this
    show At _ _ _ _ _ _ _ _
    rw [bMo_solveRules_31, hM1.1, if_neg (by omega), bMo_solveRules_35 ⟨by omega, hS.1, hS.2.1, by omega⟩]
    by_cases ho : ovP w p b
    · rw [if_neg (by rw [if_pos ho]; omega), bMo_solveRules_51]
      exact hpost _ _ Fs.rf (by rw [if_pos ho])
    · rw [if_pos (by rw [if_neg ho]), bMo_solveRules_53]
      obtain ⟨hg, hw0, hnf, hcd⟩ := ov_no hS.2.1 ho
      have f1' : Fs (fun t i j => pHo t i j ∨ t = 79 ∨ (t = 71 ∧ i = tI 1 w p b)) M (sL M1 71 (tI 1 w p b) s.toNat 0) := f1.sL (Or.inr (Or.inr ⟨rfl, rfl⟩))
      have hM1' : MR R (sL M1 71 (tI 1 w p b) s.toNat 0) := hM.fs f1' (fun t i j z => by omega)
      refine m_byRule (d := d) hM1' h (hH.tx (f1'.tx (fun t i j z => by omega))) (fun i x hi hx => (f1'.g1 87 i x (by omega)).trans (hU i x hi hx)) hW hS hg (by omega) (by omega) ?_
      intro M2 f2
      rw [KV_eq]
      exact hpost M2 _ f2 (by rw [if_neg ho])
theorem m_solveRules {M : Mem} {R : RT} {U : Nat → Int} (hM : MR R M) (h : WR R) (hn1 : 1 ≤ R 4 1) (hH : HL R M) (hU : RuM U M) (hW : WU U)
    (hq : ∀ M', Fs pSu M M' → SolvU R U M' → Q (vi 0) M') : Call (d + 63) qMo_solveRules [vr 10 0] M Q X := by
  have hb := h.b
  have hpn := pw_n (n := R 4 1) (by omega)
  rw [show d + 63 = (d + 62) + 1 from rfl, eMo_solveRules, bMo_solveRules_0]
  have hloop := loop2I 0 (R 4 2 + 1) 0 125 (by omega) (by omega) (fun w M' => ∀ z2 z3 z4 z5, At (d + 62) kMo_solveRules 2 [vr 10 0, vi w, z2, z3, z4, z5] [] M' Q X) (fun w p M' => ∀ z3 z4 z5, At (d + 62) kMo_solveRules 8 [vr 10 0, vi w, vi p, z3, z4, z5] [] M' Q X)
    (fun w0 p0 M' => Fs pSu M M' ∧ ∀ w p b : Int, 0 ≤ w → w ≤ R 4 2 → 0 ≤ p → p < 125 → fitsP R p → 0 ≤ b → b < pw (R 4 1) → (w < w0 ∨ w = w0 ∧ p < p0) → EntU R U M' w p b) ?_ ?_ ?_ ?_ ?_
  · exact hloop M ⟨Fs.rf, by intros; omega⟩ _ _ _ _
  · rintro M' ⟨g1, g2⟩ z2 z3 z4 z5
    have hM' : MR R M' := hM.fs g1 (fun t i j z => by omega)
    rw [bMo_solveRules_2, hM'.2.1, if_pos (by omega), bMo_solveRules_100]
    exact hq _ g1 (fun w p b a1 a2 a3 a4 a5 a6 a7 => g2 w p b a1 a2 a3 a4 a5 a6 a7 (by omega))
  · rintro w M' w1 w2 ⟨g1, -⟩ g z2 z3 z4 z5
    have hM' : MR R M' := hM.fs g1 (fun t i j z => by omega)
    rw [bMo_solveRules_2, hM'.2.1, if_neg (by omega), bMo_solveRules_6]
    exact g _ _ _
  · intro w M' w1 w2 g z3 z4 z5
    rw [bMo_solveRules_8, if_pos (by omega), bMo_solveRules_98, w32_id (by omega)]
    exact g _ _ _ _
  · rintro w p M' w1 w2 p1 p2 ⟨g1, g2⟩ gk z3 z4 z5
    have hM' : MR R M' := hM.fs g1 (fun t i j z => by omega)
    rw [bMo_solveRules_8, if_neg (by omega), bMo_solveRules_11]
    by_cases hf : fitsP R p
    rotate_left
    · rw [bMo_solveRules_13, hM'.1, bshl_pw (by omega), if_neg (by omega), bMo_solveRules_19, m_isPlace hM' h (by omega), if_neg hf, KV_eq, bMo_solveRules_22, if_pos rfl, bMo_solveRules_96, w32_id (by omega)]
      refine gk M' ⟨g1, ?_⟩ _ _ _
      intro w' p' b' a1 a2 a3 a4 a5 a6 a7 a8
      by_cases he : w' = w ∧ p' = p
      · obtain ⟨rfl, rfl⟩ := he; exact absurd a5 hf
      · exact g2 w' p' b' a1 a2 a3 a4 a5 a6 a7 (by omega)
    have hfit : ∀ s : Int, 0 ≤ s → s < 3 → dg p s ≤ stp R s := by
      intro s a1 a2
      rcases (by omega : s = 0 ∨ s = 1 ∨ s = 2) with rfl | rfl | rfl
      · exact hf.1
      · exact hf.2.1
      · exact hf.2.2
    refine loop_up (fun b M2 => ∀ z4 z5, At (d + 62) kMo_solveRules 13 [vr 10 0, vi w, vi p, vi b, z4, z5] [] M2 Q X) (fun b0 M2 => Fs pSu M M2 ∧ ∀ w' p' b' : Int, 0 ≤ w' → w' ≤ R 4 2 → 0 ≤ p' → p' < 125 → fitsP R p' → 0 ≤ b' → b' < pw (R 4 1) → (w' < w ∨ w' = w ∧ (p' < p ∨ p' = p ∧ b' < b0)) → EntU R U M2 w' p' b') 0 (pw (R 4 1)) ?_ ?_ 0 M' (by omega) (by omega) ⟨g1, fun w' p' b' a1 a2 a3 a4 a5 a6 a7 a8 => g2 w' p' b' a1 a2 a3 a4 a5 a6 a7 (by omega)⟩ _ _
    · rintro M2 ⟨k1, k2⟩ z4 z5
      have hM2 : MR R M2 := hM.fs k1 (fun t i j z => by omega)
      rw [bMo_solveRules_13, hM2.1, bshl_pw (by omega), if_pos (by omega), bMo_solveRules_96, w32_id (by omega)]
      exact gk M2 ⟨k1, fun w' p' b' a1 a2 a3 a4 a5 a6 a7 a8 => k2 w' p' b' a1 a2 a3 a4 a5 a6 a7 (by omega)⟩ _ _ _
    · rintro b M2 b1 b2 ⟨k1, k2⟩ kk z4 z5
      have hM2 : MR R M2 := hM.fs k1 (fun t i j z => by omega)
      have hS := sta_of h hn1 ⟨p1, p2⟩ hf ⟨b1, b2⟩
      rw [bMo_solveRules_13, hM2.1, bshl_pw (by omega), if_neg (by omega), bMo_solveRules_19, m_isPlace hM2 h (by omega), if_pos hf, KV_eq, bMo_solveRules_22, if_neg (by omega)]
      have htI : 7000 ≤ tI 1 w p b := by unfold tI; omega
      refine m_ruleCell hM2 h hn1 (hH.tx (k1.tx (fun t i j z => by omega))) (fun i x hi hx => by rw [k1.g1 87 _ _ (by omega)]; exact hU i x hi hx) hW hS hfit (by omega) ?_ ?_
      · intro hw1 p' b' a1 a2
        have hbl := bits_lt (by omega) a1
        exact k2 (w - 1) p' b' (by omega) (by omega) a1.1.1 a1.1.2 ⟨a2 0 (by omega) (by omega), a2 1 (by omega) (by omega), a2 2 (by omega) (by omega)⟩ hbl.1 hbl.2 (by omega)
      · intro M3 y4 y5 f3 e3
        rw [bMo_solveRules_94, w32_id (by omega)]
        refine kk M3 ⟨k1.tr (f3.mono (fun t i j z => by omega)), ?_⟩ _ _
        intro w' p' b' a1 a2 a3 a4 a5 a6 a7 a8
        by_cases he : w' = w ∧ p' = p ∧ b' = b
        · obtain ⟨rfl, rfl, rfl⟩ := he; exact e3
        · exact (k2 w' p' b' a1 a2 a3 a4 a5 a6 a7 (by omega)).keep f3 ⟨p1, p2⟩ hS.2.1 ⟨a3, a4⟩ (by omega) w1 a1 he (fun t i j z q => by omega)
  · rintro w M' w1 w2 ⟨g1, g2⟩
    exact ⟨g1, fun w' p' b' a1 a2 a3 a4 a5 a6 a7 a8 => g2 w' p' b' a1 a2 a3 a4 a5 a6 a7 (by omega)⟩
end
