/-! LAYER 3, WHAT GOES BY: the reference goes through; FIRST, LATE, WASTE -/
abbrev pRgo (t i j : Nat) : Prop := pSv t i j ∨ pFl t i j ∨ t = 104
def WkM (R : RT) (w : Int) (A : Nat → Int) (u : Int → Int) (M : Mem) : Prop := WAm A M ∧ Rm 104 u M ∧ (∀ q, A q + sumN (fun i => u i * phi R q w.toNat (cdI i)) 1000 = phW R q) ∧ sumN u 1000 * scI (R 4 1) w ≤ scI (R 4 1) (R 4 2) ∧ (∀ i : Int, 0 ≤ i → i < 1000 → 0 ≤ u i) ∧ (∀ i : Int, u i ≠ 0 → OkS R i)
theorem cd_b0 {p : Int} : cd p 0 = 0 := by
  unfold cd lsp
  rw [b0.1, b0.2.1, b0.2.2]; rfl
theorem cdI_v {p b : Int} (hb : 0 ≤ b ∧ b < 8) : cdI (p * 8 + b) = cd p b := by
  unfold cdI
  rw [show (p * 8 + b) / 8 = p by omega, show (p * 8 + b) % 8 = b by omega]
theorem cd_bgn {R : RT} (h : WR R) (hn1 : 1 ≤ R 4 1) : Sta R (bgn R) (evb R) ∧ cd (bgn R) (evb R) = bgn R ∧ ¬ hfP (bgn R) (evb R) := by
  have hb := h.b
  have hp := bgn_pos h hn1
  have hpl := bgn_plain h
  have hpn := pw_n (n := R 4 1) ⟨hn1, by omega⟩
  have hev : 0 ≤ evb R ∧ evb R < pw (R 4 1) := by unfold evb; omega
  have hcdo := cdo_evb h hn1 (by omega) hpl
  have hnf : ¬ hfP (bgn R) (evb R) := fun z => by
    unfold cdo at hcdo; rw [if_pos z] at hcdo; omega
  refine ⟨sta_of h hn1 (by omega) hpl.2.2.2 hev, ?_, hnf⟩
  unfold cdo at hcdo; rw [if_neg hnf] at hcdo; exact hcdo
section
variable {d : Nat} {Q : AV → Mem → Prop} {X : Nat → Mem → Prop}
/-- one week -/
theorem m_rtWeek {M : Mem} {R : RT} {w : Int} {A : Nat → Int} {u : Int → Int} {z2 z3 : AV} (hM : MR R M) (h : WR R) (hn1 : 1 ≤ R 4 1) (sv : Solved R M) (hw : 1 ≤ w ∧ w ≤ R 4 2) (hI : WkM R w A u M)
    (hq : ∀ M' z2 z3, Fs (fun t i j => pFl t i j ∨ t = 104) M M' → (∃ A u, WkM R (w - 1) A u M') → At (d + 3 + 1) kMo_runsThrough 56 [vr 10 0, vi (w - 1), z2, z3] [] M' Q X) : At (d + 3 + 1) kMo_runsThrough 58 [vr 10 0, vi w, z2, z3] [] M Q X := by
  have hb := h.b
  obtain ⟨k1, k2, k3, k4, k5, k6⟩ := hI
  have hS := scI_R (n := R 4 1) (w := w) (by omega) (by omega)
  have hS' := scI_R (n := R 4 1) (w := w - 1) (by omega) (by omega)
  have hT := scI_R (n := R 4 1) (w := R 4 2) (by omega) (by omega)
  rw [bMo_runsThrough_58]
  refine m_rtClear (d := d + 1) ?_
  intro M3 y2 y3 f3 r3
  rw [bMo_runsThrough_79]
  have hkp : ∀ M4, Fs pFl M3 M4 → MR R M4 ∧ Solved R M4 ∧ Rm 104 u M4 ∧ Fs (fun t i j => pFl t i j ∨ t = 104) M M4 := fun M4 f4 => by
    have f : Fs pFl M M4 := (f3.mono (fun t i j z => by omega)).tr f4
    exact ⟨hM.fs f (fun t i j z => by omega), sv.fs (by omega) ⟨hn1, by omega⟩ f (fun t i j z => by omega), fun p b a1 a2 a3 a4 => by rw [f.g2 104 _ _ (by omega)]; exact k2 p b a1 a2 a3 a4, f.mono (fun t i j z => Or.inl z)⟩
  have hloop := loop2I 0 125 1 8 (by omega) (by omega) (fun p M' => ∀ z3, At (d + 3 + 1) kMo_runsThrough 81 [vr 10 0, vi w, vi p, z3] [] M' Q X) (fun p b M' => At (d + 3 + 1) kMo_runsThrough 86 [vr 10 0, vi w, vi p, vi b] [] M' Q X)
    (fun p b M4 => Fs pFl M3 M4 ∧ ∃ G : GS, WAm G.1 M4 ∧ Rm 106 G.2 M4 ∧ Wk 1000 (fun q i => phi R q w.toNat (cdI i)) (fun q i => phi R q (w - 1).toNat (cdI i)) (scI (R 4 1) w) (scI (R 4 1) (w - 1)) (scI (R 4 1) (R 4 2)) (phW R) u (if b = 1 then p * 8 else p * 8 + b) G ∧ ∀ i : Int, G.2 i ≠ 0 → OkS R i) ?_ ?_ ?_ ?_ ?_
  · refine hloop M3 ⟨Fs.rf, (A, fun _ => 0), ⟨?_, ?_, ?_, fun s s0 s3 => ?_⟩, r3, ?_, fun i hi => absurd rfl hi⟩ _
    · rw [f3.g2 10 0 61 (by omega)]; exact k1.1
    · rw [f3.g2 10 0 62 (by omega)]; exact k1.2.1
    · rw [f3.g2 10 0 63 (by omega)]; exact k1.2.2.1
    · rw [f3.g2 102 0 _ (by omega)]; exact k1.2.2.2 s s0 s3
    · rw [if_pos rfl]
      exact Wk.init (K := 1000) (f := fun q i => phi R q w.toNat (cdI i)) (g := fun q i => phi R q (w - 1).toNat (cdI i)) (S' := scI (R 4 1) (w - 1)) k3 k4
  · rintro M4 ⟨f4, G, g1, g2, g3, g4⟩ z3
    obtain ⟨-, -, -, fM⟩ := hkp M4 f4
    rw [if_pos rfl] at g3
    rw [bMo_runsThrough_81, if_pos (by omega), bMo_runsThrough_107]
    refine m_rtCopy (d := d + 1) g2 ?_
    intro M5 x2 x3 f5 r5
    rw [bMo_runsThrough_133, w32_id (by omega), show w + -1 = w - 1 by omega]
    have hfin := Wk.fin (K := 1000) g3
    refine hq M5 _ _ (fM.tr (f5.mono (fun t i j z => Or.inr z))) ⟨G.1, G.2, ⟨?_, ?_, ?_, fun s s0 s3 => ?_⟩, r5, hfin.1, hfin.2, g3.2.2, g4⟩
    · rw [f5.g2 10 0 61 (by omega)]; exact g1.1
    · rw [f5.g2 10 0 62 (by omega)]; exact g1.2.1
    · rw [f5.g2 10 0 63 (by omega)]; exact g1.2.2.1
    · rw [f5.g2 102 0 _ (by omega)]; exact g1.2.2.2 s s0 s3
  · rintro p M4 p0 p1 - g z3
    rw [bMo_runsThrough_81, if_neg (by omega), bMo_runsThrough_84]; exact g
  · intro p M4 p0 p1 g
    rw [bMo_runsThrough_86, if_pos (by omega), bMo_runsThrough_105, w32_id (by omega)]; exact g _
  · rintro p b M4 p0 p1 b0' b1' ⟨f4, G, g1, g2, g3, g4⟩ gk
    obtain ⟨hM4, sv4, rm4, -⟩ := hkp M4 f4
    have g3' : Wk 1000 (fun q i => phi R q w.toNat (cdI i)) (fun q i => phi R q (w - 1).toNat (cdI i)) (scI (R 4 1) w) (scI (R 4 1) (w - 1)) (scI (R 4 1) (R 4 2)) (phW R) u (p * 8 + b) G := by
      by_cases hb1 : b = 1
      · rw [if_pos hb1] at g3
        rw [hb1]
        refine g3.skip (by omega) (by omega) (k5 _ (by omega) (by omega)) (fun q => ?_)
        have e := cdI_v (p := p) (b := 0) (by omega)
        rw [Int.add_zero] at e
        show u (p * 8) * phi R q w.toNat (cdI (p * 8)) = 0
        rw [e, cd_b0, phi_0, Int.mul_zero]
      · rw [if_neg hb1] at g3; exact g3
    have e104 := rm4 p b p0 (by omega) (by omega) (by omega)
    have hu0 := k5 (p * 8 + b) (by omega) (by omega)
    have hule := g3'.le (by omega) (by omega) (by omega) (by omega) k5 (x := p * 8 + b) (by omega) (by omega)
    have hpos := ofI_pos (z := u (p * 8 + b)) ⟨hu0, by omega⟩
    have hcI := cdI_v (p := p) (b := b) (by omega)
    have hnx : (if b + 1 = 1 then p * 8 else p * 8 + (b + 1)) = p * 8 + b + 1 := by rw [if_neg (by omega)]; omega
    rw [bMo_runsThrough_86, if_neg (by omega), bMo_runsThrough_89 (by omega), e104]
    by_cases hz : u (p * 8 + b) = 0
    · rw [if_pos (cmp64_le.mpr (fun z => by have := hpos.mp z; omega)), bMo_runsThrough_103, w32_id (by omega)]
      refine gk M4 ⟨f4, G, g1, g2, ?_, g4⟩
      rw [hnx]
      exact g3'.skip (by omega) (by omega) hu0 (fun q => by rw [hz, Int.zero_mul])
    · obtain ⟨-, hSt, hfit, hnf⟩ := k6 _ hz
      rw [show (p * 8 + b) / 8 = p by omega, show (p * 8 + b) % 8 = b by omega] at hSt hnf
      rw [show (p * 8 + b) / 8 = p by omega] at hfit
      have hno : ¬ ovP w p b := fun z => by
        rcases z with z | z | z
        · omega
        · omega
        · exact hnf z
      have hg := gng_of hnf
      have hcd0 := (ov_no hSt.2.1 hno).2.2.2
      rw [if_neg (fun z => cmp64_le.mp z (hpos.mpr (by omega))), bMo_runsThrough_98]
      refine m_flows (d := d) (G := G) (k := u (p * 8 + b)) hM4 h hn1 sv4 hSt hfit hno hw ⟨by omega, by omega⟩ e104 g1 g2 ?_
      intro M5 f5 a5 r5
      rw [KU_eq, bMo_runsThrough_103, w32_id (by omega)]
      have hpn := pw_n (n := R 4 1) ⟨hn1, by omega⟩
      have hY : ∀ m : Int, 0 ≤ m → m < ((pw (R 4 1)).toNat : Int) → wI R w (cd p b) (rwX R w (cd p b)) m ≠ 0 → _ := fun m m0 m1 hW => end_w h hn1 (w := w) (m := m) hSt hg ⟨m0, by omega⟩ hW
      have hia := ia_R b (dr (rwX R w (cd p b)) 0) (dr (rwX R w (cd p b)) 1) (dr (rwX R w (cd p b)) 2)
      refine gk M5 ⟨f4.tr f5, _, a5, r5, ?_, ?_⟩
      · rw [hnx]
        refine g3'.step (k := u (p * 8 + b)) (C := fun q => cQ R q w (cd p b)) (n := (pw (R 4 1)).toNat) (by omega) rfl hu0 (by omega) (fun q => ?_) ?_ (fun m _ _ => (wI_R h).1) (fun m m0 m1 hW => ?_)
        · show phi R q w.toNat (cdI (p * 8 + b)) = _
          rw [hcI, phi_at (by omega) hcd0]
          congr 1
          refine sumN_congr _ (fun m m0 m1 => ?_)
          by_cases hW : wI R w (cd p b) (rwX R w (cd p b)) m = 0
          · rw [hW, Int.zero_mul, Int.zero_mul]
          · obtain ⟨t1, t2, t3, t4, t5⟩ := hY m m0 m1 hW
            congr 1
            unfold tQ
            show (if won (cd p b) (dvm (rwX R w (cd p b)) m) = 0 then _ else _) = (if won (cd p b) (dvm (rwX R w (cd p b)) m) = 0 then phi R q (w - 1).toNat (cdI (ct p m * 8 + ia b (dr (rwX R w (cd p b)) 0) (dr (rwX R w (cd p b)) 1) (dr (rwX R w (cd p b)) 2))) else _)
            rw [cdI_v hia, t4]
        · rw [wS ⟨hn1, by omega⟩]; exact scI_s (by omega) (by omega)
        · obtain ⟨t1, -, -, -, -⟩ := hY m m0 m1 hW
          have := t1.1
          constructor <;> omega
      · refine flN_sup (P := fun i => OkS R i) (G := (fun q => G.1 q + u (p * 8 + b) * cQ R q w (cd p b), G.2)) g4 (pw (R 4 1)).toNat (fun m m0 m1 hW hV => ?_)
        obtain ⟨t1, t2, t3, t4, t5⟩ := hY m m0 m1 hW
        have hc := t1.1
        unfold OkS
        generalize ia b (dr (rwX R w (cd p b)) 0) (dr (rwX R w (cd p b)) 1) (dr (rwX R w (cd p b)) 2) = b' at *
        rw [show (ct p m * 8 + b') / 8 = ct p m by omega, show (ct p m * 8 + b') % 8 = b' by omega]
        exact ⟨by omega, t1, fun s s0 s3 => Int.le_trans (t2 s s0 s3) (hfit s s0 s3), fun z => t5.mp z hV⟩
  · rintro p M4 p0 p1 ⟨f4, G, g1, g2, g3, g4⟩
    refine ⟨f4, G, g1, g2, ?_, g4⟩
    rw [if_neg (by omega)] at g3
    rw [if_pos rfl, show (p + 1) * 8 = p * 8 + 8 by omega]; exact g3
theorem m_runsThrough {M : Mem} {R : RT} (hM : MR R M) (h : WR R) (hn1 : 1 ≤ R 4 1) (hH : HL R M) (hs : M.1 10 0 44 ≠ 0 → Solved R M)
    (hq : ∀ M', Fs pRgo M M' → MR R M' → Solved R M' → WAm (phW R) M' → Q (vi 0) M') : Call (d + 64) qMo_runsThrough [vr 10 0] M Q X := by
  have hb := h.b
  obtain ⟨hSt, hcd, hnf⟩ := cd_bgn h hn1
  have hp := bgn_pos h hn1
  have hT := scI_R (n := R 4 1) (w := R 4 2) (by omega) (by omega)
  rw [eMo_runsThrough, bMo_runsThrough_0]
  refine m_solve (d := d) hM h hn1 hH hs ?_
  intro M1 f1 sv1 h44
  have hM1 : MR R M1 := hM.fs f1 (fun t i j z => by omega)
  rw [KU_eq, bMo_runsThrough_2]
  have f2 : Fs (fun t i j => pFl t i j ∨ t = 104) M1 (sL (sL (sL M1 10 0 61 0) 10 0 62 0) 10 0 63 0) := ((Fs.rf.sL (by omega)).sL (by omega)).sL (by omega)
  refine m_rtInit (d := d + 60) ?_
  intro M3 z1 z2 z3 f3 r3 s3
  have f3' : Fs (fun t i j => pFl t i j ∨ t = 104) M1 M3 := f2.tr (f3.mono (fun t i j z => by omega))
  have hM3 : MR R M3 := hM1.fs f3' (fun t i j z => by omega)
  have e13 : ∀ v, (sL M3 104 (0 * 125 + (bgn R).toNat) (evb R).toNat v).1 10 0 13 = R 4 2 := fun v => hM3.2.1
  rw [bMo_runsThrough_44, m_beginPlace hM3 h, KV_eq, bMo_runsThrough_48 (by omega), m_everybody hM3 h, KV_eq, bMo_runsThrough_51 hSt.2.1, e13]
  have key : ∀ w M', 0 ≤ w → w ≤ R 4 2 → (Fs (fun t i j => pFl t i j ∨ t = 104) M1 M' ∧ ∃ A u, WkM R w A u M') → ∀ z2 z3, At (d + 60 + 3) kMo_runsThrough 56 [vr 10 0, vi w, z2, z3] [] M' Q X := by
    intro w M' hw0 hw1 hI
    refine loop_dn (fun w M' => ∀ z2 z3, At (d + 60 + 3) kMo_runsThrough 56 [vr 10 0, vi w, z2, z3] [] M' Q X) (fun w M' => Fs (fun t i j => pFl t i j ∨ t = 104) M1 M' ∧ ∃ A u, WkM R w A u M') 0 (R 4 2) ?_ ?_ w M' hw0 hw1 hI
    · rintro M4 ⟨f4, A, u, k1, k2, k3, k4, k5, k6⟩ z2 z3
      rw [bMo_runsThrough_56, if_pos (by omega), bMo_runsThrough_135]
      have hA : A = phW R := by
        funext q
        rw [← k3 q]
        have : sumN (fun i => u i * phi R q (0 : Int).toNat (cdI i)) 1000 = 0 := sumN_z 1000 (fun x _ _ => Int.mul_zero _)
        omega
      rw [hA] at k1
      exact hq M4 ((f1.mono (fun t i j z => Or.inl z)).tr (f4.mono (fun t i j z => Or.inr z))) (hM1.fs f4 (fun t i j z => by omega)) (sv1.fs (by omega) ⟨hn1, by omega⟩ f4 (fun t i j z => by omega)) k1
    · rintro w M4 w0 w1 ⟨f4, A, u, hI4⟩ hn z2 z3
      rw [bMo_runsThrough_56, if_neg (by omega)]
      refine m_rtWeek (d := d + 59) (hM1.fs f4 (fun t i j z => by omega)) h hn1 (sv1.fs (by omega) ⟨hn1, by omega⟩ f4 (fun t i j z => by omega)) (by omega) hI4 ?_
      intro M5 y2 y3 f5 hI5
      exact hn M5 ⟨f4.tr f5, hI5⟩ _ _
  refine key (R 4 2) _ (by omega) (by omega) ⟨f3'.sL (by omega), fun _ => 0, upf (fun _ => 0) (bgn R * 8 + evb R) 1, ⟨?_, ?_, ?_, fun s s0 s3' => ?_⟩, ?_, ?_, ?_, ?_, ?_⟩ _ _
  · rw [sL2, if_neg (by omega), f3.g2 10 0 61 (by omega), sL2, if_neg (by omega), sL2, if_neg (by omega), sL_eq]; rfl
  · rw [sL2, if_neg (by omega), f3.g2 10 0 62 (by omega), sL2, if_neg (by omega), sL_eq]; rfl
  · rw [sL2, if_neg (by omega), f3.g2 10 0 63 (by omega), sL_eq]; rfl
  · rw [sL2, if_neg (by omega)]; exact s3 s s0 s3'
  · intro p b a1 a2 a3 a4
    have hbr := hSt.2.1
    unfold upf
    by_cases he : p = bgn R ∧ b = evb R
    · obtain ⟨rfl, rfl⟩ := he
      rw [if_pos rfl, sL_eq]; rfl
    · rw [if_neg (by omega), sL2, if_neg (by omega)]; exact r3 p b a1 a2 a3 a4
  · intro q
    have hbr := hSt.2.1
    rw [sum_upf (by omega) (by omega), sumN_z 1000 (fun x _ _ => Int.zero_mul _)]
    show 0 + (0 + 1 * phi R q (R 4 2).toNat (cdI (bgn R * 8 + evb R))) = _
    rw [cdI_v hSt.2.1, hcd]
    unfold phW; omega
  · have hbr := hSt.2.1
    rw [sum_upf1 (by omega) (by omega), sumN_z 1000 (fun x _ _ => rfl)]; omega
  · intro x _ _
    show 0 ≤ (if x = bgn R * 8 + evb R then (0 : Int) + 1 else 0)
    split <;> omega
  · intro x hx'
    have hbr := hSt.2.1
    have : x = bgn R * 8 + evb R := by
      unfold upf at hx'
      by_cases hy : x = bgn R * 8 + evb R
      · exact hy
      · rw [if_neg hy] at hx'; exact absurd rfl hx'
    rw [this]
    unfold OkS
    rw [show (bgn R * 8 + evb R) / 8 = bgn R by omega, show (bgn R * 8 + evb R) % 8 = evb R by omega]
    exact ⟨by omega, hSt, fun s s0 s3 => by rw [dg_bgn h ⟨s0, s3⟩]; omega, hnf⟩
end
