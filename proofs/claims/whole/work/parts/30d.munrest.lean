/-! LAYER 3, UNREST: the reference -/
theorem plain_nf {R : RT} (h : WR R) {p b : Int} (hS : Sta R p b) (hpl : plainP R p) : ¬ hfP p b := by
  have k : ∀ s : Int, 0 ≤ s → s < 3 → ¬ (bit b s = 1 ∧ dg p s = 0) := by
    intro s s0 s3 z
    by_cases hs : s < R 4 1
    · obtain ⟨p0, p1, p2, -⟩ := hpl
      rcases (by omega : s = 0 ∨ s = 1 ∨ s = 2) with rfl | rfl | rfl
      · exact p0 hs z.2
      · exact p1 hs z.2
      · exact p2 hs z.2
    · have := (hS.2.2 s s0 s3 (by omega)).2; omega
  intro z
  rcases z with z | z | z
  · exact k 0 (by omega) (by omega) z
  · exact k 1 (by omega) (by omega) z
  · exact k 2 (by omega) (by omega) z
section
variable {d : Nat} {Q : AV → Mem → Prop} {X : Nat → Mem → Prop}
theorem m_unrest {M : Mem} {R : RT} (hc : Cur R M) (hq : ∀ M' v, MS R M M' → M'.1 10 0 0 = tR R → (tR R = 0 → v = unV R) → Q (vi v) M') : Call (d + 64) qMo_unrest [vr 10 0] M Q X := by
  have h20 := hc.n
  rw [eMo_unrest, bMo_unrest_0, th_ne (by omega), h20]
  by_cases h0 : R 4 1 = 0
  · rw [if_neg (fun z => z h0), bMo_unrest_7, bMo_unrest_10, m_bad1 (by omega), KV_eq, bMo_unrest_12, if_neg (by omega), bMo_unrest_13]
    refine hq _ _ (MS.th hc 1) ?_ ?_
    · unfold tR; rw [if_pos h0]; exact th0_eq
    · unfold tR; rw [if_pos h0]; intro z; omega
  rcases id hc with hc0 | ⟨B, n, T, hx, hcm⟩
  · exact absurd hc0.1 h0
  have hW := hx.wr
  have hb := hW.b
  have hn1 := hx.2.1
  have hpn := pw_n (n := R 4 1) ⟨hn1, by omega⟩
  rw [if_pos h0, bMo_unrest_9, bMo_unrest_10, m_bad0, KV_eq, bMo_unrest_12, if_pos rfl, bMo_unrest_15]
  obtain ⟨fs0, -⟩ := MS.t0 hc
  have hcm0 : CM R B n T (sI M 10 0 0 0) := hcm.fs (by omega) ⟨hn1, by omega⟩ (P := fun t i j => t = 10 ∧ i = 0 ∧ j = 0) (Fs.rf.sI (by omega)) (fun t i j z => by omega)
  refine m_solveC (d := d) hx hcm0 ?_
  intro M1 f1 c1 sv
  have hM1 := c1.1
  have hq' := hq M1 (unV R) ⟨fs0.tr (f1.mono (fun t i j z => (sv_sc z).1)), Or.inr ⟨B, n, T, hx, c1⟩⟩ (by
    rw [f1.g1 10 0 0 (fun z => (sv_sc z).2 ⟨rfl, rfl⟩)]
    unfold tR; rw [if_neg h0]; exact sI_eq) (fun _ => rfl)
  clear hq
  rw [KU_eq, bMo_unrest_17]
  have bits : ∀ w p acc : Int, 1 ≤ w → w ≤ R 4 2 → 0 ≤ p → p < 125 → plB R p = true → 0 ≤ acc → acc ≤ 1000000 → At (d + 63) kMo_unrest 32 [vr 10 0, vi acc, vi w, vi p, vi 1] [] M1 Q X = At (d + 63) kMo_unrest 32 [vr 10 0, vi (acc + ruI R w p), vi w, vi p, vi (pw (R 4 1))] [] M1 Q X := by
    intro w p acc w0 w1 p0 p1 hpb a0 a1
    have hpl : plainP R p := of_decide_eq_true hpb
    obtain ⟨_, e⟩ := sum_up (α := Unit) (A := fun b acc _ => At (d + 63) kMo_unrest 32 [vr 10 0, vi acc, vi w, vi p, vi b] [] M1 Q X) (f := fun b => giX R w (cd p b)) (c := 1) (B := 1000010) (fun k => giX_R R w _) (pw (R 4 1) - 1).toNat (by
      intro b acc _ b0 b1 c0 c1'
      refine ⟨(), ?_⟩
      show At _ _ _ _ _ _ _ _ = At _ _ _ _ _ _ _ _
      have hS := sta_of hW hn1 ⟨p0, p1⟩ hpl.2.2.2 (b := b) (by omega)
      have hnf := plain_nf hW hS hpl
      have hent := sv w p b (by omega) (by omega) p0 p1 hpl.2.2.2 (by omega) (by omega)
      have e78 : M1.2 78 ((0 * 7 + w.toNat) * 125 + p.toNat) b.toNat = gnD R w (cd p b) := by
        have := hent.gn
        unfold cdo at this
        rw [if_neg hnf] at this
        exact this
      have hfx : fitsP R (cd p b) := fits_cd (fun s s0 s3 => by
        rcases (by omega : s = 0 ∨ s = 1 ∨ s = 2) with rfl | rfl | rfl
        · exact hpl.2.2.2.1
        · exact hpl.2.2.2.2.1
        · exact hpl.2.2.2.2.2)
      have hpos := gnD_pos hW hn1 (w := w) (x := cd p b) (by omega) hfx
      rw [bMo_unrest_32, hM1.1, bshl_pw (by omega), if_neg (by omega), bMo_unrest_38, m_isWhole hM1 hW ⟨p0, p1⟩, KV_eq, bMo_unrest_41, hpb, b01_t, if_neg (by omega), bMo_unrest_42 ⟨by omega, by omega, by omega⟩, e78]
      unfold giX
      by_cases hg : gnD R w (cd p b) = 0
      · rw [if_pos (cmp64_le.mpr (fun z => hpos.mp z hg)), if_pos hg, bMo_unrest_56, bMo_unrest_57, w32_id (by omega), w32_id (by omega)]
      · rw [if_neg (fun z => cmp64_le.mp z (hpos.mpr hg)), if_neg hg, bMo_unrest_54, bMo_unrest_57, w32_id (by omega), w32_id (by omega)]) acc () a0 (by omega)
    rw [show (((pw (R 4 1) - 1).toNat : Nat) : Int) + 1 = pw (R 4 1) by omega] at e
    exact e
  have places : ∀ w acc : Int, ∀ z, 1 ≤ w → w ≤ R 4 2 → 0 ≤ acc → acc ≤ 900000 → ∃ z', At (d + 63) kMo_unrest 27 [vr 10 0, vi acc, vi w, vi 0, z] [] M1 Q X = At (d + 63) kMo_unrest 27 [vr 10 0, vi (acc + sum1 (ruF R w) 124), vi w, vi 125, z'] [] M1 Q X := by
    intro w acc z w0 w1 a0 a1
    have z2 : ruF R w 0 = 0 := by unfold ruF; rw [plB_0 hn1]; rfl
    exact sum_up0 (α := AV) (A := fun p acc z => At (d + 63) kMo_unrest 27 [vr 10 0, vi acc, vi w, vi p, z] [] M1 Q X) (f := ruF R w) (c := 7) (B := 910000) (fun k => ruF_R hW hn1 w k) z2 124 (by
      intro p acc z p0 p1 b0 b1
      have hru := ruI_R hW hn1 w p
      by_cases hpb : plB R p = true
      · refine ⟨vi (pw (R 4 1)), ?_⟩
        show At _ _ _ _ _ _ _ _ = At _ _ _ _ _ _ _ _
        rw [bMo_unrest_27, if_neg (by omega), bMo_unrest_30, bits w p acc w0 w1 p0 (by omega) hpb b0 (by omega), bMo_unrest_32, hM1.1, bshl_pw (by omega), if_pos (by omega), bMo_unrest_61, w32_id (by omega)]
        unfold ruF; rw [if_pos hpb]
      · refine ⟨vi 1, ?_⟩
        show At _ _ _ _ _ _ _ _ = At _ _ _ _ _ _ _ _
        rw [Bool.not_eq_true] at hpb
        rw [bMo_unrest_27, if_neg (by omega), bMo_unrest_30, bMo_unrest_32, hM1.1, bshl_pw (by omega), if_neg (by omega), bMo_unrest_38, m_isWhole hM1 hW ⟨p0, by omega⟩, KV_eq, bMo_unrest_41, hpb, b01_f, if_pos rfl, bMo_unrest_61, w32_id (by omega)]
        unfold ruF; rw [hpb]; simp) acc z a0 (by omega)
  have hrb : ∀ k : Int, 0 ≤ sum1 (ruF R k) 124 ∧ sum1 (ruF R k) 124 ≤ 868 := fun k => by
    have := sum1_R (f := ruF R k) (c := 7) (fun x => ruF_R hW hn1 k x) 124; omega
  obtain ⟨z', e⟩ := sum_up (α := AV × AV) (A := fun w acc z => At (d + 63) kMo_unrest 21 [vr 10 0, vi acc, vi w, z.1, z.2] [] M1 Q X) (f := fun w => sum1 (ruF R w) 124) (c := 868) (B := 900000) hrb (R 4 2).toNat (by
    intro w acc z w0 w1 a0 a1
    obtain ⟨y, e⟩ := places w acc z.2 w0 (by omega) a0 (by omega)
    refine ⟨(vi 125, y), ?_⟩
    have := hrb w
    show At _ _ _ _ _ _ _ _ = At _ _ _ _ _ _ _ _
    rw [bMo_unrest_21, hM1.2.1, if_neg (by omega), bMo_unrest_25, e, bMo_unrest_27, if_pos (by omega), bMo_unrest_63, w32_id (by omega)]) 0 (JK, JK) (by omega) (by omega)
  refine e.mpr ?_
  show At _ _ _ _ _ _ _ _
  rw [bMo_unrest_21, hM1.2.1, if_pos (by omega), bMo_unrest_65, Int.zero_add]
  have hv : sum1 (fun w => sum1 (ruF R w) 124) (R 4 2).toNat = unV R := by
    unfold unV
    exact sum1_congr _ (fun k _ _ => (un_eq hW hn1).symm)
  rw [hv]; exact hq'
end
