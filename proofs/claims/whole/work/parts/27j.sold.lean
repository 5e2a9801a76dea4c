/-! LAYER 3, STEPS SOLD, WHO WOULD COME IN -/
theorem bgn_v {R : RT} (h : WR R) : bgn R = R 33 0 + R 33 1 * 5 + R 33 2 * 25 := by
  have hb := h.b
  unfold bgn bgo
  repeat' split
  all_goals omega
theorem dg3 {a b c : Int} (ha : 0 ≤ a ∧ a ≤ 4) (hb : 0 ≤ b ∧ b ≤ 4) (hc : 0 ≤ c ∧ c ≤ 4) : dg (a + b * 5 + c * 25) 0 = a ∧ dg (a + b * 5 + c * 25) 1 = b ∧ dg (a + b * 5 + c * 25) 2 = c := by
  refine ⟨?_, ?_, ?_⟩
  · show (a + b * 5 + c * 25) % 5 = a; omega
  · show (a + b * 5 + c * 25) / 5 % 5 = b; omega
  · show (a + b * 5 + c * 25) / 25 % 5 = c; omega
theorem dg_bgn {R : RT} (h : WR R) {s : Int} (hs : 0 ≤ s ∧ s < 3) : dg (bgn R) s = stp R s := by
  have hb := h.b
  have e := dg3 (a := R 33 0) (b := R 33 1) (c := R 33 2) (by omega) (by omega) (by omega)
  rw [bgn_v h]
  unfold stp
  rcases (by omega : s = 0 ∨ s = 1 ∨ s = 2) with rfl | rfl | rfl
  · exact e.1
  · exact e.2.1
  · exact e.2.2
theorem plain_of {R : RT} (h : WR R) {p : Int} (hd : ∀ s : Int, 0 ≤ s → s < 3 → (s < R 4 1 → 1 ≤ dg p s) ∧ dg p s ≤ stp R s) : plainP R p := by
  have h0 := hd 0 (by omega) (by omega)
  have h1 := hd 1 (by omega) (by omega)
  have h2 := hd 2 (by omega) (by omega)
  refine ⟨fun z => ?_, fun z => ?_, fun z => ?_, h0.2, h1.2, h2.2⟩
  · have := h0.1 z; omega
  · have := h1.1 z; omega
  · have := h2.1 z; omega
theorem stp_n {R : RT} (h : WR R) {s : Int} (hs : 0 ≤ s ∧ s < 3) : (s < R 4 1 ↔ 1 ≤ stp R s) := by
  have := h.2.2.2.2.2.2.2.1 s.toNat (by omega)
  unfold stp
  rw [show ((s.toNat : Nat) : Int) = s by omega] at this
  exact this
theorem bgn_plain {R : RT} (h : WR R) : plainP R (bgn R) := plain_of h (fun s s0 s3 => by
  rw [dg_bgn h ⟨s0, s3⟩]; have := stp_n h ⟨s0, s3⟩; omega)
/-- the beginning with one step of one of them made -/
theorem dg_sub {R : RT} (h : WR R) {b s : Int} (hb : 0 ≤ b ∧ b < 3) (h2 : 1 ≤ stp R b) (hs : 0 ≤ s ∧ s < 3) : dg (bgn R - su b) s = (if s = b then stp R s - 1 else stp R s) ∧ 0 ≤ bgn R - su b ∧ bgn R - su b < 125 := by
  have hh := h.b
  have g0 := h.stp 0 (by omega)
  have g1 := h.stp 1 (by omega)
  have g2 := h.stp 2 (by omega)
  have e0 : stp R 0 = R 33 0 := rfl
  have e1 : stp R 1 = R 33 1 := rfl
  have e2 : stp R 2 = R 33 2 := rfl
  rw [bgn_v h]
  rcases (by omega : b = 0 ∨ b = 1 ∨ b = 2) with rfl | rfl | rfl
  · have e := dg3 (a := R 33 0 - 1) (b := R 33 1) (c := R 33 2) (by omega) (by omega) (by omega)
    rw [show R 33 0 + R 33 1 * 5 + R 33 2 * 25 - su 0 = R 33 0 - 1 + R 33 1 * 5 + R 33 2 * 25 by show _ - 1 = _; omega]
    refine ⟨?_, by omega, by omega⟩
    rcases (by omega : s = 0 ∨ s = 1 ∨ s = 2) with rfl | rfl | rfl
    · rw [e.1]; rfl
    · rw [e.2.1]; rfl
    · rw [e.2.2]; rfl
  · have e := dg3 (a := R 33 0) (b := R 33 1 - 1) (c := R 33 2) (by omega) (by omega) (by omega)
    rw [show R 33 0 + R 33 1 * 5 + R 33 2 * 25 - su 1 = R 33 0 + (R 33 1 - 1) * 5 + R 33 2 * 25 by show _ - 5 = _; omega]
    refine ⟨?_, by omega, by omega⟩
    rcases (by omega : s = 0 ∨ s = 1 ∨ s = 2) with rfl | rfl | rfl
    · rw [e.1]; rfl
    · rw [e.2.1]; rfl
    · rw [e.2.2]; rfl
  · have e := dg3 (a := R 33 0) (b := R 33 1) (c := R 33 2 - 1) (by omega) (by omega) (by omega)
    rw [show R 33 0 + R 33 1 * 5 + R 33 2 * 25 - su 2 = R 33 0 + R 33 1 * 5 + (R 33 2 - 1) * 25 by show _ - 25 = _; omega]
    refine ⟨?_, by omega, by omega⟩
    rcases (by omega : s = 0 ∨ s = 1 ∨ s = 2) with rfl | rfl | rfl
    · rw [e.1]; rfl
    · rw [e.2.1]; rfl
    · rw [e.2.2]; rfl
theorem sub_plain {R : RT} (h : WR R) {b : Int} (hb : 0 ≤ b ∧ b < 3) (h2 : 2 ≤ stp R b) : plainP R (bgn R - su b) := plain_of h (fun s s0 s3 => by
  rw [(dg_sub h hb (by omega) ⟨s0, s3⟩).1]
  have := stp_n h ⟨s0, s3⟩
  by_cases e : s = b
  · subst e; rw [if_pos rfl]; omega
  · rw [if_neg e]; omega)
def tT (R : RT) (a b : Int) : Int := if R 4 1 = 0 then 1 else if (0 ≤ a ∧ a < R 4 1) ∧ (0 ≤ b ∧ b < R 4 1) then (if a = b then 3 else 0) else 2
def soV (R : RT) (a b : Int) : Int64 := if R 37 a.toNat = 0 ∨ stp R b < 2 then Int64.ofInt (-1) else Wf R (R 4 2).toNat (bgn R - su b) a + Wf R (R 4 2).toNat (bgn R - su b) b - Wf R (R 4 2).toNat (bgn R) a - Wf R (R 4 2).toNat (bgn R) b
section
variable {d : Nat} {Q : AV → Mem → Prop} {X : Nat → Mem → Prop}
theorem c_needTwo {M : Mem} {a b : Int} (hn : rd M 0 4 1 ≤ 3) : Call (d + 2) qPR_needTwo [vr 9 0, vi a, vi b] M Q X = if (0 ≤ a ∧ a < rd M 0 4 1) ∧ (0 ≤ b ∧ b < rd M 0 4 1) then (if a = b then X 2 M else Q (vi 0) M) else X 1 M := by
  rw [ePR_needTwo, bPR_needTwo_0, c_needShop hn]
  by_cases ha : 0 ≤ a ∧ a < rd M 0 4 1
  · rw [if_pos ha, KU_eq, bPR_needTwo_3, c_needShop hn]
    by_cases hb : 0 ≤ b ∧ b < rd M 0 4 1
    · rw [if_pos hb, if_pos ⟨ha, hb⟩, KU_eq, bPR_needTwo_6]
      by_cases e : a = b
      · rw [if_neg (fun z => z e), if_pos e, bPR_needTwo_9]
      · rw [if_pos e, if_neg e, bPR_needTwo_14]
    · rw [if_neg hb, if_neg (fun z => hb z.2)]
  · rw [if_neg ha, if_neg (fun z => ha z.1)]
theorem c_sold {M : Mem} {a b : Int} (h0 : CI0 M) (hb : Cb M) (hx1 : tT (rd M 0) a b = 1 → X 0 M) (hx2 : tT (rd M 0) a b = 2 → X 1 M) (hx3 : tT (rd M 0) a b = 3 → X 2 M) (hq : ∀ M', tT (rd M 0) a b = 0 → CQ M M' → Q (vl (soV (rd M 0) a b)) M') : Call (d + 8) qPR_sold [vr 9 0, vi a, vi b] M Q X := by
  have hW := h0.2.2.1 0 (by omega)
  have hbb := hW.b
  unfold tT at hx1 hx2 hx3 hq
  rw [ePR_sold, bPR_sold_0, c_needRace]
  by_cases hn : rd M 0 4 1 = 0
  · rw [if_pos hn] at hx1; rw [if_pos hn]; exact hx1 rfl
  rw [if_neg hn] at hq hx2 hx3
  rw [if_neg hn, KU_eq, bPR_sold_2, c_needTwo (by omega)]
  by_cases hs : (0 ≤ a ∧ a < rd M 0 4 1) ∧ (0 ≤ b ∧ b < rd M 0 4 1)
  · rw [if_pos hs] at hq hx3
    rw [if_pos hs]
    by_cases hab : a = b
    · rw [if_pos hab] at hx3; rw [if_pos hab]; exact hx3 rfl
    rw [if_neg hab] at hq
    rw [if_neg hab, KU_eq, bPR_sold_6 (by omega), rd37]
    by_cases h37 : rd M 0 37 a.toNat = 0
    · rw [if_pos h37, bPR_sold_21]
      have := hq M rfl ⟨Fs.rf, h0, hb⟩
      unfold soV at this
      rwa [if_pos (Or.inl h37)] at this
    · rw [if_neg h37, bPR_sold_15 (by omega), rd33, show rd M 0 33 b.toNat = stp (rd M 0) b from rfl]
      by_cases h2 : 2 ≤ stp (rd M 0) b
      · rw [if_pos h2, bPR_sold_23]
        refine c_settled h0 hb (by omega) ?_
        intro M1 f1 c1 b1 full
        have er : rd M1 0 = rd M 0 := rd_fs f1 (fun t j ht z => by unfold pSd pCl at z; omega)
        have e2 : M1.1 4 0 2 = rd M 0 4 2 := by rw [← er]; rfl
        have hbR := bgo_R hW (rd M 0 4 1)
        have hsR := (dg_sub hW (b := b) (s := 0) (by omega) (by omega) (by omega)).2
        have hp1 := bgn_plain hW
        have hp2 := sub_plain hW (b := b) (by omega) h2
        have esub : w32 (bgn (rd M 0) - su b) = bgn (rd M 0) - su b := w32_id (by omega)
        have z1 := c1.1 0 (by omega)
        rw [KV_eq, bPR_sold_25, c_beginning (by rw [er]; exact hW), KV_eq, bPR_sold_28 (by omega), er, e2, ro_su (by omega), esub, c_worthAt (by omega) hsR (by omega), KV_eq, bPR_sold_41, e2, c_worthAt (by omega) hsR (by omega), KV_eq, bPR_sold_47, e2, c_worthAt (by omega) hbR (by omega), KV_eq, bPR_sold_56, e2, c_worthAt (by omega) hbR (by omega), KV_eq, bPR_sold_63]
        rw [full.wrt z1 (by omega) (by omega) hsR hp2.2.2.2 (by omega), full.wrt z1 (by omega) (by omega) hsR hp2.2.2.2 (by omega), full.wrt z1 (by omega) (by omega) hbR hp1.2.2.2 (by omega), full.wrt z1 (by omega) (by omega) hbR hp1.2.2.2 (by omega)]
        have := hq M1 rfl ⟨f1, c1, b1⟩
        unfold soV at this
        rwa [if_neg (by omega)] at this
      · rw [if_neg h2, bPR_sold_21]
        have := hq M rfl ⟨Fs.rf, h0, hb⟩
        unfold soV at this
        rwa [if_pos (Or.inr (by omega))] at this
  · rw [if_neg hs] at hx2 ⊢; exact hx2 rfl
/-- whether one sells, in the reference -/
theorem m_sells {M : Mem} {R B n T} (hx : TX R B n T) (hc : CM R B n T M) {s : Int} (hs : 0 ≤ s ∧ s < R 4 1) (hq : ∀ M', Fs pHo M M' → Q (vi (R 37 s.toNat)) M') : Call (d + 60) qMo_holds [vr 10 0, vi (M.1 10 0 18), vi 0, vi (R 4 2), vi (bgn R), vi (evb R), vi s] M Q X := by
  have hW := hx.wr
  have hb := hW.b
  obtain ⟨hn5, hn1, hT, D, ht, hr⟩ := hx
  have hpw := pw_n (n := R 4 1) (by omega)
  have hbR := bgo_R hW (R 4 1)
  have hpl := bgn_plain hW
  have hev : 0 ≤ evb R ∧ evb R < 8 := by unfold evb; omega
  have hS : Sta R (bgn R) (evb R) := sta_of hW hn1 hbR hpl.2.2.2 (by unfold evb; omega)
  have hg : Gng (bgn R) (evb R) := by
    intro k k0 k3 hbk
    rw [bit_evb (by omega) ⟨k0, k3⟩] at hbk
    rw [dg_bgn hW ⟨k0, k3⟩]
    have := stp_n hW ⟨k0, k3⟩
    by_cases hk : k < R 4 1
    · omega
    · rw [if_neg hk] at hbk; omega
  have hcd : cd (bgn R) (evb R) = bgn R := by
    have := cdo_evb hW hn1 hbR hpl
    unfold cdo at this
    split at this
    · rename_i hf
      exfalso
      rcases hf with hf | hf | hf
      · exact absurd hf.2 (Int.ne_of_gt (hg 0 (by omega) (by omega) hf.1))
      · exact absurd hf.2 (Int.ne_of_gt (hg 1 (by omega) (by omega) hf.1))
      · exact absurd hf.2 (Int.ne_of_gt (hg 2 (by omega) (by omega) hf.1))
    · exact this
  have hnx : nxm (bgn R) (evb R) s = nxt (bgn R) s := by rw [nxm_eq hg, hcd]
  have e37 : R 37 s.toNat = slT T (stp R s) (nxt (bgn R) s) (R 4 2) := by
    have h4 := hr.2.2.2 s.toNat (by omega)
    have e1 : R 4 1 = D 4 1 := hr.2.1 4 1 (by omega)
    have e2 : R 4 2 = D 4 2 := hr.2.1 4 2 (by omega)
    have e3 : R 33 s.toNat = D 33 s.toNat := hr.2.1 33 _ (by omega)
    rw [show ((s.toNat : Nat) : Int) = s by omega, if_pos (by omega)] at h4
    rw [h4, e2]
    unfold stp
    rw [e3]
  cases hTi : T 0 with
  | none =>
    have e18 : M.1 10 0 18 = -1 := by rw [hc.2.2.2.1, hTi]; rfl
    rw [e18]
    refine Call_up (d := d + 1) (show d + 1 ≤ d + 60 by omega) ?_
    rw [eMo_holds, bMo_holds_0, if_neg (fun z => z rfl), bMo_holds_3]
    have := hq M Fs.rf
    rw [e37] at this
    unfold slT at this
    rw [hTi] at this
    exact this
  | some y =>
    obtain ⟨k0, r⟩ := y
    obtain ⟨hk0, k', hp⟩ := hT 0 k0 r hTi
    have e18 : M.1 10 0 18 = (k0 : Int) := by rw [hc.2.2.2.1, hTi]; rfl
    rw [e18]
    refine Call_up (d := d + 54) (show d + 54 ≤ d + 60 by omega) (m_holds hn5 hc.1 hW hS hc.2.1 hc.2.2.1 hk0 hp ?_)
    intro M2 f2
    have := hq M2 f2
    rw [e37] at this
    unfold slT at this
    rw [hTi] at this
    rw [hnx, dg_bgn hW ⟨hs.1, by omega⟩]
    exact this
theorem wrt_evb {R : RT} {M : Mem} (h : WR R) (hn : 1 ≤ R 4 1) (sv : Solved R M) {w p s : Int} (hw : 0 ≤ w ∧ w ≤ R 4 2) (hp : 0 ≤ p ∧ p < 125) (hpl : plainP R p) (hs : 0 ≤ s ∧ s < R 4 1) : M.2 71 (((0 * 7 + w.toNat) * 125 + p.toNat) * 8 + (evb R).toNat) s.toNat = Wf R w.toNat p s := by
  have hb := h.b
  have hpw := pw_n (n := R 4 1) (by omega)
  have := ((sv w p (evb R) hw.1 hw.2 hp.1 hp.2 hpl.2.2.2 (by unfold evb; omega) (by unfold evb; omega)).1 s hs.1 hs.2).1
  rw [cdo_evb h hn hp hpl] at this
  exact this
theorem ho_sc {t i j : Nat} (h : pHo t i j) : scM t i j ∧ ¬ cmP t i j ∧ ¬ (t = 10 ∧ j = 0) := by
  unfold pHo at h; unfold scM cmP; omega
theorem m_sold {M : Mem} {R : RT} {a b : Int} (hc : Cur R M) (hq : ∀ M' v, MS R M M' → M'.1 10 0 0 = tT R a b → (tT R a b = 0 → v = soV R a b) → Q (vl v) M') : Call (d + 64) qMo_sold [vr 10 0, vi a, vi b] M Q X := by
  have h20 := hc.n
  rw [eMo_sold, bMo_sold_0, th_ne (by omega), h20]
  by_cases h0 : R 4 1 = 0
  · rw [if_neg (fun z => z h0), bMo_sold_7, bMo_sold_10, m_bad1 (by omega), KV_eq, bMo_sold_12, if_pos (by omega), bMo_sold_46]
    refine hq _ _ (MS.th hc 1) ?_ ?_
    · unfold tT; rw [if_pos h0]; exact th0_eq
    · unfold tT; rw [if_pos h0]; intro z; omega
  rw [if_pos h0, bMo_sold_9, bMo_sold_10, m_bad0, KV_eq, bMo_sold_12, if_neg (by omega), bMo_sold_13, th_ne (by omega), h20]
  rcases id hc with hc0 | ⟨B, n, T, hx, hcm⟩
  · exact absurd hc0.1 h0
  have hW := hx.wr
  have hb := hW.b
  have hn1 := hx.2.1
  have hpw := pw_n (n := R 4 1) (by omega)
  have hev : 0 ≤ evb R ∧ evb R < 8 := by unfold evb; omega
  have no2 : ¬ ((0 ≤ a ∧ a < R 4 1) ∧ (0 ≤ b ∧ b < R 4 1)) → At (d + 63) kMo_sold 30 [vr 10 0, vi a, vi b, JK, JK, JK] [vr 10 0] (sI M 10 0 0 0) Q X := by
    intro hs
    rw [bMo_sold_30, bMo_sold_33, m_bad1 (by omega), KV_eq, bMo_sold_35, if_pos (by omega), bMo_sold_46]
    refine hq _ _ (MS.th hc 2) ?_ ?_
    · unfold tT; rw [if_neg h0, if_neg hs]; exact th0_eq
    · unfold tT; rw [if_neg h0, if_neg hs]; intro z; omega
  rw [w32_id (by omega), m_in, KV_eq, bMo_sold_21]
  by_cases ha : 0 ≤ a ∧ a < R 4 1
  · rw [if_neg (by rw [if_pos (by omega)]; omega), bMo_sold_22, th_ne (by omega), h20, w32_id (by omega), m_in, KV_eq, bMo_sold_29]
    by_cases hbs : 0 ≤ b ∧ b < R 4 1
    · rw [if_pos (by rw [if_pos (by omega)]; omega), bMo_sold_32, bMo_sold_33, m_bad0, KV_eq, bMo_sold_35, if_neg (by omega), bMo_sold_36]
      by_cases hab : a = b
      · rw [if_neg (fun z => z hab), bMo_sold_40, bMo_sold_43, m_bad1 (by omega), KV_eq, bMo_sold_45, if_neg (by omega), bMo_sold_46]
        refine hq _ _ (MS.th hc 3) ?_ ?_
        · unfold tT; rw [if_neg h0, if_pos ⟨ha, hbs⟩, if_pos hab]; exact th0_eq
        · unfold tT; rw [if_neg h0, if_pos ⟨ha, hbs⟩, if_pos hab]; intro z; omega
      · have tz : tT R a b = 0 := by unfold tT; rw [if_neg h0, if_pos ⟨ha, hbs⟩, if_neg hab]
        obtain ⟨fs0, cur0⟩ := MS.t0 hc
        have hcm0 : CM R B n T (sI M 10 0 0 0) := hcm.fs (by omega) ⟨hn1, by omega⟩ (P := fun t i j => t = 10 ∧ i = 0 ∧ j = 0) (Fs.rf.sI (by omega)) (fun t i j z => by omega)
        have e56 : (sI M 10 0 0 0).1 56 0 b.toNat = stp R b := (hcm0.1.2.2.2.2.2.2.1 b hbs.1 (by omega)).1
        rw [if_pos hab, bMo_sold_42, bMo_sold_43, m_bad0, KV_eq, bMo_sold_45, if_pos rfl, bMo_sold_48, m_beginPlace hcm0.1 hW, KV_eq, bMo_sold_50, m_everybody hcm0.1 hW, KV_eq, bMo_sold_53 (by omega), e56]
        by_cases h2 : stp R b < 2
        · rw [if_pos h2, bMo_sold_71]
          refine hq _ _ ⟨fs0, cur0⟩ (by rw [tz]; exact sI_eq) ?_
          intro _; unfold soV; rw [if_pos (Or.inr h2)]
        · rw [if_neg h2, bMo_sold_60, hcm0.1.2.1]
          refine m_sells (d := d + 3) hx hcm0 ha ?_
          intro M1 f1
          have c1 : CM R B n T M1 := hcm0.fs (by omega) ⟨hn1, by omega⟩ f1 (fun t i j z => (ho_sc z).2.1)
          have fs1 : Fs scM M M1 := fs0.tr (f1.mono (fun t i j z => (ho_sc z).1))
          have g1 : M1.1 10 0 0 = 0 := (f1.g1 10 0 0 (fun z => (ho_sc z).2.2 ⟨rfl, rfl⟩)).trans sI_eq
          rw [KV_eq, bMo_sold_70]
          by_cases h37 : R 37 a.toNat = 0
          · rw [if_neg (fun z => z h37), bMo_sold_71]
            refine hq _ _ ⟨fs1, Or.inr ⟨B, n, T, hx, c1⟩⟩ (by rw [tz]; exact g1) ?_
            intro _; unfold soV; rw [if_pos (Or.inl h37)]
          · rw [if_pos h37, bMo_sold_73]
            refine m_solveC (d := d) hx c1 ?_
            intro M2 f2 c2 sv
            have hbR := bgo_R hW (R 4 1)
            have hsR := (dg_sub hW (b := b) (s := 0) (by omega) (by omega) (by omega)).2
            have hp1 := bgn_plain hW
            have hp2 := sub_plain hW (b := b) (by omega) (by omega)
            have esub : w32 (bgn R - su b) = bgn R - su b := w32_id (by omega)
            have e13 : M2.1 10 0 13 = R 4 2 := c2.1.2.1
            have w1 := wrt_evb hW hn1 sv (w := R 4 2) (p := bgn R) (s := a) (by omega) hbR hp1 ha
            have w2 := wrt_evb hW hn1 sv (w := R 4 2) (p := bgn R) (s := b) (by omega) hbR hp1 hbs
            have w3 := wrt_evb hW hn1 sv (w := R 4 2) (p := bgn R - su b) (s := a) (by omega) hsR hp2 ha
            have w4 := wrt_evb hW hn1 sv (w := R 4 2) (p := bgn R - su b) (s := b) (by omega) hsR hp2 hbs
            rw [KU_eq, bMo_sold_75, m_unitOf, KV_eq, bMo_sold_78 (by rw [esub, e13]; refine ⟨?_, ?_, ?_, ?_, ?_, ?_, ?_, ?_, ?_, ?_, ?_, ?_, ?_, ?_, ?_, ?_⟩ <;> omega), esub, e13]
            refine hq _ _ ⟨fs1.tr (f2.mono (fun t i j z => (sv_sc z).1)), Or.inr ⟨B, n, T, hx, c2⟩⟩ (by rw [tz, f2.g1 10 0 0 (fun z => (sv_sc z).2 ⟨rfl, rfl⟩)]; exact g1) ?_
            intro _
            unfold soV
            rw [if_neg (by omega), w1, w2, w3, w4]
    · rw [if_neg (by rw [if_neg (by omega)]; omega)]
      exact no2 (fun z => hbs z.2)
  · rw [if_pos (by rw [if_neg (by omega)])]
    exact no2 (fun z => ha z.1)
end
