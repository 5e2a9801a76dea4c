/-! LAYER 3, WHAT STANDS BETWEEN CALLS; WORTH, DOING, GAIN -/
/-- the reference's scratch -/
abbrev scM (t _ j : Nat) : Prop := (t = 10 ∧ (j ≤ 44 ∧ j ≠ 1 ∧ j ≠ 3 ∧ j ≠ 11 ∨ 61 ≤ j ∧ j ≤ 63)) ∨ (56 ≤ t ∧ t ≤ 114 ∧ t ≠ 87 ∧ t ≠ 92 ∧ t ≠ 94 ∧ t ≠ 96 ∧ t ≠ 97 ∧ t ≠ 101)
/-- what the reference's race lies in -/
abbrev cmP (t i j : Nat) : Prop := t = 55 ∨ (t = 10 ∧ (11 ≤ j ∧ j ≤ 20 ∨ j = 44)) ∨ t = 56 ∨ t = 57 ∨ t = 59 ∨ t = 61 ∨ (t = 71 ∧ i < 7000) ∨ t = 75 ∨ t = 78
theorem tI_lt {w p b : Int} (hw : 0 ≤ w ∧ w ≤ 6) (hp : 0 ≤ p ∧ p < 125) (hb : 0 ≤ b ∧ b < 8) : tI 0 w p b < 7000 := by unfold tI; omega
theorem Solved.fs {R M M' P} (h : Solved R M) (hw : R 4 2 ≤ 6) (hn : 1 ≤ R 4 1 ∧ R 4 1 ≤ 3) (hf : Fs P M M') (hp : ∀ t i j, P t i j → ¬ cmP t i j) : Solved R M' := by
  intro w p b w0 w1 p0 p1 hfit b0 b1
  have hb8 : b < 8 := by have := pw_n hn; omega
  have ht := tI_lt (w := w) (p := p) (b := b) (by omega) (by omega) (by omega)
  exact (h w p b w0 w1 p0 p1 hfit b0 b1).fs hf (fun j z => hp _ _ _ z (by omega)) (fun j z => hp _ _ _ z (by omega)) (fun z => hp _ _ _ z (by omega))
theorem CM.fs {R B n T M M' P} (h : CM R B n T M) (hw : R 4 2 ≤ 6) (hn : 1 ≤ R 4 1 ∧ R 4 1 ≤ 3) (hf : Fs P M M') (hp : ∀ t i j, P t i j → ¬ cmP t i j) : CM R B n T M' := by
  obtain ⟨h1, h2, h3, h4, h5, h6, h7⟩ := h
  have g : ∀ j, (11 ≤ j ∧ j ≤ 20 ∨ j = 44) → M'.1 10 0 j = M.1 10 0 j := fun j hj => hf.g1 10 0 j (fun z => hp _ _ _ z (by omega))
  refine ⟨h1.fs hf (fun t i j z => by have := hp t i j z; omega), (g 11 (by omega)).trans h2, fun j hj => (hf.g1 55 0 j (fun z => hp _ _ _ z (by omega))).trans (h3 j hj), (g 18 (by omega)).trans h4, (g 19 (by omega)).trans h5, (g 12 (by omega)).trans h6, ?_⟩
  intro z
  rw [g 44 (by omega)] at z
  exact (h7 z).fs hw hn hf hp
/-- the race that the reference has, or none -/
def Cur (R : RT) (M : Mem) : Prop := (R 4 1 = 0 ∧ M.1 10 0 20 = 0 ∧ (∀ j : Nat, 2 ≤ j → j ≤ 7 → R 4 j = 0) ∧ ∀ j : Nat, 12 ≤ j → j ≤ 17 → M.1 10 0 j = 0) ∨ ∃ B n T, TX R B n T ∧ CM R B n T M
def MS (R : RT) (M M' : Mem) : Prop := Fs scM M M' ∧ Cur R M'
theorem Cur.fs {R M M' P} (h : Cur R M) (hf : Fs P M M') (hp : ∀ t i j, P t i j → ¬ cmP t i j) : Cur R M' := by
  rcases h with ⟨h1, h2, h3, h4⟩ | ⟨B, n, T, hx, hc⟩
  · exact Or.inl ⟨h1, (hf.g1 10 0 20 (fun z => hp _ _ _ z (by omega))).trans h2, h3, fun j a b => (hf.g1 10 0 j (fun z => hp _ _ _ z (by omega))).trans (h4 j a b)⟩
  · have hb := hx.wr.b
    exact Or.inr ⟨B, n, T, hx, hc.fs (by omega) ⟨hx.2.1, by omega⟩ hf hp⟩
theorem Cur.n {R M} (h : Cur R M) : M.1 10 0 20 = R 4 1 := by
  rcases h with ⟨h1, h2, -⟩ | ⟨B, n, T, hx, hc⟩
  · rw [h1, h2]
  · exact hc.1.1
abbrev th0 (M : Mem) (k : Int) : Mem := sI (sI M 10 0 0 0) 10 0 0 k
theorem MS.th {R M} (h : Cur R M) (k : Int) : MS R M (th0 M k) := by
  have f : Fs (fun t i j => t = 10 ∧ i = 0 ∧ j = 0) M (th0 M k) := (Fs.rf.sI (by omega)).sI (by omega)
  exact ⟨f.mono (fun t i j z => by unfold scM; omega), h.fs f (fun t i j z => by omega)⟩
theorem MS.t0 {R M} (h : Cur R M) : MS R M (sI M 10 0 0 0) := by
  have f : Fs (fun t i j => t = 10 ∧ i = 0 ∧ j = 0) M (sI M 10 0 0 0) := Fs.rf.sI (by omega)
  exact ⟨f.mono (fun t i j z => by unfold scM; omega), h.fs f (fun t i j z => by omega)⟩
theorem th0_eq {M : Mem} {k : Int} : (th0 M k).1 10 0 0 = k := sI_eq
theorem th_ne {M : Mem} {t i j : Nat} {v : Int} (h : ¬ (t = 10 ∧ i = 0 ∧ j = 0)) : (sI M 10 0 0 v).1 t i j = M.1 t i j := sI_ne h
theorem sv_sc {t i j : Nat} (h : pSv t i j) : scM t i j ∧ ¬ (t = 10 ∧ j = 0) := by
  unfold pSv pSc at h
  rcases h with (h | h | h | h | h | h | h) | h | h | h | h
  · unfold pHo at h; unfold scM; omega
  all_goals (unfold scM; omega)
section
variable {d : Nat} {Q : AV → Mem → Prop} {X : Nat → Mem → Prop}
theorem m_bad0 {M : Mem} {k : Int} : Call (d + 1) qMo_bad [vr 10 0, vi 0, vi k] (sI M 10 0 0 0) Q X = Q (vi 0) (sI M 10 0 0 0) := by
  rw [eMo_bad, bMo_bad_0, if_pos rfl, bMo_bad_8, if_pos sI_eq, bMo_bad_13, bMo_bad_14]; rfl
theorem m_bad1 {M : Mem} {k : Int} (hk : k ≠ 0) : Call (d + 1) qMo_bad [vr 10 0, vi 1, vi k] (sI M 10 0 0 0) Q X = Q (vi 1) (th0 M k) := by
  rw [m_bad hk (by omega) sI_eq, if_neg (by omega)]
theorem m_solveC {M : Mem} {R B n T} (hx : TX R B n T) (hc : CM R B n T M) (hq : ∀ M', Fs pSv M M' → CM R B n T M' → Solved R M' → Q (vi 0) M') : Call (d + 63) qMo_solve [vr 10 0] M Q X := by
  have hb := hx.wr.b
  refine m_solve hc.1 hx.wr hx.2.1 (hl_cm hx hc) hc.2.2.2.2.2.2 ?_
  intro M' f s s44
  obtain ⟨h1, h2, h3, h4, h5, h6, h7⟩ := hc
  have g : ∀ j, (11 ≤ j ∧ j ≤ 20) → M'.1 10 0 j = M.1 10 0 j := fun j hj => f.g1 10 0 j (fun z => by have := (sv_sc z).1; unfold pSv pSc pHo at z; omega)
  refine hq M' f ⟨h1.fs f (fun t i j z => by unfold pSv pSc pHo at z; omega), (g 11 (by omega)).trans h2, fun j hj => (f.g1 55 0 j (fun z => by unfold pSv pSc pHo at z; omega)).trans (h3 j hj), (g 18 (by omega)).trans h4, (g 19 (by omega)).trans h5, (g 12 (by omega)).trans h6, fun _ => s⟩ s
theorem m_isState {M : Mem} {R : RT} {w g b : Int} (hM : MR R M) (h : WR R) (hn1 : 1 ≤ R 4 1) (hg : g ≤ 2147483647) : Call (d + 2) qMo_isState [vr 10 0, vi w, vi g, vi b] M Q X = Q (vi (if stP R w g b then 1 else 0)) M := by
  have hb := h.b
  have hpw := pw_n (n := R 4 1) (by omega)
  rw [eMo_isState, bMo_isState_0, m_in, KV_eq, bMo_isState_5, hM.2.1]
  by_cases hw : 0 ≤ w ∧ w ≤ R 4 2
  · rw [if_neg (by rw [if_pos hw]; omega), bMo_isState_6, m_placeOf hM h hn1 hg, KV_eq, bMo_isState_9]
    by_cases hp : plP R g
    · have hr := (plc_R h hp).1
      rw [if_pos hp, if_neg (by omega), bMo_isState_11, hM.1, bshl_pw (by omega), w32_id (by omega), m_in, KV_eq, bMo_isState_20]
      by_cases hbb : 0 ≤ b ∧ b < pw (R 4 1)
      · rw [if_pos (show 0 ≤ b ∧ b ≤ pw (R 4 1) - 1 by omega), if_neg (by omega), bMo_isState_21, bMo_isState_24, if_pos ⟨hw, hp, hbb⟩]; rfl
      · rw [if_neg (show ¬ (0 ≤ b ∧ b ≤ pw (R 4 1) - 1) by omega), if_pos rfl, bMo_isState_23, bMo_isState_24, if_neg (fun z => hbb z.2.2)]; rfl
    · rw [if_neg hp, if_pos rfl, bMo_isState_23, bMo_isState_24, if_neg (fun z => hp z.2.1)]; rfl
  · rw [if_pos (by rw [if_neg hw]), bMo_isState_23, bMo_isState_24, if_neg (fun z => hw z.1)]; rfl
/-- how such a call ends: 0 well, else the kind of what is thrown -/
def tW (R : RT) (w g b s : Int) : Int := if R 4 1 = 0 then 1 else if 0 ≤ s ∧ s < R 4 1 then (if stP R w g b then 0 else 3) else 2
def tG (R : RT) (w g b : Int) : Int := if R 4 1 = 0 then 1 else if stP R w g b then 0 else 2
def rwD (R : RT) (w x s : Int) : Int := if w = 0 ∨ x = 0 then 0 else dr (Rwf R w x) s
def gnD (R : RT) (w x : Int) : Int64 := if w = 0 ∨ x = 0 then 0 else Gnf R w x
theorem EntM.row {R M w p b s} (h : EntM R M w p b) (s0 : 0 ≤ s) (s1 : s < R 4 1) : M.1 75 (tI 0 w p b) s.toNat = rwD R w (cdo p b) s := (h.1 s s0 s1).2
theorem EntM.gn {R M w p b} (h : EntM R M w p b) : M.2 78 (gI w p) b.toNat = gnD R w (cdo p b) := h.2
theorem m_worth {M : Mem} {R : RT} {w g b s : Int} (hc : Cur R M) (hg : g ≤ 2147483647)
    (hq : ∀ M' v, MS R M M' → M'.1 10 0 0 = tW R w g b s → (tW R w g b s = 0 → v = Wf R w.toNat (cdo (plc g) b) s) → Q (vl v) M') : Call (d + 64) qMo_worth [vr 10 0, vi w, vi g, vi b, vi s] M Q X := by
  have h20 := hc.n
  rw [eMo_worth, bMo_worth_0, th_ne (by omega), h20]
  by_cases h0 : R 4 1 = 0
  · rw [if_neg (fun z => z h0), bMo_worth_7, bMo_worth_10, m_bad1 (by omega), KV_eq, bMo_worth_12, if_pos (by omega), bMo_worth_41]
    refine hq _ _ (MS.th hc 1) ?_ ?_
    · unfold tW; rw [if_pos h0]; exact th0_eq
    · unfold tW; rw [if_pos h0]; intro z; omega
  rw [if_pos h0, bMo_worth_9, bMo_worth_10, m_bad0, KV_eq, bMo_worth_12, if_neg (by omega), bMo_worth_13, th_ne (by omega), h20]
  rcases id hc with hc0 | ⟨B, n, T, hx, hcm⟩
  · exact absurd hc0.1 h0
  have hW := hx.wr
  have hb := hW.b
  have hn1 := hx.2.1
  rw [w32_id (by omega), m_in, KV_eq, bMo_worth_21]
  by_cases hs : 0 ≤ s ∧ s < R 4 1
  · rw [if_pos (by rw [if_pos (by omega)]; omega), bMo_worth_24, bMo_worth_25, m_bad0, KV_eq, bMo_worth_27, if_neg (by omega), bMo_worth_28]
    obtain ⟨fs0, -⟩ := MS.t0 hc
    have hcm0 : CM R B n T (sI M 10 0 0 0) := hcm.fs (by omega) ⟨hn1, by omega⟩ (P := fun t i j => t = 10 ∧ i = 0 ∧ j = 0) (Fs.rf.sI (by omega)) (fun t i j z => by omega)
    rw [m_isState hcm0.1 hW hn1 hg, KV_eq, bMo_worth_34]
    by_cases hst : stP R w g b
    · rw [if_pos (by rw [if_pos hst]; omega), bMo_worth_37, bMo_worth_38, m_bad0, KV_eq, bMo_worth_40, if_pos rfl, bMo_worth_43]
      refine m_solveC (d := d) hx hcm0 ?_
      intro M' f c' sv
      obtain ⟨⟨w0, w1⟩, hp, b0, b1⟩ := hst
      obtain ⟨hpR, -, -, -, hfit⟩ := plc_R hW hp
      have hpw := pw_n (n := R 4 1) (by omega)
      have ent := sv w (plc g) b w0 w1 hpR.1 hpR.2 hfit b0 b1
      rw [KU_eq, bMo_worth_45 (by omega), m_placeOf c'.1 hW hn1 hg, if_pos hp, KV_eq, bMo_worth_52 (by omega)]
      refine hq M' _ ⟨fs0.tr (f.mono (fun t i j z => (sv_sc z).1)), Or.inr ⟨B, n, T, hx, c'⟩⟩ ?_ ?_
      · unfold tW
        rw [if_neg h0, if_pos hs, if_pos ⟨⟨w0, w1⟩, hp, b0, b1⟩, f.g1 10 0 0 (fun z => (sv_sc z).2 ⟨rfl, rfl⟩)]; exact sI_eq
      · intro _; exact (ent.1 s hs.1 hs.2).1
    · rw [if_neg (by rw [if_neg hst]; omega), bMo_worth_35, bMo_worth_38, m_bad1 (by omega), KV_eq, bMo_worth_40, if_neg (by omega), bMo_worth_41]
      refine hq _ _ (MS.th hc 3) ?_ ?_
      · unfold tW; rw [if_neg h0, if_pos hs, if_neg hst]; exact th0_eq
      · unfold tW; rw [if_neg h0, if_pos hs, if_neg hst]; intro z; omega
  · rw [if_neg (by rw [if_neg (by omega)]; omega), bMo_worth_22, bMo_worth_25, m_bad1 (by omega), KV_eq, bMo_worth_27, if_pos (by omega), bMo_worth_41]
    refine hq _ _ (MS.th hc 2) ?_ ?_
    · unfold tW; rw [if_neg h0, if_neg hs]; exact th0_eq
    · unfold tW; rw [if_neg h0, if_neg hs]; intro z; omega
theorem m_doing {M : Mem} {R : RT} {w g b s : Int} (hc : Cur R M) (hg : g ≤ 2147483647)
    (hq : ∀ M' v, MS R M M' → M'.1 10 0 0 = tW R w g b s → (tW R w g b s = 0 → v = rwD R w (cdo (plc g) b) s) → Q (vi v) M') : Call (d + 64) qMo_doing [vr 10 0, vi w, vi g, vi b, vi s] M Q X := by
  have h20 := hc.n
  rw [eMo_doing, bMo_doing_0, th_ne (by omega), h20]
  by_cases h0 : R 4 1 = 0
  · rw [if_neg (fun z => z h0), bMo_doing_7, bMo_doing_10, m_bad1 (by omega), KV_eq, bMo_doing_12, if_pos (by omega), bMo_doing_41]
    refine hq _ _ (MS.th hc 1) ?_ ?_
    · unfold tW; rw [if_pos h0]; exact th0_eq
    · unfold tW; rw [if_pos h0]; intro z; omega
  rw [if_pos h0, bMo_doing_9, bMo_doing_10, m_bad0, KV_eq, bMo_doing_12, if_neg (by omega), bMo_doing_13, th_ne (by omega), h20]
  rcases id hc with hc0 | ⟨B, n, T, hx, hcm⟩
  · exact absurd hc0.1 h0
  have hW := hx.wr
  have hb := hW.b
  have hn1 := hx.2.1
  rw [w32_id (by omega), m_in, KV_eq, bMo_doing_21]
  by_cases hs : 0 ≤ s ∧ s < R 4 1
  · rw [if_pos (by rw [if_pos (by omega)]; omega), bMo_doing_24, bMo_doing_25, m_bad0, KV_eq, bMo_doing_27, if_neg (by omega), bMo_doing_28]
    obtain ⟨fs0, -⟩ := MS.t0 hc
    have hcm0 : CM R B n T (sI M 10 0 0 0) := hcm.fs (by omega) ⟨hn1, by omega⟩ (P := fun t i j => t = 10 ∧ i = 0 ∧ j = 0) (Fs.rf.sI (by omega)) (fun t i j z => by omega)
    rw [m_isState hcm0.1 hW hn1 hg, KV_eq, bMo_doing_34]
    by_cases hst : stP R w g b
    · rw [if_pos (by rw [if_pos hst]; omega), bMo_doing_37, bMo_doing_38, m_bad0, KV_eq, bMo_doing_40, if_pos rfl, bMo_doing_43]
      refine m_solveC (d := d) hx hcm0 ?_
      intro M' f c' sv
      obtain ⟨⟨w0, w1⟩, hp, b0, b1⟩ := hst
      obtain ⟨hpR, -, -, -, hfit⟩ := plc_R hW hp
      have hpw := pw_n (n := R 4 1) (by omega)
      have ent := sv w (plc g) b w0 w1 hpR.1 hpR.2 hfit b0 b1
      rw [KU_eq, bMo_doing_45 (by omega), m_placeOf c'.1 hW hn1 hg, if_pos hp, KV_eq, bMo_doing_52 (by omega)]
      refine hq M' _ ⟨fs0.tr (f.mono (fun t i j z => (sv_sc z).1)), Or.inr ⟨B, n, T, hx, c'⟩⟩ ?_ ?_
      · unfold tW
        rw [if_neg h0, if_pos hs, if_pos ⟨⟨w0, w1⟩, hp, b0, b1⟩, f.g1 10 0 0 (fun z => (sv_sc z).2 ⟨rfl, rfl⟩)]; exact sI_eq
      · intro _; exact ent.row hs.1 hs.2
    · rw [if_neg (by rw [if_neg hst]; omega), bMo_doing_35, bMo_doing_38, m_bad1 (by omega), KV_eq, bMo_doing_40, if_neg (by omega), bMo_doing_41]
      refine hq _ _ (MS.th hc 3) ?_ ?_
      · unfold tW; rw [if_neg h0, if_pos hs, if_neg hst]; exact th0_eq
      · unfold tW; rw [if_neg h0, if_pos hs, if_neg hst]; intro z; omega
  · rw [if_neg (by rw [if_neg (by omega)]; omega), bMo_doing_22, bMo_doing_25, m_bad1 (by omega), KV_eq, bMo_doing_27, if_pos (by omega), bMo_doing_41]
    refine hq _ _ (MS.th hc 2) ?_ ?_
    · unfold tW; rw [if_neg h0, if_neg hs]; exact th0_eq
    · unfold tW; rw [if_neg h0, if_neg hs]; intro z; omega
theorem m_gainC {M : Mem} {R : RT} {w g b : Int} (hc : Cur R M) (hg : g ≤ 2147483647)
    (hq : ∀ M' v, MS R M M' → M'.1 10 0 0 = tG R w g b → (tG R w g b = 0 → v = gnD R w (cdo (plc g) b)) → Q (vl v) M') : Call (d + 64) qMo_gain [vr 10 0, vi w, vi g, vi b] M Q X := by
  have h20 := hc.n
  rw [eMo_gain, bMo_gain_0, th_ne (by omega), h20]
  by_cases h0 : R 4 1 = 0
  · rw [if_neg (fun z => z h0), bMo_gain_7, bMo_gain_10, m_bad1 (by omega), KV_eq, bMo_gain_12, if_pos (by omega), bMo_gain_26]
    refine hq _ _ (MS.th hc 1) ?_ ?_
    · unfold tG; rw [if_pos h0]; exact th0_eq
    · unfold tG; rw [if_pos h0]; intro z; omega
  rw [if_pos h0, bMo_gain_9, bMo_gain_10, m_bad0, KV_eq, bMo_gain_12, if_neg (by omega), bMo_gain_13]
  rcases id hc with hc0 | ⟨B, n, T, hx, hcm⟩
  · exact absurd hc0.1 h0
  have hW := hx.wr
  have hb := hW.b
  have hn1 := hx.2.1
  obtain ⟨fs0, -⟩ := MS.t0 hc
  have hcm0 : CM R B n T (sI M 10 0 0 0) := hcm.fs (by omega) ⟨hn1, by omega⟩ (P := fun t i j => t = 10 ∧ i = 0 ∧ j = 0) (Fs.rf.sI (by omega)) (fun t i j z => by omega)
  rw [m_isState hcm0.1 hW hn1 hg, KV_eq, bMo_gain_19]
  by_cases hst : stP R w g b
  · rw [if_pos (by rw [if_pos hst]; omega), bMo_gain_22, bMo_gain_23, m_bad0, KV_eq, bMo_gain_25, if_pos rfl, bMo_gain_28]
    refine m_solveC (d := d) hx hcm0 ?_
    intro M' f c' sv
    obtain ⟨⟨w0, w1⟩, hp, b0, b1⟩ := hst
    obtain ⟨hpR, -, -, -, hfit⟩ := plc_R hW hp
    have hpw := pw_n (n := R 4 1) (by omega)
    have ent := sv w (plc g) b w0 w1 hpR.1 hpR.2 hfit b0 b1
    rw [KU_eq, bMo_gain_30 (by omega), m_placeOf c'.1 hW hn1 hg, if_pos hp, KV_eq, bMo_gain_37 (by omega)]
    refine hq M' _ ⟨fs0.tr (f.mono (fun t i j z => (sv_sc z).1)), Or.inr ⟨B, n, T, hx, c'⟩⟩ ?_ ?_
    · unfold tG
      rw [if_neg h0, if_pos ⟨⟨w0, w1⟩, hp, b0, b1⟩, f.g1 10 0 0 (fun z => (sv_sc z).2 ⟨rfl, rfl⟩)]; exact sI_eq
    · intro _; exact ent.gn
  · rw [if_neg (by rw [if_neg hst]; omega), bMo_gain_20, bMo_gain_23, m_bad1 (by omega), KV_eq, bMo_gain_25, if_neg (by omega), bMo_gain_26]
    refine hq _ _ (MS.th hc 2) ?_ ?_
    · unfold tG; rw [if_neg h0, if_neg hst]; exact th0_eq
    · unfold tG; rw [if_neg h0, if_neg hst]; intro z; omega
end
