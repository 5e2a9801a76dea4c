/-! LAYER 3, WHAT STANDS BETWEEN CALLS ON THE CLASS'S SIDE; WORTH, DOING, GAIN -/
/-- every state of a board is settled by this race -/
def Full (R : RT) (b : Nat) (M : Mem) : Prop := ∀ w x : Int, 1 ≤ w → w ≤ R 4 2 → 0 < x → x < 125 → fitsP R x → CelF R b M w x
/-- the races, their stamps, the boards' edges -/
def CI0 (M : Mem) : Prop := (∀ b : Nat, b < 3 → Bz b M) ∧ (∀ i : Nat, i < 6 → i ≠ 4 → Zo M i) ∧ (∀ i : Nat, i < 4 → WR (rd M i)) ∧ (∀ i : Nat, i < 4 → 0 ≤ M.1 4 i 0 ∧ M.1 4 i 0 ≤ M.1 9 0 1) ∧ (∀ i k : Nat, i < 4 → k < 4 → M.1 4 i 0 = M.1 4 k 0 → rd M i = rd M k)
/-- the first board: whose stamp it has, by that race it is settled -/
def Cb (M : Mem) : Prop := M.1 0 0 2 ≤ M.1 9 0 1 ∧ ∀ i : Nat, i < 4 → 1 ≤ rd M i 4 1 → M.1 4 i 0 = M.1 0 0 2 → Full (rd M i) 0 M
/-- the races of desks are where they were -/
theorem rd_fs {P M M'} (h : Fs P M M') {i : Nat} (hp : ∀ t j, t = 4 ∨ 33 ≤ t ∧ t ≤ 38 → ¬ P t i j) : rd M' i = rd M i := by
  funext t j
  unfold rd
  by_cases ht : t = 4 ∨ 33 ≤ t ∧ t ≤ 38
  · rw [if_pos ht, if_pos ht, h.g1 t i j (hp t j ht)]
  · rw [if_neg ht, if_neg ht]
theorem Bz.fs {P M M' b} (h : Bz b M) (hf : Fs P M M') (hp : ∀ t j, t = 20 ∨ t = 21 ∨ t = 22 → ¬ P t b j) : Bz b M' := by
  obtain ⟨h1, h2, h3, h4⟩ := h
  refine ⟨fun x i a b' c e => ?_, fun w i a b' c e => ?_, fun w a b' => ?_, fun x a b' => ?_⟩
  · unfold bV; rw [hf.g2 _ _ _ (hp _ _ (by omega))]; exact h1 x i a b' c e
  · unfold bV; rw [hf.g2 _ _ _ (hp _ _ (by omega))]; exact h2 w i a b' c e
  · rw [hf.g1 _ _ _ (hp _ _ (by omega)), hf.g2 _ _ _ (hp _ _ (by omega))]; exact h3 w a b'
  · rw [hf.g1 _ _ _ (hp _ _ (by omega)), hf.g2 _ _ _ (hp _ _ (by omega))]; exact h4 x a b'
theorem CelF.fs {P M M' R b w x} (h : CelF R b M w x) (hf : Fs P M M') (hp : ∀ t j, t = 20 ∨ t = 21 ∨ t = 22 → ¬ P t b j) : CelF R b M' w x := by
  obtain ⟨h1, h2, h3⟩ := h
  refine ⟨?_, ?_, fun i a c => ?_⟩
  · rw [hf.g1 _ _ _ (hp _ _ (by omega))]; exact h1
  · rw [hf.g2 _ _ _ (hp _ _ (by omega))]; exact h2
  · unfold bV; rw [hf.g2 _ _ _ (hp _ _ (by omega))]; exact h3 i a c
theorem Full.fs {P M M' R b} (h : Full R b M) (hf : Fs P M M') (hp : ∀ t j, t = 20 ∨ t = 21 ∨ t = 22 → ¬ P t b j) : Full R b M' := fun w x a c e g k => (h w x a c e g k).fs hf hp
/-- CI0 over what touches no desk's race, no stamp, and boards only so far as they keep their edges -/
theorem CI0.fs {P M M'} (h : CI0 M) (hf : Fs P M M') (hb : ∀ b : Nat, b < 3 → Bz b M') (hz : Zo M' 5) (hp : ∀ t i j, P t i j → ¬ ((t = 4 ∨ 33 ≤ t ∧ t ≤ 38) ∧ i < 4) ∧ ¬ (t = 9 ∧ j = 1)) : CI0 M' := by
  obtain ⟨h1, h2, h3, h4, h5⟩ := h
  have er : ∀ i : Nat, i < 4 → rd M' i = rd M i := fun i hi => rd_fs hf (fun t j ht z => (hp _ _ _ z).1 ⟨ht, hi⟩)
  have e0 : ∀ i : Nat, i < 4 → M'.1 4 i 0 = M.1 4 i 0 := fun i hi => hf.g1 4 i 0 (fun z => (hp _ _ _ z).1 ⟨Or.inl rfl, hi⟩)
  have e9 : M'.1 9 0 1 = M.1 9 0 1 := hf.g1 9 0 1 (fun z => (hp _ _ _ z).2 ⟨rfl, rfl⟩)
  refine ⟨hb, fun i hi h4' => ?_, fun i hi => by rw [er i hi]; exact h3 i hi, fun i hi => by rw [e0 i hi, e9]; exact h4 i hi, fun i k hi hk he => ?_⟩
  · by_cases h5' : i = 5
    · subst h5'; exact hz
    · exact (h2 i hi h4').fs hf (fun t j ht _ z => (hp _ _ _ z).1 ⟨ht, by omega⟩)
  · rw [er i hi, er k hk]; rw [e0 i hi, e0 k hk] at he; exact h5 i k hi hk he
section
variable {d : Nat} {Q : AV → Mem → Prop} {X : Nat → Mem → Prop}
abbrev pSd (t i j : Nat) : Prop := pCl 0 t i ∨ (t = 0 ∧ i = 0 ∧ j = 2)
theorem c_settled {M : Mem} (h0 : CI0 M) (hb : Cb M) (hn : 1 ≤ rd M 0 4 1) (hq : ∀ M', Fs pSd M M' → CI0 M' → Cb M' → Full (rd M 0) 0 M' → Q (vr 0 0) M') : Call (d + 7) qPR_settled [vr 9 0] M Q X := by
  rw [ePR_settled, bPR_settled_0]
  by_cases he : M.1 0 0 2 = M.1 4 0 0
  · rw [if_pos he, bPR_settled_19]
    exact hq M Fs.rf h0 hb (hb.2 0 (by omega) hn he.symm)
  · rw [if_neg he, bPR_settled_8]
    refine c_settle (d := d) (b := 0) (R := rd M 0) rfl (h0.2.2.1 0 (by omega)) (h0.1 0 (by omega)) ?_
    intro M1 f1 z1 hf1
    rw [KU_eq, bPR_settled_12, bPR_settled_19]
    have fs1 : Fs pSd M (sI M1 0 0 2 (M1.1 4 0 0)) := (f1.fs (fun t i j z => Or.inl z)).sI (Or.inr ⟨rfl, rfl, rfl⟩)
    have e0 : M1.1 4 0 0 = M.1 4 0 0 := f1.g1 4 0 (by omega) 0
    have fsb : ∀ {b}, Bz b M1 → Bz b (sI M1 0 0 2 (M1.1 4 0 0)) := fun h => h.fs (P := fun t i j => t = 0) (Fs.rf.sI rfl) (fun t j a b => by omega)
    have full : Full (rd M 0) 0 (sI M1 0 0 2 (M1.1 4 0 0)) := fun w x a b c e g => (hf1 w x a b c e ⟨g, Or.inl (by omega)⟩).fs (P := fun t i j => t = 0) (Fs.rf.sI rfl) (fun t j a b => by omega)
    have c0 : CI0 (sI M1 0 0 2 (M1.1 4 0 0)) := by
      refine h0.fs fs1 ?_ ?_ (fun t i j z => by unfold pSd pCl at z; omega)
      · intro b hb3
        by_cases hb0 : b = 0
        · subst hb0; exact fsb z1
        · refine fsb ((h0.1 b hb3).fs (P := fun t i j => pCl 0 t i) (f1.fs (fun t i j z => z)) (fun t j a z => by unfold pCl at z; omega))
      · exact (h0.2.1 5 (by omega) (by omega)).fs fs1 (fun t j ht _ z => by unfold pSd pCl at z; omega)
    have er : ∀ i : Nat, i < 4 → rd (sI M1 0 0 2 (M1.1 4 0 0)) i = rd M i := fun i hi => rd_fs fs1 (fun t j ht z => by unfold pSd pCl at z; omega)
    have es : ∀ i : Nat, i < 4 → (sI M1 0 0 2 (M1.1 4 0 0)).1 4 i 0 = M.1 4 i 0 := fun i hi => fs1.g1 4 i 0 (fun z => by unfold pSd pCl at z; omega)
    have e9 : (sI M1 0 0 2 (M1.1 4 0 0)).1 9 0 1 = M.1 9 0 1 := fs1.g1 9 0 1 (fun z => by unfold pSd pCl at z; omega)
    refine hq _ fs1 c0 ⟨?_, ?_⟩ full
    · rw [e9, sI_eq, e0]; exact (h0.2.2.2.1 0 (by omega)).2
    · intro i hi hn1 hst
      rw [es i hi, sI_eq, e0] at hst
      rw [er i hi, h0.2.2.2.2 i 0 hi (by omega) hst]
      exact full
/-- what a settled board answers -/
theorem Full.wrt {R : RT} {M : Mem} {b : Nat} (h : Full R b M) (hz : Bz b M) {w x i : Int} (hw : 0 ≤ w ∧ w ≤ R 4 2) (hw6 : R 4 2 ≤ 6) (hx : 0 ≤ x ∧ x < 125) (hf : fitsP R x) (hi : 0 ≤ i ∧ i < 3) : M.2 22 b ((w * 125 + x) * 3 + i).toNat = Wf R w.toNat x i := by
  by_cases w0 : w = 0
  · subst w0; exact hz.1 x i hx.1 hx.2 hi.1 hi.2
  · by_cases x0 : x = 0
    · subst x0
      rw [Wf_0]
      exact hz.2.1 w i hw.1 (by omega) hi.1 hi.2
    · exact (h w x (by omega) hw.2 (by omega) hx.2 hf).2.2 i hi.1 hi.2
theorem Rwf_R {R : RT} {w x : Int} : 0 ≤ Rwf R w x ∧ Rwf R w x ≤ 124 := rowS_R
def rwX (R : RT) (w x : Int) : Int := if w = 0 ∨ x = 0 then 0 else Rwf R w x
theorem rwX_R {R : RT} {w x : Int} : 0 ≤ rwX R w x ∧ rwX R w x < 125 := by
  have := Rwf_R (R := R) (w := w) (x := x)
  unfold rwX; split <;> omega
theorem rwX_D {R : RT} {w x s : Int} : dr (rwX R w x) s = rwD R w x s := by
  unfold rwX rwD
  split
  · unfold dr
    repeat' split
    all_goals rfl
  · rfl
theorem Full.row {R : RT} {M : Mem} {b : Nat} (h : Full R b M) (hz : Bz b M) {w x : Int} (hw : 0 ≤ w ∧ w ≤ R 4 2) (hw6 : R 4 2 ≤ 6) (hx : 0 ≤ x ∧ x < 125) (hf : fitsP R x) : M.1 20 b (w * 125 + x).toNat = rwX R w x := by
  unfold rwX
  by_cases w0 : w = 0
  · subst w0
    rw [if_pos (Or.inl rfl), show (0 : Int) * 125 + x = x by omega]
    exact (hz.2.2.2 x hx.1 hx.2).1
  · by_cases x0 : x = 0
    · subst x0
      rw [if_pos (Or.inr rfl), Int.add_zero]
      exact (hz.2.2.1 w hw.1 (by omega)).1
    · rw [if_neg (by omega)]; exact (h w x (by omega) hw.2 (by omega) hx.2 hf).1
theorem Full.gn {R : RT} {M : Mem} {b : Nat} (h : Full R b M) (hz : Bz b M) {w x : Int} (hw : 0 ≤ w ∧ w ≤ R 4 2) (hw6 : R 4 2 ≤ 6) (hx : 0 ≤ x ∧ x < 125) (hf : fitsP R x) : M.2 21 b (w * 125 + x).toNat = gnD R w x := by
  unfold gnD
  by_cases w0 : w = 0
  · subst w0
    rw [if_pos (Or.inl rfl), show (0 : Int) * 125 + x = x by omega]
    exact (hz.2.2.2 x hx.1 hx.2).2
  · by_cases x0 : x = 0
    · subst x0
      rw [if_pos (Or.inr rfl), Int.add_zero]
      exact (hz.2.2.1 w hw.1 (by omega)).2
    · rw [if_neg (by omega)]; exact (h w x (by omega) hw.2 (by omega) hx.2 hf).2.1
theorem cdo_R {R : RT} {p b : Int} (hf : fitsP R p) (h : WR R) : (0 ≤ cdo p b ∧ cdo p b < 125) ∧ fitsP R (cdo p b) := by
  have hb := h.b
  unfold cdo
  split
  · refine ⟨by omega, ?_⟩
    unfold fitsP dg
    simp only [if_true, if_false, show ((1 : Int) = 0) = False by simp, show ((2 : Int) = 0) = False by simp, show ((2 : Int) = 1) = False by simp]
    omega
  · refine ⟨cd_R p b, ?_⟩
    obtain ⟨f0, f1, f2⟩ := hf
    refine fits_cd ?_
    intro s s0 s3
    unfold stp
    rcases (by omega : s = 0 ∨ s = 1 ∨ s = 2) with rfl | rfl | rfl
    · exact f0
    · exact f1
    · exact f2
def CQ (M M' : Mem) : Prop := Fs pSd M M' ∧ CI0 M' ∧ Cb M'
theorem c_worth {M : Mem} {w g b s : Int} (h0 : CI0 M) (hb : Cb M) (hg : g ≤ 2147483647) (hx : tW (rd M 0) w g b s ≠ 0 → X (tW (rd M 0) w g b s - 1).toNat M)
    (hq : ∀ M', tW (rd M 0) w g b s = 0 → CQ M M' → Q (vl (Wf (rd M 0) w.toNat (cdo (plc g) b) s)) M') : Call (d + 8) qPR_worth [vr 9 0, vi w, vi g, vi b, vi s] M Q X := by
  have hW := h0.2.2.1 0 (by omega)
  have hbb := hW.b
  unfold tW at hx hq
  rw [ePR_worth, bPR_worth_0, c_needRace]
  by_cases hn : rd M 0 4 1 = 0
  · rw [if_pos hn] at hx; rw [if_pos hn]; exact hx (by omega)
  rw [if_neg hn] at hx hq
  rw [if_neg hn, KU_eq, bPR_worth_2, c_needShop (by omega)]
  by_cases hs : 0 ≤ s ∧ s < rd M 0 4 1
  · rw [if_pos hs] at hx hq
    rw [if_pos hs, KU_eq, bPR_worth_5, c_needState hW hg]
    by_cases hst : stP (rd M 0) w g b
    · rw [if_pos hst] at hx hq
      rw [if_pos hst, KU_eq, bPR_worth_10]
      refine c_settled h0 hb (by omega) ?_
      intro M1 f1 c1 b1 full
      have hpw := pw_n (n := rd M 0 4 1) (by omega)
      obtain ⟨hw, hp, hbt⟩ := hst
      have hcR := cdo_R (b := b) (plc_R hW hp).2.2.2.2 hW
      rw [KV_eq, bPR_worth_12, c_codeOf hW hp (by omega), KV_eq, bPR_worth_17, c_worthAt (by omega) hcR.1 (by omega), KV_eq, bPR_worth_19, full.wrt (c1.1 0 (by omega)) hw (by omega) hcR.1 hcR.2 (by omega)]
      exact hq M1 rfl ⟨f1, c1, b1⟩
    · rw [if_neg hst] at hx ⊢
      exact hx (by omega)
  · rw [if_neg hs] at hx ⊢
    exact hx (by omega)
theorem c_doing {M : Mem} {w g b s : Int} (h0 : CI0 M) (hb : Cb M) (hg : g ≤ 2147483647) (hx : tW (rd M 0) w g b s ≠ 0 → X (tW (rd M 0) w g b s - 1).toNat M)
    (hq : ∀ M', tW (rd M 0) w g b s = 0 → CQ M M' → Q (vi (rwD (rd M 0) w (cdo (plc g) b) s)) M') : Call (d + 8) qPR_doing [vr 9 0, vi w, vi g, vi b, vi s] M Q X := by
  have hW := h0.2.2.1 0 (by omega)
  have hbb := hW.b
  unfold tW at hx hq
  rw [ePR_doing, bPR_doing_0, c_needRace]
  by_cases hn : rd M 0 4 1 = 0
  · rw [if_pos hn] at hx; rw [if_pos hn]; exact hx (by omega)
  rw [if_neg hn] at hx hq
  rw [if_neg hn, KU_eq, bPR_doing_2, c_needShop (by omega)]
  by_cases hs : 0 ≤ s ∧ s < rd M 0 4 1
  · rw [if_pos hs] at hx hq
    rw [if_pos hs, KU_eq, bPR_doing_5, c_needState hW hg]
    by_cases hst : stP (rd M 0) w g b
    · rw [if_pos hst] at hx hq
      rw [if_pos hst, KU_eq, bPR_doing_10]
      refine c_settled h0 hb (by omega) ?_
      intro M1 f1 c1 b1 full
      have hpw := pw_n (n := rd M 0 4 1) (by omega)
      obtain ⟨hw, hp, hbt⟩ := hst
      have hcR := cdo_R (b := b) (plc_R hW hp).2.2.2.2 hW
      have er := full.row (c1.1 0 (by omega)) hw (by omega) hcR.1 hcR.2
      rw [KV_eq, bPR_doing_12, c_codeOf hW hp (by omega), KV_eq, bPR_doing_17, c_doingAt (by omega) hcR.1 (by rw [er]; exact rwX_R), KV_eq, bPR_doing_19, er, rwX_D]
      exact hq M1 rfl ⟨f1, c1, b1⟩
    · rw [if_neg hst] at hx ⊢
      exact hx (by omega)
  · rw [if_neg hs] at hx ⊢
    exact hx (by omega)
theorem c_gainC {M : Mem} {w g b : Int} (h0 : CI0 M) (hb : Cb M) (hg : g ≤ 2147483647) (hx1 : tG (rd M 0) w g b = 1 → X 0 M) (hx2 : tG (rd M 0) w g b = 2 → X 2 M)
    (hq : ∀ M', tG (rd M 0) w g b = 0 → CQ M M' → Q (vl (gnD (rd M 0) w (cdo (plc g) b))) M') : Call (d + 8) qPR_gain [vr 9 0, vi w, vi g, vi b] M Q X := by
  have hW := h0.2.2.1 0 (by omega)
  have hbb := hW.b
  unfold tG at hx1 hx2 hq
  rw [ePR_gain, bPR_gain_0, c_needRace]
  by_cases hn : rd M 0 4 1 = 0
  · rw [if_pos hn] at hx1; rw [if_pos hn]; exact hx1 rfl
  rw [if_neg hn] at hx2 hq
  rw [if_neg hn, KU_eq, bPR_gain_2, c_needState hW hg]
  by_cases hst : stP (rd M 0) w g b
  · rw [if_pos hst] at hq
    rw [if_pos hst, KU_eq, bPR_gain_7]
    refine c_settled h0 hb (by omega) ?_
    intro M1 f1 c1 b1 full
    have hpw := pw_n (n := rd M 0 4 1) (by omega)
    obtain ⟨hw, hp, hbt⟩ := hst
    have hcR := cdo_R (b := b) (plc_R hW hp).2.2.2.2 hW
    rw [KV_eq, bPR_gain_9, c_codeOf hW hp (by omega), KV_eq, bPR_gain_14, c_gainAt (by omega) hcR.1, KV_eq, bPR_gain_15, full.gn (c1.1 0 (by omega)) hw (by omega) hcR.1 hcR.2]
    exact hq M1 rfl ⟨f1, c1, b1⟩
  · rw [if_neg hst] at hx2 ⊢
    exact hx2 rfl
end
