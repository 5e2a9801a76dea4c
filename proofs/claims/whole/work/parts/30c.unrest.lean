/-! LAYER 3, UNREST -/
def giX (R : RT) (w x : Int) : Int := if gnD R w x = 0 then 0 else 1
theorem giX_R (R : RT) (w x : Int) : 0 ≤ giX R w x ∧ giX R w x ≤ 1 := by unfold giX; split <;> omega
theorem giX_0 {R : RT} {w : Int} : giX R w 0 = 0 := by
  unfold giX gnD; rw [if_pos (Or.inr rfl), if_pos rfl]
theorem gnD_pos {R : RT} (h : WR R) (hn1 : 1 ≤ R 4 1) {w x : Int} (hw : 0 ≤ w ∧ w ≤ 6) (hf : fitsP R x) : (0 : Int64) < gnD R w x ↔ gnD R w x ≠ 0 := by
  constructor
  · intro z e; rw [e] at z; exact i64_irr z
  · intro hne
    have hw0 : ¬ (w = 0 ∨ x = 0) := fun z => hne (by unfold gnD; rw [if_pos z])
    have e : gnD R w x = Gnf R w x := by unfold gnD; rw [if_neg hw0]
    have := gn_nn h hn1 (w := w) (x := x) (by omega) hf
    rw [e] at hne ⊢
    rw [Int64.lt_iff_toInt_lt]
    have h0 : (Gnf R w x).toInt ≠ 0 := fun z => hne (Int64.toInt_inj.mp z)
    have : (0 : Int64).toInt = 0 := rfl
    omega
def stO (R : RT) (x : Int) : Int := kk (R 4 1) 0 (stp R 0) (dg x 0) * kk (R 4 1) 1 (stp R 1) (dg x 1) * kk (R 4 1) 2 (stp R 2) (dg x 2)
theorem kk_R {n i s a : Int} (hs : 0 ≤ s ∧ s ≤ 4) : 0 ≤ kk n i s a ∧ kk n i s a ≤ 4 := by unfold kk; split <;> omega
theorem kk_n {n i s a : Int} (h : n ≤ i) : kk n i s a = 1 := by unfold kk; rw [if_neg (by omega)]
theorem stO_R {R : RT} (h : WR R) (x : Int) : 0 ≤ stO R x ∧ stO R x ≤ 64 := by
  have a := kk_R (n := R 4 1) (i := 0) (a := dg x 0) (h.stp 0 (by omega))
  have b := kk_R (n := R 4 1) (i := 1) (a := dg x 1) (h.stp 1 (by omega))
  have c := kk_R (n := R 4 1) (i := 2) (a := dg x 2) (h.stp 2 (by omega))
  unfold stO
  have ab : kk (R 4 1) 0 (stp R 0) (dg x 0) * kk (R 4 1) 1 (stp R 1) (dg x 1) ≤ 4 * 4 := Int.mul_le_mul a.2 b.2 b.1 (by omega)
  exact ⟨Int.mul_nonneg (Int.mul_nonneg a.1 b.1) c.1, Int.mul_le_mul (by omega) c.2 c.1 (by omega)⟩
def cuF (R : RT) (w x : Int) : Int := if fitsP R x then giX R w x * stO R x else 0
theorem cuF_R {R : RT} (h : WR R) (w x : Int) : 0 ≤ cuF R w x ∧ cuF R w x ≤ 64 := by
  have a := giX_R R w x
  have b := stO_R h x
  unfold cuF
  split
  · rcases (by omega : giX R w x = 0 ∨ giX R w x = 1) with e | e <;> rw [e] <;> omega
  · omega
def ruI (R : RT) (w p : Int) : Int := sum1 (fun b => giX R w (cd p b)) (pw (R 4 1) - 1).toNat
def ruF (R : RT) (w p : Int) : Int := if plB R p = true then ruI R w p else 0
def unV (R : RT) : Int := sum1 (fun w => sum1 (cuF R w) 124) (R 4 2).toNat
theorem ruI_R {R : RT} (h : WR R) (hn1 : 1 ≤ R 4 1) (w p : Int) : 0 ≤ ruI R w p ∧ ruI R w p ≤ 7 := by
  have hb := h.b
  have hp := pw_n (n := R 4 1) ⟨hn1, by omega⟩
  have := sum1_R (f := fun b => giX R w (cd p b)) (c := 1) (fun k => giX_R R w _) (pw (R 4 1) - 1).toNat
  unfold ruI; omega
theorem ruF_R {R : RT} (h : WR R) (hn1 : 1 ≤ R 4 1) (w p : Int) : 0 ≤ ruF R w p ∧ ruF R w p ≤ 7 := by
  have := ruI_R h hn1 w p
  unfold ruF; split <;> omega
theorem cd_v {p m a b c : Int} (e0 : dg p 0 = a) (e1 : dg p 1 = b) (e2 : dg p 2 = c) : cd p m = (if bit m 0 = 1 then a else 0) + (if bit m 1 = 1 then b else 0) * 5 + (if bit m 2 = 1 then c else 0) * 25 := by
  unfold cd lsp; rw [e0, e1, e2]
/-- the sum over who is in -/
theorem ruI_q {R : RT} (h : WR R) (hn1 : 1 ≤ R 4 1) {w a b c : Int} (ha : 0 ≤ a ∧ a ≤ 4) (hb : 0 ≤ b ∧ b ≤ 4) (hc : 0 ≤ c ∧ c ≤ 4) : ruI R w (a + b * 5 + c * 25) = q2 (R 4 1) (fun a b c => giX R w (a + b * 5 + c * 25)) a b c := by
  have hbb := h.b
  obtain ⟨e0, e1, e2⟩ := dg3 ha hb hc
  have hf0 : giX R w (cd (a + b * 5 + c * 25) 0) = 0 := by rw [cd_b0]; exact giX_0
  have cv := fun m => cd_v (m := m) e0 e1 e2
  have one : ¬ (0 : Int) = 1 := by omega
  rcases (by omega : R 4 1 = 1 ∨ R 4 1 = 2 ∨ R 4 1 = 3) with e | e | e
  · unfold ruI q2 q1 q0
    rw [e, show (pw 1 - 1).toNat = 1 from rfl, sum1_N (f := fun m => giX R w (cd (a + b * 5 + c * 25) m)) hf0]
    show 0 + giX R w (cd (a + b * 5 + c * 25) 0) + giX R w (cd (a + b * 5 + c * 25) 1) = _
    rw [cv 0, cv 1, b0.1, b0.2.1, b0.2.2, b1.1, b1.2.1, b1.2.2]
    simp only [show ¬ (2 : Int) < 1 by omega, show ¬ (1 : Int) < 1 by omega, show (0 : Int) < 1 by omega, if_true, if_false, one, Int.zero_add, Int.zero_mul, Int.add_zero]
  · unfold ruI q2 q1 q0
    rw [e, show (pw 2 - 1).toNat = 3 from rfl, sum1_N (f := fun m => giX R w (cd (a + b * 5 + c * 25) m)) hf0]
    show 0 + giX R w (cd (a + b * 5 + c * 25) 0) + giX R w (cd (a + b * 5 + c * 25) 1) + giX R w (cd (a + b * 5 + c * 25) 2) + giX R w (cd (a + b * 5 + c * 25) 3) = _
    rw [cv 0, cv 1, cv 2, cv 3, b0.1, b0.2.1, b0.2.2, b1.1, b1.2.1, b1.2.2, b2.1, b2.2.1, b2.2.2, b3.1, b3.2.1, b3.2.2]
    simp only [show ¬ (2 : Int) < 2 by omega, show (1 : Int) < 2 by omega, show (0 : Int) < 2 by omega, if_true, if_false, one, Int.zero_add, Int.zero_mul, Int.add_zero]
    omega
  · unfold ruI q2 q1 q0
    rw [e, show (pw 3 - 1).toNat = 7 from rfl, sum1_N (f := fun m => giX R w (cd (a + b * 5 + c * 25) m)) hf0]
    show 0 + giX R w (cd (a + b * 5 + c * 25) 0) + giX R w (cd (a + b * 5 + c * 25) 1) + giX R w (cd (a + b * 5 + c * 25) 2) + giX R w (cd (a + b * 5 + c * 25) 3) + giX R w (cd (a + b * 5 + c * 25) 4) + giX R w (cd (a + b * 5 + c * 25) 5) + giX R w (cd (a + b * 5 + c * 25) 6) + giX R w (cd (a + b * 5 + c * 25) 7) = _
    rw [cv 0, cv 1, cv 2, cv 3, cv 4, cv 5, cv 6, cv 7, b0.1, b0.2.1, b0.2.2, b1.1, b1.2.1, b1.2.2, b2.1, b2.2.1, b2.2.2, b3.1, b3.2.1, b3.2.2, b4.1, b4.2.1, b4.2.2, b5.1, b5.2.1, b5.2.2, b6.1, b6.2.1, b6.2.2, b7.1, b7.2.1, b7.2.2]
    simp only [show (2 : Int) < 3 by omega, show (1 : Int) < 3 by omega, show (0 : Int) < 3 by omega, if_true, if_false, one, Int.zero_add, Int.zero_mul, Int.add_zero]
    omega
theorem un_eq {R : RT} (h : WR R) (hn1 : 1 ≤ R 4 1) {w : Int} : sum1 (cuF R w) 124 = sum1 (ruF R w) 124 := by
  have hb := h.b
  have z1 : cuF R w 0 = 0 := by unfold cuF; rw [giX_0, Int.zero_mul]; split <;> rfl
  have z2 : ruF R w 0 = 0 := by unfold ruF; rw [plB_0 hn1]; rfl
  rw [sum1_N z1, sum1_N z2, show 124 + 1 = 125 from rfl, sumN_125, sumN_125]
  have e := dig_eq (n := R 4 1) (s0 := stp R 0) (s1 := stp R 1) (s2 := stp R 2) (g := fun a b c => giX R w (a + b * 5 + c * 25)) (by omega) (h.stp 0 (by omega)) (h.stp 1 (by omega)) (h.stp 2 (by omega)) (stp_n h (by omega)) (stp_n h (by omega)) (stp_n h (by omega))
  refine Eq.trans ?_ (Eq.trans e ?_)
  · refine s5_congr (fun c c0 c1 => s5_congr (fun b b0 b1 => s5_congr (fun a a0 a1 => ?_)))
    obtain ⟨e0, e1, e2⟩ := dg3 ⟨a0, a1⟩ ⟨b0, b1⟩ ⟨c0, c1⟩
    unfold cuF stO
    have : fitsP R (a + b * 5 + c * 25) ↔ (a ≤ stp R 0 ∧ b ≤ stp R 1 ∧ c ≤ stp R 2) := by
      show (dg _ 0 ≤ R 33 0 ∧ dg _ 1 ≤ R 33 1 ∧ dg _ 2 ≤ R 33 2) ↔ _
      rw [e0, e1, e2]; exact Iff.rfl
    by_cases hf : fitsP R (a + b * 5 + c * 25)
    · rw [if_pos hf, if_pos (this.mp hf), e0, e1, e2]
    · rw [if_neg hf, if_neg (fun z => hf (this.mpr z))]
  · refine s5_congr (fun c c0 c1 => s5_congr (fun b b0 b1 => s5_congr (fun a a0 a1 => ?_)))
    obtain ⟨e0, e1, e2⟩ := dg3 ⟨a0, a1⟩ ⟨b0, b1⟩ ⟨c0, c1⟩
    have hp : plainP R (a + b * 5 + c * 25) ↔ (((0 < R 4 1 → a ≠ 0) ∧ a ≤ stp R 0) ∧ ((1 < R 4 1 → b ≠ 0) ∧ b ≤ stp R 1) ∧ ((2 < R 4 1 → c ≠ 0) ∧ c ≤ stp R 2)) := by
      show ((0 < R 4 1 → dg _ 0 ≠ 0) ∧ (1 < R 4 1 → dg _ 1 ≠ 0) ∧ (2 < R 4 1 → dg _ 2 ≠ 0) ∧ (dg _ 0 ≤ R 33 0 ∧ dg _ 1 ≤ R 33 1 ∧ dg _ 2 ≤ R 33 2)) ↔ _
      rw [e0, e1, e2]
      exact ⟨fun ⟨x0, x1, x2, y0, y1, y2⟩ => ⟨⟨x0, y0⟩, ⟨x1, y1⟩, ⟨x2, y2⟩⟩, fun ⟨⟨x0, y0⟩, ⟨x1, y1⟩, ⟨x2, y2⟩⟩ => ⟨x0, x1, x2, y0, y1, y2⟩⟩
    unfold ruF
    by_cases hpl : plainP R (a + b * 5 + c * 25)
    · have : plB R (a + b * 5 + c * 25) = true := decide_eq_true hpl
      rw [if_pos (hp.mp hpl), if_pos this]
      exact (ruI_q h hn1 ⟨a0, a1⟩ ⟨b0, b1⟩ ⟨c0, c1⟩).symm
    · have : plB R (a + b * 5 + c * 25) = false := decide_eq_false hpl
      rw [if_neg (fun z => hpl (hp.mpr z)), this]; rfl
section
variable {d : Nat} {Q : AV → Mem → Prop} {X : Nat → Mem → Prop}
theorem c_statesOf {M : Mem} {R : RT} {x : Int} (hR : rd M 0 = R) (h : WR R) (hx : 0 ≤ x ∧ x < 125) : Call (d + 2) qBo_statesOf [vr 0 0, vi x] M Q X = Q (vi (stO R x)) M := by
  have hb := h.b
  have e41 : M.1 4 (rcB 0) 1 = R 4 1 := by rw [rcB_0, ← hR]; rfl
  have key : ∀ s c : Int, 0 ≤ s → s < R 4 1 → 0 ≤ c → c ≤ 1000 → At (d + 1) kBo_statesOf 4 [vr 0 0, vi x, vi c, vi s] [] M Q X = At (d + 1) kBo_statesOf 4 [vr 0 0, vi x, vi (c * kk (R 4 1) s (stp R s) (dg x s)), vi (s + 1)] [] M Q X := by
    intro s c s0 s1 c0 c1
    have e33 : M.1 33 (rcB 0) s.toNat = stp R s := by rw [rcB_0, ← hR]; rfl
    have hs := h.stp s (by omega)
    rw [bBo_statesOf_4, e41, if_neg (by omega), bBo_statesOf_9, if_neg (by omega), bBo_statesOf_12, c_stepsIn (by omega), KV_eq, bBo_statesOf_15]
    unfold kk
    by_cases hd : dg x s = 0
    · have hm : w32 (c * stp R s) = c * stp R s := by
        rcases (by omega : stp R s = 0 ∨ stp R s = 1 ∨ stp R s = 2 ∨ stp R s = 3 ∨ stp R s = 4) with e | e | e | e | e <;> rw [e] <;> exact w32_id (by omega)
      rw [if_neg (fun z => z hd), if_pos ⟨s1, hd⟩, bBo_statesOf_16 (by omega), e33, hm, bBo_statesOf_24, w32_id (by omega)]
    · rw [if_pos hd, if_neg (fun z => hd z.2), Int.mul_one, bBo_statesOf_24, w32_id (by omega)]
  have fin : ∀ c s : Int, R 4 1 ≤ s → At (d + 1) kBo_statesOf 4 [vr 0 0, vi x, vi c, vi s] [] M Q X = Q (vi c) M := by
    intro c s hs
    rw [bBo_statesOf_4, e41, if_pos hs, bBo_statesOf_26]
  have a := kk_R (n := R 4 1) (i := 0) (a := dg x 0) (h.stp 0 (by omega))
  have b := kk_R (n := R 4 1) (i := 1) (a := dg x 1) (h.stp 1 (by omega))
  have ab : kk (R 4 1) 0 (stp R 0) (dg x 0) * kk (R 4 1) 1 (stp R 1) (dg x 1) ≤ 4 * 4 := Int.mul_le_mul a.2 b.2 b.1 (by omega)
  have ab0 : 0 ≤ kk (R 4 1) 0 (stp R 0) (dg x 0) * kk (R 4 1) 1 (stp R 1) (dg x 1) := Int.mul_nonneg a.1 b.1
  rw [eBo_statesOf, bBo_statesOf_0]
  unfold stO
  rcases (by omega : R 4 1 = 0 ∨ R 4 1 = 1 ∨ R 4 1 = 2 ∨ R 4 1 = 3) with e | e | e | e
  · rw [fin _ _ (by omega), kk_n (i := 0) (by omega), kk_n (i := 1) (by omega), kk_n (i := 2) (by omega)]; rfl
  · rw [key 0 1 (by omega) (by omega) (by omega) (by omega), fin _ _ (by omega), kk_n (i := 1) (by omega), kk_n (i := 2) (by omega), Int.one_mul, Int.mul_one, Int.mul_one]
  · rw [key 0 1 (by omega) (by omega) (by omega) (by omega), show (0 : Int) + 1 = 1 by omega, key 1 _ (by omega) (by omega) (by omega) (by omega), fin _ _ (by omega), kk_n (i := 2) (by omega), Int.one_mul, Int.mul_one]
  · rw [key 0 1 (by omega) (by omega) (by omega) (by omega), show (0 : Int) + 1 = 1 by omega, key 1 _ (by omega) (by omega) (by omega) (by omega), show (1 : Int) + 1 = 2 by omega, Int.one_mul, key 2 _ (by omega) (by omega) (by omega) (by omega), fin _ _ (by omega)]
theorem c_unrest {M : Mem} (h0 : CI0 M) (hb : Cb M) (hx : tR (rd M 0) = 1 → X 0 M) (hq : ∀ M', tR (rd M 0) = 0 → CQ M M' → Q (vi (unV (rd M 0))) M') : Call (d + 8) qPR_unrest [vr 9 0] M Q X := by
  have hW := h0.2.2.1 0 (by omega)
  have hbb := hW.b
  unfold tR at hx hq
  rw [ePR_unrest, bPR_unrest_0, c_needRace]
  by_cases hn : rd M 0 4 1 = 0
  · rw [if_pos hn] at hx; rw [if_pos hn]; exact hx rfl
  rw [if_neg hn] at hq
  rw [if_neg hn, KU_eq, bPR_unrest_2]
  refine c_settled h0 hb (by omega) ?_
  intro M1 f1 c1 b1 full
  have er : rd M1 0 = rd M 0 := rd_fs f1 (fun t j ht z => by unfold pSd pCl at z; omega)
  have hq' := hq M1 rfl ⟨f1, c1, b1⟩
  have z1 := c1.1 0 (by omega)
  clear hq hx
  generalize rd M 0 = R at *
  have e2 : M1.1 4 (rcB 0) 2 = R 4 2 := by rw [rcB_0, ← er]; rfl
  rw [KV_eq, bPR_unrest_4]
  have inner : ∀ w acc : Int, 1 ≤ w → w ≤ R 4 2 → 0 ≤ acc → acc ≤ 1000000 → At (d + 6) kBo_statesWithoutRest 11 [vr 0 0, vi acc, vi w, vi 1] [] M1 (KV (d + 7) kPR_unrest 5 [vr 9 0] [] Q X) X = At (d + 6) kBo_statesWithoutRest 11 [vr 0 0, vi (acc + sum1 (cuF R w) 124), vi w, vi 125] [] M1 (KV (d + 7) kPR_unrest 5 [vr 9 0] [] Q X) X := by
    intro w acc w0 w1 a0 a1
    obtain ⟨_, e⟩ := sum_up (α := Unit) (A := fun x acc _ => At (d + 6) kBo_statesWithoutRest 11 [vr 0 0, vi acc, vi w, vi x] [] M1 (KV (d + 7) kPR_unrest 5 [vr 9 0] [] Q X) X) (f := cuF R w) (c := 64) (B := 1010000) (fun k => cuF_R hW w k) 124 (by
      intro x acc _ x0 x1 b0 b1
      refine ⟨(), ?_⟩
      show At _ _ _ _ _ _ _ _ = At _ _ _ _ _ _ _ _
      have hcu := cuF_R hW w x
      rw [bBo_statesWithoutRest_11, if_neg (by omega), bBo_statesWithoutRest_14, rcB_0, c_fits (d := d + 4) (by omega), KV_eq, bBo_statesWithoutRest_18, er]
      unfold cuF at hcu ⊢
      by_cases hf : fitsP R x
      · rw [if_pos hf] at hcu
        rw [if_pos hf, if_pos hf, if_neg (by omega), bBo_statesWithoutRest_19, c_gainAt (d := d + 4) (by omega) (by omega), KV_eq, bBo_statesWithoutRest_23, full.gn z1 (by omega) (by omega) (by omega) hf]
        unfold giX at hcu ⊢
        by_cases hg : gnD R w x = 0
        · rw [if_pos (cmp64_eq.mpr hg), if_pos hg, Int.zero_mul, Int.add_zero, bBo_statesWithoutRest_32, w32_id (by omega)]
        · rw [if_neg hg, Int.one_mul] at hcu
          rw [if_neg (fun z => hg (cmp64_eq.mp z)), if_neg hg, Int.one_mul, bBo_statesWithoutRest_26, c_statesOf (d := d + 4) er hW (by omega), KV_eq, bBo_statesWithoutRest_30, bBo_statesWithoutRest_32, w32_id (z := x + 1) (by omega), w32_id (by omega)]
      · rw [if_neg hf, if_neg hf, if_pos rfl, bBo_statesWithoutRest_32, w32_id (by omega), Int.add_zero]) acc () a0 (by omega)
    exact e
  obtain ⟨z', e⟩ := sum_up (α := AV) (A := fun w acc z => At (d + 6) kBo_statesWithoutRest 4 [vr 0 0, vi acc, vi w, z] [] M1 (KV (d + 7) kPR_unrest 5 [vr 9 0] [] Q X) X) (f := fun w => sum1 (cuF R w) 124) (c := 7936) (B := 1000000) (fun k => by have := sum1_R (f := cuF R k) (c := 64) (fun x => cuF_R hW k x) 124; omega) (R 4 2).toNat (by
    intro w acc z w0 w1 a0 a1
    refine ⟨vi 125, ?_⟩
    show At _ _ _ _ _ _ _ _ = At _ _ _ _ _ _ _ _
    rw [bBo_statesWithoutRest_4, e2, if_neg (by omega), bBo_statesWithoutRest_9, inner w acc w0 (by omega) a0 (by omega), bBo_statesWithoutRest_11, if_pos (by omega), bBo_statesWithoutRest_34, w32_id (by omega)]) 0 JK (by omega) (by omega)
  rw [eBo_statesWithoutRest, bBo_statesWithoutRest_0]
  refine e.mpr ?_
  show At _ _ _ _ _ _ _ _
  rw [bBo_statesWithoutRest_4, e2, if_pos (by omega), bBo_statesWithoutRest_36, Int.zero_add, KV_eq, bPR_unrest_5]
  exact hq'
end
