/-! LAYER 3, WHO WOULD COME IN -/
def duE (R : RT) (fee : Int) : Int64 := sc (R 4 1) (R 4 2) * Int64.ofInt fee
def erB (R : RT) (fee k : Int) : Bool := decide (fs2 (fun s => decide (Wf R (R 4 2).toNat (bgo R k) s < duE R fee)) 0 k.toNat = -1)
def enF (R : RT) (fee : Int) : Nat → Int
  | 0 => 0
  | n + 1 => if erB R fee ((n : Int) + 1) = true then (n : Int) + 1 else enF R fee n
def tEn (R : RT) (fee : Int) : Int := if R 4 1 = 0 then 1 else if 0 ≤ fee ∧ fee ≤ 9999 then 0 else 2
theorem bgo_fits {R : RT} (h : WR R) {k : Int} (hk : 0 ≤ k ∧ k ≤ 3) : fitsP R (bgo R k) := by
  have hb := h.b
  have e := dg3 (a := if 0 < k then R 33 0 else 0) (b := if 1 < k then R 33 1 else 0) (c := if 2 < k then R 33 2 else 0) (by split <;> omega) (by split <;> omega) (by split <;> omega)
  have ev : bgo R k = (if 0 < k then R 33 0 else 0) + (if 1 < k then R 33 1 else 0) * 5 + (if 2 < k then R 33 2 else 0) * 25 := by
    unfold bgo
    repeat' split
    all_goals omega
  unfold fitsP
  rw [ev, e.1, e.2.1, e.2.2]
  repeat' split
  all_goals omega
theorem bit_pw {k s : Int} (hk : 1 ≤ k ∧ k ≤ 3) (hs : 0 ≤ s ∧ s < 3) : bit (pw k - 1) s = if s < k then 1 else 0 := by
  rcases (by omega : k = 1 ∨ k = 2 ∨ k = 3) with rfl | rfl | rfl <;> rcases (by omega : s = 0 ∨ s = 1 ∨ s = 2) with rfl | rfl | rfl <;> decide
theorem cdo_k {R : RT} (h : WR R) {k : Int} (hk : 1 ≤ k ∧ k ≤ R 4 1) : cdo (bgn R) (pw k - 1) = bgo R k := by
  have hb := h.b
  have d0 := dg_bgn h (s := 0) (by omega)
  have d1 := dg_bgn h (s := 1) (by omega)
  have d2 := dg_bgn h (s := 2) (by omega)
  have e0 : stp R 0 = R 33 0 := rfl
  have e1 : stp R 1 = R 33 1 := rfl
  have e2 : stp R 2 = R 33 2 := rfl
  have b0 := bit_pw (k := k) (s := 0) (by omega) (by omega)
  have b1 := bit_pw (k := k) (s := 1) (by omega) (by omega)
  have b2 := bit_pw (k := k) (s := 2) (by omega) (by omega)
  unfold cdo hfP cd lsp bgo
  rw [d0, d1, d2, b0, b1, b2, e0, e1, e2]
  rcases (by omega : k = 1 ∨ k = 2 ∨ k = 3) with rfl | rfl | rfl
  · simp only [show (0 : Int) < 1 by omega, show ¬ (1 : Int) < 1 by omega, show ¬ (2 : Int) < 1 by omega, if_true, if_false]
    rw [if_neg (by omega), if_neg (by omega)]; omega
  · simp only [show (0 : Int) < 2 by omega, show (1 : Int) < 2 by omega, show ¬ (2 : Int) < 2 by omega, if_true, if_false]
    rw [if_neg (by omega), if_neg (by omega)]; omega
  · simp only [show (0 : Int) < 3 by omega, show (1 : Int) < 3 by omega, show (2 : Int) < 3 by omega, if_true]
    rw [if_neg (by omega)]
section
variable {d : Nat} {Q : AV → Mem → Prop} {X : Nat → Mem → Prop}
theorem c_allEarn {M : Mem} {k fee : Int} (h : WR (rd M 0)) (hf : Full (rd M 0) 0 M) (hz : Bz 0 M) (hk : 1 ≤ k ∧ k ≤ rd M 0 4 1) : Call (d + 3) qPR_allEarn [vr 9 0, vr 0 0, vi k, vi fee] M Q X = Q (vi (b01 (erB (rd M 0) fee k))) M := by
  generalize hR : rd M 0 = R at *
  have hb := h.b
  have e2 : M.1 4 0 2 = R 4 2 := by rw [← hR]; rfl
  have hbR := bgo_R h k
  rw [ePR_allEarn, bPR_allEarn_0, c_beginningOf (by rw [hR]; exact h) (by omega), KV_eq, bPR_allEarn_7, e2, c_scale (by omega) (by rw [hR]; omega), KV_eq, bPR_allEarn_12, hR]
  have e := find_eq (α := Unit) (A := fun s _ => At (d + 2) kPR_allEarn 18 [vr 9 0, vr 0 0, vi k, vi fee, vr 4 0, vi (bgo R k), vl (duE R fee), JK, vi s] [] M Q X) (G := fun _ => Q (vi 0) M) (F := Q (vi 1) M) (f := fun s => decide (Wf R (R 4 2).toNat (bgo R k) s < duE R fee)) k.toNat 0 (by omega) (by
    intro s _ s0 s1
    refine ⟨(), ?_⟩
    show At _ _ _ _ _ _ _ _ = _
    rw [bPR_allEarn_18, if_neg (by omega), bPR_allEarn_21, e2, c_worthAt (by omega) hbR (by omega), KV_eq, bPR_allEarn_27, hf.wrt hz (by omega) (by omega) hbR (bgo_fits h (by omega)) (by omega)]
    by_cases hc : Wf R (R 4 2).toNat (bgo R k) s < duE R fee
    · rw [if_neg (fun z => cmp64_ge.mp z hc), if_pos (decide_eq_true hc), bPR_allEarn_30, md12.2]
    · rw [if_pos (cmp64_ge.mpr hc), if_neg (fun z => hc (of_decide_eq_true z)), bPR_allEarn_32, w32_id (by omega)]) (by
    intro _
    show At _ _ _ _ _ _ _ _ = _
    rw [bPR_allEarn_18, if_pos (by omega), bPR_allEarn_34, md12.1]) ()
  refine Eq.trans e ?_
  unfold erB b01
  simp only [decide_eq_true_eq]
  split <;> rfl
theorem c_entry {M : Mem} {fee : Int} (h0 : CI0 M) (hb : Cb M) (hx1 : tEn (rd M 0) fee = 1 → X 0 M) (hx2 : tEn (rd M 0) fee = 2 → X 2 M) (hq : ∀ M', tEn (rd M 0) fee = 0 → CQ M M' → Q (vi (enF (rd M 0) fee (rd M 0 4 1).toNat)) M') : Call (d + 8) qPR_entry [vr 9 0, vi fee] M Q X := by
  have hW := h0.2.2.1 0 (by omega)
  have hbb := hW.b
  unfold tEn at hx1 hx2 hq
  rw [ePR_entry, bPR_entry_0, c_needRace]
  by_cases hn : rd M 0 4 1 = 0
  · rw [if_pos hn] at hx1; rw [if_pos hn]; exact hx1 rfl
  rw [if_neg hn] at hq hx2
  rw [if_neg hn, KU_eq, bPR_entry_2]
  by_cases hs : 0 ≤ fee ∧ fee ≤ 9999
  · rw [if_pos hs] at hq
    rw [if_neg (by omega), bPR_entry_4, if_pos (by omega), bPR_entry_12]
    refine c_settled h0 hb (by omega) ?_
    intro M1 f1 c1 b1 full
    have er : rd M1 0 = rd M 0 := rd_fs f1 (fun t j ht z => by unfold pSd pCl at z; omega)
    have hq' := hq M1 rfl ⟨f1, c1, b1⟩
    have z1 := c1.1 0 (by omega)
    clear hq
    generalize rd M 0 = R at *
    have e1 : M1.1 4 0 1 = R 4 1 := by rw [← er]; rfl
    rw [KV_eq, bPR_entry_14]
    have key : ∀ n : Nat, (n : Int) ≤ R 4 1 → At (d + 7) kPR_entry 19 [vr 9 0, vi fee, vr 0 0, vi 0, vi 1] [] M1 Q X = At (d + 7) kPR_entry 19 [vr 9 0, vi fee, vr 0 0, vi (enF R fee n), vi ((n : Int) + 1)] [] M1 Q X := by
      intro n
      induction n with
      | zero => intro _; rfl
      | succ n ih =>
        intro hn'
        rw [ih (by omega), bPR_entry_19, e1, if_neg (by omega), bPR_entry_25, c_allEarn (d := d + 4) (by rw [er]; exact hW) (by rw [er]; exact full) z1 (by rw [er]; omega), KV_eq, bPR_entry_30, er]
        show _ = At (d + 7) kPR_entry 19 [vr 9 0, vi fee, vr 0 0, vi (if erB R fee ((n : Int) + 1) = true then (n : Int) + 1 else enF R fee n), vi (((n + 1 : Nat) : Int) + 1)] [] M1 Q X
        rw [show ((n + 1 : Nat) : Int) = (n : Int) + 1 by omega]
        by_cases he : erB R fee ((n : Int) + 1) = true
        · rw [he, b01_t, if_neg (by omega), if_pos rfl, bPR_entry_31, bPR_entry_33, w32_id (by omega)]
        · rw [if_neg he]
          rw [Bool.not_eq_true] at he
          rw [he, b01_f, if_pos rfl, bPR_entry_33, w32_id (by omega)]
    rw [key (R 4 1).toNat (by omega), bPR_entry_19, e1, if_pos (by omega), bPR_entry_35]
    exact hq'
  · rw [if_neg hs] at hx2
    by_cases h1 : fee < 0
    · rw [if_pos h1, bPR_entry_7]; exact hx2 rfl
    · rw [if_neg h1, bPR_entry_4, if_neg (by omega), bPR_entry_7]; exact hx2 rfl
theorem m_entry {M : Mem} {R : RT} {fee : Int} (hc : Cur R M) (hq : ∀ M' v, MS R M M' → M'.1 10 0 0 = tEn R fee → (tEn R fee = 0 → v = enF R fee (R 4 1).toNat) → Q (vi v) M') : Call (d + 64) qMo_entry [vr 10 0, vi fee] M Q X := by
  have h20 := hc.n
  rw [eMo_entry, bMo_entry_0, th_ne (by omega), h20]
  by_cases h0 : R 4 1 = 0
  · rw [if_neg (fun z => z h0), bMo_entry_7, bMo_entry_10, m_bad1 (by omega), KV_eq, bMo_entry_12, if_pos (by omega), bMo_entry_25]
    refine hq _ _ (MS.th hc 1) ?_ ?_
    · unfold tEn; rw [if_pos h0]; exact th0_eq
    · unfold tEn; rw [if_pos h0]; intro z; omega
  rw [if_pos h0, bMo_entry_9, bMo_entry_10, m_bad0, KV_eq, bMo_entry_12, if_neg (by omega), bMo_entry_13, m_in, KV_eq, bMo_entry_18]
  rcases id hc with hc0 | ⟨B, n, T, hx, hcm⟩
  · exact absurd hc0.1 h0
  have hW := hx.wr
  have hb := hW.b
  have hn1 := hx.2.1
  by_cases hs : 0 ≤ fee ∧ fee ≤ 9999
  · rw [if_pos (by rw [if_pos hs]; omega), bMo_entry_21, bMo_entry_22, m_bad0, KV_eq, bMo_entry_24, if_pos rfl, bMo_entry_27]
    obtain ⟨fs0, -⟩ := MS.t0 hc
    have hcm0 : CM R B n T (sI M 10 0 0 0) := hcm.fs (by omega) ⟨hn1, by omega⟩ (P := fun t i j => t = 10 ∧ i = 0 ∧ j = 0) (Fs.rf.sI (by omega)) (fun t i j z => by omega)
    refine m_solveC (d := d) hx hcm0 ?_
    intro M' f c' sv
    have hM := c'.1
    have hq' := hq M' (enF R fee (R 4 1).toNat) ⟨fs0.tr (f.mono (fun t i j z => (sv_sc z).1)), Or.inr ⟨B, n, T, hx, c'⟩⟩ (by unfold tEn; rw [if_neg h0, if_pos hs, f.g1 10 0 0 (fun z => (sv_sc z).2 ⟨rfl, rfl⟩)]; exact sI_eq) (fun _ => rfl)
    clear hq
    rw [KU_eq, bMo_entry_29]
    have hbR : 0 ≤ bgn R ∧ bgn R < 125 := bgo_R hW (R 4 1)
    have hpl := bgn_plain hW
    have wst : ∀ k : Int, 1 ≤ k → k ≤ R 4 1 → ∀ s : Int, 0 ≤ s → s < k → M'.2 71 (((0 * 7 + (R 4 2).toNat) * 125 + (bgn R).toNat) * 8 + (pw k - 1).toNat) s.toNat = Wf R (R 4 2).toNat (bgo R k) s := by
      intro k k0 k1 s s0 s1
      have hp1 := pw_n (n := R 4 1) (by omega)
      have hp2 := pw_n (n := k) (by omega)
      have := ((sv (R 4 2) (bgn R) (pw k - 1) (by omega) (by omega) hbR.1 hbR.2 hpl.2.2.2 (by omega) (by omega)).1 s s0 (by omega)).1
      rw [cdo_k hW ⟨k0, k1⟩] at this
      exact this
    have flag0 : ∀ (m : Nat) (k b : Int) (s : Int), 1 ≤ k → k ≤ R 4 1 → 0 ≤ s → s + m = k → At (d + 63) kMo_entry 41 [vr 10 0, vi fee, vi b, vi k, vi 0, vi s] [] M' Q X = At (d + 63) kMo_entry 79 [vr 10 0, vi fee, vi b, vi k, vi 0, vi k] [] M' Q X := by
      intro m
      induction m with
      | zero => intro k b s k0 k1 s0 hs; rw [bMo_entry_41, if_pos (by omega), show s = k by omega]
      | succ m ih =>
        intro k b s k0 k1 s0 hs
        rw [bMo_entry_41, if_neg (by omega), bMo_entry_44, if_pos rfl, bMo_entry_75, bMo_entry_76, w32_id (by omega)]
        exact ih k b (s + 1) k0 k1 (by omega) (by omega)
    have inner : ∀ k b : Int, 1 ≤ k → k ≤ R 4 1 → At (d + 63) kMo_entry 41 [vr 10 0, vi fee, vi b, vi k, vi 1, vi 0] [] M' Q X = At (d + 63) kMo_entry 79 [vr 10 0, vi fee, vi b, vi k, vi (b01 (erB R fee k)), vi k] [] M' Q X := by
      intro k b k0 k1
      have hp2 := pw_n (n := k) (by omega)
      have ek : w32 (bshl 1 k - 1) = pw k - 1 := by rw [bshl_pw (by omega)]; exact w32_id (by omega)
      have e := find_eq (α := Unit) (A := fun s _ => At (d + 63) kMo_entry 41 [vr 10 0, vi fee, vi b, vi k, vi 1, vi s] [] M' Q X) (G := fun _ => At (d + 63) kMo_entry 79 [vr 10 0, vi fee, vi b, vi k, vi 0, vi k] [] M' Q X) (F := At (d + 63) kMo_entry 79 [vr 10 0, vi fee, vi b, vi k, vi 1, vi k] [] M' Q X) (f := fun s => decide (Wf R (R 4 2).toNat (bgo R k) s < duE R fee)) k.toNat 0 (by omega) (by
        intro s _ s0 s1
        refine ⟨(), ?_⟩
        show At _ _ _ _ _ _ _ _ = _
        rw [bMo_entry_41, if_neg (by omega), bMo_entry_44, if_neg (by omega), bMo_entry_46 (by rw [hM.2.1]; omega), m_beginPlace hM hW, KV_eq, bMo_entry_53 (by rw [ek]; omega), ek, hM.2.1, hM.1, m_scale (by omega) (by omega), KV_eq, bMo_entry_70, wst k k0 k1 s s0 (by omega)]
        have ed : Int64.ofInt fee * sc (R 4 1) (R 4 2) = duE R fee := by unfold duE; exact Int64.mul_comm _ _
        rw [ed]
        by_cases hcc : Wf R (R 4 2).toNat (bgo R k) s < duE R fee
        · rw [if_pos (cmp64_lt.mpr hcc), if_pos (decide_eq_true hcc), bMo_entry_75, bMo_entry_76, w32_id (by omega), flag0 (k - (s + 1)).toNat k b (s + 1) k0 k1 (by omega) (by omega)]
        · rw [if_neg (fun z => hcc (cmp64_lt.mp z)), if_neg (fun z => hcc (of_decide_eq_true z)), bMo_entry_73, bMo_entry_76, w32_id (by omega)]) (by
        intro _
        show At _ _ _ _ _ _ _ _ = _
        rw [bMo_entry_41, if_pos (by omega), show (0 : Int) + (k.toNat : Int) = k by omega]) ()
      refine Eq.trans e ?_
      unfold erB b01
      simp only [decide_eq_true_eq]
      split <;> rfl
    have key : ∀ n : Nat, (n : Int) ≤ R 4 1 → ∀ z4 z5, ∃ y4 y5, At (d + 63) kMo_entry 33 [vr 10 0, vi fee, vi 0, vi 1, z4, z5] [] M' Q X = At (d + 63) kMo_entry 33 [vr 10 0, vi fee, vi (enF R fee n), vi ((n : Int) + 1), y4, y5] [] M' Q X := by
      intro n
      induction n with
      | zero => intro _ z4 z5; exact ⟨z4, z5, rfl⟩
      | succ n ih =>
        intro hn' z4 z5
        obtain ⟨y4, y5, e⟩ := ih (by omega) z4 z5
        refine ⟨vi (b01 (erB R fee ((n : Int) + 1))), vi ((n : Int) + 1), ?_⟩
        rw [e, bMo_entry_33, hM.1, if_neg (by omega), bMo_entry_37, inner ((n : Int) + 1) _ (by omega) (by omega), bMo_entry_79]
        show _ = At (d + 63) kMo_entry 33 [vr 10 0, vi fee, vi (if erB R fee ((n : Int) + 1) = true then (n : Int) + 1 else enF R fee n), vi (((n + 1 : Nat) : Int) + 1), _, _] [] M' Q X
        rw [show ((n + 1 : Nat) : Int) = (n : Int) + 1 by omega]
        by_cases he : erB R fee ((n : Int) + 1) = true
        · rw [he, b01_t, if_neg (by omega), if_pos rfl, bMo_entry_81, bMo_entry_84, w32_id (by omega)]
        · rw [if_neg he]
          rw [Bool.not_eq_true] at he
          rw [he, b01_f, if_pos rfl, bMo_entry_83, bMo_entry_84, w32_id (by omega)]
    obtain ⟨y4, y5, e⟩ := key (R 4 1).toNat (by omega) JK JK
    rw [e, bMo_entry_33, hM.1, if_pos (by omega), bMo_entry_87]
    exact hq'
  · rw [if_neg (by rw [if_neg hs]; omega), bMo_entry_19, bMo_entry_22, m_bad1 (by omega), KV_eq, bMo_entry_24, if_neg (by omega), bMo_entry_25]
    refine hq _ _ (MS.th hc 2) ?_ ?_
    · unfold tEn; rw [if_neg h0, if_neg hs]; exact th0_eq
    · unfold tEn; rw [if_neg h0, if_neg hs]; intro z; omega
end
