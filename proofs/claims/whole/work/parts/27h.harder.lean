/-! LAYER 3, WHO RUNS HARDER, WHO LEAVES: both sides -/
theorem rcB_0 : rcB 0 = 0 := rfl
theorem md12 : ((1 : Int) % 2 = 1) ∧ ((0 : Int) % 2 = 0) := ⟨rfl, rfl⟩
section
variable {d : Nat} {Q : AV → Mem → Prop} {X : Nat → Mem → Prop}
theorem c_isRunHarder {M : Mem} {w x : Int} (h : WR (rd M 0)) (hw : 0 ≤ w ∧ w ≤ 6) (hx : 0 ≤ x ∧ x < 125) (hr : M.1 20 0 (w * 125 + x).toNat = rwX (rd M 0) w x) : Call (d + 4) qBo_isRunHarder [vr 0 0, vi w, vi x] M Q X = Q (vi (b01 (hrd (rd M 0) w x))) M := by
  generalize hR : rd M 0 = R at *
  have hb := h.b
  have e1 : M.1 4 (rcB 0) 1 = R 4 1 := by rw [rcB_0, ← hR]; rfl
  have inner : ∀ i : Int, 0 ≤ i → i < R 4 1 → At (d + 3) kBo_isRunHarder 12 [vr 0 0, vi w, vi x, vi i, vi 0] [] M Q X = if fs2 (fun j => decide (hr1 R w x i j)) 0 (R 4 1).toNat = -1 then At (d + 3) kBo_isRunHarder 2 [vr 0 0, vi w, vi x, vi (i + 1), vi (R 4 1)] [] M Q X else Q (vi 1) M := by
    intro i i0 i1
    refine find_eq (α := Unit) (A := fun j _ => At (d + 3) kBo_isRunHarder 12 [vr 0 0, vi w, vi x, vi i, vi j] [] M Q X) (G := fun _ => Q (vi 1) M) (R 4 1).toNat 0 (by omega) ?_ ?_ ()
    · intro j _ j0 j1
      refine ⟨(), ?_⟩
      have ed : ∀ s : Int, 0 ≤ dr (M.1 20 0 (w * 125 + x).toNat) s ∧ dr (M.1 20 0 (w * 125 + x).toNat) s < 5 := fun s => by have := dr_R (M.1 20 0 (w * 125 + x).toNat) s; omega
      have hrr : 0 ≤ M.1 20 0 (w * 125 + x).toNat ∧ M.1 20 0 (w * 125 + x).toNat < 125 := by rw [hr]; exact rwX_R
      have e2 : w32 (j + 1) = j + 1 := w32_id (by omega)
      show At _ _ _ _ _ _ _ _ = _
      rw [bBo_isRunHarder_12, e1, if_neg (by omega), bBo_isRunHarder_17, if_neg (by omega), bBo_isRunHarder_20, c_stepsIn (by omega), KV_eq, bBo_isRunHarder_23, c_stepsIn (by omega), KV_eq, bBo_isRunHarder_26]
      by_cases hd : dg x j < dg x i
      · rw [if_neg (by omega), bBo_isRunHarder_27, c_doingAt hw hx hrr, KV_eq, bBo_isRunHarder_35, rcB_0, c_costOf (by omega) (ed i), KV_eq, bBo_isRunHarder_36, c_doingAt hw hx hrr, KV_eq, bBo_isRunHarder_44, rcB_0, c_costOf (by omega) (ed j), KV_eq, bBo_isRunHarder_45, hR, hr, rwX_D, rwX_D]
        by_cases hc : cst R j (rwD R w x j) < cst R i (rwD R w x i)
        · rw [if_neg (by omega), if_pos (decide_eq_true ⟨hd, hc⟩), bBo_isRunHarder_46, md12.1]
        · rw [if_pos (by omega), if_neg (fun z => hc (of_decide_eq_true z).2), bBo_isRunHarder_48, e2]
      · rw [if_pos (by omega), if_neg (fun z => hd (of_decide_eq_true z).1), bBo_isRunHarder_48, e2]
    · intro _
      show At _ _ _ _ _ _ _ _ = _
      rw [bBo_isRunHarder_12, e1, if_pos (by omega), bBo_isRunHarder_50, w32_id (by omega), show (0 : Int) + ((R 4 1).toNat : Int) = R 4 1 by omega]
  have outer := find_eq (α := AV) (A := fun i z => At (d + 3) kBo_isRunHarder 2 [vr 0 0, vi w, vi x, vi i, z] [] M Q X) (G := fun _ => Q (vi 1) M) (F := Q (vi 0) M) (f := fun i => decide (fs2 (fun j => decide (hr1 R w x i j)) 0 (R 4 1).toNat ≠ -1)) (R 4 1).toNat 0 (by omega) (by
      intro i z i0 i1
      refine ⟨vi (R 4 1), ?_⟩
      show At _ _ _ _ _ _ _ _ = _
      rw [bBo_isRunHarder_2, e1, if_neg (by omega), bBo_isRunHarder_7, if_neg (by omega), bBo_isRunHarder_10, inner i i0 (by omega)]
      by_cases hc : fs2 (fun j => decide (hr1 R w x i j)) 0 (R 4 1).toNat = -1
      · rw [if_pos hc, if_neg (fun z => (of_decide_eq_true z) hc)]
      · rw [if_neg hc, if_pos (decide_eq_true hc)]) (by
      intro z
      show At _ _ _ _ _ _ _ _ = _
      rw [bBo_isRunHarder_2, e1, if_pos (by omega), bBo_isRunHarder_52, md12.2]) JK
  rw [eBo_isRunHarder, bBo_isRunHarder_0, outer]
  unfold hrd b01
  simp only [decide_eq_true_eq]
  split <;> rename_i hh
  · rw [if_neg (fun z => z hh)]
  · first | rfl | rw [if_pos hh]
/-- how many plain states are so -/
def cnP (R : RT) (F : Int → Int → Bool) (w : Int) : Int := sum1 (fun x => b01 (plB R x && F w x)) 124
def cnA (R : RT) (F : Int → Int → Bool) : Int := sum1 (fun w => cnP R F w) (R 4 2).toNat
theorem cnP_R {R : RT} {F : Int → Int → Bool} (w : Int) : 0 ≤ cnP R F w ∧ cnP R F w ≤ 124 := by
  have := sum1_R (f := fun x => b01 (plB R x && F w x)) (c := 1) (fun k => b01_R _) 124
  unfold cnP
  omega
theorem c_statesRunHarder {M : Mem} (h : WR (rd M 0)) (hf : Full (rd M 0) 0 M) (hz : Bz 0 M) : Call (d + 5) qBo_statesRunHarder [vr 0 0] M Q X = Q (vi (cnA (rd M 0) (hrd (rd M 0)))) M := by
  generalize hR : rd M 0 = R at *
  have hb := h.b
  have e2 : M.1 4 (rcB 0) 2 = R 4 2 := by rw [rcB_0, ← hR]; rfl
  have inner : ∀ w acc : Int, 1 ≤ w → w ≤ R 4 2 → 0 ≤ acc → acc ≤ 1000000 → At (d + 4) kBo_statesRunHarder 11 [vr 0 0, vi acc, vi w, vi 1] [] M Q X = At (d + 4) kBo_statesRunHarder 11 [vr 0 0, vi (acc + cnP R (hrd R) w), vi w, vi 125] [] M Q X := by
    intro w acc w0 w1 a0 a1
    obtain ⟨_, e⟩ := sum_up (α := Unit) (A := fun x acc _ => At (d + 4) kBo_statesRunHarder 11 [vr 0 0, vi acc, vi w, vi x] [] M Q X) (f := fun x => b01 (plB R x && hrd R w x)) (c := 1) (B := 1000124) (fun k => b01_R _) 124 (by
      intro x acc _ x0 x1 b0 b1
      refine ⟨(), ?_⟩
      show At _ _ _ _ _ _ _ _ = At _ _ _ _ _ _ _ _
      have hp : (if plainP R x then (1 : Int) else 0) = b01 (plB R x) := by unfold b01 plB; simp only [decide_eq_true_eq]
      rw [bBo_statesRunHarder_11, if_neg (by omega), bBo_statesRunHarder_14, rcB_0, c_isPlain (by rw [hR]; exact h) (by omega), KV_eq, bBo_statesRunHarder_18, hR, hp]
      by_cases hpl : plB R x = true
      · have hfit : fitsP R x := (of_decide_eq_true hpl).2.2.2
        rw [hpl, b01_t, if_neg (by omega), bBo_statesRunHarder_19, c_isRunHarder (by rw [hR]; exact h) (by omega) (by omega) (by rw [hR]; exact hf.row hz (by omega) (by omega) (by omega) hfit), KV_eq, bBo_statesRunHarder_23, hR, Bool.true_and]
        by_cases hh : hrd R w x = true
        · rw [hh, b01_t, if_neg (by omega), bBo_statesRunHarder_24, bBo_statesRunHarder_25, w32_id (by omega), w32_id (by omega)]
        · rw [Bool.not_eq_true] at hh
          rw [hh, b01_f, if_pos rfl, bBo_statesRunHarder_25, w32_id (by omega), Int.add_zero]
      · rw [Bool.not_eq_true] at hpl
        rw [hpl, Bool.false_and, b01_f, if_pos rfl, bBo_statesRunHarder_25, w32_id (by omega), Int.add_zero]) acc () a0 (by omega)
    exact e
  have hnw : ((R 4 2).toNat : Int) = R 4 2 := by omega
  obtain ⟨z', e⟩ := sum_up (α := AV) (A := fun w acc z => At (d + 4) kBo_statesRunHarder 4 [vr 0 0, vi acc, vi w, z] [] M Q X) (f := fun w => cnP R (hrd R) w) (c := 124) (B := 1000000) (fun k => cnP_R k) (R 4 2).toNat (by
    intro w acc z w0 w1 a0 a1
    refine ⟨vi 125, ?_⟩
    show At _ _ _ _ _ _ _ _ = At _ _ _ _ _ _ _ _
    rw [bBo_statesRunHarder_4, e2, if_neg (by omega), bBo_statesRunHarder_9, inner w acc w0 (by omega) a0 (by omega), bBo_statesRunHarder_11, if_pos (by omega), bBo_statesRunHarder_27, w32_id (by omega)]) 0 JK (by omega) (by omega)
  rw [eBo_statesRunHarder, bBo_statesRunHarder_0]
  refine e.trans ?_
  show At _ _ _ _ _ _ _ _ = _
  rw [bBo_statesRunHarder_4, e2, if_pos (by omega), bBo_statesRunHarder_29, Int.zero_add]
  rfl
def lvB (R : RT) (s w x : Int) : Bool := decide (rwD R w x s = 4)
theorem c_statesLeftBy {M : Mem} {s : Int} (h : WR (rd M 0)) (hf : Full (rd M 0) 0 M) (hz : Bz 0 M) : Call (d + 5) qBo_statesLeftBy [vr 0 0, vi s] M Q X = Q (vi (cnA (rd M 0) (lvB (rd M 0) s))) M := by
  generalize hR : rd M 0 = R at *
  have hb := h.b
  have e2 : M.1 4 (rcB 0) 2 = R 4 2 := by rw [rcB_0, ← hR]; rfl
  have inner : ∀ w acc : Int, 1 ≤ w → w ≤ R 4 2 → 0 ≤ acc → acc ≤ 1000000 → At (d + 4) kBo_statesLeftBy 11 [vr 0 0, vi s, vi acc, vi w, vi 1] [] M Q X = At (d + 4) kBo_statesLeftBy 11 [vr 0 0, vi s, vi (acc + cnP R (lvB R s) w), vi w, vi 125] [] M Q X := by
    intro w acc w0 w1 a0 a1
    obtain ⟨_, e⟩ := sum_up (α := Unit) (A := fun x acc _ => At (d + 4) kBo_statesLeftBy 11 [vr 0 0, vi s, vi acc, vi w, vi x] [] M Q X) (f := fun x => b01 (plB R x && lvB R s w x)) (c := 1) (B := 1000124) (fun k => b01_R _) 124 (by
      intro x acc _ x0 x1 b0 b1
      refine ⟨(), ?_⟩
      show At _ _ _ _ _ _ _ _ = At _ _ _ _ _ _ _ _
      have hp : (if plainP R x then (1 : Int) else 0) = b01 (plB R x) := by unfold b01 plB; simp only [decide_eq_true_eq]
      rw [bBo_statesLeftBy_11, if_neg (by omega), bBo_statesLeftBy_14, rcB_0, c_isPlain (by rw [hR]; exact h) (by omega), KV_eq, bBo_statesLeftBy_18, hR, hp]
      by_cases hpl : plB R x = true
      · have hfit : fitsP R x := (of_decide_eq_true hpl).2.2.2
        have hr := hf.row hz (w := w) (x := x) (by omega) (by omega) (by omega) hfit
        rw [hpl, b01_t, if_neg (by omega), bBo_statesLeftBy_19, c_doingAt (by omega) (by omega) (by rw [hr]; exact rwX_R), KV_eq, bBo_statesLeftBy_24, hr, rwX_D, Bool.true_and]
        unfold lvB b01
        simp only [decide_eq_true_eq]
        by_cases hh : rwD R w x s = 4
        · rw [if_neg (fun z => z hh), if_pos hh, bBo_statesLeftBy_26, bBo_statesLeftBy_27, w32_id (by omega), w32_id (by omega)]
        · rw [if_pos hh, if_neg hh, bBo_statesLeftBy_27, w32_id (by omega), Int.add_zero]
      · rw [Bool.not_eq_true] at hpl
        rw [hpl, Bool.false_and, b01_f, if_pos rfl, bBo_statesLeftBy_27, w32_id (by omega), Int.add_zero]) acc () a0 (by omega)
    exact e
  have hnw : ((R 4 2).toNat : Int) = R 4 2 := by omega
  obtain ⟨z', e⟩ := sum_up (α := AV) (A := fun w acc z => At (d + 4) kBo_statesLeftBy 4 [vr 0 0, vi s, vi acc, vi w, z] [] M Q X) (f := fun w => cnP R (lvB R s) w) (c := 124) (B := 1000000) (fun k => cnP_R k) (R 4 2).toNat (by
    intro w acc z w0 w1 a0 a1
    refine ⟨vi 125, ?_⟩
    show At _ _ _ _ _ _ _ _ = At _ _ _ _ _ _ _ _
    rw [bBo_statesLeftBy_4, e2, if_neg (by omega), bBo_statesLeftBy_9, inner w acc w0 (by omega) a0 (by omega), bBo_statesLeftBy_11, if_pos (by omega), bBo_statesLeftBy_29, w32_id (by omega)]) 0 JK (by omega) (by omega)
  rw [eBo_statesLeftBy, bBo_statesLeftBy_0]
  refine e.trans ?_
  show At _ _ _ _ _ _ _ _ = _
  rw [bBo_statesLeftBy_4, e2, if_pos (by omega), bBo_statesLeftBy_31, Int.zero_add]
  rfl
/-- the first that is so, from the first week on -/
def bh1 (R : RT) (F : Int → Int → Bool) (w : Int) : Int := fs2 (fun x => plB R x && F w x) 1 124
def bhF (R : RT) (F : Int → Int → Bool) : Nat → Int
  | 0 => -1
  | n + 1 => if bh1 R F ((n : Int) + 1) = -1 then bhF R F n else 1000 * ((n : Int) + 1) + dg (bh1 R F ((n : Int) + 1)) 0 + 10 * dg (bh1 R F ((n : Int) + 1)) 1 + 100 * dg (bh1 R F ((n : Int) + 1)) 2
theorem c_firstRunHarder {M : Mem} (h : WR (rd M 0)) (hf : Full (rd M 0) 0 M) (hz : Bz 0 M) : Call (d + 5) qBo_firstRunHarder [vr 0 0] M Q X = Q (vi (bhF (rd M 0) (hrd (rd M 0)) (rd M 0 4 2).toNat)) M := by
  generalize hR : rd M 0 = R at *
  have hb := h.b
  have e2 : M.1 4 (rcB 0) 2 = R 4 2 := by rw [rcB_0, ← hR]; rfl
  have inner : ∀ w : Int, 1 ≤ w → w ≤ R 4 2 → At (d + 4) kBo_firstRunHarder 9 [vr 0 0, vi w, vi 1] [] M Q X = if bh1 R (hrd R) w = -1 then At (d + 4) kBo_firstRunHarder 4 [vr 0 0, vi (w - 1), vi 125] [] M Q X else Q (vi (1000 * w + dg (bh1 R (hrd R) w) 0 + 10 * dg (bh1 R (hrd R) w) 1 + 100 * dg (bh1 R (hrd R) w) 2)) M := by
    intro w w0 w1
    refine find_eq (α := Unit) (A := fun x _ => At (d + 4) kBo_firstRunHarder 9 [vr 0 0, vi w, vi x] [] M Q X) (G := fun x => Q (vi (1000 * w + dg x 0 + 10 * dg x 1 + 100 * dg x 2)) M) 124 1 (by omega) ?_ ?_ ()
    · intro x _ x0 x1
      refine ⟨(), ?_⟩
      have ex : w32 (x + 1) = x + 1 := w32_id (by omega)
      show At _ _ _ _ _ _ _ _ = _
      have hp : (if plainP R x then (1 : Int) else 0) = b01 (plB R x) := by unfold b01 plB; simp only [decide_eq_true_eq]
      rw [bBo_firstRunHarder_9, if_neg (by omega), bBo_firstRunHarder_12, rcB_0, c_isPlain (by rw [hR]; exact h) (by omega), KV_eq, bBo_firstRunHarder_16, hR, hp]
      by_cases hpl : plB R x = true
      · have hfit : fitsP R x := (of_decide_eq_true hpl).2.2.2
        rw [hpl, b01_t, if_neg (by omega), bBo_firstRunHarder_17, c_isRunHarder (by rw [hR]; exact h) (by omega) (by omega) (by rw [hR]; exact hf.row hz (by omega) (by omega) (by omega) hfit), KV_eq, bBo_firstRunHarder_21, hR, Bool.true_and]
        by_cases hh : hrd R w x = true
        · have g0 := dg_R x 0
          have g1 := dg_R x 1
          have g2 := dg_R x 2
          rw [hh, b01_t, if_neg (by omega), if_pos rfl, bBo_firstRunHarder_22, c_stepsIn (by omega), KV_eq, bBo_firstRunHarder_28, c_stepsIn (by omega), KV_eq, bBo_firstRunHarder_33, c_stepsIn (by omega), KV_eq, bBo_firstRunHarder_39]
          rw [w32_id (z := 1000 * w) (by omega), w32_id (z := 10 * dg x 1) (by omega), w32_id (z := 100 * dg x 2) (by omega), w32_id (z := 1000 * w + dg x 0) (by omega), w32_id (z := 1000 * w + dg x 0 + 10 * dg x 1) (by omega), w32_id (by omega)]
        · rw [Bool.not_eq_true] at hh
          rw [hh, b01_f, if_pos rfl, if_neg (by simp), bBo_firstRunHarder_42, ex]
      · rw [Bool.not_eq_true] at hpl
        rw [hpl, Bool.false_and, b01_f, if_pos rfl, if_neg (by simp), bBo_firstRunHarder_42, ex]
    · intro _
      show At _ _ _ _ _ _ _ _ = _
      rw [bBo_firstRunHarder_9, if_pos (by omega), bBo_firstRunHarder_44, show w + -1 = w - 1 by omega, w32_id (by omega)]
      rfl
  have key : ∀ (n : Nat) (z : AV), (n : Int) ≤ R 4 2 → At (d + 4) kBo_firstRunHarder 4 [vr 0 0, vi (n : Int), z] [] M Q X = Q (vi (bhF R (hrd R) n)) M := by
    intro n
    induction n with
    | zero => intro z _; rw [bBo_firstRunHarder_4, if_pos (by omega), bBo_firstRunHarder_46]; rfl
    | succ n ih =>
      intro z hn
      rw [bBo_firstRunHarder_4, if_neg (by omega), bBo_firstRunHarder_7, show ((n + 1 : Nat) : Int) = (n : Int) + 1 by omega, inner ((n : Int) + 1) (by omega) (by omega)]
      show _ = Q (vi (if bh1 R (hrd R) ((n : Int) + 1) = -1 then bhF R (hrd R) n else _)) M
      by_cases hc : bh1 R (hrd R) ((n : Int) + 1) = -1
      · rw [if_pos hc, if_pos hc, show (n : Int) + 1 - 1 = (n : Int) by omega]; exact ih _ (by omega)
      · rw [if_neg hc, if_neg hc]
  rw [eBo_firstRunHarder, bBo_firstRunHarder_0, e2, show R 4 2 = ((R 4 2).toNat : Int) by omega, key _ _ (by omega), Int.toNat_natCast]
end
