/-! LAYER 3, HOW LARGE WORTHS ARE; A GAIN IS NOT BELOW 0 -/
def bdW (n w : Int) : Int := scI n w * (10009 + 198 * w)
def Bd (z : Int64) (B : Int) : Prop := -B ≤ z.toInt ∧ z.toInt ≤ B
theorem toI_of {z : Int} (h : -9000000000000000000 ≤ z ∧ z ≤ 9000000000000000000) : (Int64.ofInt z).toInt = z := by
  rw [Int64.toInt_ofInt]
  exact Int.bmod_eq_of_le (by simp [Int64.size]; omega) (by simp [Int64.size]; omega)
theorem prt_R {R : RT} (h : WR R) {i v x : Int} : 0 ≤ prt R i v x ∧ prt R i v x ≤ 10009 := by
  have hb := h.b
  have h1 := bct_R v
  have h2 : 0 ≤ sme x i ∧ sme x i ≤ 3 := by
    unfold sme
    repeat' split
    all_goals omega
  unfold prt
  split
  · rcases (by omega : bct v = 0 ∨ bct v = 1 ∨ bct v = 2 ∨ bct v = 3) with e | e | e | e <;> rw [e] <;> omega
  · split
    · omega
    · rcases (by omega : sme x i = 0 ∨ sme x i = 1 ∨ sme x i = 2 ∨ sme x i = 3) with e | e | e | e <;> rw [e] <;> omega
theorem bdW_R {n w : Int} (hn : 0 ≤ n ∧ n ≤ 3) (hw : 0 ≤ w ∧ w ≤ 6) : 0 ≤ bdW n w ∧ bdW n w ≤ 800000000000000 := by
  have := scI_R hn hw
  unfold bdW
  refine ⟨Int.mul_nonneg (by omega) (by omega), ?_⟩
  have : scI n w * (10009 + 198 * w) ≤ 68719476736 * 11197 := Int.mul_le_mul (by omega) (by omega) (by omega) (by omega)
  omega
/-- one of the things that can come of a week -/
theorem tm_b {R : RT} (h : WR R) {V : Int → Int → Int64} {w x d0 d1 d2 m i : Int} (hw : 1 ≤ w ∧ w ≤ 6) (hf : fitsP R x) (hi : 0 ≤ i ∧ i < 3) (hV : ∀ y : Int, 0 ≤ y → y < 125 → fitsP R y → Bd (V y i) (bdW (R 4 1) (w - 1))) : Bd (tm R V w x d0 d1 d2 m i) (bdW (R 4 1) (w - 1)) := by
  have hb := h.b
  have hS := scI_R (n := R 4 1) (w := w - 1) (by omega) (by omega)
  have c0 := md_R (d := d0) (bit_R m 0)
  have c1 := md_R (d := d1) (bit_R m 1)
  have c2 := md_R (d := d2) (bit_R m 2)
  have hfa := fits_aft hf (a := md d0 (bit m 0)) (b := md d1 (bit m 1)) (c := md d2 (bit m 2)) (by omega) (by omega) (by omega)
  obtain ⟨e0, e1, e2⟩ := dr_mm (a := md d0 (bit m 0)) (b := md d1 (bit m 1)) (c := md d2 (bit m 2)) (by omega) (by omega) (by omega)
  have har := aft_R (x := x) (m := mm (md d0 (bit m 0)) (md d1 (bit m 1)) (md d2 (bit m 2))) (by omega) (by omega) (by omega)
  unfold tm EE
  split
  · exact hV _ har.1 har.2 hfa
  · have hp := prt_R h (i := i) (v := won x (mm (md d0 (bit m 0)) (md d1 (bit m 1)) (md d2 (bit m 2)))) (x := aft x (mm (md d0 (bit m 0)) (md d1 (bit m 1)) (md d2 (bit m 2))))
    generalize prt R i (won x (mm (md d0 (bit m 0)) (md d1 (bit m 1)) (md d2 (bit m 2)))) (aft x (mm (md d0 (bit m 0)) (md d1 (bit m 1)) (md d2 (bit m 2)))) = pr at *
    have h1 : 0 ≤ scI (R 4 1) (w - 1) * pr := Int.mul_nonneg (by omega) hp.1
    have h2 : scI (R 4 1) (w - 1) * pr ≤ scI (R 4 1) (w - 1) * (10009 + 198 * (w - 1)) := Int.mul_le_mul_of_nonneg_left (by omega) (by omega)
    have h3 := bdW_R (n := R 4 1) (w := w - 1) (by omega) (by omega)
    have h2' : scI (R 4 1) (w - 1) * pr ≤ bdW (R 4 1) (w - 1) := h2
    rw [sc_I, ← ofI_mul]
    unfold Bd
    rw [toI_of (by omega)]
    omega
theorem sT_b {R : RT} (h : WR R) {V : Int → Int → Int64} {w x d0 d1 d2 i : Int} (hw : 1 ≤ w ∧ w ≤ 6) (hf : fitsP R x) (hi : 0 ≤ i ∧ i < 3) (hV : ∀ y : Int, 0 ≤ y → y < 125 → fitsP R y → Bd (V y i) (bdW (R 4 1) (w - 1))) (hd0 : 0 ≤ d0 ∧ d0 < 5) (hd1 : 0 ≤ d1 ∧ d1 < 5) (hd2 : 0 ≤ d2 ∧ d2 < 5) :
    ∀ k : Nat, ∃ z : Int, sT R V w x d0 d1 d2 i k = Int64.ofInt z ∧ -(198 * scI (R 4 1) w + sumN (wI R w x (mm d0 d1 d2)) k * bdW (R 4 1) (w - 1)) ≤ z ∧ z ≤ 198 * scI (R 4 1) w + sumN (wI R w x (mm d0 d1 d2)) k * bdW (R 4 1) (w - 1)
  | 0 => by
    have hb := h.b
    have hS := scI_R (n := R 4 1) (w := w) (by omega) (by omega)
    have hd : 0 ≤ (if i = 0 then d0 else if i = 1 then d1 else d2) ∧ (if i = 0 then d0 else if i = 1 then d1 else d2) < 5 := by
      split
      · exact hd0
      · split
        · exact hd1
        · exact hd2
    have hc := h.cst i _ hi hd
    refine ⟨-(scI (R 4 1) w * cst R i (if i = 0 then d0 else if i = 1 then d1 else d2)), ?_, ?_⟩
    · show -(sc (R 4 1) w) * Int64.ofInt _ = _
      rw [sc_I, Int64.ofInt_neg, ofI_mul, Int64.neg_mul]
    · generalize cst R i (if i = 0 then d0 else if i = 1 then d1 else d2) = c at *
      have h1 : 0 ≤ scI (R 4 1) w * c := Int.mul_nonneg (by omega) hc.1
      have h2 : scI (R 4 1) w * c ≤ scI (R 4 1) w * 198 := Int.mul_le_mul_of_nonneg_left hc.2 (by omega)
      show -(198 * scI (R 4 1) w + 0 * _) ≤ _ ∧ _ ≤ 198 * scI (R 4 1) w + 0 * _
      rw [Int.zero_mul]; omega
  | k + 1 => by
    obtain ⟨z, e, a, b⟩ := sT_b h (V := V) (w := w) (x := x) (d0 := d0) (d1 := d1) (d2 := d2) (i := i) hw hf hi hV hd0 hd1 hd2 k
    have ht := tm_b h (V := V) (w := w) (x := x) (d0 := d0) (d1 := d1) (d2 := d2) (m := (k : Int)) (i := i) hw hf hi hV
    have hwI := wI_R h (w := w) (x := x) (r := mm d0 d1 d2) (m := (k : Int))
    obtain ⟨q0, q1, q2⟩ := dr_mm hd0 hd1 hd2
    have hg := wgt_I (R := R) (w := w) (x := x) (r := mm d0 d1 d2) (m := (k : Int))
    rw [q0, q1, q2] at hg
    have es : sumN (wI R w x (mm d0 d1 d2)) (k + 1) = sumN (wI R w x (mm d0 d1 d2)) k + wI R w x (mm d0 d1 d2) (k : Int) := rfl
    refine ⟨z + wI R w x (mm d0 d1 d2) (k : Int) * (tm R V w x d0 d1 d2 (k : Int) i).toInt, ?_, ?_⟩
    · show sT R V w x d0 d1 d2 i k + wgt (R 4 1) (k : Int) _ _ _ * tm R V w x d0 d1 d2 (k : Int) i = _
      rw [e, hg, ofI_add, ofI_mul, Int64.ofInt_toInt]
    · generalize tm R V w x d0 d1 d2 (k : Int) i = t at *
      generalize wI R w x (mm d0 d1 d2) (k : Int) = c at *
      obtain ⟨t1, t2⟩ := ht
      have h1 : c * t.toInt ≤ c * bdW (R 4 1) (w - 1) := Int.mul_le_mul_of_nonneg_left t2 hwI.1
      have h2 : c * (-bdW (R 4 1) (w - 1)) ≤ c * t.toInt := Int.mul_le_mul_of_nonneg_left t1 hwI.1
      rw [Int.mul_neg] at h2
      rw [es, Int.add_mul]; omega
theorem G0_b {R : RT} (h : WR R) (hn1 : 1 ≤ R 4 1) {V : Int → Int → Int64} {w x r i : Int} (hw : 1 ≤ w ∧ w ≤ 6) (hf : fitsP R x) (hi : 0 ≤ i ∧ i < 3) (hV : ∀ y j : Int, 0 ≤ j → j < 3 → 0 ≤ y → y < 125 → fitsP R y → Bd (V y j) (bdW (R 4 1) (w - 1)) ∧ (dg y j = 0 → V y j = 0)) (hr : okR R w x r = true) : Bd (rG R V w x r i) (bdW (R 4 1) w) := by
  have hb := h.b
  have hS := scI_R (n := R 4 1) (w := w) (by omega) (by omega)
  have hB := bdW_R (n := R 4 1) (w := w) (by omega) (by omega)
  have q0 := dr_R r 0
  have q1 := dr_R r 1
  have q2 := dr_R r 2
  obtain ⟨c0, c1, c2⟩ := ok_of hr
  by_cases hin : i < R 4 1
  · have hs : sT R V w x (dr r 0) (dr r 1) (dr r 2) i (pw (R 4 1)).toNat = rG R V w x r i := by
      unfold rG
      rcases (by omega : R 4 1 = 1 ∨ R 4 1 = 2 ∨ R 4 1 = 3) with e | e | e
      · have z1 := can_nin h hf (s := 1) (by omega) (by omega) (by omega) c1
        have z2 := can_nin h hf (s := 2) (by omega) (by omega) (by omega) c2
        rw [z1, z2, e]; exact sT1 e hw (by omega)
      · have z2 := can_nin h hf (s := 2) (by omega) (by omega) (by omega) c2
        rw [z2, e]; exact sT2 e hw (by omega)
      · rw [e]; exact sT3 e hw (by omega)
    obtain ⟨z, e, a, b⟩ := sT_b h (V := V) (w := w) (x := x) (d0 := dr r 0) (d1 := dr r 1) (d2 := dr r 2) (i := i) hw hf hi (fun y y0 y1 hy => (hV y i hi.1 hi.2 y0 y1 hy).1) (by omega) (by omega) (by omega) (pw (R 4 1)).toNat
    rw [hs] at e
    rw [wS ⟨hn1, by omega⟩] at a b
    have hk : 198 * scI (R 4 1) w + p4 (R 4 1) * bdW (R 4 1) (w - 1) = bdW (R 4 1) w := by
      unfold bdW
      rw [← Int.mul_assoc, ← scI_s (by omega) hw, ← Int.mul_comm, ← Int.mul_add]; congr 1; omega
    rw [hk] at a b
    rw [e]; unfold Bd
    rw [toI_of (by omega)]; exact ⟨a, b⟩
  · have hz : dg x i = 0 := nin_of h hf hi.1 hi.2 (by omega)
    have : rG R V w x r i = 0 := G0_zero h hf hz hi (fun y y0 y1 hy hd => (hV y i hi.1 hi.2 y0 y1 hy).2 hd) c0 c1 c2
    rw [this]
    show -bdW (R 4 1) w ≤ (0 : Int) ∧ (0 : Int) ≤ bdW (R 4 1) w
    omega
theorem Wf_b {R : RT} (h : WR R) (hn1 : 1 ≤ R 4 1) : ∀ (k : Nat) (y i : Int), k ≤ 6 → 0 ≤ i → i < 3 → 0 ≤ y → y < 125 → fitsP R y → Bd (Wf R k y i) (bdW (R 4 1) (k : Int))
  | 0, y, i, _, _, _, _, _, _ => by
    have hb := h.b
    have := bdW_R (n := R 4 1) (w := ((0 : Nat) : Int)) (by omega) (by omega)
    show -bdW (R 4 1) ((0 : Nat) : Int) ≤ (0 : Int) ∧ (0 : Int) ≤ bdW (R 4 1) ((0 : Nat) : Int)
    omega
  | k + 1, y, i, hk, i0, i3, y0, y1, hf => by
    have hb := h.b
    have hB := bdW_R (n := R 4 1) (w := ((k + 1 : Nat) : Int)) (by omega) (by omega)
    show Bd (if y = 0 then 0 else rG R (Wf R k) ((k + 1 : Nat) : Int) y (rowS R (Wf R k) ((k + 1 : Nat) : Int) y) i) _
    by_cases hy : y = 0
    · rw [if_pos hy]
      show -bdW (R 4 1) ((k + 1 : Nat) : Int) ≤ (0 : Int) ∧ (0 : Int) ≤ bdW (R 4 1) ((k + 1 : Nat) : Int)
      omega
    · rw [if_neg hy]
      refine G0_b h hn1 (by omega) hf ⟨i0, i3⟩ (fun y' j j0 j3 a b c => ⟨?_, fun hd => Wf_zero h k y' j j0 j3 a b c hd⟩) rowS_ok
      have := Wf_b h hn1 k y' j (by omega) j0 j3 a b c
      rwa [show ((k + 1 : Nat) : Int) - 1 = (k : Int) by omega]
/-- a gain is not below 0 -/
theorem gn_nn {R : RT} (h : WR R) (hn1 : 1 ≤ R 4 1) {w x : Int} (hw : 1 ≤ w ∧ w ≤ 6) (hf : fitsP R x) : 0 ≤ (Gnf R w x).toInt := by
  have hb := h.b
  have hB := bdW_R (n := R 4 1) (w := w) (by omega) (by omega)
  have hV : ∀ y j : Int, 0 ≤ j → j < 3 → 0 ≤ y → y < 125 → fitsP R y → Bd (Wf R (w - 1).toNat y j) (bdW (R 4 1) (w - 1)) ∧ (dg y j = 0 → Wf R (w - 1).toNat y j = 0) := fun y j j0 j3 a b c => by
    refine ⟨?_, fun hd => Wf_zero h _ y j j0 j3 a b c hd⟩
    have := Wf_b h hn1 (w - 1).toNat y j (by omega) j0 j3 a b c
    rwa [show (((w - 1).toNat : Nat) : Int) = w - 1 by omega] at this
  have hok := rowS_ok (R := R) (V := Wf R (w - 1).toNat) (w := w) (x := x)
  have hrR := rowS_R (R := R) (V := Wf R (w - 1).toNat) (w := w) (x := x)
  unfold Gnf Rwf
  generalize Wf R (w - 1).toNat = V at *
  generalize rowS R V w x = r at *
  have hone : ∀ s : Int, 0 ≤ s → s < 3 → ∃ z : Int, mSR R V w x s (oP r s) (oQ r s) - rG R V w x r s = Int64.ofInt z ∧ 0 ≤ z ∧ z ≤ 2 * bdW (R 4 1) w := by
    intro s s0 s3
    have hself : swp r s (dr r s) = r := by
      have := swp_v (r := r) (s := s) (e := dr r s) (by omega) ⟨s0, s3⟩
      omega
    have hds := dr_R r s
    have hcs : canP R w x s (dr r s) := by
      obtain ⟨c0, c1, c2⟩ := ok_of hok
      rcases (by omega : s = 0 ∨ s = 1 ∨ s = 2) with rfl | rfl | rfl
      · exact c0
      · exact c1
      · exact c2
    have hmx := mst_max (c := cB R w x s) (f := fun e => rG R V w x (ix s (oP r s) (oQ r s) e) s) (decide_eq_true (Or.inl rfl)) 4
    have hge := hmx.1 (dr r s) hds.1 (by omega) (decide_eq_true hcs)
    obtain ⟨e, e0, e4, ec, em⟩ := hmx.2
    have hb1 := G0_b h hn1 (V := V) (i := s) hw hf ⟨s0, s3⟩ hV hok
    have hb2 : Bd (mSR R V w x s (oP r s) (oQ r s)) (bdW (R 4 1) w) := by
      unfold mSR
      rw [em]
      exact G0_b h hn1 (V := V) (i := s) hw hf ⟨s0, s3⟩ hV (swp_ok ⟨s0, s3⟩ ⟨e0, by omega⟩ hok (of_decide_eq_true ec))
    have hge' : (rG R V w x r s).toInt ≤ (mSR R V w x s (oP r s) (oQ r s)).toInt := by
      have : rG R V w x (ix s (oP r s) (oQ r s) (dr r s)) s = rG R V w x r s := by
        show rG R V w x (swp r s (dr r s)) s = _
        rw [hself]
      rw [← this]; exact hge
    refine ⟨(mSR R V w x s (oP r s) (oQ r s)).toInt - (rG R V w x r s).toInt, ?_, by omega, ?_⟩
    · rw [ofI_sub, Int64.ofInt_toInt, Int64.ofInt_toInt]
    · unfold Bd at hb1 hb2; omega
  obtain ⟨z0, e0, a0, b0⟩ := hone 0 (by omega) (by omega)
  obtain ⟨z1, e1, a1, b1⟩ := hone 1 (by omega) (by omega)
  obtain ⟨z2, e2, a2, b2⟩ := hone 2 (by omega) (by omega)
  have e : gnR R V w x r = Int64.ofInt (0 + z0 + z1 + z2) := by
    rw [ofI_add, ofI_add, ofI_add, ← e0, ← e1, ← e2]; rfl
  rw [e, toI_of (by omega)]; omega
