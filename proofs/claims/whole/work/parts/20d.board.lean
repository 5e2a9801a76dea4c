/-! LAYER 3, A BOARD: its readers -/
theorem c_placeOf {d : Nat} {M Q X} {w x : Int} (hw : 0 ≤ w ∧ w ≤ 6) (hx : 0 ≤ x ∧ x < 125) : Call (d + 1) qBo_placeOf [vi w, vi x] M Q X = Q (vi (w * 125 + x)) M := by
  simp (disch := first | omega | (simp (disch := omega) only [w32_id]; omega)) only [bBo_placeOf_0, bBo_placeOf_2, bBo_placeOf_5, bBo_placeOf_7, bBo_placeOf_10, bBo_placeOf_16, bBo_placeOf_17, eBo_placeOf, if_neg, w32_id]
theorem c_rowAt {d : Nat} {M Q X} {b : Nat} {w x : Int} (hw : 0 ≤ w ∧ w ≤ 6) (hx : 0 ≤ x ∧ x < 125) : Call (d + 2) qBo_rowAt [vr 0 b, vi w, vi x] M Q X = Q (vi (M.1 20 b (w * 125 + x).toNat)) M := by
  simp (disch := first | omega | (simp (disch := omega) only [w32_id]; omega)) only [bBo_rowAt_0, bBo_rowAt_5, eBo_rowAt, c_placeOf, KV_eq]
theorem c_gainAt {d : Nat} {M Q X} {b : Nat} {w x : Int} (hw : 0 ≤ w ∧ w ≤ 6) (hx : 0 ≤ x ∧ x < 125) : Call (d + 2) qBo_gainAt [vr 0 b, vi w, vi x] M Q X = Q (vl (M.2 21 b (w * 125 + x).toNat)) M := by
  simp (disch := first | omega | (simp (disch := omega) only [w32_id]; omega)) only [bBo_gainAt_0, bBo_gainAt_5, eBo_gainAt, c_placeOf, KV_eq]
theorem c_doingAt {d : Nat} {M Q X} {b : Nat} {w x s : Int} (hw : 0 ≤ w ∧ w ≤ 6) (hx : 0 ≤ x ∧ x < 125) (hr : 0 ≤ M.1 20 b (w * 125 + x).toNat ∧ M.1 20 b (w * 125 + x).toNat < 125) : Call (d + 3) qBo_doingAt [vr 0 b, vi w, vi x, vi s] M Q X = Q (vi (dr (M.1 20 b (w * 125 + x).toNat) s)) M := by
  simp (disch := first | omega | (simp (disch := omega) only [w32_id]; omega)) only [bBo_doingAt_0, bBo_doingAt_4, bBo_doingAt_6, eBo_doingAt, c_rowAt, c_doingIn, KV_eq]
theorem c_worthAt {d : Nat} {M Q X} {b : Nat} {w x s : Int} (hw : 0 ≤ w ∧ w ≤ 6) (hx : 0 ≤ x ∧ x < 125) (hs : 0 ≤ s ∧ s < 3) : Call (d + 2) qBo_worthAt [vr 0 b, vi w, vi x, vi s] M Q X = Q (vl (M.2 22 b ((w * 125 + x) * 3 + s).toNat)) M := by
  simp (disch := first | omega | (simp (disch := omega) only [w32_id]; omega)) only [bBo_worthAt_0, bBo_worthAt_2, bBo_worthAt_5, bBo_worthAt_10, bBo_worthAt_16, bBo_worthAt_17, eBo_worthAt, if_neg, c_placeOf, KV_eq, w32_id]
