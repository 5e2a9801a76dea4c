/-! LAYER 3, WHEN ONE MAY LEAVE, IN THE REFERENCE -/
theorem hl_of {B : BT} {n : Nat} {R D : RT} {T : TT} {M : Mem} (hn : n ≤ 500) (hR : RDd D T R) (hT : TG B n T) (h11 : M.1 10 0 11 = (n : Int)) (hB : ∀ j : Nat, j < n → M.1 55 0 j = B j) (h19 : M.1 10 0 19 = wh (T 1))
    (hx : ∀ p b s : Int, Sta R p b → Gng p b → 0 ≤ s → s < 3 → bit b s = 1 → (1 ≤ dg p s ∧ dg p s ≤ 4) ∧ ((1 ≤ nxm p b s ∧ nxm p b s ≤ 4) ∨ nxm p b s = 9)) : HL R M := by
  intro M' Q X d w p b s ht hMR hS hg w1 w6 s0 s3 hbit hq
  have e19 : M'.1 10 0 19 = wh (T 1) := ht.2.2.2.trans h19
  obtain ⟨ho, hnx⟩ := hx p b s hS hg s0 s3 hbit
  have elv : lvs R w (spl (dg p s) (nxm p b s)) = lvT T w (dg p s) (nxm p b s) := by
    generalize dg p s = o at *
    generalize nxm p b s = x at *
    obtain ⟨on, rfl⟩ : ∃ on : Nat, o = (on : Int) := ⟨o.toNat, by omega⟩
    obtain ⟨wn, rfl⟩ : ∃ wn : Nat, w = (wn : Int) := ⟨w.toNat, by omega⟩
    obtain ⟨k, hk, hk5⟩ : ∃ k : Nat, nx9 k = x ∧ k < 5 := by
      by_cases e9 : x = 9
      · exact ⟨0, by unfold nx9; rw [if_pos rfl, e9], by omega⟩
      · exact ⟨x.toNat, by unfold nx9; rw [if_neg (by omega)]; omega, by omega⟩
    have := hR.2.2.1 wn on k (by omega) (by omega) (by omega) (by omega) hk5
    rw [hk] at this
    have es : spl (on : Int) x = ((on * 5 + k : Nat) : Int) := by rw [← hk]; unfold spl nx9; split <;> split <;> omega
    unfold lvs
    rw [es, show ((wn : Int) * 25 + ((on * 5 + k : Nat) : Int)).toNat = wn * 25 + (on * 5 + k) by omega]
    exact this
  rw [elv] at hq
  cases hTi : T 1 with
  | none =>
    rw [hTi] at e19
    have e19' : M'.1 10 0 19 = -1 := e19
    rw [e19']
    refine Call_up (d := d + 1) (show d + 1 ≤ d + 60 by omega) ?_
    rw [eMo_holds, bMo_holds_0, if_neg (fun z => z rfl), bMo_holds_3]
    have := hq M' Fs.rf
    unfold lvT at this
    rw [hTi] at this
    exact this
  | some y =>
    obtain ⟨k0, r⟩ := y
    obtain ⟨hk0, k', hp⟩ := hT 1 k0 r hTi
    rw [hTi] at e19
    have e19' : M'.1 10 0 19 = (k0 : Int) := e19
    rw [e19']
    refine Call_up (d := d + 54) (show d + 54 ≤ d + 60 by omega) (m_holds hn hMR hR.1 hS (ht.2.1.trans h11) (fun j hj => (ht.1 j).trans (hB j hj)) hk0 hp ?_)
    intro M2 f2
    have el : lvT T w (dg p s) (nxm p b s) = if r.2 (dg p s) (nxm p b s) w ≠ 0 then 1 else 0 := by unfold lvT; rw [hTi]
    have ev : (if lvT T w (dg p s) (nxm p b s) ≠ 0 then (1 : Int) else 0) = if r.2 (dg p s) (nxm p b s) w ≠ 0 then 1 else 0 := by
      by_cases hv : r.2 (dg p s) (nxm p b s) w = 0
      · rw [if_neg (show ¬ (r.2 (dg p s) (nxm p b s) w ≠ 0) from fun z => z hv)] at el ⊢
        rw [el]; rfl
      · rw [if_pos (show r.2 (dg p s) (nxm p b s) w ≠ 0 from hv)] at el ⊢
        rw [el]; rfl
    rw [← ev]
    exact hq M2 f2
