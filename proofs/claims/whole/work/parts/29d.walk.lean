/-! LAYER 3, WHAT GOES BY: the class, all weeks -/
abbrev pWh (b : Nat) (t i _ : Nat) : Prop := pOp b t i ∨ (t = 47 ∧ i = b) ∨ (t = 1 ∧ i = 0) ∨ (t = 25 ∧ i = 0) ∨ (t = 26 ∧ i = 0)
theorem wg_wh {b : Nat} {w : Int} {t i j : Nat} (h : pWg b w t i j) : pWh b t i j := by unfold pWg pWf at h; omega
theorem wh_no {b t i j : Nat} (h : pWh b t i j) : ¬ (t = 4 ∨ 33 ≤ t ∧ t ≤ 38) ∧ ¬ (20 ≤ t ∧ t ≤ 24) ∧ t ≠ 9 ∧ t ≠ 0 ∧ t ≠ 27 := by unfold pWh pOp at h; omega
/-- what is worth counting from the beginning on -/
def phW (R : RT) (q : Nat) : Int := phi R q (R 4 2).toNat (bgn R)
theorem Wk.init {K : Nat} {f g : Nat → Int → Int} {S S' T : Int} {Z : Nat → Int} {u : Int → Int} {A : Nat → Int} (h1 : ∀ q, A q + sumN (fun x => u x * f q x) K = Z q) (h2 : sumN u K * S ≤ T) : Wk K f g S S' T Z u 0 (A, fun _ => 0) := by
  refine ⟨fun q => ?_, ?_, fun x _ _ => by show (0 : Int) ≤ 0; omega⟩
  · have e : sumN (fun x => (0 : Int) * g q x) K = 0 := sumN_z K (fun x _ _ => Int.zero_mul _)
    show A q + (_ - 0) + sumN (fun x => (0 : Int) * g q x) K = Z q
    rw [e, ← h1 q]; omega
  · have e : sumN (fun _ => (0 : Int)) K = 0 := sumN_z K (fun x _ _ => rfl)
    show (sumN u K - 0) * S + sumN (fun _ => (0 : Int)) K * S' ≤ T
    rw [e, Int.zero_mul, Int.sub_zero, Int.add_zero]; exact h2
theorem Wk.fin {K : Nat} {f g : Nat → Int → Int} {S S' T : Int} {Z : Nat → Int} {u : Int → Int} {G : GS} (h : Wk K f g S S' T Z u (K : Int) G) : (∀ q, G.1 q + sumN (fun x => G.2 x * g q x) K = Z q) ∧ sumN G.2 K * S' ≤ T := by
  obtain ⟨h1, h2, -⟩ := h
  rw [show ((K : Int)).toNat = K by omega] at h2
  refine ⟨fun q => ?_, ?_⟩
  · have := h1 q
    rw [show ((K : Int)).toNat = K by omega] at this
    omega
  · rw [Int.sub_self, Int.zero_mul] at h2; omega
section
variable {d : Nat} {Q : AV → Mem → Prop} {X : Nat → Mem → Prop}
theorem c_clearWalk {M : Mem} (hq : ∀ M', Fs (fun t i _ => (t = 1 ∨ t = 25 ∨ t = 26) ∧ i = 0) M M' → (∀ s : Int, 0 ≤ s → s < 3 → M'.2 25 0 s.toNat = 0) → (∀ j : Int, 0 ≤ j → j < 875 → M'.2 26 0 j.toNat = 0) → M'.2 1 0 2 = 0 → M'.2 1 0 3 = 0 → Q (vi 0) M') : Call (d + 1) qCo_clearWalk [vr 1 0] M Q X := by
  rw [eCo_clearWalk, bCo_clearWalk_0]
  refine loop_up (fun s M' => At d kCo_clearWalk 2 [vr 1 0, vi s] [] M' Q X) (fun s M' => Fs (fun t i _ => (t = 1 ∨ t = 25 ∨ t = 26) ∧ i = 0) M M' ∧ ∀ e : Int, 0 ≤ e → e < s → M'.2 25 0 e.toNat = 0) 0 3 ?_ ?_ 0 M (by omega) (by omega) ⟨Fs.rf, fun e a b => by omega⟩
  · rintro M1 ⟨f1, r1⟩
    show At _ _ _ _ _ _ _ _
    rw [bCo_clearWalk_2, if_pos (by omega), bCo_clearWalk_12]
    refine loop_up (fun s M' => At d kCo_clearWalk 14 [vr 1 0, vi s] [] M' Q X) (fun s M' => Fs (fun t i _ => (t = 1 ∨ t = 25 ∨ t = 26) ∧ i = 0) M M' ∧ (∀ e : Int, 0 ≤ e → e < 3 → M'.2 25 0 e.toNat = 0) ∧ ∀ e : Int, 0 ≤ e → e < s → M'.2 26 0 e.toNat = 0) 0 875 ?_ ?_ 0 M1 (by omega) (by omega) ⟨f1, r1, fun e a b => by omega⟩
    · rintro M2 ⟨f2, r2, s2⟩
      show At _ _ _ _ _ _ _ _
      rw [bCo_clearWalk_14, if_pos (by omega), bCo_clearWalk_26]
      refine hq _ ((f2.sL ⟨Or.inl rfl, rfl⟩).sL ⟨Or.inl rfl, rfl⟩) (fun s s0 s3 => ?_) (fun j j0 j1 => ?_) ?_ sL_eq
      · rw [sL2, if_neg (by omega), sL2, if_neg (by omega)]; exact r2 s s0 s3
      · rw [sL2, if_neg (by omega), sL2, if_neg (by omega)]; exact s2 j j0 j1
      · rw [sL2, if_neg (by omega), sL_eq]
    · rintro s M2 s0 s1 ⟨f2, r2, s2⟩ hn
      show At _ _ _ _ _ _ _ _
      rw [bCo_clearWalk_14, if_neg (by omega), bCo_clearWalk_19 (by omega), w32_id (by omega)]
      refine hn _ ⟨f2.sL ⟨by omega, rfl⟩, fun e e0 e3 => by rw [sL2, if_neg (by omega)]; exact r2 e e0 e3, fun e e0 e1 => ?_⟩
      by_cases he : e = s
      · subst he; exact sL_eq
      · rw [sL2, if_neg (by omega)]; exact s2 e e0 (by omega)
  · rintro s M1 s0 s1 ⟨f1, r1⟩ hn
    show At _ _ _ _ _ _ _ _
    rw [bCo_clearWalk_2, if_neg (by omega), bCo_clearWalk_5 (by omega), w32_id (by omega)]
    refine hn _ ⟨f1.sL ⟨by omega, rfl⟩, fun e e0 e1 => ?_⟩
    by_cases he : e = s
    · subst he; exact sL_eq
    · rw [sL2, if_neg (by omega)]; exact r1 e e0 (by omega)
/-- what stands as a week begins -/
def WkB (R : RT) (al w : Int) (A : Nat → Int) (u : Int → Int) (M : Mem) : Prop := WA R A M ∧ Rw w u M ∧ (∀ w' y : Int, 0 ≤ w' → w' < w → 0 ≤ y → y < 125 → M.2 26 0 (w' * 125 + y).toNat = 0) ∧ (∀ q, A q + sumN (fun x => u x * phi R q w.toNat x) 125 = phW R q) ∧ sumN u 125 * scI (R 4 1) w ≤ scI (R 4 1) (R 4 2) ∧ (∀ x : Int, 0 ≤ x → x < 125 → 0 ≤ u x) ∧ (∀ x : Int, u x ≠ 0 → stlP R al w x)
theorem c_walk {M : Mem} {b : Nat} {R : RT} {al : Int} (hR : rd M (rcB b) = R) (h : WR R) (hn1 : 1 ≤ R 4 1) (hrow : ∀ w x : Int, 1 ≤ w → w ≤ R 4 2 → 0 < x → x < 125 → stlP R al w x → M.1 20 b (w * 125 + x).toNat = rwX R w x)
    (hq : ∀ M', Fs (pWh b) M M' → WA R (phW R) M' → Q (vi 0) M') : Call (d + 6) qCo_walk [vr 1 0, vr 0 b] M Q X := by
  have hb := h.b
  have hx := bgn_pos h hn1
  have hT := scI_R (n := R 4 1) (w := R 4 2) (by omega) (by omega)
  rw [eCo_walk, bCo_walk_0]
  refine c_clearWalk ?_
  intro M1 f1 a1 a2 a3 a4
  have f1' : Fs (pWh b) M M1 := f1.mono (fun t i j z => by omega)
  have hR1 : rd M1 (rcB b) = R := by rw [rd_fs f1 (fun t j ht z => by omega), hR]
  have hR2 : ∀ v, rd (sL M1 1 0 1 v) (rcB b) = R := fun v => by rw [rd_sL]; exact hR1
  have e2 : M1.1 4 (rcB b) 2 = R 4 2 := by rw [← hR1]; rfl
  have e2' : ∀ v, (sL M1 1 0 1 v).1 4 (rcB b) 2 = R 4 2 := fun v => e2
  rw [KU_eq, bCo_walk_5, e2, c_scale (by omega) (by rw [hR1]; omega), KV_eq, bCo_walk_10, e2', c_beginning (d := d + 3) (by rw [hR2]; exact h), KV_eq, hR2, hR1]
  have ei : w32 (w32 (R 4 2 * 125) + bgn R) = R 4 2 * 125 + bgn R := by rw [w32_id (z := R 4 2 * 125) (by omega), w32_id (by omega)]
  rw [bCo_walk_19 (by rw [ei]; omega), ei, sL1, e2']
  have key : ∀ w M', (fun w (M' : Mem) => Fs (pWh b) M M' ∧ ∃ A u, WkB R al w A u M') w M' → 0 ≤ w → w ≤ R 4 2 → ∀ z2 z4, At (d + 5) kCo_walk 25 [vr 1 0, vr 0 b, z2, vi w, z4] [] M' Q X := by
    intro w M' hI hw0 hw1
    refine loop_dn (fun w M' => ∀ z2 z4, At (d + 5) kCo_walk 25 [vr 1 0, vr 0 b, z2, vi w, z4] [] M' Q X) (fun w M' => Fs (pWh b) M M' ∧ ∃ A u, WkB R al w A u M') 0 (R 4 2) ?_ ?_ w M' hw0 hw1 hI
    · rintro M2 ⟨f2, A, u, k1, k2, k3, k4, k5, k6, k7⟩ z2 z4
      rw [bCo_walk_25, if_pos (by omega), bCo_walk_53]
      have hA : A = phW R := by
        funext q
        rw [← k4 q]
        have : sumN (fun x => u x * phi R q (0 : Int).toNat x) 125 = 0 := sumN_z 125 (fun x _ _ => Int.mul_zero _)
        omega
      rw [hA] at k1
      exact hq M2 f2 k1
    · rintro w M2 w0 w1 ⟨f2, A, u, k1, k2, k3, k4, k5, k6, k7⟩ hn z2 z4
      have hS := scI_R (n := R 4 1) (w := w) (by omega) (by omega)
      have hS' := scI_R (n := R 4 1) (w := w - 1) (by omega) (by omega)
      rw [bCo_walk_25, if_neg (by omega), bCo_walk_28]
      refine loop_up (fun x M3 => At (d + 5) kCo_walk 30 [vr 1 0, vr 0 b, z2, vi w, vi x] [] M3 Q X) (fun x M3 => Fs (pWg b w) M2 M3 ∧ ∃ G : GS, WA R G.1 M3 ∧ Rw (w - 1) G.2 M3 ∧ Wk 125 (fun q => phi R q w.toNat) (fun q => phi R q (w - 1).toNat) (scI (R 4 1) w) (scI (R 4 1) (w - 1)) (scI (R 4 1) (R 4 2)) (phW R) u x G ∧ (∀ y : Int, G.2 y ≠ 0 → stlP R al (w - 1) y)) 1 125 ?_ ?_ 1 M2 (by omega) (by omega) ⟨Fs.rf, (A, fun _ => 0), k1, ?_, ?_, fun y hy => absurd rfl hy⟩
      · rintro M3 ⟨f3, G, g1, g2, g3, g4⟩
        show At _ _ _ _ _ _ _ _
        rw [bCo_walk_30, if_pos (by omega), bCo_walk_51, w32_id (by omega), show w + -1 = w - 1 by omega]
        have hfin := Wk.fin (K := 125) g3
        refine hn M3 ⟨f2.tr (f3.mono (fun t i j z => wg_wh z)), G.1, G.2, g1, g2, ?_, hfin.1, hfin.2, g3.2.2, g4⟩ _ _
        intro w' y w2 w3 y0 y1
        rw [f3.g2 26 0 _ (fun z => by unfold pWg pWf pOp at z; omega)]
        exact k3 w' y w2 (by omega) y0 y1
      · rintro x M3 x0 x1 ⟨f3, G, g1, g2, g3, g4⟩ hn3
        have f3' : Fs (pWh b) M M3 := f2.tr (f3.mono (fun t i j z => wg_wh z))
        have ex : w32 (w32 (w * 125) + x) = w * 125 + x := by rw [w32_id (z := w * 125) (by omega), w32_id (by omega)]
        have e26 : M3.2 26 0 (w * 125 + x).toNat = Int64.ofInt (u x) := by
          rw [f3.g2 26 0 _ (fun z => by unfold pWg pWf pOp at z; omega)]; exact k2 x (by omega) (by omega)
        have hu0 := k6 x (by omega) (by omega)
        have hule := g3.le (by omega) (by omega) (by omega) (by omega) k6 (x := x) (by omega) (by omega)
        have hpos := ofI_pos (z := u x) ⟨hu0, by omega⟩
        show At _ _ _ _ _ _ _ _
        rw [bCo_walk_30, if_neg (by omega), bCo_walk_33 (by rw [ex]; omega), ex, e26]
        by_cases hz : u x = 0
        · rw [if_pos (cmp64_le.mpr (fun z => by have := hpos.mp z; omega)), bCo_walk_49, w32_id (by omega)]
          refine hn3 M3 ⟨f3, G, g1, g2, g3.skip (by omega) (by omega) hu0 (fun q => by rw [hz, Int.zero_mul]), g4⟩
        · rw [if_neg (fun z => cmp64_le.mp z (hpos.mpr (by omega))), bCo_walk_44]
          have hst := k7 x hz
          refine c_walkFrom (d := d) (G := G) (k := u x) (R := R) (by rw [rd_fs f3' (fun t j ht z => (wh_no z).1 ht), hR]) h hn1 ?_ (by omega) (by omega) (by omega) e26 g1 g2 ?_
          · rw [f3'.g1 20 b _ (fun z => (wh_no z).2.1 (by omega))]
            exact hrow w x (by omega) w1 (by omega) (by omega) hst
          · intro M4 f4 a4 r4
            rw [KU_eq, bCo_walk_49, w32_id (by omega)]
            have hY : ∀ m : Int, 0 ≤ aft x (dvm (rwX R w x) m) ∧ aft x (dvm (rwX R w x) m) < 125 := fun m => aft_R (dvm_d 0 (by omega)).2.1 (dvm_d 1 (by omega)).2.1 (dvm_d 2 (by omega)).2.1
            refine hn3 M4 ⟨f3.tr f4, _, a4, r4, ?_, ?_⟩
            · refine g3.step (k := u x) (C := fun q => cQ R q w x) (n := (pw (R 4 1)).toNat) (by omega) rfl hu0 (by omega) (fun q => ?_) ?_ (fun m _ _ => (wI_R h).1) (fun m _ _ _ => ⟨(hY m).1, by have := (hY m).2; omega⟩)
              · exact phi_at (by omega) (by omega)
              · rw [wS ⟨hn1, by omega⟩]; exact scI_s (by omega) (by omega)
            · refine flN_sup (P := fun y => stlP R al (w - 1) y) (G := (fun q => G.1 q + u x * cQ R q w x, G.2)) g4 (pw (R 4 1)).toNat (fun m m0 m1 _ _ => ?_)
              have b0 := md_R (d := dr (rwX R w x) 0) (bit_R m 0)
              have b1 := md_R (d := dr (rwX R w x) 1) (bit_R m 1)
              have b2 := md_R (d := dr (rwX R w x) 2) (bit_R m 2)
              exact stl_aft hst (by omega) (by omega) (by omega)
      · intro y y0 y1
        rw [of00]; exact k3 (w - 1) y (by omega) (by omega) y0 y1
      · have hi := Wk.init (K := 125) (f := fun q => phi R q w.toNat) (g := fun q => phi R q (w - 1).toNat) (S' := scI (R 4 1) (w - 1)) k4 k5
        exact hi.skip (by omega) (by omega) (k6 0 (by omega) (by omega)) (fun q => by show u 0 * phi R q w.toNat 0 = 0; rw [phi_0, Int.mul_zero])
  refine key (R 4 2) _ ⟨(f1'.sL (by omega)).sL (by omega), fun _ => 0, upf (fun _ => 0) (bgn R) 1, ⟨?_, ?_, ?_, ?_, ?_, ?_⟩, ?_, ?_, ?_, ?_, ?_, ?_⟩ (by omega) (by omega) _ _
  · rw [sL2, if_neg (by omega), sL2, if_neg (by omega)]; exact a3
  · rw [sL2, if_neg (by omega), sL2, if_neg (by omega)]; exact a4
  · rw [sL2, if_neg (by omega), sL_eq, Int.sub_zero, sc_I]
  · rw [sL2, if_neg (by omega), sL2, if_neg (by omega)]; exact a1 0 (by omega) (by omega)
  · rw [sL2, if_neg (by omega), sL2, if_neg (by omega)]; exact a1 1 (by omega) (by omega)
  · rw [sL2, if_neg (by omega), sL2, if_neg (by omega)]; exact a1 2 (by omega) (by omega)
  · intro y y0 y1
    unfold upf
    by_cases hy : y = bgn R
    · rw [if_pos hy, hy, sL_eq]; rfl
    · rw [if_neg hy, sL2, if_neg (by omega), sL2, if_neg (by omega)]; exact a2 _ (by omega) (by omega)
  · intro w' y w2 w3 y0 y1
    rw [sL2, if_neg (by omega), sL2, if_neg (by omega)]; exact a2 _ (by omega) (by omega)
  · intro q
    rw [sum_upf (by omega) (by omega), sumN_z 125 (fun x _ _ => Int.zero_mul _)]
    show 0 + (0 + 1 * phi R q (R 4 2).toNat (bgn R)) = _
    unfold phW; omega
  · rw [sum_upf1 (by omega) (by omega), sumN_z 125 (fun x _ _ => rfl)]; omega
  · intro x _ _
    show 0 ≤ (if x = bgn R then (0 : Int) + 1 else 0)
    split <;> omega
  · intro x hx'
    have : x = bgn R := by
      unfold upf at hx'
      by_cases hy : x = bgn R
      · exact hy
      · rw [if_neg hy] at hx'; exact absurd rfl hx'
    rw [this]
    exact ⟨(bgn_plain h).2.2.2, Or.inr (rch_bgn h)⟩
end
