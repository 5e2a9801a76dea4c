/-! LAYER 3, A NARROWED WEEK IS PRICED -/
def Prcn (R : RT) (w x : Int) (k : Nat) (M : Mem) : Prop := M.1 8 k 8 = w ∧ (∀ s e : Int, 0 ≤ s → s < 3 → 0 ≤ e → e < 5 → M.1 51 k (s * 5 + e).toNat = chn R w x s e ∧ (lvM M k s e ↔ lvP x s e) ∧ (M.1 46 k (s * 5 + e).toNat = 0 ∨ M.1 46 k (s * 5 + e).toNat = 1) ∧ (cnM M k s e → e = 0 ∨ 0 < dg x s)) ∧ (∀ a b c : Int, 0 ≤ a → a < 3 → 0 ≤ b → b < 3 → 0 ≤ c → c < 3 → Op2 x k M a b c) ∧ (∀ s : Int, 0 ≤ s → s < 3 → R 4 1 ≤ s → cnM M k s 0)
theorem Prcn.mv {R w x k M M'} (h : Prcn R w x k M) (hf : Fr (pV k) M M') : Prcn R w x k M' := by
  obtain ⟨h1, h2, h3, h4⟩ := h
  refine ⟨by rw [hf.g1 8 k (fun z => by omega), h1], ?_, ?_, ?_⟩
  · intro s e a1 a2 a3 a4
    unfold lvM cnM
    rw [hf.g1 51 k (fun z => by omega), hf.g1 52 k (fun z => by omega), hf.g1 46 k (fun z => by omega)]
    exact h2 s e a1 a2 a3 a4
  · intro a b c a1 a2 a3 a4 a5 a6
    unfold Op2
    rw [hf.g1 48 k (fun z => by omega), hf.g1 49 k (fun z => by omega)]
    exact h3 a b c a1 a2 a3 a4 a5 a6
  · intro s a1 a2 a3
    unfold cnM
    rw [hf.g1 46 k (fun z => by omega)]
    exact h4 s a1 a2 a3
theorem c_pricen {d : Nat} {M Q X} {k b : Nat} {x w : Int} {R : RT} (hR : rd M (rcB k) = R) (h : WR R) (hw : 1 ≤ w ∧ w ≤ 6) (hx : 0 ≤ x ∧ x < 125) (hf : fitsP R x) (hP : Prcn R w x k M)
    (hq : ∀ M', Fr (pF2 k) M M' → (∀ d0 d1 d2 i : Int, 0 ≤ d0 → d0 < 5 → 0 ≤ d1 → d1 < 5 → 0 ≤ d2 → d2 < 5 → 0 ≤ i → i < 3 → cnM M k 0 d0 → cnM M k 1 d1 → cnM M k 2 d2 → vv M' k d0 d1 d2 i = G0 R (bV M b (w - 1)) w x d0 d1 d2 i) → Q (vi 0) M') : Call (d + 4) qWe_price [vr 8 k, vr 0 b] M Q X := by
  have hb := h.b
  have nin : ∀ s : Int, 0 ≤ s → s < 3 → R 4 1 ≤ s → dg x s = 0 := by
    intro s a1 a2 a3
    obtain ⟨f0, f1, f2⟩ := hf
    have h0 := dg_R x s
    rcases (by omega : s = 0 ∨ s = 1 ∨ s = 2) with rfl | rfl | rfl <;> omega
  have hP0 := hP
  obtain ⟨p1, p2, p3, p4⟩ := hP
  rw [eWe_price, bWe_price_0]
  have hloop := loop3 3 (by omega) (fun a M' => ∀ z4 z5, At (d + 3) kWe_price 2 [vr 8 k, vr 0 b, vi a, z4, z5] [] M' Q X) (fun a c M' => ∀ z5, At (d + 3) kWe_price 7 [vr 8 k, vr 0 b, vi a, vi c, z5] [] M' Q X) (fun a c e M' => At (d + 3) kWe_price 12 [vr 8 k, vr 0 b, vi a, vi c, vi e] [] M' Q X)
    (fun a0 b0 c0 M' => Fr (pV k) M M' ∧ Dn3 3 (fun p q r => lvM M k 0 p → lvM M k 1 q → lvM M k 2 r → ∀ i : Int, 0 ≤ i → i < 3 → vv M' k p q r i = EE R (bV M b (w - 1)) w x p q r i) a0 b0 c0) ?_ ?_ ?_ ?_ ?_ ?_ ?_ ?_
  · exact hloop M ⟨Fr.rf, by intro a b c _ _ _ _ _ _ h; omega⟩ _ _
  · rintro M1 ⟨g1, g2⟩ z4 z5
    have hP1 := hP0.mv g1
    obtain ⟨q1, q2, q3, q4⟩ := hP1
    have hR1 : rd M1 (rcB k) = R := by rw [rd_fr g1 (fun t ht z => by omega), hR]
    have eC1 : ∀ s e : Int, cnM M1 k s e ↔ cnM M k s e := fun s e => by unfold cnM; rw [g1.g1 46 k (fun z => by omega)]
    have eL1 : ∀ s e : Int, lvM M1 k s e ↔ lvM M k s e := fun s e => by unfold lvM; rw [g1.g1 52 k (fun z => by omega)]
    rw [bWe_price_2, if_pos (by omega), bWe_price_60]
    have hnoX : ∀ s : Int, 0 ≤ s → s < 3 → R 4 1 ≤ s → ∀ e : Int, 0 ≤ e → e < 5 → (lvM M k s e ↔ cnM M k s e) := by
      intro s a1 a2 a3 e e1 e2
      obtain ⟨-, t2, t3, t4⟩ := p2 s e a1 a2 e1 e2
      have hz := nin s a1 a2 a3
      rw [t2]
      constructor
      · intro z
        have : e = 0 := by unfold lvP at z; omega
        subst this
        exact p4 s a1 a2 a3
      · intro z
        have := t4 z
        unfold lvP; omega
    refine c_foldU (x := x) hR1 h hw (Or.inl ⟨rfl, rfl, rfl⟩) q1 (fun e e1 e2 => (q2 2 e (by omega) (by omega) e1 e2).1) (fun e e1 e2 => (q2 2 e (by omega) (by omega) e1 e2).2.2.1) (fun hh e e1 e2 => by rw [eL1, eC1]; exact hnoX 2 (by omega) (by omega) hh e e1 e2) ?_
    intro M2 k1 k2 k3 k4
    rw [KU_eq, bWe_price_65]
    have hR2 : rd M2 (rcB k) = R := by rw [rd_fr k1 (fun t ht z => by omega), hR1]
    have eC2 : ∀ s e : Int, cnM M2 k s e ↔ cnM M k s e := fun s e => by unfold cnM; rw [k1.g1 46 k (fun z => by omega), g1.g1 46 k (fun z => by omega)]
    have V2 : ∀ p q e i : Int, 0 ≤ p → p < 3 → 0 ≤ q → q < 3 → 0 ≤ e → e < 5 → 0 ≤ i → i < 3 → lvM M k 0 p → lvM M k 1 q → cnM M k 2 e → vv M2 k p q e i = G2 R (bV M b (w - 1)) w x p q e i := by
      intro p q e i b1 b2 b3 b4 b5 b6 b7 b8 c1 c2 c3
      have l0 : lvM M k 2 0 := (p2 2 0 (by omega) (by omega) (by omega) (by omega)).2.1.mpr (Or.inl rfl)
      have l1 : 0 < dg x 2 → lvM M k 2 1 := fun hh => (p2 2 1 (by omega) (by omega) (by omega) (by omega)).2.1.mpr (Or.inr ⟨hh, by omega⟩)
      have l2 : 0 < dg x 2 → lvM M k 2 2 := fun hh => (p2 2 2 (by omega) (by omega) (by omega) (by omega)).2.1.mpr (Or.inr ⟨hh, by omega⟩)
      have he := (p2 2 e (by omega) (by omega) b5 b6).2.2.2 c3
      have := k4 p q e i b1 (by omega) b3 (by omega) b5 b6 b7 b8 ((eL1 0 p).mpr c1) ((eL1 1 q).mpr c2) ((eC1 2 e).mpr c3)
      have this : vv M2 k p q e i = if 2 < R 4 1 then fv R w x 2 e i (vv M1 k p q 0 i) (vv M1 k p q 1 i) (vv M1 k p q 2 i) else vv M1 k p q e i := this
      rw [this]
      unfold G2
      by_cases hn : 2 < R 4 1
      · rw [if_pos hn, if_pos hn, g2 p q 0 b1 b2 b3 b4 (by omega) (by omega) (by omega) c1 c2 l0 i b7 b8]
        exact fvI (fun hh => ⟨g2 p q 1 b1 b2 b3 b4 (by omega) (by omega) (by omega) c1 c2 (l1 hh) i b7 b8, g2 p q 2 b1 b2 b3 b4 (by omega) (by omega) (by omega) c1 c2 (l2 hh) i b7 b8⟩) he
      · rw [if_neg hn, if_neg hn]
        have hz := nin 2 (by omega) (by omega) (by omega)
        have : e = 0 := by omega
        subst this
        exact g2 p q 0 b1 b2 b3 b4 (by omega) (by omega) (by omega) c1 c2 l0 i b7 b8
    have eL2 : ∀ s e : Int, 0 ≤ s → s < 2 → 0 ≤ e → e < 5 → (lvM M2 k s e ↔ lvM M k s e) := fun s e a1 a2 a3 a4 => by rw [k3 s e a1 (by omega) (by omega) a3 a4, eL1]
    have eL22 : ∀ e : Int, 0 ≤ e → e < 5 → (lvM M2 k 2 e ↔ cnM M k 2 e) := fun e a3 a4 => by rw [k2 e a3 a4, eC1]
    refine c_foldU (x := x) hR2 h hw (Or.inr (Or.inl ⟨rfl, rfl, rfl⟩)) (by rw [k1.g1 8 k (fun z => by omega), q1]) (fun e e1 e2 => by rw [k1.g1 51 k (fun z => by omega)]; exact (q2 1 e (by omega) (by omega) e1 e2).1) (fun e e1 e2 => by rw [k1.g1 46 k (fun z => by omega)]; exact (q2 1 e (by omega) (by omega) e1 e2).2.2.1) (fun hh e e1 e2 => by rw [eL2 1 e (by omega) (by omega) e1 e2, eC2]; exact hnoX 1 (by omega) (by omega) hh e e1 e2) ?_
    intro M3 m1 m2 m3 m4
    rw [KU_eq, bWe_price_70]
    have hR3 : rd M3 (rcB k) = R := by rw [rd_fr m1 (fun t ht z => by omega), hR2]
    have eC3 : ∀ s e : Int, cnM M3 k s e ↔ cnM M k s e := fun s e => by unfold cnM; rw [m1.g1 46 k (fun z => by omega)]; exact eC2 s e
    have V1 : ∀ p q e i : Int, 0 ≤ p → p < 3 → 0 ≤ q → q < 5 → 0 ≤ e → e < 5 → 0 ≤ i → i < 3 → lvM M k 0 p → cnM M k 2 q → cnM M k 1 e → vv M3 k p e q i = G1 R (bV M b (w - 1)) w x p e q i := by
      intro p q e i b1 b2 b3 b4 b5 b6 b7 b8 c1 c2 c3
      have l0 : lvM M k 1 0 := (p2 1 0 (by omega) (by omega) (by omega) (by omega)).2.1.mpr (Or.inl rfl)
      have l1 : 0 < dg x 1 → lvM M k 1 1 := fun hh => (p2 1 1 (by omega) (by omega) (by omega) (by omega)).2.1.mpr (Or.inr ⟨hh, by omega⟩)
      have l2 : 0 < dg x 1 → lvM M k 1 2 := fun hh => (p2 1 2 (by omega) (by omega) (by omega) (by omega)).2.1.mpr (Or.inr ⟨hh, by omega⟩)
      have he := (p2 1 e (by omega) (by omega) b5 b6).2.2.2 c3
      have := m4 p q e i b1 (by omega) b3 (by omega) b5 b6 b7 b8 ((eL2 0 p (by omega) (by omega) (by omega) (by omega)).mpr c1) ((eL22 q b3 b4).mpr c2) ((eC2 1 e).mpr c3)
      have this : vv M3 k p e q i = if 1 < R 4 1 then fv R w x 1 e i (vv M2 k p 0 q i) (vv M2 k p 1 q i) (vv M2 k p 2 q i) else vv M2 k p e q i := this
      rw [this]
      unfold G1
      by_cases hn : 1 < R 4 1
      · rw [if_pos hn, if_pos hn, V2 p 0 q i b1 b2 (by omega) (by omega) b3 b4 b7 b8 c1 l0 c2]
        exact fvI (fun hh => ⟨V2 p 1 q i b1 b2 (by omega) (by omega) b3 b4 b7 b8 c1 (l1 hh) c2, V2 p 2 q i b1 b2 (by omega) (by omega) b3 b4 b7 b8 c1 (l2 hh) c2⟩) he
      · rw [if_neg hn, if_neg hn]
        have hz := nin 1 (by omega) (by omega) (by omega)
        have : e = 0 := by omega
        subst this
        exact V2 p 0 q i b1 b2 (by omega) (by omega) b3 b4 b7 b8 c1 l0 c2
    have eL3 : ∀ e : Int, 0 ≤ e → e < 5 → (lvM M3 k 0 e ↔ lvM M k 0 e) := fun e a3 a4 => by rw [m3 0 e (by omega) (by omega) (by omega) a3 a4, eL2 0 e (by omega) (by omega) a3 a4]
    have eL31 : ∀ e : Int, 0 ≤ e → e < 5 → (lvM M3 k 1 e ↔ cnM M k 1 e) := fun e a3 a4 => by rw [m2 e a3 a4, eC2]
    have eL32 : ∀ e : Int, 0 ≤ e → e < 5 → (lvM M3 k 2 e ↔ cnM M k 2 e) := fun e a3 a4 => by rw [m3 2 e (by omega) (by omega) (by omega) a3 a4, eL22 e a3 a4]
    refine c_foldU (x := x) hR3 h hw (Or.inr (Or.inr ⟨rfl, rfl, rfl⟩)) (by rw [m1.g1 8 k (fun z => by omega), k1.g1 8 k (fun z => by omega), q1]) (fun e e1 e2 => by rw [m1.g1 51 k (fun z => by omega), k1.g1 51 k (fun z => by omega)]; exact (q2 0 e (by omega) (by omega) e1 e2).1) (fun e e1 e2 => by rw [m1.g1 46 k (fun z => by omega), k1.g1 46 k (fun z => by omega)]; exact (q2 0 e (by omega) (by omega) e1 e2).2.2.1) (fun hh e e1 e2 => by rw [eL3 e e1 e2, eC3]; exact hnoX 0 (by omega) (by omega) hh e e1 e2) ?_
    intro M4 n1 n2 n3 n4
    rw [KU_eq, bWe_price_75]
    refine hq M4 ((((g1.mono (fun t i z => ⟨by omega, z.2⟩)).tr k1).tr m1).tr n1) ?_
    intro e p q i b5 b6 b1 b2 b3 b4 b7 b8 c3 c1 c2
    have l0 : lvM M k 0 0 := (p2 0 0 (by omega) (by omega) (by omega) (by omega)).2.1.mpr (Or.inl rfl)
    have l1 : 0 < dg x 0 → lvM M k 0 1 := fun hh => (p2 0 1 (by omega) (by omega) (by omega) (by omega)).2.1.mpr (Or.inr ⟨hh, by omega⟩)
    have l2 : 0 < dg x 0 → lvM M k 0 2 := fun hh => (p2 0 2 (by omega) (by omega) (by omega) (by omega)).2.1.mpr (Or.inr ⟨hh, by omega⟩)
    have he := (p2 0 e (by omega) (by omega) b5 b6).2.2.2 c3
    have := n4 p q e i b1 b2 b3 b4 b5 b6 b7 b8 ((eL31 p b1 b2).mpr c1) ((eL32 q b3 b4).mpr c2) ((eC3 0 e).mpr c3)
    have this : vv M4 k e p q i = if 0 < R 4 1 then fv R w x 0 e i (vv M3 k 0 p q i) (vv M3 k 1 p q i) (vv M3 k 2 p q i) else vv M3 k e p q i := this
    rw [this]
    unfold G0
    by_cases hn : 0 < R 4 1
    · rw [if_pos hn, if_pos hn, V1 0 q p i (by omega) (by omega) b3 b4 b1 b2 b7 b8 l0 c2 c1]
      exact fvI (fun hh => ⟨V1 1 q p i (by omega) (by omega) b3 b4 b1 b2 b7 b8 (l1 hh) c2 c1, V1 2 q p i (by omega) (by omega) b3 b4 b1 b2 b7 b8 (l2 hh) c2 c1⟩) he
    · rw [if_neg hn, if_neg hn]
      have hz := nin 0 (by omega) (by omega) (by omega)
      have : e = 0 := by omega
      subst this
      exact V1 0 q p i (by omega) (by omega) b3 b4 b1 b2 b7 b8 l0 c2 c1
  · intro a M' a1 a2 g z4 z5
    rw [bWe_price_2, if_neg (by omega), bWe_price_5]; exact g _
  · intro a M' a1 a2 g z5
    rw [bWe_price_7, if_pos (by omega), bWe_price_58, w32_id (by omega)]; exact g _ _
  · intro a c M' a1 a2 b1 b2 g z5
    rw [bWe_price_7, if_neg (by omega), bWe_price_10]; exact g
  · intro a c M' a1 a2 b1 b2 g
    rw [bWe_price_12, if_pos (by omega), bWe_price_56, w32_id (by omega)]; exact g _
  · rintro a0 b0 c0 M' a1 a2 b1 b2 c1 c2 ⟨g1, g2⟩ g3
    have l0 : M'.1 52 k a0.toNat = M.1 52 k (0 * 5 + a0).toNat := by rw [g1.g1 52 k (fun z => by omega), show 0 * 5 + a0 = a0 by omega]
    have l1 : M'.1 52 k (5 + b0).toNat = M.1 52 k (1 * 5 + b0).toNat := by rw [g1.g1 52 k (fun z => by omega)]; congr 1
    have l2 : M'.1 52 k (10 + c0).toNat = M.1 52 k (2 * 5 + c0).toNat := by rw [g1.g1 52 k (fun z => by omega)]; congr 1
    have w5 : w32 (5 + b0) = 5 + b0 := w32_id (by omega)
    have w10 : w32 (10 + c0) = 10 + c0 := w32_id (by omega)
    have skip : ¬ (lvM M k 0 a0 ∧ lvM M k 1 b0 ∧ lvM M k 2 c0) → At (d + 3) kWe_price 54 [vr 8 k, vr 0 b, vi a0, vi b0, vi c0] [] M' Q X := by
      intro hno
      rw [bWe_price_54, w32_id (by omega)]
      refine g3 M' ⟨g1, ?_⟩
      intro p q r s1 s2 s3 s4 s5 s6 hh y1 y2 y3
      by_cases he : p = a0 ∧ q = b0 ∧ r = c0
      · obtain ⟨rfl, rfl, rfl⟩ := he; exact absurd ⟨y1, y2, y3⟩ hno
      · exact g2 p q r s1 s2 s3 s4 s5 s6 (by omega) y1 y2 y3
    rw [bWe_price_12, if_neg (by omega), bWe_price_15 (by omega), l0]
    by_cases hA : M.1 52 k (0 * 5 + a0).toNat = 0
    · rw [if_pos hA]; exact skip (fun z => z.1 hA)
    · rw [if_neg hA, bWe_price_20 (by rw [w5]; omega), w5, l1]
      by_cases hB : M.1 52 k (1 * 5 + b0).toNat = 0
      · rw [if_pos hB]; exact skip (fun z => z.2.1 hB)
      · rw [if_neg hB, bWe_price_27 (by rw [w10]; omega), w10, l2]
        by_cases hC : M.1 52 k (2 * 5 + c0).toNat = 0
        · rw [if_pos hC]; exact skip (fun z => z.2.2 hC)
        · rw [if_neg hC, bWe_price_34 (by omega)]
          have e0 : roI 117 0 (0 : Int).toNat = 25 := rfl
          have e1 : roI 117 0 (1 : Int).toNat = 5 := rfl
          have e2 : roI 117 0 (2 : Int).toNat = 1 := rfl
          have em : w32 (w32 (w32 (a0 * 25) + w32 (b0 * 5)) + w32 (c0 * 1)) = mm a0 b0 c0 := by
            unfold mm
            simp (disch := first | omega | (simp (disch := omega) only [w32_id]; omega)) only [w32_id, Int.mul_one]
          rw [e0, e1, e2, em]
          have hP1 := hP0.mv g1
          refine c_priceEnd (x := x) (w := w) (R := R) (by rw [rd_fr g1 (fun t ht z => by omega), hR]) h hw ⟨a1, a2⟩ ⟨b1, b2⟩ ⟨c1, c2⟩ hP1.1 (hP1.2.2.1 a0 b0 c0 a1 a2 b1 b2 c1 c2) ?_
          intro M2 k1 k2 k3
          rw [KU_eq, bWe_price_54, w32_id (by omega)]
          have ebV : bV M' b (w - 1) = bV M b (w - 1) := by
            funext y i
            unfold bV
            rw [g1.g2 22 b (fun z => by omega)]
          rw [ebV] at k2
          refine g3 M2 ⟨g1.tr k1, ?_⟩
          intro p q r s1 s2 s3 s4 s5 s6 hh y1 y2 y3 i i1 i2
          by_cases he : p = a0 ∧ q = b0 ∧ r = c0
          · obtain ⟨rfl, rfl, rfl⟩ := he
            exact k2 i i1 i2
          · have := g2 p q r s1 s2 s3 s4 s5 s6 (by omega) y1 y2 y3 i i1 i2
            rw [← this]
            unfold vv
            refine k3 _ ?_
            have : mm p q r ≠ mm a0 b0 c0 := by unfold mm; omega
            have t1 : 0 ≤ mm p q r := by unfold mm; omega
            have t2 : 0 ≤ mm a0 b0 c0 := by unfold mm; omega
            omega
  · rintro a c M' a1 a2 b1 b2 ⟨g1, g2⟩
    exact ⟨g1, fun p q r p1 p2 q1 q2 r1 r2 hh => g2 p q r p1 p2 q1 q2 r1 r2 (by omega)⟩
  · rintro a M' a1 a2 ⟨g1, g2⟩
    exact ⟨g1, fun p q r p1 p2 q1 q2 r1 r2 hh => g2 p q r p1 p2 q1 q2 r1 r2 (by omega)⟩
