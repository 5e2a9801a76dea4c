/-! LAYER 3, A WEEK IS PRICED -/
/-- what the end of a week by modes is worth, by the worths V of the week behind -/
def EE (R : RT) (V : Int → Int → Int64) (w x a b c i : Int) : Int64 := if won x (mm a b c) = 0 then V (aft x (mm a b c)) i else sc (R 4 1) (w - 1) * Int64.ofInt (prt R i (won x (mm a b c)) (aft x (mm a b c)))
def fv (R : RT) (w x s d i : Int) (st sp lv : Int64) : Int64 := (if d = 4 then Int64.ofInt 4 * lv else Int64.ofInt (4 - chn R w x s d) * st + Int64.ofInt (chn R w x s d) * sp) - (if i = s then Int64.ofInt (cst R s d) * lsr (sc (R 4 1) w) (2 * s) else 0)
def G2 (R : RT) (V : Int → Int → Int64) (w x p q d i : Int) : Int64 := if 2 < R 4 1 then fv R w x 2 d i (EE R V w x p q 0 i) (EE R V w x p q 1 i) (EE R V w x p q 2 i) else EE R V w x p q d i
def G1 (R : RT) (V : Int → Int → Int64) (w x p d q i : Int) : Int64 := if 1 < R 4 1 then fv R w x 1 d i (G2 R V w x p 0 q i) (G2 R V w x p 1 q i) (G2 R V w x p 2 q i) else G2 R V w x p d q i
/-- what a row of doings is worth -/
def G0 (R : RT) (V : Int → Int → Int64) (w x d p q i : Int) : Int64 := if 0 < R 4 1 then fv R w x 0 d i (G1 R V w x 0 p q i) (G1 R V w x 1 p q i) (G1 R V w x 2 p q i) else G1 R V w x d p q i
/-- the worths that a board has -/
def bV (M : Mem) (b : Nat) (w x i : Int) : Int64 := M.2 22 b ((w * 125 + x) * 3 + i).toNat
def vv (M : Mem) (k : Nat) (a b c i : Int) : Int64 := M.2 50 k (mm a b c * 3 + i).toNat
abbrev pV (k t i : Nat) : Prop := t = 50 ∧ i = k
theorem c_priceEnd {d : Nat} {M Q X} {k b : Nat} {x w p q r : Int} {R : RT} (hR : rd M (rcB k) = R) (h : WR R) (hw : 1 ≤ w ∧ w ≤ 6) (hp : 0 ≤ p ∧ p < 3) (hq0 : 0 ≤ q ∧ q < 3) (hr : 0 ≤ r ∧ r < 3) (hl : M.1 8 k 8 = w) (ho : Op2 x k M p q r)
    (hq : ∀ M', Fr (pV k) M M' → (∀ i : Int, 0 ≤ i → i < 3 → vv M' k p q r i = EE R (bV M b (w - 1)) w x p q r i) → (∀ j : Nat, ¬ ((mm p q r * 3).toNat ≤ j ∧ j < (mm p q r * 3).toNat + 3) → M'.2 50 k j = M.2 50 k j) → Q (vi 0) M') : Call (d + 3) qWe_priceEnd [vr 8 k, vr 0 b, vi (mm p q r)] M Q X := by
  have hb := h.b
  obtain ⟨o1, o2⟩ := ho
  obtain ⟨m0, m1, m2⟩ := dr_mm (a := p) (b := q) (c := r) (by omega) (by omega) (by omega)
  have hm : 0 ≤ mm p q r ∧ mm p q r < 125 := by unfold mm; omega
  have hwn := won_R x (mm p q r)
  have haf := aft_R (x := x) (m := mm p q r) (by omega) (by omega) (by omega)
  rw [eWe_priceEnd, bWe_priceEnd_0]
  generalize hmm : mm p q r = m at *
  refine loop_up (fun i M' => At (d + 2) kWe_priceEnd 2 [vr 8 k, vr 0 b, vi m, vi i] [] M' Q X) (fun i M' => Fr (pV k) M M' ∧ (∀ i' : Int, 0 ≤ i' → i' < i → M'.2 50 k (m * 3 + i').toNat = EE R (bV M b (w - 1)) w x p q r i') ∧ (∀ j : Nat, ¬ ((m * 3).toNat ≤ j ∧ j < (m * 3).toNat + 3) → M'.2 50 k j = M.2 50 k j)) 0 3 ?_ ?_ 0 M (by omega) (by omega) ⟨Fr.rf, by intros; omega, fun _ _ => rfl⟩
  · rintro M' ⟨h1, h2, h3⟩
    rw [bWe_priceEnd_2, if_pos (by omega), bWe_priceEnd_53]
    refine hq M' h1 (fun i i1 i2 => ?_) h3
    unfold vv
    rw [hmm]
    exact h2 i i1 i2
  · rintro i M' i1 i2 ⟨h1, h2, h3⟩ hk
    have hR' : rd M' (rcB k) = R := by rw [rd_fr h1 (fun t ht z => by omega), hR]
    have n1 : rd M' (rcB k) 4 1 = R 4 1 := by rw [hR']
    have e8 : M'.1 8 k 8 = w := by rw [h1.g1 8 k (fun z => by omega), hl]
    have e48 : M'.1 48 k m.toNat = won x m := by rw [h1.g1 48 k (fun z => by omega), o1]
    have e49 : M'.1 49 k m.toNat = aft x m := by rw [h1.g1 49 k (fun z => by omega), o2]
    have e22 : M'.2 22 b = M.2 22 b := (h1 22 b (fun z => by omega)).2
    rw [bWe_priceEnd_2, if_neg (by omega), bWe_priceEnd_5 (by omega), e48]
    have hend : ∀ v : Int64, v = EE R (bV M b (w - 1)) w x p q r i → At (d + 2) kWe_priceEnd 50 [vr 8 k, vr 0 b, vi m, vi i] [vl v, vi (w32 (w32 (m * 3) + i)), vr 50 k] M' Q X := by
      intro v hv
      rw [w32_id (z := m * 3) (by omega), w32_id (z := m * 3 + i) (by omega), bWe_priceEnd_50 (by omega), w32_id (by omega)]
      refine hk _ ⟨h1.sL ⟨rfl, rfl⟩, ?_, ?_⟩
      · intro i' j1 j2
        by_cases he : i' = i
        · subst he; rw [sL2, if_pos ⟨rfl, rfl, rfl⟩, hv]
        · rw [sL2, if_neg (by omega)]; exact h2 i' j1 (by omega)
      · intro j hj
        rw [sL2, if_neg (by omega)]; exact h3 j hj
    by_cases hz : won x m = 0
    · rw [if_neg (by omega), bWe_priceEnd_17 (by omega), e8, e49, w32_id (by omega), c_worthAt (by omega) (by omega) (by omega), KV_eq, bWe_priceEnd_28]
      refine hend _ ?_
      unfold EE bV
      rw [hmm, if_pos hz, e22]
    · rw [if_pos hz, bWe_priceEnd_29, e8, w32_id (z := w - 1) (by omega), c_scale (by omega) (by omega), KV_eq, bWe_priceEnd_36 (by omega), e48, e49, c_partOf (by rw [hR']; exact h) (by omega) (by omega) (by omega), KV_eq, bWe_priceEnd_48]
      refine hend _ ?_
      unfold EE
      rw [hmm, if_neg hz, hR']
/-- cells by the shop that is folded: its digit last -/
def ix (s p q d : Int) : Int := if s = 0 then mm d p q else if s = 1 then mm p d q else mm p q d
theorem ix_R {s p q d : Int} (hp : 0 ≤ p ∧ p < 5) (hq : 0 ≤ q ∧ q < 5) (hd : 0 ≤ d ∧ d < 5) : 0 ≤ ix s p q d ∧ ix s p q d < 125 := by
  unfold ix mm; repeat' split
  all_goals omega
theorem ix_inj {s p q d p' q' d' : Int} (hp : 0 ≤ p ∧ p < 5) (hq : 0 ≤ q ∧ q < 5) (hd : 0 ≤ d ∧ d < 5) (hp' : 0 ≤ p' ∧ p' < 5) (hq' : 0 ≤ q' ∧ q' < 5) (hd' : 0 ≤ d' ∧ d' < 5) (he : ix s p q d = ix s p' q' d') : p = p' ∧ q = q' ∧ d = d' := by
  unfold ix mm at he; repeat' split at he
  all_goals omega
theorem ix_u {s p q d : Int} : ix s p q d = ix s p q 0 + d * ru s := by
  unfold ix mm ru; repeat' split
  all_goals omega
abbrev cnM (M : Mem) (k : Nat) (s d : Int) : Prop := M.1 46 k (s * 5 + d).toNat ≠ 0
theorem c_foldAt {d : Nat} {M Q X} {k : Nat} {x w s p q : Int} {R : RT} (hR : rd M (rcB k) = R) (h : WR R) (hw : 1 ≤ w ∧ w ≤ 6) (hs : 0 ≤ s ∧ s < 3) (hp : 0 ≤ p ∧ p < 5) (hq0 : 0 ≤ q ∧ q < 5) (hl : M.1 8 k 8 = w)
    (hc : ∀ e : Int, 0 ≤ e → e < 5 → M.1 51 k (s * 5 + e).toNat = chn R w x s e)
    (hq : ∀ M', Fr (pV k) M M' → (∀ e i : Int, 0 ≤ e → e < 5 → 0 ≤ i → i < 3 → cnM M k s e → M'.2 50 k (ix s p q e * 3 + i).toNat = fv R w x s e i (M.2 50 k (ix s p q 0 * 3 + i).toNat) (M.2 50 k (ix s p q 1 * 3 + i).toNat) (M.2 50 k (ix s p q 2 * 3 + i).toNat)) → (∀ j : Nat, (∀ e i : Int, 0 ≤ e → e < 5 → 0 ≤ i → i < 3 → cnM M k s e → j ≠ (ix s p q e * 3 + i).toNat) → M'.2 50 k j = M.2 50 k j) → Q (vi 0) M') : Call (d + 2) qWe_foldAt [vr 8 k, vi s, vi (ix s p q 0)] M Q X := by
  have hb := h.b
  have n1 : rd M (rcB k) 4 1 = R 4 1 := by rw [hR]
  have hu : ru s = 1 ∨ ru s = 5 ∨ ru s = 25 := by
    unfold ru; repeat' split
    all_goals simp
  have r0 := ix_R (s := s) (p := p) (q := q) (d := 0) hp hq0 (by omega)
  have r1 := ix_R (s := s) (p := p) (q := q) (d := 1) hp hq0 (by omega)
  have r2 := ix_R (s := s) (p := p) (q := q) (d := 2) hp hq0 (by omega)
  have u1 := ix_u (s := s) (p := p) (q := q) (d := 1)
  have u2 := ix_u (s := s) (p := p) (q := q) (d := 2)
  rw [eWe_foldAt, bWe_foldAt_0 (by omega), hl, c_scale (by omega) (by omega), KV_eq, bWe_foldAt_9, ro_ru hs, n1, w32_id (z := 2 * s) (by omega)]
  generalize hch : lsr (sc (R 4 1) w) (2 * s) = ch
  refine loop_up (fun i M' => ∀ z7 z8 z9 z10 z11 z12 z13 z14 z15 z16 z17 z18, At (d + 1) kWe_foldAt 16 [vr 8 k, vi s, vi (ix s p q 0), vi (ru s), vl ch, JK, vi i, z7, z8, z9, z10, z11, z12, z13, z14, z15, z16, z17, z18] [] M' Q X)
    (fun i M' => Fr (pV k) M M' ∧ (∀ e i' : Int, 0 ≤ e → e < 5 → 0 ≤ i' → i' < i → cnM M k s e → M'.2 50 k (ix s p q e * 3 + i').toNat = fv R w x s e i' (M.2 50 k (ix s p q 0 * 3 + i').toNat) (M.2 50 k (ix s p q 1 * 3 + i').toNat) (M.2 50 k (ix s p q 2 * 3 + i').toNat)) ∧ (∀ j : Nat, (∀ e i' : Int, 0 ≤ e → e < 5 → 0 ≤ i' → i' < i → cnM M k s e → j ≠ (ix s p q e * 3 + i').toNat) → M'.2 50 k j = M.2 50 k j)) 0 3 ?_ ?_ 0 M (by omega) (by omega) ⟨Fr.rf, by intros; omega, fun _ _ => rfl⟩ _ _ _ _ _ _ _ _ _ _ _ _
  · rintro M' ⟨h1, h2, h3⟩ z7 z8 z9 z10 z11 z12 z13 z14 z15 z16 z17 z18
    rw [bWe_foldAt_16, if_pos (by omega), bWe_foldAt_127]
    exact hq M' h1 h2 h3
  · rintro i M' i1 i2 ⟨h1, h2, h3⟩ hk z7 z8 z9 z10 z11 z12 z13 z14 z15 z16 z17 z18
    have er : ∀ e : Int, 0 ≤ e → e < 5 → M'.2 50 k (ix s p q e * 3 + i).toNat = M.2 50 k (ix s p q e * 3 + i).toNat := by
      intro e e1 e2
      refine h3 _ (fun e' i' a1 a2 a3 a4 _ => ?_)
      have t1 := ix_R (s := s) (p := p) (q := q) (d := e) hp hq0 ⟨e1, e2⟩
      have t2 := ix_R (s := s) (p := p) (q := q) (d := e') hp hq0 ⟨a1, a2⟩
      omega
    have v1 : w32 (ix s p q 0 + ru s) = ix s p q 1 := by rw [u1, Int.one_mul]; exact w32_id (by omega)
    have v2 : w32 (ix s p q 0 + w32 (2 * ru s)) = ix s p q 2 := by rw [u2, w32_id (z := 2 * ru s) (by omega)]; exact w32_id (by omega)
    have t0 : w32 (w32 (ix s p q 0 * 3) + i) = ix s p q 0 * 3 + i := by rw [w32_id (z := ix s p q 0 * 3) (by omega)]; exact w32_id (by omega)
    have t1 : w32 (w32 (ix s p q 1 * 3) + i) = ix s p q 1 * 3 + i := by rw [w32_id (z := ix s p q 1 * 3) (by omega)]; exact w32_id (by omega)
    have t2 : w32 (w32 (ix s p q 2 * 3) + i) = ix s p q 2 * 3 + i := by rw [w32_id (z := ix s p q 2 * 3) (by omega)]; exact w32_id (by omega)
    rw [bWe_foldAt_16, if_neg (by omega), bWe_foldAt_19 (by rw [v1, v2, t0, t1, t2]; omega), v1, v2, t0, t1, t2, er 0 (by omega) (by omega), er 1 (by omega) (by omega), er 2 (by omega) (by omega)]
    generalize hst : M.2 50 k (ix s p q 0 * 3 + i).toNat = st
    generalize hsp : M.2 50 k (ix s p q 1 * 3 + i).toNat = sp
    generalize hlv : M.2 50 k (ix s p q 2 * 3 + i).toNat = lv
    refine loop_up (fun e M2 => ∀ z14 z15 z16 z17 z18, At (d + 1) kWe_foldAt 54 [vr 8 k, vi s, vi (ix s p q 0), vi (ru s), vl ch, JK, vi i, vl st, JK, vl sp, JK, vl lv, JK, vi e, z14, z15, z16, z17, z18] [] M2 Q X)
      (fun e M2 => Fr (pV k) M' M2 ∧ (∀ e' : Int, 0 ≤ e' → e' < e → cnM M k s e' → M2.2 50 k (ix s p q e' * 3 + i).toNat = fv R w x s e' i st sp lv) ∧ (∀ j : Nat, (∀ e' : Int, 0 ≤ e' → e' < e → cnM M k s e' → j ≠ (ix s p q e' * 3 + i).toNat) → M2.2 50 k j = M'.2 50 k j)) 0 5 ?_ ?_ 0 M' (by omega) (by omega) ⟨Fr.rf, by intros; omega, fun _ _ => rfl⟩ _ _ _ _ _
    · rintro M2 ⟨g1, g2, g3⟩ z14 z15 z16 z17 z18
      rw [bWe_foldAt_54, if_pos (by omega), bWe_foldAt_125, w32_id (by omega)]
      refine hk M2 ⟨h1.tr g1, ?_, ?_⟩ _ _ _ _ _ _ _ _ _ _ _ _
      · intro e i' e1 e2 a1 a2 hcn
        by_cases he : i' = i
        · subst he
          rw [g2 e e1 e2 hcn, hst, hsp, hlv]
        · rw [g3 _ (fun e' b1 b2 _ => ?_), h2 e i' e1 e2 a1 (by omega) hcn]
          have t1 := ix_R (s := s) (p := p) (q := q) (d := e) hp hq0 ⟨e1, e2⟩
          have t2 := ix_R (s := s) (p := p) (q := q) (d := e') hp hq0 ⟨b1, b2⟩
          omega
      · intro j hj
        rw [g3 j (fun e' b1 b2 hcn => hj e' i b1 b2 (by omega) (by omega) hcn), h3 j (fun e i' e1 e2 a1 a2 hcn => hj e i' e1 e2 a1 (by omega) hcn)]
    · rintro e M2 e1 e2 ⟨g1, g2, g3⟩ gk z14 z15 z16 z17 z18
      have hc51 : M2.1 51 k (s * 5 + e).toNat = chn R w x s e := by rw [g1.g1 51 k (fun z => by omega), h1.g1 51 k (fun z => by omega), hc e e1 e2]
      have hc46 : M2.1 46 k (s * 5 + e).toNat = M.1 46 k (s * 5 + e).toNat := by rw [g1.g1 46 k (fun z => by omega), h1.g1 46 k (fun z => by omega)]
      have hR2 : rd M2 (rcB k) = R := by rw [rd_fr g1 (fun t ht z => by omega), rd_fr h1 (fun t ht z => by omega), hR]
      have hcr := chn_R h w x s e hs ⟨e1, e2⟩
      have a5 : w32 (w32 (s * 5) + e) = s * 5 + e := by rw [w32_id (z := s * 5) (by omega)]; exact w32_id (by omega)
      rw [bWe_foldAt_54, if_neg (by omega), bWe_foldAt_57 (by rw [a5]; omega), a5, hc46]
      by_cases hcn : M.1 46 k (s * 5 + e).toNat = 0
      · rw [if_pos hcn, bWe_foldAt_123, w32_id (by omega)]
        refine gk M2 ⟨g1, ?_, ?_⟩ _ _ _ _ _
        · intro e' b1 b2 b3
          by_cases he : e' = e
          · subst he; exact absurd hcn b3
          · exact g2 e' b1 (by omega) b3
        · intro j hj
          exact g3 j (fun e' b1 b2 b3 => hj e' b1 (by omega) b3)
      · rw [if_neg hcn]
        have t9 := ix_R (s := s) (p := p) (q := q) (d := e) hp hq0 ⟨e1, e2⟩
        have hfin : ∀ (v c : Int64) (z14 z17 z18 : AV), v - c = fv R w x s e i st sp lv → At (d + 1) kWe_foldAt 107 [vr 8 k, vi s, vi (ix s p q 0), vi (ru s), vl ch, JK, vi i, vl st, JK, vl sp, JK, vl lv, JK, vi e, z14, vl v, JK, z17, z18] [vl c] M2 Q X := by
          intro v c z14 z17 z18 hv
          have a6 : w32 (ix s p q 0 + w32 (e * ru s)) = ix s p q e := by
            rw [ix_u (d := e)]
            rcases hu with hu | hu | hu <;> rw [hu, w32_id (z := e * _) (by omega)] <;> exact w32_id (by omega)
          have a7 : w32 (w32 (ix s p q e * 3) + i) = ix s p q e * 3 + i := by rw [w32_id (z := ix s p q e * 3) (by omega)]; exact w32_id (by omega)
          rw [bWe_foldAt_107 (by rw [a6, a7]; omega), a6, a7, bWe_foldAt_123, w32_id (by omega)]
          refine gk _ ⟨g1.sL ⟨rfl, rfl⟩, ?_, ?_⟩ _ _ _ _ _
          · intro e' b1 b2 b3
            by_cases he : e' = e
            · subst he; rw [sL2, if_pos ⟨rfl, rfl, rfl⟩, hv]
            · have t8 := ix_R (s := s) (p := p) (q := q) (d := e') hp hq0 ⟨b1, by omega⟩
              have : ix s p q e' ≠ ix s p q e := fun z => he (ix_inj hp hq0 ⟨b1, by omega⟩ hp hq0 ⟨e1, e2⟩ z).2.2
              rw [sL2, if_neg (by omega)]; exact g2 e' b1 (by omega) b3
          · intro j hj
            have := hj e e1 (by omega) hcn
            rw [sL2, if_neg (by omega)]
            exact g3 j (fun e' b1 b2 b3 => hj e' b1 (by omega) b3)
        have hmid : ∀ (v : Int64) (z14 z15 z16 z17 z18 : AV), v = (if e = 4 then Int64.ofInt 4 * lv else Int64.ofInt (4 - chn R w x s e) * st + Int64.ofInt (chn R w x s e) * sp) → At (d + 1) kWe_foldAt 93 [vr 8 k, vi s, vi (ix s p q 0), vi (ru s), vl ch, JK, vi i, vl st, JK, vl sp, JK, vl lv, JK, vi e, z14, z15, z16, z17, z18] [vl v] M2 Q X := by
          intro v z14 z15 z16 z17 z18 hv
          rw [bWe_foldAt_93]
          by_cases his : i = s
          · rw [if_neg (by omega), bWe_foldAt_97, c_costOf hs ⟨e1, e2⟩, KV_eq, bWe_foldAt_102, hR2]
            refine hfin _ _ _ _ _ ?_
            unfold fv
            rw [if_pos his, hv, hch]
          · rw [if_pos his, bWe_foldAt_106]
            refine hfin _ _ _ _ _ ?_
            unfold fv
            rw [if_neg his, hv]
        rw [bWe_foldAt_66 (by rw [a5]; omega), a5, hc51]
        by_cases h4 : e = 4
        · rw [if_neg (by omega), bWe_foldAt_78]
          exact hmid _ _ _ _ _ _ (by rw [if_pos h4])
        · rw [if_pos h4, bWe_foldAt_82, w32_id (by omega)]
          exact hmid _ _ _ _ _ _ (by rw [if_neg h4])
