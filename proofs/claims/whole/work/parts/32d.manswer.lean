/-! LAYER 3, THE ANSWER: the reference, its best -/
def tF (R : RT) (s l o c y : Int) : Int := c * scI (R 4 1) (l - 1) * eO R s (o - 1) y + (4 - c) * scI (R 4 1) (l - 1) * eO R s o y
def tP (R : RT) (s dd l o e : Int) (k : Nat) (p : Int) : Int := if wnO R s p = 0 then -(mO R s dd k p * cst R s e * scI (R 4 1) l) + sumN (fun m => mO R s dd k p * wO R s dd m * tF R s l o (chA R s e) (ct p m)) (pw (R 4 1)).toNat else 0
theorem tP_sum {R : RT} (h : WR R) {s dd l o e : Int} {k : Nat} (hs : 0 ≤ s ∧ s < R 4 1) : sumN (tP R s dd l o e k) 125 = -(goO R s dd k * cst R s e * scI (R 4 1) l) + (chA R s e * scI (R 4 1) (l - 1) * pdO R s dd (k + 1) (o - 1) + (4 - chA R s e) * scI (R 4 1) (l - 1) * pdO R s dd (k + 1) o) := by
  have e1 : sumN (tP R s dd l o e k) 125 = sumN (fun p => (if wnO R s p = 0 then mO R s dd k p else 0) * (-(cst R s e * scI (R 4 1) l))) 125 + sumN (fun p => if wnO R s p = 0 then sumN (fun m => mO R s dd k p * wO R s dd m * tF R s l o (chA R s e) (ct p m)) (pw (R 4 1)).toNat else 0) 125 := by
    rw [← sumN_add]
    refine sumN_congr 125 (fun p _ _ => ?_)
    unfold tP
    by_cases hw : wnO R s p = 0
    · rw [if_pos hw, if_pos hw, if_pos hw]
      congr 1
      grind
    · rw [if_neg hw, if_neg hw, if_neg hw, Int.zero_mul]; rfl
  rw [e1, sumN_mul, ← mO_ex h hs (F := tF R s l o (chA R s e))]
  have e2 : sumN (fun y => mO R s dd (k + 1) y * tF R s l o (chA R s e) y) 125 = sumN (fun y => mO R s dd (k + 1) y * eO R s (o - 1) y * (chA R s e * scI (R 4 1) (l - 1)) + mO R s dd (k + 1) y * eO R s o y * ((4 - chA R s e) * scI (R 4 1) (l - 1))) 125 := sumN_congr 125 (fun y _ _ => by
    unfold tF
    generalize mO R s dd (k + 1) y = a
    generalize eO R s (o - 1) y = b
    generalize eO R s o y = c
    generalize chA R s e = f
    generalize scI (R 4 1) (l - 1) = g
    grind)
  rw [e2, sumN_add, sumN_mul, sumN_mul]
  show goO R s dd k * -(cst R s e * scI (R 4 1) l) + (pdO R s dd (k + 1) (o - 1) * (chA R s e * scI (R 4 1) (l - 1)) + pdO R s dd (k + 1) o * ((4 - chA R s e) * scI (R 4 1) (l - 1))) = _
  generalize goO R s dd k = a
  generalize pdO R s dd (k + 1) (o - 1) = b
  generalize pdO R s dd (k + 1) o = c
  generalize chA R s e = f
  generalize scI (R 4 1) (l - 1) = g
  grind
section
variable {d : Nat} {Q : AV → Mem → Prop} {X : Nat → Mem → Prop}
theorem m_blindBy {M : Mem} {R : RT} {s dd t o e : Int} {pv : Int → Int64} (hM : MR R M) (h : WR R) (hs : 0 ≤ s ∧ s < R 4 1) (hdd : 0 ≤ dd ∧ dd ≤ 3) (ht : 0 ≤ t ∧ t < R 4 2) (ho : 1 ≤ o ∧ o ≤ stp R s) (he : 0 ≤ e ∧ e ≤ 3)
    (h107 : ∀ y : Int, 0 ≤ y → y < 125 → M.2 107 0 y.toNat = Int64.ofInt (oO R s dd t.toNat y)) (hp0 : pv 0 = 0) (hp : ∀ u : Int, 1 ≤ u → u ≤ o → M.2 114 (t + 1).toNat u.toNat = pv u) : Call (d + 4) qMo_blindBy [vr 10 0, vi s, vi dd, vi t, vi o, vi e] M Q X = Q (vl (blV R s dd pv (R 4 2 - t) o e)) M := by
  refine Call_eq (fun Q X hq => ?_) Q X
  have hb := h.b
  have hpw := pw_n (n := R 4 1) (by omega)
  have hst := h.stp s (by omega)
  have hc := chA_R h (s := s) (e := e) (by omega) (by omega)
  have hk := h.cst s e (by omega) (by omega)
  have hsu : su s = 1 ∨ su s = 5 ∨ su s = 25 := by unfold su; repeat' split
                                                   all_goals simp
  have n13 := hM.2.1
  have n20 := hM.1
  generalize hl : R 4 2 - t = l at *
  have e1 : w32 (R 4 2 - t) = l := by rw [w32_id (by omega)]; exact hl
  have e2 : w32 (l - 1) = l - 1 := w32_id (by omega)
  have start : At (d + 3) kMo_blindBy 10 [vr 10 0, vi s, vi dd, vi t, vi o, vi e, JK, JK, JK, JK, JK, JK, JK, JK, JK, JK, JK, JK, JK] [vi (chA R s e)] M Q X := by
    rw [bMo_blindBy_10, n20, n13, e1, Int.mul_comm (R 4 1) l, m_scale (by omega) (by omega), KV_eq, bMo_blindBy_21, n20, n13, e1, e2, Int.mul_comm (R 4 1) (l - 1), m_scale (by omega) (by omega), KV_eq, bMo_blindBy_32]
    refine loop_up (fun (p : Int) (A : Int64 × AV × AV × AV × AV × AV) => At (d + 3) kMo_blindBy 35 [vr 10 0, vi s, vi dd, vi t, vi o, vi e, vi (chA R s e), vl A.1, JK, vl (sc (R 4 1) l), JK, vl (sc (R 4 1) (l - 1)), JK, vi p, A.2.1, A.2.2.1, A.2.2.2.1, A.2.2.2.2.1, A.2.2.2.2.2] [] M Q X) (fun (p : Int) (A : Int64 × AV × AV × AV × AV × AV) => A.1 = Int64.ofInt (sumN (tP R s dd l o e t.toNat) p.toNat)) 0 125 ?_ ?_ 0 (0, _, _, _, _, _) (by omega) (by omega) rfl
    · rintro ⟨y7, z14, z15, z16, z17, z18⟩ hy
      have hy : y7 = Int64.ofInt (sumN (tP R s dd l o e t.toNat) 125) := hy
      have fin : ∀ v : Int64, v = Int64.ofInt (chA R s e) * pv (o - 1) → Q (vl ((y7 + v) + Int64.ofInt (w32 (4 - chA R s e)) * M.2 114 (0 * 7 + (w32 (t + 1)).toNat) o.toNat)) M := by
        intro v hv
        have ee : (y7 + v) + Int64.ofInt (w32 (4 - chA R s e)) * M.2 114 (0 * 7 + (w32 (t + 1)).toNat) o.toNat = blV R s dd pv l o e := by
          rw [w32_id (z := 4 - chA R s e) (by omega), w32_id (z := t + 1) (by omega), show 0 * 7 + (t + 1).toNat = (t + 1).toNat by omega, hp o (by omega) (by omega), hv, hy, tP_sum h hs]
          unfold blV enV
          rw [show (R 4 2 - (l - 1)).toNat = t.toNat + 1 by omega, show (R 4 2 - l).toNat = t.toNat by omega, sc_I, sc_I]
          generalize goO R s dd t.toNat = a
          generalize pdO R s dd (t.toNat + 1) (o - 1) = b
          generalize pdO R s dd (t.toNat + 1) o = c'
          generalize chA R s e = f
          generalize scI (R 4 1) (l - 1) = g
          generalize scI (R 4 1) l = g2
          generalize cst R s e = kk
          rw [Int64.ofInt_add, Int64.ofInt_neg, Int64.ofInt_add, Int64.ofInt_mul, Int64.ofInt_mul, Int64.ofInt_mul, Int64.ofInt_mul, Int64.ofInt_mul, Int64.ofInt_mul, of4s]
          grind
        rw [ee]; exact hq
      show At _ _ _ _ _ _ _ _
      rw [bMo_blindBy_35, if_pos (by omega), bMo_blindBy_142]
      by_cases h1 : o ≤ 1
      · rw [if_pos h1, bMo_blindBy_160, bMo_blindBy_161 (by rw [w32_id (by omega)]; omega)]
        refine fin 0 ?_
        rw [show o - 1 = 0 by omega, hp0]; grind
      · rw [if_neg h1, bMo_blindBy_146 (by rw [w32_id (by omega), w32_id (by omega)]; omega), bMo_blindBy_161 (by rw [w32_id (by omega)]; omega)]
        refine fin _ ?_
        rw [w32_id (z := t + 1) (by omega), w32_id (z := o - 1) (by omega), show 0 * 7 + (t + 1).toNat = (t + 1).toNat by omega, hp (o - 1) (by omega) (by omega)]
    · rintro p ⟨y7, z14, z15, z16, z17, z18⟩ p0 p1 hy ih
      have hy : y7 = Int64.ofInt (sumN (tP R s dd l o e t.toNat) p.toNat) := hy
      have hob := oO_b h hs (dd := dd) (by omega) (k := t.toNat) (by omega) (y := p) ⟨p0, p1⟩
      have hss : sumN (tP R s dd l o e t.toNat) (p + 1).toNat = sumN (tP R s dd l o e t.toNat) p.toNat + tP R s dd l o e t.toNat p := sumN_s p0
      have next : ∀ (v : Int64) (z14 z15 z16 z17 z18 : AV), v = Int64.ofInt (sumN (tP R s dd l o e t.toNat) p.toNat + tP R s dd l o e t.toNat p) → At (d + 3) kMo_blindBy 140 [vr 10 0, vi s, vi dd, vi t, vi o, vi e, vi (chA R s e), vl v, JK, vl (sc (R 4 1) l), JK, vl (sc (R 4 1) (l - 1)), JK, vi p, z14, z15, z16, z17, z18] [] M Q X := by
        intro v z14 z15 z16 z17 z18 hv
        rw [bMo_blindBy_140, w32_id (by omega)]
        refine ih (v, _, _, _, _, _) ?_
        show v = _
        rw [hv, hss]
      show At _ _ _ _ _ _ _ _
      rw [bMo_blindBy_35, if_neg (by omega), bMo_blindBy_38 (by omega), h107 p p0 p1]
      by_cases hz : oO R s dd t.toNat p = 0
      · have ec : cmp64 (Int64.ofInt (oO R s dd t.toNat p)) 0 = 0 := by rw [hz]; rfl
        rw [if_neg (fun z => z ec), bMo_blindBy_45]
        refine next _ _ _ _ _ _ ?_
        have e0 : tP R s dd l o e t.toNat p = 0 := by
          unfold oO at hz
          unfold tP
          by_cases hw : wnO R s p = 0
          · rw [if_pos hw] at hz ⊢
            rw [hz, sumN_z _ (fun m _ _ => by rw [Int.zero_mul, Int.zero_mul]), Int.zero_mul, Int.zero_mul]; rfl
          · rw [if_neg hw]
        rw [e0, Int.add_zero]; exact hy
      · have ec : ¬ cmp64 (Int64.ofInt (oO R s dd t.toNat p)) 0 = 0 := fun z => by
          have := cmp64_eq.mp z
          have e := congrArg Int64.toInt this
          rw [toI_of (by omega)] at e
          exact hz e
        have hw : wnO R s p = 0 := by
          by_cases hw : wnO R s p = 0
          · exact hw
          · unfold oO at hz; rw [if_neg hw] at hz; exact absurd rfl hz
        have eo : oO R s dd t.toNat p = mO R s dd t.toNat p := by unfold oO; rw [if_pos hw]
        have h107p : M.2 107 0 p.toNat = Int64.ofInt (mO R s dd t.toNat p) := by rw [h107 p p0 p1, eo]
        rw [eo] at hz
        have hP := mO_Pl h hs t.toNat p hz
        rw [if_pos ec, bMo_blindBy_46 (by omega), m_costOf hM h (by omega) (by omega), KV_eq, bMo_blindBy_55, h107p]
        refine loop_up (fun (m : Int) (A : Int64 × AV × AV × AV × AV) => At (d + 3) kMo_blindBy 63 [vr 10 0, vi s, vi dd, vi t, vi o, vi e, vi (chA R s e), vl A.1, JK, vl (sc (R 4 1) l), JK, vl (sc (R 4 1) (l - 1)), JK, vi p, vi m, A.2.1, A.2.2.1, A.2.2.2.1, A.2.2.2.2] [] M Q X) (fun (m : Int) (A : Int64 × AV × AV × AV × AV) => A.1 = Int64.ofInt (sumN (tP R s dd l o e t.toNat) p.toNat + (-(mO R s dd t.toNat p * cst R s e * scI (R 4 1) l) + sumN (fun m => mO R s dd t.toNat p * wO R s dd m * tF R s l o (chA R s e) (ct p m)) m.toNat))) 0 (pw (R 4 1)) ?_ ?_ 0 (_, _, _, _, _) (by omega) (by omega) ?_
        · rintro ⟨v7, z15, z16, z17, z18⟩ hv
          have hv : v7 = Int64.ofInt (sumN (tP R s dd l o e t.toNat) p.toNat + (-(mO R s dd t.toNat p * cst R s e * scI (R 4 1) l) + sumN (fun m => mO R s dd t.toNat p * wO R s dd m * tF R s l o (chA R s e) (ct p m)) (pw (R 4 1)).toNat)) := hv
          show At _ _ _ _ _ _ _ _
          rw [bMo_blindBy_63, n20, bshl_pw (by omega), if_pos (by omega)]
          refine next _ _ _ _ _ _ ?_
          rw [hv]
          congr 2
          unfold tP
          rw [if_pos hw]
        · rintro m ⟨v7, z15, z16, z17, z18⟩ m0 m1 hv ihm
          have hv : v7 = Int64.ofInt (sumN (tP R s dd l o e t.toNat) p.toNat + (-(mO R s dd t.toNat p * cst R s e * scI (R 4 1) l) + sumN (fun m => mO R s dd t.toNat p * wO R s dd m * tF R s l o (chA R s e) (ct p m)) m.toNat)) := hv
          have hwR := wO_R h (s := s) (m := m) (d := dd) (by omega)
          have hsm : sumN (fun m => mO R s dd t.toNat p * wO R s dd m * tF R s l o (chA R s e) (ct p m)) (m + 1).toNat = sumN (fun m => mO R s dd t.toNat p * wO R s dd m * tF R s l o (chA R s e) (ct p m)) m.toNat + mO R s dd t.toNat p * wO R s dd m * tF R s l o (chA R s e) (ct p m) := sumN_s m0
          have nextm : ∀ (v : Int64) (z15 z16 z17 z18 : AV), v = v7 + Int64.ofInt (mO R s dd t.toNat p * wO R s dd m * tF R s l o (chA R s e) (ct p m)) → At (d + 3) kMo_blindBy 138 [vr 10 0, vi s, vi dd, vi t, vi o, vi e, vi (chA R s e), vl v, JK, vl (sc (R 4 1) l), JK, vl (sc (R 4 1) (l - 1)), JK, vi p, vi m, z15, z16, z17, z18] [] M Q X := by
            intro v z15 z16 z17 z18 hvv
            rw [bMo_blindBy_138, w32_id (by omega)]
            refine ihm (v, _, _, _, _) ?_
            show v = _
            rw [hvv, hv, hsm, ← Int64.ofInt_add]
            congr 1
            omega
          show At _ _ _ _ _ _ _ _
          rw [bMo_blindBy_63, n20, bshl_pw (by omega), if_neg (by omega), bMo_blindBy_69, m_othersWeight (d := d + 2) hM h hdd (by omega), KV_eq, bMo_blindBy_74]
          by_cases hwz : wO R s dd m = 0
          · have ec2 : cmp64 (Int64.ofInt (wO R s dd m)) 0 = 0 := by rw [hwz]; rfl
            rw [if_neg (fun z => z ec2), bMo_blindBy_79]
            refine nextm _ _ _ _ _ ?_
            rw [hwz, Int.mul_zero, Int.zero_mul]
            show v7 = v7 + 0
            grind
          · have ec2 : ¬ cmp64 (Int64.ofInt (wO R s dd m)) 0 = 0 := fun z => by
              have := cmp64_eq.mp z
              have e := congrArg Int64.toInt this
              rw [toI_of (by omega)] at e
              exact hwz e
            have hPc := hP.ctP (by omega) hs ⟨m0, m1⟩ hw hwz
            have hcR := hPc.1
            have u1 : w32 ((o - 1) * su s) = (o - 1) * su s := by rcases hsu with q | q | q <;> rw [q] <;> exact w32_id (by omega)
            have u2 : w32 (ct p m + (o - 1) * su s) = ct p m + (o - 1) * su s := by rcases hsu with q | q | q <;> rw [q] <;> exact w32_id (by omega)
            have u3 : w32 (o * su s) = o * su s := by rcases hsu with q | q | q <;> rw [q] <;> exact w32_id (by omega)
            have u4 : w32 (ct p m + o * su s) = ct p m + o * su s := by rcases hsu with q | q | q <;> rw [q] <;> exact w32_id (by omega)
            rw [if_pos ec2, bMo_blindBy_80, m_comesTo ⟨p0, p1⟩ (by omega), KV_eq, bMo_blindBy_84, m_unitOf, KV_eq, bMo_blindBy_87 (by omega), w32_id (z := o - 1) (by omega), u1, u2, m_endsBy hM h hs hPc (by omega), KV_eq, bMo_blindBy_110 (by omega), u3, u4, m_endsBy hM h hs hPc (by omega), KV_eq, bMo_blindBy_135, h107p]
            refine nextm _ _ _ _ _ ?_
            rw [w32_id (z := 4 - chA R s e) (by omega), sc_I]
            unfold tF
            generalize mO R s dd t.toNat p = a
            generalize wO R s dd m = w'
            generalize eO R s (o - 1) (ct p m) = e1'
            generalize eO R s o (ct p m) = e0'
            generalize chA R s e = f
            generalize scI (R 4 1) (l - 1) = g
            rw [Int64.ofInt_mul, Int64.ofInt_mul, Int64.ofInt_add, Int64.ofInt_mul, Int64.ofInt_mul, Int64.ofInt_mul, Int64.ofInt_mul]
            grind
        · show y7 - (Int64.ofInt (mO R s dd t.toNat p) * Int64.ofInt (cst R s e)) * sc (R 4 1) l = _
          rw [hy, sc_I, ← Int64.ofInt_mul, ← Int64.ofInt_mul, ← ofI_sub]
          congr 1
          show _ = _ + (_ + (0 : Int))
          omega
  rw [eMo_blindBy, bMo_blindBy_0]
  by_cases h0 : e = 0
  · rw [if_neg (by omega), bMo_blindBy_2]
    have em : chA R s e = 0 := by unfold chA; rw [if_pos h0]
    rw [em] at start
    exact start
  · have em : chA R s e = chc R s e := by unfold chA; rw [if_neg h0]
    rw [if_pos h0, bMo_blindBy_4 (by omega), show 0 * 3 + s.toNat = s.toNat by omega, (hM.2.2.2.2.2.2.2 s e hs.1 (by omega) (by omega) (by omega)).2]
    rw [em] at start
    exact start
abbrev pAn (t _ _ : Nat) : Prop := t = 107 ∨ t = 108 ∨ t = 114
/-- one week of the reference's answer -/
theorem m_ansWeek {M : Mem} {R : RT} {s dd t : Int} {z4 z5 z6 z7 z8 : AV} (hM : MR R M) (h : WR R) (hs : 0 ≤ s ∧ s < R 4 1) (hdd : 0 ≤ dd ∧ dd ≤ 3) (ht : 0 ≤ t ∧ t < R 4 2) (hp : ∀ u : Int, 1 ≤ u → u ≤ stp R s → M.2 114 (t + 1).toNat u.toNat = bst R s dd (R 4 2 - t - 1).toNat u)
    (hq : ∀ M' z4 z5 z6 z7 z8, Fs (fun u i _ => u = 107 ∨ u = 108 ∨ (u = 114 ∧ i = t.toNat)) M M' → (∀ u : Int, 1 ≤ u → u ≤ stp R s → M'.2 114 t.toNat u.toNat = bst R s dd (R 4 2 - t).toNat u) → At (d + 63) kMo_answer 62 [vr 10 0, vi s, vi dd, vi (t - 1), z4, z5, z6, z7, z8] [] M' Q X) : At (d + 63) kMo_answer 62 [vr 10 0, vi s, vi dd, vi t, z4, z5, z6, z7, z8] [] M Q X := by
  have hb := h.b
  have hst := h.stp s (by omega)
  have hpc := h.pcs s (by omega)
  have hsu : su s = 1 ∨ su s = 5 ∨ su s = 25 := by unfold su; repeat' split
                                                   all_goals simp
  have hbg : 0 ≤ bgn R ∧ bgn R < 125 := bgo_R h (R 4 1)
  have hsU := (stU_Pl h (s := s) (by omega)).1.1
  rw [bMo_answer_62, if_neg (by omega), bMo_answer_64]
  refine loop_up (fun (x : Int) (M1 : Mem) => At (d + 63) kMo_answer 66 [vr 10 0, vi s, vi dd, vi t, vi x, z5, z6, z7, z8] [] M1 Q X) (fun (x : Int) (M1 : Mem) => Fs (fun u i _ => u = 107 ∧ i = 0) M M1 ∧ ∀ y : Int, 0 ≤ y → y < x → M1.2 107 0 y.toNat = 0) 0 125 ?_ ?_ 0 M (by omega) (by omega) ⟨Fs.rf, fun y a b => by omega⟩
  · rintro M1 ⟨f1, g1⟩
    have hM1 : MR R M1 := hM.fs f1 (fun t i j z => by omega)
    have eu : w32 (stp R s * su s) = stp R s * su s := by rcases hsu with q | q | q <;> rw [q] <;> exact w32_id (by omega)
    have eu2 : w32 (bgn R - stp R s * su s) = stU R s := by
      unfold stU
      rcases hsu with q | q | q <;> rw [q] <;> exact w32_id (by omega)
    show At _ _ _ _ _ _ _ _
    rw [bMo_answer_66, if_pos (by omega), bMo_answer_76, m_beginPlace hM1 h, KV_eq, bMo_answer_80 (by omega), m_unitOf, KV_eq, (hM1.2.2.2.2.2.2.1 s hs.1 (by omega)).1, bMo_answer_86 (by rw [eu, eu2]; omega), eu, eu2]
    refine loop_up (fun (x : Int) (M2 : Mem) => At (d + 63) kMo_answer 92 [vr 10 0, vi s, vi dd, vi t, vi x, z5, z6, z7, z8] [] M2 Q X) (fun (x : Int) (M2 : Mem) => Fs (fun u _ _ => u = 107 ∨ u = 108) M M2 ∧ ∀ y : Int, 0 ≤ y → y < 125 → M2.2 107 0 y.toNat = Int64.ofInt (oO R s dd x.toNat y)) 0 t ?_ ?_ 0 _ (by omega) (by omega) ⟨(f1.mono (fun u i j z => by omega)).sL (by omega), fun y a b => ?_⟩
    · rintro M2 ⟨f2, g2⟩
      have hM2 : MR R M2 := hM.fs f2 (fun t i j z => by omega)
      show At _ _ _ _ _ _ _ _
      rw [bMo_answer_92, if_pos (by omega), bMo_answer_101]
      refine loop_up (fun (o : Int) (A : Mem × AV × AV × AV × AV) => At (d + 63) kMo_answer 103 [vr 10 0, vi s, vi dd, vi t, vi o, A.2.1, A.2.2.1, A.2.2.2.1, A.2.2.2.2] [] A.1 Q X) (fun (o : Int) (A : Mem × AV × AV × AV × AV) => Fs (fun u i _ => u = 114 ∧ i = t.toNat) M2 A.1 ∧ ∀ u : Int, 1 ≤ u → u < o → A.1.2 114 t.toNat u.toNat = bst R s dd (R 4 2 - t).toNat u) 1 (stp R s + 1) ?_ ?_ 1 (M2, _, _, _, _) (by omega) (by omega) ⟨Fs.rf, fun u a b => by omega⟩
      · rintro ⟨M3, z5, z6, z7, z8⟩ ⟨f3, g3⟩
        have hM3 : MR R M3 := hM2.fs f3 (fun t i j z => by omega)
        show At _ _ _ _ _ _ _ _
        rw [bMo_answer_103 (by omega), (hM3.2.2.2.2.2.2.1 s hs.1 (by omega)).1, if_pos (by omega), bMo_answer_152, show t + -1 = t - 1 by omega, w32_id (by omega)]
        exact hq M3 _ _ _ _ _ ((f2.mono (fun u i j z => by omega)).tr (f3.mono (fun u i j z => Or.inr (Or.inr z)))) (fun u a b => g3 u a (by omega))
      · rintro o ⟨M3, z5, z6, z7, z8⟩ o0 o1 ⟨f3, g3⟩ ih
        have hM3 : MR R M3 := hM2.fs f3 (fun t i j z => by omega)
        have hbl : ∀ (M4 : Mem) (e : Int) (Q' : AV → Mem → Prop) (X' : Nat → Mem → Prop), Fs (fun u i _ => u = 114 ∧ i = t.toNat) M2 M4 → 0 ≤ e → e ≤ 3 → Call (d + 63) qMo_blindBy [vr 10 0, vi s, vi dd, vi t, vi o, vi e] M4 Q' X' = Q' (vl (blV R s dd (bst R s dd (R 4 2 - t - 1).toNat) (R 4 2 - t) o e)) M4 := by
          intro M4 e Q' X' f4 e0 e3
          exact m_blindBy (d := d + 59) (hM2.fs f4 (fun t i j z => by omega)) h hs hdd ht (by omega) ⟨e0, e3⟩ (fun y a b => by rw [f4.g2 107 0 _ (by omega)]; exact g2 y a b) (bst_0 _) (fun u a b => by
            rw [f4.g2 114 _ _ (by omega), f2.g2 114 _ _ (by omega)]; exact hp u a (by omega))
        have n7 : 0 * 7 + t.toNat = t.toNat := by omega
        have hbs : bst R s dd (R 4 2 - t).toNat o = mxe (blV R s dd (bst R s dd (R 4 2 - t - 1).toNat) (R 4 2 - t) o) (pcs R s).toNat := bst_s (by omega) (by omega)
        generalize hv : blV R s dd (bst R s dd (R 4 2 - t - 1).toNat) (R 4 2 - t) o = v at *
        show At _ _ _ _ _ _ _ _
        rw [bMo_answer_103 (by omega), (hM3.2.2.2.2.2.2.1 s hs.1 (by omega)).1, if_neg (by omega), bMo_answer_109, bMo_answer_113 (by omega), (hM3.2.2.2.2.2.2.1 s hs.1 (by omega)).2, if_neg (by omega), bMo_answer_119, hbl M3 0 _ _ f3 (by omega) (by omega), KV_eq, bMo_answer_126, if_pos rfl, bMo_answer_139 (by omega), n7, bMo_answer_148, w32_id (by omega)]
        refine loop_up (fun (e : Int) (A : Mem × AV × AV) => At (d + 63) kMo_answer 113 [vr 10 0, vi s, vi dd, vi t, vi o, vi 1, vi e, A.2.1, A.2.2] [] A.1 Q X) (fun (e : Int) (A : Mem × AV × AV) => Fs (fun u i _ => u = 114 ∧ i = t.toNat) M2 A.1 ∧ (∀ u : Int, 1 ≤ u → u < o → A.1.2 114 t.toNat u.toNat = bst R s dd (R 4 2 - t).toNat u) ∧ A.1.2 114 t.toNat o.toNat = mxe v (e - 1).toNat) 1 (pcs R s + 1) ?_ ?_ 1 (_, _, _) (by omega) (by omega) ⟨?_, ?_, ?_⟩
        · rintro ⟨M4, z7, z8⟩ ⟨f4, g4, q4⟩
          have hM4 : MR R M4 := hM2.fs f4 (fun t i j z => by omega)
          show At _ _ _ _ _ _ _ _
          rw [bMo_answer_113 (by omega), (hM4.2.2.2.2.2.2.1 s hs.1 (by omega)).2, if_pos (by omega), bMo_answer_150, w32_id (by omega)]
          refine ih (M4, _, _, _, _) ⟨f4, fun u a b => ?_⟩
          by_cases z : u = o
          · subst z
            show M4.2 114 _ _ = _
            rw [hbs]
            have q4 : M4.2 114 t.toNat u.toNat = mxe v (pcs R s + 1 - 1).toNat := q4
            rw [q4, show pcs R s + 1 - 1 = pcs R s by omega]
          · exact g4 u a (by omega)
        · rintro e ⟨M4, z7, z8⟩ e0 e1 ⟨f4, g4, q4⟩ ih4
          have hM4 : MR R M4 := hM2.fs f4 (fun t i j z => by omega)
          have q4 : M4.2 114 t.toNat o.toNat = mxe v (e - 1).toNat := q4
          have hen : (e + 1 - 1).toNat = (e - 1).toNat + 1 := by omega
          have hec : (((e - 1).toNat + 1 : Nat) : Int) = e := by omega
          have hmx : mxe v (e + 1 - 1).toNat = mxJ (mxe v (e - 1).toNat) (v e) := by
            rw [hen]
            show mxJ (mxe v (e - 1).toNat) (v (((e - 1).toNat + 1 : Nat) : Int)) = _
            rw [hec]
          show At _ _ _ _ _ _ _ _
          rw [bMo_answer_113 (by omega), (hM4.2.2.2.2.2.2.1 s hs.1 (by omega)).2, if_neg (by omega), bMo_answer_119, hbl M4 e _ _ f4 (by omega) (by omega), KV_eq, bMo_answer_126, if_neg (by omega), bMo_answer_129 (by omega), n7, q4]
          by_cases hlt : mxe v (e - 1).toNat < v e
          · rw [if_pos (cmp64_gt.mpr hlt), bMo_answer_139 (by omega), n7, bMo_answer_148, w32_id (by omega)]
            refine ih4 (_, _, _) ⟨f4.sL ⟨rfl, rfl⟩, fun u a b => ?_, ?_⟩
            · show (sL M4 _ _ _ _).2 _ _ _ = _
              rw [sL2, if_neg (by omega)]; exact g4 u a b
            · show (sL M4 _ _ _ _).2 _ _ _ = _
              rw [sL_eq, hmx]; unfold mxJ; rw [if_pos hlt]
          · rw [if_neg (fun z => hlt (cmp64_gt.mp z)), bMo_answer_138, bMo_answer_148, w32_id (by omega)]
            refine ih4 (M4, _, _) ⟨f4, g4, ?_⟩
            show M4.2 _ _ _ = _
            rw [q4, hmx]; unfold mxJ; rw [if_neg hlt]
        · exact f3.sL ⟨rfl, rfl⟩
        · intro u a b
          show (sL M3 _ _ _ _).2 _ _ _ = _
          rw [sL2, if_neg (by omega)]; exact g3 u a b
        · show (sL M3 _ _ _ _).2 _ _ _ = _
          rw [sL_eq]; rfl
    · rintro x M2 x0 x1 ⟨f2, g2⟩ ih
      have hM2 : MR R M2 := hM.fs f2 (fun t i j z => by omega)
      show At _ _ _ _ _ _ _ _
      rw [bMo_answer_92, if_neg (by omega), bMo_answer_95]
      refine m_goesOn (d := d + 60) (k := x.toNat) hM2 h hs hdd (by omega) g2 ?_
      intro M3 f3 g3
      rw [KU_eq, bMo_answer_99, w32_id (by omega)]
      refine ih M3 ⟨f2.tr (f3.mono (fun u i j z => z.1)), fun y a b => ?_⟩
      rw [show (x + 1).toNat = x.toNat + 1 by omega]; exact g3 y a b
    · show (sL M1 _ _ _ _).2 _ _ _ = _
      have hw0 : wnO R s (stU R s) = 0 := wnO_0.mpr (fun i i0 i3 i1 i2 => by
        rw [(stU_Pl h (s := s) (by omega)).2 i i0 i3 i2]
        have c := h.2.2.2.2.2.2.2.1 i.toNat (by omega)
        have e : stp R i = R 33 i.toNat := rfl
        omega)
      rw [sL2]
      unfold oO
      rw [show (0 : Int).toNat = 0 from rfl, mO_z]
      by_cases hy : y = stU R s
      · rw [if_pos (by rw [hy]; exact ⟨rfl, rfl, rfl⟩), if_pos hy, hy, if_pos hw0]; rfl
      · rw [if_neg (by omega), if_neg hy, g1 y a b]
        split <;> rfl
  · rintro x M1 x0 x1 ⟨f1, g1⟩ ih
    show At _ _ _ _ _ _ _ _
    rw [bMo_answer_66, if_neg (by omega), bMo_answer_69 (by omega), w32_id (by omega)]
    refine ih _ ⟨f1.sL ⟨rfl, rfl⟩, fun y a b => ?_⟩
    by_cases z : y = x
    · subst z; exact sL_eq
    · rw [sL2, if_neg (by omega)]; exact g1 y a (by omega)
theorem m_answer {M : Mem} {R : RT} {s k : Int} (hc : Cur R M)
    (hq : ∀ M' v, MS R M M' → M'.1 10 0 0 = tAn R s k → (tAn R s k = 0 → v = bst R s k (R 4 2).toNat (stp R s)) → Q (vl v) M') : Call (d + 64) qMo_answer [vr 10 0, vi s, vi k] M Q X := by
  have h20 := hc.n
  rw [eMo_answer, bMo_answer_0, th_ne (by omega), h20]
  by_cases h0 : R 4 1 = 0
  · rw [if_neg (fun z => z h0), bMo_answer_7, bMo_answer_10, m_bad1 (by omega), KV_eq, bMo_answer_12, if_pos (by omega), bMo_answer_40]
    refine hq _ _ (MS.th hc 1) ?_ ?_
    · unfold tAn; rw [if_pos h0]; exact th0_eq
    · unfold tAn; rw [if_pos h0]; intro z; omega
  rw [if_pos h0, bMo_answer_9, bMo_answer_10, m_bad0, KV_eq, bMo_answer_12, if_neg (by omega), bMo_answer_13, th_ne (by omega), h20]
  rcases id hc with hc0 | ⟨B, n, T, hx, hcm⟩
  · exact absurd hc0.1 h0
  have hW := hx.wr
  have hb := hW.b
  have hn1 := hx.2.1
  rw [w32_id (by omega), m_in, KV_eq, bMo_answer_21]
  by_cases hs : 0 ≤ s ∧ s < R 4 1
  · rw [if_pos (by rw [if_pos (by omega)]; omega), bMo_answer_24, bMo_answer_25, m_bad0, KV_eq, bMo_answer_27, if_neg (by omega), bMo_answer_28, m_in, KV_eq, bMo_answer_33]
    have hst := hW.stp s (by omega)
    by_cases hk : 0 ≤ k ∧ k ≤ 3
    · have tz : tAn R s k = 0 := by unfold tAn; rw [if_neg h0, if_pos hs, if_pos hk]
      rw [tz] at hq
      obtain ⟨fs0, -⟩ := MS.t0 hc
      have hcm0 : CM R B n T (sI M 10 0 0 0) := hcm.fs (by omega) ⟨hn1, by omega⟩ (P := fun t i j => t = 10 ∧ i = 0 ∧ j = 0) (Fs.rf.sI (by omega)) (fun t i j z => by omega)
      rw [if_pos (by rw [if_pos hk]; omega), bMo_answer_36, bMo_answer_37, m_bad0, KV_eq, bMo_answer_39, if_pos rfl, bMo_answer_42]
      have z0 : (sI M 10 0 0 0).1 10 0 0 = 0 := sI_eq
      generalize hM0 : sI M 10 0 0 0 = M0 at *
      have hMR := hcm0.1
      refine loop_up (fun (x : Int) (M1 : Mem) => At (d + 63) kMo_answer 44 [vr 10 0, vi s, vi k, vi x, JK, JK, JK, JK, JK] [] M1 Q X) (fun (x : Int) (M1 : Mem) => Fs pAn M0 M1 ∧ ∀ u : Int, 0 ≤ u → u < x → M1.2 114 (R 4 2).toNat u.toNat = 0) 0 5 ?_ ?_ 0 M0 (by omega) (by omega) ⟨Fs.rf, fun u a b => by omega⟩
      · rintro M1 ⟨f1, g1⟩
        have hM1 : MR R M1 := hMR.fs f1 (fun t i j z => by omega)
        show At _ _ _ _ _ _ _ _
        rw [bMo_answer_44, if_pos (by omega), bMo_answer_57, hM1.2.1, w32_id (by omega)]
        refine loop_dn (fun (t : Int) (A : Mem × AV × AV × AV × AV × AV) => At (d + 63) kMo_answer 62 [vr 10 0, vi s, vi k, vi t, A.2.1, A.2.2.1, A.2.2.2.1, A.2.2.2.2.1, A.2.2.2.2.2] [] A.1 Q X) (fun (t : Int) (A : Mem × AV × AV × AV × AV × AV) => Fs pAn M0 A.1 ∧ ∀ u : Int, 1 ≤ u → u ≤ stp R s → A.1.2 114 (t + 1).toNat u.toNat = bst R s k (R 4 2 - t - 1).toNat u) (-1) (R 4 2 - 1) ?_ ?_ (R 4 2 - 1) (M1, _, _, _, _, _) (by omega) (by omega) ⟨f1, fun u a b => ?_⟩
        · rintro ⟨M2, z4, z5, z6, z7, z8⟩ ⟨f2, g2⟩
          have hM2 : MR R M2 := hMR.fs f2 (fun t i j z => by omega)
          have e56 := (hM2.2.2.2.2.2.2.1 s hs.1 (by omega)).1
          have hsp1 : 1 ≤ stp R s := by
            have c := hW.2.2.2.2.2.2.2.1 s.toNat (by omega)
            have e : stp R s = R 33 s.toNat := rfl
            omega
          show At _ _ _ _ _ _ _ _
          rw [bMo_answer_62, if_pos (by omega), bMo_answer_154 (by rw [e56]; omega), e56]
          have g := g2 (stp R s) hsp1 (by omega)
          have e1 : (-1 + 1 : Int).toNat = 0 * 7 + (0 : Int).toNat := rfl
          have e2 : (R 4 2 - -1 - 1).toNat = (R 4 2).toNat := by omega
          rw [e1, e2] at g
          refine hq M2 _ ⟨fs0.tr (f2.mono (fun t i j z => by omega)), Or.inr ⟨B, n, T, hx, hcm0.fs (by omega) ⟨hn1, by omega⟩ f2 (fun t i j z => by omega)⟩⟩ ?_ (fun _ => g)
          rw [f2.g1 10 0 0 (fun z => by omega)]; exact z0
        · rintro t ⟨M2, z4, z5, z6, z7, z8⟩ t0 t1 ⟨f2, g2⟩ ih
          have hM2 : MR R M2 := hMR.fs f2 (fun t i j z => by omega)
          show At _ _ _ _ _ _ _ _
          refine m_ansWeek hM2 hW hs hk (by omega) g2 ?_
          intro M3 z4 z5 z6 z7 z8 f3 g3
          refine ih (M3, _, _, _, _, _) ⟨f2.tr (f3.mono (fun u i j z => by omega)), fun u a b => ?_⟩
          show M3.2 114 _ _ = _
          rw [show (t - 1 + 1).toNat = t.toNat by omega, show (R 4 2 - (t - 1) - 1).toNat = (R 4 2 - t).toNat by omega]
          exact g3 u a b
        · show M1.2 114 _ _ = _
          rw [show R 4 2 - 1 + 1 = R 4 2 by omega, show (R 4 2 - (R 4 2 - 1) - 1).toNat = 0 by omega, g1 u (by omega) (by omega)]; rfl
      · rintro x M1 x0 x1 ⟨f1, g1⟩ ih
        have hM1 : MR R M1 := hMR.fs f1 (fun t i j z => by omega)
        show At _ _ _ _ _ _ _ _
        rw [bMo_answer_44, if_neg (by omega), bMo_answer_47 (by rw [hM1.2.1]; omega), w32_id (by omega), hM1.2.1, show 0 * 7 + (R 4 2).toNat = (R 4 2).toNat by omega]
        refine ih _ ⟨f1.sL (by omega), fun u a b => ?_⟩
        by_cases z : u = x
        · subst z; exact sL_eq
        · rw [sL2, if_neg (by omega)]; exact g1 u a (by omega)
    · rw [if_neg (by rw [if_neg hk]; omega), bMo_answer_34, bMo_answer_37, m_bad1 (by omega), KV_eq, bMo_answer_39, if_neg (by omega), bMo_answer_40]
      refine hq _ _ (MS.th hc 3) ?_ ?_
      · unfold tAn; rw [if_neg h0, if_pos hs, if_neg hk]; exact th0_eq
      · unfold tAn; rw [if_neg h0, if_pos hs, if_neg hk]; intro z; omega
  · rw [if_neg (by rw [if_neg (by omega)]; omega), bMo_answer_22, bMo_answer_25, m_bad1 (by omega), KV_eq, bMo_answer_27, if_pos (by omega), bMo_answer_40]
    refine hq _ _ (MS.th hc 2) ?_ ?_
    · unfold tAn; rw [if_neg h0, if_neg hs]; exact th0_eq
    · unfold tAn; rw [if_neg h0, if_neg hs]; intro z; omega
end
