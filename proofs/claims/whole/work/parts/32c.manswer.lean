/-! LAYER 3, THE ANSWER: the reference -/
theorem dg_add {s y o k : Int} (hs : 0 ≤ s ∧ s < 3) (hy : 0 ≤ y ∧ y < 125) (h0 : dg y s = 0) (ho : 0 ≤ o ∧ o ≤ 4) (hk : 0 ≤ k ∧ k < 3) : dg (y + o * su s) k = (if k = s then o else dg y k) ∧ 0 ≤ y + o * su s ∧ y + o * su s < 125 := by
  rcases (by omega : s = 0 ∨ s = 1 ∨ s = 2) with rfl | rfl | rfl
  · have h0 : y % 5 = 0 := h0
    rw [show su 0 = 1 from rfl]
    rcases (by omega : k = 0 ∨ k = 1 ∨ k = 2) with rfl | rfl | rfl
    · rw [if_pos rfl]; exact ⟨show (y + o * 1) % 5 = o by omega, by omega, by omega⟩
    · rw [if_neg (by omega)]; exact ⟨show (y + o * 1) / 5 % 5 = y / 5 % 5 by omega, by omega, by omega⟩
    · rw [if_neg (by omega)]; exact ⟨show (y + o * 1) / 25 % 5 = y / 25 % 5 by omega, by omega, by omega⟩
  · have h0 : y / 5 % 5 = 0 := h0
    rw [show su 1 = 5 from rfl]
    rcases (by omega : k = 0 ∨ k = 1 ∨ k = 2) with rfl | rfl | rfl
    · rw [if_neg (by omega)]; exact ⟨show (y + o * 5) % 5 = y % 5 by omega, by omega, by omega⟩
    · rw [if_pos rfl]; exact ⟨show (y + o * 5) / 5 % 5 = o by omega, by omega, by omega⟩
    · rw [if_neg (by omega)]; exact ⟨show (y + o * 5) / 25 % 5 = y / 25 % 5 by omega, by omega, by omega⟩
  · have h0 : y / 25 % 5 = 0 := h0
    rw [show su 2 = 25 from rfl]
    rcases (by omega : k = 0 ∨ k = 1 ∨ k = 2) with rfl | rfl | rfl
    · rw [if_neg (by omega)]; exact ⟨show (y + o * 25) % 5 = y % 5 by omega, by omega, by omega⟩
    · rw [if_neg (by omega)]; exact ⟨show (y + o * 25) / 5 % 5 = y / 5 % 5 by omega, by omega, by omega⟩
    · rw [if_pos rfl]; exact ⟨show (y + o * 25) / 25 % 5 = o by omega, by omega, by omega⟩
/-- who goes on, after so many weeks -/
def oO (R : RT) (s dd : Int) (k : Nat) (y : Int) : Int := if wnO R s y = 0 then mO R s dd k y else 0
section
variable {d : Nat} {Q : AV → Mem → Prop} {X : Nat → Mem → Prop}
theorem m_othersWeight {M : Mem} {R : RT} {s dd m : Int} (hM : MR R M) (h : WR R) (hdd : 0 ≤ dd ∧ dd ≤ 3) (hm : 0 ≤ m ∧ m < 8) : Call (d + 1) qMo_othersWeight [vr 10 0, vi s, vi dd, vi m] M Q X = Q (vl (Int64.ofInt (wO R s dd m))) M := by
  refine Call_eq (fun Q X hq => ?_) Q X
  have hb := h.b
  have n0 := hM.1
  rw [eMo_othersWeight, bMo_othersWeight_0]
  refine loopN (α := Int64) (R 4 1) (by omega) (fun k y => ∀ z7, At d kMo_othersWeight 4 [vr 10 0, vi s, vi dd, vi m, vl y, JK, vi k, z7] [] M Q X) (fun k y => y * Int64.ofInt (wO1 R s dd m k)) ?_ ?_ 1 ?_ _
  · intro k y k1 k2 hk z7
    have hbk := bit_R m k
    have hck := chO_R h (s := s) (d := dd) (i := k) (by omega) (by omega)
    rw [bMo_othersWeight_4, n0, if_neg (by omega), bMo_othersWeight_8]
    by_cases hks : k = s
    · rw [if_pos hks, bMo_othersWeight_19, bMo_othersWeight_27, if_neg (fun z => z hks), bMo_othersWeight_32, band_bit hm (by omega)]
      by_cases h1 : bit m k = 1
      · rw [if_neg (by omega), bMo_othersWeight_39, bMo_othersWeight_57, w32_id (by omega)]
        have := hk (vi 0)
        unfold wO1 at this
        rw [if_pos k2, if_pos hks, if_pos h1] at this
        exact this
      · rw [if_pos h1, bMo_othersWeight_41, bMo_othersWeight_57, w32_id (by omega)]
        have := hk (vi 0)
        unfold wO1 at this
        rw [if_pos k2, if_pos hks, if_neg h1] at this
        exact this
    · have fin : At d kMo_othersWeight 27 [vr 10 0, vi s, vi dd, vi m, vl y, JK, vi k, z7] [vi (chO R s dd k)] M Q X := by
        rw [bMo_othersWeight_27, if_pos hks, bMo_othersWeight_43, band_bit hm (by omega)]
        by_cases h1 : bit m k = 1
        · rw [if_neg (by omega), bMo_othersWeight_50, bMo_othersWeight_57, w32_id (by omega)]
          have := hk (vi (chO R s dd k))
          unfold wO1 at this
          rw [if_pos k2, if_neg hks, if_pos h1] at this
          exact this
        · rw [if_pos h1, bMo_othersWeight_53, bMo_othersWeight_57, w32_id (z := k + 1) (by omega), w32_id (by omega)]
          have := hk (vi (chO R s dd k))
          unfold wO1 at this
          rw [if_pos k2, if_neg hks, if_neg h1] at this
          exact this
      rw [if_neg hks, bMo_othersWeight_11 (by omega), (hM.2.2.2.2.2.2.1 k k1 (by omega)).2]
      by_cases h2 : pcs R k < dd
      · have e : chO R s dd k = 0 := by unfold chO; rw [if_neg (fun z => by omega)]
        rw [e] at fin
        rw [if_pos h2, bMo_othersWeight_19]; exact fin
      · rw [if_neg h2, bMo_othersWeight_17]
        by_cases h3 : dd = 0
        · have e : chO R s dd k = 0 := by unfold chO; rw [if_neg (fun z => by omega)]
          rw [e] at fin
          rw [if_neg (fun z => z h3), bMo_othersWeight_19]; exact fin
        · have e : chO R s dd k = chc R k dd := by unfold chO; rw [if_pos ⟨hks, k2, by omega, by omega⟩]
          rw [e] at fin
          rw [if_pos h3, bMo_othersWeight_21 (by omega), show 0 * 3 + k.toNat = k.toNat by omega, (hM.2.2.2.2.2.2.2 k dd k1 (by omega) (by omega) (by omega)).2]; exact fin
  · intro k y k1 k2
    unfold wO1
    rw [if_neg (by omega), show Int64.ofInt 1 = 1 from rfl, Int64.mul_one]
  · intro z7
    rw [bMo_othersWeight_4, n0, if_pos (by omega), bMo_othersWeight_61]
    have e : (1 : Int64) * Int64.ofInt (wO1 R s dd m 0) * Int64.ofInt (wO1 R s dd m 1) * Int64.ofInt (wO1 R s dd m 2) = Int64.ofInt (wO R s dd m) := by
      unfold wO
      rw [Int64.one_mul, ← Int64.ofInt_mul, ← Int64.ofInt_mul]
    rw [e]; exact hq
theorem m_isDone {M : Mem} {R : RT} {s p : Int} (hM : MR R M) (h : WR R) (hp : 0 ≤ p ∧ p < 125) : Call (d + 2) qMo_isDone [vr 10 0, vi p, vi s] M Q X = Q (vi (if wnO R s p = 0 then 0 else 1)) M := by
  refine Call_eq (fun Q X hq => ?_) Q X
  have hb := h.b
  have n0 := hM.1
  rw [eMo_isDone, bMo_isDone_0]
  by_cases hw : wnO R s p = 0
  · rw [if_pos hw] at hq
    have hall := wnO_0.mp hw
    refine loop_up (fun (k : Int) (_ : Unit) => At (d + 1) kMo_isDone 2 [vr 10 0, vi p, vi s, vi k] [] M Q X) (fun _ _ => True) 0 (R 4 1) ?_ ?_ 0 () (by omega) (by omega) trivial
    · intro _ _
      show At _ _ _ _ _ _ _ _
      rw [bMo_isDone_2, n0, if_pos (by omega), bMo_isDone_17]; exact hq
    · intro k _ k0 k1 _ ih
      show At _ _ _ _ _ _ _ _
      rw [bMo_isDone_2, n0, if_neg (by omega), bMo_isDone_6]
      by_cases hks : k = s
      · rw [if_pos hks, bMo_isDone_15, w32_id (by omega)]; exact ih () trivial
      · rw [if_neg hks, bMo_isDone_9, m_stepsOf hp, KV_eq, bMo_isDone_12, if_pos (hall k k0 (by omega) k1 hks), bMo_isDone_15, w32_id (by omega)]; exact ih () trivial
  · rw [if_neg hw] at hq
    have hex : ∃ j : Int, 0 ≤ j ∧ j < R 4 1 ∧ j ≠ s ∧ dg p j = 0 := by
      refine Classical.byContradiction (fun hno => hw (wnO_0.mpr (fun i i0 _ i1 i2 i4 => hno ⟨i, i0, i1, i2, i4⟩)))
    refine loop_up (fun (k : Int) (_ : Unit) => At (d + 1) kMo_isDone 2 [vr 10 0, vi p, vi s, vi k] [] M Q X) (fun k _ => ∃ j : Int, k ≤ j ∧ j < R 4 1 ∧ j ≠ s ∧ dg p j = 0) 0 (R 4 1) ?_ ?_ 0 () (by omega) (by omega) hex
    · rintro _ ⟨j, j0, j1, -⟩
      omega
    · rintro k _ k0 k1 ⟨j, j0, j1, j2, j3⟩ ih
      show At _ _ _ _ _ _ _ _
      rw [bMo_isDone_2, n0, if_neg (by omega), bMo_isDone_6]
      by_cases hks : k = s
      · rw [if_pos hks, bMo_isDone_15, w32_id (by omega)]; exact ih () ⟨j, by omega, j1, j2, j3⟩
      · rw [if_neg hks, bMo_isDone_9, m_stepsOf hp, KV_eq, bMo_isDone_12]
        by_cases hd0 : dg p k = 0
        · rw [if_neg (fun z => z hd0), bMo_isDone_13]; exact hq
        · have hjk : j ≠ k := fun z => hd0 (by rw [← z]; exact j3)
          rw [if_pos hd0, bMo_isDone_15, w32_id (by omega)]; exact ih () ⟨j, by omega, j1, j2, j3⟩
theorem m_endsBy {M : Mem} {R : RT} {s y o : Int} (hM : MR R M) (h : WR R) (hs : 0 ≤ s ∧ s < R 4 1) (hP : Pl R s y) (ho : 0 ≤ o ∧ o ≤ stp R s) : Call (d + 3) qMo_endsBy [vr 10 0, vi (y + o * su s), vi s] M Q X = Q (vl (Int64.ofInt (eO R s o y))) M := by
  have hb := h.b
  have hst := h.stp s (by omega)
  have hpw := pw_n (n := R 4 1) (by omega)
  have hd0 : dg y s = 0 := by
    have := hP.2 s hs.1 (by omega)
    rw [if_pos rfl] at this
    have := dg_R y s
    omega
  have hdg : ∀ k : Int, 0 ≤ k → k < 3 → dg (y + o * su s) k = if k = s then o else dg y k := fun k k0 k3 => (dg_add (by omega) hP.1 hd0 (by omega) ⟨k0, k3⟩).1
  have hR := (dg_add (s := s) (y := y) (o := o) (k := 0) (by omega) hP.1 hd0 (by omega) (by omega)).2
  have hbe : ∀ k : Int, 0 ≤ k → k < 3 → bit (evb R) k = if k < R 4 1 then 1 else 0 := fun k k0 k3 => bit_evb (by omega) ⟨k0, k3⟩
  have hz : ∀ k : Int, 0 ≤ k → k < 3 → R 4 1 ≤ k → dg (y + o * su s) k = 0 := fun k k0 k3 hk => by
    rw [hdg k k0 k3, if_neg (by omega)]
    have a := hP.2 k k0 k3
    rw [if_neg (by omega)] at a
    have c := h.2.2.2.2.2.2.2.1 k.toNat (by omega)
    have e : stp R k = R 33 k.toNat := rfl
    have := h.stp k ⟨k0, k3⟩
    have := dg_R y k
    omega
  have hS : Sta R (y + o * su s) (evb R) := by
    refine ⟨hR, by unfold evb; omega, fun k k0 k3 hk => ⟨hz k k0 k3 hk, ?_⟩⟩
    rw [hbe k k0 k3, if_neg (by omega)]
  have hzj : ∀ k : Int, 0 ≤ k → k < 3 → zj (y + o * su s) (evb R) k * pw k = wnO1 R s y k + (if k = s ∧ o = 0 then pw k else 0) := fun k k0 k3 => by
    unfold zj wnO1
    rw [hbe k k0 k3, hdg k k0 k3]
    by_cases hks : k = s
    · rw [if_pos hks, if_pos (show k < R 4 1 by omega), if_neg (show ¬ (k < R 4 1 ∧ k ≠ s ∧ dg y k = 0) by omega)]
      by_cases h0 : o = 0
      · rw [if_pos ⟨rfl, h0⟩, if_pos ⟨hks, h0⟩]; omega
      · rw [if_neg (fun z => h0 z.2), if_neg (fun z => h0 z.2)]; omega
    · rw [if_neg hks, if_neg (show ¬ (k = s ∧ o = 0) from fun z => hks z.1)]
      by_cases hkn : k < R 4 1
      · rw [if_pos hkn]
        by_cases h0 : dg y k = 0
        · rw [if_pos ⟨rfl, h0⟩, if_pos ⟨hkn, hks, h0⟩]; omega
        · rw [if_neg (fun z => h0 z.2), if_neg (fun z => h0 z.2.2)]; omega
      · rw [if_neg hkn, if_neg (fun z => by omega), if_neg (fun z => hkn z.1)]; omega
  have hwn : wnb (y + o * su s) (evb R) = wnP R s y o := by
    have z0 := hzj 0 (by omega) (by omega)
    have z1 := hzj 1 (by omega) (by omega)
    have z2 := hzj 2 (by omega) (by omega)
    rw [show pw 0 = 1 from rfl] at z0
    rw [show pw 1 = 2 from rfl] at z1
    rw [show pw 2 = 4 from rfl] at z2
    unfold wnb wnP wnO
    have e : (if (0 : Int) = s ∧ o = 0 then (1 : Int) else 0) + (if (1 : Int) = s ∧ o = 0 then 2 else 0) + (if (2 : Int) = s ∧ o = 0 then 4 else 0) = if o = 0 then pw s else 0 := by
      by_cases h0 : o = 0
      · rcases (by omega : s = 0 ∨ s = 1 ∨ s = 2) with rfl | rfl | rfl <;> simp [h0] <;> rfl
      · rw [if_neg (fun z => h0 z.2), if_neg (fun z => h0 z.2), if_neg (fun z => h0 z.2), if_neg h0]; rfl
    omega
  have hcd : cd (y + o * su s) (evb R) = y + o * su s := by
    have hl : ∀ k : Int, 0 ≤ k → k < 3 → lsp (y + o * su s) (evb R) k = dg (y + o * su s) k := fun k k0 k3 => by
      unfold lsp
      rw [hbe k k0 k3]
      by_cases hkn : k < R 4 1
      · rw [if_pos hkn, if_pos rfl]
      · rw [if_neg hkn, if_neg (by omega), hz k k0 k3 (by omega)]
    unfold cd
    rw [hl 0 (by omega) (by omega), hl 1 (by omega) (by omega), hl 2 (by omega) (by omega)]
    show (y + o * su s) % 5 + (y + o * su s) / 5 % 5 * 5 + (y + o * su s) / 25 % 5 * 25 = y + o * su s
    omega
  have hhf : hfP (y + o * su s) (evb R) ↔ wnP R s y o ≠ 0 := by
    rw [← hwn]
    have q : ∀ k : Int, (bit (evb R) k = 1 ∧ dg (y + o * su s) k = 0) ↔ zj (y + o * su s) (evb R) k = 1 := fun k => by
      unfold zj; split
      · next z => exact ⟨fun _ => rfl, fun _ => z⟩
      · next z => exact ⟨fun w => absurd w z, fun w => by omega⟩
    have r0 := zj_R (y + o * su s) (evb R) 0
    have r1 := zj_R (y + o * su s) (evb R) 1
    have r2 := zj_R (y + o * su s) (evb R) 2
    unfold hfP wnb
    rw [q 0, q 1, q 2]
    omega
  rw [eMo_endsBy, bMo_endsBy_0, m_everybody hM h, KV_eq, bMo_endsBy_4, m_hasFirst hM h hS, KV_eq, bMo_endsBy_5]
  unfold eO
  by_cases hw : wnP R s y o = 0
  · rw [if_pos (by rw [if_neg (fun z => hhf.mp z hw)]), bMo_endsBy_14, bMo_endsBy_15, if_pos hw]; rfl
  · rw [if_neg (by rw [if_pos (hhf.mpr hw)]; omega), bMo_endsBy_6, m_everybody hM h, KV_eq, bMo_endsBy_10, m_share hM h hS (by omega), KV_eq, bMo_endsBy_12, bMo_endsBy_15, if_neg hw, hwn, hcd]
theorem oO_b {R : RT} (h : WR R) {s dd : Int} (hs : 0 ≤ s ∧ s < R 4 1) (hdd : 0 ≤ dd ∧ dd < 5) {k : Nat} (hk : k ≤ 6) {y : Int} (hy : 0 ≤ y ∧ y < 125) : 0 ≤ oO R s dd k y ∧ oO R s dd k y ≤ 16777216 := by
  have := mO_b h hs hdd hk hy
  unfold oO; split <;> omega
abbrev pGo (t i _ : Nat) : Prop := (t = 107 ∨ t = 108) ∧ i = 0
theorem m_goesOn {M : Mem} {R : RT} {s dd : Int} {k : Nat} (hM : MR R M) (h : WR R) (hs : 0 ≤ s ∧ s < R 4 1) (hdd : 0 ≤ dd ∧ dd ≤ 3) (hk : k ≤ 5) (ho : ∀ y : Int, 0 ≤ y → y < 125 → M.2 107 0 y.toNat = Int64.ofInt (oO R s dd k y))
    (hq : ∀ M', Fs pGo M M' → (∀ y : Int, 0 ≤ y → y < 125 → M'.2 107 0 y.toNat = Int64.ofInt (oO R s dd (k + 1) y)) → Q (vi 0) M') : Call (d + 3) qMo_goesOn [vr 10 0, vi s, vi dd] M Q X := by
  have hb := h.b
  have hpw := pw_n (n := R 4 1) (by omega)
  rw [eMo_goesOn, bMo_goesOn_0]
  refine loop_up (fun (x : Int) (M1 : Mem) => At (d + 2) kMo_goesOn 2 [vr 10 0, vi s, vi dd, vi x, JK, JK, JK, JK] [] M1 Q X) (fun (x : Int) (M1 : Mem) => Fs (fun t i _ => t = 108 ∧ i = 0) M M1 ∧ ∀ y : Int, 0 ≤ y → y < x → M1.2 108 0 y.toNat = 0) 0 125 ?_ ?_ 0 M (by omega) (by omega) ⟨Fs.rf, fun y a b => by omega⟩
  · rintro M1 ⟨f1, g1⟩
    show At _ _ _ _ _ _ _ _
    rw [bMo_goesOn_2, if_pos (by omega), bMo_goesOn_12]
    refine loop_up (fun (p : Int) (A : Mem × AV × AV × AV × AV) => At (d + 2) kMo_goesOn 14 [vr 10 0, vi s, vi dd, vi p, A.2.1, A.2.2.1, A.2.2.2.1, A.2.2.2.2] [] A.1 Q X) (fun (p : Int) (A : Mem × AV × AV × AV × AV) => Fs (fun t i _ => t = 108 ∧ i = 0) M A.1 ∧ ∀ y : Int, 0 ≤ y → y < 125 → A.1.2 108 0 y.toNat = Int64.ofInt (if wnO R s y = 0 then sumN (fun p => gvO R s dd (mO R s dd k) p y) p.toNat else 0)) 0 125 ?_ ?_ 0 (M1, _, _, _, _) (by omega) (by omega) ⟨f1, fun y a b => ?_⟩
    · rintro ⟨M2, z4, z5, z6, z7⟩ ⟨f2, g2⟩
      show At _ _ _ _ _ _ _ _
      rw [bMo_goesOn_14, if_pos (by omega), bMo_goesOn_76]
      refine loop_up (fun (x : Int) (A : Mem × AV) => At (d + 2) kMo_goesOn 78 [vr 10 0, vi s, A.2, vi x, z4, z5, z6, z7] [] A.1 Q X) (fun (x : Int) (A : Mem × AV) => Fs (fun t i _ => t = 107 ∧ i = 0) M2 A.1 ∧ ∀ y : Int, 0 ≤ y → y < x → A.1.2 107 0 y.toNat = M2.2 108 0 y.toNat) 0 125 ?_ ?_ 0 (M2, _) (by omega) (by omega) ⟨Fs.rf, fun y a b => by omega⟩
      · rintro ⟨M3, z2⟩ ⟨f3, g3⟩
        show At _ _ _ _ _ _ _ _
        rw [bMo_goesOn_78, if_pos (by omega), bMo_goesOn_91]
        refine hq M3 ((f2.mono (fun t i j z => by omega)).tr (f3.mono (fun t i j z => by omega))) (fun y a b => ?_)
        rw [g3 y a b, g2 y a b]
        unfold oO
        rw [mO_s]
        rfl
      · rintro x ⟨M3, z2⟩ x0 x1 ⟨f3, g3⟩ ih
        show At _ _ _ _ _ _ _ _
        rw [bMo_goesOn_78, if_neg (by omega), bMo_goesOn_81 (by omega), w32_id (by omega)]
        refine ih (_, _) ⟨f3.sL ⟨rfl, rfl⟩, fun y a b => ?_⟩
        show (sL M3 _ _ _ _).2 _ _ _ = _
        by_cases z : y = x
        · subst z; rw [sL_eq]; exact f3.g2 108 0 _ (by omega)
        · rw [sL2, if_neg (by omega)]; exact g3 y a (by omega)
    · rintro p ⟨M2, z4, z5, z6, z7⟩ p0 p1 ⟨f2, g2⟩ ih
      have hM2 : MR R M2 := hM.fs f2 (fun t i j z => by omega)
      have hcell : M2.2 107 0 p.toNat = Int64.ofInt (oO R s dd k p) := (f2.g2 107 0 _ (by omega)).trans (ho p p0 p1)
      have hob := oO_b h hs (dd := dd) (by omega) (k := k) (by omega) (y := p) ⟨p0, p1⟩
      have hss : ∀ y : Int, sumN (fun p => gvO R s dd (mO R s dd k) p y) (p + 1).toNat = sumN (fun p => gvO R s dd (mO R s dd k) p y) p.toNat + gvO R s dd (mO R s dd k) p y := fun y => sumN_s p0
      show At _ _ _ _ _ _ _ _
      rw [bMo_goesOn_14, if_neg (by omega), bMo_goesOn_17]
      by_cases hz : oO R s dd k p = 0
      · rw [bMo_goesOn_19, hM2.1, bshl_pw (by omega), if_neg (by omega), bMo_goesOn_25 (by omega), hcell, if_pos ((le0_ofI (by omega)).mpr hz), bMo_goesOn_74, w32_id (by omega)]
        refine ih (M2, _, _, _, _) ⟨f2, fun y a b => ?_⟩
        have e : gvO R s dd (mO R s dd k) p y = 0 := by
          unfold oO at hz
          unfold gvO
          by_cases hw : wnO R s p = 0
          · rw [if_pos hw] at hz ⊢
            exact sumN_z _ (fun m _ _ => by rw [hz, Int.zero_mul]; split <;> rfl)
          · rw [if_neg hw]
        show M2.2 108 0 _ = _
        rw [g2 y a b, hss, e, Int.add_zero]
      · have hw : wnO R s p = 0 := by
          by_cases hw : wnO R s p = 0
          · exact hw
          · unfold oO at hz; rw [if_neg hw] at hz; exact absurd rfl hz
        have eo : oO R s dd k p = mO R s dd k p := by unfold oO; rw [if_pos hw]
        rw [eo] at hz hcell hob
        have hP := mO_Pl h hs k p hz
        refine loop_up (fun (m : Int) (A : Mem × AV × AV × AV) => At (d + 2) kMo_goesOn 19 [vr 10 0, vi s, vi dd, vi p, vi m, A.2.1, A.2.2.1, A.2.2.2] [] A.1 Q X) (fun (m : Int) (A : Mem × AV × AV × AV) => Fs (fun t i _ => t = 108 ∧ i = 0) M A.1 ∧ ∀ y : Int, 0 ≤ y → y < 125 → A.1.2 108 0 y.toNat = Int64.ofInt (if wnO R s y = 0 then sumN (fun p => gvO R s dd (mO R s dd k) p y) p.toNat + sumN (fun m => if ct p m = y then mO R s dd k p * wO R s dd m else 0) m.toNat else 0)) 0 (pw (R 4 1)) ?_ ?_ 0 (M2, _, _, _) (by omega) (by omega) ⟨f2, fun y a b => ?_⟩
        · rintro ⟨M3, z5, z6, z7⟩ ⟨f3, g3⟩
          have hM3 : MR R M3 := hM.fs f3 (fun t i j z => by omega)
          show At _ _ _ _ _ _ _ _
          rw [bMo_goesOn_19, hM3.1, bshl_pw (by omega), if_pos (by omega), bMo_goesOn_74, w32_id (by omega)]
          refine ih (M3, _, _, _, _) ⟨f3, fun y a b => ?_⟩
          show M3.2 108 0 _ = _
          rw [g3 y a b, hss]
          have e : gvO R s dd (mO R s dd k) p y = sumN (fun m => if ct p m = y then mO R s dd k p * wO R s dd m else 0) (pw (R 4 1)).toNat := by unfold gvO; rw [if_pos hw]
          rw [e]
        · rintro m ⟨M3, z5, z6, z7⟩ m0 m1 ⟨f3, g3⟩ ihm
          have hM3 : MR R M3 := hM.fs f3 (fun t i j z => by omega)
          have hc3 : M3.2 107 0 p.toNat = Int64.ofInt (mO R s dd k p) := by
            rw [f3.g2 107 0 _ (by omega), ho p p0 p1, eo]
          have hwR := wO_R h (s := s) (m := m) (d := dd) (by omega)
          have hsm : ∀ y : Int, sumN (fun m => if ct p m = y then mO R s dd k p * wO R s dd m else 0) (m + 1).toNat = sumN (fun m => if ct p m = y then mO R s dd k p * wO R s dd m else 0) m.toNat + (if ct p m = y then mO R s dd k p * wO R s dd m else 0) := fun y => sumN_s m0
          have skip : ∀ z5 z6 z7 : AV, (∀ y : Int, wnO R s y = 0 → (if ct p m = y then mO R s dd k p * wO R s dd m else 0) = 0) → At (d + 2) kMo_goesOn 72 [vr 10 0, vi s, vi dd, vi p, vi m, z5, z6, z7] [] M3 Q X := by
            intro z5 z6 z7 hzz
            rw [bMo_goesOn_72, w32_id (by omega)]
            refine ihm (M3, _, _, _) ⟨f3, fun y a b => ?_⟩
            show M3.2 108 0 _ = _
            rw [g3 y a b, hsm]
            by_cases hwy : wnO R s y = 0
            · rw [if_pos hwy, if_pos hwy, hzz y hwy, Int.add_zero]
            · rw [if_neg hwy, if_neg hwy]
          show At _ _ _ _ _ _ _ _
          rw [bMo_goesOn_19, hM3.1, bshl_pw (by omega), if_neg (by omega), bMo_goesOn_25 (by omega), hc3, if_neg (fun z => hz ((le0_ofI (by omega)).mp z)), bMo_goesOn_32, m_othersWeight hM3 h hdd (by omega), KV_eq, bMo_goesOn_37]
          by_cases hwz : wO R s dd m = 0
          · have ec : cmp64 (Int64.ofInt (wO R s dd m)) 0 = 0 := by rw [hwz]; rfl
            rw [if_neg (fun z => z ec), bMo_goesOn_42, bMo_goesOn_48, if_pos ec]
            refine skip _ _ _ (fun y _ => ?_)
            rw [hwz, Int.mul_zero]; split <;> rfl
          · have ec : ¬ cmp64 (Int64.ofInt (wO R s dd m)) 0 = 0 := fun z => by
              have := cmp64_eq.mp z
              have e := congrArg Int64.toInt this
              rw [toI_of (by omega)] at e
              exact hwz e
            have hPc := hP.ctP (by omega) hs ⟨m0, m1⟩ hw hwz
            have hcR := hPc.1
            rw [if_pos ec, bMo_goesOn_44, m_comesTo ⟨p0, p1⟩ (by omega), KV_eq, bMo_goesOn_48, if_neg ec, bMo_goesOn_53, m_isDone hM3 h hcR, KV_eq, bMo_goesOn_57]
            by_cases hwc : wnO R s (ct p m) = 0
            · rw [if_pos (by rw [if_pos hwc]), bMo_goesOn_59 (by omega), bMo_goesOn_72, w32_id (by omega), g3 _ hcR.1 hcR.2, hc3, if_pos hwc, ← Int64.ofInt_mul, ← Int64.ofInt_add]
              refine ihm (_, _, _, _) ⟨f3.sL ⟨rfl, rfl⟩, fun y a b => ?_⟩
              show (sL M3 _ _ _ _).2 _ _ _ = _
              rw [sL2, hsm]
              by_cases hy : ct p m = y
              · rw [if_pos (by rw [hy]; exact ⟨rfl, rfl, rfl⟩), if_pos (by rw [← hy]; exact hwc), if_pos hy, hy]
                congr 1
                omega
              · rw [if_neg (by omega), if_neg hy, g3 y a b, Int.add_zero]
            · rw [if_neg (by rw [if_neg hwc]; omega), bMo_goesOn_58]
              refine skip _ _ _ (fun y hy => ?_)
              rw [if_neg (fun z => hwc (by rw [z]; exact hy))]
        · show M2.2 108 0 _ = _
          rw [g2 y a b]
          congr 1
          split
          · show _ = _ + (0 : Int); omega
          · rfl
    · show M1.2 108 0 _ = _
      rw [g1 y a b]
      split <;> rfl
  · rintro x M1 x0 x1 ⟨f1, g1⟩ ih
    show At _ _ _ _ _ _ _ _
    rw [bMo_goesOn_2, if_neg (by omega), bMo_goesOn_5 (by omega), w32_id (by omega)]
    refine ih _ ⟨f1.sL ⟨rfl, rfl⟩, fun y a b => ?_⟩
    by_cases z : y = x
    · subst z; exact sL_eq
    · rw [sL2, if_neg (by omega)]; exact g1 y a (by omega)
end
