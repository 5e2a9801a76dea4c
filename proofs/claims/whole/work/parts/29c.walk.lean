/-! LAYER 3, WHAT GOES BY: the class, from one state -/
def WA (R : RT) (A : Nat → Int) (M : Mem) : Prop := M.2 1 0 2 = Int64.ofInt (A 0) ∧ M.2 1 0 3 = Int64.ofInt (A 1) ∧ M.2 1 0 1 = Int64.ofInt (scI (R 4 1) (R 4 2) - A 2) ∧ M.2 25 0 0 = Int64.ofInt (A 3) ∧ M.2 25 0 1 = Int64.ofInt (A 4) ∧ M.2 25 0 2 = Int64.ofInt (A 5)
def Rw (w : Int) (u : Int → Int) (M : Mem) : Prop := ∀ y : Int, 0 ≤ y → y < 125 → M.2 26 0 (w * 125 + y).toNat = Int64.ofInt (u y)
abbrev pWf (w : Int) (t i j : Nat) : Prop := (t = 1 ∧ i = 0) ∨ (t = 25 ∧ i = 0) ∨ (t = 26 ∧ i = 0 ∧ ((w - 1) * 125 ≤ (j : Int) ∧ (j : Int) < w * 125))
abbrev pWg (b : Nat) (w : Int) (t i j : Nat) : Prop := pOp b t i ∨ (t = 47 ∧ i = b) ∨ pWf w t i j
def cFl (R : RT) (w x k : Int) (n : Nat) (G : GS) : GS := flN k (wI R w x (rwX R w x)) (fun m => won x (dvm (rwX R w x) m)) (fun m => aft x (dvm (rwX R w x) m)) (fun m q => eQ R q w (won x (dvm (rwX R w x) m))) n G
theorem wI_R {R : RT} (h : WR R) {w x r m : Int} : 0 ≤ wI R w x r m ∧ wI R w x r m ≤ 64 := by
  have a := wI1_R h (w := w) (x := x) (r := r) (m := m) (s := 0) (by omega)
  have b := wI1_R h (w := w) (x := x) (r := r) (m := m) (s := 1) (by omega)
  have c := wI1_R h (w := w) (x := x) (r := r) (m := m) (s := 2) (by omega)
  unfold wI
  have ab : 0 ≤ wI1 R w x r m 0 * wI1 R w x r m 1 := Int.mul_nonneg a.1 b.1
  have ab2 : wI1 R w x r m 0 * wI1 R w x r m 1 ≤ 4 * 4 := Int.mul_le_mul a.2 b.2 b.1 (by omega)
  exact ⟨Int.mul_nonneg ab c.1, Int.mul_le_mul (by omega) c.2 c.1 (by omega)⟩
theorem bit_lt {n m s : Int} (hn : 1 ≤ n ∧ n ≤ 3) (hm : 0 ≤ m ∧ m < pw n) (hs : n ≤ s) (hs3 : s < 3) : bit m s = 0 := by
  rcases pw_n hn with ⟨e, e'⟩ | ⟨e, e'⟩ | ⟨e, e'⟩
  · rw [e] at hm
    rcases (by omega : s = 1 ∨ s = 2) with rfl | rfl
    · show m / 2 % 2 = 0; omega
    · show m / 4 % 2 = 0; omega
  · rw [e] at hm
    obtain rfl : s = 2 := by omega
    show m / 4 % 2 = 0; omega
  · omega
theorem wI_act {R : RT} {w x r m s : Int} (hn : 1 ≤ R 4 1 ∧ R 4 1 ≤ 3) (hm : 0 ≤ m ∧ m < pw (R 4 1)) (hs : 0 ≤ s ∧ s < 3) (h : wI R w x r m ≠ 0) (hb : bit m s = 1) : canP R w x s (dr r s) ∧ 1 ≤ dr r s ∧ dr r s ≤ 3 := by
  have hsn : s < R 4 1 := by
    by_cases hsn : s < R 4 1
    · exact hsn
    · have := bit_lt hn hm (by omega) hs.2; omega
  have h1 : wI1 R w x r m s ≠ 0 := by
    intro z
    apply h
    unfold wI
    rcases (by omega : s = 0 ∨ s = 1 ∨ s = 2) with rfl | rfl | rfl
    · rw [z, Int.zero_mul, Int.zero_mul]
    · rw [z, Int.mul_zero, Int.zero_mul]
    · rw [z, Int.mul_zero]
  unfold wI1 at h1
  rw [if_pos hsn, if_pos hb] at h1
  unfold chn at h1
  by_cases hc : canP R w x s (dr r s) ∧ 1 ≤ dr r s ∧ dr r s ≤ 3
  · exact hc
  · rw [if_neg hc] at h1; exact absurd rfl h1
theorem of00 : Int64.ofInt 0 = 0 := rfl
section
variable {d : Nat} {Q : AV → Mem → Prop} {X : Nat → Mem → Prop}
theorem c_noteWinners {M : Mem} {v : Int} {c : Int64} (hv : 0 ≤ v ∧ v < 8) (hq : ∀ M', Fs (fun t i j => (t = 1 ∧ i = 0 ∧ j = 1) ∨ (t = 25 ∧ i = 0)) M M' → M'.2 1 0 1 = M.2 1 0 1 - c → (∀ s : Int, 0 ≤ s → s < 3 → M'.2 25 0 s.toNat = M.2 25 0 s.toNat + (if bit v s = 1 then c else 0)) → Q (vi 0) M') : Call (d + 1) qCo_noteWinners [vr 1 0, vi v, vl c] M Q X := by
  rw [eCo_noteWinners, bCo_noteWinners_0]
  refine loop_up (fun s M' => At d kCo_noteWinners 8 [vr 1 0, vi v, vl c, JK, vi s] [] M' Q X) (fun s M' => Fs (fun t i j => (t = 1 ∧ i = 0 ∧ j = 1) ∨ (t = 25 ∧ i = 0)) M M' ∧ M'.2 1 0 1 = M.2 1 0 1 - c ∧ ∀ e : Int, 0 ≤ e → e < 3 → M'.2 25 0 e.toNat = M.2 25 0 e.toNat + (if e < s ∧ bit v e = 1 then c else 0)) 0 3 ?_ ?_ 0 _ (by omega) (by omega) ⟨Fs.rf.sL (Or.inl ⟨rfl, rfl, rfl⟩), sL_eq, fun e e0 e3 => by rw [sL2, if_neg (by omega), if_neg (by omega), Int64.add_zero]⟩
  · rintro M' ⟨f, h1, h2⟩
    show At _ _ _ _ _ _ _ _
    rw [bCo_noteWinners_8, if_pos (by omega), bCo_noteWinners_28]
    refine hq M' f h1 (fun s s0 s3 => ?_)
    rw [h2 s s0 s3]
    by_cases hb : bit v s = 1
    · rw [if_pos ⟨s3, hb⟩, if_pos hb]
    · rw [if_neg (fun z => hb z.2), if_neg hb]
  · rintro s M' s0 s3 ⟨f, h1, h2⟩ hn
    show At _ _ _ _ _ _ _ _
    rw [bCo_noteWinners_8, if_neg (by omega), bCo_noteWinners_11, band_bit hv ⟨s0, s3⟩]
    by_cases hb : bit v s = 1
    · rw [if_neg (fun z => z hb), bCo_noteWinners_18 (by omega), bCo_noteWinners_26, w32_id (by omega)]
      refine hn _ ⟨f.sL (Or.inr ⟨rfl, rfl⟩), by rw [sL2, if_neg (by omega)]; exact h1, fun e e0 e3 => ?_⟩
      by_cases he : e = s
      · subst he
        rw [sL_eq, h2 e e0 e3, if_neg (by omega), if_pos ⟨by omega, hb⟩, Int64.add_zero]
      · rw [sL2, if_neg (by omega), h2 e e0 e3]
        by_cases hc : e < s ∧ bit v e = 1
        · rw [if_pos hc, if_pos ⟨by omega, hc.2⟩]
        · rw [if_neg hc, if_neg (fun z => hc ⟨by omega, z.2⟩)]
    · rw [if_pos hb, bCo_noteWinners_26, w32_id (by omega)]
      refine hn _ ⟨f, h1, fun e e0 e3 => ?_⟩
      rw [h2 e e0 e3]
      by_cases hc : e < s ∧ bit v e = 1
      · rw [if_pos hc, if_pos ⟨by omega, hc.2⟩]
      · rw [if_neg hc, if_neg (fun z => hc ⟨by
          by_cases he : e = s
          · exact absurd (he ▸ z.2) hb
          · omega, z.2⟩)]
theorem c_wfLoop {M0 : Mem} {b : Nat} {R : RT} {w x k : Int} {G : GS} {z1 z3 : AV} (hR : rd M0 (rcB b) = R) (h : WR R) (hn1 : 1 ≤ R 4 1) (hO : Opd R w x b M0) (hT : Rtk b (rwX R w x) M0) (hw : 1 ≤ w ∧ w ≤ R 4 2) (hx : 0 < x ∧ x < 125) (hk : 0 < k ∧ k ≤ 68719476736) (hA : WA R G.1 M0) (hr : Rw (w - 1) G.2 M0)
    (hq : ∀ M', Fs (pWf w) M0 M' → WA R (cFl R w x k (pw (R 4 1)).toNat G).1 M' → Rw (w - 1) (cFl R w x k (pw (R 4 1)).toNat G).2 M' → Q (vi 0) M') (z10 z11 z12 : AV) : At (d + 4) kCo_walkFrom 56 [vr 1 0, z1, vi w, z3, vr 4 (rcB b), vr 8 b, vl (Int64.ofInt k), JK, vi (pw (R 4 1)), vi 0, z10, z11, z12] [] M0 Q X := by
  have hb := h.b
  have hpn := pw_n (n := R 4 1) ⟨hn1, by omega⟩
  refine loop_up (fun m M' => ∀ z10 z11 z12, At (d + 4) kCo_walkFrom 56 [vr 1 0, z1, vi w, z3, vr 4 (rcB b), vr 8 b, vl (Int64.ofInt k), JK, vi (pw (R 4 1)), vi m, z10, z11, z12] [] M' Q X) (fun m M' => Fs (pWf w) M0 M' ∧ WA R (cFl R w x k m.toNat G).1 M' ∧ Rw (w - 1) (cFl R w x k m.toNat G).2 M') 0 (pw (R 4 1)) ?_ ?_ 0 M0 (by omega) (by omega) ⟨Fs.rf, hA, hr⟩ _ _ _
  · rintro M' ⟨f, a, r⟩ z10 z11 z12
    rw [bCo_walkFrom_56, if_pos (by omega), bCo_walkFrom_112]
    exact hq M' f a r
  · rintro m M' m0 m1 ⟨f, hA', hr'⟩ hn z10 z11 z12
    have hfl := flN_s (k := k) (W := wI R w x (rwX R w x)) (V := fun m => won x (dvm (rwX R w x) m)) (Y := fun m => aft x (dvm (rwX R w x) m)) (E := fun m q => eQ R q w (won x (dvm (rwX R w x) m))) (G := G) m0
    change cFl R w x k (m + 1).toNat G = fl (k * wI R w x (rwX R w x) m) (won x (dvm (rwX R w x) m)) (aft x (dvm (rwX R w x) m)) (fun q => eQ R q w (won x (dvm (rwX R w x) m))) (cFl R w x k m.toNat G) at hfl
    have hn' : ∀ M2, Fs (pWf w) M0 M2 → WA R (cFl R w x k (m + 1).toNat G).1 M2 → Rw (w - 1) (cFl R w x k (m + 1).toNat G).2 M2 → ∀ z10 z11 z12, At (d + 4) kCo_walkFrom 110 [vr 1 0, z1, vi w, z3, vr 4 (rcB b), vr 8 b, vl (Int64.ofInt k), JK, vi (pw (R 4 1)), vi m, z10, z11, z12] [] M2 Q X := by
      intro M2 f2 a2 r2 z10 z11 z12
      rw [bCo_walkFrom_110, w32_id (by omega)]
      exact hn M2 ⟨f2, a2, r2⟩ _ _ _
    rw [hfl] at hn'
    generalize cFl R w x k m.toNat G = G' at *
    have hR' : rd M' (rcB b) = R := by rw [rd_fs f (fun t j ht z => by omega), hR]
    have hO' : Opd R w x b M' := by
      obtain ⟨q1, q2, q3⟩ := hO
      refine ⟨by rw [f.g1 8 b _ (by omega)]; exact q1, fun s a1 a2 e a3 a4 => ?_, fun a1 a2 a3 c1 c2 c3 c4 c5 c6 => ?_⟩
      · rw [f.g1 46 b _ (by omega), f.g1 51 b _ (by omega), f.g1 52 b _ (by omega)]; exact q2 s a1 a2 e a3 a4
      · unfold Op2; rw [f.g1 48 b _ (by omega), f.g1 49 b _ (by omega)]; exact q3 a1 a2 a3 c1 c2 c3 c4 c5 c6
    have hT' : Rtk b (rwX R w x) M' := fun s s0 s3 => by rw [f.g1 47 b _ (by omega)]; exact hT s s0 s3
    have hwI := wI_R h (w := w) (x := x) (r := rwX R w x) (m := m)
    have hpart : 0 ≤ k * wI R w x (rwX R w x) m ∧ k * wI R w x (rwX R w x) m ≤ 9000000000000000000 := by
      refine ⟨Int.mul_nonneg (by omega) hwI.1, ?_⟩
      have : k * wI R w x (rwX R w x) m ≤ 68719476736 * 64 := Int.mul_le_mul hk.2 hwI.2 hwI.1 (by omega)
      omega
    rw [bCo_walkFrom_56, if_neg (by omega), bCo_walkFrom_59, c_weightOf (d := d + 2) hR' h hO' hT' ⟨m0, by omega⟩, KV_eq, bCo_walkFrom_63, ← ofI_mul]
    by_cases hz : wI R w x (rwX R w x) m = 0
    · rw [if_pos (cmp64_le.mpr (fun z => by have := (ofI_pos hpart).mp z; rw [hz] at this; omega))]
      rw [hz, Int.mul_zero, fl_z] at hn'
      exact hn' M' f hA' hr' _ _ _
    have hpos : 0 < k * wI R w x (rwX R w x) m := Int.mul_pos hk.1 (by omega)
    rw [if_neg (fun z => cmp64_le.mp z ((ofI_pos hpart).mpr hpos)), bCo_walkFrom_70, c_modesOf (d := d + 3) hT' ⟨m0, by omega⟩ (fun s s0 s3 hbt => by have := (wI_act ⟨hn1, by omega⟩ ⟨m0, m1⟩ ⟨s0, s3⟩ hz hbt).2; omega), KV_eq]
    have hdm := dvm_d (r := rwX R w x) (m := m) 0 (by omega)
    have c0 := md_R (d := dr (rwX R w x) 0) (bit_R m 0)
    have c1 := md_R (d := dr (rwX R w x) 1) (bit_R m 1)
    have c2 := md_R (d := dr (rwX R w x) 2) (bit_R m 2)
    have oe := hO'.2.2 _ _ _ c0.1 (by omega) c1.1 (by omega) c2.1 (by omega)
    have e48 : M'.1 48 b (dvm (rwX R w x) m).toNat = won x (dvm (rwX R w x) m) := oe.1
    have e49 : M'.1 49 b (dvm (rwX R w x) m).toNat = aft x (dvm (rwX R w x) m) := oe.2
    have hwon := won_R x (dvm (rwX R w x) m)
    have haft := aft_R (x := x) (m := dvm (rwX R w x) m) (dvm_d 0 (by omega)).2.1 (dvm_d 1 (by omega)).2.1 (dvm_d 2 (by omega)).2.1
    show At (d + 4) kCo_walkFrom 73 [vr 1 0, z1, vi w, z3, vr 4 (rcB b), vr 8 b, vl (Int64.ofInt k), JK, vi (pw (R 4 1)), vi m, vl (Int64.ofInt (k * wI R w x (rwX R w x) m)), JK, _] [vi (dvm (rwX R w x) m)] M' Q X
    rw [bCo_walkFrom_73 (by omega), e48]
    generalize dvm (rwX R w x) m = dm at *
    generalize k * wI R w x (rwX R w x) m = part at *
    by_cases hv : won x dm = 0
    · have ei : w32 (w32 (w32 (w - 1) * 125) + M'.1 49 b dm.toNat) = (w - 1) * 125 + aft x dm := by
        rw [e49, w32_id (z := w - 1) (by omega), w32_id (z := (w - 1) * 125) (by omega), w32_id (by omega)]
      rw [if_neg (fun z => z hv), bCo_walkFrom_79 (by rw [ei]; omega), ei]
      unfold fl at hn'
      rw [if_pos hv] at hn'
      refine hn' _ (f.sL (Or.inr (Or.inr ⟨rfl, rfl, by omega⟩))) ?_ ?_ _ _ _
      · obtain ⟨q1, q2, q3, q4, q5, q6⟩ := hA'
        refine ⟨?_, ?_, ?_, ?_, ?_, ?_⟩ <;> rw [sL2, if_neg (by omega)] <;> assumption
      · intro y y0 y1
        show _ = Int64.ofInt (upf G'.2 (aft x dm) part y)
        unfold upf
        by_cases hy : y = aft x dm
        · rw [if_pos hy, hy, sL_eq, hr' _ haft.1 haft.2, ofI_add]
        · rw [if_neg hy, sL2, if_neg (by omega)]; exact hr' y y0 y1
    · rw [if_pos hv, bCo_walkFrom_97 (by omega), w32_id (z := w - 1) (by omega), c_scale (by omega) (by rw [hR']; omega), KV_eq, bCo_walkFrom_108, e48, hR', sc_I, ← ofI_mul]
      refine c_noteWinners hwon ?_
      intro M2 f2 n1 n2
      rw [KU_eq]
      unfold fl at hn'
      rw [if_neg hv] at hn'
      refine hn' M2 (f.tr (f2.mono (fun t i j z => by omega))) ?_ ?_ _ _ _
      · obtain ⟨q1, q2, q3, q4, q5, q6⟩ := hA'
        have k0 := n2 0 (by omega) (by omega)
        have k1 := n2 1 (by omega) (by omega)
        have k2 := n2 2 (by omega) (by omega)
        have hif : ∀ s : Int, (if bit (won x dm) s = 1 then Int64.ofInt (part * scI (R 4 1) (w - 1)) else 0) = Int64.ofInt (part * (bit (won x dm) s * scI (R 4 1) (w - 1))) := by
          intro s
          have := bit_R (won x dm) s
          by_cases hbs : bit (won x dm) s = 1
          · rw [if_pos hbs, hbs, Int.one_mul]
          · rw [if_neg hbs, show bit (won x dm) s = 0 by omega, Int.zero_mul, Int.mul_zero, of00]
        refine ⟨?_, ?_, ?_, ?_, ?_, ?_⟩
        · show _ = Int64.ofInt (G'.1 0 + part * 0)
          rw [f2.g2 1 0 2 (by omega), q1, Int.mul_zero, Int.add_zero]
        · show _ = Int64.ofInt (G'.1 1 + part * 0)
          rw [f2.g2 1 0 3 (by omega), q2, Int.mul_zero, Int.add_zero]
        · show _ = Int64.ofInt (scI (R 4 1) (R 4 2) - (G'.1 2 + part * scI (R 4 1) (w - 1)))
          rw [n1, q3, ← ofI_sub]; congr 1; omega
        · show _ = Int64.ofInt (G'.1 3 + part * (bit (won x dm) 0 * scI (R 4 1) (w - 1)))
          rw [ofI_add, ← hif 0, ← q4]; exact k0
        · show _ = Int64.ofInt (G'.1 4 + part * (bit (won x dm) 1 * scI (R 4 1) (w - 1)))
          rw [ofI_add, ← hif 1, ← q5]; exact k1
        · show _ = Int64.ofInt (G'.1 5 + part * (bit (won x dm) 2 * scI (R 4 1) (w - 1)))
          rw [ofI_add, ← hif 2, ← q6]; exact k2
      · intro y y0 y1
        rw [f2.g2 26 0 _ (by omega)]; exact hr' y y0 y1
theorem c_walkFrom {M : Mem} {b : Nat} {R : RT} {w x k : Int} {G : GS} (hR : rd M (rcB b) = R) (h : WR R) (hn1 : 1 ≤ R 4 1) (hrow : M.1 20 b (w * 125 + x).toNat = rwX R w x) (hw : 1 ≤ w ∧ w ≤ R 4 2) (hx : 0 < x ∧ x < 125) (hk : 0 < k ∧ k ≤ 68719476736) (hm : M.2 26 0 (w * 125 + x).toNat = Int64.ofInt k) (hA : WA R G.1 M) (hr : Rw (w - 1) G.2 M)
    (hq : ∀ M', Fs (pWg b w) M M' → WA R (cFl R w x k (pw (R 4 1)).toNat (fun q => G.1 q + k * cQ R q w x, G.2)).1 M' → Rw (w - 1) (cFl R w x k (pw (R 4 1)).toNat (fun q => G.1 q + k * cQ R q w x, G.2)).2 M' → Q (vi 0) M') : Call (d + 5) qCo_walkFrom [vr 1 0, vr 0 b, vi w, vi x] M Q X := by
  have hb := h.b
  have ei : w32 (w32 (w * 125) + x) = w * 125 + x := by rw [w32_id (z := w * 125) (by omega), w32_id (by omega)]
  rw [eCo_walkFrom, bCo_walkFrom_0 (by rw [ei]; omega), ei, hm]
  refine c_open (d := d) hR h (by omega) (by omega) ?_
  intro M1 g1 g2
  have e20 : M1.1 20 b (w * 125 + x).toNat = rwX R w x := by rw [g1.g1 20 b (fun z => by omega)]; exact hrow
  rw [KU_eq, bCo_walkFrom_19, c_rowAt (by omega) (by omega), KV_eq, e20, bCo_walkFrom_24]
  refine c_takeRow (d := d + 2) rwX_R ?_
  intro M2 f2 t2
  have fA : Fs (fun t i j => pOp b t i ∨ (t = 47 ∧ i = b)) M M2 := (g1.fs (fun t i j z => Or.inl z)).tr (f2.mono (fun t i j z => Or.inr ⟨z.1, z.2.1⟩))
  have hR2 : rd M2 (rcB b) = R := by rw [rd_fs fA (fun t j ht z => by omega), hR]
  have o2 : Opd R w x b M2 := by
    obtain ⟨q1, q2, q3⟩ := g2
    refine ⟨by rw [f2.g1 8 b _ (by omega)]; exact q1, fun s a1 a2 e a3 a4 => ?_, fun a1 a2 a3 c1 c2 c3 c4 c5 c6 => ?_⟩
    · rw [f2.g1 46 b _ (by omega), f2.g1 51 b _ (by omega), f2.g1 52 b _ (by omega)]; exact q2 s a1 a2 e a3 a4
    · unfold Op2; rw [f2.g1 48 b _ (by omega), f2.g1 49 b _ (by omega)]; exact q3 a1 a2 a3 c1 c2 c3 c4 c5 c6
  have hR3 : ∀ v, rd (sL M2 1 0 2 v) (rcB b) = R := fun v => by rw [rd_sL]; exact hR2
  have t3 : ∀ v, Rtk b (rwX R w x) (sL M2 1 0 2 v) := fun v => t2
  rw [KU_eq, bCo_walkFrom_25, c_scale (by omega) (by rw [hR2]; omega), KV_eq, bCo_walkFrom_32, c_scale (by omega) (by rw [hR3]; omega), KV_eq, bCo_walkFrom_42, c_costOfAll (d := d + 2) (R := R) (hR3 _) h (t3 _), KV_eq, bCo_walkFrom_45, hR3, hR2]
  have e41 : ∀ v v', (sL (sL M2 1 0 2 v) 1 0 3 v').1 4 (rcB b) 1 = R 4 1 := fun v v' => by show M2.1 4 (rcB b) 1 = R 4 1; rw [← hR2]; rfl
  rw [e41, bshl_pw (by omega)]
  have fB : ∀ v v', Fs (pWg b w) M (sL (sL M2 1 0 2 v) 1 0 3 v') := fun v v' => ((fA.mono (fun t i j z => by omega)).sL (Or.inr (Or.inr (Or.inl ⟨rfl, rfl⟩)))).sL (Or.inr (Or.inr (Or.inl ⟨rfl, rfl⟩)))
  obtain ⟨q1, q2, q3, q4, q5, q6⟩ := hA
  refine c_wfLoop (G := (fun q => G.1 q + k * cQ R q w x, G.2)) ((rd_sL.trans (hR3 _))) h hn1 o2 t2 hw hx hk ⟨?_, ?_, ?_, ?_, ?_, ?_⟩ ?_ ?_ _ _ _
  · show _ = Int64.ofInt (G.1 0 + k * scI (R 4 1) w)
    rw [sL2, if_neg (by omega), sL_eq, fA.g2 1 0 2 (by omega), q1, ofI_add, ofI_mul, sc_I]
  · show _ = Int64.ofInt (G.1 1 + k * (scI (R 4 1) w * cA R (rwX R w x)))
    rw [sL_eq, sL2, if_neg (by omega), fA.g2 1 0 3 (by omega), q2, ofI_add, ← Int.mul_assoc, ofI_mul, ofI_mul, sc_I]
  · show _ = Int64.ofInt (scI (R 4 1) (R 4 2) - (G.1 2 + k * 0))
    rw [sL2, if_neg (by omega), sL2, if_neg (by omega), fA.g2 1 0 1 (by omega), q3, Int.mul_zero, Int.add_zero]
  · show _ = Int64.ofInt (G.1 3 + k * 0)
    rw [sL2, if_neg (by omega), sL2, if_neg (by omega), fA.g2 25 0 0 (by omega), q4, Int.mul_zero, Int.add_zero]
  · show _ = Int64.ofInt (G.1 4 + k * 0)
    rw [sL2, if_neg (by omega), sL2, if_neg (by omega), fA.g2 25 0 1 (by omega), q5, Int.mul_zero, Int.add_zero]
  · show _ = Int64.ofInt (G.1 5 + k * 0)
    rw [sL2, if_neg (by omega), sL2, if_neg (by omega), fA.g2 25 0 2 (by omega), q6, Int.mul_zero, Int.add_zero]
  · intro y y0 y1
    rw [sL2, if_neg (by omega), sL2, if_neg (by omega), fA.g2 26 0 _ (by omega)]; exact hr y y0 y1
  · intro M3 f3 a3 r3
    exact hq M3 ((fB _ _).tr (f3.mono (fun t i j z => Or.inr (Or.inr z)))) a3 r3
end
