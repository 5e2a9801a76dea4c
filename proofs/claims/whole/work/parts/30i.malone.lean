/-! LAYER 3, ONE THAT IS ALONE: the reference -/
section
variable {d : Nat} {Q : AV → Mem → Prop} {X : Nat → Mem → Prop}
theorem m_scale1 {M : Mem} {w : Int} (hw : 0 ≤ w ∧ w ≤ 6) : Call (d + 1) qMo_scale [vi w] M Q X = Q (vl (sc 1 w)) M := by
  have := m_scale (d := d) (M := M) (Q := Q) (X := X) (n := 1) hw (by omega)
  rw [Int.mul_one, w32_id (by omega)] at this
  exact this
theorem m_aloneBy {M : Mem} {R : RT} {s w o e : Int} {pv : Int → Int} (hM : MR R M) (h : WR R) (hs : 0 ≤ s ∧ s < 3) (hw : 1 ≤ w ∧ w ≤ 6) (ho : 1 ≤ o ∧ o ≤ 4) (he : 0 ≤ e ∧ e < 4)
    (hp : ∀ u : Int, 0 ≤ u → u ≤ o → M.2 89 (w - 1).toNat u.toNat = Int64.ofInt (pv u)) : Call (d + 3) qMo_aloneBy [vr 10 0, vi s, vi w, vi o, vi e] M Q X = Q (vl (Int64.ofInt (aBy R s w o pv e))) M := by
  have hc := chA_R h hs (e := e) (by omega)
  have hk := h.cst s e hs (by omega)
  have e1 : w32 (w - 1) = w - 1 := w32_id (by omega)
  have e2 : w32 (o - 1) = o - 1 := w32_id (by omega)
  have n7 : 0 * 7 + (w - 1).toNat = (w - 1).toNat := by omega
  have step : At (d + 2) kMo_aloneBy 10 [vr 10 0, vi s, vi w, vi o, vi e, JK, JK, JK] [vi (chA R s e)] M Q X = Q (vl (Int64.ofInt (aBy R s w o pv e))) M := by
    have st2 : At (d + 2) kMo_aloneBy 33 [vr 10 0, vi s, vi w, vi o, vi e, vi (chA R s e), JK, JK] [vl (Int64.ofInt (mdA R w o pv))] M Q X = Q (vl (Int64.ofInt (aBy R s w o pv e))) M := by
      rw [bMo_aloneBy_33, m_costOf hM h hs (by omega), KV_eq, bMo_aloneBy_38, m_scale1 (by omega), KV_eq, bMo_aloneBy_42 (by rw [e1]; omega), e1, n7, hp o (by omega) (by omega), w32_id (z := -cst R s e) (by omega), w32_id (z := 4 - chA R s e) (by omega), sc_I, ← Int64.ofInt_mul, ← Int64.ofInt_mul, ← Int64.ofInt_mul, ← Int64.ofInt_add, ← Int64.ofInt_add]
      unfold aBy
      rw [if_neg (by omega)]
    rw [bMo_aloneBy_10]
    by_cases h1 : o = 1
    · rw [if_neg (by omega), bMo_aloneBy_14, e1, m_scale1 (by omega), KV_eq, bMo_aloneBy_21, hM.2.2.1, sc_I, ← Int64.ofInt_mul]
      have em : mdA R w o pv = R 4 3 * scI 1 (w - 1) := by unfold mdA; rw [if_pos h1]
      rw [em] at st2
      exact st2
    · rw [if_pos h1, bMo_aloneBy_23 (by rw [e1, e2]; omega), e1, e2, n7, hp _ (by omega) (by omega)]
      have em : mdA R w o pv = pv (o - 1) := by unfold mdA; rw [if_neg h1]
      rw [em] at st2
      exact st2
  rw [eMo_aloneBy, bMo_aloneBy_0]
  by_cases h0 : e = 0
  · rw [if_neg (by omega), bMo_aloneBy_2]
    have em : chA R s e = 0 := by unfold chA; rw [if_pos h0]
    rw [em] at step
    exact step
  · have em : chA R s e = chc R s e := by unfold chA; rw [if_neg h0]
    rw [if_pos h0, bMo_aloneBy_4 (by omega), show 0 * 3 + s.toNat = s.toNat by omega, (hM.2.2.2.2.2.2.2 s e hs.1 hs.2 (by omega) (by omega)).2]
    rw [em] at step
    exact step
theorem cd_one {s o : Int} (hs : 0 ≤ s ∧ s < 3) (ho : 0 ≤ o ∧ o ≤ 4) : cd (o * su s) (pw s) = o * su s := by
  have k : ∀ j : Int, 0 ≤ j → j < 3 → lsp (o * su s) (pw s) j = if j = s then o else 0 := fun j j0 j3 => by
    unfold lsp
    rw [dg_one hs ho ⟨j0, j3⟩]
    by_cases hj : j = s
    · rw [if_pos hj]; split
      · rfl
      · next z => exact absurd (by rw [hj]; rcases (by omega : s = 0 ∨ s = 1 ∨ s = 2) with rfl | rfl | rfl <;> rfl) z
    · rw [if_neg hj]; split <;> rfl
  unfold cd
  rw [k 0 (by omega) (by omega), k 1 (by omega) (by omega), k 2 (by omega) (by omega)]
  rcases (by omega : s = 0 ∨ s = 1 ∨ s = 2) with rfl | rfl | rfl
  · show (if (0 : Int) = 0 then o else 0) + (if (1 : Int) = 0 then o else 0) * 5 + (if (2 : Int) = 0 then o else 0) * 25 = o * 1
    rw [if_pos rfl, if_neg (by omega), if_neg (by omega)]; omega
  · show (if (0 : Int) = 1 then o else 0) + (if (1 : Int) = 1 then o else 0) * 5 + (if (2 : Int) = 1 then o else 0) * 25 = o * 5
    rw [if_pos rfl, if_neg (by omega), if_neg (by omega)]; omega
  · show (if (0 : Int) = 2 then o else 0) + (if (1 : Int) = 2 then o else 0) * 5 + (if (2 : Int) = 2 then o else 0) * 25 = o * 25
    rw [if_pos rfl, if_neg (by omega), if_neg (by omega)]; omega
theorem su_o {s o : Int} (hs : 0 ≤ s ∧ s < 3) (ho : 0 ≤ o ∧ o ≤ 4) : 0 ≤ o * su s ∧ o * su s < 125 := by
  rcases (by omega : s = 0 ∨ s = 1 ∨ s = 2) with rfl | rfl | rfl
  · show 0 ≤ o * 1 ∧ o * 1 < 125; omega
  · show 0 ≤ o * 5 ∧ o * 5 < 125; omega
  · show 0 ≤ o * 25 ∧ o * 25 < 125; omega
theorem bit_one {s k : Int} (hs : 0 ≤ s ∧ s < 3) (hk : 0 ≤ k ∧ k < 3) : bit (pw s) k = if k = s then 1 else 0 := by
  rcases (by omega : s = 0 ∨ s = 1 ∨ s = 2) with rfl | rfl | rfl <;> rcases (by omega : k = 0 ∨ k = 1 ∨ k = 2) with rfl | rfl | rfl <;> rfl
abbrev pAl (w o : Int) (t i j : Nat) : Prop := pHo t i j ∨ ((t = 89 ∨ t = 91) ∧ i = w.toNat ∧ j = o.toNat)
/-- one cell -/
theorem m_aCell {M : Mem} {R : RT} {s w o u : Int} {z5 z6 z7 z8 : AV} (hM : MR R M) (h : WR R) (hH : HL R M) (hs : 0 ≤ s ∧ s < R 4 1) (hw : 1 ≤ w ∧ w ≤ 6) (ho : 1 ≤ o ∧ o ≤ stp R s) (hu : u = su s)
    (hp : ∀ v : Int, 0 ≤ v → v ≤ o → M.2 89 (w - 1).toNat v.toNat = Int64.ofInt (aI R s (w - 1).toNat v))
    (hq : ∀ M' z5 z6 z7 z8, Fs (pAl w o) M M' → M'.2 89 w.toNat o.toNat = Int64.ofInt (aI R s w.toNat o) → M'.1 91 w.toNat o.toNat = aD R s w o → At (d + 61) kMo_findAlone 98 [vr 10 0, vi s, vi u, vi w, vi o, z5, z6, z7, z8] [] M' Q X) : At (d + 61) kMo_findAlone 36 [vr 10 0, vi s, vi u, vi w, vi o, z5, z6, z7, z8] [] M Q X := by
  have hb := h.b
  have hst := h.stp s (by omega)
  have hS : Sta R (o * su s) (pw s) := by
    refine ⟨su_o (by omega) (by omega), ?_, ?_⟩
    · rcases (by omega : s = 0 ∨ s = 1 ∨ s = 2) with rfl | rfl | rfl <;> decide
    · intro k k0 k3 hk
      rw [dg_one (by omega) (by omega) ⟨k0, k3⟩, bit_one (by omega) ⟨k0, k3⟩, if_neg (by omega), if_neg (by omega)]; exact ⟨rfl, rfl⟩
  have hg : Gng (o * su s) (pw s) := by
    intro k k0 k3 hk
    rw [bit_one (by omega) ⟨k0, k3⟩] at hk
    rw [dg_one (by omega) (by omega) ⟨k0, k3⟩]
    by_cases z : k = s
    · rw [if_pos z]; omega
    · rw [if_neg z] at hk; omega
  have hcd := cd_one (s := s) (o := o) (by omega) (by omega)
  have hAt := aI_at (R := R) (s := s) (w := w) (o := o) hw.1 ho.1
  have n7 : 0 * 7 + w.toNat = w.toNat := by omega
  have hpr := su_o (s := s) (o := o) (by omega) (by omega)
  -- one doing
  have step : ∀ (e x5 : Int) (M1 : Mem) (z7 z8 : AV), 0 ≤ e → e < 5 → Fs (pAl w o) M M1 →
      (∀ M2 z7 z8, Fs pHo M1 M2 → ¬ canP R w (o * su s) s e → At (d + 61) kMo_findAlone 96 [vr 10 0, vi s, vi u, vi w, vi o, vi x5, vi e, z7, z8] [] M2 Q X) →
      (∀ M2, Fs pHo M1 M2 → canP R w (o * su s) s e → At (d + 61) kMo_findAlone 67 [vr 10 0, vi s, vi u, vi w, vi o, vi x5, vi e, JK, JK] [vl (Int64.ofInt (aBy R s w o (aI R s (w - 1).toNat) e))] M2 Q X) →
      At (d + 61) kMo_findAlone 43 [vr 10 0, vi s, vi u, vi w, vi o, vi x5, vi e, z7, z8] [] M1 Q X := by
    intro e x5 M1 z7 z8 e0 e5 f1 hno hyes
    have hM1 : MR R M1 := hM.fs f1 (fun t i j z => by omega)
    have hH1 := hH.tx (f1.tx (fun t i j z => by omega))
    rw [bMo_findAlone_43, hu, w32_id (by omega), bshl_pw (by omega)]
    refine m_mayDo (d := d) hM1 h hH1 hS hg hw (by omega) ⟨e0, e5⟩ ?_
    intro M2 f2
    rw [KV_eq, bMo_findAlone_54, hcd]
    by_cases hc : canP R w (o * su s) s e
    · rw [if_pos (by rw [if_pos hc]; omega), bMo_findAlone_56]
      have f12 : Fs (pAl w o) M M2 := f1.tr (f2.mono (fun t i j z => Or.inl z))
      have hy := hyes M2 f2 hc
      rw [← hu]
      have junk : ∀ z7 z8 : AV, At (d + 61) kMo_findAlone 67 [vr 10 0, vi s, vi u, vi w, vi o, vi x5, vi e, z7, z8] [vl (Int64.ofInt (aBy R s w o (aI R s (w - 1).toNat) e))] M2 Q X := by
        intro z7 z8
        rw [bMo_findAlone_67] at hy ⊢
        exact hy
      by_cases h4 : e = 4
      · rw [if_neg (by omega), bMo_findAlone_59]
        have e0 : aBy R s w o (aI R s (w - 1).toNat) e = 0 := by unfold aBy; rw [if_pos h4]
        have := junk z7 z8
        rw [e0] at this
        exact this
      · rw [if_pos h4, bMo_findAlone_61, m_aloneBy (d := d + 58) (hM.fs f12 (fun t i j z => by omega)) h (by omega) hw (by omega) (by omega) (pv := aI R s (w - 1).toNat) (fun v v0 v1 => by
          rw [f12.g2 89 _ _ (fun z => by omega)]; exact hp v v0 v1), KV_eq]
        exact junk z7 z8
    · rw [if_neg (by rw [if_neg hc]; omega), bMo_findAlone_55]
      rw [← hu]
      exact hno M2 z7 z8 f2 hc
  rw [bMo_findAlone_36, bMo_findAlone_40, if_neg (by omega)]
  refine step 0 0 M _ _ (by omega) (by omega) Fs.rf (fun M2 _ _ _ hc => absurd (Or.inl rfl) hc) ?_
  intro M2 f2 _
  rw [bMo_findAlone_67, if_pos rfl, bMo_findAlone_80 (by omega), bMo_findAlone_96, w32_id (by omega), n7]
  generalize hc : cB R w (o * su s) s = c at *
  generalize hv : aBy R s w o (aI R s (w - 1).toNat) = v at *
  have hD : aD R s w o = fmi c v 4 := by unfold aD; rw [if_neg (by omega), hc, hv]
  refine loop_up (fun e a => At (d + 61) kMo_findAlone 40 [vr 10 0, vi s, vi u, vi w, vi o, vi 1, vi e, a.2.1, a.2.2] [] a.1 Q X) (fun e (a : Mem × AV × AV) => Fs (pAl w o) M a.1 ∧ a.1.2 89 w.toNat o.toNat = Int64.ofInt (v (fmi c v (e - 1).toNat)) ∧ a.1.1 91 w.toNat o.toNat = fmi c v (e - 1).toNat) 1 5 ?_ ?_ 1 (_, _, _) (by omega) (by omega) ⟨?_, ?_, ?_⟩
  · rintro ⟨M3, z7, z8⟩ ⟨f3, r1, r2⟩
    show At _ _ _ _ _ _ _ _
    rw [bMo_findAlone_40, if_pos (by omega)]
    refine hq M3 _ _ _ _ f3 ?_ ?_
    · rw [hAt, hD]; exact r1
    · rw [hD]; exact r2
  · rintro e ⟨M3, z7, z8⟩ e1 e5 ⟨f3, r1, r2⟩ ih
    have hen : (e + 1 - 1).toNat = (e - 1).toNat + 1 := by omega
    have hec : (((e - 1).toNat + 1 : Nat) : Int) = e := by omega
    have hsu : fmi c v (e + 1 - 1).toNat = if v (fmi c v (e - 1).toNat) < v e ∧ c e = true then e else fmi c v (e - 1).toNat := by
      rw [hen]
      show (if v (fmi c v (e - 1).toNat) < v (((e - 1).toNat + 1 : Nat) : Int) ∧ c (((e - 1).toNat + 1 : Nat) : Int) = true then (((e - 1).toNat + 1 : Nat) : Int) else fmi c v (e - 1).toNat) = _
      rw [hec]
    show At _ _ _ _ _ _ _ _
    rw [bMo_findAlone_40, if_neg (by omega)]
    refine step e 1 M3 z7 z8 (by omega) (by omega) f3 ?_ ?_
    · intro M4 z7 z8 f4 hno
      rw [bMo_findAlone_96, w32_id (by omega)]
      refine ih (M4, z7, z8) ⟨f3.tr (f4.mono (fun t i j z => Or.inl z)), ?_, ?_⟩
      · rw [hsu, if_neg (fun z => hno (by rw [← hc] at z; exact of_decide_eq_true z.2))]
        show M4.2 _ _ _ = _
        rw [f4.g2 89 _ _ (fun z => by omega)]; exact r1
      · rw [hsu, if_neg (fun z => hno (by rw [← hc] at z; exact of_decide_eq_true z.2))]
        show M4.1 _ _ _ = _
        rw [f4.g1 91 _ _ (fun z => by omega)]; exact r2
    · intro M4 f4 hyes
      have hce : c e = true := by rw [← hc]; exact decide_eq_true hyes
      have hbd : ∀ x : Int, 0 ≤ x → x < 5 → -9000000000000000000 ≤ v x ∧ v x ≤ 9000000000000000000 := fun x x0 x5 => by
        have s1 := scI1_R (w := w) (by omega)
        have := aBy_b h (s := s) (w := w) (o := o) (e := x) (pv := aI R s (w - 1).toNat) (by omega) hw ⟨x0, x5⟩ (fun y => by
          have := aI_b h (s := s) (by omega) (w - 1).toNat y (by omega)
          rw [show (((w - 1).toNat : Nat) : Int) = w - 1 by omega] at this; exact this)
        rw [hv] at this
        omega
      have hfr := fmi_R (c := c) (v := v) (e - 1).toNat
      have hlt := lt_ofI (hbd (fmi c v (e - 1).toNat) (by omega) (by omega)) (hbd e (by omega) (by omega))
      rw [bMo_findAlone_67, if_neg (by omega), bMo_findAlone_70 (by omega), n7, f4.g2 89 _ _ (fun z => by omega), r1]
      by_cases hgt : v (fmi c v (e - 1).toNat) < v e
      · rw [if_pos (cmp64_gt.mpr (hlt.mpr hgt)), bMo_findAlone_80 (by omega), bMo_findAlone_96, w32_id (by omega), n7]
        refine ih (_, _, _) ⟨((f3.tr (f4.mono (fun t i j z => Or.inl z))).sL (by omega)).sI (by omega), ?_, ?_⟩
        · rw [hsu, if_pos ⟨hgt, hce⟩]
          show (sI _ _ _ _ _).2 _ _ _ = _
          rw [sI2, sL_eq]
        · rw [hsu, if_pos ⟨hgt, hce⟩]
          exact sI_eq
      · rw [if_neg (fun z => hgt (hlt.mp (cmp64_gt.mp z))), bMo_findAlone_79, bMo_findAlone_96, w32_id (by omega)]
        refine ih (M4, _, _) ⟨f3.tr (f4.mono (fun t i j z => Or.inl z)), ?_, ?_⟩
        · rw [hsu, if_neg (fun z => hgt z.1)]
          show M4.2 _ _ _ = _
          rw [f4.g2 89 _ _ (fun z => by omega)]; exact r1
        · rw [hsu, if_neg (fun z => hgt z.1)]
          show M4.1 _ _ _ = _
          rw [f4.g1 91 _ _ (fun z => by omega)]; exact r2
  · exact ((Fs.mono (fun t i j z => Or.inl z) f2).sL (by omega)).sI (by omega)
  · show (sI _ _ _ _ _).2 _ _ _ = _
    rw [sI2, sL_eq]; rfl
  · exact sI_eq
abbrev pAw (t i j : Nat) : Prop := pHo t i j ∨ t = 89 ∨ t = 91
def AlM (R : RT) (s w o : Int) (M : Mem) : Prop := M.2 89 w.toNat o.toNat = Int64.ofInt (aI R s w.toNat o) ∧ M.1 91 w.toNat o.toNat = aD R s w o
theorem m_findAlone {M : Mem} {R : RT} {s : Int} (hM : MR R M) (h : WR R) (hH : HL R M) (hs : 0 ≤ s ∧ s < R 4 1)
    (hq : ∀ M', Fs pAw M M' → (∀ w o : Int, 0 ≤ w → w ≤ R 4 2 → 0 ≤ o → o ≤ stp R s → AlM R s w o M') → Q (vi 0) M') : Call (d + 62) qMo_findAlone [vr 10 0, vi s] M Q X := by
  have hb := h.b
  have hst := h.stp s (by omega)
  rw [show d + 62 = (d + 61) + 1 from rfl, eMo_findAlone, bMo_findAlone_0, m_unitOf, KV_eq, bMo_findAlone_2]
  refine loop_up (fun w a => At (d + 61) kMo_findAlone 5 [vr 10 0, vi s, vi (su s), vi w, a.2.1, a.2.2.1, a.2.2.2.1, a.2.2.2.2.1, a.2.2.2.2.2] [] a.1 Q X) (fun w (a : Mem × AV × AV × AV × AV × AV) => Fs pAw M a.1 ∧ ∀ w' o : Int, 0 ≤ w' → w' < w → 0 ≤ o → o ≤ stp R s → AlM R s w' o a.1) 0 (R 4 2 + 1) ?_ ?_ 0 (M, _, _, _, _, _) (by omega) (by omega) ⟨Fs.rf, fun w' o a b => by omega⟩
  · rintro ⟨M1, z4, z5, z6, z7, z8⟩ ⟨f1, r1⟩
    have hM1 : MR R M1 := hM.fs f1 (fun t i j z => by omega)
    show At _ _ _ _ _ _ _ _
    rw [bMo_findAlone_5, hM1.2.1, if_pos (by omega), bMo_findAlone_102]
    exact hq M1 f1 (fun w o w0 w1 => r1 w o w0 (by omega))
  · rintro w ⟨M1, z4, z5, z6, z7, z8⟩ w0 w1 ⟨f1, r1⟩ ih
    have hM1 : MR R M1 := hM.fs f1 (fun t i j z => by omega)
    show At _ _ _ _ _ _ _ _
    rw [bMo_findAlone_5, hM1.2.1, if_neg (by omega), bMo_findAlone_9]
    refine loop_up (fun o a => At (d + 61) kMo_findAlone 11 [vr 10 0, vi s, vi (su s), vi w, vi o, a.2.1, a.2.2.1, a.2.2.2.1, a.2.2.2.2] [] a.1 Q X) (fun o (a : Mem × AV × AV × AV × AV) => Fs pAw M a.1 ∧ (∀ w' o' : Int, 0 ≤ w' → w' < w → 0 ≤ o' → o' ≤ stp R s → AlM R s w' o' a.1) ∧ ∀ o' : Int, 0 ≤ o' → o' < o → AlM R s w o' a.1) 0 (stp R s + 1) ?_ ?_ 0 (M1, _, _, _, _) (by omega) (by omega) ⟨f1, r1, fun o' a b => by omega⟩
    · rintro ⟨M2, z5, z6, z7, z8⟩ ⟨f2, r2, q2⟩
      have hM2 : MR R M2 := hM.fs f2 (fun t i j z => by omega)
      show At _ _ _ _ _ _ _ _
      rw [bMo_findAlone_11 (by omega), (hM2.2.2.2.2.2.2.1 s hs.1 (by omega)).1, if_pos (by omega), bMo_findAlone_100, w32_id (by omega)]
      refine ih (M2, _, _, _, _, _) ⟨f2, fun w' o' a b c e => ?_⟩
      by_cases hww : w' = w
      · subst hww; exact q2 o' c (by omega)
      · exact r2 w' o' a (by omega) c e
    · rintro o ⟨M2, z5, z6, z7, z8⟩ o0 o1 ⟨f2, r2, q2⟩ ih2
      have hM2 : MR R M2 := hM.fs f2 (fun t i j z => by omega)
      have n7 : 0 * 7 + w.toNat = w.toNat := by omega
      show At _ _ _ _ _ _ _ _
      rw [bMo_findAlone_11 (by omega), (hM2.2.2.2.2.2.2.1 s hs.1 (by omega)).1, if_neg (by omega), bMo_findAlone_17 (by omega), n7]
      generalize hM3 : sI (sL M2 89 w.toNat o.toNat 0) 91 w.toNat o.toNat 0 = M3
      have f3 : Fs (pAl w o) M2 M3 := by rw [← hM3]; exact (Fs.rf.sL (by omega)).sI (by omega)
      have c1 : M3.2 89 w.toNat o.toNat = 0 := by rw [← hM3, sI2, sL_eq]
      have c2 : M3.1 91 w.toNat o.toNat = 0 := by rw [← hM3]; exact sI_eq
      have other : ∀ M4, Fs (pAl w o) M2 M4 → (∀ w' o' : Int, 0 ≤ w' → w' < w → 0 ≤ o' → o' ≤ stp R s → AlM R s w' o' M4) ∧ ∀ o' : Int, 0 ≤ o' → o' < o → AlM R s w o' M4 := fun M4 f4 => by
        refine ⟨fun w' o' a b c e => ?_, fun o' a b => ?_⟩
        · obtain ⟨p, q⟩ := r2 w' o' a b c e
          exact ⟨(f4.g2 89 _ _ (fun z => by omega)).trans p, (f4.g1 91 _ _ (fun z => by omega)).trans q⟩
        · obtain ⟨p, q⟩ := q2 o' a b
          exact ⟨(f4.g2 89 _ _ (fun z => by omega)).trans p, (f4.g1 91 _ _ (fun z => by omega)).trans q⟩
      have fin : ∀ (M4 : Mem) (z5 z6 z7 z8 : AV), Fs (pAl w o) M2 M4 → AlM R s w o M4 → At (d + 61) kMo_findAlone 98 [vr 10 0, vi s, vi (su s), vi w, vi o, z5, z6, z7, z8] [] M4 Q X := by
        intro M4 z5 z6 z7 z8 f4 ha
        rw [bMo_findAlone_98, w32_id (by omega)]
        refine ih2 (M4, _, _, _, _) ⟨f2.tr (f4.mono (fun t i j z => by omega)), (other M4 f4).1, fun o' a b => ?_⟩
        by_cases hoo : o' = o
        · subst hoo; exact ha
        · exact (other M4 f4).2 o' a (by omega)
      have z0 : ∀ k : Nat, k ≤ 6 → (w = 0 ∨ o = 0) → k = w.toNat → aI R s k o = 0 := by
        intro k _ hz hk
        cases k with
        | zero => rfl
        | succ n =>
          show (if o ≤ 0 then 0 else _) = _
          rw [if_pos (by omega)]
      by_cases hw0 : w = 0
      · rw [if_pos hw0]
        refine fin M3 _ _ _ _ f3 ⟨?_, ?_⟩
        · rw [c1, z0 w.toNat (by omega) (Or.inl hw0) rfl]; rfl
        · rw [c2]; unfold aD; rw [if_pos (by omega)]
      · rw [if_neg hw0, bMo_findAlone_33]
        by_cases ho0 : o = 0
        · rw [if_neg (by omega), bMo_findAlone_35]
          refine fin M3 _ _ _ _ f3 ⟨?_, ?_⟩
          · rw [c1, z0 w.toNat (by omega) (Or.inr ho0) rfl]; rfl
          · rw [c2]; unfold aD; rw [if_pos (by omega)]
        · rw [if_pos ho0]
          have f23 : Fs pAw M M3 := f2.tr (f3.mono (fun t i j z => by omega))
          refine m_aCell (d := d) (hM.fs f23 (fun t i j z => by omega)) h (hH.tx (f23.tx (fun t i j z => by omega))) hs (by omega) (by omega) rfl (fun v v0 v1 => ((other M3 f3).1 (w - 1) v (by omega) (by omega) v0 (by omega)).1) ?_
          intro M4 z5 z6 z7 z8 f4 a1 a2
          exact fin M4 _ _ _ _ (f3.tr f4) ⟨a1, a2⟩
end
