/-! LAYER 3, THE REFERENCE SOLVES ALL STATES -/
def gI (w p : Int) : Nat := (0 * 7 + w.toNat) * 125 + p.toNat
theorem m_settles {d : Nat} {M : Mem} {Q : AV → Mem → Prop} {X : Nat → Mem → Prop} {w p b : Int} {R : RT} {V : Int → Int → Int64} (hM : MR R M) (h : WR R) (hn1 : 1 ≤ R 4 1) (hH : HL R M) (hS : Sta R p b) (hg : Gng p b) (hfit : ∀ s : Int, 0 ≤ s → s < 3 → dg p s ≤ stp R s) (hw : 1 ≤ w ∧ w ≤ 6)
    (hV : ∀ p' b' i : Int, Sta R p' b' → (∀ s : Int, 0 ≤ s → s < 3 → dg p' s ≤ stp R s) → ¬ hfP p' b' → 0 ≤ i → i < R 4 1 → M.2 71 (tI 0 (w - 1) p' b') i.toNat = V (cd p' b') i)
    (hV0 : ∀ y i : Int, 0 ≤ i → i < 3 → 0 ≤ y → y < 125 → fitsP R y → dg y i = 0 → V y i = 0)
    (hq : ∀ M', Fs (pSt (tI 0 w p b) (gI w p) b.toNat) M M' → (∀ s : Int, 0 ≤ s → s < R 4 1 → M'.2 71 (tI 0 w p b) s.toNat = rG R V w (cd p b) (rowS R V w (cd p b)) s ∧ M'.1 75 (tI 0 w p b) s.toNat = dr (rowS R V w (cd p b)) s) → M'.2 78 (gI w p) b.toNat = gnR R V w (cd p b) (rowS R V w (cd p b)) → Q (vi 0) M') : Call (d + 62) qMo_settles [vr 10 0, vi w, vi p, vi b] M Q X := by
  have hb := h.b
  have hf := fits_cd (b := b) hfit
  have h5 := p5_R (n := R 4 1) (by omega)
  obtain ⟨s1, s2, s3⟩ := hS
  refine m_settles1 hM h hn1 hH ⟨s1, s2, s3⟩ hg hw ?_
  intro M1 f1 may1 z5 z6 z7 z8 z9 z10 z11 z12 z13 z14 z15 z16 z17 z18 z19
  rw [bMo_settles_28]
  refine m_settles2 (V := V) (hM.fs f1 (fun t i j z => by omega)) h hn1 ⟨s1, s2, s3⟩ hg hfit hw may1 (fun p' b' i a1 a2 a3 a4 a5 => by rw [f1.g2 71 _ _ (fun z => by omega)]; exact hV p' b' i a1 a2 a3 a4 a5) hV0 ?_ _ _ _ _ _ _ _ _ _ _ _ _ _ _ _
  intro M2 f2 rows2 z5 z6 z7 z8 z9 z10 z11 z12 z13 z14 z15 z16 z17 z18 z19
  rw [bMo_settles_88]
  have f12 := f1.tr f2
  have hM2 : MR R M2 := hM.fs f12 (fun t i j z => by omega)
  refine m_best hM2 h hn1 hf rows2 hV0 ?_ _ _ _ _ _ _ _ _ _ _
  intro v v1 v2 hrow z7 z8 z9 z10 z11 z12 z13 z14 z15 z16 z17 z18 z19
  have hok : okR R w (cd p b) (rvw v) = true := by rw [hrow]; exact rowS_ok
  rw [bMo_settles_212 (by omega)]
  refine loop_up (fun s M3 => ∀ z5 z6 z7 z8 z10 z11 z12 z13 z14 z15 z16 z17 z18 z19, At (d + 61) kMo_settles 223 [vr 10 0, vi w, vi p, vi b, vi v, z5, z6, z7, z8, vi s, z10, z11, z12, z13, z14, z15, z16, z17, z18, z19] [] M3 Q X) (fun s M3 => Fs (fun t i j => (t = 71 ∧ i = tI 0 w p b) ∨ (t = 75 ∧ i = tI 0 w p b) ∨ (t = 78 ∧ i = gI w p ∧ j = b.toNat)) M2 M3 ∧ M3.2 78 (gI w p) b.toNat = gnR R V w (cd p b) (rowS R V w (cd p b)) ∧ ∀ s' : Int, 0 ≤ s' → s' < s → M3.2 71 (tI 0 w p b) s'.toNat = rG R V w (cd p b) (rvw v) s' ∧ M3.1 75 (tI 0 w p b) s'.toNat = dr (rvw v) s') 0 (R 4 1) ?_ ?_ 0 _ (by omega) (by omega) ⟨Fs.rf.sL (Or.inr (Or.inr ⟨rfl, rfl, rfl⟩)), sL_eq, by intros; omega⟩ _ _ _ _ _ _ _ _ _ _ _ _ _ _
  · rintro M3 ⟨g1, g2, g3⟩ z5 z6 z7 z8 z10 z11 z12 z13 z14 z15 z16 z17 z18 z19
    have hM3 : MR R M3 := hM2.fs g1 (fun t i j z => by omega)
    rw [bMo_settles_223, hM3.1, if_pos (by omega), bMo_settles_258]
    refine hq M3 ((f12.mono (fun t i j z => Or.inl z)).tr (g1.mono (fun t i j z => Or.inr z))) ?_ g2
    intro s a1 a2
    rw [← hrow]
    exact g3 s a1 a2
  · rintro s M3 a1 a2 ⟨g1, g2, g3⟩ gk z5 z6 z7 z8 z10 z11 z12 z13 z14 z15 z16 z17 z18 z19
    have hM3 : MR R M3 := hM2.fs g1 (fun t i j z => by omega)
    have hall : M3.2 84 (0 * 125 + v.toNat) s.toNat = rG R V w (cd p b) (rvw v) s := by
      rw [show 0 * 125 + v.toNat = v.toNat by omega, g1.g2 84 _ _ (fun z => by omega)]
      exact (rows2 v v1 v2).2 hok s a1 a2
    rw [bMo_settles_223, hM3.1, if_neg (by omega), bMo_settles_227 (by omega), m_digit (by omega), KV_eq, bMo_settles_255 (by omega), w32_id (by omega), hall]
    refine gk _ ⟨?_, ?_, ?_⟩ _ _ _ _ _ _ _ _ _ _ _ _ _ _
    · exact (g1.sL (Or.inl ⟨rfl, rfl⟩)).sI (Or.inr (Or.inl ⟨rfl, rfl⟩))
    · rw [sI2, sL2, if_neg (by omega)]; exact g2
    · intro s' b1 b2
      by_cases he : s' = s
      · subst he
        refine ⟨?_, ?_⟩
        · rw [sI2]
          show (sL M3 71 (tI 0 w p b) s'.toNat _).2 71 (tI 0 w p b) s'.toNat = _
          rw [sL_eq]
        · show (sI _ 75 (tI 0 w p b) s'.toNat _).1 75 (tI 0 w p b) s'.toNat = _
          rw [sI_eq, dr_rvw (by omega)]
      · have := g3 s' b1 (by omega)
        rw [sI2, sL2, if_neg (by omega), sI_ne (by omega)]
        exact this
