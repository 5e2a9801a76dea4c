/-! LAYER 3, THE REFERENCE SOLVES ALL STATES: its run -/
theorem fits_aft {R : RT} {x a b c : Int} (hf : fitsP R x) (ha : 0 ≤ a ∧ a < 3) (hb : 0 ≤ b ∧ b < 3) (hc : 0 ≤ c ∧ c < 3) : fitsP R (aft x (mm a b c)) := (stl_aft (al := 1) (w := 1) ⟨hf, Or.inl (by omega)⟩ ha hb hc).1
theorem Wf_zero {R : RT} (h : WR R) : ∀ (k : Nat) (y i : Int), 0 ≤ i → i < 3 → 0 ≤ y → y < 125 → fitsP R y → dg y i = 0 → Wf R k y i = 0
  | 0, _, _, _, _, _, _, _, _ => rfl
  | k + 1, y, i, i1, i2, y1, y2, hf, hz => by
    unfold Wf
    by_cases hy : y = 0
    · rw [if_pos hy]
    · rw [if_neg hy]
      obtain ⟨c0, c1, c2⟩ := ok_of (rowS_ok (R := R) (V := Wf R k) (w := ((k + 1 : Nat) : Int)) (x := y))
      exact G0_zero h hf hz ⟨i1, i2⟩ (fun y' a1 a2 hf' hz' => Wf_zero h k y' i i1 i2 a1 a2 hf' hz') c0 c1 c2
theorem m_isPlace {d : Nat} {M Q X} {R : RT} {p : Int} (hM : MR R M) (h : WR R) (hp : 0 ≤ p ∧ p < 125) : Call (d + 2) qMo_isPlace [vr 10 0, vi p] M Q X = Q (vi (if fitsP R p then 1 else 0)) M := by
  have hb := h.b
  have n0 := hM.1
  have hst : ∀ k : Int, 0 ≤ k → k < 3 → R 4 1 ≤ k → stp R k = 0 := by
    intro k k1 k2 k3
    have e0 : stp R 0 = R 33 0 := rfl
    have e1 : stp R 1 = R 33 1 := rfl
    have e2 : stp R 2 = R 33 2 := rfl
    rcases (by omega : k = 0 ∨ k = 1 ∨ k = 2) with rfl | rfl | rfl <;> omega
  have key : ∀ k : Int, 0 ≤ k → k < 3 → At (d + 1) kMo_isPlace 2 [vr 10 0, vi p, vi k] [] M Q X = if dg p k ≤ stp R k then At (d + 1) kMo_isPlace 2 [vr 10 0, vi p, vi (k + 1)] [] M Q X else Q (vi 0) M := by
    intro k k1 k2
    have hbk := (hM.2.2.2.2.2.2.1 k k1 k2).1
    rw [bMo_isPlace_2, if_neg (by omega), bMo_isPlace_5, m_stepsOf hp, KV_eq, bMo_isPlace_8, n0]
    by_cases hk : R 4 1 ≤ k
    · rw [if_pos hk, bMo_isPlace_17, bMo_isPlace_18, bMo_isPlace_21, w32_id (by omega), bMo_isPlace_19, hst k k1 k2 hk]; rfl
    · rw [if_neg hk, bMo_isPlace_12 (by omega), bMo_isPlace_18, bMo_isPlace_21, w32_id (by omega), bMo_isPlace_19, hbk]; rfl
  rw [eMo_isPlace, bMo_isPlace_0, key 0 (by omega) (by omega), show (0 : Int) + 1 = 1 from rfl, key 1 (by omega) (by omega), show (1 : Int) + 1 = 2 from rfl, key 2 (by omega) (by omega), show (2 : Int) + 1 = 3 from rfl, bMo_isPlace_2, if_pos (show (3 : Int) ≤ 3 by omega), bMo_isPlace_23]
  exact ite3_Q
/-- the code of a state, 0 if it is over -/
def cdo (p b : Int) : Int := if hfP p b then 0 else cd p b
/-- what the reference's tables must hold at a state -/
def EntM (R : RT) (M : Mem) (w p b : Int) : Prop := (∀ s : Int, 0 ≤ s → s < R 4 1 → M.2 71 (tI 0 w p b) s.toNat = Wf R w.toNat (cdo p b) s ∧ M.1 75 (tI 0 w p b) s.toNat = if w = 0 ∨ cdo p b = 0 then 0 else dr (Rwf R w (cdo p b)) s) ∧ M.2 78 (gI w p) b.toNat = if w = 0 ∨ cdo p b = 0 then 0 else Gnf R w (cdo p b)
def Solved (R : RT) (M : Mem) : Prop := ∀ w p b : Int, 0 ≤ w → w ≤ R 4 2 → 0 ≤ p → p < 125 → fitsP R p → 0 ≤ b → b < pw (R 4 1) → EntM R M w p b
abbrev pSv (t i j : Nat) : Prop := pSc t i j ∨ (t = 71 ∧ i < 7000) ∨ t = 75 ∨ t = 78 ∨ (t = 10 ∧ i = 0 ∧ j = 44)
theorem EntM.fs {R M M' P} {w p b : Int} (h : EntM R M w p b) (hf : Fs P M M') (h1 : ∀ j, ¬ P 71 (tI 0 w p b) j) (h2 : ∀ j, ¬ P 75 (tI 0 w p b) j) (h3 : ¬ P 78 (gI w p) b.toNat) : EntM R M' w p b := by
  refine ⟨fun s a1 a2 => ?_, ?_⟩
  · rw [hf.g2 71 _ _ (h1 _), hf.g1 75 _ _ (h2 _)]; exact h.1 s a1 a2
  · rw [hf.g2 78 _ _ h3]; exact h.2
theorem pw_n {n : Int} (hn : 1 ≤ n ∧ n ≤ 3) : pw n = 2 ∧ n = 1 ∨ pw n = 4 ∧ n = 2 ∨ pw n = 8 ∧ n = 3 := by
  rcases (by omega : n = 1 ∨ n = 2 ∨ n = 3) with rfl | rfl | rfl
  · exact Or.inl ⟨rfl, rfl⟩
  · exact Or.inr (Or.inl ⟨rfl, rfl⟩)
  · exact Or.inr (Or.inr ⟨rfl, rfl⟩)
theorem sta_of {R : RT} (h : WR R) (hn1 : 1 ≤ R 4 1) {p b : Int} (hp : 0 ≤ p ∧ p < 125) (hf : fitsP R p) (hb : 0 ≤ b ∧ b < pw (R 4 1)) : Sta R p b := by
  have hbb := h.b
  have hpn := pw_n (n := R 4 1) (by omega)
  refine ⟨hp, by omega, ?_⟩
  intro s a1 a2 a3
  refine ⟨nin_of h hf a1 a2 a3, ?_⟩
  have e1 : bit b 1 = b / 2 % 2 := rfl
  have e2 : bit b 2 = b / 4 % 2 := rfl
  rcases (by omega : s = 1 ∨ s = 2) with rfl | rfl <;> omega
theorem bits_lt {R : RT} {p b : Int} (hn1 : 1 ≤ R 4 1 ∧ R 4 1 ≤ 3) (hS : Sta R p b) : 0 ≤ b ∧ b < pw (R 4 1) := by
  obtain ⟨s1, s2, s3⟩ := hS
  have hpn := pw_n (n := R 4 1) hn1
  have e1 : bit b 1 = b / 2 % 2 := rfl
  have e2 : bit b 2 = b / 4 % 2 := rfl
  have q1 := s3 1 (by omega) (by omega)
  have q2 := s3 2 (by omega) (by omega)
  omega
theorem tI_inj {w p b w' p' b' : Int} (hp : 0 ≤ p ∧ p < 125) (hb : 0 ≤ b ∧ b < 8) (hp' : 0 ≤ p' ∧ p' < 125) (hb' : 0 ≤ b' ∧ b' < 8) (hw : 0 ≤ w) (hw' : 0 ≤ w') (he : tI 0 w p b = tI 0 w' p' b') : w = w' ∧ p = p' ∧ b = b' := by
  unfold tI at he
  omega
theorem EntM.keep {R M M' P} {w p b w' p' b' : Int} (h : EntM R M w' p' b') (hf : Fs P M M') (hp : 0 ≤ p ∧ p < 125) (hb : 0 ≤ b ∧ b < 8) (hp' : 0 ≤ p' ∧ p' < 125) (hb' : 0 ≤ b' ∧ b' < 8) (hw : 0 ≤ w) (hw' : 0 ≤ w') (hne : ¬ (w' = w ∧ p' = p ∧ b' = b))
    (hP : ∀ t i j, P t i j → (t = 71 ∨ t = 75 → i = tI 0 w p b) ∧ (t = 78 → i = gI w p ∧ j = b.toNat)) : EntM R M' w' p' b' := by
  have hn : tI 0 w' p' b' ≠ tI 0 w p b := fun z => hne (tI_inj hp' hb' hp hb hw' hw z)
  refine h.fs hf (fun j z => hn ((hP _ _ _ z).1 (Or.inl rfl))) (fun j z => hn ((hP _ _ _ z).1 (Or.inr rfl))) (fun z => ?_)
  obtain ⟨q1, q2⟩ := (hP _ _ _ z).2 rfl
  unfold gI at q1
  omega
theorem ov_no {w p b : Int} (hb : 0 ≤ b ∧ b < 8) (ho : ¬ ovP w p b) : Gng p b ∧ w ≠ 0 ∧ ¬ hfP p b ∧ cd p b ≠ 0 := by
  have hg : Gng p b := by
    intro s a1 a2 a3
    have hd := dg_R p s
    by_cases hz : dg p s = 0
    · exfalso
      apply ho
      rcases (by omega : s = 0 ∨ s = 1 ∨ s = 2) with rfl | rfl | rfl
      · exact Or.inr (Or.inr (Or.inl ⟨a3, hz⟩))
      · exact Or.inr (Or.inr (Or.inr (Or.inl ⟨a3, hz⟩)))
      · exact Or.inr (Or.inr (Or.inr (Or.inr ⟨a3, hz⟩)))
    · clear ho; omega
  refine ⟨hg, fun z => ho (Or.inl z), fun z => ho (Or.inr (Or.inr z)), ?_⟩
  intro hz
  have hbn : b ≠ 0 := fun z => ho (Or.inr (Or.inl z))
  clear ho
  have e : ∀ s : Int, 0 ≤ s → s < 3 → bit b s = 0 := by
    intro s a1 a2
    have hbs := bit_R b s
    by_cases h1 : bit b s = 1
    · have h2 := hg s a1 a2 h1
      have h3 := dg_cd (p := p) (b := b) ⟨a1, a2⟩
      rw [hz] at h3
      unfold lsp at h3
      rw [if_pos h1] at h3
      have h4 : dg 0 s = 0 := by
        rcases (by omega : s = 0 ∨ s = 1 ∨ s = 2) with rfl | rfl | rfl <;> rfl
      omega
    · omega
  have q0 : b % 2 = 0 := e 0 (by omega) (by omega)
  have q1 : b / 2 % 2 = 0 := e 1 (by omega) (by omega)
  have q2 : b / 4 % 2 = 0 := e 2 (by omega) (by omega)
  omega
theorem ov_z {w p b : Int} (ho : ovP w p b) : w = 0 ∨ cdo p b = 0 := by
  rcases ho with z | z | z
  · exact Or.inl z
  · right
    unfold cdo; split
    · rfl
    · subst z; unfold cd lsp; rfl
  · right; unfold cdo; rw [if_pos z]
set_option maxHeartbeats 4000000 in
theorem m_solve {d : Nat} {M : Mem} {Q : AV → Mem → Prop} {X : Nat → Mem → Prop} {R : RT} (hM : MR R M) (h : WR R) (hn1 : 1 ≤ R 4 1) (hH : HL R M) (hs : M.1 10 0 44 ≠ 0 → Solved R M)
    (hq : ∀ M', Fs pSv M M' → Solved R M' → M'.1 10 0 44 ≠ 0 → Q (vi 0) M') : Call (d + 63) qMo_solve [vr 10 0] M Q X := by
  have hb := h.b
  have hpn := pw_n (n := R 4 1) (by omega)
  rw [show d + 63 = (d + 62) + 1 from rfl, eMo_solve, bMo_solve_0]
  by_cases h44 : M.1 10 0 44 = 0
  rotate_left
  · rw [if_neg h44, bMo_solve_3]
    exact hq M Fs.rf (hs h44) h44
  rw [if_pos h44, bMo_solve_4]
  have hloop := loop2I 0 (R 4 2 + 1) 0 125 (by omega) (by omega) (fun w M' => ∀ z2 z3 z4, At (d + 62) kMo_solve 6 [vr 10 0, vi w, z2, z3, z4] [] M' Q X) (fun w p M' => ∀ z3 z4, At (d + 62) kMo_solve 12 [vr 10 0, vi w, vi p, z3, z4] [] M' Q X)
    (fun w0 p0 M' => Fs pSv M M' ∧ ∀ w p b : Int, 0 ≤ w → w ≤ R 4 2 → 0 ≤ p → p < 125 → fitsP R p → 0 ≤ b → b < pw (R 4 1) → (w < w0 ∨ w = w0 ∧ p < p0) → EntM R M' w p b) ?_ ?_ ?_ ?_ ?_
  · exact hloop M ⟨Fs.rf, by intros; omega⟩ _ _ _
  · rintro M' ⟨g1, g2⟩ z2 z3 z4
    have hM' : MR R M' := hM.fs g1 (fun t i j z => by omega)
    rw [bMo_solve_6, hM'.2.1, if_pos (by omega), bMo_solve_83 (by omega)]
    refine hq _ (g1.sI (by omega)) ?_ (by rw [sI_eq]; omega)
    intro w p b a1 a2 a3 a4 a5 a6 a7
    refine (g2 w p b a1 a2 a3 a4 a5 a6 a7 (by omega)).fs (P := fun t i j => t = 10) (Fs.rf.sI rfl) (fun j z => by omega) (fun j z => by omega) (fun z => by omega)
  · rintro w M' w1 w2 ⟨g1, -⟩ g z2 z3 z4
    have hM' : MR R M' := hM.fs g1 (fun t i j z => by omega)
    rw [bMo_solve_6, hM'.2.1, if_neg (by omega), bMo_solve_10]
    exact g _ _
  · intro w M' w1 w2 g z3 z4
    rw [bMo_solve_12, if_pos (by omega), bMo_solve_81, w32_id (by omega)]
    exact g _ _ _
  · rintro w p M' w1 w2 p1 p2 ⟨g1, g2⟩ gk z3 z4
    have hM' : MR R M' := hM.fs g1 (fun t i j z => by omega)
    rw [bMo_solve_12, if_neg (by omega), bMo_solve_15]
    by_cases hf : fitsP R p
    rotate_left
    · rw [bMo_solve_17, hM'.1, bshl_pw (by omega), if_neg (by omega), bMo_solve_23, m_isPlace hM' h (by omega), if_neg hf, KV_eq, bMo_solve_26, if_pos rfl, bMo_solve_79, w32_id (by omega)]
      refine gk M' ⟨g1, ?_⟩ _ _
      intro w' p' b' a1 a2 a3 a4 a5 a6 a7 a8
      by_cases he : w' = w ∧ p' = p
      · obtain ⟨rfl, rfl⟩ := he; exact absurd a5 hf
      · exact g2 w' p' b' a1 a2 a3 a4 a5 a6 a7 (by omega)
    have hfit : ∀ s : Int, 0 ≤ s → s < 3 → dg p s ≤ stp R s := by
      intro s a1 a2
      rcases (by omega : s = 0 ∨ s = 1 ∨ s = 2) with rfl | rfl | rfl
      · exact hf.1
      · exact hf.2.1
      · exact hf.2.2
    refine loop_up (fun b M2 => ∀ z4, At (d + 62) kMo_solve 17 [vr 10 0, vi w, vi p, vi b, z4] [] M2 Q X) (fun b0 M2 => Fs pSv M M2 ∧ ∀ w' p' b' : Int, 0 ≤ w' → w' ≤ R 4 2 → 0 ≤ p' → p' < 125 → fitsP R p' → 0 ≤ b' → b' < pw (R 4 1) → (w' < w ∨ w' = w ∧ (p' < p ∨ p' = p ∧ b' < b0)) → EntM R M2 w' p' b') 0 (pw (R 4 1)) ?_ ?_ 0 M' (by omega) (by omega) ⟨g1, fun w' p' b' a1 a2 a3 a4 a5 a6 a7 a8 => g2 w' p' b' a1 a2 a3 a4 a5 a6 a7 (by omega)⟩ _
    · rintro M2 ⟨k1, k2⟩ z4
      have hM2 : MR R M2 := hM.fs k1 (fun t i j z => by omega)
      rw [bMo_solve_17, hM2.1, bshl_pw (by omega), if_pos (by omega), bMo_solve_79, w32_id (by omega)]
      exact gk M2 ⟨k1, fun w' p' b' a1 a2 a3 a4 a5 a6 a7 a8 => k2 w' p' b' a1 a2 a3 a4 a5 a6 a7 (by omega)⟩ _ _
    · rintro b M2 b1 b2 ⟨k1, k2⟩ kk z4
      have hM2 : MR R M2 := hM.fs k1 (fun t i j z => by omega)
      have hS := sta_of h hn1 ⟨p1, p2⟩ hf ⟨b1, b2⟩
      rw [bMo_solve_17, hM2.1, bshl_pw (by omega), if_neg (by omega), bMo_solve_23, m_isPlace hM2 h (by omega), if_pos hf, KV_eq, bMo_solve_26, if_neg (by omega), bMo_solve_27 (by omega)]
      refine loop_up (fun s M3 => At (d + 62) kMo_solve 38 [vr 10 0, vi w, vi p, vi b, vi s] [] M3 Q X) (fun s M3 => Fs (fun t i j => (t = 71 ∧ i = tI 0 w p b) ∨ (t = 75 ∧ i = tI 0 w p b) ∨ (t = 78 ∧ i = gI w p ∧ j = b.toNat)) M2 M3 ∧ M3.2 78 (gI w p) b.toNat = 0 ∧ ∀ s' : Int, 0 ≤ s' → s' < s → M3.2 71 (tI 0 w p b) s'.toNat = 0 ∧ M3.1 75 (tI 0 w p b) s'.toNat = 0) 0 (R 4 1) ?_ ?_ 0 _ (by omega) (by omega) ⟨Fs.rf.sL (Or.inr (Or.inr ⟨rfl, rfl, rfl⟩)), sL_eq, by intros; omega⟩
      · rintro M3 ⟨m1, m2, m3⟩
        have hM3 : MR R M3 := hM2.fs m1 (fun t i j z => by omega)
        have htI : tI 0 w p b < 7000 := by unfold tI; omega
        have f3 : Fs pSv M M3 := k1.tr (m1.mono (fun t i j z => by omega))
        rw [bMo_solve_38, hM3.1, if_pos (by omega), bMo_solve_66, m_isOver hM3 h hS, KV_eq, bMo_solve_71]
        have others : ∀ w' p' b' : Int, 0 ≤ w' → w' ≤ R 4 2 → 0 ≤ p' → p' < 125 → fitsP R p' → 0 ≤ b' → b' < pw (R 4 1) → (w' < w ∨ w' = w ∧ (p' < p ∨ p' = p ∧ b' < b)) → EntM R M3 w' p' b' := by
          intro w' p' b' a1 a2 a3 a4 a5 a6 a7 a8
          refine (k2 w' p' b' a1 a2 a3 a4 a5 a6 a7 a8).keep m1 ⟨p1, p2⟩ hS.2.1 ⟨a3, a4⟩ (by omega) w1 a1 (by omega) (fun t i j z => ?_)
          rcases z with z | z | z
          · exact ⟨fun _ => z.2, fun q => by omega⟩
          · exact ⟨fun _ => z.2, fun q => by omega⟩
          · exact ⟨fun q => by omega, fun _ => z.2⟩
        by_cases ho : ovP w p b
        · rw [if_pos (by rw [if_pos ho]; omega), bMo_solve_77, w32_id (by omega)]
          refine kk M3 ⟨f3, ?_⟩ _
          intro w' p' b' a1 a2 a3 a4 a5 a6 a7 a8
          by_cases he : w' = w ∧ p' = p ∧ b' = b
          · obtain ⟨rfl, rfl, rfl⟩ := he
            have hz := ov_z ho
            refine ⟨fun s c1 c2 => ?_, ?_⟩
            · rw [(m3 s c1 c2).1, (m3 s c1 c2).2, if_pos hz]
              refine ⟨?_, rfl⟩
              rcases hz with z | z
              · subst z; rfl
              · rw [z, Wf_0]
            · rw [m2, if_pos hz]
          · exact others w' p' b' a1 a2 a3 a4 a5 a6 a7 (by omega)
        · rw [if_neg (by rw [if_neg ho]; simp), bMo_solve_72]
          obtain ⟨hg, hw0, hnf, hcd0⟩ := ov_no hS.2.1 ho
          clear ho
          refine m_settles (V := Wf R (w - 1).toNat) hM3 h hn1 (hH.tx (f3.tx (fun t i j z => by omega))) hS hg hfit (by omega) ?_ (fun y i i1 i2 y1 y2 hfy hy => Wf_zero h _ y i i1 i2 y1 y2 hfy hy) ?_
          · intro p' b' i a1 a2 a3 a4 a5
            have hbl := bits_lt (by omega) a1
            have hE := others (w - 1) p' b' (by omega) (by omega) a1.1.1 a1.1.2 ⟨a2 0 (by omega) (by omega), a2 1 (by omega) (by omega), a2 2 (by omega) (by omega)⟩ hbl.1 hbl.2 (by omega)
            rw [(hE.1 i a4 a5).1]
            unfold cdo; rw [if_neg a3]
          · intro M4 n1 n2 n3
            rw [KU_eq, bMo_solve_77, w32_id (by omega)]
            refine kk M4 ⟨f3.tr (n1.mono (fun t i j z => by omega)), ?_⟩ _
            intro w' p' b' a1 a2 a3 a4 a5 a6 a7 a8
            by_cases he : w' = w ∧ p' = p ∧ b' = b
            · obtain ⟨rfl, rfl, rfl⟩ := he
              have hc : cdo p' b' = cd p' b' := by unfold cdo; rw [if_neg hnf]
              refine ⟨fun s c1 c2 => ?_, ?_⟩
              · rw [(n2 s c1 c2).1, (n2 s c1 c2).2, hc, if_neg (by omega), Wf_at (by omega) hcd0]
                exact ⟨rfl, rfl⟩
              · rw [n3, hc, if_neg (by omega)]; rfl
            · refine (others w' p' b' a1 a2 a3 a4 a5 a6 a7 (by omega)).keep n1 ⟨p1, p2⟩ hS.2.1 ⟨a3, a4⟩ (by omega) w1 a1 he (fun t i j z => ?_)
              rcases z with z | z | z | z
              · exact ⟨fun q => by omega, fun q => by omega⟩
              · exact ⟨fun _ => z.2, fun q => by omega⟩
              · exact ⟨fun _ => z.2, fun q => by omega⟩
              · exact ⟨fun q => by omega, fun _ => z.2⟩
      · rintro s M3 a1 a2 ⟨m1, m2, m3⟩ mk
        have hM3 : MR R M3 := hM2.fs m1 (fun t i j z => by omega)
        rw [bMo_solve_38, hM3.1, if_neg (by omega), bMo_solve_42 (by omega), w32_id (by omega)]
        refine mk _ ⟨?_, ?_, ?_⟩
        · exact (m1.sL (Or.inl ⟨rfl, rfl⟩)).sI (Or.inr (Or.inl ⟨rfl, rfl⟩))
        · rw [sI2, sL2, if_neg (by omega)]; exact m2
        · intro s' c1 c2
          by_cases he : s' = s
          · subst he
            refine ⟨?_, ?_⟩
            · rw [sI2]
              show (sL M3 71 (tI 0 w p b) s'.toNat _).2 71 (tI 0 w p b) s'.toNat = _
              rw [sL_eq]
            · show (sI _ 75 (tI 0 w p b) s'.toNat _).1 75 (tI 0 w p b) s'.toNat = _
              rw [sI_eq]
          · have := m3 s' c1 (by omega)
            rw [sI2, sL2, if_neg (by omega), sI_ne (by omega)]
            exact this
  · rintro w M' w1 w2 ⟨g1, g2⟩
    exact ⟨g1, fun w' p' b' a1 a2 a3 a4 a5 a6 a7 a8 => g2 w' p' b' a1 a2 a3 a4 a5 a6 a7 (by omega)⟩
