/-! LAYER 3, THE EDGE: the class -/
/-- a race with another prize -/
def sPz (R : RT) (p : Int) : RT := fun t j => if t = 4 ∧ j = 3 then p else R t j
theorem sPz_ne {R : RT} {p : Int} {t j : Nat} (h : ¬ (t = 4 ∧ j = 3)) : sPz R p t j = R t j := if_neg h
theorem sPz_eq {R : RT} {p : Int} : sPz R p 4 3 = p := if_pos ⟨rfl, rfl⟩
theorem sPz_sPz {R : RT} {p q : Int} : sPz (sPz R p) q = sPz R q := by
  funext t j
  by_cases h : t = 4 ∧ j = 3
  · obtain ⟨rfl, rfl⟩ := h; rw [sPz_eq, sPz_eq]
  · rw [sPz_ne h, sPz_ne h, sPz_ne h]
theorem sPz_id {R : RT} : sPz R (R 4 3) = R := by
  funext t j
  by_cases h : t = 4 ∧ j = 3
  · obtain ⟨rfl, rfl⟩ := h; exact sPz_eq
  · exact sPz_ne h
theorem WR.pz {R : RT} {p : Int} (h : WR R) (hp : 0 ≤ p ∧ p ≤ 10009) : WR (sPz R p) := by
  obtain ⟨h1, h2, h3, h4, h5, h6, h7, h8, h9, h10, h11, h12, h13, h14, h15, h16⟩ := h
  have e : ∀ t j : Nat, ¬ (t = 4 ∧ j = 3) → sPz R p t j = R t j := fun t j h => sPz_ne h
  have e1 := e 4 1 (by omega)
  have e5 := e 4 5 (by omega)
  have e6 := e 4 6 (by omega)
  refine ⟨by rw [e1]; exact h1, by rw [e 4 2 (by omega)]; exact h2, by rw [sPz_eq]; exact hp, by rw [e 4 4 (by omega)]; exact h4, by rw [e5]; exact h5, by rw [e6]; exact h6, ?_, ?_, ?_, ?_, ?_, ?_, ?_, ?_, ?_, by rw [e5, e6]; exact h16⟩
  · intro s hs; rw [e 33 s (by omega)]; exact h7 s hs
  · intro s hs; rw [e 33 s (by omega), e1]; exact h8 s hs
  · intro s hs; rw [e 34 s (by omega)]; exact h9 s hs
  · intro s hs; rw [e 34 s (by omega), e1]; exact h10 s hs
  · intro k hk; rw [e 35 k (by omega)]; exact h11 k hk
  · intro k hk; rw [e 36 k (by omega)]; exact h12 k hk
  · intro k hk; rw [e 38 k (by omega)]; exact h13 k hk
  · intro s hs; rw [e 37 s (by omega)]; exact h14 s hs
  · intro s hs; rw [e 35 _ (by omega), e 35 _ (by omega)]; exact h15 s hs
theorem bgn_pz {R : RT} {p : Int} : bgn (sPz R p) = bgn R := by
  unfold bgn bgo
  rw [sPz_ne (by omega), sPz_ne (by omega), sPz_ne (by omega), sPz_ne (by omega)]
theorem rd_pz {M : Mem} {i : Nat} {v : Int} : rd (sI M 4 i 3 v) i = sPz (rd M i) v := by
  funext t j
  unfold sPz
  by_cases h : t = 4 ∧ j = 3
  · obtain ⟨rfl, rfl⟩ := h
    rw [if_pos ⟨rfl, rfl⟩]
    unfold rd
    rw [if_pos (Or.inl rfl), sI_eq]
  · rw [if_neg h]
    unfold rd
    by_cases ht : t = 4 ∨ 33 ≤ t ∧ t ≤ 38
    · rw [if_pos ht, if_pos ht, sI_ne (by omega)]
    · rw [if_neg ht, if_neg ht]
/-- the second board's states that can come up -/
def Sid (R : RT) (M : Mem) : Prop := ∀ w x : Int, 1 ≤ w → w ≤ R 4 2 → 0 < x → x < 125 → stlP R 0 w x → CelF R 2 M w x
theorem rch_bgn {R : RT} (h : WR R) : rchP R (R 4 2) (bgn R) := by
  have k : ∀ s : Int, 0 ≤ s → s < 3 → rch1 R (R 4 2) (bgn R) s := fun s s0 s3 => Or.inr (by rw [dg_bgn h ⟨s0, s3⟩]; omega)
  exact ⟨k 0 (by omega) (by omega), k 1 (by omega) (by omega), k 2 (by omega) (by omega)⟩
theorem Sid.row {R : RT} {M : Mem} (h : Sid R M) (hz : Bz 2 M) (hW : WR R) : M.1 20 2 (R 4 2 * 125 + bgn R).toNat = rwX R (R 4 2) (bgn R) := by
  have hb := hW.b
  have hx : 0 ≤ bgn R ∧ bgn R < 125 := bgo_R hW (R 4 1)
  unfold rwX
  by_cases w0 : R 4 2 = 0
  · rw [if_pos (Or.inl w0), w0, show (0 : Int) * 125 + bgn R = bgn R by omega]
    exact (hz.2.2.2 (bgn R) hx.1 hx.2).1
  · by_cases x0 : bgn R = 0
    · rw [if_pos (Or.inr x0), x0, Int.add_zero]
      exact (hz.2.2.1 (R 4 2) (by omega) (by omega)).1
    · rw [if_neg (by omega)]
      exact (h (R 4 2) (bgn R) (by omega) (by omega) (by omega) hx.2 ⟨(bgn_plain hW).2.2.2, Or.inr (rch_bgn hW)⟩).1
theorem Sid.wrt {R : RT} {M : Mem} (h : Sid R M) (hz : Bz 2 M) (hW : WR R) {i : Int} (hi : 0 ≤ i ∧ i < 3) : M.2 22 2 ((R 4 2 * 125 + bgn R) * 3 + i).toNat = Wf R (R 4 2).toNat (bgn R) i := by
  have hb := hW.b
  have hx : 0 ≤ bgn R ∧ bgn R < 125 := bgo_R hW (R 4 1)
  by_cases w0 : R 4 2 = 0
  · rw [w0]; exact hz.1 (bgn R) i hx.1 hx.2 hi.1 hi.2
  · by_cases x0 : bgn R = 0
    · rw [x0, Wf_0]
      exact hz.2.1 (R 4 2) i (by omega) (by omega) hi.1 hi.2
    · exact (h (R 4 2) (bgn R) (by omega) (by omega) (by omega) hx.2 ⟨(bgn_plain hW).2.2.2, Or.inr (rch_bgn hW)⟩).2.2 i hi.1 hi.2
def edK (R : RT) (k : Int) : Bool := decide (rwX (sPz R (R 4 3 + k)) (R 4 2) (bgn R) ≠ rwX R (R 4 2) (bgn R))
def edV (R : RT) (k : Int) : Int := if k = -1 then -1 else R 4 3 + k
def edF (R : RT) : Int := edV R (fs2 (edK R) 1 10)
/-- the edge that is kept -/
def Ce (M : Mem) : Prop := M.1 9 0 13 ≤ M.1 9 0 1 ∧ ∀ i : Nat, i < 4 → 1 ≤ rd M i 4 1 → M.1 4 i 0 = M.1 9 0 13 → M.1 9 0 14 = edF (rd M i)
abbrev pEd (t i j : Nat) : Prop := pCl 2 t i ∨ (i = 5 ∧ inRa t j)
theorem ed_no {t i j : Nat} (h : pEd t i j) : ¬ ((t = 4 ∨ 33 ≤ t ∧ t ≤ 38) ∧ i ≠ 5) ∧ ¬ ((20 ≤ t ∧ t ≤ 24 ∨ 46 ≤ t ∧ t ≤ 52 ∨ t = 8) ∧ i ≠ 2) ∧ t ≠ 9 ∧ t ≠ 0 ∧ t ≠ 27 := by
  unfold pEd pCl at h; omega
section
variable {d : Nat} {Q : AV → Mem → Prop} {X : Nat → Mem → Prop}
theorem c_findLoop {R : RT} {M0 : Mem} (hR : rd M0 0 = R) (h : WR R) (hp : R 4 3 ≤ 9999) {z0 : AV} : ∀ (m : Nat) (lo : Int) (M : Mem), lo + m = 11 → 1 ≤ lo → Fs pEd M0 M → Bz 2 M → Zo M 5 → (∃ p, rd M 5 = sPz R p) →
    (∀ M', Fs pEd M0 M' → Bz 2 M' → Zo M' 5 → Q (vi (edV R (fs2 (edK R) lo m))) M') → At (d + 6) kPR_findEdge 13 [vr 9 0, vi (rwX R (R 4 2) (bgn R)), vr 4 0, vi (bgn R), vi lo] [] M Q X := by
  intro m
  have hb := h.b
  induction m with
  | zero =>
    intro lo M hl h1 f z zo hr hq
    rw [bPR_findEdge_13, if_pos (by omega), bPR_findEdge_41]
    exact hq M f z zo
  | succ m ih =>
    intro lo M hl h1 f z zo hr hq
    have r0 : ∀ M', Fs pEd M0 M' → rd M' 0 = R := fun M' f' => (rd_fs f' (fun t j ht z => (ed_no z).1 ⟨ht, by omega⟩)).trans hR
    have e3 : M.1 4 0 3 = R 4 3 := by rw [← r0 M f]; rfl
    rw [bPR_findEdge_13, if_neg (by omega), bPR_findEdge_16, e3, w32_id (by omega)]
    obtain ⟨p, hr⟩ := hr
    have f1 : Fs pEd M0 (sI M 4 5 3 (R 4 3 + lo)) := f.sI (Or.inr ⟨rfl, by omega⟩)
    have r5 : rd (sI M 4 5 3 (R 4 3 + lo)) 5 = sPz R (R 4 3 + lo) := by rw [rd_pz, hr, sPz_sPz]
    have hW' : WR (sPz R (R 4 3 + lo)) := h.pz (by omega)
    have zb : Bz 2 (sI M 4 5 3 (R 4 3 + lo)) := z.fs (P := fun t i j => t = 4) (Fs.rf.sI rfl) (fun t j a b => by omega)
    have zo1 : Zo (sI M 4 5 3 (R 4 3 + lo)) 5 := zo.fs (P := fun t i j => t = 4 ∧ j = 3) (Fs.rf.sI ⟨rfl, rfl⟩) (fun t j a b c => by omega)
    refine c_settle (d := d) (b := 2) (R := sPz R (R 4 3 + lo)) r5 hW' zb ?_
    intro M2 f2 z2 hs2
    have f2' : Fs pEd M0 M2 := f1.tr (f2.fs (fun t i j z => Or.inl z))
    have sid : Sid (sPz R (R 4 3 + lo)) M2 := hs2
    have zo2 : Zo M2 5 := zo1.fr f2 (fun t ht z => by unfold pCl at z; omega)
    have r52 : rd M2 5 = sPz R (R 4 3 + lo) := (rd_fr f2 (fun t ht z => by unfold pCl at z; omega)).trans r5
    have e2 : M2.1 4 0 2 = R 4 2 := by rw [← r0 M2 f2']; rfl
    have er := sid.row z2 hW'
    rw [sPz_ne (by omega), bgn_pz] at er
    have hx : 0 ≤ bgn R ∧ bgn R < 125 := bgo_R h (R 4 1)
    rw [KU_eq, bPR_findEdge_27, e2, c_rowAt (by omega) hx, KV_eq, bPR_findEdge_33, er]
    have hf2 : fs2 (edK R) lo (m + 1) = if edK R lo = true then lo else fs2 (edK R) (lo + 1) m := rfl
    rw [hf2] at hq
    by_cases hc : rwX (sPz R (R 4 3 + lo)) (R 4 2) (bgn R) = rwX R (R 4 2) (bgn R)
    · have hk : edK R lo = false := decide_eq_false (fun z => z hc)
      rw [hk, if_neg (by simp)] at hq
      rw [if_pos hc, bPR_findEdge_39, w32_id (by omega)]
      exact ih (lo + 1) M2 (by omega) (by omega) f2' z2 zo2 ⟨_, r52⟩ hq
    · have hk : edK R lo = true := decide_eq_true hc
      rw [hk, if_pos rfl] at hq
      have e5 : M2.1 4 5 3 = R 4 3 + lo := by
        have : rd M2 5 4 3 = R 4 3 + lo := by rw [r52]; exact sPz_eq
        exact this
      rw [if_neg hc, bPR_findEdge_35, e5]
      have := hq M2 f2' z2 zo2
      unfold edV at this
      rwa [if_neg (by omega)] at this
theorem c_findEdge {M : Mem} {R : RT} (hR : rd M 0 = R) (h : WR R) (hp : R 4 3 ≤ 9999) (hz : Bz 2 M) (z0 : Zo M 0) (z5 : Zo M 5) (hq : ∀ M', Fs pEd M M' → Bz 2 M' → Zo M' 5 → Q (vi (edF R)) M') : Call (d + 7) qPR_findEdge [vr 9 0, vi (rwX R (R 4 2) (bgn R))] M Q X := by
  rw [ePR_findEdge, bPR_findEdge_0, c_beginning (by rw [hR]; exact h), KV_eq, bPR_findEdge_6, hR]
  refine c_copyFrom (by omega) z5 ?_
  intro M1 f1 r1 zo1
  rw [KU_eq, bPR_findEdge_11]
  have f1' : Fs pEd M M1 := f1.mono (fun t i j z => Or.inr z)
  refine c_findLoop hR h hp (z0 := JK) 10 1 M1 (by omega) (by omega) f1' (hz.fs f1 (fun t j a z => by have := z.2; omega)) zo1 ⟨R 4 3, ?_⟩ hq
  rw [r1, nm_rd z0, hR, sPz_id]
abbrev pEg (t i j : Nat) : Prop := pSd t i j ∨ pEd t i j ∨ (t = 9 ∧ i = 0 ∧ (j = 13 ∨ j = 14))
theorem c_edge {M : Mem} (h0 : CI0 M) (hb : Cb M) (he : Ce M) (hp : rd M 0 4 3 ≤ 9999) (hx : tR (rd M 0) = 1 → X 0 M) (hq : tR (rd M 0) = 0 → ∀ M', Fs pEg M M' → CI0 M' → Cb M' → Ce M' → Q (vi (edF (rd M 0))) M') : Call (d + 9) qPR_edge [vr 9 0] M Q X := by
  have hW := h0.2.2.1 0 (by omega)
  have hbb := hW.b
  unfold tR at hx hq
  rw [ePR_edge, bPR_edge_0, c_needRace]
  by_cases hn : rd M 0 4 1 = 0
  · rw [if_pos hn] at hx; rw [if_pos hn]; exact hx rfl
  rw [if_neg hn] at hq
  rw [if_neg hn, KU_eq, bPR_edge_2]
  by_cases hst : M.1 9 0 13 = M.1 4 0 0
  · rw [if_pos hst, bPR_edge_30, he.2 0 (by omega) (by omega) hst.symm]
    exact hq rfl M Fs.rf h0 hb he
  · rw [if_neg hst, bPR_edge_9]
    refine c_settled (d := d + 1) h0 hb (by omega) ?_
    intro M1 f1 c1 b1 full
    have er : rd M1 0 = rd M 0 := rd_fs f1 (fun t j ht z => by unfold pSd pCl at z; omega)
    have hq := hq rfl
    have ers : ∀ i : Nat, i < 4 → rd M1 i = rd M i := fun i hi => rd_fs f1 (fun t j ht z => by unfold pSd pCl at z; omega)
    have est : ∀ i : Nat, i < 4 → M1.1 4 i 0 = M.1 4 i 0 := fun i hi => f1.g1 4 i 0 (fun z => by unfold pSd pCl at z; omega)
    have e91 : M1.1 9 0 1 = M.1 9 0 1 := f1.g1 9 0 1 (fun z => by unfold pSd pCl at z; omega)
    have hsame := h0.2.2.2.2
    have hle := (h0.2.2.2.1 0 (by omega)).2
    generalize hRR : rd M 0 = R at *
    have hx : 0 ≤ bgn R ∧ bgn R < 125 := bgo_R hW (R 4 1)
    have e2 : M1.1 4 0 2 = R 4 2 := by rw [← er]; rfl
    have erow := full.row (c1.1 0 (by omega)) (w := R 4 2) (x := bgn R) (by omega) (by omega) hx (bgn_plain hW).2.2.2
    rw [KV_eq, bPR_edge_13, c_beginning (by rw [er]; exact hW), KV_eq, bPR_edge_21, er, e2, c_rowAt (by omega) hx, KV_eq, bPR_edge_22, erow]
    refine c_findEdge (d := d + 1) er hW hp (c1.1 2 (by omega)) (c1.2.1 0 (by omega) (by omega)) (c1.2.1 5 (by omega) (by omega)) ?_
    intro M2 f2 z2 zo2
    rw [KV_eq, bPR_edge_23, bPR_edge_30, sI_ne (by omega), sI_eq]
    have e40 : M2.1 4 0 0 = M.1 4 0 0 := (f2.g1 4 0 0 (fun z => (ed_no z).1 ⟨Or.inl rfl, by omega⟩)).trans (est 0 (by omega))
    rw [sI_ne (by omega), e40]
    generalize hM3 : sI (sI M2 9 0 14 (edF R)) 9 0 13 (M.1 4 0 0) = M3
    have f23 : Fs (fun t i j => t = 9 ∧ i = 0 ∧ (j = 13 ∨ j = 14)) M2 M3 := by rw [← hM3]; exact (Fs.rf.sI ⟨rfl, rfl, Or.inr rfl⟩).sI ⟨rfl, rfl, Or.inl rfl⟩
    have f13 : Fs (fun t i j => pEd t i j ∨ (t = 9 ∧ i = 0 ∧ (j = 13 ∨ j = 14))) M1 M3 := (f2.mono (fun t i j z => Or.inl z)).tr (f23.mono (fun t i j z => Or.inr z))
    have no13 : ∀ t i j, (pEd t i j ∨ (t = 9 ∧ i = 0 ∧ (j = 13 ∨ j = 14))) → ¬ ((t = 4 ∨ 33 ≤ t ∧ t ≤ 38) ∧ i < 4) ∧ ¬ (t = 9 ∧ j = 1) ∧ t ≠ 0 ∧ ¬ ((t = 20 ∨ t = 21 ∨ t = 22) ∧ i < 2) := by
      intro t i j z
      rcases z with z | z
      · have := ed_no z; omega
      · omega
    have c3 : CI0 M3 := by
      refine c1.fs f13 ?_ (zo2.fs f23 (fun t j ht _ z => by omega)) (fun t i j z => ⟨(no13 t i j z).1, (no13 t i j z).2.1⟩)
      intro b hb3
      by_cases e : b = 2
      · subst e; exact z2.fs f23 (fun t j a z => by omega)
      · exact (c1.1 b hb3).fs f13 (fun t j a z => (no13 _ _ _ z).2.2.2 ⟨a, by omega⟩)
    have rd3 : ∀ i : Nat, i < 4 → rd M3 i = rd M i := fun i hi => (rd_fs f13 (fun t j ht z => (no13 _ _ _ z).1 ⟨ht, hi⟩)).trans (ers i hi)
    have st3 : ∀ i : Nat, i < 4 → M3.1 4 i 0 = M.1 4 i 0 := fun i hi => (f13.g1 4 i 0 (fun z => (no13 _ _ _ z).1 ⟨Or.inl rfl, hi⟩)).trans (est i hi)
    have e913 : M3.1 9 0 1 = M.1 9 0 1 := (f13.g1 9 0 1 (fun z => (no13 _ _ _ z).2.1 ⟨rfl, rfl⟩)).trans e91
    refine hq M3 ((f1.mono (fun t i j z => Or.inl z)).tr (f13.mono (fun t i j z => Or.inr z))) c3 ⟨?_, ?_⟩ ⟨?_, ?_⟩
    · rw [f13.g1 0 0 2 (fun z => (no13 _ _ _ z).2.2.1 rfl), e913, ← e91]; exact b1.1
    · intro i hi
      rw [rd3 i hi, st3 i hi, f13.g1 0 0 2 (fun z => (no13 _ _ _ z).2.2.1 rfl), ← ers i hi, ← est i hi]
      intro a c
      exact (b1.2 i hi a c).fs f13 (fun t j a z => (no13 _ _ _ z).2.2.2 ⟨a, by omega⟩)
    · rw [← hM3, sI_eq, hM3, e913]; exact hle
    · intro i hi hn1 hs
      rw [rd3 i hi] at hn1 ⊢
      rw [st3 i hi, ← hM3, sI_eq] at hs
      rw [hsame i 0 hi (by omega) hs, hRR, ← hM3, sI_ne (by omega), sI_eq]
end
