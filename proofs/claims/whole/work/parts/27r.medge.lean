/-! LAYER 3, THE EDGE: the reference -/
/-- the text tells when one may leave, for any race that has the same table -/
def LvR (T : TT) (R : RT) : Prop := ∀ w o k : Nat, 1 ≤ w → w ≤ 6 → 1 ≤ o → o ≤ 4 → k < 5 → R 38 (w * 25 + (o * 5 + k)) = lvT T w o (nx9 k)
theorem hl_of2 {B : BT} {n : Nat} {R : RT} {T : TT} {M : Mem} (hn : n ≤ 500) (hW : WR R) (hL : LvR T R) (hT : TG B n T) (h11 : M.1 10 0 11 = (n : Int)) (hB : ∀ j : Nat, j < n → M.1 55 0 j = B j) (h19 : M.1 10 0 19 = wh (T 1)) : HL R M := by
  intro M' Q X d w p b s ht hMR hS hg w1 w6 s0 s3 hbit hq
  have e19 : M'.1 10 0 19 = wh (T 1) := ht.2.2.2.trans h19
  obtain ⟨ho, hnx⟩ := hx_of hg s0 s3 hbit
  have elv : lvs R w (spl (dg p s) (nxm p b s)) = lvT T w (dg p s) (nxm p b s) := by
    generalize dg p s = o at *
    generalize nxm p b s = x at *
    obtain ⟨on, rfl⟩ : ∃ on : Nat, o = (on : Int) := ⟨o.toNat, by omega⟩
    obtain ⟨wn, rfl⟩ : ∃ wn : Nat, w = (wn : Int) := ⟨w.toNat, by omega⟩
    obtain ⟨k, hk, hk5⟩ : ∃ k : Nat, nx9 k = x ∧ k < 5 := by
      by_cases e9 : x = 9
      · exact ⟨0, by unfold nx9; rw [if_pos rfl, e9], by omega⟩
      · exact ⟨x.toNat, by unfold nx9; rw [if_neg (by omega)]; omega, by omega⟩
    have := hL wn on k (by omega) (by omega) (by omega) (by omega) hk5
    rw [hk] at this
    have es : spl (on : Int) x = ((on * 5 + k : Nat) : Int) := by rw [← hk]; unfold spl nx9; split <;> split <;> omega
    unfold lvs
    rw [es, show ((wn : Int) * 25 + ((on * 5 + k : Nat) : Int)).toNat = wn * 25 + (on * 5 + k) by omega]
    exact this
  rw [elv] at hq
  cases hTi : T 1 with
  | none =>
    rw [hTi] at e19
    have e19' : M'.1 10 0 19 = -1 := e19
    rw [e19']
    refine Call_up (d := d + 1) (show d + 1 ≤ d + 60 by omega) ?_
    rw [eMo_holds, bMo_holds_0, if_neg (fun z => z rfl), bMo_holds_3]
    have := hq M' Fs.rf
    unfold lvT at this
    rw [hTi] at this
    exact this
  | some y =>
    obtain ⟨k0, r⟩ := y
    obtain ⟨hk0, k', hp⟩ := hT 1 k0 r hTi
    rw [hTi] at e19
    have e19' : M'.1 10 0 19 = (k0 : Int) := e19
    rw [e19']
    refine Call_up (d := d + 54) (show d + 54 ≤ d + 60 by omega) (m_holds hn hMR hW hS (ht.2.1.trans h11) (fun j hj => (ht.1 j).trans (hB j hj)) hk0 hp ?_)
    intro M2 f2
    have el : lvT T w (dg p s) (nxm p b s) = if r.2 (dg p s) (nxm p b s) w ≠ 0 then 1 else 0 := by unfold lvT; rw [hTi]
    have ev : (if lvT T w (dg p s) (nxm p b s) ≠ 0 then (1 : Int) else 0) = if r.2 (dg p s) (nxm p b s) w ≠ 0 then 1 else 0 := by
      by_cases hv : r.2 (dg p s) (nxm p b s) w = 0
      · rw [if_neg (show ¬ (r.2 (dg p s) (nxm p b s) w ≠ 0) from fun z => z hv)] at el ⊢
        rw [el]; rfl
      · rw [if_pos (show r.2 (dg p s) (nxm p b s) w ≠ 0 from hv)] at el ⊢
        rw [el]; rfl
    rw [← ev]
    exact hq M2 f2
theorem TX.lv {R B n T} (h : TX R B n T) : LvR T R := by obtain ⟨-, -, -, D, -, hr⟩ := h; exact hr.2.2.1
theorem TX.pz {R B n T} (h : TX R B n T) : R 4 3 ≤ 9999 ∧ 1 ≤ R 4 2 := by
  obtain ⟨hn, -, -, D, ht, hr⟩ := h
  have hw := (txt_wd hn ht).1.1
  rw [hr.2.1 4 3 (by omega), hr.2.1 4 2 (by omega)]
  omega
theorem LvR.pz {T R p} (h : LvR T R) : LvR T (sPz R p) := fun w o k a b c e f => by rw [sPz_ne (by omega)]; exact h w o k a b c e f
theorem rwD_n {R : RT} (h : WR R) {w x s : Int} (hf : fitsP R x) (hs : 0 ≤ s ∧ s < 3) (hn : R 4 1 ≤ s) : rwD R w x s = 0 := by
  unfold rwD
  split
  · rfl
  · obtain ⟨c0, c1, c2⟩ := ok_of (rowS_ok (R := R) (V := Wf R (w - 1).toNat) (w := w) (x := x))
    rcases (by omega : s = 0 ∨ s = 1 ∨ s = 2) with rfl | rfl | rfl
    · exact can_nin h hf (by omega) (by omega) hn c0
    · exact can_nin h hf (by omega) (by omega) hn c1
    · exact can_nin h hf (by omega) (by omega) hn c2
theorem rwX_ext {R R' : RT} {w x : Int} (h : ∀ s : Int, 0 ≤ s → s < 3 → rwD R w x s = rwD R' w x s) : rwX R w x = rwX R' w x := by
  have e1 := mm_dr (rwX_R (R := R) (w := w) (x := x))
  have e2 := mm_dr (rwX_R (R := R') (w := w) (x := x))
  rw [rwX_D, rwX_D, rwX_D] at e1 e2
  rw [← e1, ← e2, h 0 (by omega) (by omega), h 1 (by omega) (by omega), h 2 (by omega) (by omega)]
theorem MR.pz {R : RT} {M : Mem} {p q v : Int} (h : MR (sPz R p) M) : MR (sPz R q) (sI (sI M 10 0 14 q) 10 0 44 v) := by
  obtain ⟨h1, h2, h3, h4, h5, h6, h7, h8⟩ := h
  have e : ∀ t j : Nat, ¬ (t = 4 ∧ j = 3) → sPz R q t j = sPz R p t j := fun t j h => by rw [sPz_ne h, sPz_ne h]
  have g : ∀ t i j, ¬ (t = 10 ∧ i = 0 ∧ (j = 14 ∨ j = 44)) → (sI (sI M 10 0 14 q) 10 0 44 v).1 t i j = M.1 t i j := fun t i j h => by rw [sI_ne (by omega), sI_ne (by omega)]
  refine ⟨by rw [g _ _ _ (by omega), e _ _ (by omega)]; exact h1, by rw [g _ _ _ (by omega), e _ _ (by omega)]; exact h2, by rw [sI_ne (by omega), sI_eq, sPz_eq], by rw [g _ _ _ (by omega), e _ _ (by omega)]; exact h4, by rw [g _ _ _ (by omega), e _ _ (by omega)]; exact h5, by rw [g _ _ _ (by omega), e _ _ (by omega)]; exact h6, ?_, ?_⟩
  · intro s s0 s3
    unfold stp pcs
    rw [g _ _ _ (by omega), g _ _ _ (by omega), e _ _ (by omega), e _ _ (by omega)]; exact h7 s s0 s3
  · intro s k s0 s3 k0 k4
    unfold cst chc
    rw [g _ _ _ (by omega), g _ _ _ (by omega), e _ _ (by omega), e _ _ (by omega)]; exact h8 s k s0 s3 k0 k4
theorem sv_no {t i j : Nat} (h : pSv t i j) : scM t i j ∧ t ≠ 55 ∧ t ≠ 81 ∧ ¬ (t = 10 ∧ (j = 0 ∨ 11 ≤ j ∧ j ≤ 20)) ∧ t ≠ 56 ∧ t ≠ 57 ∧ t ≠ 59 ∧ t ≠ 61 := by
  refine ⟨(sv_sc h).1, ?_⟩
  unfold pSv pSc pHo at h
  omega
theorem ta_sc {t i j : Nat} (h : pTa t i j) : scM t i j ∧ ¬ (t = 10 ∧ j = 0) := by unfold pTa at h; unfold scM; omega
section
variable {d : Nat} {Q : AV → Mem → Prop} {X : Nat → Mem → Prop}
/-- what stands while the reference looks for the edge -/
def EI (R : RT) (B : BT) (n : Nat) (T : TT) (M M' : Mem) : Prop := Fs scM M M' ∧ M'.1 10 0 0 = 0 ∧ (∀ s : Int, 0 ≤ s → s < R 4 1 → M'.1 81 0 s.toNat = rwD R (R 4 2) (bgn R) s) ∧ (M'.1 10 0 11 = (n : Int) ∧ (∀ j : Nat, j < n → M'.1 55 0 j = B j) ∧ M'.1 10 0 19 = wh (T 1)) ∧ ∃ p, MR (sPz R p) M'
theorem m_edgeEnd {R B n T} {M M1 : Mem} {x : Int} {z1 z2 z4 z5 z6 : AV} (hx : TX R B n T) (he : EI R B n T M M1) (hq : ∀ M', Fs scM M M' → M'.1 10 0 0 = 0 → CM R B n T M' → Q (vi x) M') : At (d + 63) kMo_edge 98 [vr 10 0, z1, z2, vi x, z4, z5, z6] [] M1 Q X := by
  obtain ⟨f, g0, -, ⟨t1, t2, -⟩, -⟩ := he
  rw [bMo_edge_98]
  refine Call_up (d := d + 56) (show d + 56 ≤ d + 63 by omega) (m_tellsAgain hx t1 t2 ?_)
  intro M2 f2 c2 _
  rw [KU_eq, bMo_edge_100]
  exact hq M2 (f.tr (f2.mono (fun t i j z => (ta_sc z).1))) (by rw [f2.g1 10 0 0 (fun z => (ta_sc z).2 ⟨rfl, rfl⟩)]; exact g0) c2
theorem m_edgeLoop {R B n T} {M : Mem} (hx : TX R B n T) : ∀ (m : Nat) (lo : Int) (M1 : Mem) (z6 : AV), lo + m = 11 → 1 ≤ lo → EI R B n T M M1 → (∀ M', Fs scM M M' → M'.1 10 0 0 = 0 → CM R B n T M' → Q (vi (edV R (fs2 (edK R) lo m))) M') →
    At (d + 63) kMo_edge 53 [vr 10 0, vi (bgn R), vi (evb R), vi (-1), vi (R 4 3), vi lo, z6] [] M1 Q X := by
  intro m
  have hW := hx.wr
  have hb := hW.b
  have hn1 := hx.2.1
  have hpz := hx.pz
  have hpw := pw_n (n := R 4 1) (by omega)
  have hev : 0 ≤ evb R ∧ evb R < 8 := by unfold evb; omega
  have hbR : 0 ≤ bgn R ∧ bgn R < 125 := bgo_R hW (R 4 1)
  induction m with
  | zero =>
    intro lo M1 z6 hl h1 he hq
    rw [bMo_edge_53, if_pos (by omega)]
    exact m_edgeEnd hx he hq
  | succ m ih =>
    intro lo M1 z6 hl h1 he hq
    have he' := he
    obtain ⟨f, g0, a81, ⟨t1, t2, t3⟩, p, mr⟩ := he'
    rw [bMo_edge_53, if_neg (by omega), bMo_edge_56, if_neg (fun z => z rfl), bMo_edge_59 (by omega), w32_id (by omega)]
    generalize hM2 : sI (sI M1 10 0 14 (R 4 3 + lo)) 10 0 44 0 = M2
    have g2 : ∀ t i j, ¬ (t = 10 ∧ (j = 14 ∨ j = 44)) → M2.1 t i j = M1.1 t i j := fun t i j h => by rw [← hM2, sI_ne (by omega), sI_ne (by omega)]
    have f2 : Fs scM M M2 := by rw [← hM2]; exact (f.sI (by unfold scM; omega)).sI (by unfold scM; omega)
    have mr2 : MR (sPz R (R 4 3 + lo)) M2 := by rw [← hM2]; exact mr.pz
    have h44 : M2.1 10 0 44 = 0 := by rw [← hM2, sI_eq]
    have hW' : WR (sPz R (R 4 3 + lo)) := hW.pz (by omega)
    have e41 : sPz R (R 4 3 + lo) 4 1 = R 4 1 := sPz_ne (by omega)
    have e42 : sPz R (R 4 3 + lo) 4 2 = R 4 2 := sPz_ne (by omega)
    have hl2 : HL (sPz R (R 4 3 + lo)) M2 := hl_of2 hx.1 hW' hx.lv.pz hx.2.2.1 (by rw [g2 _ _ _ (by omega)]; exact t1) (fun j hj => by rw [g2 _ _ _ (by omega)]; exact t2 j hj) (by rw [g2 _ _ _ (by omega)]; exact t3)
    refine m_solve (d := d) mr2 hW' (by rw [e41]; exact hn1) hl2 (fun z => absurd h44 z) ?_
    intro M3 f3 sv _
    have g3 : ∀ t i j, (t = 55 ∨ t = 81 ∨ (t = 10 ∧ (j = 0 ∨ 11 ≤ j ∧ j ≤ 20))) → M3.1 t i j = M2.1 t i j := fun t i j h => f3.g1 t i j (fun z => by have := sv_no z; omega)
    have mr3 : MR (sPz R (R 4 3 + lo)) M3 := mr2.fs f3 (fun t i j z => by have := sv_no z; omega)
    have he3 : EI R B n T M M3 := ⟨f2.tr (f3.mono (fun t i j z => (sv_no z).1)), by rw [g3 _ _ _ (by omega), g2 _ _ _ (by omega)]; exact g0, fun s s0 s1 => by rw [g3 _ _ _ (by omega), g2 _ _ _ (by omega)]; exact a81 s s0 s1, ⟨by rw [g3 _ _ _ (by omega), g2 _ _ _ (by omega)]; exact t1, fun j hj => by rw [g3 _ _ _ (by omega), g2 _ _ _ (by omega)]; exact t2 j hj, by rw [g3 _ _ _ (by omega), g2 _ _ _ (by omega)]; exact t3⟩, _, mr3⟩
    clear he a81 t1 t2 t3 f g0 mr hM2 g2 f2 h44 hl2 mr2 f3 g3
    rw [KU_eq, bMo_edge_69]
    have hpl' : plainP (sPz R (R 4 3 + lo)) (bgn R) := by have := bgn_plain hW'; rwa [bgn_pz] at this
    have eev : evb (sPz R (R 4 3 + lo)) = evb R := by unfold evb; rw [e41]
    have er : ∀ s : Int, 0 ≤ s → s < R 4 1 → M3.1 75 (((0 * 7 + (R 4 2).toNat) * 125 + (bgn R).toNat) * 8 + (evb R).toNat) s.toNat = rwD (sPz R (R 4 3 + lo)) (R 4 2) (bgn R) s := by
      intro s s0 s1
      have := row_evb hW' (by rw [e41]; exact hn1) sv (w := R 4 2) (p := bgn R) (s := s) (by rw [e42]; omega) hbR hpl' (by rw [e41]; omega)
      rwa [eev] at this
    have e14 : M3.1 10 0 14 = R 4 3 + lo := by rw [mr3.2.2.1]; exact sPz_eq
    have e20 : M3.1 10 0 20 = R 4 1 := by rw [mr3.1]; exact e41
    have e13 : M3.1 10 0 13 = R 4 2 := by rw [mr3.2.1]; exact e42
    have a81 := he3.2.2.1
    refine loopN (R 4 1) (by omega) (fun s (x : Int) => At (d + 63) kMo_edge 71 [vr 10 0, vi (bgn R), vi (evb R), vi x, vi (R 4 3), vi lo, vi s] [] M3 Q X) (fun s x => if s < R 4 1 ∧ rwD (sPz R (R 4 3 + lo)) (R 4 2) (bgn R) s ≠ rwD R (R 4 2) (bgn R) s then R 4 3 + lo else x) ?_ ?_ (-1) ?_
    · intro s x s0 s1 h
      show At _ _ _ _ _ _ _ _
      rw [bMo_edge_71, e20, if_neg (by omega), bMo_edge_75 (by rw [e13]; omega), e13, er s s0 s1, a81 s s0 s1]
      have h : At (d + 63) kMo_edge 71 [vr 10 0, vi (bgn R), vi (evb R), vi (if s < R 4 1 ∧ rwD (sPz R (R 4 3 + lo)) (R 4 2) (bgn R) s ≠ rwD R (R 4 2) (bgn R) s then R 4 3 + lo else x), vi (R 4 3), vi lo, vi (s + 1)] [] M3 Q X := h
      by_cases hc : rwD (sPz R (R 4 3 + lo)) (R 4 2) (bgn R) s = rwD R (R 4 2) (bgn R) s
      · rw [if_neg (fun z => z.2 hc)] at h
        rw [if_pos hc, bMo_edge_94, w32_id (by omega)]; exact h
      · rw [if_pos ⟨s1, hc⟩] at h
        rw [if_neg hc, bMo_edge_91, bMo_edge_94, e14, w32_id (by omega)]; exact h
    · intro s x s0 _
      exact if_neg (fun z => by omega)
    · show At _ _ _ _ _ _ _ _
      rw [bMo_edge_71, e20, if_pos (by omega), bMo_edge_96, w32_id (by omega)]
      have hf2 : fs2 (edK R) lo (m + 1) = if edK R lo = true then lo else fs2 (edK R) (lo + 1) m := rfl
      rw [hf2] at hq
      by_cases hc : rwX (sPz R (R 4 3 + lo)) (R 4 2) (bgn R) = rwX R (R 4 2) (bgn R)
      · have hk : edK R lo = false := decide_eq_false (fun z => z hc)
        rw [hk, if_neg (by simp)] at hq
        have hd : ∀ s : Int, rwD (sPz R (R 4 3 + lo)) (R 4 2) (bgn R) s = rwD R (R 4 2) (bgn R) s := fun s => by rw [← rwX_D, ← rwX_D, hc]
        simp only [hd, ne_eq, not_true_eq_false, and_false, if_false]
        exact ih (lo + 1) M3 _ (by omega) (by omega) he3 hq
      · have hk : edK R lo = true := decide_eq_true hc
        rw [hk, if_pos rfl] at hq
        unfold edV at hq
        rw [if_neg (by omega)] at hq
        have hex : ¬ ∀ s : Int, 0 ≤ s → s < R 4 1 → rwD (sPz R (R 4 3 + lo)) (R 4 2) (bgn R) s = rwD R (R 4 2) (bgn R) s := by
          intro hall
          apply hc
          refine rwX_ext ?_
          intro s s0 s3
          by_cases hs : s < R 4 1
          · exact hall s s0 hs
          · rw [rwD_n hW' hpl'.2.2.2 ⟨s0, s3⟩ (by rw [e41]; omega), rwD_n hW (bgn_plain hW).2.2.2 ⟨s0, s3⟩ (by omega)]
        have ev : (if (2 : Int) < R 4 1 ∧ rwD (sPz R (R 4 3 + lo)) (R 4 2) (bgn R) 2 ≠ rwD R (R 4 2) (bgn R) 2 then R 4 3 + lo else if (1 : Int) < R 4 1 ∧ rwD (sPz R (R 4 3 + lo)) (R 4 2) (bgn R) 1 ≠ rwD R (R 4 2) (bgn R) 1 then R 4 3 + lo else if (0 : Int) < R 4 1 ∧ rwD (sPz R (R 4 3 + lo)) (R 4 2) (bgn R) 0 ≠ rwD R (R 4 2) (bgn R) 0 then R 4 3 + lo else -1) = R 4 3 + lo := by
          by_cases c2 : (2 : Int) < R 4 1 ∧ rwD (sPz R (R 4 3 + lo)) (R 4 2) (bgn R) 2 ≠ rwD R (R 4 2) (bgn R) 2
          · rw [if_pos c2]
          · rw [if_neg c2]
            by_cases c1 : (1 : Int) < R 4 1 ∧ rwD (sPz R (R 4 3 + lo)) (R 4 2) (bgn R) 1 ≠ rwD R (R 4 2) (bgn R) 1
            · rw [if_pos c1]
            · rw [if_neg c1]
              by_cases c0 : (0 : Int) < R 4 1 ∧ rwD (sPz R (R 4 3 + lo)) (R 4 2) (bgn R) 0 ≠ rwD R (R 4 2) (bgn R) 0
              · rw [if_pos c0]
              · exfalso
                apply hex
                intro s s0 s1
                rcases (by omega : s = 0 ∨ s = 1 ∨ s = 2) with rfl | rfl | rfl
                · exact Classical.byContradiction (fun z => c0 ⟨s1, z⟩)
                · exact Classical.byContradiction (fun z => c1 ⟨s1, z⟩)
                · exact Classical.byContradiction (fun z => c2 ⟨s1, z⟩)
        rw [ev, bMo_edge_53]
        by_cases hl10 : 10 < lo + 1
        · rw [if_pos hl10]; exact m_edgeEnd hx he3 hq
        · rw [if_neg hl10, bMo_edge_56, if_pos (by omega)]; exact m_edgeEnd hx he3 hq
theorem m_edge {M : Mem} {R : RT} (hc : Cur R M) (hq : ∀ M' v, MS R M M' → M'.1 10 0 0 = tR R → (tR R = 0 → v = edF R) → Q (vi v) M') : Call (d + 64) qMo_edge [vr 10 0] M Q X := by
  have h20 := hc.n
  rw [eMo_edge, bMo_edge_0, th_ne (by omega), h20]
  by_cases h0 : R 4 1 = 0
  · rw [if_neg (fun z => z h0), bMo_edge_7, bMo_edge_10, m_bad1 (by omega), KV_eq, bMo_edge_12, if_neg (by omega), bMo_edge_13]
    refine hq _ _ (MS.th hc 1) ?_ ?_
    · unfold tR; rw [if_pos h0]; exact th0_eq
    · unfold tR; rw [if_pos h0]; intro z; omega
  rw [if_pos h0, bMo_edge_9, bMo_edge_10, m_bad0, KV_eq, bMo_edge_12, if_pos rfl, bMo_edge_15]
  rcases id hc with hc0 | ⟨B, n, T, hx, hcm⟩
  · exact absurd hc0.1 h0
  have hW := hx.wr
  have hb := hW.b
  have hn1 := hx.2.1
  have hpw := pw_n (n := R 4 1) (by omega)
  have hev : 0 ≤ evb R ∧ evb R < 8 := by unfold evb; omega
  have hbR : 0 ≤ bgn R ∧ bgn R < 125 := bgo_R hW (R 4 1)
  obtain ⟨fs0, -⟩ := MS.t0 hc
  have hcm0 : CM R B n T (sI M 10 0 0 0) := hcm.fs (by omega) ⟨hn1, by omega⟩ (P := fun t i j => t = 10 ∧ i = 0 ∧ j = 0) (Fs.rf.sI (by omega)) (fun t i j z => by omega)
  refine m_solveC (d := d) hx hcm0 ?_
  intro M' f c' sv
  have hM := c'.1
  have hq' : ∀ M2, Fs scM M M2 → M2.1 10 0 0 = 0 → CM R B n T M2 → Q (vi (edF R)) M2 := fun M2 f2 g2 c2 => hq M2 (edF R) ⟨f2, Or.inr ⟨B, n, T, hx, c2⟩⟩ (by unfold tR; rw [if_neg h0]; exact g2) (fun _ => rfl)
  have g0 : M'.1 10 0 0 = 0 := by rw [f.g1 10 0 0 (fun z => (sv_sc z).2 ⟨rfl, rfl⟩)]; exact sI_eq
  have f' : Fs scM M M' := fs0.tr (f.mono (fun t i j z => (sv_sc z).1))
  clear hq hcm hcm0 f fs0
  rw [KU_eq, bMo_edge_17, m_beginPlace hM hW, KV_eq, bMo_edge_19, m_everybody hM hW, KV_eq, bMo_edge_22, hM.2.2.1]
  refine loop_up (fun s M2 => ∀ z6, At (d + 63) kMo_edge 30 [vr 10 0, vi (bgn R), vi (evb R), vi (-1), vi (R 4 3), vi s, z6] [] M2 Q X) (fun s M2 => Fs (fun t _ _ => t = 81) M' M2 ∧ ∀ k : Int, 0 ≤ k → k < s → M2.1 81 0 k.toNat = rwD R (R 4 2) (bgn R) k) 0 (R 4 1) ?_ ?_ 0 M' (by omega) (by omega) ⟨Fs.rf, fun k a b => by omega⟩ JK
  · intro M2 h2 z6
    have g2 : ∀ t i j, t ≠ 81 → M2.1 t i j = M'.1 t i j := fun t i j h => h2.1.g1 t i j h
    rw [bMo_edge_30, g2 _ _ _ (by omega), hM.1, if_pos (by omega), bMo_edge_51]
    refine m_edgeLoop hx 10 1 M2 _ (by omega) (by omega) ⟨f'.tr (h2.1.mono (fun t i j z => by unfold scM; omega)), by rw [g2 _ _ _ (by omega)]; exact g0, h2.2, ⟨by rw [g2 _ _ _ (by omega)]; exact c'.2.1, fun j hj => by rw [g2 _ _ _ (by omega)]; exact c'.2.2.1 j hj, by rw [g2 _ _ _ (by omega)]; exact c'.2.2.2.2.1⟩, R 4 3, ?_⟩ hq'
    rw [sPz_id]; exact hM.fs h2.1 (fun t i j z => by omega)
  · intro s M2 s0 s1 h2 hn z6
    have g2 : ∀ t i j, t ≠ 81 → M2.1 t i j = M'.1 t i j := fun t i j h => h2.1.g1 t i j h
    have er := row_evb hW hn1 sv (w := R 4 2) (p := bgn R) (s := s) (by omega) hbR (bgn_plain hW) ⟨s0, s1⟩
    rw [bMo_edge_30, g2 _ _ _ (by omega), hM.1, if_neg (by omega), bMo_edge_34 (by rw [g2 _ _ _ (by omega), hM.2.1]; omega), g2 10 _ _ (by omega), hM.2.1, g2 75 _ _ (by omega), er, w32_id (by omega)]
    refine hn _ ⟨h2.1.sI rfl, ?_⟩ _
    intro k k0 k1
    by_cases e : k = s
    · subst e; exact sI_eq
    · rw [sI_ne (by omega)]; exact h2.2 k k0 (by omega)
end
