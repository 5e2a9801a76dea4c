/-! LAYER 3, THE KING -/
def tKg (R : RT) (k : Int) : Int := if R 4 1 = 0 then 1 else if 0 ≤ k ∧ k ≤ 999 then 0 else 2
/-- what a prize costs the king -/
def kgP (R : RT) (k p : Int) : Int64 := Int64.ofInt (phW (sPz R p) 1) + Int64.ofInt (phW (sPz R p) 0) * Int64.ofInt k
def kgS (R : RT) (k : Int) (P : Nat → Int) : Nat → Int × Int64
  | 0 => (-1, 0)
  | m + 1 => if (kgS R k P m).1 = -1 ∨ kgP R k (P m) < (kgS R k P m).2 ∨ (kgP R k (P m) = (kgS R k P m).2 ∧ P m < (kgS R k P m).1) then (P m, kgP R k (P m)) else kgS R k P m
/-- the ledger: whose stamp and prize it has, by that it is reckoned -/
def Cl (M : Mem) : Prop := ∀ k : Nat, k < 9 → M.1 31 0 k ≤ M.1 9 0 1 ∧ ∀ i : Nat, i < 4 → 1 ≤ rd M i 4 1 → M.1 4 i 0 = M.1 31 0 k → M.2 29 0 k = Int64.ofInt (phW (sPz (rd M i) (M.1 32 0 k)) 1) ∧ M.2 30 0 k = Int64.ofInt (phW (sPz (rd M i) (M.1 32 0 k)) 0)
abbrev pWo (t i j : Nat) : Prop := pEd t i j ∨ pWh 2 t i j ∨ ((29 ≤ t ∧ t ≤ 32) ∧ i = 0)
theorem wo_no {t i j : Nat} (h : pWo t i j) : ¬ ((t = 4 ∨ 33 ≤ t ∧ t ≤ 38) ∧ i ≠ 5) ∧ ¬ ((20 ≤ t ∧ t ≤ 22) ∧ i ≠ 2) ∧ t ≠ 9 ∧ t ≠ 0 ∧ t ≠ 27 ∧ t ≠ 28 ∧ t ≠ 2 := by
  unfold pWo at h
  rcases h with h | h | h
  · have a := ed_no h
    have b : t ≠ 28 ∧ t ≠ 2 := by unfold pEd pCl at h; unfold inRa at h; omega
    omega
  · unfold pWh pOp at h; omega
  · omega
section
variable {d : Nat} {Q : AV → Mem → Prop} {X : Nat → Mem → Prop}
/-- one prize is weighed -/
theorem c_weighOffer {M : Mem} {R : RT} {k p : Int} (hR : rd M 0 = R) (h : WR R) (hn1 : 1 ≤ R 4 1) (hp : 0 ≤ p ∧ p ≤ 9999) (hk : 0 ≤ k ∧ k < 9) (hz : Bz 2 M) (z0 : Zo M 0) (z5 : Zo M 5) (hL : M.1 31 0 k.toNat = M.1 4 0 0 → M.2 29 0 k.toNat = Int64.ofInt (phW (sPz R (M.1 32 0 k.toNat)) 1) ∧ M.2 30 0 k.toNat = Int64.ofInt (phW (sPz R (M.1 32 0 k.toNat)) 0))
    (hq : ∀ M', Fs pWo M M' → Bz 2 M' → Zo M' 5 → M'.1 31 0 k.toNat = M.1 4 0 0 → M'.1 32 0 k.toNat = p → M'.2 29 0 k.toNat = Int64.ofInt (phW (sPz R p) 1) → M'.2 30 0 k.toNat = Int64.ofInt (phW (sPz R p) 0) → (∀ j : Nat, j ≠ k.toNat → M'.1 31 0 j = M.1 31 0 j ∧ M'.1 32 0 j = M.1 32 0 j ∧ M'.2 29 0 j = M.2 29 0 j ∧ M'.2 30 0 j = M.2 30 0 j) → Q (vi 0) M') : Call (d + 7) qPR_weighOffer [vr 9 0, vi k, vi p] M Q X := by
  have hb := h.b
  have e41 : sPz R p 4 1 = R 4 1 := sPz_ne (by omega)
  have e42 : sPz R p 4 2 = R 4 2 := sPz_ne (by omega)
  have hW' : WR (sPz R p) := h.pz (by omega)
  rw [ePR_weighOffer, bPR_weighOffer_0, eLe_holds, bLe_holds_0 hk]
  have miss : At (d + 6) kPR_weighOffer 13 [vr 9 0, vi k, vi p, vi (M.1 4 0 0)] [] M Q X := by
    rw [bPR_weighOffer_13]
    refine c_copyFrom (by omega) z5 ?_
    intro M1 f1 r1 zo1
    rw [KU_eq, bPR_weighOffer_19]
    have rp : rd (sI M1 4 5 3 p) 5 = sPz R p := by rw [rd_pz, r1, nm_rd z0, hR]
    have f2 : Fs pEd M (sI M1 4 5 3 p) := (f1.mono (fun t i j z => Or.inr z)).sI (Or.inr ⟨rfl, Or.inl ⟨rfl, by omega⟩⟩)
    have zo2 : Zo (sI M1 4 5 3 p) 5 := zo1.fs (P := fun t i j => t = 4 ∧ i = 5 ∧ j = 3) (Fs.rf.sI ⟨rfl, rfl, rfl⟩) (fun t j ht hn z => hn (Or.inl ⟨z.1, by omega⟩))
    refine c_settle (b := 2) (R := sPz R p) rp hW' (hz.fs (P := fun t i j => (i = 5 ∧ inRa t j)) ((f1.mono (fun t i j z => z)).sI ⟨rfl, Or.inl ⟨rfl, by omega⟩⟩) (fun t j ht z => by unfold inRa at z; omega)) ?_
    intro M3 f3 z3 c3
    rw [KU_eq, bPR_weighOffer_27]
    have f3' : Fs pEd M M3 := f2.tr (f3.fs (fun t i j z => Or.inl z))
    have rp3 : rd M3 5 = sPz R p := by rw [rd_fr f3 (fun t ht z => by omega), rp]
    refine c_walk (d := d) (b := 2) (al := 0) (R := sPz R p) rp3 hW' (by rw [e41]; exact hn1) (fun w x w1 w2 x1 x2 hs => ?_) ?_
    · have := (c3 w x w1 w2 x1 x2 hs).1
      rw [this]; unfold rwX; rw [if_neg (by omega)]
    · intro M4 f4 hA
      rw [KU_eq, bPR_weighOffer_32, eLe_keep, bLe_keep_0 ⟨hk, hk, hk, hk⟩, KU_eq, bPR_weighOffer_40]
      have f4' : Fs pWo M M4 := (f3'.mono (fun t i j z => Or.inl z)).tr (f4.mono (fun t i j z => Or.inr (Or.inl z)))
      have fL : Fs (fun t i j => (29 ≤ t ∧ t ≤ 32) ∧ i = 0 ∧ j = k.toNat) M4 (sI (sI (sL (sL M4 29 0 k.toNat (M4.2 1 0 3)) 30 0 k.toNat ((sL M4 29 0 k.toNat (M4.2 1 0 3)).2 1 0 2)) 31 0 k.toNat (M.1 4 0 0)) 32 0 k.toNat p) := (((Fs.rf.sL (by omega)).sL (by omega)).sI (by omega)).sI (by omega)
      have hled : ∀ j : Nat, M4.1 31 0 j = M.1 31 0 j ∧ M4.1 32 0 j = M.1 32 0 j ∧ M4.2 29 0 j = M.2 29 0 j ∧ M4.2 30 0 j = M.2 30 0 j := by
        intro j
        have q : ∀ t, 29 ≤ t → t ≤ 32 → M4.1 t 0 j = M.1 t 0 j ∧ M4.2 t 0 j = M.2 t 0 j := fun t t0 t1 => by
          have n1 : ¬ pWh 2 t 0 j := fun z => by unfold pWh pOp at z; omega
          have n2 : ¬ pEd t 0 j := fun z => by unfold pEd pCl inRa at z; omega
          exact ⟨(f4.g1 t 0 j n1).trans (f3'.g1 t 0 j n2), (f4.g2 t 0 j n1).trans (f3'.g2 t 0 j n2)⟩
        exact ⟨(q 31 (by omega) (by omega)).1, (q 32 (by omega) (by omega)).1, (q 29 (by omega) (by omega)).2, (q 30 (by omega) (by omega)).2⟩
      refine hq _ (f4'.tr (fL.mono (fun t i j z => Or.inr (Or.inr ⟨z.1, z.2.1⟩)))) ?_ ?_ ?_ sI_eq ?_ ?_ ?_
      · exact (z3.fs f4 (fun t j ht z => (wh_no z).2.1 (by omega))).fs fL (fun t j ht z => by omega)
      · refine Zo.fs ?_ fL (fun t j ht hn z => by omega)
        refine Zo.fs ?_ f4 (fun t j ht hn z => (wh_no z).1 ht)
        exact zo2.fr f3 (fun t ht z => by omega)
      · rw [sI_ne (by omega), sI_eq]
      · rw [sI2, sI2, sL2, if_neg (by omega), sL_eq]; exact hA.2.1
      · rw [sI2, sI2, sL_eq, sL2, if_neg (by omega)]; exact hA.1
      · intro j hj
        have := hled j
        rw [fL.g1 31 0 j (by omega), fL.g1 32 0 j (by omega), fL.g2 29 0 j (by omega), fL.g2 30 0 j (by omega)]
        exact this
  by_cases hs : M.1 31 0 k.toNat = M.1 4 0 0
  · rw [if_neg (fun z => z hs), bLe_holds_6 hk]
    by_cases hpz : M.1 32 0 k.toNat = p
    · rw [if_neg (fun z => z hpz), bLe_holds_12, bLe_holds_15, KV_eq, bPR_weighOffer_11, if_neg (by omega), bPR_weighOffer_12]
      have hl := hL hs
      rw [hpz] at hl
      exact hq M Fs.rf hz z5 hs hpz hl.1 hl.2 (fun j _ => ⟨rfl, rfl, rfl, rfl⟩)
    · rw [if_pos hpz, bLe_holds_14, bLe_holds_15, KV_eq, bPR_weighOffer_11, if_pos (by omega)]; exact miss
  · rw [if_pos hs, bLe_holds_14, bLe_holds_15, KV_eq, bPR_weighOffer_11, if_pos (by omega)]; exact miss
/-- what stands while the king weighs -/
def KgI (M M' : Mem) : Prop := Fs pWo M M' ∧ Bz 2 M' ∧ Zo M' 5 ∧ Cl M'
theorem c_king {M : Mem} {k : Int} {P : Nat → Int} {n : Nat} (h0 : CI0 M) (hb : Cb M) (hl : Cl M) (hn : M.1 2 0 3 = (n : Int)) (hn9 : n ≤ 9) (hP : ∀ j : Nat, j < n → M.1 28 0 j = P j ∧ 0 ≤ P j ∧ P j ≤ 9999) (hx1 : tKg (rd M 0) k = 1 → X 0 M) (hx2 : tKg (rd M 0) k = 2 → X 2 M)
    (hq : ∀ M', tKg (rd M 0) k = 0 → Fs pWo M M' → CI0 M' → Cb M' → Cl M' → Q (vi (kgS (rd M 0) k P n).1) M') : Call (d + 8) qPR_king [vr 9 0, vi k] M Q X := by
  have hW := h0.2.2.1 0 (by omega)
  have hbb := hW.b
  unfold tKg at hx1 hx2 hq
  rw [ePR_king, bPR_king_0, c_needRace]
  by_cases hn0 : rd M 0 4 1 = 0
  · rw [if_pos hn0] at hx1; rw [if_pos hn0]; exact hx1 rfl
  rw [if_neg hn0] at hq hx2
  rw [if_neg hn0, KU_eq, bPR_king_2]
  by_cases hk : 0 ≤ k ∧ k ≤ 999
  rotate_left
  · rw [if_neg hk] at hx2
    by_cases h1 : k < 0
    · rw [if_pos h1, bPR_king_7]; exact hx2 rfl
    · rw [if_neg h1, bPR_king_4, if_neg (by omega), bPR_king_7]; exact hx2 rfl
  rw [if_pos hk] at hq
  rw [if_neg (by omega), bPR_king_4, if_pos (by omega), bPR_king_12]
  have hq := fun M' => hq M' rfl
  have key : ∀ (m i : Nat) (M' : Mem) (z6 z7 z8 : AV), i + m = n → KgI M M' → At (d + 7) kPR_king 18 [vr 9 0, vi k, vi (kgS (rd M 0) k P i).1, vl (kgS (rd M 0) k P i).2, JK, vi (i : Int), z6, z7, z8] [] M' Q X := by
    intro m
    induction m with
    | zero =>
      intro i M' z6 z7 z8 hi hK
      obtain ⟨f, bz, zo, cl⟩ := hK
      obtain rfl : i = n := by omega
      have e23 : M'.1 2 0 3 = (i : Int) := by rw [f.g1 2 0 3 (fun z => (wo_no z).2.2.2.2.2.2 rfl)]; exact hn
      rw [bPR_king_18, e23, if_pos (by omega), bPR_king_71]
      have hr : ∀ j : Nat, j < 4 → rd M' j = rd M j := fun j hj => rd_fs f (fun t j' ht z => (wo_no z).1 ⟨ht, by omega⟩)
      refine hq M' f ?_ ?_ cl
      · refine h0.fs f (fun b hb3 => ?_) zo (fun t i j z => ⟨fun y => (wo_no z).1 ⟨y.1, by omega⟩, fun y => (wo_no z).2.2.1 y.1⟩)
        by_cases hb2 : b = 2
        · subst hb2; exact bz
        · exact (h0.1 b hb3).fs f (fun t j ht z => (wo_no z).2.1 ⟨by omega, hb2⟩)
      · have e91 : M'.1 9 0 1 = M.1 9 0 1 := f.g1 9 0 1 (fun z => (wo_no z).2.2.1 rfl)
        have e02 : M'.1 0 0 2 = M.1 0 0 2 := f.g1 0 0 2 (fun z => (wo_no z).2.2.2.1 rfl)
        refine ⟨by rw [e91, e02]; exact hb.1, ?_⟩
        intro j hj hnj hs
        rw [hr j hj] at hnj ⊢
        rw [e02, f.g1 4 j 0 (fun z => (wo_no z).1 ⟨Or.inl rfl, by omega⟩)] at hs
        exact (hb.2 j hj hnj hs).fs f (fun t j' ht z => (wo_no z).2.1 ⟨by omega, by omega⟩)
    | succ m ih =>
      intro i M' z6 z7 z8 hi hK
      obtain ⟨f, bz, zo, cl⟩ := hK
      have e23 : M'.1 2 0 3 = (n : Int) := by rw [f.g1 2 0 3 (fun z => (wo_no z).2.2.2.2.2.2 rfl)]; exact hn
      have hPi := hP i (by omega)
      have e28 : M'.1 28 0 ((i : Int)).toNat = P i := by
        rw [show ((i : Int)).toNat = i by omega, f.g1 28 0 i (fun z => (wo_no z).2.2.2.2.2.1 rfl)]; exact hPi.1
      have hr : ∀ j : Nat, j < 4 → rd M' j = rd M j := fun j hj => rd_fs f (fun t j' ht z => (wo_no z).1 ⟨ht, by omega⟩)
      have hst : ∀ j : Nat, j < 4 → M'.1 4 j 0 = M.1 4 j 0 := fun j hj => f.g1 4 j 0 (fun z => (wo_no z).1 ⟨Or.inl rfl, by omega⟩)
      have e91 : M'.1 9 0 1 = M.1 9 0 1 := f.g1 9 0 1 (fun z => (wo_no z).2.2.1 rfl)
      have zo0 : Zo M' 0 := (h0.2.1 0 (by omega) (by omega)).fs f (fun t j ht hn z => (wo_no z).1 ⟨ht, by omega⟩)
      rw [bPR_king_18, e23, if_neg (by omega), bPR_king_23, if_neg (by omega), bPR_king_26 (by omega), e28]
      refine c_weighOffer (d := d) (R := rd M 0) (hr 0 (by omega)) hW (by omega) hPi.2 (by omega) bz zo0 zo (fun hs => ?_) ?_
      · have := (cl ((i : Int)).toNat (by omega)).2 0 (by omega) (by rw [hr 0 (by omega)]; omega) hs.symm
        rwa [hr 0 (by omega)] at this
      · intro M2 f2 bz2 zo2 l1 l2 l3 l4 l5
        have f2' : Fs pWo M M2 := f.tr f2
        have hr2 : ∀ j : Nat, j < 4 → rd M2 j = rd M j := fun j hj => rd_fs f2' (fun t j' ht z => (wo_no z).1 ⟨ht, by omega⟩)
        have hst2 : ∀ j : Nat, j < 4 → M2.1 4 j 0 = M.1 4 j 0 := fun j hj => f2'.g1 4 j 0 (fun z => (wo_no z).1 ⟨Or.inl rfl, by omega⟩)
        have e91' : M2.1 9 0 1 = M.1 9 0 1 := f2'.g1 9 0 1 (fun z => (wo_no z).2.2.1 rfl)
        have hti : ((i : Int)).toNat = i := by omega
        have cl2 : Cl M2 := by
          have l1' := l1
          have l2' := l2
          have l3' := l3
          have l4' := l4
          have l5' := l5
          rw [hti] at l1' l2' l3' l4' l5'
          clear l1 l2 l3 l4 l5
          intro j hj
          by_cases hji : j = i
          · rw [hji, l1', l2', l3', l4']
            refine ⟨by rw [hst 0 (by omega), e91']; exact (h0.2.2.2.1 0 (by omega)).2, fun a ha hna hsa => ?_⟩
            rw [hst 0 (by omega), hst2 a ha] at hsa
            have hsame := h0.2.2.2.2 a 0 ha (by omega) hsa
            rw [hr2 a ha, hsame]
            exact ⟨rfl, rfl⟩
          · obtain ⟨m1, m2, m3, m4⟩ := l5' j hji
            have hc := cl j hj
            rw [m1, m2, m3, m4]
            refine ⟨by rw [e91', ← e91]; exact hc.1, fun a ha hna hsa => ?_⟩
            rw [hst2 a ha, ← hst a ha] at hsa
            rw [hr2 a ha, ← hr a ha] at hna ⊢
            exact hc.2 a ha hna hsa
        rw [KU_eq, bPR_king_36 ⟨by omega, by omega⟩, l3, l4]
        have hpr : Int64.ofInt (phW (sPz (rd M 0) (P i)) 1) + Int64.ofInt (phW (sPz (rd M 0) (P i)) 0) * Int64.ofInt k = kgP (rd M 0) k (P i) := rfl
        rw [hpr]
        have ih' := fun z6 z7 z8 => ih (i + 1) M2 z6 z7 z8 (by omega) ⟨f2', bz2, zo2, cl2⟩
        have hstep : kgS (rd M 0) k P (i + 1) = if (kgS (rd M 0) k P i).1 = -1 ∨ kgP (rd M 0) k (P i) < (kgS (rd M 0) k P i).2 ∨ (kgP (rd M 0) k (P i) = (kgS (rd M 0) k P i).2 ∧ P i < (kgS (rd M 0) k P i).1) then (P i, kgP (rd M 0) k (P i)) else kgS (rd M 0) k P i := rfl
        rw [hstep, show ((i + 1 : Nat) : Int) = (i : Int) + 1 by omega] at ih'
        generalize kgS (rd M 0) k P i = S at *
        generalize kgP (rd M 0) k (P i) = v at *
        have take : (S.1 = -1 ∨ v < S.2 ∨ (v = S.2 ∧ P i < S.1)) → ∀ (_ _ : AV), At (d + 7) kPR_king 65 [vr 9 0, vi k, vi S.1, vl S.2, JK, vi (i : Int), vi (P i), vl v, JK] [] M2 Q X := by
          intro hc y7 y8
          rw [if_pos hc] at ih'
          rw [bPR_king_65, bPR_king_69, w32_id (by omega)]; exact ih' _ _ _
        have leave : ¬ (S.1 = -1 ∨ v < S.2 ∨ (v = S.2 ∧ P i < S.1)) → At (d + 7) kPR_king 69 [vr 9 0, vi k, vi S.1, vl S.2, JK, vi (i : Int), vi (P i), vl v, JK] [] M2 Q X := by
          intro hc
          rw [if_neg hc] at ih'
          rw [bPR_king_69, w32_id (by omega)]; exact ih' _ _ _
        by_cases c1 : S.1 = -1
        · rw [if_pos c1]; exact take (Or.inl c1) JK JK
        rw [if_neg c1, bPR_king_54]
        by_cases c2 : v < S.2
        · rw [if_pos (cmp64_lt.mpr c2)]; exact take (Or.inr (Or.inl c2)) JK JK
        rw [if_neg (fun z => c2 (cmp64_lt.mp z)), bPR_king_58]
        by_cases c3 : v = S.2
        · rw [if_neg (fun z => z (cmp64_eq.mpr c3)), bPR_king_62]
          by_cases c4 : P i < S.1
          · rw [if_neg (by omega)]; exact take (Or.inr (Or.inr ⟨c3, c4⟩)) JK JK
          · rw [if_pos (by omega)]
            exact leave (fun z => z.elim c1 (fun z => z.elim c2 (fun z => c4 z.2)))
        · rw [if_pos (fun z => c3 (cmp64_eq.mp z))]
          exact leave (fun z => z.elim c1 (fun z => z.elim c2 (fun z => c3 z.1)))
  exact key n 0 M _ _ _ (by omega) ⟨Fs.rf, h0.1 2 (by omega), h0.2.1 5 (by omega) (by omega), hl⟩
theorem m_kgEnd {R B n T} {M M1 : Mem} {x : Int} {z1 z3 z4 z5 z6 z7 : AV} (hx : TX R B n T) (f : Fs scM M M1) (g0 : M1.1 10 0 0 = 0) (t1 : M1.1 10 0 11 = (n : Int)) (t2 : ∀ j : Nat, j < n → M1.1 55 0 j = B j) (hq : ∀ M', Fs scM M M' → M'.1 10 0 0 = 0 → CM R B n T M' → Q (vi x) M') : At (d + 64) kMo_king 84 [vr 10 0, z1, vi x, z3, z4, z5, z6, z7] [] M1 Q X := by
  rw [bMo_king_84]
  refine Call_up (d := d + 56) (show d + 56 ≤ d + 64 by omega) (m_tellsAgain hx t1 t2 ?_)
  intro M2 f2 c2 _
  rw [KU_eq, bMo_king_86]
  exact hq M2 (f.tr (f2.mono (fun t i j z => (ta_sc z).1))) (by rw [f2.g1 10 0 0 (fun z => (ta_sc z).2 ⟨rfl, rfl⟩)]; exact g0) c2
theorem m_king {M : Mem} {R : RT} {k : Int} {P : Nat → Int} {m9 : Nat} (hc : Cur R M) (hn : M.1 10 0 54 = (m9 : Int)) (hn9 : m9 ≤ 9) (hP : ∀ j : Nat, j < m9 → M.1 92 0 j = P j ∧ 0 ≤ P j ∧ P j ≤ 9999)
    (hq : ∀ M' v, MS R M M' → M'.1 10 0 0 = tKg R k → (tKg R k = 0 → v = (kgS R k P m9).1) → Q (vi v) M') : Call (d + 65) qMo_king [vr 10 0, vi k] M Q X := by
  have h20 := hc.n
  rw [eMo_king, bMo_king_0, th_ne (by omega), h20]
  by_cases h0 : R 4 1 = 0
  · rw [if_neg (fun z => z h0), bMo_king_7, bMo_king_10, m_bad1 (by omega), KV_eq, bMo_king_12, if_pos (by omega), bMo_king_25]
    refine hq _ _ (MS.th hc 1) ?_ ?_
    · unfold tKg; rw [if_pos h0]; exact th0_eq
    · unfold tKg; rw [if_pos h0]; intro z; omega
  rcases id hc with hc0 | ⟨B, n, T, hx, hcm⟩
  · exact absurd hc0.1 h0
  have hW := hx.wr
  have hb := hW.b
  have hn1 := hx.2.1
  rw [if_pos h0, bMo_king_9, bMo_king_10, m_bad0, KV_eq, bMo_king_12, if_neg (by omega), bMo_king_13, m_in, KV_eq, bMo_king_18]
  by_cases hk : 0 ≤ k ∧ k ≤ 999
  rotate_left
  · rw [if_neg (by rw [if_neg hk]; omega), bMo_king_19, bMo_king_22, m_bad1 (by omega), KV_eq, bMo_king_24, if_neg (by omega), bMo_king_25]
    refine hq _ _ (MS.th hc 2) ?_ ?_
    · unfold tKg; rw [if_neg h0, if_neg hk]; exact th0_eq
    · unfold tKg; rw [if_neg h0, if_neg hk]; intro z; omega
  rw [if_pos (by rw [if_pos hk]; omega), bMo_king_21, bMo_king_22, m_bad0, KV_eq, bMo_king_24, if_pos rfl, bMo_king_27]
  obtain ⟨fs0, -⟩ := MS.t0 hc
  have fin : ∀ M' v, Fs scM M M' → M'.1 10 0 0 = 0 → CM R B n T M' → v = (kgS R k P m9).1 → Q (vi v) M' := fun M' v f g0 c hv => by
    refine hq M' v ⟨f, Or.inr ⟨B, n, T, hx, c⟩⟩ ?_ (fun _ => hv)
    unfold tKg; rw [if_neg h0, if_pos hk]; exact g0
  have key : ∀ (m i : Nat) (M' : Mem) (z6 z7 : AV), i + m = m9 → Fs scM M M' → M'.1 10 0 0 = 0 → M'.1 10 0 11 = (n : Int) → (∀ j : Nat, j < n → M'.1 55 0 j = B j) → M'.1 10 0 19 = wh (T 1) → (∃ p, MR (sPz R p) M') → At (d + 64) kMo_king 33 [vr 10 0, vi k, vi (kgS R k P i).1, vl (kgS R k P i).2, JK, vi (i : Int), z6, z7] [] M' Q X := by
    intro m
    induction m with
    | zero =>
      intro i M' z6 z7 hi f g0 t1 t2 t3 mr
      obtain rfl : i = m9 := by omega
      have e54 : M'.1 10 0 54 = (i : Int) := by rw [f.g1 10 0 54 (fun z => by unfold scM at z; omega)]; exact hn
      rw [bMo_king_33, e54, if_pos (by omega)]
      exact m_kgEnd hx f g0 t1 t2 (fun M2 f2 g2 c2 => fin M2 _ f2 g2 c2 rfl)
    | succ m ih =>
      intro i M' z6 z7 hi f g0 t1 t2 t3 ⟨p, mr⟩
      have e54 : M'.1 10 0 54 = (m9 : Int) := by rw [f.g1 10 0 54 (fun z => by unfold scM at z; omega)]; exact hn
      have hPi := hP i (by omega)
      have e92 : M'.1 92 0 ((i : Int)).toNat = P i := by
        rw [show ((i : Int)).toNat = i by omega, f.g1 92 0 i (fun z => by unfold scM at z; omega)]; exact hPi.1
      rw [bMo_king_33, e54, if_neg (by omega), bMo_king_37 ⟨by omega, by omega⟩, e92]
      generalize hM2 : sI (sI M' 10 0 14 (P i)) 10 0 44 0 = M2
      have g2 : ∀ t i j, ¬ (t = 10 ∧ (j = 14 ∨ j = 44)) → M2.1 t i j = M'.1 t i j := fun t i j h => by rw [← hM2, sI_ne (by omega), sI_ne (by omega)]
      have f2 : Fs scM M M2 := by rw [← hM2]; exact (f.sI (by unfold scM; omega)).sI (by unfold scM; omega)
      have mr2 : MR (sPz R (P i)) M2 := by rw [← hM2]; exact mr.pz
      have h44 : M2.1 10 0 44 = 0 := by rw [← hM2, sI_eq]
      have hW' : WR (sPz R (P i)) := hW.pz (by omega)
      have e41 : sPz R (P i) 4 1 = R 4 1 := sPz_ne (by omega)
      have hl2 : HL (sPz R (P i)) M2 := hl_of2 hx.1 hW' hx.lv.pz hx.2.2.1 (by rw [g2 _ _ _ (by omega)]; exact t1) (fun j hj => by rw [g2 _ _ _ (by omega)]; exact t2 j hj) (by rw [g2 _ _ _ (by omega)]; exact t3)
      refine m_runsThrough (d := d) mr2 hW' (by rw [e41]; exact hn1) hl2 (fun z => absurd h44 z) ?_
      intro M3 f3 mr3 sv3 hA
      have g3 : ∀ t i j, (t = 55 ∨ (t = 10 ∧ (j = 0 ∨ 11 ≤ j ∧ j ≤ 20))) → M3.1 t i j = M2.1 t i j := fun t i j h => f3.g1 t i j (fun z => by have := go_sc z; omega)
      have ih' := fun z6 z7 => ih (i + 1) M3 z6 z7 (by omega) (f2.tr (f3.mono (fun t i j z => (go_sc z).1))) (by rw [g3 _ _ _ (by omega), g2 _ _ _ (by omega)]; exact g0) (by rw [g3 _ _ _ (by omega), g2 _ _ _ (by omega)]; exact t1) (fun j hj => by rw [g3 _ _ _ (by omega), g2 _ _ _ (by omega)]; exact t2 j hj) (by rw [g3 _ _ _ (by omega), g2 _ _ _ (by omega)]; exact t3) ⟨_, mr3⟩
      have e92' : M3.1 92 0 ((i : Int)).toNat = P i := by
        rw [f3.g1 92 0 _ (fun z => by have := (go_sc z).1; unfold scM at this; omega), g2 _ _ _ (by omega)]; exact e92
      have hpr : Int64.ofInt (phW (sPz R (P i)) 1) + Int64.ofInt k * Int64.ofInt (phW (sPz R (P i)) 0) = kgP R k (P i) := by unfold kgP; rw [Int64.mul_comm]
      have hstep : kgS R k P (i + 1) = if (kgS R k P i).1 = -1 ∨ kgP R k (P i) < (kgS R k P i).2 ∨ (kgP R k (P i) = (kgS R k P i).2 ∧ P i < (kgS R k P i).1) then (P i, kgP R k (P i)) else kgS R k P i := rfl
      rw [hstep, show ((i + 1 : Nat) : Int) = (i : Int) + 1 by omega] at ih'
      rw [KU_eq, bMo_king_48, hA.1, hA.2.1, hpr]
      generalize kgS R k P i = S at *
      generalize kgP R k (P i) = v at *
      have take : (S.1 = -1 ∨ v < S.2 ∨ (v = S.2 ∧ P i < S.1)) → At (d + 64) kMo_king 75 [vr 10 0, vi k, vi S.1, vl S.2, JK, vi (i : Int), vl v, JK] [] M3 Q X := by
        intro hc
        rw [if_pos hc] at ih'
        rw [bMo_king_75 (by omega), e92', bMo_king_82, w32_id (by omega)]; exact ih' _ _
      have leave : ¬ (S.1 = -1 ∨ v < S.2 ∨ (v = S.2 ∧ P i < S.1)) → At (d + 64) kMo_king 82 [vr 10 0, vi k, vi S.1, vl S.2, JK, vi (i : Int), vl v, JK] [] M3 Q X := by
        intro hc
        rw [if_neg hc] at ih'
        rw [bMo_king_82, w32_id (by omega)]; exact ih' _ _
      by_cases c1 : S.1 = -1
      · rw [if_pos c1]; exact take (Or.inl c1)
      rw [if_neg c1, bMo_king_60]
      by_cases c2 : S.2 < v
      · rw [if_pos (cmp64_gt.mpr c2)]
        refine leave (fun z => z.elim c1 (fun z => z.elim (fun y => ?_) (fun y => ?_)))
        · have a := Int64.lt_iff_toInt_lt.mp y
          have b := Int64.lt_iff_toInt_lt.mp c2
          omega
        · rw [y.1] at c2; exact i64_irr c2
      rw [if_neg (fun z => c2 (cmp64_gt.mp z)), bMo_king_64]
      by_cases c3 : v = S.2
      · rw [if_neg (fun z => z (cmp64_eq.mpr c3)), bMo_king_68 (by omega), e92']
        by_cases c4 : P i < S.1
        · rw [if_pos c4]; exact take (Or.inr (Or.inr ⟨c3, c4⟩))
        · rw [if_neg c4, bMo_king_74]
          refine leave (fun z => z.elim c1 (fun z => z.elim (fun y => ?_) (fun y => c4 y.2)))
          rw [c3] at y; exact i64_irr y
      · rw [if_pos (fun z => c3 (cmp64_eq.mp z))]
        refine take (Or.inr (Or.inl ?_))
        have a : ¬ S.2.toInt < v.toInt := fun z => c2 (Int64.lt_iff_toInt_lt.mpr z)
        have b : v.toInt ≠ S.2.toInt := fun z => c3 (Int64.toInt_inj.mp z)
        exact Int64.lt_iff_toInt_lt.mpr (by omega)
  obtain ⟨mr0, c1, c2, c3, c4, c5, -⟩ := hcm
  have g : ∀ t i j, ¬ (t = 10 ∧ i = 0 ∧ j = 0) → (sI M 10 0 0 0).1 t i j = M.1 t i j := fun t i j h => sI_ne h
  have mr1 : MR (sPz R (R 4 3)) (sI M 10 0 0 0) := by
    rw [sPz_id]
    exact mr0.fs (P := fun t i j => t = 10 ∧ i = 0 ∧ j = 0) (Fs.rf.sI (by omega)) (fun t i j z => by omega)
  exact key m9 0 (sI M 10 0 0 0) _ _ (by omega) fs0 sI_eq (by rw [g _ _ _ (by omega)]; exact c1) (fun j hj => by rw [g _ _ _ (by omega)]; exact c2 j hj) (by rw [g _ _ _ (by omega)]; exact c4) ⟨_, mr1⟩
end
