/-! LAYER 3, THE REFERENCE TAKES WHAT IT FOUND; A RACE IS COPIED -/
abbrev pTk (t i j : Nat) : Prop := (t = 10 ∧ i = 0 ∧ ((12 ≤ j ∧ j ≤ 20) ∨ j = 44)) ∨ ((t = 56 ∨ t = 57) ∧ i = 0) ∨ ((t = 59 ∨ t = 61) ∧ i < 3)
section
variable {d : Nat} {D : RT} {Q : AV → Mem → Prop} {X : Nat → Mem → Prop}
/-- what one shop has, taken -/
def Tkn (D : RT) (M : Mem) (s : Nat) (p : Nat) : Prop := ∀ e : Nat, 1 ≤ e → e < p → M.1 59 s e = D 35 (s * 5 + e) ∧ M.1 61 s e = D 36 (s * 5 + e)
def Tks (D : RT) (M : Mem) (s : Nat) : Prop := M.1 56 0 s = D 33 s ∧ M.1 57 0 s = D 34 s ∧ Tkn D M s 4
abbrev pT1 (s : Nat) (t i j : Nat) : Prop := ((t = 56 ∨ t = 57) ∧ i = 0 ∧ j = s) ∨ ((t = 59 ∨ t = 61) ∧ i = s)
theorem m_take1 {M : Mem} {s : Nat} (hs : s < 3) (h20 : M.1 10 0 20 = D 4 1) (hf : (s : Int) < D 4 1 → MDs D M s) (hW : WS D s)
    (hq : ∀ M' z, Fs (pT1 s) M M' → Tks D M' s → At d kMo_takes 38 [vr 10 0, vi ((s + 1 : Nat) : Int), z] [] M' Q X) (z2 : AV) : At d kMo_takes 38 [vr 10 0, vi (s : Int), z2] [] M Q X := by
  obtain ⟨w1, w2, w3, w4, w5⟩ := hW
  have e33 : (if (s : Int) < D 4 1 then M.1 62 0 s else 0) = D 33 s := by
    by_cases h : (s : Int) < D 4 1
    · rw [if_pos h]; exact (hf h).1
    · rw [if_neg h]; omega
  have e34 : (if (s : Int) < D 4 1 then M.1 63 0 s else 0) = D 34 s := by
    by_cases h : (s : Int) < D 4 1
    · rw [if_pos h]; exact (hf h).2.1
    · rw [if_neg h, w4 (by omega)]
  have key : ∀ (p : Nat) (M1 : Mem), p < 4 → 1 ≤ p → Fs (pT1 s) M M1 → M1.1 56 0 s = D 33 s → M1.1 57 0 s = D 34 s → Tkn D M1 s p → (∀ M2, Fs (pT1 s) M M2 → M2.1 56 0 s = D 33 s → M2.1 57 0 s = D 34 s → Tkn D M2 s (p + 1) → At d kMo_takes 71 [vr 10 0, vi (s : Int), vi ((p + 1 : Nat) : Int)] [] M2 Q X) → At d kMo_takes 71 [vr 10 0, vi (s : Int), vi (p : Int)] [] M1 Q X := by
    intro p M1 hp hp1 f1 a1 a2 a3 hn
    have e35 : (if D 34 s < (p : Int) then 0 else M.1 65 s p) = D 35 (s * 5 + p) := by
      by_cases h : D 34 s < (p : Int)
      · rw [if_pos h, ((w5 p (by omega)).2.2 (Or.inr h)).1]
      · rw [if_neg h]
        by_cases h' : (s : Int) < D 4 1
        · exact ((hf h').2.2 p hp1 (by omega) (by omega)).1
        · have := w4 (by omega); omega
    have e36 : (if D 34 s < (p : Int) then 0 else M.1 67 s p) = D 36 (s * 5 + p) := by
      by_cases h : D 34 s < (p : Int)
      · rw [if_pos h, ((w5 p (by omega)).2.2 (Or.inr h)).2]
      · rw [if_neg h]
        by_cases h' : (s : Int) < D 4 1
        · exact ((hf h').2.2 p hp1 (by omega) (by omega)).2
        · have := w4 (by omega); omega
    have g65 : M1.1 65 s p = M.1 65 s p := f1.g1 65 s p (by omega)
    have g67 : M1.1 67 s p = M.1 67 s p := f1.g1 67 s p (by omega)
    have fin : At d kMo_takes 113 [vr 10 0, vi (s : Int), vi (p : Int)] [vi (D 36 (s * 5 + p)), vi (p : Int), vr 61 s] (sI M1 59 s p (D 35 (s * 5 + p))) Q X := by
      rw [bMo_takes_113 (by omega), w32_id (by omega), show ((p : Int) + 1) = ((p + 1 : Nat) : Int) by omega, Int.toNat_natCast]
      refine hn _ ((f1.sI (by omega)).sI (by omega)) ?_ ?_ ?_
      · rw [sI_ne (by omega), sI_ne (by omega)]; exact a1
      · rw [sI_ne (by omega), sI_ne (by omega)]; exact a2
      · intro e he1 he2
        by_cases he : e = p
        · subst he; exact ⟨by rw [sI_ne (by omega), sI_eq], sI_eq⟩
        · rw [sI_ne (by omega), sI_ne (by omega), sI_ne (by omega), sI_ne (by omega)]
          exact a3 e he1 (by omega)
    have mid : At d kMo_takes 93 [vr 10 0, vi (s : Int), vi (p : Int)] [vi (D 35 (s * 5 + p)), vi (p : Int), vr 59 s] M1 Q X := by
      rw [bMo_takes_93 (by omega), Int.toNat_natCast, Int.toNat_natCast, sI_ne (by omega), a2, Nat.zero_mul, Nat.zero_add]
      by_cases h : D 34 s < (p : Int)
      · rw [if_pos h, bMo_takes_112]
        rw [← e36, if_pos h] at fin; exact fin
      · rw [if_neg h, bMo_takes_105 (by omega), Int.toNat_natCast, Int.toNat_natCast, sI_ne (by omega), Nat.zero_mul, Nat.zero_add, g67]
        rw [← e36, if_neg h] at fin; exact fin
    rw [bMo_takes_71, if_neg (by omega), bMo_takes_74 (by omega), Int.toNat_natCast, a2, Nat.zero_mul, Nat.zero_add]
    by_cases h : D 34 s < (p : Int)
    · rw [if_pos h, bMo_takes_92]
      rw [← e35, if_pos h] at mid; exact mid
    · rw [if_neg h, bMo_takes_85 (by omega), Int.toNat_natCast, Int.toNat_natCast, Nat.zero_mul, Nat.zero_add, g65]
      rw [← e35, if_neg h] at mid; exact mid
  have st2 : At d kMo_takes 68 [vr 10 0, vi (s : Int), z2] [vi (D 34 s), vi (s : Int), vr 57 0] (sI M 56 0 s (D 33 s)) Q X := by
    rw [bMo_takes_68 (by omega), Int.toNat_natCast]
    refine key 1 _ (by omega) (by omega) ((Fs.rf.sI (by omega)).sI (by omega)) (by rw [sI_ne (by omega), sI_eq]) sI_eq (fun e h1 h2 => by omega) ?_
    intro M2 f2 b1 b2 b3
    refine key 2 _ (by omega) (by omega) f2 b1 b2 b3 ?_
    intro M3 f3 c1 c2 c3
    refine key 3 _ (by omega) (by omega) f3 c1 c2 c3 ?_
    intro M4 f4 g1 g2 g3
    rw [bMo_takes_71, if_pos (by omega), bMo_takes_116, w32_id (by omega), show ((s : Int) + 1) = ((s + 1 : Nat) : Int) by omega]
    exact hq M4 _ f4 ⟨g1, g2, g3⟩
  have st1 : At d kMo_takes 54 [vr 10 0, vi (s : Int), z2] [vi (D 33 s), vi (s : Int), vr 56 0] M Q X := by
    rw [bMo_takes_54 (by omega), Int.toNat_natCast, sI_ne (by omega), h20]
    by_cases h : (s : Int) < D 4 1
    · rw [if_neg (by omega), bMo_takes_62 (by omega), Int.toNat_natCast, sI_ne (by omega)]
      rw [← e34, if_pos h] at st2; exact st2
    · rw [if_pos (by omega), bMo_takes_67]
      rw [← e34, if_neg h] at st2; exact st2
  rw [bMo_takes_38, if_neg (by omega), bMo_takes_41, h20]
  by_cases h : (s : Int) < D 4 1
  · rw [if_neg (by omega), bMo_takes_48 (by omega), Int.toNat_natCast]
    rw [← e33, if_pos h] at st1; exact st1
  · rw [if_pos (by omega), bMo_takes_53]
    rw [← e33, if_neg h] at st1; exact st1
theorem Tks.fs {M M' : Mem} {P : Nat → Nat → Nat → Prop} {s : Nat} (h : Tks D M s) (hf : Fs P M M') (h1 : ¬ P 56 0 s) (h2 : ¬ P 57 0 s) (h3 : ∀ j, ¬ P 59 s j) (h4 : ∀ j, ¬ P 61 s j) : Tks D M' s :=
  ⟨(hf.g1 _ _ _ h1).trans h.1, (hf.g1 _ _ _ h2).trans h.2.1, fun e e1 e2 => ⟨(hf.g1 _ _ _ (h3 e)).trans (h.2.2 e e1 e2).1, (hf.g1 _ _ _ (h4 e)).trans (h.2.2 e e1 e2).2⟩⟩
theorem m_takes {M : Mem} (hD : MD D M) (hW : WD D)
    (hq : ∀ M', Fs pTk M M' → MR D M' → M'.1 10 0 12 = D 4 7 → M'.1 10 0 18 = M.1 10 0 31 → M'.1 10 0 19 = M.1 10 0 32 → M'.1 10 0 44 = 0 → Q (vi 0) M') : Call (d + 1) qMo_takes [vr 10 0] M Q X := by
  obtain ⟨⟨e1, e2, e3, e4, e5, e6, e7⟩, hs⟩ := hD
  rw [eMo_takes, bMo_takes_0]
  have key : ∀ M1, Fs pTk M M1 → (M1.1 10 0 20 = D 4 1 ∧ M1.1 10 0 13 = D 4 2 ∧ M1.1 10 0 14 = D 4 3 ∧ M1.1 10 0 15 = D 4 4 ∧ M1.1 10 0 16 = D 4 5 ∧ M1.1 10 0 17 = D 4 6 ∧ M1.1 10 0 12 = D 4 7 ∧ M1.1 10 0 18 = M.1 10 0 31 ∧ M1.1 10 0 19 = M.1 10 0 32) → At d kMo_takes 38 [vr 10 0, vi 0, JK] [] M1 Q X := by
    intro M1 f1 hv
    have up : ∀ s : Nat, Fs (pT1 s) M1 M1 → True := fun _ _ => trivial
    have hm : ∀ (s : Nat) (M2 : Mem), s < 3 → (∀ t i j, (t = 62 ∨ t = 63 ∨ t = 65 ∨ t = 67) → M2.1 t i j = M.1 t i j) → (s : Int) < D 4 1 → MDs D M2 s := by
      intro s M2 h3 hk hl
      have := hs s h3 hl
      exact ⟨(hk _ _ _ (by omega)).trans this.1, (hk _ _ _ (by omega)).trans this.2.1, fun p a b c => ⟨(hk _ _ _ (by omega)).trans (this.2.2 p a b c).1, (hk _ _ _ (by omega)).trans (this.2.2 p a b c).2⟩⟩
    have hk1 : ∀ t i j, (t = 62 ∨ t = 63 ∨ t = 65 ∨ t = 67) → M1.1 t i j = M.1 t i j := fun t i j h => f1.g1 t i j (by omega)
    refine m_take1 (s := 0) (by omega) hv.1 (hm 0 M1 (by omega) hk1) (hW.2 0 (by omega)) ?_ _
    intro M2 z f2 t0
    have hk2 : ∀ t i j, (t = 62 ∨ t = 63 ∨ t = 65 ∨ t = 67) → M2.1 t i j = M.1 t i j := fun t i j h => (f2.g1 t i j (by omega)).trans (hk1 t i j h)
    have g2 : M2.1 10 0 20 = D 4 1 := (f2.g1 10 0 20 (by omega)).trans hv.1
    refine m_take1 (s := 1) (by omega) g2 (hm 1 M2 (by omega) hk2) (hW.2 1 (by omega)) ?_ _
    intro M3 z f3 t1
    have hk3 : ∀ t i j, (t = 62 ∨ t = 63 ∨ t = 65 ∨ t = 67) → M3.1 t i j = M.1 t i j := fun t i j h => (f3.g1 t i j (by omega)).trans (hk2 t i j h)
    have g3 : M3.1 10 0 20 = D 4 1 := (f3.g1 10 0 20 (by omega)).trans g2
    refine m_take1 (s := 2) (by omega) g3 (hm 2 M3 (by omega) hk3) (hW.2 2 (by omega)) ?_ _
    intro M4 z f4 t2
    rw [bMo_takes_38, if_pos (by omega), bMo_takes_118 (by omega)]
    have t0' : Tks D M4 0 := (t0.fs f3 (by omega) (by omega) (by omega) (by omega)).fs f4 (by omega) (by omega) (by omega) (by omega)
    have t1' : Tks D M4 1 := t1.fs f4 (by omega) (by omega) (by omega) (by omega)
    have f14 : Fs (fun t i j => (t = 56 ∨ t = 57) ∧ i = 0 ∨ (t = 59 ∨ t = 61) ∧ i < 3) M1 M4 := (f2.mono (fun t i j h => by omega)).tr ((f3.mono (fun t i j h => by omega)).tr (f4.mono (fun t i j h => by omega)))
    have gg : ∀ j, M4.1 10 0 j = M1.1 10 0 j := fun j => f14.g1 10 0 j (by omega)
    have f5 : Fs pTk M (sI M4 10 0 44 0) := (f1.tr (f14.mono (fun t i j h => by omega))).sI (by omega)
    refine hq _ f5 ?_ ?_ ?_ ?_ sI_eq
    · refine ⟨?_, ?_, ?_, ?_, ?_, ?_, ?_, ?_⟩
      · rw [sI_ne (by omega), gg]; exact hv.1
      · rw [sI_ne (by omega), gg]; exact hv.2.1
      · rw [sI_ne (by omega), gg]; exact hv.2.2.1
      · rw [sI_ne (by omega), gg]; exact hv.2.2.2.1
      · rw [sI_ne (by omega), gg]; exact hv.2.2.2.2.1
      · rw [sI_ne (by omega), gg]; exact hv.2.2.2.2.2.1
      · intro s s0 s3
        rw [sI_ne (by omega), sI_ne (by omega)]
        unfold stp pcs
        rcases (by omega : s = 0 ∨ s = 1 ∨ s = 2) with rfl | rfl | rfl
        · exact ⟨t0'.1, t0'.2.1⟩
        · exact ⟨t1'.1, t1'.2.1⟩
        · exact ⟨t2.1, t2.2.1⟩
      · intro s e s0 s3 e0 e4
        rw [sI_ne (by omega), sI_ne (by omega)]
        unfold cst chc
        rcases (by omega : s = 0 ∨ s = 1 ∨ s = 2) with rfl | rfl | rfl
        · rw [show ((0 : Int) * 5 + e).toNat = 0 * 5 + e.toNat by omega]; exact t0'.2.2 e.toNat (by omega) (by omega)
        · rw [show ((1 : Int) * 5 + e).toNat = 1 * 5 + e.toNat by omega]; exact t1'.2.2 e.toNat (by omega) (by omega)
        · rw [show ((2 : Int) * 5 + e).toNat = 2 * 5 + e.toNat by omega]; exact t2.2.2 e.toNat (by omega) (by omega)
    · rw [sI_ne (by omega), gg]; exact hv.2.2.2.2.2.2.1
    · rw [sI_ne (by omega), gg]; exact hv.2.2.2.2.2.2.2.1
    · rw [sI_ne (by omega), gg]; exact hv.2.2.2.2.2.2.2.2
  refine key _ ?_ ?_
  · repeat (first | exact Fs.rf | refine Fs.sI ?_ (by omega))
  · refine ⟨?_, ?_, ?_, ?_, ?_, ?_, ?_, ?_, ?_⟩
    all_goals simp [sI1, e1, e2, e3, e4, e5, e6, e7]
/-- where the numbers of a race lie -/
abbrev inRa (t j : Nat) : Prop := (t = 4 ∧ j < 8) ∨ ((t = 33 ∨ t = 34 ∨ t = 37) ∧ j < 3) ∨ ((t = 35 ∨ t = 36) ∧ j < 15) ∨ (t = 38 ∧ j < 175)
def nm (R : RT) : RT := fun t j => if inRa t j then R t j else 0
def Zo (M : Mem) (i : Nat) : Prop := ∀ t j : Nat, (t = 4 ∨ 33 ≤ t ∧ t ≤ 38) → ¬ inRa t j → M.1 t i j = 0
abbrev pCp (i : Nat) (t i' j : Nat) : Prop := i' = i ∧ inRa t j
theorem nm_rd {M : Mem} {i : Nat} (h : Zo M i) : nm (rd M i) = rd M i := by
  funext t j
  unfold nm
  by_cases hr : inRa t j
  · rw [if_pos hr]
  · rw [if_neg hr]
    unfold rd
    by_cases ht : t = 4 ∨ 33 ≤ t ∧ t ≤ 38
    · rw [if_pos ht, h t j ht hr]
    · rw [if_neg ht]
theorem nm_in {R : RT} {t j : Nat} (h : inRa t j) : nm R t j = R t j := if_pos h
theorem nm_ext {R R' : RT} (h : ∀ t j, inRa t j → R t j = R' t j) : nm R = nm R' := by
  funext t j
  unfold nm
  by_cases hr : inRa t j
  · rw [if_pos hr, if_pos hr, h t j hr]
  · rw [if_neg hr, if_neg hr]
theorem rd_of {M : Mem} {i : Nat} {R : RT} (hz : Zo M i) (h : ∀ t j, inRa t j → M.1 t i j = R t j) : rd M i = nm R := by
  rw [← nm_rd hz]
  refine nm_ext ?_
  intro t j hr
  rw [← h t j hr]; unfold rd; rw [if_pos (by omega)]
theorem Zo.fs {M M' : Mem} {i : Nat} {P : Nat → Nat → Nat → Prop} (h : Zo M i) (hf : Fs P M M') (hp : ∀ t j, (t = 4 ∨ 33 ≤ t ∧ t ≤ 38) → ¬ inRa t j → ¬ P t i j) : Zo M' i := fun t j a b => (hf.g1 t i j (hp t j a b)).trans (h t j a b)
theorem Zo.fr {M M' : Mem} {i : Nat} {P : Nat → Nat → Prop} (h : Zo M i) (hf : Fr P M M') (hp : ∀ t, (t = 4 ∨ 33 ≤ t ∧ t ≤ 38) → ¬ P t i) : Zo M' i := fun t j a b => (hf.g1 t i (hp t a) j).trans (h t j a b)
theorem Fs.cpI {P : Nat → Nat → Nat → Prop} {M M' t i p t' i' p' n} (h : Fs P M M') (hp : ∀ j, p' ≤ j → j < p' + n → P t' i' j) : Fs P M (cpI M' t i p t' i' p' n) := fun a b c q => ⟨by
    rw [cpI1, if_neg (fun z => q (by obtain ⟨rfl, rfl, z1, z2⟩ := z; exact hp c z1 z2)), (h a b c q).1], (h a b c q).2⟩
theorem c_copyFrom {M : Mem} {i k : Nat} (hik : i ≠ k) (hz : Zo M i) (hq : ∀ M', Fs (pCp i) M M' → rd M' i = nm (rd M k) → Zo M' i → Q (vi 0) M') : Call (d + 1) qRa_copyFrom [vr 4 i, vr 4 k] M Q X := by
  rw [eRa_copyFrom, bRa_copyFrom_0 (by omega)]
  have key : ∀ M', Fs (pCp i) M M' → (∀ t j, inRa t j → M'.1 t i j = M.1 t k j) → Q (vi 0) M' := by
    intro M' f h
    have z' : Zo M' i := hz.fs f (fun t j a b c => b c.2)
    refine hq M' f ?_ z'
    rw [rd_of (R := fun t j => M.1 t k j) z' h]
    refine nm_ext ?_
    intro t j hr
    unfold rd; rw [if_pos (by omega)]
  refine key _ ?_ ?_
  · repeat (first | exact Fs.rf | refine Fs.sI ?_ (by omega) | refine Fs.cpI ?_ (by intro j h1 h2; omega))
  · intro t j hr
    have hik' : ¬ k = i := fun z => hik z.symm
    rcases hr with ⟨rfl, hj⟩ | ⟨ht, hj⟩ | ⟨ht, hj⟩ | ⟨rfl, hj⟩
    · rcases (by omega : j = 0 ∨ j = 1 ∨ j = 2 ∨ j = 3 ∨ j = 4 ∨ j = 5 ∨ j = 6 ∨ j = 7) with rfl | rfl | rfl | rfl | rfl | rfl | rfl | rfl <;> simp [cpI1, sI1, hik, hik']
    · rcases ht with rfl | rfl | rfl <;> simp [cpI1, sI1, hik, hik', hj]
    · rcases ht with rfl | rfl <;> simp [cpI1, sI1, hik, hik', hj]
    · simp [cpI1, sI1, hik, hik', hj]
theorem c_clearRules {M : Mem} {i : Nat} (hq : ∀ M', Fs (fun t i' j => t = 27 ∧ i' = i ∧ j < 75) M M' → (∀ j : Nat, j < 75 → M'.1 27 i j = 0) → Q (vi 0) M') : Call (d + 1) qDe_clearRules [vr 2 i] M Q X := by
  rw [eDe_clearRules, bDe_clearRules_0]
  refine loop_up (fun x M' => At d kDe_clearRules 2 [vr 2 i, vi x] [] M' Q X) (fun x M' => Fs (fun t i' j => t = 27 ∧ i' = i ∧ j < 75) M M' ∧ ∀ j : Nat, (j : Int) < x → M'.1 27 i j = 0) 0 75 ?_ ?_ 0 M (by omega) (by omega) ⟨Fs.rf, fun j h => by omega⟩
  · intro M' h
    show At _ _ _ _ _ _ _ _
    rw [bDe_clearRules_2, if_pos (by omega), bDe_clearRules_14]
    exact hq M' h.1 (fun j hj => h.2 j (by omega))
  · intro x M' x0 x1 h hn
    show At _ _ _ _ _ _ _ _
    rw [bDe_clearRules_2, if_neg (by omega), bDe_clearRules_7 (by omega), w32_id (by omega)]
    refine hn _ ⟨h.1.sI (by omega), ?_⟩
    intro j hj
    by_cases e : j = x.toNat
    · subst e; exact sI_eq
    · rw [sI_ne (by omega)]; exact h.2 j (by omega)
end
