/-! LAYER 3, THE CLAUSES IN THE REFERENCE -/
def MDs (D : RT) (M : Mem) (s : Nat) : Prop := M.1 62 0 s = D 33 s ∧ M.1 63 0 s = D 34 s ∧ ∀ p : Nat, 1 ≤ p → p < 4 → (p : Int) ≤ D 34 s → M.1 65 s p = D 35 (s * 5 + p) ∧ M.1 67 s p = D 36 (s * 5 + p)
def MD (D : RT) (M : Mem) : Prop := (M.1 10 0 25 = D 4 1 ∧ M.1 10 0 26 = D 4 2 ∧ M.1 10 0 27 = D 4 3 ∧ M.1 10 0 28 = D 4 4 ∧ M.1 10 0 29 = D 4 5 ∧ M.1 10 0 30 = D 4 6 ∧ M.1 10 0 33 = D 4 7) ∧ ∀ s : Nat, s < 3 → (s : Int) < D 4 1 → MDs D M s
def wh (x : Option (Nat × Rd)) : Int := match x with | none => -1 | some (k, _) => (k : Int)
def MK (B : BT) (n : Nat) (D : RT) (T : TT) (M : Mem) (k : Nat) : Prop := MSt B n M k 0 ∧ M.1 10 0 7 = -1 ∧ MD D M ∧ M.1 10 0 31 = wh (T 0) ∧ M.1 10 0 32 = wh (T 1)
def MF (B : BT) (n : Nat) (a b : Int) (M : Mem) : Prop := FMx B n 515 a b 0 M
abbrev pMc (t i j : Nat) : Prop := (t = 10 ∧ i = 0 ∧ ((4 ≤ j ∧ j ≤ 7) ∨ (25 ≤ j ∧ j ≤ 33))) ∨ ((t = 62 ∨ t = 63) ∧ i = 0) ∨ ((t = 65 ∨ t = 67) ∧ i < 3)
theorem Fs.mc {M M'} (h : Fs pMr M M') : Fs pMc M M' := Fs.mono (fun t i j z => by omega) h
theorem MD.mr {D : RT} {M M' : Mem} (h : MD D M) (hf : Fs pMr M M') : MD D M' := by
  obtain ⟨⟨h1, h2, h3, h4, h5, h6, h7⟩, h8⟩ := h
  refine ⟨⟨?_, ?_, ?_, ?_, ?_, ?_, ?_⟩, fun s hs hs2 => ?_⟩
  · rw [hf.g1 10 0 25 (by omega)]; exact h1
  · rw [hf.g1 10 0 26 (by omega)]; exact h2
  · rw [hf.g1 10 0 27 (by omega)]; exact h3
  · rw [hf.g1 10 0 28 (by omega)]; exact h4
  · rw [hf.g1 10 0 29 (by omega)]; exact h5
  · rw [hf.g1 10 0 30 (by omega)]; exact h6
  · rw [hf.g1 10 0 33 (by omega)]; exact h7
  · obtain ⟨g1, g2, g3⟩ := h8 s hs hs2
    refine ⟨by rw [hf.g1 62 0 s (by omega)]; exact g1, by rw [hf.g1 63 0 s (by omega)]; exact g2, fun p p1 p2 p3 => ?_⟩
    rw [hf.g1 65 s p (by omega), hf.g1 67 s p (by omega)]
    exact g3 p p1 p2 p3
theorem MK.mr {B n D T M M' k k'} (h : MK B n D T M k) (hf : Fs pMr M M') (hs : MSt B n M' k' 0) (h7 : M'.1 10 0 7 = -1) : MK B n D T M' k' :=
  ⟨hs, h7, h.2.2.1.mr hf, by rw [hf.g1 10 0 31 (by omega)]; exact h.2.2.2.1, by rw [hf.g1 10 0 32 (by omega)]; exact h.2.2.2.2⟩
theorem MK.at {B n D T M k k'} (h : MK B n D T M k) (hk : k' ≤ n) : MK B n D T (sI M 10 0 4 ((k' : Nat) : Int)) k' :=
  h.mr (Fs.rf.sI (by omega)) (h.1.at hk) (by rw [sI_ne (by omega)]; exact h.2.1)
theorem MK.bad {B n D T M k} {a b : Int} (h : MK B n D T M k) : MF B n a b (wrs M a b) := FMx.of_wrs h.1 (by have := h.1.1.2.1; omega)
section
variable {d : Nat} {B : BT} {n : Nat} {D : RT} {T : TT} {M : Mem} {Q : AV → Mem → Prop} {X : Nat → Mem → Prop}
/-- a number at a clause -/
theorem gm_num {k : Nat} {lo hi : Int} (h : MK B n D T M k) (hh : hi ≤ 9999)
    (h1 : ∀ e, nmb B n k lo hi = .inl e → ∀ M' v, Fs pMr M M' → MF B n e.1 e.2 M' → Q (vi v) M')
    (h2 : ∀ v k1, nmb B n k lo hi = .inr (v, k1) → k1 ≤ n → lo ≤ v → v ≤ hi → Fs pMr M (sI M 10 0 4 ((k1 : Nat) : Int)) → MK B n D T (sI M 10 0 4 ((k1 : Nat) : Int)) k1 → Q (vi v) (sI M 10 0 4 ((k1 : Nat) : Int))) : Call (d + 3) qMo_number [vr 10 0, vi lo, vi hi] M Q X := by
  have hn := h.1.1.2.1
  have hk := h.1.2.2.1
  have hb := blk_le (B := B) hk
  have hd := dge_le (B := B) hb.2
  rw [m_number h.1.1 h.1.2.1 (by omega)]
  by_cases e1 : dge B n (blk B n k) = blk B n k
  · simp only [if_pos e1]
    have m1 : MF B n 1 (blk B n k : Int) (sI (wrs (sI M 10 0 4 ((blk B n k : Nat) : Int)) 1 (blk B n k)) 10 0 4 ((dge B n (blk B n k) : Nat) : Int)) := FMx.at (h.at hb.2).bad (by omega)
    have f1 : Fs pMr M (sI (wrs (sI M 10 0 4 ((blk B n k : Nat) : Int)) 1 (blk B n k)) 10 0 4 ((dge B n (blk B n k) : Nat) : Int)) := (fs_wrs (Fs.rf.sI (by omega))).sI (by omega)
    have en : nmb B n k lo hi = .inl (1, (blk B n k : Int)) := by unfold nmb; rw [if_pos e1]
    rw [wrs_no (M := sI (wrs (sI M 10 0 4 ((blk B n k : Nat) : Int)) 1 (blk B n k)) 10 0 4 ((dge B n (blk B n k) : Nat) : Int)) (by rw [m1.2.2.1]; omega), ite_self]
    exact h1 _ en _ _ f1 m1
  · simp only [if_neg e1, sI_sI]
    by_cases e2 : lo ≤ nvl B n (blk B n k) 0 ∧ nvl B n (blk B n k) 0 ≤ hi
    · have e3 : lid 100000 (nvl B n (blk B n k) 0) = nvl B n (blk B n k) 0 := by unfold lid; rw [if_pos (by omega)]
      rw [e3, if_pos e2]
      exact h2 _ _ (by unfold nmb; rw [if_neg e1, if_pos e2]) hd.2 e2.1 e2.2 (Fs.rf.sI (by omega)) (h.at hd.2)
    · have e3 : ¬ (lo ≤ lid 100000 (nvl B n (blk B n k) 0) ∧ lid 100000 (nvl B n (blk B n k) 0) ≤ hi) := by unfold lid; split <;> omega
      rw [if_neg e3]
      exact h1 (2, (blk B n k : Int)) (by unfold nmb; rw [if_neg e1, if_neg e2]) _ _ (fs_wrs (Fs.rf.sI (by omega))) (h.at hd.2).bad
/-- a word at a clause, and past it -/
theorem gm_word {k r : Nat} {a b c e f g : Int} (hr : 12 ≤ r ∧ r < 28) (hw : mwd a b c e f g = encW (fun j => (wd r).getD j 0) (wd r).length) (h : MK B n D T M k)
    (h1 : Fs pMr M (sI M 10 0 4 ((blk B n k : Nat) : Int)) → MK B n D T (sI M 10 0 4 ((blk B n k : Nat) : Int)) (blk B n k) → Q (vi (if isW B n (blk B n k) (wd r) then 1 else 0)) (sI M 10 0 4 ((blk B n k : Nat) : Int))) : Call (d + 4) qMo_isWord [vr 10 0, vi a, vi b, vi c, vi e, vi f, vi g] M Q X := by
  have hn := h.1.1.2.1
  have hk := h.1.2.2.1
  have hb := blk_le (B := B) hk
  rw [m_isWord hr hw h.1.1 h.1.2.1 (by omega)]
  exact h1 (Fs.rf.sI (by omega)) (h.at hb.2)
theorem gm_skip {k : Nat} {w : List Int} (hw : isW B n k w) (h : MK B n D T M k) (h1 : Fs pMr M (sI M 10 0 4 ((k + w.length : Nat) : Int)) → MK B n D T (sI M 10 0 4 ((k + w.length : Nat) : Int)) (k + w.length) → Q (vi 0) (sI M 10 0 4 ((k + w.length : Nat) : Int))) : Call (d + 2) qMo_skipWord [vr 10 0] M Q X := by
  have hn := h.1.1.2.1
  have hk := h.1.2.2.1
  rw [m_skipWord h.1.1 h.1.2.1 (by omega), hw.1]
  exact h1 (Fs.rf.sI (by omega)) (h.at (isW_le hk hw))
theorem gm_must {k r : Nat} {a b c e f g : Int} (hr : 12 ≤ r ∧ r < 28) (hw : mwd a b c e f g = encW (fun j => (wd r).getD j 0) (wd r).length) (h : MK B n D T M k)
    (h1 : ∀ M', isW B n (blk B n k) (wd r) → Fs pMr M M' → MK B n D T M' (blk B n k + (wd r).length) → Q (vi 0) M')
    (h2 : ∀ M', ¬ isW B n (blk B n k) (wd r) → Fs pMr M M' → MF B n 1 (blk B n k : Int) M' → Q (vi 0) M') : Call (d + 5) qMo_must [vr 10 0, vi a, vi b, vi c, vi e, vi f, vi g] M Q X := by
  rw [eMo_must, bMo_must_0]
  refine gm_word hr hw h ?_
  intro f1 c1
  rw [KV_eq, bMo_must_8]
  by_cases hi : isW B n (blk B n k) (wd r)
  · rw [if_pos hi, if_neg (by omega), bMo_must_9]
    refine gm_skip hi c1 ?_
    intro f2 c2
    rw [KU_eq, bMo_must_11, bMo_must_17]
    exact h1 _ hi (f1.tr f2) c2
  · rw [if_neg hi, if_pos rfl, bMo_must_12, sI_eq, m_wrong, KU_eq, bMo_must_17]
    exact h2 _ hi (fs_wrs f1) c1.bad
end
