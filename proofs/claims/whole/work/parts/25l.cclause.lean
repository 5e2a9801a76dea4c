/-! LAYER 3, THE CLAUSES IN THE CLASS -/
section
variable {d : Nat} {B : BT} {n : Nat} {D : RT} {T : TT} {M : Mem} {Q : AV → Mem → Prop} {X : Nat → Mem → Prop}
theorem isW_le {k : Nat} {w : List Int} (hk : k ≤ n) (h : isW B n k w) : k + w.length ≤ n := by
  have := lte_le (B := B) hk
  have := h.1
  omega
theorem nmb_le {k : Nat} {lo hi v : Int} {k1 : Nat} (hk : k ≤ n) (h : nmb B n k lo hi = .inr (v, k1)) : k ≤ k1 ∧ k1 ≤ n ∧ lo ≤ v ∧ v ≤ hi := by
  have hb := blk_le (B := B) hk
  have hd := dge_le (B := B) hb.2
  unfold nmb at h
  split at h
  · cases h
  · split at h
    · rename_i h2
      cases h
      exact ⟨by omega, by omega, h2.1, h2.2⟩
    · cases h
/-- a number at a clause -/
theorem g_num {k : Nat} {lo hi : Int} (h : CK B n D T M k) (hl : 0 ≤ lo) (hh : hi ≤ 9999)
    (h1 : ∀ e, nmb B n k lo hi = .inl e → ∀ M' v, Fs pRd M M' → CF B n e.1 e.2 M' → Q (vi v) M')
    (h2 : ∀ v k1, nmb B n k lo hi = .inr (v, k1) → k1 ≤ n → lo ≤ v → v ≤ hi → Fs pRd M (sI M 5 0 8 ((k1 : Nat) : Int)) → CK B n D T (sI M 5 0 8 ((k1 : Nat) : Int)) k1 → Q (vi v) (sI M 5 0 8 ((k1 : Nat) : Int))) : Call (d + 3) qRe_number [vr 5 0, vi lo, vi hi] M Q X := by
  have hn := h.1.1.2.1
  have hk := h.1.2.2.1
  have hb := blk_le (B := B) hk
  have hd := dge_le (B := B) hb.2
  rw [c_number h.1.1 h.1.2.1 (by omega)]
  by_cases e1 : dge B n (blk B n k) = blk B n k
  · rw [if_pos e1]
    refine h1 (1, (blk B n k : Int)) (by unfold nmb; rw [if_pos e1]) _ _ ?_ (h.at hd.2).bad
    unfold rfs; split
    · exact ((Fs.rf.sI (by omega)).sI (by omega)).sI (by omega)
    · exact Fs.rf.sI (by omega)
  · rw [if_neg e1]
    by_cases e2 : lo ≤ nvl B n (blk B n k) 0 ∧ nvl B n (blk B n k) 0 ≤ hi
    · have e3 : lid 10000 (nvl B n (blk B n k) 0) = nvl B n (blk B n k) 0 := by unfold lid; rw [if_pos (by omega)]
      rw [e3, if_pos e2]
      exact h2 _ _ (by unfold nmb; rw [if_neg e1, if_pos e2]) hd.2 e2.1 e2.2 (Fs.rf.sI (by omega)) (h.at hd.2)
    · have e3 : ¬ (lo ≤ lid 10000 (nvl B n (blk B n k) 0) ∧ lid 10000 (nvl B n (blk B n k) 0) ≤ hi) := by unfold lid; split <;> omega
      rw [if_neg e3]
      refine h1 (2, (blk B n k : Int)) (by unfold nmb; rw [if_neg e1, if_neg e2]) _ _ ?_ (h.at hd.2).bad
      unfold rfs; split
      · exact ((Fs.rf.sI (by omega)).sI (by omega)).sI (by omega)
      · exact Fs.rf.sI (by omega)
/-- a word at a clause -/
theorem g_word {k r : Nat} (hr : 12 ≤ r ∧ r < 28) (h : CK B n D T M k)
    (h1 : isW B n (blk B n k) (wd r) → Fs pRd M (sI M 5 0 8 ((blk B n k + (wd r).length : Nat) : Int)) → CK B n D T (sI M 5 0 8 ((blk B n k + (wd r).length : Nat) : Int)) (blk B n k + (wd r).length) → Q (vi 1) (sI M 5 0 8 ((blk B n k + (wd r).length : Nat) : Int)))
    (h2 : ¬ isW B n (blk B n k) (wd r) → Fs pRd M (sI M 5 0 8 ((blk B n k : Nat) : Int)) → CK B n D T (sI M 5 0 8 ((blk B n k : Nat) : Int)) (blk B n k) → Q (vi 0) (sI M 5 0 8 ((blk B n k : Nat) : Int))) : Call (d + 3) qRe_takeWord [vr 5 0, vr 11 r] M Q X := by
  have hn := h.1.1.2.1
  have hk := h.1.2.2.1
  have hb := blk_le (B := B) hk
  rw [c_takeWord hr h.1.1 h.1.2.1 (by omega)]
  by_cases hw : isW B n (blk B n k) (wd r)
  · rw [if_pos ⟨h.1.2.2.2.1, hw⟩]
    exact h1 hw (Fs.rf.sI (by omega)) (h.at (isW_le hb.2 hw))
  · rw [if_neg (fun z => hw z.2)]
    exact h2 hw (Fs.rf.sI (by omega)) (h.at hb.2)
/-- behind a fault -/
theorem x_num {a b lo hi : Int} (ha : a ≠ 0) (h : CF B n a b M) (hq : ∀ M' v, Fs pRd M M' → CF B n a b M' → Q (vi v) M') : Call (d + 3) qRe_number [vr 5 0, vi lo, vi hi] M Q X := by
  obtain ⟨tp, ht, h⟩ := h.low
  exact f_number ha h (fun M' v f1 x1 _ => hq M' v (f1.cr ht) ⟨tp, x1⟩)
theorem x_word {a b : Int} {r : Nat} (hr : 12 ≤ r ∧ r < 28) (ha : a ≠ 0) (h : CF B n a b M) (hq : ∀ M', Fs pRd M M' → CF B n a b M' → Q (vi 0) M') : Call (d + 3) qRe_takeWord [vr 5 0, vr 11 r] M Q X := by
  obtain ⟨tp, ht, h⟩ := h.low
  exact f_word ha h hr (fun M' f1 x1 => hq M' (f1.cr ht) ⟨tp, x1⟩)
theorem x_demandW {a b : Int} {r : Nat} (hr : 12 ≤ r ∧ r < 28) (ha : a ≠ 0) (h : CF B n a b M) (hq : ∀ M', Fs pRd M M' → CF B n a b M' → Q (vi 0) M') : Call (d + 4) qRe_demandWord [vr 5 0, vr 11 r] M Q X := by
  obtain ⟨tp, ht, h⟩ := h.low
  exact f_demandW ha h hr (fun M' f1 x1 => hq M' (f1.cr ht) ⟨tp, x1⟩)
theorem x_demand {a b c : Int} (ha : a ≠ 0) (h : CF B n a b M) (hq : ∀ M', Fs pRd M M' → CF B n a b M' → Q (vi 0) M') : Call (d + 4) qRe_demandSign [vr 5 0, vi c] M Q X := by
  obtain ⟨tp, ht, h⟩ := h.low
  exact f_demand ha h (fun M' f1 x1 => hq M' (f1.cr ht) ⟨tp, x1⟩)
theorem x_blank {a b : Int} (h : CF B n a b M) (hq : ∀ M', Fs pRd M M' → CF B n a b M' → Q (vi 0) M') : Call (d + 2) qRe_skipBlanks [vr 5 0] M Q X := by
  obtain ⟨tp, ht, h⟩ := h.low
  exact f_blank h (fun M' f1 x1 => hq M' (f1.cr ht) ⟨tp, x1⟩)
/-- a word that must stand here -/
theorem g_demandW {k r : Nat} (hr : 12 ≤ r ∧ r < 28) (h : CK B n D T M k)
    (h1 : ∀ M', isW B n (blk B n k) (wd r) → Fs pRd M M' → CK B n D T M' (blk B n k + (wd r).length) → Q (vi 0) M')
    (h2 : ∀ M', ¬ isW B n (blk B n k) (wd r) → Fs pRd M M' → CF B n 1 (blk B n k : Int) M' → Q (vi 0) M') : Call (d + 4) qRe_demandWord [vr 5 0, vr 11 r] M Q X := by
  rw [eRe_demandWord, bRe_demandWord_0]
  refine g_word hr h ?_ ?_
  · intro hw f1 c1
    rw [KV_eq, bRe_demandWord_3, if_pos (by omega), bRe_demandWord_9]
    exact h1 _ hw f1 c1
  · intro hw f1 c1
    rw [KV_eq, bRe_demandWord_3, if_neg (by omega), bRe_demandWord_4, sI_eq, c_refuse, KU_eq, bRe_demandWord_9]
    refine h2 _ hw ?_ c1.bad
    unfold rfs; split
    · exact (f1.sI (by omega)).sI (by omega)
    · exact f1
theorem g_demandS {k : Nat} {c : Int} (h : CK B n D T M k) (hc : c ≠ -1)
    (h1 : ∀ M', byt B n (blk B n k) = c → Fs pRd M M' → CK B n D T M' (blk B n k + 1) → Q (vi 0) M')
    (h2 : ∀ M', ¬ byt B n (blk B n k) = c → Fs pRd M M' → CF B n 1 (blk B n k : Int) M' → Q (vi 0) M') : Call (d + 4) qRe_demandSign [vr 5 0, vi c] M Q X := by
  have hn := h.1.1.2.1
  have hk := h.1.2.2.1
  have hb := blk_le (B := B) hk
  rw [eRe_demandSign, bRe_demandSign_0, c_takeSign h.1.1 h.1.2.1 (by omega)]
  by_cases hw : byt B n (blk B n k) = c
  · have hlt := byt_ne (B := B) (n := n) (k := blk B n k) (by omega)
    rw [if_pos ⟨h.1.2.2.2.1, hw⟩, KV_eq, bRe_demandSign_3, if_pos (by omega), bRe_demandSign_9]
    exact h1 _ hw (Fs.rf.sI (by omega)) (h.at hlt)
  · rw [if_neg (fun z => hw z.2), KV_eq, bRe_demandSign_3, if_neg (by omega), bRe_demandSign_4, sI_eq, c_refuse, KU_eq, bRe_demandSign_9]
    refine h2 _ hw ?_ (h.at hb.2).bad
    unfold rfs; split
    · exact ((Fs.rf.sI (by omega)).sI (by omega)).sI (by omega)
    · exact Fs.rf.sI (by omega)
theorem g_blank {k : Nat} (h : CK B n D T M k) (h1 : Fs pRd M (sI M 5 0 8 ((blk B n k : Nat) : Int)) → CK B n D T (sI M 5 0 8 ((blk B n k : Nat) : Int)) (blk B n k) → Q (vi 0) (sI M 5 0 8 ((blk B n k : Nat) : Int))) : Call (d + 2) qRe_skipBlanks [vr 5 0] M Q X := by
  have hn := h.1.1.2.1
  have hk := h.1.2.2.1
  have hb := blk_le (B := B) hk
  rw [c_skipBlanks h.1.1 h.1.2.1 (by omega)]
  exact h1 (Fs.rf.sI (by omega)) (h.at hb.2)
end
