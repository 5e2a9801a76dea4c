/-! LAYER 3, THE CLASS READS A CONDITION -/
theorem px_f (B : BT) (n : Nat) : ∀ (f kd o k : Nat) (r : Rd) (e : Int × Int), px B n f kd o k r = .inl e → 1 ≤ e.1 := by
  intro f
  induction f with
  | zero => intro kd o k r e h; cases h; decide
  | succ f ih =>
    intro kd o k r e h
    match kd, h with
    | 0, h =>
      rw [px_0] at h
      repeat' split at h
      all_goals first | (cases h; done) | exact ih _ _ _ _ _ h | (cases h; exact ih _ _ _ _ _ (by assumption)) | (cases h; simp; done)
    | 1, h =>
      rw [px_1] at h
      repeat' split at h
      all_goals first | (cases h; done) | exact ih _ _ _ _ _ h | (cases h; exact ih _ _ _ _ _ (by assumption)) | (cases h; simp; done)
    | 2, h =>
      rw [px_2] at h
      repeat' split at h
      all_goals first | (cases h; done) | exact ih _ _ _ _ _ h | (cases h; exact ih _ _ _ _ _ (by assumption)) | (cases h; simp; done)
    | 3, h =>
      rw [px_3] at h
      repeat' split at h
      all_goals first | (cases h; done) | exact ih _ _ _ _ _ h | (cases h; exact ih _ _ _ _ _ (by assumption)) | (cases h; simp; done)
    | 4, h =>
      rw [px_4] at h
      repeat' split at h
      all_goals first | (cases h; done) | exact ih _ _ _ _ _ h | (cases h; exact ih _ _ _ _ _ (by assumption)) | (cases h; simp; done)
    | 5, h =>
      rw [px_5] at h
      repeat' split at h
      all_goals first | (cases h; done) | exact ih _ _ _ _ _ h | (cases h; exact ih _ _ _ _ _ (by assumption)) | (cases h; simp; done)
    | 6, h =>
      rw [px_6] at h
      repeat' split at h
      all_goals first | (cases h; done) | exact ih _ _ _ _ _ h | (cases h; exact ih _ _ _ _ _ (by assumption)) | (cases h; simp; done)
    | 7, h =>
      rw [px_7] at h
      repeat' split at h
      all_goals first | (cases h; done) | exact ih _ _ _ _ _ h | (cases h; exact ih _ _ _ _ _ (by assumption)) | (cases h; simp; done)
    | 8, h =>
      rw [px_8] at h
      repeat' split at h
      all_goals first | (cases h; done) | exact ih _ _ _ _ _ h | (cases h; exact ih _ _ _ _ _ (by assumption)) | (cases h; simp; done)
    | 9, h =>
      rw [px_9] at h
      repeat' split at h
      all_goals first | (cases h; done) | exact ih _ _ _ _ _ h | (cases h; exact ih _ _ _ _ _ (by assumption)) | (cases h; simp; done)
    | kd + 10, h => unfold px at h; cases h; simp
/-- codes as they stand in the terms -/
def Hc (tp : Nat) (M : Mem) (s : Nat) (cs : List Int) : Prop := ∀ j : Nat, j < cs.length → M.1 40 tp (s + j) = cs.getD j 0
theorem Hc.app {tp M s a b} (ha : Hc tp M s a) (hb : Hc tp M (s + a.length) b) : Hc tp M s (a ++ b) := by
  intro j hj
  rw [List.length_append] at hj
  by_cases h : j < a.length
  · rw [ha j h, List.getD_eq_getElem?_getD, List.getD_eq_getElem?_getD, List.getElem?_append_left h]
  · have := hb (j - a.length) (by omega)
    rw [show s + a.length + (j - a.length) = s + j by omega] at this
    rw [this, List.getD_eq_getElem?_getD, List.getD_eq_getElem?_getD, List.getElem?_append_right (by omega)]
theorem Hc.fr {tp M M' s cs} (h : Hc tp M s cs) (hf : ∀ j, j < s + cs.length → M'.1 40 tp j = M.1 40 tp j) : Hc tp M' s cs := fun j hj => by rw [hf (s + j) (by omega)]; exact h j hj
/-- a reading in the class's memory -/
def Out (B : BT) (n tp : Nat) (M : Mem) (sz : Nat) (res : PRs) (M' : Mem) : Prop := Fs (pCr tp) M M' ∧ match res with
  | .inl e => FX B n tp e.1 e.2 M'
  | .inr (r, k') => RSt B n tp M' k' ∧ M'.1 5 0 9 = 0 ∧ M'.1 5 0 1 = M.1 5 0 1 ∧ M'.1 6 tp 1 = (sz : Int) + r.1.length ∧ Hc tp M' sz r.1 ∧ (∀ j : Nat, j < sz → M'.1 40 tp j = M.1 40 tp j)
/-- before a reading -/
def Inn (B : BT) (n tp : Nat) (M : Mem) (sz k : Nat) (cs : List Int) : Prop := RSt B n tp M k ∧ M.1 5 0 9 = 0 ∧ M.1 6 tp 1 = (sz : Int) + cs.length ∧ Hc tp M sz cs
theorem Inn.tp {B n tp M sz k cs} (h : Inn B n tp M sz k cs) : (M.1 5 0 6).toNat = tp := by rw [h.1.2.2.2.1]; omega
theorem Inn.at {B n tp M sz k cs k'} (h : Inn B n tp M sz k cs) (hk : k' ≤ n) : Inn B n tp (sI M 5 0 8 ((k' : Nat) : Int)) sz k' cs :=
  ⟨h.1.at hk, by rw [sI_ne (by omega)]; exact h.2.1, by rw [sI_ne (by omega)]; exact h.2.2.1, h.2.2.2.fr (fun j _ => by rw [sI_ne (by omega)])⟩
theorem Inn.put {B n tp M sz k cs c} (h : Inn B n tp M sz k cs) (hc : sz + cs.length < 500) : M.1 6 tp 1 < 500 ∧ Inn B n tp (sI (sI M 40 tp (M.1 6 tp 1).toNat c) 6 tp 1 (M.1 6 tp 1 + 1)) sz k (cs ++ [c]) := by
  obtain ⟨⟨⟨t1, t2, t3⟩, h2, h3, h4, h5, h6, h7⟩, h8, h9, h10⟩ := h
  refine ⟨by omega, ⟨⟨?_, t2, ?_⟩, ?_, h3, ?_, h5, ?_, ?_⟩, ?_, ?_, ?_⟩
  · rw [sI_ne (by omega), sI_ne (by omega)]; exact t1
  · intro j hj; rw [sI_ne (by omega), sI_ne (by omega)]; exact t3 j hj
  · rw [sI_ne (by omega), sI_ne (by omega)]; exact h2
  · rw [sI_ne (by omega), sI_ne (by omega)]; exact h4
  · rw [sI_eq]; omega
  · rw [sI_eq]; omega
  · rw [sI_ne (by omega), sI_ne (by omega)]; exact h8
  · rw [sI_eq, h9]; simp only [List.length_append, List.length_cons, List.length_nil]; omega
  · refine Hc.app (h10.fr (fun j hj => by rw [sI_ne (by omega), sI_ne (by omega)])) ?_
    intro j hj
    have : j = 0 := by simp at hj; exact hj
    subst this
    rw [sI_ne (by omega), show sz + cs.length + 0 = (M.1 6 tp 1).toNat by omega, sI_eq]; rfl
/-- what stays below -/
theorem below_put {tp M c} {sz : Nat} {j : Nat} (h : (sz : Int) ≤ M.1 6 tp 1) (hj : j < sz) : (sI (sI M 40 tp (M.1 6 tp 1).toNat c) 6 tp 1 (M.1 6 tp 1 + 1)).1 40 tp j = M.1 40 tp j := by
  rw [sI_ne (by omega), sI_ne (by omega)]
theorem FX.of_rfs {B n tp M k} {a b : Int} (h : RSt B n tp M k) (h9 : M.1 5 0 9 = 0) : FX B n tp a b (rfs M a b) := by
  unfold rfs
  rw [if_pos h9]
  obtain ⟨⟨t1, t2, t3⟩, h2, h3, h4, h5, h6, h7⟩ := h
  refine ⟨⟨k, ⟨?_, t2, ?_⟩, ?_, h3, ?_, h5, ?_, ?_⟩, ?_, ?_⟩
  · rw [sI_ne (by omega), sI_ne (by omega)]; exact t1
  · intro j hj; rw [sI_ne (by omega), sI_ne (by omega)]; exact t3 j hj
  · rw [sI_ne (by omega), sI_ne (by omega)]; exact h2
  · rw [sI_ne (by omega), sI_ne (by omega)]; exact h4
  · rw [sI_ne (by omega), sI_ne (by omega)]; exact h6
  · rw [sI_ne (by omega), sI_ne (by omega)]; exact h7
  · rw [sI_ne (by omega), sI_eq]
  · rw [sI_eq]
theorem fs_rfs {tp M0 M a b} (h : Fs (pCr tp) M0 M) : Fs (pCr tp) M0 (rfs M a b) := by
  unfold rfs; split
  · exact (h.sI (by omega)).sI (by omega)
  · exact h
section
variable {d : Nat} {B : BT} {n tp : Nat} {M : Mem} {Q : AV → Mem → Prop} {X : Nat → Mem → Prop}
/-- a closing sign is demanded behind a reading -/
theorem g_demand {sz k : Nat} {cs : List Int} {c : Int} (h : Inn B n tp M sz k cs) (hc : c ≠ -1)
    (hq : ∀ M', Fs (pCr tp) M M' → (if byt B n (blk B n k) = c then Inn B n tp M' sz (blk B n k + 1) cs ∧ M' = sI M 5 0 8 ((blk B n k + 1 : Nat) : Int) else FX B n tp 1 (blk B n k : Int) M') → Q (vi 0) M') : Call (d + 4) qRe_demandSign [vr 5 0, vi c] M Q X := by
  have hbd := h.1.bd
  have hb := blk_le (B := B) h.1.2.2.1
  rw [eRe_demandSign, bRe_demandSign_0, c_takeSign h.1.1 h.1.2.1 hbd.1]
  by_cases hc1 : byt B n (blk B n k) = c
  · have hlt := byt_ne (B := B) (n := n) (k := blk B n k) (by omega)
    rw [if_pos ⟨h.2.1, hc1⟩, KV_eq, bRe_demandSign_3, if_pos (by omega), bRe_demandSign_9]
    refine hq _ (Fs.rf.sI (by omega)) ?_
    rw [if_pos hc1]
    exact ⟨h.at hlt, rfl⟩
  · rw [if_neg (fun z => hc1 z.2), KV_eq, bRe_demandSign_3, if_neg (by omega), bRe_demandSign_4, sI_eq, c_refuse, KU_eq, bRe_demandSign_9]
    refine hq _ (fs_rfs (Fs.rf.sI (by omega))) ?_
    rw [if_neg hc1]
    exact FX.of_rfs (h.at hb.2).1 (h.at hb.2).2.1
theorem lf_product {a b : Int} {o i : Int} (ha : a ≠ 0) (h : FX B n tp a b M) (hq : ∀ M', Fs (pCr tp) M M' → FX B n tp a b M' → Q (vi 0) M') : At (d + 3) kRe_readProduct 5 [vr 5 0, vi o, vi i] [] M Q X := by
  rw [bRe_readProduct_5]
  split
  · rw [bRe_readProduct_21]; exact hq M Fs.rf h
  · rw [bRe_readProduct_8]
    refine f_sign ha h ?_
    intro M2 f2 x2
    rw [KV_eq, bRe_readProduct_11, if_pos rfl, bRe_readProduct_21]
    exact hq M2 f2 x2
theorem lf_sum {a b : Int} {o i : Int} (ha : a ≠ 0) (h : FX B n tp a b M) (hq : ∀ M', Fs (pCr tp) M M' → FX B n tp a b M' → Q (vi 0) M') : At (d + 3) kRe_readSum 5 [vr 5 0, vi o, vi i] [] M Q X := by
  rw [bRe_readSum_5]
  split
  · rw [bRe_readSum_35]; exact hq M Fs.rf h
  · rw [bRe_readSum_8]
    refine f_sign ha h ?_
    intro M2 f2 x2
    rw [KV_eq, bRe_readSum_11, if_pos rfl, bRe_readSum_20]
    refine f_sign ha x2 ?_
    intro M3 f3 x3
    rw [KV_eq, bRe_readSum_23, if_pos rfl, bRe_readSum_32]
    exact hq M3 (f2.tr f3) x3
theorem lf_both {a b : Int} {o i : Int} (ha : a ≠ 0) (h : FX B n tp a b M) (hq : ∀ M', Fs (pCr tp) M M' → FX B n tp a b M' → Q (vi 0) M') : At (d + 3) kRe_readBoth 5 [vr 5 0, vi o, vi i] [] M Q X := by
  rw [bRe_readBoth_5]
  split
  · rw [bRe_readBoth_21]; exact hq M Fs.rf h
  · rw [bRe_readBoth_8]
    refine f_word ha h (by omega) ?_
    intro M2 f2 x2
    rw [KV_eq, bRe_readBoth_11, if_pos rfl, bRe_readBoth_21]
    exact hq M2 f2 x2
theorem lf_choice {a b : Int} {o i : Int} (ha : a ≠ 0) (h : FX B n tp a b M) (hq : ∀ M', Fs (pCr tp) M M' → FX B n tp a b M' → Q (vi 0) M') : At (d + 3) kRe_readChoice 5 [vr 5 0, vi o, vi i] [] M Q X := by
  rw [bRe_readChoice_5]
  split
  · rw [bRe_readChoice_21]; exact hq M Fs.rf h
  · rw [bRe_readChoice_8]
    refine f_word ha h (by omega) ?_
    intro M2 f2 x2
    rw [KV_eq, bRe_readChoice_11, if_pos rfl, bRe_readChoice_21]
    exact hq M2 f2 x2
end
