/-! LAYER 3, THE CLASS READS ON BEHIND A FAULT: nothing is taken any more -/
abbrev pCr (tp t i j : Nat) : Prop := (t = 5 ∧ i = 0 ∧ (j = 1 ∨ j = 8 ∨ j = 9)) ∨ (t = 6 ∧ i = tp ∧ j = 1) ∨ (t = 40 ∧ i = tp)
/-- a reader's state: text, place, which terms -/
def RSt (B : BT) (n tp : Nat) (M : Mem) (k : Nat) : Prop := TC B n M ∧ M.1 5 0 8 = (k : Int) ∧ k ≤ n ∧ M.1 5 0 6 = (tp : Int) ∧ tp < 2 ∧ 0 ≤ M.1 6 tp 1 ∧ M.1 6 tp 1 ≤ 500
theorem RSt.at {B n tp M k k'} (h : RSt B n tp M k) (hk : k' ≤ n) : RSt B n tp (sI M 5 0 8 ((k' : Nat) : Int)) k' := by
  obtain ⟨h1, h2, h3, h4, h5, h6, h7⟩ := h
  exact ⟨h1.at, sI_eq, hk, by rw [sI_ne (by omega)]; exact h4, h5, by rw [sI_ne (by omega)]; exact h6, by rw [sI_ne (by omega)]; exact h7⟩
theorem RSt.bd {B n tp M k} (h : RSt B n tp M k) : k ≤ 1000 ∧ n ≤ 500 := by have := h.1.2.1; have := h.2.2.1; omega
theorem c_put {d : Nat} {M Q X} {tp : Nat} {c : Int} (h0 : 0 ≤ M.1 6 tp 1 ∧ M.1 6 tp 1 ≤ 500) : Call (d + 1) qTe_put [vr 6 tp, vi c] M Q X = Q (vi 0) (if M.1 6 tp 1 < 500 then sI (sI M 40 tp (M.1 6 tp 1).toNat c) 6 tp 1 (M.1 6 tp 1 + 1) else M) := by
  rw [eTe_put, bTe_put_0]
  by_cases h : M.1 6 tp 1 < 500
  · rw [if_neg (by omega), if_pos h, bTe_put_6 (by omega), bTe_put_18, sI_ne (by omega), w32_id (by omega)]
  · rw [if_pos (by omega), if_neg h, bTe_put_18]
/-- behind a fault -/
def FX (B : BT) (n tp : Nat) (a b : Int) (M : Mem) : Prop := (∃ k, RSt B n tp M k) ∧ M.1 5 0 9 = a ∧ M.1 5 0 1 = b
theorem FX.at {B n tp a b M k} (h : FX B n tp a b M) (hk : k ≤ n) : FX B n tp a b (sI M 5 0 8 ((k : Nat) : Int)) := by
  obtain ⟨⟨k0, h1⟩, h2, h3⟩ := h
  exact ⟨⟨k, h1.at hk⟩, by rw [sI_ne (by omega)]; exact h2, by rw [sI_ne (by omega)]; exact h3⟩
theorem FX.put {B n tp a b M c} (h : FX B n tp a b M) : FX B n tp a b (if M.1 6 tp 1 < 500 then sI (sI M 40 tp (M.1 6 tp 1).toNat c) 6 tp 1 (M.1 6 tp 1 + 1) else M) := by
  split
  · obtain ⟨⟨k0, ⟨t1, t2, t3⟩, h2, h3, h4, h5, h6, h7⟩, h8, h9⟩ := h
    refine ⟨⟨k0, ⟨?_, t2, ?_⟩, ?_, h3, ?_, h5, ?_, ?_⟩, ?_, ?_⟩
    · rw [sI_ne (by omega), sI_ne (by omega)]; exact t1
    · intro j hj; rw [sI_ne (by omega), sI_ne (by omega)]; exact t3 j hj
    · rw [sI_ne (by omega), sI_ne (by omega)]; exact h2
    · rw [sI_ne (by omega), sI_ne (by omega)]; exact h4
    · rw [sI_eq]; omega
    · rw [sI_eq]; omega
    · rw [sI_ne (by omega), sI_ne (by omega)]; exact h8
    · rw [sI_ne (by omega), sI_ne (by omega)]; exact h9
  · exact h
theorem fs_put {tp M0 M c} (h : Fs (pCr tp) M0 M) : Fs (pCr tp) M0 (if M.1 6 tp 1 < 500 then sI (sI M 40 tp (M.1 6 tp 1).toNat c) 6 tp 1 (M.1 6 tp 1 + 1) else M) := by
  split
  · exact (h.sI (by omega)).sI (by omega)
  · exact h
section
variable {d : Nat} {B : BT} {n tp : Nat} {M : Mem} {Q : AV → Mem → Prop} {X : Nat → Mem → Prop} {a b : Int}
theorem FX.pos (h : FX B n tp a b M) : ∃ k : Nat, M.1 5 0 8 = (k : Int) ∧ k ≤ 1000 ∧ TC B n M ∧ blk B n k ≤ n := by
  obtain ⟨⟨k, h1⟩, -, -⟩ := h
  have := h1.bd
  exact ⟨k, h1.2.1, this.1, h1.1, (blk_le h1.2.2.1).2⟩
theorem f_sign (ha : a ≠ 0) (h : FX B n tp a b M) {c : Int} (hq : ∀ M', Fs (pCr tp) M M' → FX B n tp a b M' → Q (vi 0) M') : Call (d + 3) qRe_takeSign [vr 5 0, vi c] M Q X := by
  obtain ⟨k, h1, h2, h3, h4⟩ := h.pos
  have h9 := h.2.1
  rw [c_takeSign h3 h1 h2, if_neg (by rw [h9]; exact fun z => ha z.1)]
  exact hq _ (Fs.rf.sI (by omega)) (h.at h4)
theorem f_word (ha : a ≠ 0) (h : FX B n tp a b M) {r : Nat} (hr : 12 ≤ r ∧ r < 28) (hq : ∀ M', Fs (pCr tp) M M' → FX B n tp a b M' → Q (vi 0) M') : Call (d + 3) qRe_takeWord [vr 5 0, vr 11 r] M Q X := by
  obtain ⟨k, h1, h2, h3, h4⟩ := h.pos
  have h9 := h.2.1
  rw [c_takeWord hr h3 h1 h2, if_neg (by rw [h9]; exact fun z => ha z.1)]
  exact hq _ (Fs.rf.sI (by omega)) (h.at h4)
theorem f_blank (h : FX B n tp a b M) (hq : ∀ M', Fs (pCr tp) M M' → FX B n tp a b M' → Q (vi 0) M') : Call (d + 2) qRe_skipBlanks [vr 5 0] M Q X := by
  obtain ⟨k, h1, h2, h3, h4⟩ := h.pos
  rw [c_skipBlanks h3 h1 h2]
  exact hq _ (Fs.rf.sI (by omega)) (h.at h4)
theorem rfs_no {M : Mem} {x y : Int} (h : M.1 5 0 9 ≠ 0) : rfs M x y = M := by unfold rfs; rw [if_neg h]
theorem f_demand (ha : a ≠ 0) (h : FX B n tp a b M) {c : Int} (hq : ∀ M', Fs (pCr tp) M M' → FX B n tp a b M' → Q (vi 0) M') : Call (d + 4) qRe_demandSign [vr 5 0, vi c] M Q X := by
  rw [eRe_demandSign, bRe_demandSign_0]
  refine f_sign ha h ?_
  intro M' f1 x1
  rw [KV_eq, bRe_demandSign_3, if_neg (by omega), bRe_demandSign_4, c_refuse, KU_eq, bRe_demandSign_9, rfs_no (by rw [x1.2.1]; exact ha)]
  exact hq M' f1 x1
theorem f_demandW (ha : a ≠ 0) (h : FX B n tp a b M) {r : Nat} (hr : 12 ≤ r ∧ r < 28) (hq : ∀ M', Fs (pCr tp) M M' → FX B n tp a b M' → Q (vi 0) M') : Call (d + 4) qRe_demandWord [vr 5 0, vr 11 r] M Q X := by
  rw [eRe_demandWord, bRe_demandWord_0]
  refine f_word ha h hr ?_
  intro M' f1 x1
  rw [KV_eq, bRe_demandWord_3, if_neg (by omega), bRe_demandWord_4, c_refuse, KU_eq, bRe_demandWord_9, rfs_no (by rw [x1.2.1]; exact ha)]
  exact hq M' f1 x1
theorem f_number (ha : a ≠ 0) (h : FX B n tp a b M) {lo hi : Int} (hq : ∀ M' v, Fs (pCr tp) M M' → FX B n tp a b M' → (0 ≤ v ∧ v ≤ 10000) → Q (vi v) M') : Call (d + 3) qRe_number [vr 5 0, vi lo, vi hi] M Q X := by
  obtain ⟨k, h1, h2, h3, h4⟩ := h.pos
  have h9 := h.2.1
  have hd := dge_le (B := B) h4
  have e : ∀ x y, rfs (sI M 5 0 8 ((dge B n (blk B n k) : Nat) : Int)) x y = sI M 5 0 8 ((dge B n (blk B n k) : Nat) : Int) := fun x y => rfs_no (by rw [sI_ne (by omega), h9]; exact ha)
  have hv := nvl_ge (B := B) (n := n) (blk B n k) 0 (by omega)
  rw [c_number h3 h1 h2, e, e, ite_self, ite_self]
  exact hq _ _ (Fs.rf.sI (by omega)) (h.at hd.2) (by unfold lid; split <;> omega)
theorem f_unit (ha : a ≠ 0) (h : FX B n tp a b M) {o : Int} (hq : ∀ M', Fs (pCr tp) M M' → FX B n tp a b M' → Q (vi 0) M') : Call (d + 4) qRe_readUnit [vr 5 0, vi o] M Q X := by
  rw [eRe_readUnit, bRe_readUnit_0]
  refine f_blank h ?_
  intro M1 f1 x1
  rw [KU_eq, bRe_readUnit_2]
  refine f_sign ha x1 ?_
  intro M2 f2 x2
  rw [KV_eq, bRe_readUnit_8, if_pos rfl, bRe_readUnit_23]
  refine f_word ha x2 (by omega) ?_
  intro M3 f3 x3
  rw [KV_eq, bRe_readUnit_26, if_pos rfl, bRe_readUnit_32]
  refine f_word ha x3 (by omega) ?_
  intro M4 f4 x4
  rw [KV_eq, bRe_readUnit_35, if_pos rfl, bRe_readUnit_41]
  refine f_word ha x4 (by omega) ?_
  intro M5 f5 x5
  rw [KV_eq, bRe_readUnit_44, if_pos rfl, bRe_readUnit_50]
  obtain ⟨k5, q5⟩ := x5.1
  have htp : (M5.1 5 0 6).toNat = tp := by rw [q5.2.2.2.1]; omega
  rw [htp]
  refine f_number ha x5 ?_
  intro M6 v f6 x6 hv
  obtain ⟨k6, q6⟩ := x6.1
  rw [KV_eq, bRe_readUnit_56, c_put ⟨q6.2.2.2.2.2.1, q6.2.2.2.2.2.2⟩, KU_eq, bRe_readUnit_57]
  exact hq _ (fs_put (((((f1.tr f2).tr f3).tr f4).tr f5).tr f6)) x6.put
theorem f_product (ha : a ≠ 0) (h : FX B n tp a b M) {o : Int} (hq : ∀ M', Fs (pCr tp) M M' → FX B n tp a b M' → Q (vi 0) M') : Call (d + 5) qRe_readProduct [vr 5 0, vi o] M Q X := by
  rw [eRe_readProduct, bRe_readProduct_0]
  refine f_unit ha h ?_
  intro M1 f1 x1
  rw [KU_eq, bRe_readProduct_3, bRe_readProduct_5, if_neg (by omega), bRe_readProduct_8]
  refine f_sign ha x1 ?_
  intro M2 f2 x2
  rw [KV_eq, bRe_readProduct_11, if_pos rfl, bRe_readProduct_21]
  exact hq M2 (f1.tr f2) x2
theorem f_sum (ha : a ≠ 0) (h : FX B n tp a b M) {o : Int} (hq : ∀ M', Fs (pCr tp) M M' → FX B n tp a b M' → Q (vi 0) M') : Call (d + 6) qRe_readSum [vr 5 0, vi o] M Q X := by
  rw [eRe_readSum, bRe_readSum_0]
  refine f_product ha h ?_
  intro M1 f1 x1
  rw [KU_eq, bRe_readSum_3, bRe_readSum_5, if_neg (by omega), bRe_readSum_8]
  refine f_sign ha x1 ?_
  intro M2 f2 x2
  rw [KV_eq, bRe_readSum_11, if_pos rfl, bRe_readSum_20]
  refine f_sign ha x2 ?_
  intro M3 f3 x3
  rw [KV_eq, bRe_readSum_23, if_pos rfl, bRe_readSum_32]
  exact hq M3 ((f1.tr f2).tr f3) x3
theorem f_rel (ha : a ≠ 0) (h : FX B n tp a b M) (hq : ∀ M', Fs (pCr tp) M M' → FX B n tp a b M' → Q (vi (-9)) M') : Call (d + 5) qRe_takeRelation [vr 5 0] M Q X := by
  rw [eRe_takeRelation, bRe_takeRelation_0]
  refine f_sign ha h ?_
  intro M1 f1 x1
  rw [KV_eq, bRe_takeRelation_3, if_pos rfl, bRe_takeRelation_6]
  refine f_sign ha x1 ?_
  intro M2 f2 x2
  rw [KV_eq, bRe_takeRelation_9, if_pos rfl, bRe_takeRelation_12]
  refine f_demand ha x2 ?_
  intro M3 f3 x3
  rw [KU_eq, bRe_takeRelation_15]
  exact hq M3 ((f1.tr f2).tr f3) x3
theorem f_check (ha : a ≠ 0) (h : FX B n tp a b M) {o : Int} (hq : ∀ M', Fs (pCr tp) M M' → FX B n tp a b M' → Q (vi 0) M') : Call (d + 7) qRe_readCheck [vr 5 0, vi o] M Q X := by
  rw [eRe_readCheck, bRe_readCheck_0]
  refine f_blank h ?_
  intro M1 f1 x1
  rw [KU_eq, bRe_readCheck_2]
  refine f_word ha x1 (by omega) ?_
  intro M2 f2 x2
  rw [KV_eq, bRe_readCheck_8, if_pos rfl, bRe_readCheck_24]
  refine f_sign ha x2 ?_
  intro M3 f3 x3
  rw [KV_eq, bRe_readCheck_27, if_pos rfl, bRe_readCheck_42]
  refine f_sum ha x3 ?_
  intro M4 f4 x4
  rw [KU_eq, bRe_readCheck_45]
  refine f_rel ha x4 ?_
  intro M5 f5 x5
  rw [KV_eq, bRe_readCheck_47]
  refine f_sum ha x5 ?_
  intro M6 f6 x6
  obtain ⟨k6, q6⟩ := x6.1
  have htp : (M6.1 5 0 6).toNat = tp := by rw [q6.2.2.2.1]; omega
  rw [KU_eq, bRe_readCheck_51, htp, c_put ⟨q6.2.2.2.2.2.1, q6.2.2.2.2.2.2⟩, KU_eq, bRe_readCheck_55]
  exact hq _ (fs_put (((((f1.tr f2).tr f3).tr f4).tr f5).tr f6)) x6.put
theorem f_both (ha : a ≠ 0) (h : FX B n tp a b M) {o : Int} (hq : ∀ M', Fs (pCr tp) M M' → FX B n tp a b M' → Q (vi 0) M') : Call (d + 8) qRe_readBoth [vr 5 0, vi o] M Q X := by
  rw [eRe_readBoth, bRe_readBoth_0]
  refine f_check ha h ?_
  intro M1 f1 x1
  rw [KU_eq, bRe_readBoth_3, bRe_readBoth_5, if_neg (by omega), bRe_readBoth_8]
  refine f_word ha x1 (by omega) ?_
  intro M2 f2 x2
  rw [KV_eq, bRe_readBoth_11, if_pos rfl, bRe_readBoth_21]
  exact hq M2 (f1.tr f2) x2
theorem f_choice (ha : a ≠ 0) (h : FX B n tp a b M) {o : Int} (hq : ∀ M', Fs (pCr tp) M M' → FX B n tp a b M' → Q (vi 0) M') : Call (d + 9) qRe_readChoice [vr 5 0, vi o] M Q X := by
  rw [eRe_readChoice, bRe_readChoice_0]
  refine f_both ha h ?_
  intro M1 f1 x1
  rw [KU_eq, bRe_readChoice_3, bRe_readChoice_5, if_neg (by omega), bRe_readChoice_8]
  refine f_word ha x1 (by omega) ?_
  intro M2 f2 x2
  rw [KV_eq, bRe_readChoice_11, if_pos rfl, bRe_readChoice_21]
  exact hq M2 (f1.tr f2) x2
end
