/-! LAYER 3, THE REFERENCE READS A CONDITION -/
abbrev pMr (t i j : Nat) : Prop := t = 10 ∧ i = 0 ∧ (j = 4 ∨ j = 5 ∨ j = 6 ∨ j = 7)
def MSt (B : BT) (n : Nat) (M : Mem) (k o : Nat) : Prop := TM B n M ∧ M.1 10 0 4 = (k : Int) ∧ k ≤ n ∧ M.1 10 0 6 = 0 ∧ M.1 10 0 5 = (o : Int)
def FMx (B : BT) (n c : Nat) (a b : Int) (o : Nat) (M : Mem) : Prop := TM B n M ∧ (∃ k : Nat, M.1 10 0 4 = (k : Int) ∧ k ≤ c) ∧ M.1 10 0 6 = a ∧ M.1 10 0 7 = b ∧ M.1 10 0 5 = (o : Int)
theorem MSt.at {B n M k o k'} (h : MSt B n M k o) (hk : k' ≤ n) : MSt B n (sI M 10 0 4 ((k' : Nat) : Int)) k' o :=
  ⟨h.1.at (by omega), sI_eq, hk, by rw [sI_ne (by omega)]; exact h.2.2.2.1, by rw [sI_ne (by omega)]; exact h.2.2.2.2⟩
theorem MSt.op {B n M k o o'} (h : MSt B n M k o) : MSt B n (sI M 10 0 5 ((o' : Nat) : Int)) k o' :=
  ⟨h.1.at (by omega), by rw [sI_ne (by omega)]; exact h.2.1, h.2.2.1, by rw [sI_ne (by omega)]; exact h.2.2.2.1, sI_eq⟩
theorem FMx.at {B n c a b o M k} (h : FMx B n c a b o M) (hk : k ≤ c) : FMx B n c a b o (sI M 10 0 4 ((k : Nat) : Int)) :=
  ⟨h.1.at (by omega), ⟨k, sI_eq, hk⟩, by rw [sI_ne (by omega)]; exact h.2.2.1, by rw [sI_ne (by omega)]; exact h.2.2.2.1, by rw [sI_ne (by omega)]; exact h.2.2.2.2⟩
theorem FMx.op {B n c a b o o' M} (h : FMx B n c a b o M) : FMx B n c a b o' (sI M 10 0 5 ((o' : Nat) : Int)) :=
  ⟨h.1.at (by omega), by obtain ⟨k, q1, q2⟩ := h.2.1; exact ⟨k, by rw [sI_ne (by omega)]; exact q1, q2⟩, by rw [sI_ne (by omega)]; exact h.2.2.1, by rw [sI_ne (by omega)]; exact h.2.2.2.1, sI_eq⟩
theorem FMx.up {B n c c' a b o M} (h : FMx B n c a b o M) (hc : c ≤ c') : FMx B n c' a b o M := ⟨h.1, by obtain ⟨k, q1, q2⟩ := h.2.1; exact ⟨k, q1, by omega⟩, h.2.2⟩
theorem FMx.of_wrs {B n M k o} {a b : Int} {c : Nat} (h : MSt B n M k o) (hc : n ≤ c) : FMx B n c a b o (wrs M a b) := by
  obtain ⟨h1, h2, h3, h4, h5⟩ := h
  unfold wrs
  rw [if_pos h4]
  refine ⟨(h1.at (by omega)).at (by omega), ⟨k, by rw [sI_ne (by omega), sI_ne (by omega)]; exact h2, by omega⟩, ?_, sI_eq, ?_⟩
  · rw [sI_ne (by omega), sI_eq]
  · rw [sI_ne (by omega), sI_ne (by omega)]; exact h5
theorem wrs_no {M : Mem} {x y : Int} (h : M.1 10 0 6 ≠ 0) : wrs M x y = M := by unfold wrs; rw [if_neg h]
theorem fs_wrs {M0 M a b} (h : Fs pMr M0 M) : Fs pMr M0 (wrs M a b) := by
  unfold wrs; split
  · exact (h.sI (by omega)).sI (by omega)
  · exact h
section
variable {d : Nat} {B : BT} {n c o : Nat} {M : Mem} {Q : AV → Mem → Prop} {X : Nat → Mem → Prop} {a b : Int}
theorem FMx.bl (h : FMx B n c a b o M) (hc : n ≤ c ∧ c ≤ 1000) : Call (d + 2) qMo_blanks [vr 10 0] M Q X = Q (vi 0) (sI M 10 0 4 ((blk B n (M.1 10 0 4).toNat : Nat) : Int)) ∧ blk B n (M.1 10 0 4).toNat ≤ c := by
  obtain ⟨k, q1, q2⟩ := h.2.1
  have := blk_mx (B := B) (n := n) (k := k)
  rw [q1, show (k : Int).toNat = k by omega]
  exact ⟨m_blanks h.1 q1 (by omega), by omega⟩
theorem fm_unit (ha : a ≠ 0) (h : FMx B n c a b o M) (hq : Q (vi 0) M) : Call (d + 1) qMo_unit [vr 10 0] M Q X := by
  rw [eMo_unit, bMo_unit_0, if_neg (by rw [h.2.2.1]; exact ha), bMo_unit_3]; exact hq
theorem fm_product (ha : a ≠ 0) (h : FMx B n c a b o M) (hc : n ≤ c ∧ c ≤ 1000) (hq : ∀ M', Fs pMr M M' → FMx B n c a b o M' → Q (vi 0) M') : Call (d + 3) qMo_product [vr 10 0] M Q X := by
  rw [eMo_product, bMo_product_0]
  refine fm_unit ha h ?_
  obtain ⟨e, hk⟩ := h.bl (d := d) (Q := KU (d + 2) kMo_product 5 [vr 10 0, vi 0] [] Q X) (X := X) hc
  have h1 := h.at hk
  rw [KV_eq, bMo_product_2, e, KU_eq, bMo_product_5, if_pos (by rw [h1.2.2.1]; exact ha), bMo_product_28]
  exact hq _ (Fs.rf.sI (by omega)) h1
theorem fm_sum (ha : a ≠ 0) (h : FMx B n c a b o M) (hc : n ≤ c ∧ c ≤ 1000) (hq : ∀ M', Fs pMr M M' → FMx B n c a b o M' → Q (vi 0) M') : Call (d + 4) qMo_sum [vr 10 0] M Q X := by
  rw [eMo_sum, bMo_sum_0]
  refine fm_product ha h hc ?_
  intro M1 f1 x1
  obtain ⟨e, hk⟩ := x1.bl (d := d + 1) (Q := KU (d + 3) kMo_sum 5 [vr 10 0, vi 0, JK, JK] [] Q X) (X := X) hc
  have h1 := x1.at hk
  rw [KV_eq, bMo_sum_2, e, KU_eq, bMo_sum_5, if_pos (by rw [h1.2.2.1]; exact ha), bMo_sum_48]
  exact hq _ (f1.sI (by omega)) h1
theorem fm_test (ha : a ≠ 0) (h : FMx B n c a b o M) (hq : Q (vi 0) M) : Call (d + 1) qMo_test [vr 10 0] M Q X := by
  rw [eMo_test, bMo_test_0, if_neg (by rw [h.2.2.1]; exact ha), bMo_test_3]; exact hq
theorem fm_ands (ha : a ≠ 0) (h : FMx B n c a b o M) (hq : Q (vi 0) M) : Call (d + 2) qMo_ands [vr 10 0] M Q X := by
  rw [eMo_ands, bMo_ands_0]
  refine fm_test ha h ?_
  rw [KV_eq, bMo_ands_2, bMo_ands_3, if_pos (by rw [h.2.2.1]; exact ha), bMo_ands_29]; exact hq
theorem fm_ors (ha : a ≠ 0) (h : FMx B n c a b o M) (hq : Q (vi 0) M) : Call (d + 3) qMo_ors [vr 10 0] M Q X := by
  rw [eMo_ors, bMo_ors_0]
  refine fm_ands ha h ?_
  rw [KV_eq, bMo_ors_2, bMo_ors_3, if_pos (by rw [h.2.2.1]; exact ha), bMo_ors_29]; exact hq
theorem fm_sign (ha : a ≠ 0) (h : FMx B n c a b o M) (hc : n ≤ c ∧ c ≤ 1000) {s : Int} (hs : s ≠ -1) (hq : ∀ M', Fs pMr M M' → FMx B n c a b o M' → Q (vi 0) M') : Call (d + 3) qMo_sign [vr 10 0, vi s] M Q X := by
  obtain ⟨k, q1, q2⟩ := h.2.1
  have hb := blk_mx (B := B) (n := n) (k := k)
  rw [m_sign h.1 q1 (by omega)]
  by_cases hsb : byt B n (blk B n k) = s
  · have hlt := byt_ne (B := B) (n := n) (k := blk B n k) (by omega)
    rw [if_pos hsb]
    exact hq _ (Fs.rf.sI (by omega)) (h.at (by omega))
  · have h1 := h.at (k := blk B n k) (by omega)
    rw [if_neg hsb, wrs_no (by rw [h1.2.2.1]; exact ha)]
    exact hq _ (Fs.rf.sI (by omega)) h1
end
def OutM (B : BT) (n c o : Nat) (M : Mem) (res : PRs) (M' : Mem) (v : Int) : Prop := Fs pMr M M' ∧ match res with
  | .inl e => FMx B n c e.1 e.2 o M'
  | .inr (r, k') => MSt B n M' k' o ∧ M'.1 10 0 7 = M.1 10 0 7 ∧ v = r.2 (M.1 10 0 38) (M.1 10 0 39) (M.1 10 0 40)
def McP (B : BT) (n c : Nat) (q kd o k : Nat) (res : PRs) : Prop := ∀ (M : Mem) (Q : AV → Mem → Prop) (X : Nat → Mem → Prop), MSt B n M k o → (∀ M' v, OutM B n c o M res M' v → Q (vi v) M') → Call (dp kd o) q [vr 10 0] M Q X
theorem fs_env {M M'} (h : Fs pMr M M') : M'.1 10 0 38 = M.1 10 0 38 ∧ M'.1 10 0 39 = M.1 10 0 39 ∧ M'.1 10 0 40 = M.1 10 0 40 := ⟨h.g1 10 0 38 (fun z => by omega), h.g1 10 0 39 (fun z => by omega), h.g1 10 0 40 (fun z => by omega)⟩
theorem m_opens {d : Nat} {M : Mem} {Q : AV → Mem → Prop} {X : Nat → Mem → Prop} {B : BT} {n k o : Nat} {s : Nat} (h : MSt B n M k o) (ho : o ≤ 6) (hs : s ≤ 3) (hn : n ≤ 500) :
    Call (d + 2) qMo_opens [vr 10 0, vi (s : Int)] M Q X = Q (vi 0) (if o = 6 then sI (sI (wrs M 3 (k : Int)) 10 0 5 ((o + 1 : Nat) : Int)) 10 0 4 ((k + s : Nat) : Int) else sI (sI M 10 0 5 ((o + 1 : Nat) : Int)) 10 0 4 ((k + s : Nat) : Int)) := by
  obtain ⟨h1, h2, h3, h4, h5⟩ := h
  have w5 : (wrs M 3 (k : Int)).1 10 0 5 = (o : Int) := by unfold wrs; rw [if_pos h4, sI_ne (by omega), sI_ne (by omega), h5]
  have w4 : (wrs M 3 (k : Int)).1 10 0 4 = (k : Int) := by unfold wrs; rw [if_pos h4, sI_ne (by omega), sI_ne (by omega), h2]
  rw [eMo_opens, bMo_opens_0, h5]
  by_cases h6 : o = 6
  · rw [if_neg (by omega), if_pos h6, bMo_opens_4, h2, m_wrong, KU_eq, bMo_opens_9, w5, sI_ne (by omega), w4, w32_id (by omega), w32_id (by omega)]
    congr 2
  · rw [if_pos (by omega), if_neg h6, bMo_opens_9, h5, sI_ne (by omega), h2, w32_id (by omega), w32_id (by omega)]
    congr 2
theorem wOwn : mwd 15 23 14 0 0 0 = encW (fun j => (wd 25).getD j 0) (wd 25).length := by decide
theorem wNext : mwd 14 5 24 20 0 0 = encW (fun j => (wd 26).getD j 0) (wd 26).length := by decide
theorem wWeek : mwd 23 5 5 11 0 0 = encW (fun j => (wd 27).getD j 0) (wd 27).length := by decide
theorem wNot : mwd 14 15 20 0 0 0 = encW (fun j => (wd 24).getD j 0) (wd 24).length := by decide
theorem wAnd : mwd 1 14 4 0 0 0 = encW (fun j => (wd 23).getD j 0) (wd 23).length := by decide
theorem wOr : mwd 15 18 0 0 0 0 = encW (fun j => (wd 22).getD j 0) (wd 22).length := by decide
theorem isW_first {B : BT} {n k r : Nat} (hr : 12 ≤ r ∧ r < 28) (h : isW B n k (wd r)) : 97 ≤ byt B n k ∧ byt B n k ≤ 122 := by
  obtain ⟨a, b⟩ := wd_ok r hr.2 hr.1
  have := h.2 0 (by omega)
  have := (b 0 (by omega)).2
  rw [Nat.add_zero] at *
  omega
theorem isW_two {B : BT} {n k r r' : Nat} (h : isW B n k (wd r)) (h' : isW B n k (wd r')) (hl : (wd r).length ≠ (wd r').length ∨ (wd r).getD 0 0 ≠ (wd r').getD 0 0) (hp : 0 < (wd r).length ∧ 0 < (wd r').length) : False := by
  rcases hl with hl | hl
  · have := h.1; have := h'.1; omega
  · have a := h.2 0 hp.1; have b := h'.2 0 hp.2
    exact hl (a.symm.trans b)
