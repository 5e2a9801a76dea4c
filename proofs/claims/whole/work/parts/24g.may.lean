/-! LAYER 3, THE REFERENCE: what may be done -/
/-- nothing has changed but where P says, slot by slot -/
def Fs (P : Nat → Nat → Nat → Prop) (M M' : Mem) : Prop := ∀ t i j, ¬ P t i j → M'.1 t i j = M.1 t i j ∧ M'.2 t i j = M.2 t i j
theorem Fs.rf {P M} : Fs P M M := fun _ _ _ _ => ⟨rfl, rfl⟩
theorem Fs.tr {P M M' M''} (h : Fs P M M') (h' : Fs P M' M'') : Fs P M M'' := fun t i j q => ⟨(h' t i j q).1.trans (h t i j q).1, (h' t i j q).2.trans (h t i j q).2⟩
theorem Fs.mono {P P' : Nat → Nat → Nat → Prop} {M M'} (hs : ∀ t i j, P t i j → P' t i j) (h : Fs P M M') : Fs P' M M' := fun t i j q => h t i j (fun z => q (hs t i j z))
theorem Fs.g1 {P M M'} (h : Fs P M M') (t i j : Nat) (q : ¬ P t i j) : M'.1 t i j = M.1 t i j := (h t i j q).1
theorem Fs.g2 {P M M'} (h : Fs P M M') (t i j : Nat) (q : ¬ P t i j) : M'.2 t i j = M.2 t i j := (h t i j q).2
theorem Fs.sI {P : Nat → Nat → Nat → Prop} {M M' t i j v} (h : Fs P M M') (hp : P t i j) : Fs P M (sI M' t i j v) := fun a b c q => ⟨by
    rw [sI_ne (fun z => q (by obtain ⟨rfl, rfl, rfl⟩ := z; exact hp)), (h a b c q).1], (h a b c q).2⟩
theorem Fs.sL {P : Nat → Nat → Nat → Prop} {M M' t i j v} (h : Fs P M M') (hp : P t i j) : Fs P M (sL M' t i j v) := fun a b c q => ⟨(h a b c q).1, by
    rw [sL2, if_neg (fun z => q (by obtain ⟨rfl, rfl, rfl⟩ := z; exact hp)), (h a b c q).2]⟩
theorem Fr.fs {P : Nat → Nat → Prop} {P' : Nat → Nat → Nat → Prop} {M M'} (h : Fr P M M') (hs : ∀ t i j, P t i → P' t i j) : Fs P' M M' := fun t i j q => ⟨h.g1 t i (fun z => q (hs t i j z)) j, h.g2 t i (fun z => q (hs t i j z)) j⟩
theorem MR.fs {R M M'} (h : MR R M) {P} (hf : Fs P M M') (hp : ∀ t i j, P t i j → t ≠ 56 ∧ t ≠ 57 ∧ t ≠ 59 ∧ t ≠ 61 ∧ (t = 10 → ¬ (13 ≤ j ∧ j ≤ 17) ∧ j ≠ 20)) : MR R M' := by
  obtain ⟨h1, h2, h3, h4, h5, h6, h7, h8⟩ := h
  have q : ∀ t i j, (t = 10 ∧ (13 ≤ j ∧ j ≤ 17 ∨ j = 20) ∨ t = 56 ∨ t = 57 ∨ t = 59 ∨ t = 61) → M'.1 t i j = M.1 t i j := fun t i j ht => (hf t i j (fun z => by have := hp t i j z; omega)).1
  refine ⟨by rw [q 10 0 20 (by omega), h1], by rw [q 10 0 13 (by omega), h2], by rw [q 10 0 14 (by omega), h3], by rw [q 10 0 15 (by omega), h4], by rw [q 10 0 16 (by omega), h5], by rw [q 10 0 17 (by omega), h6], ?_, ?_⟩
  · intro s a1 a2
    rw [q 56 0 _ (by omega), q 57 0 _ (by omega)]; exact h7 s a1 a2
  · intro s e a1 a2 a3 a4
    rw [q 59 _ _ (by omega), q 61 _ _ (by omega)]; exact h8 s e a1 a2 a3 a4
/-- what reading a condition again may change -/
abbrev pHo (t i j : Nat) : Prop := t = 10 ∧ i = 0 ∧ (j = 2 ∨ j = 4 ∨ j = 5 ∨ j = 6 ∨ j = 7 ∨ j = 8 ∨ j = 38 ∨ j = 39 ∨ j = 40)
/-- the same text -/
def Tx (M M' : Mem) : Prop := (∀ j, M'.1 55 0 j = M.1 55 0 j) ∧ M'.1 10 0 11 = M.1 10 0 11 ∧ M'.1 10 0 18 = M.1 10 0 18 ∧ M'.1 10 0 19 = M.1 10 0 19
theorem Tx.tr {M M' M''} (h : Tx M M') (h' : Tx M' M'') : Tx M M'' := ⟨fun j => (h'.1 j).trans (h.1 j), h'.2.1.trans h.2.1, h'.2.2.1.trans h.2.2.1, h'.2.2.2.trans h.2.2.2⟩
theorem Fs.tx {P M M'} (h : Fs P M M') (hp : ∀ t i j, P t i j → t ≠ 55 ∧ (t = 10 → j ≠ 11 ∧ j ≠ 18 ∧ j ≠ 19)) : Tx M M' :=
  ⟨fun j => h.g1 55 0 j (fun z => (hp _ _ _ z).1 rfl), h.g1 10 0 11 (fun z => ((hp _ _ _ z).2 rfl).1 rfl), h.g1 10 0 18 (fun z => ((hp _ _ _ z).2 rfl).2.1 rfl), h.g1 10 0 19 (fun z => ((hp _ _ _ z).2 rfl).2.2 rfl)⟩
abbrev KH : Nat := 60
/-- the text tells when one may leave -/
def HL (R : RT) (M : Mem) : Prop := ∀ (M' : Mem) (Q : AV → Mem → Prop) (X : Nat → Mem → Prop) (d : Nat) (w p b s : Int), Tx M M' → MR R M' → Sta R p b → Gng p b → 1 ≤ w → w ≤ 6 → 0 ≤ s → s < 3 → bit b s = 1 → (∀ M'', Fs pHo M' M'' → Q (vi (if lvs R w (spl (dg p s) (nxm p b s)) ≠ 0 then 1 else 0)) M'') → Call (d + KH) qMo_holds [vr 10 0, vi (M'.1 10 0 19), vi 1, vi w, vi p, vi b, vi s] M' Q X
theorem HL.tx {R M M'} (h : HL R M) (ht : Tx M M') : HL R M' := fun M2 Q X d w p b s t2 => h M2 Q X d w p b s (ht.tr t2)
theorem m_mayDo {d : Nat} {M Q X} {w p b s e : Int} {R : RT} (hM : MR R M) (h : WR R) (hH : HL R M) (hS : Sta R p b) (hg : Gng p b) (hw : 1 ≤ w ∧ w ≤ 6) (hs : 0 ≤ s ∧ s < 3) (he : 0 ≤ e ∧ e < 5)
    (hq : ∀ M', Fs pHo M M' → Q (vi (if canP R w (cd p b) s e then 1 else 0)) M') : Call (d + 61) qMo_mayDo [vr 10 0, vi w, vi p, vi b, vi s, vi e] M Q X := by
  have hS0 := hS
  obtain ⟨s1, s2, s3⟩ := hS
  have hbs := bit_R b s
  have hcd : dg (cd p b) s = lsp p b s := dg_cd hs
  have hpc := (hM.2.2.2.2.2.2.1 s hs.1 hs.2).2
  have hpr := h.pcs s hs
  rw [show d + 61 = (d + 60) + 1 from rfl, eMo_mayDo, bMo_mayDo_0, m_isIn s2 hs, KV_eq, bMo_mayDo_3]
  by_cases hin : bit b s = 1
  · have hl : lsp p b s = dg p s := by unfold lsp; rw [if_pos hin]
    have hpos := hg s hs.1 hs.2 hin
    rw [if_pos (by omega), bMo_mayDo_10 hs, hpc]
    by_cases hle : e ≤ pcs R s
    · have hc : canP R w (cd p b) s e := by
        right
        refine ⟨by omega, ?_⟩
        rw [if_neg (by omega)]; exact hle
      rw [if_pos hle, bMo_mayDo_29, bMo_mayDo_32]
      have := hq M Fs.rf
      rw [if_pos hc] at this
      exact this
    · rw [if_neg hle, bMo_mayDo_16]
      by_cases h4 : e = 4
      · rw [if_neg (by omega), bMo_mayDo_19]
        refine hH M _ _ d w p b s ⟨fun _ => rfl, rfl, rfl, rfl⟩ hM hS0 hg hw.1 hw.2 hs.1 hs.2 hin ?_
        intro M' hf
        rw [KV_eq, bMo_mayDo_28]
        have hnx := nxm_eq (s := s) hg
        by_cases hlv : lvs R w (spl (dg p s) (nxm p b s)) ≠ 0
        · have hc : canP R w (cd p b) s e := by
            right
            refine ⟨by omega, ?_⟩
            rw [if_pos h4, hcd, hl, ← hnx]; exact hlv
          rw [if_pos hlv, if_neg (by omega), bMo_mayDo_29, bMo_mayDo_32]
          have := hq M' hf
          rw [if_pos hc] at this
          exact this
        · have hc : ¬ canP R w (cd p b) s e := by
            intro z
            rcases z with z | z
            · omega
            · have := z.2
              rw [if_pos h4, hcd, hl, ← hnx] at this
              exact hlv this
          rw [if_neg hlv, if_pos rfl, bMo_mayDo_31, bMo_mayDo_32]
          have := hq M' hf
          rw [if_neg hc] at this
          exact this
      · have hc : ¬ canP R w (cd p b) s e := by
          intro z
          rcases z with z | z
          · omega
          · have := z.2
            rw [if_neg h4] at this
            omega
        rw [if_pos h4, bMo_mayDo_31, bMo_mayDo_32]
        have := hq M Fs.rf
        rw [if_neg hc] at this
        exact this
  · have hl : lsp p b s = 0 := by unfold lsp; rw [if_neg hin]
    rw [if_neg (by omega), bMo_mayDo_4]
    by_cases h0 : e = 0
    · rw [if_neg (by omega), bMo_mayDo_6, bMo_mayDo_9]
      have := hq M Fs.rf
      rw [if_pos (Or.inl h0)] at this
      exact this
    · have hc : ¬ canP R w (cd p b) s e := by
        intro z
        rcases z with z | z
        · omega
        · omega
      rw [if_pos h0, bMo_mayDo_8, bMo_mayDo_9]
      have := hq M Fs.rf
      rw [if_neg hc] at this
      exact this
theorem m_digit {d : Nat} {M Q X} {v s : Int} (hv : 0 ≤ v ∧ v < 125) : Call (d + 1) qMo_digit [vi v, vi s] M Q X = Q (vi (dg v s)) M := by
  simp (disch := first | omega | (simp (disch := omega) only [w32_id]; omega)) only [bMo_digit_0, bMo_digit_2, bMo_digit_6, bMo_digit_9, bMo_digit_15, bMo_digit_18, eMo_digit, w32_id, tdiv_id, tmod_id]
  unfold dg
  by_cases h0 : s = 0
  · simp [h0]
  · by_cases h1 : s = 1
    · simp [h1]
    · simp only [ne_eq, h0, h1, not_false_eq_true, if_true, if_false]
      rw [show v / 25 % 5 = v / 25 by omega]
theorem m_unitOf {d : Nat} {M Q X} {s : Int} : Call (d + 1) qMo_unitOf [vi s] M Q X = Q (vi (su s)) M := by
  simp only [bMo_unitOf_0, bMo_unitOf_2, bMo_unitOf_4, bMo_unitOf_7, bMo_unitOf_9, bMo_unitOf_10, eMo_unitOf]
  unfold su
  by_cases h0 : s = 0
  · simp [h0]
  · by_cases h1 : s = 1 <;> simp [h0, h1]
/-- how many rows: 5 to the power of the shops -/
def p5 (n : Int) : Int := if n = 1 then 5 else if n = 2 then 25 else 125
theorem m_rows {d : Nat} {M Q X} {R : RT} (hM : MR R M) : Call (d + 1) qMo_rows [vr 10 0] M Q X = Q (vi (p5 (R 4 1))) M := by
  have n0 := hM.1
  simp only [bMo_rows_0, bMo_rows_4, bMo_rows_6, bMo_rows_10, bMo_rows_12, bMo_rows_13, eMo_rows, n0]
  unfold p5
  by_cases h0 : R 4 1 = 1
  · simp [h0]
  · by_cases h1 : R 4 1 = 2 <;> simp [h0, h1]
/-- the class's row for one of the reference, and back -/
def rvw (v : Int) : Int := mm (dg v 0) (dg v 1) (dg v 2)
def tnd (n f : Int) : Int := if n = 1 then f else if n = 2 then f / 5 + f % 5 * 5 else f / 25 + f / 5 % 5 * 5 + f % 5 * 25
theorem m_turned {d : Nat} {M Q X} {R : RT} {f : Int} (hM : MR R M) (hf : 0 ≤ f ∧ f < 125) : Call (d + 1) qMo_turned [vr 10 0, vi f] M Q X = Q (vi (tnd (R 4 1) f)) M := by
  have n0 := hM.1
  rw [eMo_turned, bMo_turned_0, n0, bMo_turned_4, bMo_turned_6, n0, bMo_turned_10 (by omega), bMo_turned_20 (by omega), bMo_turned_37, bMo_turned_37, bMo_turned_37]
  unfold tnd
  by_cases h0 : R 4 1 = 1
  · rw [if_neg (by omega), if_pos h0]
  · rw [if_pos h0, if_neg h0]
    by_cases h1 : R 4 1 = 2
    · rw [if_neg (by omega), if_pos h1]
      simp (disch := first | omega | (simp (disch := omega) only [w32_id]; omega)) only [w32_id, tdiv_id, tmod_id]
    · rw [if_pos h1, if_neg h1]
      simp (disch := first | omega | (simp (disch := omega) only [w32_id]; omega)) only [w32_id, tdiv_id, tmod_id]
def u5 (n : Int) : Int := if n = 1 then 25 else if n = 2 then 5 else 1
theorem tnd_R {n f : Int} (hn : 1 ≤ n ∧ n ≤ 3) (hf : 0 ≤ f ∧ f < p5 n) : 0 ≤ tnd n f ∧ tnd n f < p5 n ∧ rvw (tnd n f) = f * u5 n := by
  unfold rvw
  have e0 : dg (tnd n f) 0 = tnd n f % 5 := rfl
  have e1 : dg (tnd n f) 1 = tnd n f / 5 % 5 := rfl
  have e2 : dg (tnd n f) 2 = tnd n f / 25 % 5 := rfl
  rw [e0, e1, e2]
  rcases (by omega : n = 1 ∨ n = 2 ∨ n = 3) with rfl | rfl | rfl
  · have : p5 1 = 5 := rfl
    have hu : u5 1 = 25 := rfl
    rw [hu]
    have : tnd 1 f = f := rfl
    unfold mm; omega
  · have : p5 2 = 25 := rfl
    have hu : u5 2 = 5 := rfl
    rw [hu]
    have ht : tnd 2 f = f / 5 + f % 5 * 5 := rfl
    have hp : p5 2 = 25 := rfl
    rw [hp] at hf ⊢
    obtain ⟨a, b, ha, hb, hab⟩ : ∃ a b : Int, (0 ≤ a ∧ a < 5) ∧ (0 ≤ b ∧ b < 5) ∧ f = 5 * a + b := ⟨f / 5, f % 5, by omega, by omega, by omega⟩
    have q1 : f / 5 = a := by omega
    have q2 : f % 5 = b := by omega
    rw [q1, q2] at ht
    clear e0 e1 e2
    have h1 : tnd 2 f % 5 = a := by rw [ht]; clear ht q1 q2 hab; omega
    have h2 : tnd 2 f / 5 % 5 = b := by rw [ht]; clear ht q1 q2 hab; omega
    have h3 : tnd 2 f / 25 % 5 = 0 := by rw [ht]; clear ht q1 q2 hab; omega
    rw [h1, h2, h3]
    unfold mm; omega
  · have : p5 3 = 125 := rfl
    have hu : u5 3 = 1 := rfl
    rw [hu]
    have ht : tnd 3 f = f / 25 + f / 5 % 5 * 5 + f % 5 * 25 := rfl
    have hp : p5 3 = 125 := rfl
    rw [hp] at hf ⊢
    obtain ⟨a, b, c, ha, hb, hc, hab⟩ : ∃ a b c : Int, (0 ≤ a ∧ a < 5) ∧ (0 ≤ b ∧ b < 5) ∧ (0 ≤ c ∧ c < 5) ∧ f = 25 * a + 5 * b + c := ⟨f / 25, f / 5 % 5, f % 5, by omega, by omega, by omega, by omega⟩
    have q1 : f / 25 = a := by omega
    have q2 : f / 5 % 5 = b := by omega
    have q3 : f % 5 = c := by omega
    rw [q1, q2, q3] at ht
    clear e0 e1 e2
    have h1 : tnd 3 f % 5 = a := by rw [ht]; clear ht q1 q2 q3 hab; omega
    have h2 : tnd 3 f / 5 % 5 = b := by rw [ht]; clear ht q1 q2 q3 hab; omega
    have h3 : tnd 3 f / 25 % 5 = c := by rw [ht]; clear ht q1 q2 q3 hab; omega
    rw [h1, h2, h3]
    unfold mm; omega
theorem dr_rvw {v s : Int} (hs : 0 ≤ s ∧ s < 3) : dr (rvw v) s = dg v s := by
  have h0 := dg_R v 0
  have h1 := dg_R v 1
  have h2 := dg_R v 2
  obtain ⟨a, b, c⟩ := dr_mm (a := dg v 0) (b := dg v 1) (c := dg v 2) (by omega) (by omega) (by omega)
  unfold rvw
  rcases (by omega : s = 0 ∨ s = 1 ∨ s = 2) with rfl | rfl | rfl
  · exact a
  · exact b
  · exact c
