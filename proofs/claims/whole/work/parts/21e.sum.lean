/-! LAYER 3, GAINS AND SUMS OF ROWS, AND THE ROW THAT IS CHOSEN -/
def mxJ (a b : Int64) : Int64 := if a < b then b else a
/-- the most among the places 0 to n that stand -/
def mst (c : Int → Bool) (f : Int → Int64) : Nat → Int64
  | 0 => f 0
  | n + 1 => if c ((n + 1 : Nat) : Int) = true then mxJ (mst c f n) (f ((n + 1 : Nat) : Int)) else mst c f n
theorem mst_congr {c c' : Int → Bool} {f f' : Int → Int64} : ∀ n : Nat, (∀ e : Int, 0 ≤ e → e ≤ n → c e = c' e) → f 0 = f' 0 → (∀ e : Int, 0 ≤ e → e ≤ n → c e = true → f e = f' e) → mst c f n = mst c' f' n
  | 0, _, h, _ => h
  | n + 1, h1, h2, h3 => by
    have ih := mst_congr n (fun e a b => h1 e a (by omega)) h2 (fun e a b => h3 e a (by omega))
    unfold mst
    rw [ih, ← h1 ((n + 1 : Nat) : Int) (by omega) (by omega)]
    by_cases hc : c ((n + 1 : Nat) : Int) = true
    · rw [if_pos hc, if_pos hc, h3 _ (by omega) (by omega) hc]
    · rw [if_neg hc, if_neg hc]
abbrev pG (b t i : Nat) : Prop := (t = 23 ∨ t = 24) ∧ i = b
theorem c_sumAt {d : Nat} {M Q X} {b : Nat} {s p q : Int} (hs : 0 ≤ s ∧ s < 3) (hp : 0 ≤ p ∧ p < 5) (hq0 : 0 ≤ q ∧ q < 5)
    (hq : ∀ M', Fr (pG b) M M' → (∀ e : Int, 0 ≤ e → e < 5 → cnM M b s e →
        M'.2 23 b (ix s p q e).toNat = M.2 23 b (ix s p q e).toNat + (mst (fun e => decide (cnM M b s e)) (fun e => M.2 50 b (ix s p q e * 3 + s).toNat) 4 - M.2 50 b (ix s p q e * 3 + s).toNat) ∧ M'.2 24 b (ix s p q e).toNat = M.2 24 b (ix s p q e).toNat + M.2 50 b (ix s p q e * 3 + s).toNat) →
      (∀ j : Nat, (∀ e : Int, 0 ≤ e → e < 5 → cnM M b s e → j ≠ (ix s p q e).toNat) → M'.2 23 b j = M.2 23 b j ∧ M'.2 24 b j = M.2 24 b j) → Q (vi 0) M') : Call (d + 2) qBo_sumAt [vr 0 b, vi s, vi (ix s p q 0)] M Q X := by
  have hu : ru s = 1 ∨ ru s = 5 ∨ ru s = 25 := by
    unfold ru; repeat' split
    all_goals simp
  have rr : ∀ e : Int, 0 ≤ e → e < 5 → 0 ≤ ix s p q e ∧ ix s p q e < 125 := fun e e1 e2 => ix_R hp hq0 ⟨e1, e2⟩
  have r0 := rr 0 (by omega) (by omega)
  have a3 : ∀ e : Int, 0 ≤ e → e < 5 → w32 (w32 (ix s p q e * 3) + s) = ix s p q e * 3 + s := fun e e1 e2 => by
    have := rr e e1 e2
    rw [w32_id (z := ix s p q e * 3) (by omega)]; exact w32_id (by omega)
  have au : ∀ e : Int, 0 ≤ e → e < 5 → w32 (ix s p q 0 + w32 (e * ru s)) = ix s p q e := fun e e1 e2 => by
    have := rr e e1 e2
    rw [ix_u (d := e)] at this ⊢
    rcases hu with hu | hu | hu <;> rw [hu] at this ⊢ <;> rw [w32_id (z := e * _) (by omega)] <;> exact w32_id (by omega)
  have a5 : ∀ e : Int, 0 ≤ e → e < 5 → w32 (w32 (s * 5) + e) = s * 5 + e := fun e e1 e2 => by
    rw [w32_id (z := s * 5) (by omega)]; exact w32_id (by omega)
  rw [eBo_sumAt, bBo_sumAt_0 (by rw [a3 0 (by omega) (by omega)]; omega), a3 0 (by omega) (by omega)]
  refine loop_up (α := Int64) (fun e y => At (d + 1) kBo_sumAt 12 [vr 0 b, vi s, vi (ix s p q 0), vl y, JK, vi e, JK, JK, JK] [] M Q X) (fun e y => y = mst (fun e => decide (cnM M b s e)) (fun e => M.2 50 b (ix s p q e * 3 + s).toNat) (e - 1).toNat) 1 5 ?_ ?_ 1 _ (by omega) (by omega) rfl
  · intro mo hmo
    have hmo : mo = mst (fun e => decide (cnM M b s e)) (fun e => M.2 50 b (ix s p q e * 3 + s).toNat) 4 := hmo
    rw [← hmo] at hq
    rw [bBo_sumAt_12, if_pos (by omega), bBo_sumAt_45]
    refine loop_up (fun e M' => ∀ z6 z7 z8, At (d + 1) kBo_sumAt 47 [vr 0 b, vi s, vi (ix s p q 0), vl mo, JK, vi e, z6, z7, z8] [] M' Q X) (fun e0 M' => Fr (pG b) M M' ∧ (∀ e : Int, 0 ≤ e → e < e0 → cnM M b s e → M'.2 23 b (ix s p q e).toNat = M.2 23 b (ix s p q e).toNat + (mo - M.2 50 b (ix s p q e * 3 + s).toNat) ∧ M'.2 24 b (ix s p q e).toNat = M.2 24 b (ix s p q e).toNat + M.2 50 b (ix s p q e * 3 + s).toNat) ∧
      (∀ j : Nat, (∀ e : Int, 0 ≤ e → e < e0 → cnM M b s e → j ≠ (ix s p q e).toNat) → M'.2 23 b j = M.2 23 b j ∧ M'.2 24 b j = M.2 24 b j)) 0 5 ?_ ?_ 0 M (by omega) (by omega) ⟨Fr.rf, by intros; omega, fun _ _ => ⟨rfl, rfl⟩⟩ _ _ _
    · rintro M' ⟨g1, g2, g3⟩ z6 z7 z8
      rw [bBo_sumAt_47, if_pos (by omega), bBo_sumAt_98]
      exact hq M' g1 g2 g3
    · rintro e M' e1 e2 ⟨g1, g2, g3⟩ gk z6 z7 z8
      have c46 : M'.1 46 b (s * 5 + e).toNat = M.1 46 b (s * 5 + e).toNat := by rw [g1.g1 46 b (fun z => by omega)]
      rw [bBo_sumAt_47, if_neg (by omega), bBo_sumAt_50 (by rw [a5 e e1 e2]; omega), a5 e e1 e2, c46]
      by_cases hc : M.1 46 b (s * 5 + e).toNat = 0
      · rw [if_pos hc, bBo_sumAt_96, w32_id (by omega)]
        refine gk M' ⟨g1, ?_, ?_⟩ _ _ _
        · intro e' b1 b2 b3
          by_cases he : e' = e
          · subst he; exact absurd hc b3
          · exact g2 e' b1 (by omega) b3
        · intro j hj; exact g3 j (fun e' b1 b2 b3 => hj e' b1 (by omega) b3)
      · have re := rr e e1 e2
        rw [if_neg hc, bBo_sumAt_60 (by rw [ro_ru hs, au e e1 e2, a3 e e1 e2]; omega), ro_ru hs, au e e1 e2, a3 e e1 e2, bBo_sumAt_96, w32_id (by omega)]
        have old := g3 (ix s p q e).toNat (fun e' b1 b2 b3 hz => by
          have := rr e' b1 (by omega)
          have : ix s p q e = ix s p q e' := by omega
          have := (ix_inj hp hq0 ⟨e1, e2⟩ hp hq0 ⟨b1, by omega⟩ this).2.2
          omega)
        have c50 : M'.2 50 b (ix s p q e * 3 + s).toNat = M.2 50 b (ix s p q e * 3 + s).toNat := by rw [g1.g2 50 b (fun z => by omega)]
        refine gk _ ⟨?_, ?_, ?_⟩ _ _ _
        · exact (g1.sL ⟨by omega, rfl⟩).sL ⟨by omega, rfl⟩
        · intro e' b1 b2 b3
          by_cases he : e' = e
          · subst he
            simp [sL2]
            rw [old.1, old.2, c50]
            exact ⟨rfl, rfl⟩
          · have := rr e' b1 (by omega)
            have hne : ¬ ix s p q e' = ix s p q e := fun z => he (ix_inj hp hq0 ⟨b1, by omega⟩ hp hq0 ⟨e1, e2⟩ z).2.2
            have hne : ¬ (ix s p q e').toNat = (ix s p q e).toNat := by omega
            simp [sL2, hne]
            exact g2 e' b1 (by omega) b3
        · intro j hj
          have hne := hj e e1 (by omega) hc
          simp [sL2, hne]
          exact g3 j (fun e' b1 b2 b3 => hj e' b1 (by omega) b3)
  · intro e y e1 e2 hy gk
    have en : ((e.toNat - 1 + 1 : Nat) : Int) = e := by omega
    have em : (e + 1 - 1).toNat = (e.toNat - 1) + 1 := by omega
    have em2 : (e - 1).toNat = e.toNat - 1 := by omega
    rw [em2] at hy
    rw [bBo_sumAt_12, if_neg (by omega), bBo_sumAt_15 (by rw [a5 e (by omega) e2]; omega), a5 e (by omega) e2]
    by_cases hc : M.1 46 b (s * 5 + e).toNat = 0
    · rw [if_pos hc, bBo_sumAt_43, w32_id (by omega)]
      refine gk y ?_
      rw [em, mst, en, if_neg (by simp [cnM, hc]), hy]
    · have re := rr e (by omega) e2
      rw [if_neg hc, bBo_sumAt_25 (by rw [ro_ru hs, au e (by omega) e2, a3 e (by omega) e2]; omega), ro_ru hs, au e (by omega) e2, a3 e (by omega) e2, c_maxJ, KV_eq, bBo_sumAt_42, bBo_sumAt_43, w32_id (by omega)]
      refine gk _ ?_
      rw [em, mst, en, if_pos (show decide (cnM M b s e) = true from decide_eq_true hc), ← hy]
      rfl
def mS (M : Mem) (b : Nat) (s p q : Int) : Int64 := mst (fun e => decide (cnM M b s e)) (fun e => M.2 50 b (ix s p q e * 3 + s).toNat) 4
theorem mS_fr {M M' : Mem} {b : Nat} {s p q : Int} (h1 : M'.1 46 b = M.1 46 b) (h2 : M'.2 50 b = M.2 50 b) : mS M' b s p q = mS M b s p q := by
  unfold mS cnM; rw [h1, h2]
theorem c_sumFor {d : Nat} {M Q X} {k : Nat} {s a b : Int} (hs : s = 2 ∧ a = 0 ∧ b = 1 ∨ s = 1 ∧ a = 0 ∧ b = 2 ∨ s = 0 ∧ a = 1 ∧ b = 2)
    (hq : ∀ M', Fr (pG k) M M' → (∀ p q e : Int, 0 ≤ p → p < 5 → 0 ≤ q → q < 5 → 0 ≤ e → e < 5 → cnM M k a p → cnM M k b q → cnM M k s e → M'.2 23 k (ix s p q e).toNat = M.2 23 k (ix s p q e).toNat + (mS M k s p q - M.2 50 k (ix s p q e * 3 + s).toNat) ∧ M'.2 24 k (ix s p q e).toNat = M.2 24 k (ix s p q e).toNat + M.2 50 k (ix s p q e * 3 + s).toNat) → Q (vi 0) M') : Call (d + 3) qBo_sumFor [vr 0 k, vi s, vi a, vi b] M Q X := by
  rw [eBo_sumFor, bBo_sumFor_0]
  have hloop := loop2 0 5 0 5 (by omega) (by omega) (fun p M' => ∀ z5, At (d + 2) kBo_sumFor 2 [vr 0 k, vi s, vi a, vi b, vi p, z5] [] M' Q X) (fun p q M' => At (d + 2) kBo_sumFor 7 [vr 0 k, vi s, vi a, vi b, vi p, vi q] [] M' Q X)
    (fun p0 q0 M' => Fr (pG k) M M' ∧ (∀ p q e : Int, 0 ≤ p → p < 5 → 0 ≤ q → q < 5 → 0 ≤ e → e < 5 → cnM M k a p → cnM M k b q → cnM M k s e → if (p < p0 ∨ p = p0 ∧ q < q0) then M'.2 23 k (ix s p q e).toNat = M.2 23 k (ix s p q e).toNat + (mS M k s p q - M.2 50 k (ix s p q e * 3 + s).toNat) ∧ M'.2 24 k (ix s p q e).toNat = M.2 24 k (ix s p q e).toNat + M.2 50 k (ix s p q e * 3 + s).toNat else M'.2 23 k (ix s p q e).toNat = M.2 23 k (ix s p q e).toNat ∧ M'.2 24 k (ix s p q e).toNat = M.2 24 k (ix s p q e).toNat)) ?_ ?_ ?_ ?_ ?_
  · refine hloop M ⟨Fr.rf, ?_⟩ _
    intro p q e _ _ _ _ _ _ _ _ _
    rw [if_neg (fun z => by omega)]
    exact ⟨rfl, rfl⟩
  · rintro M1 ⟨g1, g2⟩ z5
    rw [bBo_sumFor_2, if_pos (by omega), bBo_sumFor_48]
    refine hq M1 g1 ?_
    intro p q e p1 p2 q1 q2 e1 e2 c1 c2 c3
    have := g2 p q e p1 p2 q1 q2 e1 e2 c1 c2 c3
    rw [if_pos (Or.inl p2)] at this
    exact this
  · intro p M' p1 p2 g z5
    rw [bBo_sumFor_2, if_neg (by omega), bBo_sumFor_5]; exact g
  · intro p M' p1 p2 g
    rw [bBo_sumFor_7, if_pos (by omega), bBo_sumFor_46, w32_id (by omega)]; exact g _
  · rintro p0 q0 M' p1 p2 q1 q2 ⟨g1, g2⟩ gk
    have a5 : w32 (w32 (a * 5) + p0) = a * 5 + p0 := by rw [w32_id (z := a * 5) (by omega)]; exact w32_id (by omega)
    have bb5 : w32 (w32 (b * 5) + q0) = b * 5 + q0 := by rw [w32_id (z := b * 5) (by omega)]; exact w32_id (by omega)
    have l1 : M'.1 46 k (a * 5 + p0).toNat = M.1 46 k (a * 5 + p0).toNat := by rw [g1.g1 46 k (fun z => by omega)]
    have l2 : M'.1 46 k (b * 5 + q0).toNat = M.1 46 k (b * 5 + q0).toNat := by rw [g1.g1 46 k (fun z => by omega)]
    have skip : ¬ (cnM M k a p0 ∧ cnM M k b q0) → At (d + 2) kBo_sumFor 44 [vr 0 k, vi s, vi a, vi b, vi p0, vi q0] [] M' Q X := by
      intro hno
      rw [bBo_sumFor_44, w32_id (by omega)]
      refine gk M' ⟨g1, ?_⟩
      intro p q e b1 b2 b3 b4 b5 b6 c1 c2 c3
      have := g2 p q e b1 b2 b3 b4 b5 b6 c1 c2 c3
      by_cases he : p = p0 ∧ q = q0
      · obtain ⟨rfl, rfl⟩ := he
        exact absurd ⟨c1, c2⟩ hno
      · have e9 : (p < p0 ∨ p = p0 ∧ q < q0 + 1) ↔ (p < p0 ∨ p = p0 ∧ q < q0) := by omega
        simp only [e9]; exact this
    rw [bBo_sumFor_7, if_neg (by omega), bBo_sumFor_10 (by rw [a5]; omega), a5, l1]
    by_cases hA : M.1 46 k (a * 5 + p0).toNat = 0
    · rw [if_pos hA]; exact skip (fun z => z.1 hA)
    · rw [if_neg hA, bBo_sumFor_20 (by rw [bb5]; omega), bb5, l2]
      by_cases hB : M.1 46 k (b * 5 + q0).toNat = 0
      · rw [if_pos hB]; exact skip (fun z => z.2 hB)
      · rw [if_neg hB, bBo_sumFor_30 (by omega), ro_ru (by omega), ro_ru (by omega), ix_ab hs ⟨p1, p2⟩ ⟨q1, q2⟩]
        refine c_sumAt (by omega) ⟨p1, p2⟩ ⟨q1, q2⟩ ?_
        intro M2 k1 k2 k3
        rw [KU_eq, bBo_sumFor_44, w32_id (by omega)]
        have hcn : ∀ s e : Int, cnM M' k s e ↔ cnM M k s e := fun s e => by unfold cnM; rw [g1.g1 46 k (fun z => by omega)]
        have hmS : mS M' k s p0 q0 = mS M k s p0 q0 := mS_fr (g1 46 k (fun z => by omega)).1 (g1 50 k (fun z => by omega)).2
        refine gk M2 ⟨g1.tr k1, ?_⟩
        intro p q e b1 b2 b3 b4 b5 b6 c1 c2 c3
        have hg := g2 p q e b1 b2 b3 b4 b5 b6 c1 c2 c3
        by_cases he : p = p0 ∧ q = q0
        · obtain ⟨rfl, rfl⟩ := he
          rw [if_neg (by omega)] at hg
          rw [if_pos (by omega)]
          have hk := k2 e b5 b6 ((hcn s e).mpr c3)
          rw [hg.1, hg.2, g1.g2 50 k (fun z => by omega)] at hk
          rw [← hmS]
          exact hk
        · have e9 : (p < p0 ∨ p = p0 ∧ q < q0 + 1) ↔ (p < p0 ∨ p = p0 ∧ q < q0) := by omega
          simp only [e9]
          have hk := k3 (ix s p q e).toNat (fun e' h1 h2 h3 hz => by
            have t1 := ix_R (s := s) (p := p) (q := q) (d := e) ⟨b1, b2⟩ ⟨b3, b4⟩ ⟨b5, b6⟩
            have t2 := ix_R (s := s) (p := p0) (q := q0) (d := e') ⟨p1, p2⟩ ⟨q1, q2⟩ ⟨h1, h2⟩
            have t3 : ix s p q e = ix s p0 q0 e' := by omega
            have := ix_inj ⟨b1, b2⟩ ⟨b3, b4⟩ ⟨b5, b6⟩ ⟨p1, p2⟩ ⟨q1, q2⟩ ⟨h1, h2⟩ t3
            exact he ⟨this.1, this.2.1⟩)
          rw [hk.1, hk.2]
          exact hg
  · rintro p0 M' p1 p2 ⟨g1, g2⟩
    refine ⟨g1, fun p q e b1 b2 b3 b4 b5 b6 c1 c2 c3 => ?_⟩
    have := g2 p q e b1 b2 b3 b4 b5 b6 c1 c2 c3
    have e9 : (p < p0 + 1 ∨ p = p0 + 1 ∧ q < 0) ↔ (p < p0 ∨ p = p0 ∧ q < 5) := by omega
    simp only [e9]; exact this
/-- gains and sums, as a priced week has them -/
def gnM (M : Mem) (k : Nat) (a b c : Int) : Int64 := 0 + (mS M k 0 b c - vv M k a b c 0) + (mS M k 1 a c - vv M k a b c 1) + (mS M k 2 a b - vv M k a b c 2)
def smM (M : Mem) (k : Nat) (a b c : Int) : Int64 := 0 + vv M k a b c 0 + vv M k a b c 1 + vv M k a b c 2
theorem c_sumRows {d : Nat} {M Q X} {k : Nat}
    (hq : ∀ M', Fr (pG k) M M' → (∀ a b c : Int, 0 ≤ a → a < 5 → 0 ≤ b → b < 5 → 0 ≤ c → c < 5 → cnM M k 0 a → cnM M k 1 b → cnM M k 2 c → M'.2 23 k (mm a b c).toNat = gnM M k a b c ∧ M'.2 24 k (mm a b c).toNat = smM M k a b c) → Q (vi 0) M') : Call (d + 4) qBo_sumRows [vr 0 k] M Q X := by
  rw [eBo_sumRows, bBo_sumRows_0]
  refine loop_up (fun r M' => At (d + 3) kBo_sumRows 2 [vr 0 k, vi r] [] M' Q X) (fun r M' => Fr (pG k) M M' ∧ ∀ j : Int, 0 ≤ j → j < r → M'.2 23 k j.toNat = 0 ∧ M'.2 24 k j.toNat = 0) 0 125 ?_ ?_ 0 M (by omega) (by omega) ⟨Fr.rf, by intros; omega⟩
  · rintro M1 ⟨g1, g2⟩
    rw [bBo_sumRows_2, if_pos (by omega), bBo_sumRows_17]
    refine c_sumFor (Or.inr (Or.inr ⟨rfl, rfl, rfl⟩)) ?_
    intro M2 k1 k2
    rw [KU_eq, bBo_sumRows_22]
    refine c_sumFor (Or.inr (Or.inl ⟨rfl, rfl, rfl⟩)) ?_
    intro M3 m1 m2
    rw [KU_eq, bBo_sumRows_27]
    refine c_sumFor (Or.inl ⟨rfl, rfl, rfl⟩) ?_
    intro M4 n1 n2
    rw [KU_eq, bBo_sumRows_32]
    have f2 := g1.tr k1
    have f3 := f2.tr m1
    have c1 : ∀ s e : Int, cnM M1 k s e ↔ cnM M k s e := fun s e => by unfold cnM; rw [g1.g1 46 k (fun z => by omega)]
    have c2 : ∀ s e : Int, cnM M2 k s e ↔ cnM M k s e := fun s e => by unfold cnM; rw [f2.g1 46 k (fun z => by omega)]
    have c3 : ∀ s e : Int, cnM M3 k s e ↔ cnM M k s e := fun s e => by unfold cnM; rw [f3.g1 46 k (fun z => by omega)]
    refine hq M4 (f3.tr n1) ?_
    intro a b c a1 a2 b1 b2 h1 h2 q0 q1 q2
    have hm : 0 ≤ mm a b c ∧ mm a b c < 125 := by unfold mm; omega
    have z0 := g2 (mm a b c) hm.1 hm.2
    have z1 := k2 b c a b1 b2 h1 h2 a1 a2 ((c1 1 b).mpr q1) ((c1 2 c).mpr q2) ((c1 0 a).mpr q0)
    have z2 := m2 a c b a1 a2 h1 h2 b1 b2 ((c2 0 a).mpr q0) ((c2 2 c).mpr q2) ((c2 1 b).mpr q1)
    have z3 := n2 a b c a1 a2 b1 b2 h1 h2 ((c3 0 a).mpr q0) ((c3 1 b).mpr q1) ((c3 2 c).mpr q2)
    rw [mS_fr (g1 46 k (fun z => by omega)).1 (g1 50 k (fun z => by omega)).2, g1.g2 50 k (fun z => by omega)] at z1
    rw [mS_fr (f2 46 k (fun z => by omega)).1 (f2 50 k (fun z => by omega)).2, f2.g2 50 k (fun z => by omega)] at z2
    rw [mS_fr (f3 46 k (fun z => by omega)).1 (f3 50 k (fun z => by omega)).2, f3.g2 50 k (fun z => by omega)] at z3
    have z1 : M2.2 23 k (mm a b c).toNat = M1.2 23 k (mm a b c).toNat + (mS M k 0 b c - M.2 50 k (mm a b c * 3 + 0).toNat) ∧ M2.2 24 k (mm a b c).toNat = M1.2 24 k (mm a b c).toNat + M.2 50 k (mm a b c * 3 + 0).toNat := z1
    have z2 : M3.2 23 k (mm a b c).toNat = M2.2 23 k (mm a b c).toNat + (mS M k 1 a c - M.2 50 k (mm a b c * 3 + 1).toNat) ∧ M3.2 24 k (mm a b c).toNat = M2.2 24 k (mm a b c).toNat + M.2 50 k (mm a b c * 3 + 1).toNat := z2
    have z3 : M4.2 23 k (mm a b c).toNat = M3.2 23 k (mm a b c).toNat + (mS M k 2 a b - M.2 50 k (mm a b c * 3 + 2).toNat) ∧ M4.2 24 k (mm a b c).toNat = M3.2 24 k (mm a b c).toNat + M.2 50 k (mm a b c * 3 + 2).toNat := z3
    unfold gnM smM vv
    rw [z3.1, z3.2, z2.1, z2.2, z1.1, z1.2, z0.1, z0.2]
    exact ⟨rfl, rfl⟩
  · rintro r M' r1 r2 ⟨g1, g2⟩ gk
    rw [bBo_sumRows_2, if_neg (by omega), bBo_sumRows_5 (by omega), w32_id (by omega)]
    refine gk _ ⟨?_, ?_⟩
    · exact (g1.sL ⟨by omega, rfl⟩).sL ⟨by omega, rfl⟩
    · intro j j1 j2
      by_cases he : j = r
      · subst he; simp [sL2]
      · have hne : ¬ j.toNat = r.toNat := by omega
        simp [sL2, hne]; exact g2 j j1 (by omega)
theorem ite3_Q {A B C : Prop} [Decidable A] [Decidable B] [Decidable C] {M : Mem} {Q : AV → Mem → Prop} : (if A then if B then if C then Q (vi (1 % 2)) M else Q (vi 0) M else Q (vi 0) M else Q (vi 0) M) = Q (vi (if A ∧ B ∧ C then 1 else 0)) M := by
  by_cases hA : A <;> by_cases hB : B <;> by_cases hC : C <;> simp [hA, hB, hC]
theorem c_canRow {d : Nat} {M Q X} {k : Nat} {r : Int} (hr : 0 ≤ r ∧ r < 125) : Call (d + 2) qWe_canRow [vr 8 k, vi r] M Q X = Q (vi (if cnM M k 0 (dr r 0) ∧ cnM M k 1 (dr r 1) ∧ cnM M k 2 (dr r 2) then 1 else 0)) M := by
  have key : ∀ s : Int, 0 ≤ s → s < 3 → At (d + 1) kWe_canRow 2 [vr 8 k, vi r, vi s] [] M Q X = if cnM M k s (dr r s) then At (d + 1) kWe_canRow 2 [vr 8 k, vi r, vi (s + 1)] [] M Q X else Q (vi 0) M := by
    intro s s1 s2
    have := dr_R r s
    rw [bWe_canRow_2, if_neg (by omega), bWe_canRow_5, c_doingIn (by omega), KV_eq, w32_id (z := s * 5) (by omega), bWe_canRow_13 (by rw [w32_id (by omega)]; omega), w32_id (z := s * 5 + _) (by omega), bWe_canRow_18, bWe_canRow_16, w32_id (by omega)]
    rfl
  rw [eWe_canRow, bWe_canRow_0, key 0 (by omega) (by omega), show (0 : Int) + 1 = 1 from rfl, key 1 (by omega) (by omega), show (1 : Int) + 1 = 2 from rfl, key 2 (by omega) (by omega), show (2 : Int) + 1 = 3 from rfl, bWe_canRow_2, if_pos (show (3 : Int) ≤ 3 by omega), bWe_canRow_20]
  exact ite3_Q
/-- the row that is chosen among 0 to n -/
def pick (ok : Int → Bool) (g sm : Int → Int64) : Nat → Int
  | 0 => 0
  | n + 1 => if (g ((n + 1 : Nat) : Int) < g (pick ok g sm n) ∨ g ((n + 1 : Nat) : Int) = g (pick ok g sm n) ∧ sm (pick ok g sm n) < sm ((n + 1 : Nat) : Int)) ∧ ok ((n + 1 : Nat) : Int) = true then ((n + 1 : Nat) : Int) else pick ok g sm n
theorem pick_R {ok g sm} : ∀ n : Nat, 0 ≤ pick ok g sm n ∧ pick ok g sm n ≤ n
  | 0 => by unfold pick; omega
  | n + 1 => by
    have := pick_R (ok := ok) (g := g) (sm := sm) n
    unfold pick; split <;> omega
theorem pick_ok {ok : Int → Bool} {g sm : Int → Int64} (h0 : ok 0 = true) : ∀ n : Nat, ok (pick ok g sm n) = true
  | 0 => h0
  | n + 1 => by
    unfold pick
    split
    · rename_i h; exact h.2
    · exact pick_ok h0 n
theorem pick_congr {ok ok' : Int → Bool} {g g' sm sm' : Int → Int64} (h0 : ok 0 = true) : ∀ n : Nat, (∀ r : Int, 0 ≤ r → r ≤ n → ok r = ok' r) → (∀ r : Int, 0 ≤ r → r ≤ n → ok r = true → g r = g' r ∧ sm r = sm' r) → pick ok g sm n = pick ok' g' sm' n
  | 0, _, _ => rfl
  | n + 1, h1, h2 => by
    have ih := pick_congr h0 n (fun r a b => h1 r a (by omega)) (fun r a b => h2 r a (by omega))
    have hr := pick_R (ok := ok) (g := g) (sm := sm) n
    have hk := pick_ok (ok := ok) (g := g) (sm := sm) h0 n
    have e1 := h2 _ hr.1 (by omega) hk
    unfold pick
    rw [← ih, ← h1 _ (by omega) (by omega), ← e1.1, ← e1.2]
    by_cases hc : ok ((n + 1 : Nat) : Int) = true
    · have e2 := h2 _ (by omega) (by omega) hc
      rw [e2.1, e2.2]
    · rw [if_neg (fun z => hc z.2), if_neg (fun z => hc z.2)]
theorem cmp64_eq {x y : Int64} : cmp64 x y = 0 ↔ x = y := by
  have h1 : x < y ↔ x.toInt < y.toInt := Int64.lt_iff_toInt_lt
  have h3 : x = y ↔ x.toInt = y.toInt := Int64.toInt_inj.symm
  unfold cmp64
  split
  · rename_i h; rw [h1] at h; rw [h3]; omega
  · rename_i h
    split
    · rename_i h'; simp [h']
    · rename_i h'; simp [h']
theorem cmp64_gt {x y : Int64} : 0 < cmp64 x y ↔ y < x := by
  have h1 : x < y ↔ x.toInt < y.toInt := Int64.lt_iff_toInt_lt
  have h2 : y < x ↔ y.toInt < x.toInt := Int64.lt_iff_toInt_lt
  have h3 : x = y ↔ x.toInt = y.toInt := Int64.toInt_inj.symm
  unfold cmp64
  rw [h2]
  split
  · rename_i h; rw [h1] at h; omega
  · rename_i h; rw [h1] at h
    split
    · rename_i h'; rw [h3] at h'; omega
    · rename_i h'; rw [h3] at h'; omega
theorem ite_abc {A B C : Prop} [Decidable A] [Decidable B] [Decidable C] : (if A then (1 : Int) else if ¬ B then 0 else if ¬ C then 0 else 1) = if A ∨ B ∧ C then 1 else 0 := by
  by_cases hA : A <;> by_cases hB : B <;> by_cases hC : C <;> simp [hA, hB, hC]
theorem cmp64_le {x y : Int64} : cmp64 x y ≤ 0 ↔ ¬ y < x := by rw [← cmp64_gt]; omega
def okM (M : Mem) (k : Nat) (r : Int) : Bool := decide (cnM M k 0 (dr r 0) ∧ cnM M k 1 (dr r 1) ∧ cnM M k 2 (dr r 2))
def rwM (M : Mem) (b : Nat) : Int := pick (okM M b) (fun r => M.2 23 b r.toNat) (fun r => M.2 24 b r.toNat) 124
abbrev pK (b t i : Nat) : Prop := (t = 20 ∨ t = 21 ∨ t = 22) ∧ i = b
theorem c_keepLeastGain {d : Nat} {M Q X} {b : Nat} {pl : Int} (hp : 0 ≤ pl ∧ pl < 875) : Call (d + 3) qBo_keepLeastGain [vr 0 b, vi pl] M Q X = Q (vi 0) (cpL (sL (sI M 20 b pl.toNat (rwM M b)) 21 b pl.toNat (M.2 23 b (rwM M b).toNat)) 50 b (rwM M b * 3).toNat 22 b (pl * 3).toNat 3) := by
  have key : ∀ (n : Nat) (z : AV), n ≤ 124 → At (d + 2) kBo_keepLeastGain 4 [vr 0 b, vi pl, vi 0, vi 1, JK] [] M Q X = At (d + 2) kBo_keepLeastGain 4 [vr 0 b, vi pl, vi (pick (okM M b) (fun r => M.2 23 b r.toNat) (fun r => M.2 24 b r.toNat) n), vi ((n : Int) + 1), JK] [] M Q X ∨ ∃ z, At (d + 2) kBo_keepLeastGain 4 [vr 0 b, vi pl, vi 0, vi 1, JK] [] M Q X = At (d + 2) kBo_keepLeastGain 4 [vr 0 b, vi pl, vi (pick (okM M b) (fun r => M.2 23 b r.toNat) (fun r => M.2 24 b r.toNat) n), vi ((n : Int) + 1), z] [] M Q X := by
    intro n
    induction n with
    | zero => intro z hn; exact Or.inl rfl
    | succ n ih =>
      intro z hn
      right
      obtain ⟨z, hz⟩ : ∃ z, At (d + 2) kBo_keepLeastGain 4 [vr 0 b, vi pl, vi 0, vi 1, JK] [] M Q X = At (d + 2) kBo_keepLeastGain 4 [vr 0 b, vi pl, vi (pick (okM M b) (fun r => M.2 23 b r.toNat) (fun r => M.2 24 b r.toNat) n), vi ((n : Int) + 1), z] [] M Q X := by
        rcases ih z (by omega) with h | h
        · exact ⟨_, h⟩
        · exact h
      have hr := pick_R (ok := okM M b) (g := fun r => M.2 23 b r.toNat) (sm := fun r => M.2 24 b r.toNat) n
      generalize hpn : pick (okM M b) (fun r => M.2 23 b r.toNat) (fun r => M.2 24 b r.toNat) n = pn at hz hr
      have en : ((n + 1 : Nat) : Int) = (n : Int) + 1 := by omega
      have ew : w32 ((n : Int) + 1 + 1) = (n : Int) + 1 + 1 := w32_id (by omega)
      rw [hz, bBo_keepLeastGain_4, if_neg (by omega), bBo_keepLeastGain_7 (by omega), bBo_keepLeastGain_17 (by omega), bBo_keepLeastGain_27 (by omega)]
      simp only [bBo_keepLeastGain_37, bBo_keepLeastGain_39, ite_At]
      have hv : (if cmp64 (M.2 23 b ((n : Int) + 1).toNat) (M.2 23 b pn.toNat) < 0 then (1 : Int) else if cmp64 (M.2 23 b ((n : Int) + 1).toNat) (M.2 23 b pn.toNat) ≠ 0 then 0 else if cmp64 (M.2 24 b ((n : Int) + 1).toNat) (M.2 24 b pn.toNat) ≤ 0 then 0 else 1) = if (M.2 23 b ((n : Int) + 1).toNat < M.2 23 b pn.toNat ∨ M.2 23 b ((n : Int) + 1).toNat = M.2 23 b pn.toNat ∧ M.2 24 b pn.toNat < M.2 24 b ((n : Int) + 1).toNat) then 1 else 0 := by
        simp only [cmp64_lt, cmp64_le, ne_eq, cmp64_eq]
        exact ite_abc
      rw [hv, bBo_keepLeastGain_40]
      by_cases hB : (M.2 23 b ((n : Int) + 1).toNat < M.2 23 b pn.toNat ∨ M.2 23 b ((n : Int) + 1).toNat = M.2 23 b pn.toNat ∧ M.2 24 b pn.toNat < M.2 24 b ((n : Int) + 1).toNat)
      · rw [if_pos hB, if_neg (by omega), bBo_keepLeastGain_43, c_canRow (by omega), KV_eq, bBo_keepLeastGain_47]
        by_cases hC : cnM M b 0 (dr ((n : Int) + 1) 0) ∧ cnM M b 1 (dr ((n : Int) + 1) 1) ∧ cnM M b 2 (dr ((n : Int) + 1) 2)
        · rw [if_pos hC, if_neg (by omega), bBo_keepLeastGain_48, bBo_keepLeastGain_50, ew]
          refine ⟨vi 1, ?_⟩
          rw [pick, hpn, en, if_pos ⟨hB, decide_eq_true hC⟩]
        · rw [if_neg hC, if_pos rfl, bBo_keepLeastGain_50, ew]
          refine ⟨vi 1, ?_⟩
          rw [pick, hpn, en, if_neg (fun z => hC (of_decide_eq_true z.2))]
      · rw [if_neg hB, if_pos rfl, bBo_keepLeastGain_50, ew]
        refine ⟨vi 0, ?_⟩
        rw [pick, hpn, en, if_neg (fun z => hB z.1)]
  obtain ⟨z, hz⟩ : ∃ z, At (d + 2) kBo_keepLeastGain 4 [vr 0 b, vi pl, vi 0, vi 1, JK] [] M Q X = At (d + 2) kBo_keepLeastGain 4 [vr 0 b, vi pl, vi (rwM M b), vi (((124 : Nat) : Int) + 1), z] [] M Q X := by
    rcases key 124 JK (by omega) with h | h
    · exact ⟨_, h⟩
    · exact h
  have hr := pick_R (ok := okM M b) (g := fun r => M.2 23 b r.toNat) (sm := fun r => M.2 24 b r.toNat) 124
  have hr : 0 ≤ rwM M b ∧ rwM M b ≤ 124 := hr
  rw [eBo_keepLeastGain, bBo_keepLeastGain_0, hz, bBo_keepLeastGain_4, if_pos (by omega), bBo_keepLeastGain_52 (by omega), eBo_keepWorths, bBo_keepWorths_0 (by rw [w32_id (by omega), w32_id (by omega)]; omega), KU_eq, bBo_keepLeastGain_69, w32_id (by omega), w32_id (by omega)]
  rfl
