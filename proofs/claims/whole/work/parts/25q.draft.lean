/-! LAYER 3, WHAT A READ DRAFT IS -/
def WS (D : RT) (s : Nat) : Prop := (0 ≤ D 33 s ∧ D 33 s ≤ 4) ∧ ((s : Int) < D 4 1 ↔ 1 ≤ D 33 s) ∧ (0 ≤ D 34 s ∧ D 34 s ≤ 3) ∧ (D 4 1 ≤ (s : Int) → D 34 s = 0) ∧ ∀ p : Nat, p < 5 → (0 ≤ D 35 (s * 5 + p) ∧ D 35 (s * 5 + p) ≤ 99) ∧ (0 ≤ D 36 (s * 5 + p) ∧ D 36 (s * 5 + p) ≤ 4) ∧ (p = 0 ∨ D 34 s < (p : Int) → D 35 (s * 5 + p) = 0 ∧ D 36 (s * 5 + p) = 0)
def WD (D : RT) : Prop := ((0 ≤ D 4 1 ∧ D 4 1 ≤ 3) ∧ (1 ≤ D 4 2 ∧ D 4 2 ≤ 6) ∧ (0 ≤ D 4 3 ∧ D 4 3 ≤ 9999) ∧ (0 ≤ D 4 4 ∧ D 4 4 ≤ 9999) ∧ (0 ≤ D 4 5 ∧ D 4 5 ≤ 4) ∧ (0 ≤ D 4 6 ∧ D 4 6 ≤ 3) ∧ (D 4 6 = 0 → D 4 5 = 0)) ∧ ∀ s : Nat, s < 3 → WS D s
theorem WS.of {D D' : RT} {s : Nat} (h : WS D s) (h1 : D' 4 1 = D 4 1) (h2 : ∀ t j, 33 ≤ t → t ≤ 36 → D' t j = D t j) : WS D' s := by
  unfold WS at h ⊢
  rw [h1, h2 33 s (by omega) (by omega), h2 34 s (by omega) (by omega)]
  refine ⟨h.1, h.2.1, h.2.2.1, h.2.2.2.1, fun p hp => ?_⟩
  rw [h2 35 _ (by omega) (by omega), h2 36 _ (by omega) (by omega)]
  exact h.2.2.2.2 p hp
theorem WD0 : WD D0 := by
  refine ⟨by unfold D0; simp, fun s hs => ?_⟩
  unfold WS D0
  simp
/-- paces: told so far for the shop s: 3 - f -/
theorem pcx_wd {B : BT} {n s : Nat} (hs : s < 3) : ∀ (f : Nat) (D : RT) (k : Nat) (D' : RT) (k1 : Nat), f ≤ 3 → k ≤ n → WD D → (s : Int) < D 4 1 → D 34 s = ((3 - f : Nat) : Int) → pcx B n s f D k = .inr (D', k1) → WD D' := by
  intro f
  induction f with
  | zero =>
    intro D k D' k1 hf hk hD _ _ h
    unfold pcx at h
    split at h
    · cases h
    · cases h; exact hD
  | succ f ih =>
    intro D k D' k1 hf hk hD hsD h34 h
    unfold pcx at h
    split at h
    · rename_i hw
      have hl := isW_le hk hw
      rw [show (wd 20).length = 4 from rfl] at hl
      split at h
      · cases h
      · rename_i c k2 he
        have h2 := nmb_le hl he
        have hb := blk_le (B := B) h2.2.1
        split at h
        · rename_i hw2
          have hl2 := isW_le hb.2 hw2
          rw [show (wd 21).length = 2 from rfl] at hl2
          split at h
          · cases h
          · rename_i v k3 he3
            have h3 := nmb_le hl2 he3
            have hb3 := blk_le (B := B) h3.2.1
            refine ih _ _ _ _ (by omega) hb3.2 ?_ ?_ ?_ h
            · obtain ⟨d1, d2⟩ := hD
              refine ⟨?_, ?_⟩
              · simp only [sD_ne (D := sD (sD D 34 s ((3 - f : Nat) : Int)) 35 (s * 5 + (3 - f)) c) (t := 36) (t' := 4) (Or.inl (by omega)), sD_ne (D := sD D 34 s ((3 - f : Nat) : Int)) (t := 35) (t' := 4) (Or.inl (by omega)), sD_ne (D := D) (t := 34) (t' := 4) (Or.inl (by omega))]
                exact d1
              · intro s' hs'
                have w := d2 s' hs'
                unfold WS at w ⊢
                obtain ⟨w1, w2, w3, w4, w5⟩ := w
                rw [sD_ne (by omega), sD_ne (by omega), sD_ne (by omega), sD_ne (by omega), sD_ne (by omega), sD_ne (by omega)]
                by_cases e : s' = s
                · subst e
                  have e34 : sD (sD (sD D 34 s' ((3 - f : Nat) : Int)) 35 (s' * 5 + (3 - f)) c) 36 (s' * 5 + (3 - f)) v 34 s' = ((3 - f : Nat) : Int) := by rw [sD_ne (by omega), sD_ne (by omega), sD_eq]
                  rw [e34]
                  refine ⟨w1, w2, by omega, by omega, fun p hp => ?_⟩
                  have w5p := w5 p hp
                  by_cases ep : p = 3 - f
                  · subst ep
                    rw [sD_ne (t' := 35) (by omega), sD_eq, sD_eq]
                    refine ⟨by omega, by omega, fun z => by omega⟩
                  · rw [sD_ne (t' := 35) (by omega), sD_ne (t' := 35) (by omega), sD_ne (t' := 35) (by omega), sD_ne (t' := 36) (by omega), sD_ne (t' := 36) (by omega), sD_ne (t' := 36) (by omega)]
                    refine ⟨w5p.1, w5p.2.1, fun z => w5p.2.2 (by omega)⟩
                · have e34 : sD (sD (sD D 34 s ((3 - f : Nat) : Int)) 35 (s * 5 + (3 - f)) c) 36 (s * 5 + (3 - f)) v 34 s' = D 34 s' := by rw [sD_ne (by omega), sD_ne (by omega), sD_ne (by omega)]
                  rw [e34]
                  refine ⟨w1, w2, w3, w4, fun p hp => ?_⟩
                  have w5p := w5 p hp
                  rw [sD_ne (t' := 35) (by omega), sD_ne (t' := 35) (by omega), sD_ne (t' := 35) (by omega), sD_ne (t' := 36) (by omega), sD_ne (t' := 36) (by omega), sD_ne (t' := 36) (by omega)]
                  exact w5p
            · rw [sD_ne (by omega), sD_ne (by omega), sD_ne (by omega)]; exact hsD
            · rw [sD_ne (by omega), sD_ne (by omega), sD_eq]
        · cases h
    · cases h; exact hD
