/-! LAYER 3, THE REFERENCE WEIGHS A ROW -/
theorem dg_ct {p m k : Int} (hp : 0 ≤ p ∧ p < 125) (h : ∀ k : Int, 0 ≤ k → k < 3 → bit m k ≤ dg p k) (hk : 0 ≤ k ∧ k < 3) : dg (ct p m) k = dg p k - bit m k ∧ 0 ≤ ct p m ∧ ct p m < 125 := by
  have e0 : dg p 0 = p % 5 := rfl
  have e1 : dg p 1 = p / 5 % 5 := rfl
  have e2 : dg p 2 = p / 25 % 5 := rfl
  have h0 := h 0 (by omega) (by omega)
  have h1 := h 1 (by omega) (by omega)
  have h2 := h 2 (by omega) (by omega)
  have b0 := bit_R m 0
  have b1 := bit_R m 1
  have b2 := bit_R m 2
  rw [e0] at h0
  rw [e1] at h1
  rw [e2] at h2
  unfold ct
  refine ⟨?_, by omega, by omega⟩
  rcases (by omega : k = 0 ∨ k = 1 ∨ k = 2) with rfl | rfl | rfl
  · rw [e0]; show (p - bit m 0 - 5 * bit m 1 - 25 * bit m 2) % 5 = _; omega
  · rw [e1]; show (p - bit m 0 - 5 * bit m 1 - 25 * bit m 2) / 5 % 5 = _; omega
  · rw [e2]; show (p - bit m 0 - 5 * bit m 1 - 25 * bit m 2) / 25 % 5 = _; omega
/-- the doings of a row, by shop -/
def d3 (d0 d1 d2 i : Int) : Int := if i = 0 then d0 else if i = 1 then d1 else d2
theorem bit_ia3 {b d0 d1 d2 k : Int} (hk : 0 ≤ k ∧ k < 3) : bit (ia b d0 d1 d2) k = if d3 d0 d1 d2 k = 4 then 0 else bit b k := by
  obtain ⟨h0, h1, h2⟩ := bit_ia (b := b) (d0 := d0) (d1 := d1) (d2 := d2)
  rcases (by omega : k = 0 ∨ k = 1 ∨ k = 2) with rfl | rfl | rfl
  · exact h0
  · exact h1
  · exact h2
theorem dr3 {a b c k : Int} (ha : 0 ≤ a ∧ a < 5) (hb : 0 ≤ b ∧ b < 5) (hc : 0 ≤ c ∧ c < 5) (hk : 0 ≤ k ∧ k < 3) : dr (mm a b c) k = d3 a b c k := by
  obtain ⟨h0, h1, h2⟩ := dr_mm ha hb hc
  rcases (by omega : k = 0 ∨ k = 1 ∨ k = 2) with rfl | rfl | rfl
  · exact h0
  · exact h1
  · exact h2
theorem md_R {d u : Int} (hu : 0 ≤ u ∧ u ≤ 1) : 0 ≤ md d u ∧ md d u ≤ 2 := by unfold md; split <;> omega
theorem md3 {d0 d1 d2 u0 u1 u2 k : Int} : d3 (md d0 u0) (md d1 u1) (md d2 u2) k = md (d3 d0 d1 d2 k) (d3 u0 u1 u2 k) := by
  unfold d3; repeat' split
  all_goals rfl
theorem bit3 {m k : Int} (hk : 0 ≤ k ∧ k < 3) : d3 (bit m 0) (bit m 1) (bit m 2) k = bit m k := by
  rcases (by omega : k = 0 ∨ k = 1 ∨ k = 2) with rfl | rfl | rfl <;> rfl
/-- where a week ends when just those of m make a step -/
theorem end_eq {R : RT} (h : WR R) {p b m d0 d1 d2 : Int} (hS : Sta R p b) (hg : Gng p b) (hm : ∀ k : Int, 0 ≤ k → k < 3 → bit m k = 1 → bit b k = 1 ∧ d3 d0 d1 d2 k ≠ 4) :
    Sta R (ct p m) (ia b d0 d1 d2) ∧ (∀ k : Int, 0 ≤ k → k < 3 → dg (ct p m) k ≤ dg p k) ∧ wnb (ct p m) (ia b d0 d1 d2) = won (cd p b) (mm (md d0 (bit m 0)) (md d1 (bit m 1)) (md d2 (bit m 2))) ∧ cd (ct p m) (ia b d0 d1 d2) = aft (cd p b) (mm (md d0 (bit m 0)) (md d1 (bit m 1)) (md d2 (bit m 2))) ∧ (hfP (ct p m) (ia b d0 d1 d2) ↔ won (cd p b) (mm (md d0 (bit m 0)) (md d1 (bit m 1)) (md d2 (bit m 2))) ≠ 0) := by
  obtain ⟨s1, s2, s3⟩ := hS
  have hle : ∀ k : Int, 0 ≤ k → k < 3 → bit m k ≤ dg p k := by
    intro k k1 k2
    have hb := bit_R m k
    have hd := dg_R p k
    by_cases hz : bit m k = 1
    · have := hg k k1 k2 (hm k k1 k2 hz).1; omega
    · omega
  have hto : ∀ k : Int, 0 ≤ k → k < 3 → dg (ct p m) k = dg p k - bit m k := fun k k1 k2 => (dg_ct s1 hle ⟨k1, k2⟩).1
  have hR := (dg_ct s1 hle (k := 0) (by omega)).2
  have hmR : ∀ d u : Int, 0 ≤ md d (bit m u) ∧ md d (bit m u) ≤ 2 := fun d u => md_R (bit_R m u)
  have hdr : ∀ k : Int, 0 ≤ k → k < 3 → dr (mm (md d0 (bit m 0)) (md d1 (bit m 1)) (md d2 (bit m 2))) k = md (d3 d0 d1 d2 k) (bit m k) := by
    intro k k1 k2
    have r0 := hmR d0 0
    have r1 := hmR d1 1
    have r2 := hmR d2 2
    rw [dr3 (by omega) (by omega) (by omega) ⟨k1, k2⟩, md3, bit3 ⟨k1, k2⟩]
  generalize hmm : mm (md d0 (bit m 0)) (md d1 (bit m 1)) (md d2 (bit m 2)) = mo at *
  have hia := fun k (hk : (0 : Int) ≤ k ∧ k < 3) => bit_ia3 (b := b) (d0 := d0) (d1 := d1) (d2 := d2) hk
  have hsta : Sta R (ct p m) (ia b d0 d1 d2) := by
    refine ⟨hR, ia_R b d0 d1 d2, ?_⟩
    intro s a1 a2 a3
    have hz := s3 s a1 a2 a3
    have h1 := dg_R (ct p m) s
    have h2 := bit_R m s
    refine ⟨by rw [hto s a1 a2] at h1 ⊢; omega, ?_⟩
    rw [hia s ⟨a1, a2⟩, hz.2]; split <;> rfl
  have dcd := fun k (hk : (0 : Int) ≤ k ∧ k < 3) => dg_cd (p := p) (b := b) hk
  have hzj : ∀ k : Int, 0 ≤ k → k < 3 → zj (ct p m) (ia b d0 d1 d2) k = if dg (cd p b) k = 1 ∧ dr mo k = 1 then 1 else 0 := by
    intro k k1 k2
    have hb := bit_R b k
    have hbm := bit_R m k
    have hd := dg_R p k
    have hgk := hg k k1 k2
    have hmk := hm k k1 k2
    unfold zj
    rw [hia k ⟨k1, k2⟩, hto k k1 k2, dcd k ⟨k1, k2⟩, hdr k k1 k2]
    unfold lsp md
    by_cases h4 : d3 d0 d1 d2 k = 4
    · rw [if_neg (by rw [if_pos h4]; omega), if_neg (by rw [if_pos h4]; omega)]
    · by_cases hb1 : bit b k = 1
      · simp only [if_neg h4, if_pos hb1, hb1, true_and]
        have := hgk hb1
        by_cases hq : dg p k - bit m k = 0
        · rw [if_pos hq]
          exact (if_pos (show dg p k = 1 ∧ bit m k = 1 by omega)).symm
        · rw [if_neg hq]
          exact (if_neg (show ¬ (dg p k = 1 ∧ bit m k = 1) by omega)).symm
      · simp only [if_neg h4, if_neg hb1, hb1, false_and, if_false]
        rw [if_neg (by omega)]
  have hlsp : ∀ k : Int, 0 ≤ k → k < 3 → lsp (ct p m) (ia b d0 d1 d2) k = ad (cd p b) mo k := by
    intro k k1 k2
    have hb := bit_R b k
    have hbm := bit_R m k
    have hd := dg_R p k
    have hgk := hg k k1 k2
    have hmk := hm k k1 k2
    have e1 := hia k ⟨k1, k2⟩
    have e2 := hto k k1 k2
    have e3 := dcd k ⟨k1, k2⟩
    have e4 := hdr k k1 k2
    unfold lsp ad
    by_cases h4 : d3 d0 d1 d2 k = 4
    · rw [if_pos h4] at e1
      have e5 : md (d3 d0 d1 d2 k) (bit m k) = 2 := by unfold md; rw [if_pos h4]
      rw [if_neg (by omega), if_neg (by omega), if_neg (by omega)]
    · rw [if_neg h4] at e1
      have e5 : md (d3 d0 d1 d2 k) (bit m k) = bit m k := by unfold md; rw [if_neg h4]
      by_cases hb1 : bit b k = 1
      · have := hgk hb1
        have e6 : lsp p b k = dg p k := by unfold lsp; rw [if_pos hb1]
        rw [if_pos (by omega)]
        by_cases hq : dg (cd p b) k = 1 ∧ dr mo k = 1
        · rw [if_pos hq]; omega
        · rw [if_neg hq, if_pos (by omega)]; omega
      · have e6 : lsp p b k = 0 := by unfold lsp; rw [if_neg hb1]
        rw [if_neg (by omega), if_neg (by omega), if_neg (by omega)]
  have pw0 : pw 0 = 1 := rfl
  have pw1 : pw 1 = 2 := rfl
  have pw2 : pw 2 = 4 := rfl
  have hw : wnb (ct p m) (ia b d0 d1 d2) = won (cd p b) mo := by
    have t : ∀ k : Int, 0 ≤ k → k < 3 → wn1 (cd p b) mo k = zj (ct p m) (ia b d0 d1 d2) k * pw k := by
      intro k k1 k2
      rw [hzj k k1 k2]
      unfold wn1; split <;> simp
    unfold wnb won
    rw [t 0 (by omega) (by omega), t 1 (by omega) (by omega), t 2 (by omega) (by omega), pw0, pw1, pw2]
    omega
  refine ⟨hsta, fun k k1 k2 => by have := bit_R m k; rw [hto k k1 k2]; omega, hw, ?_, ?_⟩
  · unfold cd
    rw [hlsp 0 (by omega) (by omega), hlsp 1 (by omega) (by omega), hlsp 2 (by omega) (by omega)]
    have t : ∀ s : Int, af1 (lsp p b 0 + lsp p b 1 * 5 + lsp p b 2 * 25) mo s = ad (lsp p b 0 + lsp p b 1 * 5 + lsp p b 2 * 25) mo s * su s := by
      intro s
      unfold af1 ad
      repeat' split
      all_goals simp
    have u0 : su 0 = 1 := rfl
    have u1 : su 1 = 5 := rfl
    have u2 : su 2 = 25 := rfl
    unfold aft
    rw [t, t, t, u0, u1, u2]
    show ad (lsp p b 0 + lsp p b 1 * 5 + lsp p b 2 * 25) mo 0 + ad (lsp p b 0 + lsp p b 1 * 5 + lsp p b 2 * 25) mo 1 * 5 + ad (lsp p b 0 + lsp p b 1 * 5 + lsp p b 2 * 25) mo 2 * 25 = _
    omega
  · rw [← hw]
    have z0 := zj_R (ct p m) (ia b d0 d1 d2) 0
    have z1 := zj_R (ct p m) (ia b d0 d1 d2) 1
    have z2 := zj_R (ct p m) (ia b d0 d1 d2) 2
    have q : ∀ k : Int, (bit (ia b d0 d1 d2) k = 1 ∧ dg (ct p m) k = 0) ↔ zj (ct p m) (ia b d0 d1 d2) k = 1 := by
      intro k; unfold zj; split <;> simp [*]
    unfold hfP
    rw [q 0, q 1, q 2]
    unfold wnb
    omega
