/-! LAYER 3, SHOPS IN THE REFERENCE -/
def MO (B : BT) (n : Nat) (T : TT) (M : Mem) (res : (Int × Int) ⊕ (RT × Nat)) (M' : Mem) : Prop := Fs pMc M M' ∧ match res with
  | .inl e => e.1 ≠ 0 ∧ MF B n e.1 e.2 M'
  | .inr (D, k) => MK B n D T M' k
theorem TM.d {B n M} (h : TM B n M) {t i j v} (ht : t ≠ 10 ∧ t ≠ 54 ∧ t ≠ 55) : TM B n (sI M t i j v) := ⟨by rw [sI_ne (by omega)]; exact h.1, h.2.1, fun i hi => by rw [sI_ne (by omega), sI_ne (by omega), sI_ne (by omega)]; exact h.2.2 i hi⟩
theorem MSt.d {B n M k o} (h : MSt B n M k o) {t i j v} (ht : t ≠ 10 ∧ t ≠ 54 ∧ t ≠ 55) : MSt B n (sI M t i j v) k o :=
  ⟨h.1.d ht, by rw [sI_ne (by omega)]; exact h.2.1, h.2.2.1, by rw [sI_ne (by omega)]; exact h.2.2.2.1, by rw [sI_ne (by omega)]; exact h.2.2.2.2⟩
theorem MF.d {B n a b M} (h : MF B n a b M) {t i j v} (ht : t ≠ 10 ∧ t ≠ 54 ∧ t ≠ 55) : MF B n a b (sI M t i j v) :=
  ⟨h.1.d ht, by obtain ⟨k, q1, q2⟩ := h.2.1; exact ⟨k, by rw [sI_ne (by omega)]; exact q1, q2⟩, by rw [sI_ne (by omega)]; exact h.2.2.1, by rw [sI_ne (by omega)]; exact h.2.2.2.1, by rw [sI_ne (by omega)]; exact h.2.2.2.2⟩
theorem MSt.j {B n M k o} (h : MSt B n M k o) {j v} (hj : 25 ≤ j) : MSt B n (sI M 10 0 j v) k o :=
  ⟨h.1.at (by omega), by rw [sI_ne (by omega)]; exact h.2.1, h.2.2.1, by rw [sI_ne (by omega)]; exact h.2.2.2.1, by rw [sI_ne (by omega)]; exact h.2.2.2.2⟩
theorem MF.j {B n a b M} (h : MF B n a b M) {j v} (hj : 25 ≤ j) : MF B n a b (sI M 10 0 j v) :=
  ⟨h.1.at (by omega), by obtain ⟨k, q1, q2⟩ := h.2.1; exact ⟨k, by rw [sI_ne (by omega)]; exact q1, q2⟩, by rw [sI_ne (by omega)]; exact h.2.2.1, by rw [sI_ne (by omega)]; exact h.2.2.2.1, by rw [sI_ne (by omega)]; exact h.2.2.2.2⟩
theorem m90 {d : Nat} {M : Mem} {Q : AV → Mem → Prop} {X : Nat → Mem → Prop} {s p : Nat} {x3 a0 : Int} {z2 z4 : AV} (hs : s < 3) (hp : M.1 63 0 s + 1 = (p : Int)) (h4 : p < 4) : At d kMo_shopHere 90 [vr 10 0, vi (s : Int), z2, vi x3, z4] [vi a0] M Q X = At d kMo_shopHere 39 [vr 10 0, vi (s : Int), z2, vi x3, vi a0] [] (sI (sI (sI M 63 0 s (p : Int)) 65 s p x3) 67 s p a0) Q X := by
  have ew : w32 (M.1 63 0 s + 1) = (p : Int) := by rw [hp, w32_id (by omega)]
  have en : ((s : Int)).toNat = s := by omega
  have ep : ((p : Int)).toNat = p := by omega
  have h0 : 0 * 3 + s = s := by omega
  have e2 : (sI (sI M 63 0 s (p : Int)) 65 s p x3).1 63 0 s = (p : Int) := by rw [sI_ne (by omega), sI_eq]
  rw [bMo_shopHere_90 (by simp only [en, ew, sI_eq, h0, ep, e2]; omega)]
  simp only [en, ew, sI_eq, h0, ep, e2]
theorem MK.pace {B n D T M k} {s p : Nat} {c v : Int} (h : MK B n D T M k) (hs : s < 3) (hsD : (s : Int) < D 4 1) (hp : D 34 s + 1 = (p : Int)) (h4 : p < 4) : MK B n (sD (sD (sD D 34 s (p : Int)) 35 (s * 5 + p) c) 36 (s * 5 + p) v) T (sI (sI (sI M 63 0 s (p : Int)) 65 s p c) 67 s p v) k := by
  obtain ⟨h1, h2, ⟨h3, h4'⟩, h5, h6⟩ := h
  refine ⟨((h1.d (by omega)).d (by omega)).d (by omega), ?_, ⟨?_, ?_⟩, ?_, ?_⟩
  · rw [sI_ne (by omega), sI_ne (by omega), sI_ne (by omega)]; exact h2
  · have e : ∀ j, (sI (sI (sI M 63 0 s (p : Int)) 65 s p c) 67 s p v).1 10 0 j = M.1 10 0 j := fun j => by rw [sI_ne (by omega), sI_ne (by omega), sI_ne (by omega)]
    have eD : ∀ j, sD (sD (sD D 34 s (p : Int)) 35 (s * 5 + p) c) 36 (s * 5 + p) v 4 j = D 4 j := fun j => by rw [sD_ne (by omega), sD_ne (by omega), sD_ne (by omega)]
    simp only [e, eD]; exact h3
  · intro s' hs' hs2
    rw [sD_ne (by omega), sD_ne (by omega), sD_ne (by omega)] at hs2
    obtain ⟨g1, g2, g3⟩ := h4' s' hs' hs2
    unfold MDs
    rw [sI_ne (a := 62) (by omega), sI_ne (a := 62) (by omega), sI_ne (a := 62) (by omega), sD_ne (t' := 33) (by omega), sD_ne (t' := 33) (by omega), sD_ne (t' := 33) (by omega)]
    by_cases e : s' = s
    · subst e
      have e34 : sD (sD (sD D 34 s' (p : Int)) 35 (s' * 5 + p) c) 36 (s' * 5 + p) v 34 s' = (p : Int) := by rw [sD_ne (by omega), sD_ne (by omega), sD_eq]
      rw [e34]
      refine ⟨g1, by rw [sI_ne (by omega), sI_ne (by omega), sI_eq], fun q q1 q2 q3 => ?_⟩
      by_cases eq : q = p
      · subst eq
        rw [sI_ne (by omega), sI_eq, sI_eq, sD_ne (by omega), sD_eq, sD_eq]
        exact ⟨rfl, rfl⟩
      · rw [sI_ne (by omega), sI_ne (by omega), sI_ne (by omega), sI_ne (by omega), sI_ne (by omega), sI_ne (by omega), sD_ne (by omega), sD_ne (by omega), sD_ne (by omega), sD_ne (by omega), sD_ne (by omega), sD_ne (by omega)]
        exact g3 q q1 q2 (by omega)
    · have e34 : sD (sD (sD D 34 s (p : Int)) 35 (s * 5 + p) c) 36 (s * 5 + p) v 34 s' = D 34 s' := by rw [sD_ne (by omega), sD_ne (by omega), sD_ne (by omega)]
      rw [e34]
      refine ⟨g1, by rw [sI_ne (by omega), sI_ne (by omega), sI_ne (by omega)]; exact g2, fun q q1 q2 q3 => ?_⟩
      rw [sI_ne (by omega), sI_ne (by omega), sI_ne (by omega), sI_ne (by omega), sI_ne (by omega), sI_ne (by omega), sD_ne (by omega), sD_ne (by omega), sD_ne (by omega), sD_ne (by omega), sD_ne (by omega), sD_ne (by omega)]
      exact g3 q q1 q2 q3
  · rw [sI_ne (by omega), sI_ne (by omega), sI_ne (by omega)]; exact h5
  · rw [sI_ne (by omega), sI_ne (by omega), sI_ne (by omega)]; exact h6
