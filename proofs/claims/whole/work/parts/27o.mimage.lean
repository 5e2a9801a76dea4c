/-! LAYER 3, IMAGES: the reference -/
/-- what the reference keeps in an image -/
def KpM (M M' : Mem) (m : Nat) : Prop := (∀ j : Nat, (j : Int) < M.1 10 0 11 → M'.1 94 m j = M.1 55 0 j) ∧ M'.1 97 0 m = (if M.1 10 0 20 = 0 then -1 else M.1 10 0 11) ∧ (∀ i x : Nat, i < 15 → x < 6 → M'.1 101 (m * 15 + i) x = M.1 87 i x) ∧ (∀ j : Nat, j < 9 → M'.1 96 m j = M.1 92 0 j) ∧ M'.1 96 m 9 = M.1 10 0 54
abbrev pIm (m : Nat) (t i j : Nat) : Prop := (t = 94 ∧ i = m) ∨ (t = 97 ∧ i = 0 ∧ j = m) ∨ (t = 101 ∧ m * 15 ≤ i ∧ i < m * 15 + 15) ∨ (t = 96 ∧ i = m) ∨ (t = 10 ∧ i = 0 ∧ (j = 0 ∨ j = 55))
section
variable {d : Nat} {Q : AV → Mem → Prop} {X : Nat → Mem → Prop}
theorem m_im1 {M : Mem} {m : Nat} (hm : M.1 10 0 55 = (m : Int)) (hm3 : m < 3) (ht : 0 ≤ M.1 10 0 11 ∧ M.1 10 0 11 ≤ 500) {z2 z3 : AV}
    (hq : ∀ M', Fs (fun t i _ => t = 94 ∧ i = m) M M' → (∀ j : Nat, (j : Int) < M.1 10 0 11 → M'.1 94 m j = M.1 55 0 j) → ∀ z1, At d kMo_image 28 [vr 10 0, z1, z2, z3] [] M' Q X) : At d kMo_image 11 [vr 10 0, vi 0, z2, z3] [] M Q X := by
  refine loop_up (fun x M' => At d kMo_image 11 [vr 10 0, vi x, z2, z3] [] M' Q X) (fun x M' => Fs (fun t i _ => t = 94 ∧ i = m) M M' ∧ ∀ j : Nat, (j : Int) < x → M'.1 94 m j = M.1 55 0 j) 0 (M.1 10 0 11) ?_ ?_ 0 M (by omega) (by omega) ⟨Fs.rf, fun j h => by omega⟩
  · intro M' h
    show At _ _ _ _ _ _ _ _
    rw [bMo_image_11, h.1.g1 10 0 11 (by omega), if_pos (by omega)]
    exact hq M' h.1 h.2 _
  · intro x M' x0 x1 h hn
    show At _ _ _ _ _ _ _ _
    have e55 : M'.1 10 0 55 = (m : Int) := (h.1.g1 10 0 55 (by omega)).trans hm
    rw [bMo_image_11, h.1.g1 10 0 11 (by omega), if_neg (by omega), bMo_image_15 (by rw [e55]; omega), e55, w32_id (by omega), Int.toNat_natCast, Nat.zero_mul, Nat.zero_add, h.1.g1 55 0 _ (by omega)]
    refine hn _ ⟨h.1.sI ⟨rfl, rfl⟩, ?_⟩
    intro j hj
    by_cases e : j = x.toNat
    · subst e; exact sI_eq
    · rw [sI_ne (by omega)]; exact h.2 j (by omega)
theorem m_im2 {M : Mem} {m : Nat} (hm : M.1 10 0 55 = (m : Int)) (hm3 : m < 3) {z2 z3 : AV}
    (hq : ∀ M', Fs (fun t i _ => t = 101 ∧ m * 15 ≤ i ∧ i < m * 15 + 15) M M' → (∀ i x : Nat, i < 15 → x < 6 → M'.1 101 (m * 15 + i) x = M.1 87 i x) → ∀ z1 z2 z3, At d kMo_image 80 [vr 10 0, z1, z2, z3] [] M' Q X) : At d kMo_image 42 [vr 10 0, vi 0, z2, z3] [] M Q X := by
  refine loop356 (fun a M' => ∀ z3 z4, At d kMo_image 42 [vr 10 0, vi a, z3, z4] [] M' Q X) (fun a b M' => ∀ z4, At d kMo_image 47 [vr 10 0, vi a, vi b, z4] [] M' Q X) (fun a b c M' => At d kMo_image 52 [vr 10 0, vi a, vi b, vi c] [] M' Q X) (fun q M' => Fs (fun t i _ => t = 101 ∧ m * 15 ≤ i ∧ i < m * 15 + 15) M M' ∧ ∀ i j : Nat, i < 15 → j < 6 → ((i * 6 + j : Nat) : Int) < q → M'.1 101 (m * 15 + i) j = M.1 87 i j) ?_ ?_ ?_ ?_ ?_ ?_ M ⟨Fs.rf, fun i j _ _ h => by omega⟩ z2 z3
  · intro M' h z3 z4
    rw [bMo_image_42, if_pos (by omega)]
    exact hq M' h.1 (fun i j a b => h.2 i j a b (by omega)) _ _ _
  · intro a M' a0 a1 h z3 z4
    rw [bMo_image_42, if_neg (by omega), bMo_image_45]; exact h z4
  · intro a M' a0 a1 h z4
    rw [bMo_image_47, if_pos (by omega), bMo_image_78, w32_id (by omega)]; exact h _ _
  · intro a b M' a0 a1 b0 b1 h z4
    rw [bMo_image_47, if_neg (by omega), bMo_image_50]; exact h
  · intro a b M' a0 a1 b0 b1 h
    rw [bMo_image_52, if_pos (by omega), bMo_image_76, w32_id (by omega)]; exact h _
  · intro a b c M' a0 a1 b0 b1 c0 c1 h hn
    have e55 : M'.1 10 0 55 = (m : Int) := (h.1.g1 10 0 55 (by omega)).trans hm
    rw [bMo_image_52, if_neg (by omega), bMo_image_55 (by rw [e55]; omega), e55, w32_id (by omega), h.1.g1 87 _ _ (by omega), Int.toNat_natCast, show ((0 * 3 + m) * 3 + a.toNat) * 5 + b.toNat = m * 15 + (a.toNat * 5 + b.toNat) by omega, show (0 * 3 + a.toNat) * 5 + b.toNat = a.toNat * 5 + b.toNat by omega]
    refine hn _ ⟨h.1.sI (by omega), ?_⟩
    intro i j hi hj hlt
    by_cases e : i = a.toNat * 5 + b.toNat ∧ j = c.toNat
    · obtain ⟨rfl, rfl⟩ := e; exact sI_eq
    · rw [sI_ne (by omega)]; exact h.2 i j hi hj (by omega)
theorem m_im3 {M : Mem} {m : Nat} (hm : M.1 10 0 55 = (m : Int)) (hm3 : m < 3) {z1 z2 z3 : AV}
    (hq : ∀ M', Fs (fun t i j => (t = 96 ∧ i = m) ∨ (t = 10 ∧ i = 0 ∧ j = 55)) M M' → (∀ j : Nat, j < 9 → M'.1 96 m j = M.1 92 0 j) → M'.1 96 m 9 = M.1 10 0 54 → M'.1 10 0 55 = (m : Int) + 1 → Q (vi ((m : Int) + 1)) M') : At d kMo_image 80 [vr 10 0, z1, z2, z3] [] M Q X := by
  rw [bMo_image_80]
  refine loop_up (fun x M' => At d kMo_image 82 [vr 10 0, vi x, z2, z3] [] M' Q X) (fun x M' => Fs (fun t i _ => t = 96 ∧ i = m) M M' ∧ ∀ j : Nat, (j : Int) < x → M'.1 96 m j = M.1 92 0 j) 0 9 ?_ ?_ 0 M (by omega) (by omega) ⟨Fs.rf, fun j h => by omega⟩
  · intro M' h
    show At _ _ _ _ _ _ _ _
    have e55 : M'.1 10 0 55 = (m : Int) := (h.1.g1 10 0 55 (by omega)).trans hm
    have e54 : M'.1 10 0 54 = M.1 10 0 54 := h.1.g1 10 0 54 (by omega)
    rw [bMo_image_82, if_pos (by omega), bMo_image_98 (by rw [e55]; omega), sI_eq, e55, sI_ne (by omega), e55, e54, w32_id (by omega), Int.toNat_natCast, Nat.zero_mul, Nat.zero_add]
    refine hq _ (((h.1.mono (fun t i j z => Or.inl z)).sI (Or.inl ⟨rfl, rfl⟩)).sI (Or.inr ⟨rfl, rfl, rfl⟩)) ?_ ?_ sI_eq
    · intro j hj
      rw [sI_ne (by omega), sI_ne (by omega)]; exact h.2 j (by omega)
    · rw [sI_ne (by omega)]; exact sI_eq
  · intro x M' x0 x1 h hn
    show At _ _ _ _ _ _ _ _
    have e55 : M'.1 10 0 55 = (m : Int) := (h.1.g1 10 0 55 (by omega)).trans hm
    rw [bMo_image_82, if_neg (by omega), bMo_image_85 (by rw [e55]; omega), e55, w32_id (by omega), Int.toNat_natCast, Nat.zero_mul, Nat.zero_add, h.1.g1 92 0 _ (by omega)]
    refine hn _ ⟨h.1.sI ⟨rfl, rfl⟩, ?_⟩
    intro j hj
    by_cases e : j = x.toNat
    · subst e; exact sI_eq
    · rw [sI_ne (by omega)]; exact h.2 j (by omega)
theorem m_image {M : Mem} {m : Nat} (hm : M.1 10 0 55 = (m : Int)) (hm3 : m ≤ 3) (ht : 0 ≤ M.1 10 0 11 ∧ M.1 10 0 11 ≤ 500) (hq1 : m = 3 → Q (vi (-1)) (sI M 10 0 0 0))
    (hq : m < 3 → ∀ M', Fs (pIm m) M M' → M'.1 10 0 0 = 0 → M'.1 10 0 55 = (m : Int) + 1 → KpM M M' m → Q (vi ((m : Int) + 1)) M') : Call (d + 1) qMo_image [vr 10 0] M Q X := by
  have e55 : (sI M 10 0 0 0).1 10 0 55 = (m : Int) := by rw [sI_ne (by omega)]; exact hm
  have e11 : (sI M 10 0 0 0).1 10 0 11 = M.1 10 0 11 := sI_ne (by omega)
  rw [eMo_image, bMo_image_0, e55]
  rcases (by omega : m = 3 ∨ m < 3) with h3 | h3
  · rw [if_neg (by omega), bMo_image_7]; exact hq1 h3
  · rw [if_pos (by omega), bMo_image_9]
    refine m_im1 e55 h3 (by rw [e11]; exact ht) ?_
    intro M1 f1 a1 z1
    have g1 : ∀ t i j, t ≠ 94 → M1.1 t i j = (sI M 10 0 0 0).1 t i j := fun t i j h => f1.g1 t i j (by omega)
    have st : ∀ v, v = (if M.1 10 0 20 = 0 then -1 else M.1 10 0 11) → At d kMo_image 39 [vr 10 0, z1, JK, JK] [vi v, vi (m : Int), vr 97 0] M1 Q X := by
      intro v hv
      rw [bMo_image_39 (by omega), Int.toNat_natCast]
      have g2 : ∀ t i j, t ≠ 97 → (sI M1 97 0 m v).1 t i j = M1.1 t i j := fun t i j h => sI_ne (by omega)
      refine m_im2 (m := m) (by rw [g2 _ _ _ (by omega), g1 _ _ _ (by omega)]; exact e55) h3 ?_
      intro M3 f3 a3 y1 y2 y3
      have g3 : ∀ t i j, t ≠ 101 → M3.1 t i j = (sI M1 97 0 m v).1 t i j := fun t i j h => f3.g1 t i j (by omega)
      refine m_im3 (m := m) (by rw [g3 _ _ _ (by omega), g2 _ _ _ (by omega), g1 _ _ _ (by omega)]; exact e55) h3 ?_
      intro M4 f4 a4 b4 c4
      have g4 : ∀ t i j, t ≠ 96 → t ≠ 10 → M4.1 t i j = M3.1 t i j := fun t i j h h' => f4.g1 t i j (by omega)
      refine hq h3 M4 ?_ ?_ c4 ⟨?_, ?_, ?_, ?_, ?_⟩
      · have t0 : Fs (pIm m) M (sI M 10 0 0 0) := Fs.rf.sI (Or.inr (Or.inr (Or.inr (Or.inr ⟨rfl, rfl, Or.inl rfl⟩))))
        refine (((t0.tr (f1.mono (fun t i j z => Or.inl z))).sI (Or.inr (Or.inl ⟨rfl, rfl, rfl⟩))).tr (f3.mono (fun t i j z => Or.inr (Or.inr (Or.inl z))))).tr (f4.mono (fun t i j z => ?_))
        rcases z with z | z
        · exact Or.inr (Or.inr (Or.inr (Or.inl z)))
        · exact Or.inr (Or.inr (Or.inr (Or.inr ⟨z.1, z.2.1, Or.inr z.2.2⟩)))
      · rw [f4.g1 10 0 0 (by omega), g3 _ _ _ (by omega), g2 _ _ _ (by omega), g1 _ _ _ (by omega)]; exact sI_eq
      · intro j hj
        rw [g4 _ _ _ (by omega) (by omega), g3 _ _ _ (by omega), g2 _ _ _ (by omega), a1 j (by rw [e11]; exact hj), sI_ne (by omega)]
      · rw [g4 _ _ _ (by omega) (by omega), g3 _ _ _ (by omega), sI_eq]; exact hv
      · intro i x hi hx
        rw [g4 _ _ _ (by omega) (by omega), a3 i x hi hx, g2 _ _ _ (by omega), g1 _ _ _ (by omega), sI_ne (by omega)]
      · intro j hj
        rw [a4 j hj, g3 _ _ _ (by omega), g2 _ _ _ (by omega), g1 _ _ _ (by omega), sI_ne (by omega)]
      · rw [b4, g3 _ _ _ (by omega), g2 _ _ _ (by omega), g1 _ _ _ (by omega), sI_ne (by omega)]
    have e20 : M1.1 10 0 20 = M.1 10 0 20 := by rw [g1 _ _ _ (by omega), sI_ne (by omega)]
    have e11' : M1.1 10 0 11 = M.1 10 0 11 := by rw [g1 _ _ _ (by omega), sI_ne (by omega)]
    have e55' : M1.1 10 0 55 = (m : Int) := by rw [g1 _ _ _ (by omega)]; exact e55
    rw [bMo_image_28, e20, e55']
    by_cases h0 : M.1 10 0 20 = 0
    · rw [if_neg (fun z => z h0), bMo_image_35]; exact st _ (by rw [if_pos h0])
    · rw [if_pos h0, bMo_image_37, e11']; exact st _ (by rw [if_neg h0])
/-- what an image gives back -/
abbrev pRr (t _ j : Nat) : Prop := (t = 10 ∧ (j ≤ 44 ∧ j ≠ 1 ∧ j ≠ 3 ∨ j = 54 ∨ j = 55)) ∨ (55 ≤ t ∧ t ≤ 67) ∨ t = 87 ∨ t = 92
theorem m_rs1 {M : Mem} {m : Nat} (hm : M.1 10 0 55 = (m : Int)) (hm3 : m < 3) {z2 z3 : AV}
    (hq : ∀ M', Fs (fun t _ _ => t = 87) M M' → (∀ i x : Nat, i < 15 → x < 6 → M'.1 87 i x = M.1 101 (m * 15 + i) x) → ∀ z1 z2 z3, At d kMo_restore 54 [vr 10 0, z1, z2, z3] [] M' Q X) : At d kMo_restore 16 [vr 10 0, vi 0, z2, z3] [] M Q X := by
  refine loop356 (fun a M' => ∀ z3 z4, At d kMo_restore 16 [vr 10 0, vi a, z3, z4] [] M' Q X) (fun a b M' => ∀ z4, At d kMo_restore 21 [vr 10 0, vi a, vi b, z4] [] M' Q X) (fun a b c M' => At d kMo_restore 26 [vr 10 0, vi a, vi b, vi c] [] M' Q X) (fun q M' => Fs (fun t _ _ => t = 87) M M' ∧ ∀ i j : Nat, i < 15 → j < 6 → ((i * 6 + j : Nat) : Int) < q → M'.1 87 i j = M.1 101 (m * 15 + i) j) ?_ ?_ ?_ ?_ ?_ ?_ M ⟨Fs.rf, fun i j _ _ h => by omega⟩ z2 z3
  · intro M' h z3 z4
    rw [bMo_restore_16, if_pos (by omega)]
    exact hq M' h.1 (fun i j a b => h.2 i j a b (by omega)) _ _ _
  · intro a M' a0 a1 h z3 z4
    rw [bMo_restore_16, if_neg (by omega), bMo_restore_19]; exact h z4
  · intro a M' a0 a1 h z4
    rw [bMo_restore_21, if_pos (by omega), bMo_restore_52, w32_id (by omega)]; exact h _ _
  · intro a b M' a0 a1 b0 b1 h z4
    rw [bMo_restore_21, if_neg (by omega), bMo_restore_24]; exact h
  · intro a b M' a0 a1 b0 b1 h
    rw [bMo_restore_26, if_pos (by omega), bMo_restore_50, w32_id (by omega)]; exact h _
  · intro a b c M' a0 a1 b0 b1 c0 c1 h hn
    have e55 : M'.1 10 0 55 = (m : Int) := (h.1.g1 10 0 55 (by omega)).trans hm
    rw [bMo_restore_26, if_neg (by omega), bMo_restore_29 (by rw [e55]; omega), e55, w32_id (by omega), h.1.g1 101 _ _ (by omega), Int.toNat_natCast, show ((0 * 3 + m) * 3 + a.toNat) * 5 + b.toNat = m * 15 + (a.toNat * 5 + b.toNat) by omega, show (0 * 3 + a.toNat) * 5 + b.toNat = a.toNat * 5 + b.toNat by omega]
    refine hn _ ⟨h.1.sI rfl, ?_⟩
    intro i j hi hj hlt
    by_cases e : i = a.toNat * 5 + b.toNat ∧ j = c.toNat
    · obtain ⟨rfl, rfl⟩ := e; exact sI_eq
    · rw [sI_ne (by omega)]; exact h.2 i j hi hj (by omega)
theorem m_rs2 {M : Mem} {m : Nat} (hm : M.1 10 0 55 = (m : Int)) (hm3 : m < 3) {z1 z2 z3 : AV}
    (hq : ∀ M', Fs (fun t _ j => t = 92 ∨ (t = 10 ∧ j = 54)) M M' → (∀ j : Nat, j < 9 → M'.1 92 0 j = M.1 96 m j) → M'.1 10 0 54 = M.1 96 m 9 → ∀ z1 z2 z3, (if M.1 97 0 m ≠ -1 then At d kMo_restore 93 [vr 10 0, z1, z2, z3] [] M' Q X else At d kMo_restore 88 [vr 10 0, z1, z2, z3] [] M' Q X)) : At d kMo_restore 54 [vr 10 0, z1, z2, z3] [] M Q X := by
  rw [bMo_restore_54]
  refine loop_up (fun x M' => At d kMo_restore 56 [vr 10 0, vi x, z2, z3] [] M' Q X) (fun x M' => Fs (fun t _ j => t = 92) M M' ∧ ∀ j : Nat, (j : Int) < x → M'.1 92 0 j = M.1 96 m j) 0 9 ?_ ?_ 0 M (by omega) (by omega) ⟨Fs.rf, fun j h => by omega⟩
  · intro M' h
    show At _ _ _ _ _ _ _ _
    have e55 : M'.1 10 0 55 = (m : Int) := (h.1.g1 10 0 55 (by omega)).trans hm
    have e97 : M'.1 97 0 m = M.1 97 0 m := h.1.g1 97 0 m (by omega)
    have e96 : M'.1 96 m 9 = M.1 96 m 9 := h.1.g1 96 m 9 (by omega)
    have es : ∀ v, (sI M' 10 0 54 v).1 10 0 55 = (m : Int) := fun v => by rw [sI_ne (by omega)]; exact e55
    rw [bMo_restore_56, if_pos (by omega), bMo_restore_72 (by rw [e55, es]; omega), e55, es, Int.toNat_natCast, Nat.zero_mul, Nat.zero_add, sI_ne (by omega), e97]
    refine hq _ ((h.1.mono (fun t i j z => Or.inl z)).sI (Or.inr ⟨rfl, rfl⟩)) ?_ ?_ _ _ _
    · intro j hj
      rw [sI_ne (by omega)]; exact h.2 j (by omega)
    · rw [sI_eq]; exact e96
  · intro x M' x0 x1 h hn
    show At _ _ _ _ _ _ _ _
    have e55 : M'.1 10 0 55 = (m : Int) := (h.1.g1 10 0 55 (by omega)).trans hm
    rw [bMo_restore_56, if_neg (by omega), bMo_restore_59 (by rw [e55]; omega), e55, w32_id (by omega), Int.toNat_natCast, Nat.zero_mul, Nat.zero_add, h.1.g1 96 _ _ (by omega)]
    refine hn _ ⟨h.1.sI rfl, ?_⟩
    intro j hj
    by_cases e : j = x.toNat
    · subst e; exact sI_eq
    · rw [sI_ne (by omega)]; exact h.2 j (by omega)
theorem m_rs3 {M : Mem} {m n : Nat} (hm : M.1 10 0 55 = (m : Int)) (hm3 : m < 3) (hn : M.1 97 0 m = (n : Int)) (hn5 : n ≤ 500) {z1 z2 z3 : AV}
    (hq : ∀ M', Fs (fun t _ j => t = 55 ∨ (t = 10 ∧ j = 11)) M M' → (∀ j : Nat, j < n → M'.1 55 0 j = M.1 94 m j) → M'.1 10 0 11 = (n : Int) → ∀ z1 z2 z3, At d kMo_restore 119 [vr 10 0, z1, z2, z3] [] M' Q X) : At d kMo_restore 93 [vr 10 0, z1, z2, z3] [] M Q X := by
  rw [bMo_restore_93 (by rw [hm]; omega), hm, Int.toNat_natCast, hn]
  refine loop_up (fun x M' => At d kMo_restore 102 [vr 10 0, vi x, z2, z3] [] M' Q X) (fun x M' => Fs (fun t _ _ => t = 55) (sI M 10 0 11 (n : Int)) M' ∧ ∀ j : Nat, (j : Int) < x → M'.1 55 0 j = M.1 94 m j) 0 n ?_ ?_ 0 _ (by omega) (by omega) ⟨Fs.rf, fun j h => by omega⟩
  · intro M' h
    show At _ _ _ _ _ _ _ _
    have e11 : M'.1 10 0 11 = (n : Int) := (h.1.g1 10 0 11 (by omega)).trans sI_eq
    rw [bMo_restore_102, e11, if_pos (by omega)]
    refine hq M' ((Fs.rf.sI (Or.inr ⟨rfl, rfl⟩)).tr (h.1.mono (fun t i j z => Or.inl z))) (fun j hj => h.2 j (by omega)) e11 _ _ _
  · intro x M' x0 x1 h hn'
    show At _ _ _ _ _ _ _ _
    have e11 : M'.1 10 0 11 = (n : Int) := (h.1.g1 10 0 11 (by omega)).trans sI_eq
    have e55 : M'.1 10 0 55 = (m : Int) := (h.1.g1 10 0 55 (by omega)).trans (by rw [sI_ne (by omega)]; exact hm)
    rw [bMo_restore_102, e11, if_neg (by omega), bMo_restore_106 (by rw [e55]; omega), e55, w32_id (by omega), Int.toNat_natCast, Nat.zero_mul, Nat.zero_add, h.1.g1 94 _ _ (by omega), sI_ne (by omega)]
    refine hn' _ ⟨h.1.sI rfl, ?_⟩
    intro j hj
    by_cases e : j = x.toNat
    · subst e; exact sI_eq
    · rw [sI_ne (by omega)]; exact h.2 j (by omega)
theorem m_restore {M : Mem} {m : Nat} {R : RT} {T : TT} (hm : M.1 10 0 55 = (m : Int)) (hm3 : m ≤ 3) (hq1 : m = 0 → Q (vi (-1)) (sI M 10 0 0 0))
    (hk : 1 ≤ m → M.1 97 0 (m - 1) = -1 ∨ ∃ n : Nat, n ≤ 500 ∧ M.1 97 0 (m - 1) = (n : Int))
    (hq2 : 1 ≤ m → ∀ M', Fs pRr M M' → M'.1 10 0 0 = 0 → M'.1 10 0 55 = (m : Int) - 1 → (∀ i x : Nat, i < 15 → x < 6 → M'.1 87 i x = M.1 101 ((m - 1) * 15 + i) x) → (∀ j : Nat, j < 9 → M'.1 92 0 j = M.1 96 (m - 1) j) → M'.1 10 0 54 = M.1 96 (m - 1) 9 →
      (M.1 97 0 (m - 1) = -1 → M'.1 10 0 20 = 0 ∧ (∀ j : Nat, 12 ≤ j → j ≤ 17 → M'.1 10 0 j = 0) ∧ M'.1 10 0 11 = M.1 10 0 11) → (∀ n : Nat, M.1 97 0 (m - 1) = (n : Int) → CM R (fun j => M.1 94 (m - 1) j) n T M') → Q (vi ((m : Int) - 1)) M')
    (htx : ∀ n : Nat, 1 ≤ m → M.1 97 0 (m - 1) = (n : Int) → TX R (fun j => M.1 94 (m - 1) j) n T) : Call (d + 58) qMo_restore [vr 10 0] M Q X := by
  have e55 : (sI M 10 0 0 0).1 10 0 55 = (m : Int) := by rw [sI_ne (by omega)]; exact hm
  rw [eMo_restore, bMo_restore_0, e55]
  rcases (by omega : m = 0 ∨ 1 ≤ m) with h3 | h3
  · rw [if_neg (by omega), bMo_restore_6]; exact hq1 h3
  · have hk := hk h3
    have hq2 := hq2 h3
    have htx := fun n => htx n h3
    rw [if_pos (by omega), bMo_restore_8, e55, w32_id (by omega)]
    obtain ⟨p, rfl⟩ : ∃ p : Nat, m = p + 1 := ⟨m - 1, by omega⟩
    rw [show p + 1 - 1 = p by omega] at hk hq2 htx
    rw [show ((p + 1 : Nat) : Int) - 1 = (p : Int) by omega] at hq2 ⊢
    generalize hM0 : sI (sI M 10 0 0 0) 10 0 55 (p : Int) = M0
    have g0 : ∀ t i j, ¬ (t = 10 ∧ (j = 0 ∨ j = 55)) → M0.1 t i j = M.1 t i j := fun t i j h => by rw [← hM0, sI_ne (by omega), sI_ne (by omega)]
    have p0 : M0.1 10 0 55 = (p : Int) := by rw [← hM0, sI_eq]
    have y0 : M0.1 10 0 0 = 0 := by rw [← hM0, sI_ne (by omega), sI_eq]
    have f0 : Fs pRr M M0 := by rw [← hM0]; exact (Fs.rf.sI (by omega)).sI (by omega)
    refine m_rs1 p0 (by omega) ?_
    intro M1 f1 a1 z1 z2 z3
    have g1 : ∀ t i j, t ≠ 87 → M1.1 t i j = M0.1 t i j := fun t i j h => f1.g1 t i j (by omega)
    refine m_rs2 (m := p) (by rw [g1 _ _ _ (by omega)]; exact p0) (by omega) ?_
    intro M2 f2 a2 b2 z1 z2 z3
    have g2 : ∀ t i j, ¬ (t = 92 ∨ (t = 10 ∧ j = 54)) → M2.1 t i j = M1.1 t i j := fun t i j h => f2.g1 t i j h
    have e97 : M1.1 97 0 p = M.1 97 0 p := by rw [g1 _ _ _ (by omega), g0 _ _ _ (by omega)]
    have f02 : Fs pRr M M2 := (f0.tr (f1.mono (fun t i j z => Or.inr (Or.inr (Or.inl z))))).tr (f2.mono (fun t i j z => by omega))
    rw [e97]
    -- what stands in M2
    have r2 : ∀ i x : Nat, i < 15 → x < 6 → M2.1 87 i x = M.1 101 (p * 15 + i) x := fun i x hi hx => by rw [g2 _ _ _ (by omega), a1 i x hi hx, g0 _ _ _ (by omega)]
    have o2 : ∀ j : Nat, j < 9 → M2.1 92 0 j = M.1 96 p j := fun j hj => by rw [a2 j hj, g1 _ _ _ (by omega), g0 _ _ _ (by omega)]
    have n2 : M2.1 10 0 54 = M.1 96 p 9 := by rw [b2, g1 _ _ _ (by omega), g0 _ _ _ (by omega)]
    have p2 : M2.1 10 0 55 = (p : Int) := by rw [g2 _ _ _ (by omega), g1 _ _ _ (by omega)]; exact p0
    have y2 : M2.1 10 0 0 = 0 := by rw [g2 _ _ _ (by omega), g1 _ _ _ (by omega)]; exact y0
    have t2 : M2.1 10 0 11 = M.1 10 0 11 := by rw [g2 _ _ _ (by omega), g1 _ _ _ (by omega), g0 _ _ _ (by omega)]
    have k2 : M2.1 97 0 p = M.1 97 0 p := by rw [g2 _ _ _ (by omega), g1 _ _ _ (by omega), g0 _ _ _ (by omega)]
    have x2 : ∀ j, M2.1 94 p j = M.1 94 p j := fun j => by rw [g2 _ _ _ (by omega), g1 _ _ _ (by omega), g0 _ _ _ (by omega)]
    clear g2 a2 b2 f2 g1 a1 f1 g0 p0 y0 f0 hM0 e97
    rcases hk with hk | ⟨n, hn5, hn⟩
    · rw [if_neg (fun z => z hk), bMo_restore_88, eMo_forgets, bMo_forgets_0 (by omega)]
      have key : ∀ M3, Fs (fun t _ j => t = 10 ∧ (12 ≤ j ∧ j ≤ 20 ∨ j = 44)) M2 M3 → M3.1 10 0 20 = 0 → (∀ j : Nat, 12 ≤ j → j ≤ 17 → M3.1 10 0 j = 0) → KU (d + 57) kMo_restore 90 [vr 10 0, z1, z2, z3] [] Q X (vi 0) M3 := by
        intro M3 f3 a b
        have g : ∀ t i j, ¬ (t = 10 ∧ (12 ≤ j ∧ j ≤ 20 ∨ j = 44)) → M3.1 t i j = M2.1 t i j := fun t i j h => f3.g1 t i j h
        rw [KU_eq, bMo_restore_90, g _ _ _ (by omega), p2]
        refine hq2 M3 (f02.tr (f3.mono (fun t i j z => by omega))) (by rw [g _ _ _ (by omega)]; exact y2) (by rw [g _ _ _ (by omega)]; exact p2) (fun i x hi hx => by rw [g _ _ _ (by omega)]; exact r2 i x hi hx) (fun j hj => by rw [g _ _ _ (by omega)]; exact o2 j hj) (by rw [g _ _ _ (by omega)]; exact n2) (fun _ => ⟨a, b, by rw [g _ _ _ (by omega)]; exact t2⟩) (fun n hn => by omega)
      refine key _ ?_ ?_ ?_
      · repeat (first | exact Fs.rf | refine Fs.sI ?_ (by omega))
      · repeat (first | exact sI_eq | rw [sI_ne (by omega)])
      · intro j j0 j1
        rcases (by omega : j = 12 ∨ j = 13 ∨ j = 14 ∨ j = 15 ∨ j = 16 ∨ j = 17) with rfl | rfl | rfl | rfl | rfl | rfl
        all_goals (repeat (first | exact sI_eq | rw [sI_ne (by omega)]))
    · rw [if_pos (by omega)]
      refine m_rs3 (m := p) (n := n) p2 (by omega) (by rw [k2]; exact hn) hn5 ?_
      intro M3 f3 a3 b3 z1 z2 z3
      have g3 : ∀ t i j, ¬ (t = 55 ∨ (t = 10 ∧ j = 11)) → M3.1 t i j = M2.1 t i j := fun t i j h => f3.g1 t i j h
      have hx := htx n hn
      have tx3 : ∀ j : Nat, j < n → M3.1 55 0 j = M.1 94 p j := fun j hj => by rw [a3 j hj, x2]
      rw [bMo_restore_119]
      refine Call_up (d := d + 56) (show d + 56 ≤ d + 57 by omega) (m_tellsAgain (d := d) hx b3 tx3 ?_)
      intro M4 f4 c4 s4
      have g4 : ∀ t i j, ¬ ((t = 10 ∧ 2 ≤ j ∧ j ≤ 44) ∨ (56 ≤ t ∧ t ≤ 67)) → M4.1 t i j = M3.1 t i j := fun t i j h => f4.g1 t i j (by omega)
      rw [KU_eq, bMo_restore_121, g4 _ _ _ (by omega), g3 _ _ _ (by omega), p2]
      refine hq2 M4 ((f02.tr (f3.mono (fun t i j z => by omega))).tr (f4.mono (fun t i j z => by omega))) (by rw [g4 _ _ _ (by omega), g3 _ _ _ (by omega)]; exact y2) (by rw [g4 _ _ _ (by omega), g3 _ _ _ (by omega)]; exact p2) (fun i x hi hx => by rw [g4 _ _ _ (by omega), g3 _ _ _ (by omega)]; exact r2 i x hi hx) (fun j hj => by rw [g4 _ _ _ (by omega), g3 _ _ _ (by omega)]; exact o2 j hj) (by rw [g4 _ _ _ (by omega), g3 _ _ _ (by omega)]; exact n2) (fun z => by omega) (fun n' hn' => ?_)
      have : n' = n := by omega
      subst this
      exact c4
end
