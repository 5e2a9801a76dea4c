/-! LAYER 3, A RACE CLEARED -/
abbrev pCs (i s t a j : Nat) : Prop := a = i ∧ (((t = 33 ∨ t = 34 ∨ t = 37) ∧ j = s) ∨ ((t = 35 ∨ t = 36) ∧ s * 5 ≤ j ∧ j < s * 5 + 5))
def Czr (M : Mem) (i s : Nat) : Prop := M.1 33 i s = 0 ∧ M.1 34 i s = 0 ∧ M.1 37 i s = 0 ∧ ∀ p : Nat, p < 5 → M.1 35 i (s * 5 + p) = 0 ∧ M.1 36 i (s * 5 + p) = 0
theorem c_clearShop {d : Nat} {M : Mem} {Q : AV → Mem → Prop} {X : Nat → Mem → Prop} {i s : Nat} (hs : s < 3) (hq : ∀ M', Fs (pCs i s) M M' → Czr M' i s → Q (vi 0) M') : Call (d + 1) qRa_clearShop [vr 4 i, vi (s : Int)] M Q X := by
  rw [eRa_clearShop, bRa_clearShop_0 (by omega), show ((s : Int)).toNat = s by omega]
  refine loop_up (fun (x : Int) (M' : Mem) => At d kRa_clearShop 17 [vr 4 i, vi (s : Int), vi x] [] M' Q X) (fun (x : Int) (M' : Mem) => Fs (pCs i s) M M' ∧ (M'.1 33 i s = 0 ∧ M'.1 34 i s = 0 ∧ M'.1 37 i s = 0) ∧ ∀ p : Nat, p < 5 → (p : Int) < x → M'.1 35 i (s * 5 + p) = 0 ∧ M'.1 36 i (s * 5 + p) = 0) 0 5 ?_ ?_ 0 _ (Int.le_refl _) (by omega) ?_
  · intro M' ⟨h1, h2, h3⟩
    show At d kRa_clearShop 17 _ _ _ _ _
    rw [bRa_clearShop_17, if_pos (by omega), bRa_clearShop_40]
    exact hq M' h1 ⟨h2.1, h2.2.1, h2.2.2, fun p hp => h3 p hp (by omega)⟩
  · intro x M' h0 h5 ⟨h1, h2, h3⟩ hk
    show At d kRa_clearShop 17 _ _ _ _ _
    obtain ⟨xn, rfl⟩ : ∃ xn : Nat, x = (xn : Int) := ⟨x.toNat, by omega⟩
    have ei : w32 (w32 ((s : Int) * 5) + (xn : Int)) = ((s * 5 + xn : Nat) : Int) := by rw [w32_id (z := (s : Int) * 5) (by omega), w32_id (by omega)]; omega
    rw [bRa_clearShop_17, if_neg (by omega), bRa_clearShop_20 (by rw [ei]; omega), ei, show ((s * 5 + xn : Nat) : Int).toNat = s * 5 + xn by omega, w32_id (by omega)]
    refine hk _ ⟨(h1.sI (by omega)).sI (by omega), ?_, ?_⟩
    · rw [sI_ne (by omega), sI_ne (by omega), sI_ne (by omega), sI_ne (by omega), sI_ne (by omega), sI_ne (by omega)]; exact h2
    · intro p hp hpx
      by_cases e : p = xn
      · subst e
        rw [sI_eq, sI_ne (by omega), sI_eq]
        exact ⟨rfl, rfl⟩
      · rw [sI_ne (by omega), sI_ne (by omega), sI_ne (by omega), sI_ne (by omega)]
        exact h3 p hp (by omega)
  · refine ⟨((Fs.rf.sI (by omega)).sI (by omega)).sI (by omega), ⟨?_, ?_, ?_⟩, fun p _ h => by omega⟩
    · rw [sI_ne (by omega), sI_ne (by omega), sI_eq]
    · rw [sI_ne (by omega), sI_eq]
    · rw [sI_eq]; rfl
abbrev pCa (i t a j : Nat) : Prop := a = i ∧ ((t = 4 ∧ 1 ≤ j ∧ j ≤ 7) ∨ (33 ≤ t ∧ t ≤ 37))
theorem Czr.fr {M M' i s s'} (h : Czr M i s) (hf : Fs (pCs i s') M M') (hs : s ≠ s') : Czr M' i s := by
  obtain ⟨h1, h2, h3, h4⟩ := h
  refine ⟨?_, ?_, ?_, fun p hp => ?_⟩
  · rw [hf.g1 33 i s (by omega)]; exact h1
  · rw [hf.g1 34 i s (by omega)]; exact h2
  · rw [hf.g1 37 i s (by omega)]; exact h3
  · rw [hf.g1 35 i (s * 5 + p) (by omega), hf.g1 36 i (s * 5 + p) (by omega)]; exact h4 p hp
theorem c_clear {d : Nat} {M : Mem} {Q : AV → Mem → Prop} {X : Nat → Mem → Prop} {i : Nat} (hq : ∀ M', Fs (pCa i) M M' → (M'.1 4 i 1 = 0 ∧ M'.1 4 i 2 = 4 ∧ M'.1 4 i 3 = 0 ∧ M'.1 4 i 4 = 0 ∧ M'.1 4 i 5 = 0 ∧ M'.1 4 i 6 = 0 ∧ M'.1 4 i 7 = 0) → (∀ s : Nat, s < 3 → Czr M' i s) → Q (vi 0) M') : Call (d + 2) qRa_clear [vr 4 i] M Q X := by
  rw [eRa_clear, bRa_clear_0]
  have hm : ∀ M', M' = sI (sI (sI (sI (sI (sI (sI M 4 i 1 0) 4 i 2 4) 4 i 3 0) 4 i 4 0) 4 i 5 0) 4 i 6 0) 4 i 7 0 → Fs (pCa i) M M' ∧ (M'.1 4 i 1 = 0 ∧ M'.1 4 i 2 = 4 ∧ M'.1 4 i 3 = 0 ∧ M'.1 4 i 4 = 0 ∧ M'.1 4 i 5 = 0 ∧ M'.1 4 i 6 = 0 ∧ M'.1 4 i 7 = 0) := by
    intro M' e
    subst e
    refine ⟨((((((Fs.rf.sI (by omega)).sI (by omega)).sI (by omega)).sI (by omega)).sI (by omega)).sI (by omega)).sI (by omega), ?_, ?_, ?_, ?_, ?_, ?_, sI_eq⟩
    · rw [sI_ne (by omega), sI_ne (by omega), sI_ne (by omega), sI_ne (by omega), sI_ne (by omega), sI_ne (by omega), sI_eq]
    · rw [sI_ne (by omega), sI_ne (by omega), sI_ne (by omega), sI_ne (by omega), sI_ne (by omega), sI_eq]
    · rw [sI_ne (by omega), sI_ne (by omega), sI_ne (by omega), sI_ne (by omega), sI_eq]
    · rw [sI_ne (by omega), sI_ne (by omega), sI_ne (by omega), sI_eq]
    · rw [sI_ne (by omega), sI_ne (by omega), sI_eq]
    · rw [sI_ne (by omega), sI_eq]
  generalize hM1 : sI (sI (sI (sI (sI (sI (sI M 4 i 1 0) 4 i 2 4) 4 i 3 0) 4 i 4 0) 4 i 5 0) 4 i 6 0) 4 i 7 0 = M1
  obtain ⟨f1, v1⟩ := hm M1 hM1.symm
  clear hm hM1
  rw [bRa_clear_23, if_neg (by omega), bRa_clear_26]
  refine c_clearShop (s := 0) (by omega) ?_
  intro M2 f2 z2
  rw [KU_eq, bRa_clear_29, show w32 ((0 : Int) + 1) = 1 from rfl, bRa_clear_23, if_neg (by omega), bRa_clear_26]
  refine c_clearShop (s := 1) (by omega) ?_
  intro M3 f3 z3
  rw [KU_eq, bRa_clear_29, show w32 ((1 : Int) + 1) = 2 from rfl, bRa_clear_23, if_neg (by omega), bRa_clear_26]
  refine c_clearShop (s := 2) (by omega) ?_
  intro M4 f4 z4
  rw [KU_eq, bRa_clear_29, show w32 ((2 : Int) + 1) = 3 from rfl, bRa_clear_23, if_pos (by omega), bRa_clear_31]
  have fw : ∀ {A A' s}, Fs (pCs i s) A A' → s < 3 → Fs (pCa i) A A' := fun h hs => Fs.mono (fun t a j z => by omega) h
  have ev : ∀ j, M4.1 4 i j = M1.1 4 i j := fun j => by rw [f4.g1 4 i j (by omega), f3.g1 4 i j (by omega), f2.g1 4 i j (by omega)]
  refine hq M4 (((f1.tr (fw f2 (by omega))).tr (fw f3 (by omega))).tr (fw f4 (by omega))) (by simp only [ev]; exact v1) ?_
  intro s hs
  rcases (by omega : s = 0 ∨ s = 1 ∨ s = 2) with rfl | rfl | rfl
  · exact (z2.fr f3 (by omega)).fr f4 (by omega)
  · exact z3.fr f4 (by omega)
  · exact z4
/-- the text is read: the clauses -/
abbrev pRh (t i j : Nat) : Prop := (t = 5 ∧ i = 0) ∨ (t = 4 ∧ i = 4 ∧ 1 ≤ j) ∨ (33 ≤ t ∧ t ≤ 37 ∧ i = 4) ∨ (((t = 6 ∧ j = 1) ∨ t = 40) ∧ i < 2)
def REh (B : BT) (n : Nat) (res : (Int × Int) ⊕ (RT × TT)) (M' : Mem) : Prop := match res with
  | .inl e => e.1 ≠ 0 ∧ CF B n e.1 e.2 M'
  | .inr (D, T) => ∃ k, CK B n D T M' k
theorem c_readHead {d : Nat} {B : BT} {n : Nat} {M : Mem} {Q : AV → Mem → Prop} {X : Nat → Mem → Prop} (hn : n ≤ 500) (hB : ∀ j : Nat, j < n → M.1 39 0 j = B j) (h6 : M.1 5 0 6 = 0 ∨ M.1 5 0 6 = 1)
    (hq : ∀ M' z1 z2, Fs pRh M M' → REh B n (txt B n) M' → M'.1 5 0 2 = 0 → (∀ s : Nat, s < 3 → M'.1 37 4 s = 0) → At (d + 55) kRe_read 55 [vr 5 0, z1, z2] [] M' Q X) : Call (d + 56) qRe_read [vr 5 0, vi (n : Int)] M Q X := by
  rw [eRe_read, bRe_read_0]
  have hm : ∀ M', M' = sI (sI (sI (sI (sI M 5 0 7 (n : Int)) 5 0 2 0) 5 0 8 0) 5 0 9 0) 5 0 1 (-1) → Fs pRh M M' ∧ M'.1 5 0 7 = (n : Int) ∧ M'.1 5 0 2 = 0 ∧ M'.1 5 0 8 = 0 ∧ M'.1 5 0 9 = 0 ∧ M'.1 5 0 1 = -1 ∧ M'.1 5 0 6 = M.1 5 0 6 := by
    intro M' e
    subst e
    refine ⟨((((Fs.rf.sI (by omega)).sI (by omega)).sI (by omega)).sI (by omega)).sI (by omega), ?_, ?_, ?_, ?_, sI_eq, ?_⟩
    · rw [sI_ne (by omega), sI_ne (by omega), sI_ne (by omega), sI_ne (by omega), sI_eq]
    · rw [sI_ne (by omega), sI_ne (by omega), sI_ne (by omega), sI_eq]
    · rw [sI_ne (by omega), sI_ne (by omega), sI_eq]
    · rw [sI_ne (by omega), sI_eq]
    · rw [sI_ne (by omega), sI_ne (by omega), sI_ne (by omega), sI_ne (by omega), sI_ne (by omega)]
  generalize hM1 : sI (sI (sI (sI (sI M 5 0 7 (n : Int)) 5 0 2 0) 5 0 8 0) 5 0 9 0) 5 0 1 (-1) = M1
  obtain ⟨f1, g7, g2, g8, g9, g1, g6⟩ := hm M1 hM1.symm
  clear hm hM1
  refine Call_up (d := d + 2) (by omega) (c_clear ?_)
  intro M2 f2 v2 z2
  rw [KU_eq, bRe_read_18, eTe_clear, bTe_clear_0, KU_eq, bRe_read_21, eTe_clear, bTe_clear_0, KU_eq, bRe_read_24]
  have e5 : ∀ j, (sI (sI M2 6 0 1 0) 6 1 1 0).1 5 0 j = M1.1 5 0 j := fun j => by rw [sI_ne (by omega), sI_ne (by omega), f2.g1 5 0 j (by omega)]
  have er : ∀ t j, t ≠ 6 → (sI (sI M2 6 0 1 0) 6 1 1 0).1 t 4 j = M2.1 t 4 j := fun t j ht => by rw [sI_ne (by omega), sI_ne (by omega)]
  have f3 : Fs pRh M (sI (sI M2 6 0 1 0) 6 1 1 0) := ((f1.tr (Fs.mono (fun t a j z => by omega) f2)).sI (by omega)).sI (by omega)
  have t0 : (sI (sI M2 6 0 1 0) 6 1 1 0).1 6 0 1 = 0 := by rw [sI_ne (by omega), sI_eq]
  have t1 : (sI (sI M2 6 0 1 0) 6 1 1 0).1 6 1 1 = 0 := sI_eq
  generalize hM3 : sI (sI M2 6 0 1 0) 6 1 1 0 = M3 at e5 er f3 t0 t1
  have hc : CK B n D0 (fun _ => none) M3 0 := by
    refine ⟨⟨⟨by rw [e5]; exact g7, hn, ?_⟩, by rw [e5]; exact g8, by omega, by rw [e5]; exact g9, by rw [e5]; exact g1, by rw [e5, g6]; exact h6⟩, ?_, ?_⟩
    · intro j hj; rw [f3.g1 39 0 j (by omega)]; exact hB j hj
    · intro t j ht
      rw [er t j (by omega)]
      obtain ⟨v21, v22, v23, v24, v25, v26, v27⟩ := v2
      unfold D0
      rcases ht with ⟨rfl, h1, h7⟩ | ⟨ht, hj⟩ | ⟨ht, hj⟩
      · rcases (by omega : j = 1 ∨ j = 2 ∨ j = 3 ∨ j = 4 ∨ j = 5 ∨ j = 6 ∨ j = 7) with rfl | rfl | rfl | rfl | rfl | rfl | rfl <;> simp_all
      · rw [if_neg (by omega)]
        have := z2 j hj
        rcases ht with rfl | rfl
        · exact this.1
        · exact this.2.1
      · rw [if_neg (by omega)]
        have := (z2 (j / 5) (by omega)).2.2.2 (j % 5) (by omega)
        rw [show j / 5 * 5 + j % 5 = j by omega] at this
        rcases ht with rfl | rfl
        · exact this.1
        · exact this.2
    · intro i hi
      rcases (by omega : i = 0 ∨ i = 1) with rfl | rfl
      · rw [t0]; exact ⟨by omega, rfl⟩
      · rw [t1]; exact ⟨by omega, rfl⟩
  refine c_readLoop (n + 1) D0 (fun _ => none) M3 0 0 hc (by decide) rfl (Nat.le_refl _) (by omega) ?_
  intro M4 z1 z2' r4
  refine hq M4 _ _ (f3.tr (Fs.mono (fun t a j z => by omega) r4.1)) ?_ ?_ ?_
  · exact r4.2
  · rw [r4.1.g1 5 0 2 (by omega), e5]; exact g2
  · intro s hs
    rw [r4.1.g1 37 4 s (by omega), er 37 s (by omega)]
    exact (z2 s hs).2.2.1
