/-! LAYER 4, THE LAW: what stands between two calls -/
abbrev IMG : Type := RT × (Nat → Int) × Nat × (Nat → Int) × BT
abbrev pKl (t _ _ : Nat) : Prop := t < 10 ∨ (20 ≤ t ∧ t ≤ 53) ∨ t = 115 ∨ t = 900
abbrev pMd (t _ _ : Nat) : Prop := t = 10 ∨ (54 ≤ t ∧ t ≤ 114)
def Ofr (P : Nat → Int) (n : Nat) : Prop := n ≤ 9 ∧ ∀ j : Nat, j < n → 0 ≤ P j ∧ P j ≤ 9999
def ImC (M : Mem) (k : Nat) (I : IMG) : Prop := rd M (k + 1) = I.1 ∧ RuC I.2.1 (k + 1) M ∧ M.1 2 (k + 1) 3 = (I.2.2.1 : Int) ∧ ∀ j : Nat, j < I.2.2.1 → M.1 28 (k + 1) j = I.2.2.2.1 j
def ImR (M : Mem) (k : Nat) (I : IMG) : Prop := (∀ i x : Nat, i < 15 → x < 6 → M.1 101 (k * 15 + i) x = ruM I.2.1 i x) ∧ M.1 96 k 9 = (I.2.2.1 : Int) ∧ (∀ j : Nat, j < I.2.2.1 → M.1 96 k j = I.2.2.2.1 j) ∧ ((I.1 4 1 = 0 ∧ (∀ j : Nat, 2 ≤ j → j ≤ 7 → I.1 4 j = 0) ∧ M.1 97 0 k = -1) ∨ ∃ (nn : Nat) (T : TT), TX I.1 I.2.2.2.2 nn T ∧ M.1 97 0 k = (nn : Int) ∧ ∀ j : Nat, j < nn → M.1 94 k j = I.2.2.2.2 j)
def IC (U : Nat → Int) (f : Nat) (B : BT) (pl : Int) (n : Nat) (P : Nat → Int) (m : Nat) (I : Nat → IMG) (g : Int) (M : Mem) : Prop :=
  (CI0 M ∧ Cb M ∧ Ce M ∧ Cl M ∧ Cr U M ∧ RdS M) ∧ RuC U 0 M ∧ M.1 5 0 2 = (f : Int) ∧ (∀ j, M.1 39 0 j = B j) ∧ M.1 5 0 1 = pl ∧ M.1 2 0 3 = (n : Int) ∧ (∀ j : Nat, j < n → M.1 28 0 j = P j) ∧ M.1 9 0 4 = (m : Int) ∧ (0 ≤ M.1 9 0 1 ∧ M.1 9 0 1 ≤ g) ∧ ∀ k : Nat, k < m → ImC M k (I k)
def IR (R : RT) (U : Nat → Int) (f : Nat) (B : BT) (pl : Int) (n : Nat) (P : Nat → Int) (m : Nat) (I : Nat → IMG) (M : Mem) : Prop :=
  Cur R M ∧ RuM U M ∧ M.1 10 0 1 = (f : Int) ∧ (∀ j, M.1 54 0 j = B j) ∧ M.1 10 0 3 = pl ∧ M.1 10 0 54 = (n : Int) ∧ (∀ j : Nat, j < n → M.1 92 0 j = P j) ∧ M.1 10 0 55 = (m : Int) ∧ (0 ≤ M.1 10 0 11 ∧ M.1 10 0 11 ≤ 500) ∧ ∀ k : Nat, k < m → ImR M k (I k)
def IS (U : Nat → Int) (f n : Nat) (P : Nat → Int) (m : Nat) (I : Nat → IMG) : Prop := WU U ∧ f ≤ 500 ∧ Ofr P n ∧ m ≤ 3 ∧ ∀ k : Nat, k < m → WU (I k).2.1 ∧ Ofr (I k).2.2.2.1 (I k).2.2.1
section
variable {U : Nat → Int} {f n m : Nat} {B : BT} {pl g : Int} {P : Nat → Int} {I : Nat → IMG} {R : RT} {M M' : Mem} {Pf : Nat → Nat → Nat → Prop}
theorem Ce.fs (h : Ce M) (hf : Fs Pf M M') (hp : ∀ t i j, Pf t i j → ¬ ((t = 4 ∨ 33 ≤ t ∧ t ≤ 38) ∧ i < 4) ∧ ¬ (t = 9 ∧ (j = 1 ∨ j = 13 ∨ j = 14))) : Ce M' := by
  have hr : ∀ i : Nat, i < 4 → rd M' i = rd M i := fun i hi => rd_fs hf (fun t j ht z => (hp _ _ _ z).1 ⟨ht, hi⟩)
  have e1 := hf.g1 9 0 1 (fun z => (hp _ _ _ z).2 (by omega))
  have e2 := hf.g1 9 0 13 (fun z => (hp _ _ _ z).2 (by omega))
  have e3 := hf.g1 9 0 14 (fun z => (hp _ _ _ z).2 (by omega))
  refine ⟨by rw [e1, e2]; exact h.1, fun i hi => ?_⟩
  rw [hr i hi, hf.g1 4 i 0 (fun z => (hp _ _ _ z).1 (by omega)), e2, e3]; exact h.2 i hi
theorem Cl.fs (h : Cl M) (hf : Fs Pf M M') (hp : ∀ t i j, Pf t i j → ¬ ((t = 4 ∨ 33 ≤ t ∧ t ≤ 38) ∧ i < 4) ∧ ¬ (t = 9 ∧ j = 1) ∧ ¬ (29 ≤ t ∧ t ≤ 32)) : Cl M' := by
  have hr : ∀ i : Nat, i < 4 → rd M' i = rd M i := fun i hi => rd_fs hf (fun t j ht z => (hp _ _ _ z).1 ⟨ht, hi⟩)
  intro k hk
  have e1 := hf.g1 9 0 1 (fun z => (hp _ _ _ z).2.1 (by omega))
  have a1 := hf.g1 31 0 k (fun z => (hp _ _ _ z).2.2 (by omega))
  have a2 := hf.g1 32 0 k (fun z => (hp _ _ _ z).2.2 (by omega))
  have a3 := hf.g2 29 0 k (fun z => (hp _ _ _ z).2.2 (by omega))
  have a4 := hf.g2 30 0 k (fun z => (hp _ _ _ z).2.2 (by omega))
  refine ⟨by rw [e1, a1]; exact (h k hk).1, fun i hi => ?_⟩
  rw [hr i hi, hf.g1 4 i 0 (fun z => (hp _ _ _ z).1 (by omega)), a1, a2, a3, a4]; exact (h k hk).2 i hi
theorem Cr.fs (h : Cr U M) (hf : Fs Pf M M') (hp : ∀ t i j, Pf t i j → ¬ ((t = 4 ∨ 33 ≤ t ∧ t ≤ 38) ∧ i < 4) ∧ ¬ (t = 9 ∧ j = 7) ∧ ¬ ((20 ≤ t ∧ t ≤ 22) ∧ i = 1)) : Cr U M' := by
  unfold Cr at h ⊢
  rw [hf.g1 9 0 7 (fun z => (hp _ _ _ z).2.1 (by omega)), rd_fs hf (fun t j ht z => (hp _ _ _ z).1 ⟨ht, by omega⟩)]
  intro z
  exact (h z).fs hf (fun t j ht y => (hp _ _ _ y).2.2 ⟨by omega, rfl⟩)
theorem ImC.fs {k : Nat} {J : IMG} (h : ImC M k J) (hk : k < 3) (hf : Fs Pf M M') (hp : ∀ t i j, Pf t i j → ¬ ((t = 4 ∨ 33 ≤ t ∧ t ≤ 38) ∧ 1 ≤ i ∧ i < 4) ∧ ¬ ((t = 27 ∨ t = 28 ∨ t = 2) ∧ 1 ≤ i ∧ i < 4)) : ImC M' k J := by
  obtain ⟨h1, h2, h3, h4⟩ := h
  refine ⟨(rd_fs hf (fun t j ht z => (hp _ _ _ z).1 ⟨ht, by omega⟩)).trans h1, fun j hj => (hf.g1 27 _ j (fun z => (hp _ _ _ z).2 (by omega))).trans (h2 j hj), (hf.g1 2 _ 3 (fun z => (hp _ _ _ z).2 (by omega))).trans h3, fun j hj => (hf.g1 28 _ j (fun z => (hp _ _ _ z).2 (by omega))).trans (h4 j hj)⟩
theorem ImR.fs {k : Nat} {J : IMG} (h : ImR M k J) (hf : Fs Pf M M') (hp : ∀ t i j, Pf t i j → ¬ (t = 101 ∧ k * 15 ≤ i ∧ i < k * 15 + 15) ∧ ¬ ((t = 96 ∨ t = 94) ∧ i = k) ∧ ¬ (t = 97 ∧ j = k)) : ImR M' k J := by
  obtain ⟨h1, h2, h3, h4⟩ := h
  have e97 := hf.g1 97 0 k (fun z => (hp _ _ _ z).2.2 ⟨rfl, rfl⟩)
  refine ⟨fun i x hi hx => (hf.g1 101 _ x (fun z => (hp _ _ _ z).1 (by omega))).trans (h1 i x hi hx), (hf.g1 96 k 9 (fun z => (hp _ _ _ z).2.1 (by omega))).trans h2, fun j hj => (hf.g1 96 k j (fun z => (hp _ _ _ z).2.1 (by omega))).trans (h3 j hj), ?_⟩
  rcases h4 with ⟨a, b, c⟩ | ⟨nn, T, a, b, c⟩
  · exact Or.inl ⟨a, b, e97.trans c⟩
  · exact Or.inr ⟨nn, T, a, e97.trans b, fun j hj => (hf.g1 94 k j (fun z => (hp _ _ _ z).2.1 (by omega))).trans (c j hj)⟩
/-- what a call that only asks may touch -/
abbrev pQy (t i j : Nat) : Prop := ¬ (t = 5 ∨ t = 39 ∨ t = 2 ∨ t = 27 ∨ t = 28) ∧ ¬ ((t = 4 ∨ 33 ≤ t ∧ t ≤ 38) ∧ i ≠ 5) ∧ ¬ (t = 9 ∧ (j = 1 ∨ j = 4))
theorem IC.q (h : IC U f B pl n P m I g M) (hm : m ≤ 3) (hf : Fs Pf M M') (c : CI0 M' ∧ Cb M' ∧ Ce M' ∧ Cl M' ∧ Cr U M') (hp : ∀ t i j, Pf t i j → pQy t i j) : IC U f B pl n P m I g M' := by
  obtain ⟨⟨-, -, -, -, -, h6a, h6b⟩, h7, h8, h9, h10, h11, h12, h13, h14, h15⟩ := h
  have e91 := hf.g1 9 0 1 (fun z => (hp _ _ _ z).2.2 (by omega))
  refine ⟨⟨c.1, c.2.1, c.2.2.1, c.2.2.2.1, c.2.2.2.2, ?_, ?_⟩, fun j hj => (hf.g1 27 0 j (fun z => (hp _ _ _ z).1 (by omega))).trans (h7 j hj), (hf.g1 5 0 2 (fun z => (hp _ _ _ z).1 (by omega))).trans h8, fun j => (hf.g1 39 0 j (fun z => (hp _ _ _ z).1 (by omega))).trans (h9 j), (hf.g1 5 0 1 (fun z => (hp _ _ _ z).1 (by omega))).trans h10, (hf.g1 2 0 3 (fun z => (hp _ _ _ z).1 (by omega))).trans h11, fun j hj => (hf.g1 28 0 j (fun z => (hp _ _ _ z).1 (by omega))).trans (h12 j hj), (hf.g1 9 0 4 (fun z => (hp _ _ _ z).2.2 (by omega))).trans h13, by rw [e91]; exact h14, fun k hk => (h15 k hk).fs (by omega) hf (fun t i j z => ⟨fun y => (hp _ _ _ z).2.1 ⟨y.1, by omega⟩, fun y => (hp _ _ _ z).1 (by omega)⟩)⟩
  · rw [hf.g1 5 0 6 (fun z => (hp _ _ _ z).1 (by omega))]; exact h6a
  · intro j hj
    rw [hf.g1 38 4 j (fun z => (hp _ _ _ z).2.1 (by omega))]; exact h6b j hj
/-- frames that touch nothing of the class -/
theorem IC.kp (h : IC U f B pl n P m I g M) (hm : m ≤ 3) (hf : Fs Pf M M') (hp : ∀ t i j, Pf t i j → ¬ (t < 10 ∨ 20 ≤ t ∧ t ≤ 53)) : IC U f B pl n P m I g M' := by
  have k := CI0.kp h.1.1 h.1.2.1 hf (fun t i j z => by have := hp t i j z; omega)
  exact h.q hm hf ⟨k.1, k.2, h.1.2.2.1.fs hf (fun t i j z => by have := hp t i j z; omega), h.1.2.2.2.1.fs hf (fun t i j z => by have := hp t i j z; omega), h.1.2.2.2.2.1.fs hf (fun t i j z => by have := hp t i j z; omega)⟩ (fun t i j z => by have := hp t i j z; omega)
theorem IR.q (h : IR R U f B pl n P m I M) (hs : MS R M M') : IR R U f B pl n P m I M' := by
  obtain ⟨hf, hc⟩ := hs
  obtain ⟨-, h2, h3, h4, h5, h6, h7, h8, h9, h10⟩ := h
  have e11 := hf.g1 10 0 11 (by unfold scM; omega)
  exact ⟨hc, fun i x hi hx => (hf.g1 87 i x (by unfold scM; omega)).trans (h2 i x hi hx), (hf.g1 10 0 1 (by unfold scM; omega)).trans h3, fun j => (hf.g1 54 0 j (by unfold scM; omega)).trans (h4 j), (hf.g1 10 0 3 (by unfold scM; omega)).trans h5, (hf.g1 10 0 54 (by unfold scM; omega)).trans h6, fun j hj => (hf.g1 92 0 j (by unfold scM; omega)).trans (h7 j hj), (hf.g1 10 0 55 (by unfold scM; omega)).trans h8, by rw [e11]; exact h9, fun k hk => (h10 k hk).fs hf (fun t i j z => by unfold scM at z; omega)⟩
theorem IR.kp (h : IR R U f B pl n P m I M) (hf : Fs Pf M M') (hp : ∀ t i j, Pf t i j → ¬ (t = 10 ∨ 54 ≤ t ∧ t ≤ 114)) : IR R U f B pl n P m I M' := by
  obtain ⟨h1, h2, h3, h4, h5, h6, h7, h8, h9, h10⟩ := h
  have g : ∀ t i j, (t = 10 ∨ 54 ≤ t ∧ t ≤ 114) → M'.1 t i j = M.1 t i j := fun t i j ht => hf.g1 t i j (fun z => hp _ _ _ z ht)
  exact ⟨h1.fs hf (fun t i j z y => by have := hp _ _ _ z; omega), fun i x hi hx => (g 87 i x (by omega)).trans (h2 i x hi hx), (g 10 0 1 (by omega)).trans h3, fun j => (g 54 0 j (by omega)).trans (h4 j), (g 10 0 3 (by omega)).trans h5, (g 10 0 54 (by omega)).trans h6, fun j hj => (g 92 0 j (by omega)).trans (h7 j hj), (g 10 0 55 (by omega)).trans h8, by rw [g 10 0 11 (by omega)]; exact h9, fun k hk => (h10 k hk).fs hf (fun t i j z => by have := hp _ _ _ z; omega)⟩
theorem MS.fm (h : MS R M M') : Fs pMd M M' := h.1.mono (fun t i j z => by unfold scM at z; omega)
theorem Cur.px (h : Cur R M) : R 4 3 ≤ 9999 ∧ (1 ≤ R 4 1 → (∀ k : Nat, k < 15 → R 35 k ≤ 99) ∧ ∀ i : Nat, i < 3 → R 36 (i * 5) = 0) := by
  rcases h with ⟨h1, -, h2, -⟩ | ⟨B, n, T, hx, -⟩
  · refine ⟨by rw [h2 3 (by omega) (by omega)]; omega, fun z => by omega⟩
  · refine ⟨hx.pz.1, fun _ => ⟨hx.c99, fun i hi => ?_⟩⟩
    obtain ⟨hn, -, -, D, ht, hr⟩ := hx
    have hw := (txt_wd hn ht).1.2
    rw [hr.2.1 36 _ (by omega)]
    exact (((hw i hi).2.2.2.2 0 (by omega)).2.2 (Or.inl rfl)).2
theorem fs_out {v : Int64} : Fs pKl M (sL M 115 0 0 v) := Fs.rf.sL (by omega)
theorem IC.out {v : Int64} (h : IC U f B pl n P m I g M) (hm : m ≤ 3) : IC U f B pl n P m I g (sL M 115 0 0 v) := h.kp hm (Pf := fun t _ _ => t = 115) (Fs.rf.sL rfl) (fun t i j z => by omega)
theorem IC.ghost (h : IC U f B pl n P m I g M) (hm : m ≤ 3) : IC U f B pl n P m I g (gh M) := h.kp hm (Pf := fun t _ _ => t = 900) (Fs.rf.sI rfl) (fun t i j z => by omega)
theorem gh_eq : (gh M).1 900 0 0 = M.1 900 0 0 + 1 := sI_eq
/-- what stands behind a call of the class through the law -/
abbrev AfC (M M' : Mem) : Prop := Fs pKl M M' ∧ 0 ≤ M'.1 900 0 0 ∧ M'.1 900 0 0 ≤ M.1 900 0 0 + 1
theorem AfC.th (h : 0 ≤ M.1 900 0 0) : AfC M (gh M) := ⟨Fs.rf.sI (by omega), by rw [gh_eq]; omega, by rw [gh_eq]; omega⟩
theorem AfC.ok {v : Int64} (h : 0 ≤ M.1 900 0 0) (hf : Fs Pf M M') (hp : ∀ t i j, Pf t i j → t < 10 ∨ 20 ≤ t ∧ t ≤ 53) : AfC M (sL M' 115 0 0 v) := by
  refine ⟨(hf.mono (fun t i j z => by have := hp t i j z; omega)).sL (by omega), ?_, ?_⟩
  · rw [sL1, hf.g1 900 0 0 (fun z => by have := hp _ _ _ z; omega)]; exact h
  · rw [sL1, hf.g1 900 0 0 (fun z => by have := hp _ _ _ z; omega)]; omega
end
