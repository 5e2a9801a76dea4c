/-! LAYER 3, THE REFERENCE SETTLES A STATE -/
theorem m_mayAll {d : Nat} {M Q X} {R : RT} {v : Int} {c : Prop} [Decidable c] (hM : MR R M) (h : WR R) (hv : 0 ≤ v ∧ v < 125) (hc : c ↔ ∀ s : Int, 0 ≤ s → s < R 4 1 → M.1 111 s.toNat (dg v s).toNat ≠ 0) : Call (d + 2) qMo_mayAll [vr 10 0, vi v] M Q X = Q (vi (if c then 1 else 0)) M := by
  refine Call_eq (fun Q X hq => ?_) Q X
  have hb := h.b
  have n0 := hM.1
  rw [eMo_mayAll, bMo_mayAll_0]
  refine loop_up (α := Unit) (fun k _ => At (d + 1) kMo_mayAll 2 [vr 10 0, vi v, vi k] [] M Q X) (fun k _ => ∀ s : Int, 0 ≤ s → s < k → M.1 111 s.toNat (dg v s).toNat ≠ 0) 0 (R 4 1) ?_ ?_ 0 () (by omega) (by omega) (by intros; omega)
  · intro _ ha
    rw [bMo_mayAll_2, n0, if_pos (by omega), bMo_mayAll_19]
    rw [if_pos (hc.mpr ha)] at hq
    exact hq
  · intro k _ k1 k2 ha hk
    have hg := dg_R v k
    rw [bMo_mayAll_2, n0, if_neg (by omega), bMo_mayAll_6 (by omega), m_digit hv, KV_eq, bMo_mayAll_13 (by omega), show 0 * 3 + k.toNat = k.toNat by omega]
    by_cases hz : M.1 111 k.toNat (dg v k).toNat ≠ 0
    · rw [if_pos hz, bMo_mayAll_17, w32_id (by omega)]
      refine hk () ?_
      intro s s1 s2
      by_cases he : s = k
      · subst he; exact hz
      · exact ha s s1 (by omega)
    · rw [if_neg hz, bMo_mayAll_15]
      rw [if_neg (fun z => hz (hc.mp z k k1 k2))] at hq
      exact hq
/-- the most, found from any of them on -/
theorem mxJ_le {a b : Int64} : a.toInt ≤ (mxJ a b).toInt ∧ b.toInt ≤ (mxJ a b).toInt ∧ (mxJ a b = a ∨ mxJ a b = b) := by
  have h1 : a < b ↔ a.toInt < b.toInt := Int64.lt_iff_toInt_lt
  unfold mxJ
  split
  · rename_i h; rw [h1] at h; exact ⟨by omega, by omega, Or.inr rfl⟩
  · rename_i h; rw [h1] at h; exact ⟨by omega, by omega, Or.inl rfl⟩
theorem mst_max {c : Int → Bool} {f : Int → Int64} (h0 : c 0 = true) : ∀ n : Nat, (∀ e : Int, 0 ≤ e → e ≤ n → c e = true → (f e).toInt ≤ (mst c f n).toInt) ∧ ∃ e : Int, 0 ≤ e ∧ e ≤ n ∧ c e = true ∧ mst c f n = f e
  | 0 => ⟨fun e e1 e2 _ => by have : e = 0 := by omega
                              subst this; exact Int.le_refl _, 0, by omega, by omega, h0, rfl⟩
  | n + 1 => by
    obtain ⟨i1, e', j1, j2, j3, j4⟩ := mst_max (f := f) h0 n
    unfold mst
    by_cases hc : c ((n + 1 : Nat) : Int) = true
    · rw [if_pos hc]
      have hm := mxJ_le (a := mst c f n) (b := f ((n + 1 : Nat) : Int))
      refine ⟨?_, ?_⟩
      · intro e e1 e2 e3
        by_cases he : e = ((n + 1 : Nat) : Int)
        · subst he; exact hm.2.1
        · have := i1 e e1 (by omega) e3; omega
      · rcases hm.2.2 with q | q
        · exact ⟨e', j1, by omega, j3, by rw [q, j4]⟩
        · exact ⟨_, by omega, by omega, hc, q⟩
    · rw [if_neg hc]
      refine ⟨?_, e', j1, by omega, j3, j4⟩
      intro e e1 e2 e3
      by_cases he : e = ((n + 1 : Nat) : Int)
      · subst he; exact absurd e3 hc
      · exact i1 e e1 (by omega) e3
theorem mst_uniq {c : Int → Bool} {f : Int → Int64} (h0 : c 0 = true) {n : Nat} {m : Int64} (h1 : ∀ e : Int, 0 ≤ e → e ≤ n → c e = true → (f e).toInt ≤ m.toInt) (h2 : ∃ e : Int, 0 ≤ e ∧ e ≤ n ∧ c e = true ∧ m = f e) : m = mst c f n := by
  obtain ⟨i1, e', j1, j2, j3, j4⟩ := mst_max (f := f) h0 n
  obtain ⟨e, k1, k2, k3, k4⟩ := h2
  apply Int64.toInt_inj.mp
  have a := i1 e k1 k2 k3
  have b := h1 e' j1 j2 j3
  rw [← j4] at b
  rw [← k4] at a
  omega
theorem pick_skip {ok : Int → Bool} {g sm : Int → Int64} (a : Nat) : ∀ k : Nat, (∀ j : Nat, a < j → j ≤ a + k → ok (j : Int) = false) → pick ok g sm (a + k) = pick ok g sm a
  | 0, _ => rfl
  | k + 1, h => by
    have ih := pick_skip (g := g) (sm := sm) a k (fun j h1 h2 => h j h1 (by omega))
    show pick ok g sm (a + k + 1) = _
    unfold pick
    rw [if_neg (fun z => by have := h (a + k + 1) (by omega) (by omega); rw [this] at z; exact absurd z.2 (by simp)), ih]
    cases a <;> rfl
abbrev pSc (t i j : Nat) : Prop := pHo t i j ∨ t = 79 ∨ t = 82 ∨ t = 84 ∨ t = 109 ∨ t = 111 ∨ t = 112
abbrev pSt (a g b : Nat) (t i j : Nat) : Prop := pSc t i j ∨ (t = 71 ∧ i = a) ∨ (t = 75 ∧ i = a) ∨ (t = 78 ∧ i = g ∧ j = b)
theorem mS_zero {R : RT} (h : WR R) {V w x s p q} (hf : fitsP R x) (hs : 0 ≤ s ∧ s < 3) (hn : R 4 1 ≤ s) : mSR R V w x s p q = rG R V w x (ix s p q 0) s := by
  symm
  refine mst_uniq (decide_eq_true (Or.inl rfl)) ?_ ⟨0, by omega, by omega, decide_eq_true (Or.inl rfl), rfl⟩
  intro e e1 e2 he
  have := can_nin h hf hs.1 hs.2 hn (of_decide_eq_true he)
  subst this
  exact Int.le_refl _
/-- who has no place has no gain: the reference leaves it out -/
theorem gn_n {R : RT} (h : WR R) (hn1 : 1 ≤ R 4 1) {V w x r} (hf : fitsP R x) (hr : okR R w x r = true) (hr0 : 0 ≤ r ∧ r < 125) (hV : ∀ y i : Int, 0 ≤ i → i < 3 → 0 ≤ y → y < 125 → fitsP R y → dg y i = 0 → V y i = 0) (s : Int) (hs : 0 ≤ s ∧ s < 3) (hn : R 4 1 ≤ s) : rG R V w x r s = 0 ∧ mSR R V w x s (if s = 0 then dr r 1 else dr r 0) (if s = 2 then dr r 1 else dr r 2) = 0 := by
  obtain ⟨c0, c1, c2⟩ := ok_of hr
  have hz := nin_of h hf hs.1 hs.2 hn
  have g : rG R V w x r s = 0 := G0_zero h hf hz hs (fun y y1 y2 hfy hy => hV y s (by omega) (by omega) y1 y2 hfy hy) c0 c1 c2
  refine ⟨g, ?_⟩
  rw [mS_zero h hf hs hn]
  have d0 := dr_R r 0
  have d1 := dr_R r 1
  have d2 := dr_R r 2
  unfold rG
  rcases (by omega : s = 1 ∨ s = 2) with rfl | rfl
  · obtain ⟨t0, t1, t2⟩ := (dr_ix (s := 1) (p := dr r 0) (q := dr r 2) (e := 0) (by omega) (by omega) (by omega) (by omega)).2.1 rfl
    rw [if_neg (by omega), if_neg (by omega), t0, t1, t2]
    exact G0_zero h hf hz hs (fun y y1 y2 hfy hy => hV y 1 (by omega) (by omega) y1 y2 hfy hy) c0 (Or.inl rfl) c2
  · obtain ⟨t0, t1, t2⟩ := (dr_ix (s := 2) (p := dr r 0) (q := dr r 1) (e := 0) (by omega) (by omega) (by omega) (by omega)).2.2 rfl
    rw [if_neg (by omega), if_pos rfl, t0, t1, t2]
    exact G0_zero h hf hz hs (fun y y1 y2 hfy hy => hV y 2 (by omega) (by omega) y1 y2 hfy hy) c0 c1 (Or.inl rfl)
