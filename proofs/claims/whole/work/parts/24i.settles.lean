/-! LAYER 3, THE REFERENCE SETTLES A STATE: its run -/
theorem dg_lt {v n : Int} (hn : 1 ≤ n ∧ n ≤ 3) (hv : 0 ≤ v ∧ v < p5 n) {s : Int} (hs : n ≤ s) (hs3 : s < 3) : dg v s = 0 := by
  have e1 : dg v 1 = v / 5 % 5 := rfl
  have e2 : dg v 2 = v / 25 % 5 := rfl
  rcases (by omega : n = 1 ∨ n = 2 ∨ n = 3) with rfl | rfl | rfl
  · have : p5 1 = 5 := rfl
    rcases (by omega : s = 1 ∨ s = 2) with rfl | rfl <;> omega
  · have : p5 2 = 25 := rfl
    have : s = 2 := by omega
    subst this; omega
  · omega
theorem p5_R {n : Int} (hn : 1 ≤ n ∧ n ≤ 3) : 5 ≤ p5 n ∧ p5 n ≤ 125 := by
  rcases (by omega : n = 1 ∨ n = 2 ∨ n = 3) with rfl | rfl | rfl
  · have : p5 1 = 5 := rfl
    omega
  · have : p5 2 = 25 := rfl
    omega
  · have : p5 3 = 125 := rfl
    omega
theorem p5u5 {n : Int} (hn : 1 ≤ n ∧ n ≤ 3) : p5 n * u5 n = 125 ∧ 1 ≤ u5 n ∧ u5 n ≤ 25 := by
  rcases (by omega : n = 1 ∨ n = 2 ∨ n = 3) with rfl | rfl | rfl <;> exact ⟨rfl, by decide, by decide⟩
theorem rvw_R (v : Int) : 0 ≤ rvw v ∧ rvw v < 125 := by
  have h0 := dg_R v 0
  have h1 := dg_R v 1
  have h2 := dg_R v 2
  unfold rvw mm; omega
theorem su_R {s : Int} : su s = 1 ∨ su s = 5 ∨ su s = 25 := by
  unfold su; repeat' split
  all_goals simp
/-- a row with another digit -/
theorem rvw_set {v s e : Int} (hv : 0 ≤ v ∧ v < 125) (hs : 0 ≤ s ∧ s < 3) (he : 0 ≤ e ∧ e < 5) : (0 ≤ v + (e - dg v s) * su s ∧ v + (e - dg v s) * su s < 125) ∧ rvw (v + (e - dg v s) * su s) = ix s (if s = 0 then dg v 1 else dg v 0) (if s = 2 then dg v 1 else dg v 2) e ∧ (∀ k : Int, 0 ≤ k → k < 3 → dg (v + (e - dg v s) * su s) k = if k = s then e else dg v k) := by
  obtain ⟨a, b, c, ha, hb, hc, hab⟩ : ∃ a b c : Int, (0 ≤ a ∧ a < 5) ∧ (0 ≤ b ∧ b < 5) ∧ (0 ≤ c ∧ c < 5) ∧ v = a + 5 * b + 25 * c := ⟨v % 5, v / 5 % 5, v / 25, by omega, by omega, by omega, by omega⟩
  have f : ∀ a b c : Int, (0 ≤ a ∧ a < 5) → (0 ≤ b ∧ b < 5) → (0 ≤ c ∧ c < 5) → dg (a + 5 * b + 25 * c) 0 = a ∧ dg (a + 5 * b + 25 * c) 1 = b ∧ dg (a + 5 * b + 25 * c) 2 = c := by
    intro a b c ha hb hc
    refine ⟨?_, ?_, ?_⟩
    · show (a + 5 * b + 25 * c) % 5 = a; omega
    · show (a + 5 * b + 25 * c) / 5 % 5 = b; omega
    · show (a + 5 * b + 25 * c) / 25 % 5 = c; omega
  subst hab
  obtain ⟨f0, f1, f2⟩ := f a b c ha hb hc
  have u0 : su 0 = 1 := rfl
  have u1 : su 1 = 5 := rfl
  have u2 : su 2 = 25 := rfl
  rcases (by omega : s = 0 ∨ s = 1 ∨ s = 2) with rfl | rfl | rfl
  · obtain ⟨g0, g1, g2⟩ := f e b c he hb hc
    rw [f0, u0, show a + 5 * b + 25 * c + (e - a) * 1 = e + 5 * b + 25 * c by omega]
    refine ⟨by omega, ?_, ?_⟩
    · unfold rvw; rw [g0, g1, g2, if_pos rfl, if_neg (by omega), f1, f2]; rfl
    · intro k k1 k2
      rcases (by omega : k = 0 ∨ k = 1 ∨ k = 2) with rfl | rfl | rfl
      · rw [g0, if_pos rfl]
      · rw [g1, if_neg (by omega), f1]
      · rw [g2, if_neg (by omega), f2]
  · obtain ⟨g0, g1, g2⟩ := f a e c ha he hc
    rw [f1, u1, show a + 5 * b + 25 * c + (e - b) * 5 = a + 5 * e + 25 * c by omega]
    refine ⟨by omega, ?_, ?_⟩
    · unfold rvw; rw [g0, g1, g2, if_neg (by omega), if_neg (by omega), f0, f2]; rfl
    · intro k k1 k2
      rcases (by omega : k = 0 ∨ k = 1 ∨ k = 2) with rfl | rfl | rfl
      · rw [g0, if_neg (by omega), f0]
      · rw [g1, if_pos rfl]
      · rw [g2, if_neg (by omega), f2]
  · obtain ⟨g0, g1, g2⟩ := f a b e ha hb he
    rw [f2, u2, show a + 5 * b + 25 * c + (e - c) * 25 = a + 5 * b + 25 * e by omega]
    refine ⟨by omega, ?_, ?_⟩
    · unfold rvw; rw [g0, g1, g2, if_neg (by omega), if_pos rfl, f0, f1]; rfl
    · intro k k1 k2
      rcases (by omega : k = 0 ∨ k = 1 ∨ k = 2) with rfl | rfl | rfl
      · rw [g0, if_neg (by omega), f0]
      · rw [g1, if_neg (by omega), f1]
      · rw [g2, if_pos rfl]
/-- all that may be done stands in the table -/
def May (R : RT) (w x : Int) (M : Mem) : Prop := ∀ s e : Int, 0 ≤ s → s < R 4 1 → 0 ≤ e → e < 5 → M.1 111 s.toNat e.toNat = if canP R w x s e then 1 else 0
/-- the rows, weighed, below v -/
def Rows (R : RT) (V : Int → Int → Int64) (w x v : Int) (M : Mem) : Prop := ∀ u : Int, 0 ≤ u → u < v → M.1 109 0 u.toNat = (if okR R w x (rvw u) = true then 1 else 0) ∧ (okR R w x (rvw u) = true → ∀ s : Int, 0 ≤ s → s < R 4 1 → M.2 84 u.toNat s.toNat = rG R V w x (rvw u) s)
theorem ok_rvw {R : RT} (h : WR R) (hn1 : 1 ≤ R 4 1) {w x v : Int} (hv : 0 ≤ v ∧ v < p5 (R 4 1)) : okR R w x (rvw v) = true ↔ ∀ s : Int, 0 ≤ s → s < R 4 1 → canP R w x s (dg v s) := by
  have hb := h.b
  have q : ∀ s : Int, 0 ≤ s → s < 3 → ¬ s < R 4 1 → canP R w x s (dg v s) := fun s a1 a2 a3 => by rw [dg_lt ⟨hn1, by omega⟩ hv (by omega) a2]; exact Or.inl rfl
  unfold okR
  rw [decide_eq_true_eq, dr_rvw (by omega), dr_rvw (by omega), dr_rvw (by omega)]
  constructor
  · rintro ⟨c0, c1, c2⟩ s a1 a2
    rcases (by omega : s = 0 ∨ s = 1 ∨ s = 2) with rfl | rfl | rfl
    · exact c0
    · exact c1
    · exact c2
  · intro hc
    have r : ∀ s : Int, 0 ≤ s → s < 3 → canP R w x s (dg v s) := fun s a1 a2 => by
      by_cases hs : s < R 4 1
      · exact hc s a1 hs
      · exact q s a1 a2 hs
    exact ⟨r 0 (by omega) (by omega), r 1 (by omega) (by omega), r 2 (by omega) (by omega)⟩
theorem fits_cd {R : RT} {p b : Int} (hfit : ∀ s : Int, 0 ≤ s → s < 3 → dg p s ≤ stp R s) : fitsP R (cd p b) := by
  have q : ∀ k : Int, 0 ≤ k → k < 3 → dg (cd p b) k ≤ stp R k := by
    intro k k1 k2
    have hh := hfit k k1 k2
    have := dg_R p k
    rw [dg_cd ⟨k1, k2⟩]; unfold lsp; split <;> omega
  exact ⟨q 0 (by omega) (by omega), q 1 (by omega) (by omega), q 2 (by omega) (by omega)⟩
section
variable {d : Nat} {M : Mem} {Q : AV → Mem → Prop} {X : Nat → Mem → Prop} {w p b : Int} {R : RT} {V : Int → Int → Int64}
/-- first: what may be done -/
theorem m_settles1 (hM : MR R M) (h : WR R) (hn1 : 1 ≤ R 4 1) (hH : HL R M) (hS : Sta R p b) (hg : Gng p b) (hw : 1 ≤ w ∧ w ≤ 6)
    (hq : ∀ M', Fs pSc M M' → May R w (cd p b) M' → ∀ z5 z6 z7 z8 z9 z10 z11 z12 z13 z14 z15 z16 z17 z18 z19, At (d + 61) kMo_settles 28 [vr 10 0, vi w, vi p, vi b, vi (R 4 1), z5, z6, z7, z8, z9, z10, z11, z12, z13, z14, z15, z16, z17, z18, z19] [] M' Q X) : Call (d + 62) qMo_settles [vr 10 0, vi w, vi p, vi b] M Q X := by
  have hb := h.b
  have n0 := hM.1
  rw [show d + 62 = (d + 61) + 1 from rfl, eMo_settles, bMo_settles_0]
  have hloop := loop2I 0 (R 4 1) 0 5 (by omega) (by omega) (fun s M' => ∀ z5 z6 z7 z8 z9 z10 z11 z12 z13 z14 z15 z16 z17 z18 z19, At (d + 61) kMo_settles 2 [vr 10 0, vi w, vi p, vi b, vi s, z5, z6, z7, z8, z9, z10, z11, z12, z13, z14, z15, z16, z17, z18, z19] [] M' Q X) (fun s e M' => ∀ z6 z7 z8 z9 z10 z11 z12 z13 z14 z15 z16 z17 z18 z19, At (d + 61) kMo_settles 8 [vr 10 0, vi w, vi p, vi b, vi s, vi e, z6, z7, z8, z9, z10, z11, z12, z13, z14, z15, z16, z17, z18, z19] [] M' Q X)
    (fun s0 e0 M' => Fs pSc M M' ∧ ∀ s e : Int, 0 ≤ s → s < R 4 1 → 0 ≤ e → e < 5 → (s < s0 ∨ s = s0 ∧ e < e0) → M'.1 111 s.toNat e.toNat = if canP R w (cd p b) s e then 1 else 0) ?_ ?_ ?_ ?_ ?_
  · exact hloop M ⟨Fs.rf, by intros; omega⟩ _ _ _ _ _ _ _ _ _ _ _ _ _ _ _
  · rintro M' ⟨g1, g2⟩ z5 z6 z7 z8 z9 z10 z11 z12 z13 z14 z15 z16 z17 z18 z19
    rw [bMo_settles_2, g1.g1 10 0 20 (fun z => by omega), n0, if_pos (by omega)]
    exact hq M' g1 (fun s e a1 a2 a3 a4 => g2 s e a1 a2 a3 a4 (Or.inl a2)) _ _ _ _ _ _ _ _ _ _ _ _ _ _ _
  · rintro s M' s1 s2 ⟨g1, -⟩ g z5 z6 z7 z8 z9 z10 z11 z12 z13 z14 z15 z16 z17 z18 z19
    rw [bMo_settles_2, g1.g1 10 0 20 (fun z => by omega), n0, if_neg (by omega), bMo_settles_6]
    exact g _ _ _ _ _ _ _ _ _ _ _ _ _ _
  · intro s M' s1 s2 g z6 z7 z8 z9 z10 z11 z12 z13 z14 z15 z16 z17 z18 z19
    rw [bMo_settles_8, if_pos (by omega), bMo_settles_26, w32_id (by omega)]
    exact g _ _ _ _ _ _ _ _ _ _ _ _ _ _ _
  · rintro s e M' s1 s2 e1 e2 ⟨g1, g2⟩ gk z6 z7 z8 z9 z10 z11 z12 z13 z14 z15 z16 z17 z18 z19
    rw [bMo_settles_8, if_neg (by omega), bMo_settles_11 (by omega)]
    refine m_mayDo (hM.fs g1 (fun t i j z => by omega)) h (hH.tx (g1.tx (fun t i j z => by omega))) hS hg hw (by omega) (by omega) ?_
    intro M2 k1
    rw [KV_eq, bMo_settles_23 (by omega), w32_id (by omega), show 0 * 3 + s.toNat = s.toNat by omega]
    refine gk _ ⟨(g1.tr (k1.mono (fun t i j z => Or.inl z))).sI (by omega), ?_⟩ _ _ _ _ _ _ _ _ _ _ _ _ _ _
    intro s' e' a1 a2 a3 a4 a5
    by_cases he : s' = s ∧ e' = e
    · obtain ⟨rfl, rfl⟩ := he
      rw [sI_eq]; split <;> rfl
    · rw [sI_ne (by omega), k1.g1 111 _ _ (fun z => by omega)]
      exact g2 s' e' a1 a2 a3 a4 (by omega)
  · rintro s M' s1 s2 ⟨g1, g2⟩
    exact ⟨g1, fun s' e' a1 a2 a3 a4 a5 => g2 s' e' a1 a2 a3 a4 (by omega)⟩
/-- then: every row is weighed -/
theorem m_settles2 (hM : MR R M) (h : WR R) (hn1 : 1 ≤ R 4 1) (hS : Sta R p b) (hg : Gng p b) (hfit : ∀ s : Int, 0 ≤ s → s < 3 → dg p s ≤ stp R s) (hw : 1 ≤ w ∧ w ≤ 6) (hmay : May R w (cd p b) M)
    (hV : ∀ p' b' i : Int, Sta R p' b' → (∀ s : Int, 0 ≤ s → s < 3 → dg p' s ≤ stp R s) → ¬ hfP p' b' → 0 ≤ i → i < R 4 1 → M.2 71 (tI 0 (w - 1) p' b') i.toNat = V (cd p' b') i)
    (hV0 : ∀ y i : Int, 0 ≤ i → i < 3 → 0 ≤ y → y < 125 → fitsP R y → dg y i = 0 → V y i = 0)
    (hq : ∀ M', Fs pSc M M' → Rows R V w (cd p b) (p5 (R 4 1)) M' → ∀ z5 z6 z7 z8 z9 z10 z11 z12 z13 z14 z15 z16 z17 z18 z19, At (d + 61) kMo_settles 88 [vr 10 0, vi w, vi p, vi b, vi (p5 (R 4 1)), z5, z6, z7, z8, z9, z10, z11, z12, z13, z14, z15, z16, z17, z18, z19] [] M' Q X) (z5 z6 z7 z8 z9 z10 z11 z12 z13 z14 z15 z16 z17 z18 z19 : AV) : At (d + 61) kMo_settles 30 [vr 10 0, vi w, vi p, vi b, vi 0, z5, z6, z7, z8, z9, z10, z11, z12, z13, z14, z15, z16, z17, z18, z19] [] M Q X := by
  have hb := h.b
  have n0 := hM.1
  have h5 := p5_R (n := R 4 1) (by omega)
  refine loop_up (fun v M' => ∀ z5 z6 z7 z8 z9 z10 z11 z12 z13 z14 z15 z16 z17 z18 z19, At (d + 61) kMo_settles 30 [vr 10 0, vi w, vi p, vi b, vi v, z5, z6, z7, z8, z9, z10, z11, z12, z13, z14, z15, z16, z17, z18, z19] [] M' Q X) (fun v M' => Fs pSc M M' ∧ May R w (cd p b) M' ∧ Rows R V w (cd p b) v M') 0 (p5 (R 4 1)) ?_ ?_ 0 M (by omega) (by omega) ⟨Fs.rf, hmay, by intro u u1 u2; omega⟩ _ _ _ _ _ _ _ _ _ _ _ _ _ _ _
  · rintro M' ⟨g1, g2, g3⟩ z5 z6 z7 z8 z9 z10 z11 z12 z13 z14 z15 z16 z17 z18 z19
    rw [bMo_settles_30, m_rows (hM.fs g1 (fun t i j z => by omega)), KV_eq, bMo_settles_33, if_pos (by omega)]
    exact hq M' g1 g3 _ _ _ _ _ _ _ _ _ _ _ _ _ _ _
  · rintro v M' v1 v2 ⟨g1, g2, g3⟩ gk z5 z6 z7 z8 z9 z10 z11 z12 z13 z14 z15 z16 z17 z18 z19
    have hM' : MR R M' := hM.fs g1 (fun t i j z => by omega)
    have hcond : okR R w (cd p b) (rvw v) = true ↔ ∀ s : Int, 0 ≤ s → s < R 4 1 → M'.1 111 s.toNat (dg v s).toNat ≠ 0 := by
      rw [ok_rvw h hn1 ⟨v1, v2⟩]
      constructor
      · intro hc s a1 a2
        have := dg_R v s
        rw [g2 s (dg v s) a1 a2 (by omega) (by omega), if_pos (hc s a1 a2)]; omega
      · intro hc s a1 a2
        have hd := dg_R v s
        have := hc s a1 a2
        rw [g2 s (dg v s) a1 a2 (by omega) (by omega)] at this
        by_cases hz : canP R w (cd p b) s (dg v s)
        · exact hz
        · rw [if_neg hz] at this; exact absurd rfl this
    rw [bMo_settles_30, m_rows hM', KV_eq, bMo_settles_33, if_neg (by omega), bMo_settles_34, m_mayAll hM' h (by omega) hcond, KV_eq, bMo_settles_40 (by omega)]
    have e2 : (if okR R w (cd p b) (rvw v) = true then (1 : Int) else 0) % 2 = if okR R w (cd p b) (rvw v) = true then 1 else 0 := by split <;> rfl
    rw [e2]
    -- the doings of the row
    refine loop_up (fun s M2 => ∀ z6 z7 z8 z9 z10 z11 z12 z13 z14 z15 z16 z17 z18 z19, At (d + 61) kMo_settles 43 [vr 10 0, vi w, vi p, vi b, vi v, vi s, z6, z7, z8, z9, z10, z11, z12, z13, z14, z15, z16, z17, z18, z19] [] M2 Q X) (fun s M2 => Fs (fun t i j => t = 79 ∨ t = 109 ∧ i = 0 ∧ j = v.toNat) M' M2 ∧ M2.1 109 0 v.toNat = (if okR R w (cd p b) (rvw v) = true then 1 else 0) ∧ ∀ s' : Int, 0 ≤ s' → s' < s → M2.1 79 0 s'.toNat = dg v s') 0 (R 4 1) ?_ ?_ 0 _ (by omega) (by omega) ⟨Fs.rf.sI (by omega), sI_eq, by intros; omega⟩ _ _ _ _ _ _ _ _ _ _ _ _ _ _
    · rintro M2 ⟨k1, k2, k3⟩ z6 z7 z8 z9 z10 z11 z12 z13 z14 z15 z16 z17 z18 z19
      have hM2 : MR R M2 := hM'.fs k1 (fun t i j z => by omega)
      have f2 : Fs pSc M M2 := g1.tr (k1.mono (fun t i j z => by omega))
      have may2 : May R w (cd p b) M2 := fun s e a1 a2 a3 a4 => by rw [k1.g1 111 _ _ (fun z => by omega)]; exact g2 s e a1 a2 a3 a4
      rw [bMo_settles_43, hM2.1, if_pos (by omega), bMo_settles_56 (by omega), k2]
      -- what was got is kept
      have keep : ∀ M3, Fs pSc M M3 → May R w (cd p b) M3 → Rows R V w (cd p b) v M3 → M3.1 109 0 v.toNat = (if okR R w (cd p b) (rvw v) = true then 1 else 0) → (okR R w (cd p b) (rvw v) = true → ∀ s : Int, 0 ≤ s → s < R 4 1 → M3.2 82 0 s.toNat = rG R V w (cd p b) (rvw v) s) → ∀ z5 z6 z7 z8 z9 z10 z11 z12 z13 z14 z15 z16 z17 z18 z19, At (d + 61) kMo_settles 68 [vr 10 0, vi w, vi p, vi b, vi v, z5, z6, z7, z8, z9, z10, z11, z12, z13, z14, z15, z16, z17, z18, z19] [] M3 Q X := by
        intro M3 a1 a2 a3 a4 a5 z5 z6 z7 z8 z9 z10 z11 z12 z13 z14 z15 z16 z17 z18 z19
        rw [bMo_settles_68]
        refine loop_up (fun s M4 => ∀ z6 z7 z8 z9 z10 z11 z12 z13 z14 z15 z16 z17 z18 z19, At (d + 61) kMo_settles 70 [vr 10 0, vi w, vi p, vi b, vi v, vi s, z6, z7, z8, z9, z10, z11, z12, z13, z14, z15, z16, z17, z18, z19] [] M4 Q X) (fun s M4 => Fs (fun t i j => t = 84 ∧ i = v.toNat) M3 M4 ∧ ∀ s' : Int, 0 ≤ s' → s' < s → M4.2 84 v.toNat s'.toNat = M3.2 82 0 s'.toNat) 0 (R 4 1) ?_ ?_ 0 M3 (by omega) (by omega) ⟨Fs.rf, by intros; omega⟩ _ _ _ _ _ _ _ _ _ _ _ _ _ _
        · rintro M4 ⟨b1, b2⟩ z6 z7 z8 z9 z10 z11 z12 z13 z14 z15 z16 z17 z18 z19
          have hM4 : MR R M4 := (hM.fs a1 (fun t i j z => by omega)).fs b1 (fun t i j z => by omega)
          rw [bMo_settles_70, hM4.1, if_pos (by omega), bMo_settles_86, w32_id (by omega)]
          refine gk M4 ⟨a1.tr (b1.mono (fun t i j z => by omega)), ?_, ?_⟩ _ _ _ _ _ _ _ _ _ _ _ _ _ _ _
          · intro s e c1 c2 c3 c4
            rw [b1.g1 111 _ _ (fun z => by omega)]; exact a2 s e c1 c2 c3 c4
          · intro u u1 u2
            rw [b1.g1 109 _ _ (fun z => by omega)]
            by_cases hu : u = v
            · subst hu
              refine ⟨a4, fun hok s c1 c2 => ?_⟩
              rw [b2 s c1 c2]; exact a5 hok s c1 c2
            · have := a3 u u1 (by omega)
              refine ⟨this.1, fun hok s c1 c2 => ?_⟩
              rw [b1.g2 84 _ _ (fun z => by omega)]; exact this.2 hok s c1 c2
        · rintro s M4 c1 c2 ⟨b1, b2⟩ bk z6 z7 z8 z9 z10 z11 z12 z13 z14 z15 z16 z17 z18 z19
          have hM4 : MR R M4 := (hM.fs a1 (fun t i j z => by omega)).fs b1 (fun t i j z => by omega)
          rw [bMo_settles_70, hM4.1, if_neg (by omega), bMo_settles_74 (by omega), w32_id (by omega), show 0 * 125 + v.toNat = v.toNat by omega]
          refine bk _ ⟨b1.sL (by omega), ?_⟩ _ _ _ _ _ _ _ _ _ _ _ _ _ _
          intro s' e1 e2
          by_cases he : s' = s
          · subst he; rw [sL_eq, b1.g2 82 _ _ (fun z => by omega)]
          · rw [sL2, if_neg (by omega)]; exact b2 s' e1 (by omega)
      have rows2 : Rows R V w (cd p b) v M2 := by
        intro u u1 u2
        rw [k1.g1 109 _ _ (fun z => by omega)]
        have := g3 u u1 u2
        refine ⟨this.1, fun hok s a1 a2 => ?_⟩
        rw [k1.g2 84 _ _ (fun z => by omega)]; exact this.2 hok s a1 a2
      by_cases hok : okR R w (cd p b) (rvw v) = true
      · rw [if_neg (by rw [if_pos hok]; omega), bMo_settles_61]
        have hcan := (ok_rvw h hn1 ⟨v1, v2⟩).mp hok
        have hd3 : ∀ s : Int, 0 ≤ s → s < 3 → d3 (dg v 0) (dg v 1) (dg v 2) s = dg v s := by
          intro s a1 a2
          rcases (by omega : s = 0 ∨ s = 1 ∨ s = 2) with rfl | rfl | rfl <;> rfl
        refine m_weighs (V := V) (d0 := dg v 0) (d1 := dg v 1) (d2 := dg v 2) hM2 h hn1 hS hg hfit hw ?_ ?_ ?_ ?_ ?_ hV0 ?_
        · intro s a1 a2; rw [hd3 s a1 (by omega)]; exact k3 s a1 a2
        · intro s a1 a2; rw [hd3 s (by omega) a2]; exact dg_lt (by omega) ⟨v1, v2⟩ a1 a2
        · intro s a1 a2
          have := dg_R v s
          rw [hd3 s a1 a2]; omega
        · intro s a1 a2
          rw [hd3 s a1 a2]
          by_cases hsn : s < R 4 1
          · exact hcan s a1 hsn
          · rw [dg_lt (by omega) ⟨v1, v2⟩ (by omega) a2]; exact Or.inl rfl
        · intro p' b' i a1 a2 a3 a4 a5
          rw [f2.g2 71 _ _ (fun z => by omega)]; exact hV p' b' i a1 a2 a3 a4 a5
        · intro M3 m1 m2
          rw [KU_eq]
          have f3 : Fs pSc M M3 := f2.tr (m1.fs (fun t i j z => by omega))
          refine keep M3 f3 ?_ ?_ ?_ ?_ _ _ _ _ _ _ _ _ _ _ _ _ _ _ _
          · intro s e a1 a2 a3 a4
            rw [m1.g1 111 _ (fun z => by omega)]; exact may2 s e a1 a2 a3 a4
          · intro u u1 u2
            rw [m1.g1 109 _ (fun z => by omega)]
            have := rows2 u u1 u2
            refine ⟨this.1, fun hok s a1 a2 => ?_⟩
            rw [m1.g2 84 _ (fun z => by omega)]; exact this.2 hok s a1 a2
          · rw [m1.g1 109 _ (fun z => by omega), k2]
          · intro _ s a1 a2
            rw [m2 s a1 a2]
            unfold rG
            rw [dr_rvw (by omega), dr_rvw (by omega), dr_rvw (by omega)]
      · rw [if_pos (by rw [if_neg hok])]
        exact keep M2 f2 may2 rows2 k2 (fun z => absurd z hok) _ _ _ _ _ _ _ _ _ _ _ _ _ _ _
    · rintro s M2 a1 a2 ⟨k1, k2, k3⟩ kk z6 z7 z8 z9 z10 z11 z12 z13 z14 z15 z16 z17 z18 z19
      have hM2 : MR R M2 := hM'.fs k1 (fun t i j z => by omega)
      rw [bMo_settles_43, hM2.1, if_neg (by omega), bMo_settles_47, m_digit (by omega), KV_eq, bMo_settles_53 (by omega), w32_id (by omega)]
      refine kk _ ⟨k1.sI (by omega), by rw [sI_ne (by omega)]; exact k2, ?_⟩ _ _ _ _ _ _ _ _ _ _ _ _ _ _
      intro s' b1 b2
      by_cases he : s' = s
      · subst he; rw [sI_eq]
      · rw [sI_ne (by omega)]; exact k3 s' b1 (by omega)
end
