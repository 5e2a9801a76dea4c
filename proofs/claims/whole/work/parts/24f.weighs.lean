/-! LAYER 3, THE REFERENCE WEIGHS A ROW: its run -/
theorem m_scale {d : Nat} {M Q X} {n w : Int} (hw : 0 ≤ w ∧ w ≤ 6) (hn : 0 ≤ n ∧ n ≤ 3) : Call (d + 1) qMo_scale [vi (w32 (w * n))] M Q X = Q (vl (sc n w)) M := by
  have e1 : w32 (w * n) = w * n := by
    rcases (by omega : n = 0 ∨ n = 1 ∨ n = 2 ∨ n = 3) with h | h | h | h <;> rw [h] <;> exact w32_id (by omega)
  have e2 : w32 (2 * (w * n)) = 2 * w * n := by
    rcases (by omega : n = 0 ∨ n = 1 ∨ n = 2 ∨ n = 3) with h | h | h | h <;> rw [h] <;> rw [w32_id (by omega)] <;> omega
  rw [eMo_scale, bMo_scale_0, e1, e2]
  rfl
theorem wgt_act {n m c0 c1 c2 k : Int} (hk : 0 ≤ k ∧ k < 3) (hkn : k < n) (hb : bit m k = 1) (h : wgt n m c0 c1 c2 ≠ 0) : d3 c0 c1 c2 k ≠ 0 := by
  intro hz
  refine h ?_
  have f : ∀ j c : Int, j < n → bit m j = 1 → c = 0 → wf n m j c = 0 := by
    intro j c h1 h2 h3
    unfold wf; rw [if_pos h1, if_pos h2, h3]; rfl
  unfold wgt
  rcases (by omega : k = 0 ∨ k = 1 ∨ k = 2) with rfl | rfl | rfl
  · rw [f 0 c0 hkn hb hz, Int64.mul_zero, Int64.zero_mul, Int64.zero_mul]
  · rw [f 1 c1 hkn hb hz, Int64.mul_zero, Int64.zero_mul]
  · rw [f 2 c2 hkn hb hz, Int64.mul_zero]
theorem wgt_congr {n m a0 a1 a2 c0 c1 c2 : Int} (h0 : 0 < n → a0 = c0) (h1 : 1 < n → a1 = c1) (h2 : 2 < n → a2 = c2) : wgt n m a0 a1 a2 = wgt n m c0 c1 c2 := by
  have f : ∀ k a c : Int, (k < n → a = c) → wf n m k a = wf n m k c := by
    intro k a c h
    unfold wf
    by_cases hk : k < n
    · rw [if_pos hk, if_pos hk, h hk]
    · rw [if_neg hk, if_neg hk]
  unfold wgt
  rw [f 0 a0 c0 h0, f 1 a1 c1 h1, f 2 a2 c2 h2]
theorem EE_zero {R : RT} {V w x a b c i} (hf : fitsP R x) (hx : dg x i = 0) (hi : 0 ≤ i ∧ i < 3) (ha : 0 ≤ a ∧ a < 3) (hb : 0 ≤ b ∧ b < 3) (hc : 0 ≤ c ∧ c < 3) (hV : ∀ y : Int, 0 ≤ y → y < 125 → fitsP R y → dg y i = 0 → V y i = 0) : EE R V w x a b c i = 0 := by
  obtain ⟨m0, m1, m2⟩ := dr_mm (a := a) (b := b) (c := c) (by omega) (by omega) (by omega)
  have hda := dg_aft (x := x) (m := mm a b c) (s := i) (by omega) (by omega) (by omega) hi
  have hr := aft_R (x := x) (m := mm a b c) (by omega) (by omega) (by omega)
  have had : ad x (mm a b c) i = 0 := by unfold ad; rw [if_neg (by omega), if_neg (by omega)]
  unfold EE
  split
  · exact hV _ hr.1 hr.2 (stl_aft (al := 1) (w := w) ⟨hf, Or.inl (by omega)⟩ ha hb hc).1 (by omega)
  · have : prt R i (won x (mm a b c)) (aft x (mm a b c)) = 0 := by
      unfold prt
      have hbw : bit (won x (mm a b c)) i = 0 := by
        have f : ∀ k : Int, wn1 x (mm a b c) k = 0 ∨ wn1 x (mm a b c) k = pw k := by intro k; unfold wn1; split <;> simp
        have f0 := f 0
        have f1 := f 1
        have f2 := f 2
        have p0 : pw 0 = 1 := rfl
        have p1 : pw 1 = 2 := rfl
        have p2 : pw 2 = 4 := rfl
        have fi : wn1 x (mm a b c) i = 0 := by unfold wn1; rw [if_neg (by omega)]
        rcases (by omega : i = 0 ∨ i = 1 ∨ i = 2) with rfl | rfl | rfl
        · show won x (mm a b c) % 2 = 0; unfold won; omega
        · show won x (mm a b c) / 2 % 2 = 0; unfold won; omega
        · show won x (mm a b c) / 4 % 2 = 0; unfold won; omega
      rw [if_neg (by omega), if_pos (Or.inl (by omega))]
    rw [this, of0, Int64.mul_zero]
theorem cst0 {R : RT} (h : WR R) {s : Int} (hs : 0 ≤ s ∧ s < 3) : cst R s 0 = 0 := by
  have hz := h.2.2.2.2.2.2.2.2.2.2.2.2.2.2.1 s.toNat (by omega)
  unfold cst
  rw [show (s * 5 + 0).toNat = s.toNat * 5 by omega]; exact hz.1
/-- one that is not in gets nothing -/
theorem G0_zero {R : RT} (h : WR R) {V w x d0 d1 d2 i} (hf : fitsP R x) (hx : dg x i = 0) (hi : 0 ≤ i ∧ i < 3) (hV : ∀ y : Int, 0 ≤ y → y < 125 → fitsP R y → dg y i = 0 → V y i = 0) (c0 : canP R w x 0 d0) (c1 : canP R w x 1 d1) (c2 : canP R w x 2 d2) : G0 R V w x d0 d1 d2 i = 0 := by
  have z0 : ∀ d : Int, canP R w x i d → cst R i d = 0 := by
    intro d hc
    rcases hc with hc | hc
    · rw [hc]; exact cst0 h hi
    · omega
  have fz : ∀ s d : Int, 0 ≤ s → s < 3 → canP R w x s d → fv R w x s d i 0 0 0 = 0 := by
    intro s d s1 s2 hc
    unfold fv
    have : (if i = s then Int64.ofInt (cst R s d) * lsr (sc (R 4 1) w) (2 * s) else 0) = 0 := by
      by_cases his : i = s
      · subst his; rw [if_pos rfl, z0 d hc, of0, Int64.zero_mul]
      · rw [if_neg his]
    rw [this, Int64.mul_zero, Int64.mul_zero, Int64.mul_zero]
    split <;> rfl
  have e : ∀ a b c : Int, 0 ≤ a → a < 3 → 0 ≤ b → b < 3 → 0 ≤ c → c < 3 → EE R V w x a b c i = 0 := fun a b c a1 a2 b1 b2 c1 c2 => EE_zero hf hx hi ⟨a1, a2⟩ ⟨b1, b2⟩ ⟨c1, c2⟩ hV
  have g2 : ∀ a b : Int, 0 ≤ a → a < 3 → 0 ≤ b → b < 3 → G2 R V w x a b d2 i = 0 := by
    intro a b a1 a2 b1 b2
    unfold G2
    by_cases hn : 2 < R 4 1
    · rw [if_pos hn, e a b 0 a1 a2 b1 b2 (by omega) (by omega), e a b 1 a1 a2 b1 b2 (by omega) (by omega), e a b 2 a1 a2 b1 b2 (by omega) (by omega)]
      exact fz 2 d2 (by omega) (by omega) c2
    · have := can_nin h hf (s := 2) (by omega) (by omega) (by omega) c2
      rw [if_neg hn]; exact e a b d2 a1 a2 b1 b2 (by omega) (by omega)
  have g1 : ∀ a : Int, 0 ≤ a → a < 3 → G1 R V w x a d1 d2 i = 0 := by
    intro a a1 a2
    unfold G1
    by_cases hn : 1 < R 4 1
    · rw [if_pos hn, g2 a 0 a1 a2 (by omega) (by omega), g2 a 1 a1 a2 (by omega) (by omega), g2 a 2 a1 a2 (by omega) (by omega)]
      exact fz 1 d1 (by omega) (by omega) c1
    · have := can_nin h hf (s := 1) (by omega) (by omega) (by omega) c1
      rw [if_neg hn]; exact g2 a d1 a1 a2 (by omega) (by omega)
  unfold G0
  by_cases hn : 0 < R 4 1
  · rw [if_pos hn, g1 0 (by omega) (by omega), g1 1 (by omega) (by omega), g1 2 (by omega) (by omega)]
    exact fz 0 d0 (by omega) (by omega) c0
  · have := can_nin h hf (s := 0) (by omega) (by omega) (by omega) c0
    rw [if_neg hn]; exact g1 d0 (by omega) (by omega)
abbrev pW (t i : Nat) : Prop := (t = 82 ∨ t = 112) ∧ i = 0
/-- the place of a state's worths in a table of the reference -/
def tI (tb : Nat) (w p b : Int) : Nat := ((tb * 7 + w.toNat) * 125 + p.toNat) * 8 + b.toNat
theorem MR.fr {R M M'} (h : MR R M) {P} (hf : Fr P M M') (hp : ∀ t i, P t i → t ≠ 10 ∧ t ≠ 56 ∧ t ≠ 57 ∧ t ≠ 59 ∧ t ≠ 61) : MR R M' := by
  have q : ∀ t i, (t = 10 ∨ t = 56 ∨ t = 57 ∨ t = 59 ∨ t = 61) → M'.1 t i = M.1 t i := fun t i ht => (hf t i (fun z => by have := hp t i z; omega)).1
  unfold MR
  rw [q 10 0 (by omega), q 56 0 (by omega), q 57 0 (by omega)]
  obtain ⟨h1, h2, h3, h4, h5, h6, h7, h8⟩ := h
  refine ⟨h1, h2, h3, h4, h5, h6, h7, ?_⟩
  intro s e a1 a2 a3 a4
  rw [q 59 _ (by omega), q 61 _ (by omega)]
  exact h8 s e a1 a2 a3 a4
theorem m_weighs {d : Nat} {M Q X} {tb : Nat} {w p b d0 d1 d2 : Int} {R : RT} {V : Int → Int → Int64} (hM : MR R M) (h : WR R) (hn1 : 1 ≤ R 4 1) (hS : Sta R p b) (hg : Gng p b) (hfit : ∀ s : Int, 0 ≤ s → s < 3 → dg p s ≤ stp R s) (hw : 1 ≤ w ∧ w ≤ 6)
    (hd : ∀ s : Int, 0 ≤ s → s < R 4 1 → M.1 79 0 s.toNat = d3 d0 d1 d2 s) (hd0 : ∀ s : Int, R 4 1 ≤ s → s < 3 → d3 d0 d1 d2 s = 0) (hdR : ∀ s : Int, 0 ≤ s → s < 3 → 0 ≤ d3 d0 d1 d2 s ∧ d3 d0 d1 d2 s < 5) (hcan : ∀ s : Int, 0 ≤ s → s < 3 → canP R w (cd p b) s (d3 d0 d1 d2 s))
    (hV : ∀ p' b' i : Int, Sta R p' b' → (∀ s : Int, 0 ≤ s → s < 3 → dg p' s ≤ stp R s) → ¬ hfP p' b' → 0 ≤ i → i < R 4 1 → M.2 71 (tI tb (w - 1) p' b') i.toNat = V (cd p' b') i)
    (hV0 : ∀ y i : Int, 0 ≤ i → i < 3 → 0 ≤ y → y < 125 → fitsP R y → dg y i = 0 → V y i = 0)
    (hq : ∀ M', Fr pW M M' → (∀ s : Int, 0 ≤ s → s < R 4 1 → M'.2 82 0 s.toNat = G0 R V w (cd p b) d0 d1 d2 s) → Q (vi 0) M') : Call (d + 3) qMo_weighs [vr 10 0, vi w, vi p, vi b, vr 68 tb] M Q X := by
  have hb := h.b
  have n0 := hM.1
  obtain ⟨s1, s2, s3⟩ := hS
  have hx := cd_R p b
  generalize hxx : cd p b = x at *
  have hafter : ia b (M.1 79 0 0) (M.1 79 0 1) (M.1 79 0 2) = ia b d0 d1 d2 := by
    have g : ∀ k : Int, 0 ≤ k → k < 3 → (if M.1 79 0 k.toNat = 4 then 0 else bit b k) = (if d3 d0 d1 d2 k = 4 then 0 else bit b k) := by
      intro k k1 k2
      by_cases hk : k < R 4 1
      · rw [hd k k1 hk]
      · rw [(s3 k k1 k2 (by omega)).2]; split <;> split <;> rfl
    have g0 := g 0 (by omega) (by omega)
    have g1 := g 1 (by omega) (by omega)
    have g2 := g 2 (by omega) (by omega)
    have g0 : (if M.1 79 0 0 = 4 then 0 else bit b 0) = (if d0 = 4 then 0 else bit b 0) := g0
    have g1 : (if M.1 79 0 1 = 4 then 0 else bit b 1) = (if d1 = 4 then 0 else bit b 1) := g1
    have g2 : (if M.1 79 0 2 = 4 then 0 else bit b 2) = (if d2 = 4 then 0 else bit b 2) := g2
    unfold ia
    rw [g0, g1, g2]
  rw [eMo_weighs, bMo_weighs_0, m_inAfter hM h s2 (fun s a1 a2 a3 => (s3 s a1 a2 a3).2), hafter, KV_eq, bMo_weighs_3, n0, m_scale (by omega) (by omega), KV_eq, bMo_weighs_9, n0, w32_id (z := w - 1) (by omega), m_scale (by omega) (by omega), KV_eq, bMo_weighs_17]
  have haR := ia_R b d0 d1 d2
  generalize haf : ia b d0 d1 d2 = af at *
  -- what is paid, and the chances
  refine loop_up (fun s M' => ∀ z11 z12 z13 z14 z15, At (d + 2) kMo_weighs 20 [vr 10 0, vi w, vi p, vi b, vr 68 tb, vi af, vl (sc (R 4 1) w), JK, vl (sc (R 4 1) (w - 1)), JK, vi s, z11, z12, z13, z14, z15] [] M' Q X) (fun s M' => Fr pW M M' ∧ ∀ s' : Int, 0 ≤ s' → s' < s → M'.2 82 0 s'.toNat = sT R V w x d0 d1 d2 s' 0 ∧ M'.1 112 0 s'.toNat = chn R w x s' (d3 d0 d1 d2 s')) 0 (R 4 1) ?_ ?_ 0 M (by omega) (by omega) ⟨Fr.rf, by intros; omega⟩ _ _ _ _ _
  · rintro M1 ⟨f1, f2⟩ z11 z12 z13 z14 z15
    have nM1 : M1.1 10 0 20 = R 4 1 := by rw [f1.g1 10 0 (fun z => by omega), n0]
    rw [bMo_weighs_20, nM1, if_pos (by omega), bMo_weighs_54]
    have hpn : pw (R 4 1) = 2 ∧ R 4 1 = 1 ∨ pw (R 4 1) = 4 ∧ R 4 1 = 2 ∨ pw (R 4 1) = 8 ∧ R 4 1 = 3 := by
      rcases (by omega : R 4 1 = 1 ∨ R 4 1 = 2 ∨ R 4 1 = 3) with h9 | h9 | h9 <;> rw [h9]
      · exact Or.inl ⟨rfl, rfl⟩
      · exact Or.inr (Or.inl ⟨rfl, rfl⟩)
      · exact Or.inr (Or.inr ⟨rfl, rfl⟩)
    refine loop_up (fun m M' => ∀ z6 z7 z11 z12 z13 z14 z15, At (d + 2) kMo_weighs 56 [vr 10 0, vi w, vi p, vi b, vr 68 tb, vi af, z6, z7, vl (sc (R 4 1) (w - 1)), JK, vi m, z11, z12, z13, z14, z15] [] M' Q X) (fun m M' => Fr pW M M' ∧ (∀ s' : Int, 0 ≤ s' → s' < R 4 1 → M'.2 82 0 s'.toNat = sT R V w x d0 d1 d2 s' m.toNat) ∧ (∀ s' : Int, 0 ≤ s' → s' < R 4 1 → M'.1 112 0 s'.toNat = chn R w x s' (d3 d0 d1 d2 s'))) 0 (pw (R 4 1)) ?_ ?_ 0 M1 (by omega) (by omega) ⟨f1, fun s' a1 a2 => (f2 s' a1 a2).1, fun s' a1 a2 => (f2 s' a1 a2).2⟩ _ _ _ _ _ _ _
    · rintro M2 ⟨g1, g2, g3⟩ z6 z7 z11 z12 z13 z14 z15
      have nM2 : M2.1 10 0 20 = R 4 1 := by rw [g1.g1 10 0 (fun z => by omega), n0]
      have got : ∀ s' : Int, 0 ≤ s' → s' < R 4 1 → M2.2 82 0 s'.toNat = G0 R V w x d0 d1 d2 s' := by
        intro s' a1 a2
        rw [g2 s' a1 a2]
        rcases hpn with ⟨hp, hn⟩ | ⟨hp, hn⟩ | ⟨hp, hn⟩
        · rw [hp]
          have e1 : d1 = 0 := hd0 1 (by omega) (by omega)
          have e2 : d2 = 0 := hd0 2 (by omega) (by omega)
          subst e1; subst e2
          exact sT1 hn hw (by omega)
        · rw [hp]
          have e2 : d2 = 0 := hd0 2 (by omega) (by omega)
          subst e2
          exact sT2 hn hw (by omega)
        · rw [hp]
          exact sT3 hn hw (by omega)
      rw [bMo_weighs_56, nM2, bshl_pw (by omega), if_pos (by omega), bMo_weighs_122]
      refine loop_up (fun s M' => ∀ z1 z2 z4 z5 z6 z7 z8 z9 z11 z12 z13 z14 z15, At (d + 2) kMo_weighs 124 [vr 10 0, z1, z2, vi b, z4, z5, z6, z7, z8, z9, vi s, z11, z12, z13, z14, z15] [] M' Q X) (fun s M' => Fr pW M M' ∧ ∀ s' : Int, 0 ≤ s' → s' < R 4 1 → M'.2 82 0 s'.toNat = G0 R V w x d0 d1 d2 s') 0 (R 4 1) ?_ ?_ 0 M2 (by omega) (by omega) ⟨g1, got⟩ _ _ _ _ _ _ _ _ _ _ _ _ _
      · rintro M3 ⟨k1, k2⟩ z1 z2 z4 z5 z6 z7 z8 z9 z11 z12 z13 z14 z15
        rw [bMo_weighs_124, k1.g1 10 0 (fun z => by omega), n0, if_pos (by omega), bMo_weighs_139]
        exact hq M3 k1 k2
      · rintro s M3 a1 a2 ⟨k1, k2⟩ kk z1 z2 z4 z5 z6 z7 z8 z9 z11 z12 z13 z14 z15
        have hbs := bit_R b s
        rw [bMo_weighs_124, k1.g1 10 0 (fun z => by omega), n0, if_neg (by omega), bMo_weighs_128, m_isIn s2 (by omega), KV_eq, bMo_weighs_131]
        by_cases hin : bit b s = 1
        · rw [if_pos (by omega), bMo_weighs_137, w32_id (by omega)]
          exact kk M3 ⟨k1, k2⟩ _ _ _ _ _ _ _ _ _ _ _ _ _
        · have hz : G0 R V w x d0 d1 d2 s = 0 := by
            have hl : dg x s = 0 := by rw [← hxx, dg_cd ⟨a1, by omega⟩]; unfold lsp; rw [if_neg hin]
            have hfx : fitsP R x := by
              have q : ∀ k : Int, 0 ≤ k → k < 3 → dg x k ≤ stp R k := by
                intro k k1 k2
                have hh := hfit k k1 k2
                have := dg_R p k
                rw [← hxx, dg_cd ⟨k1, k2⟩]; unfold lsp; split <;> omega
              exact ⟨q 0 (by omega) (by omega), q 1 (by omega) (by omega), q 2 (by omega) (by omega)⟩
            exact G0_zero h hfx hl ⟨a1, by omega⟩ (fun y y1 y2 hfy hy => hV0 y s (by omega) (by omega) y1 y2 hfy hy) (hcan 0 (by omega) (by omega)) (hcan 1 (by omega) (by omega)) (hcan 2 (by omega) (by omega))
          rw [if_neg (by omega), bMo_weighs_132 (by omega), bMo_weighs_137, w32_id (by omega)]
          refine kk _ ⟨k1.sL ⟨by omega, rfl⟩, ?_⟩ _ _ _ _ _ _ _ _ _ _ _ _ _
          intro s' b1 b2
          by_cases he : s' = s
          · subst he; rw [sL_eq, hz]
          · rw [sL2, if_neg (by omega)]; exact k2 s' b1 b2
    · rintro m M2 m1 m2 ⟨g1, g2, g3⟩ gk z6 z7 z11 z12 z13 z14 z15
      have nM2 : M2.1 10 0 20 = R 4 1 := by rw [g1.g1 10 0 (fun z => by omega), n0]
      have hM2 : MR R M2 := hM.fr g1 (fun t i z => by omega)
      have em : (m + 1).toNat = m.toNat + 1 := by omega
      have em2 : ((m.toNat : Nat) : Int) = m := by omega
      have hwg : wgt (R 4 1) m (M2.1 112 0 0) (M2.1 112 0 1) (M2.1 112 0 2) = wgt (R 4 1) m (chn R w x 0 d0) (chn R w x 1 d1) (chn R w x 2 d2) := wgt_congr (fun hh => g3 0 (by omega) hh) (fun hh => g3 1 (by omega) hh) (fun hh => g3 2 (by omega) hh)
      rw [bMo_weighs_56, nM2, bshl_pw (by omega), if_neg (by omega), bMo_weighs_62, m_weight hM2 h (by omega) (fun s a1 a2 => by rw [g3 s a1 a2]; exact chn_R h w x s _ (by omega) (hdR s a1 (by omega))), hwg, KV_eq, bMo_weighs_65]
      generalize hv : wgt (R 4 1) m (chn R w x 0 d0) (chn R w x 1 d1) (chn R w x 2 d2) = v at *
      have stS : ∀ s' : Int, sT R V w x d0 d1 d2 s' (m + 1).toNat = sT R V w x d0 d1 d2 s' m.toNat + v * tm R V w x d0 d1 d2 m s' := by
        intro s'
        rw [em, sT, em2, hv]
      by_cases hv0 : v = 0
      · rw [if_neg (by rw [ne_eq, cmp64_eq]; simp [hv0]), bMo_weighs_70, bMo_weighs_120, w32_id (by omega)]
        refine gk M2 ⟨g1, ?_, g3⟩ _ _ _ _ _ _ _
        intro s' a1 a2
        rw [stS, hv0, Int64.zero_mul, Int64.add_zero]
        exact g2 s' a1 a2
      · rw [if_pos (by rw [ne_eq, cmp64_eq]; exact hv0), bMo_weighs_71, m_comesTo s1 (by omega), KV_eq, bMo_weighs_75]
        have hact : ∀ k : Int, 0 ≤ k → k < 3 → bit m k = 1 → bit b k = 1 ∧ d3 d0 d1 d2 k ≠ 4 := by
          intro k k1 k2 hk
          have hkn : k < R 4 1 := by
            have e0 : bit m 0 = m % 2 := rfl
            have e1 : bit m 1 = m / 2 % 2 := rfl
            have e2 : bit m 2 = m / 4 % 2 := rfl
            rcases (by omega : k = 0 ∨ k = 1 ∨ k = 2) with rfl | rfl | rfl <;> omega
          have hc0 := wgt_act ⟨k1, k2⟩ hkn hk (by rw [hv]; exact hv0)
          have hc0 : chn R w x k (d3 d0 d1 d2 k) ≠ 0 := by
            rcases (by omega : k = 0 ∨ k = 1 ∨ k = 2) with rfl | rfl | rfl <;> exact hc0
          have hcc := hcan k k1 k2
          refine ⟨?_, fun h4 => hc0 (by rw [h4]; exact chn4)⟩
          rcases hcc with hcc | hcc
          · exact absurd (by rw [hcc]; exact chn0) hc0
          · have := hcc.1
            rw [← hxx, dg_cd ⟨k1, k2⟩] at this
            unfold lsp at this
            by_cases hz : bit b k = 1
            · exact hz
            · rw [if_neg hz] at this; omega
        obtain ⟨e1, e2, e3, e4, e5⟩ := end_eq h (d0 := d0) (d1 := d1) (d2 := d2) ⟨s1, s2, s3⟩ hg hact
        rw [haf, hxx] at e3 e4 e5
        rw [haf] at e1
        rw [m_hasFirst hM2 h e1, KV_eq, bMo_weighs_80]
        have htm : ∀ s' : Int, tm R V w x d0 d1 d2 m s' = if hfP (ct p m) af then sc (R 4 1) (w - 1) * Int64.ofInt (prt R s' (wnb (ct p m) af) (cd (ct p m) af)) else V (cd (ct p m) af) s' := by
          intro s'
          unfold tm EE
          rw [← e3, ← e4]
          by_cases hh : hfP (ct p m) af
          · rw [if_pos hh, if_neg (by rw [e3]; exact e5.mp hh)]
          · rw [if_neg hh, if_pos]
            rw [e3]
            by_cases hz : won x (mm (md d0 (bit m 0)) (md d1 (bit m 1)) (md d2 (bit m 2))) = 0
            · exact hz
            · exact absurd (e5.mpr hz) hh
        have hfit2 : ∀ s : Int, 0 ≤ s → s < 3 → dg (ct p m) s ≤ stp R s := fun s a1 a2 => by have := e2 s a1 a2; have := hfit s a1 a2; omega
        have hcR := e1.1
        generalize hto : ct p m = to at *
        refine loop_up (fun s M' => At (d + 2) kMo_weighs 83 [vr 10 0, vi w, vi p, vi b, vr 68 tb, vi af, z6, z7, vl (sc (R 4 1) (w - 1)), JK, vi m, vl v, JK, vi to, vi (if hfP to af then 1 else 0), vi s] [] M' Q X) (fun s M' => Fr (fun t i => t = 82 ∧ i = 0) M2 M' ∧ ∀ s' : Int, 0 ≤ s' → s' < R 4 1 → M'.2 82 0 s'.toNat = if s' < s then sT R V w x d0 d1 d2 s' (m + 1).toNat else sT R V w x d0 d1 d2 s' m.toNat) 0 (R 4 1) ?_ ?_ 0 M2 (by omega) (by omega) ⟨Fr.rf, fun s' a1 a2 => by rw [if_neg (by omega)]; exact g2 s' a1 a2⟩
        · rintro M3 ⟨k1, k2⟩
          rw [bMo_weighs_83, k1.g1 10 0 (fun z => by omega), nM2, if_pos (by omega), bMo_weighs_120, w32_id (by omega)]
          refine gk M3 ⟨g1.tr (k1.mono (fun t i z => ⟨by omega, z.2⟩)), ?_, ?_⟩ _ _ _ _ _ _ _
          · intro s' a1 a2
            rw [k2 s' a1 a2, if_pos a2]
          · intro s' a1 a2
            rw [k1.g1 112 0 (fun z => by omega)]; exact g3 s' a1 a2
        · rintro s M3 a1 a2 ⟨k1, k2⟩ kk
          have hM3 : MR R M3 := hM2.fr k1 (fun t i z => by omega)
          have old : M3.2 82 0 s.toNat = sT R V w x d0 d1 d2 s m.toNat := by rw [k2 s a1 a2, if_neg (by omega)]
          have fin : ∀ y : Int64, y = tm R V w x d0 d1 d2 m s → At (d + 2) kMo_weighs 115 [vr 10 0, vi w, vi p, vi b, vr 68 tb, vi af, z6, z7, vl (sc (R 4 1) (w - 1)), JK, vi m, vl v, JK, vi to, vi (if hfP to af then 1 else 0), vi s] [vl y, vl v, vl (M3.2 82 0 s.toNat), vi s, vr 82 0] M3 Q X := by
            intro y hy
            rw [bMo_weighs_115 (by omega), w32_id (by omega)]
            refine kk _ ⟨k1.sL ⟨rfl, rfl⟩, ?_⟩
            intro s' b1 b2
            by_cases he : s' = s
            · subst he
              rw [sL_eq, if_pos (by omega), stS, old, hy]
            · rw [sL2, if_neg (by omega), k2 s' b1 b2]
              by_cases hlt : s' < s
              · rw [if_pos hlt, if_pos (by omega)]
              · rw [if_neg hlt, if_neg (by omega)]
          rw [bMo_weighs_83, k1.g1 10 0 (fun z => by omega), nM2, if_neg (by omega), bMo_weighs_87 (by omega)]
          by_cases hh : hfP to af
          · rw [if_neg (by rw [if_pos hh]; omega), bMo_weighs_95, m_share hM3 h e1 (by omega), KV_eq, bMo_weighs_100]
            refine fin _ ?_
            rw [htm s, if_pos hh, Int64.mul_comm]
          · rw [if_pos (by rw [if_neg hh]), bMo_weighs_104 (by rw [w32_id (by omega)]; omega), w32_id (by omega)]
            refine fin _ ?_
            rw [htm s, if_neg hh]
            have := hV to af s e1 hfit2 hh a1 a2
            rw [← this]
            show M3.2 71 (tI tb (w - 1) to af) s.toNat = _
            rw [k1.g2 71 _ (fun z => by omega), g1.g2 71 _ (fun z => by omega)]
  · rintro s M1 a1 a2 ⟨f1, f2⟩ fk z11 z12 z13 z14 z15
    have hM1 : MR R M1 := hM.fr f1 (fun t i z => by omega)
    have hd9 : M1.1 79 0 s.toNat = d3 d0 d1 d2 s := by rw [f1.g1 79 0 (fun z => by omega)]; exact hd s a1 a2
    have hdr := hdR s a1 (by omega)
    rw [bMo_weighs_20, hM1.1, if_neg (by omega), bMo_weighs_24 (by omega), hd9, m_costOf hM1 h (by omega) hdr, KV_eq, bMo_weighs_36 (by omega)]
    have hM1' : ∀ y : Int64, MR R (sL M1 82 0 s.toNat y) := fun y => hM1.fr (P := fun t i => t = 82 ∧ i = 0) (Fr.rf.sL ⟨rfl, rfl⟩) (fun t i z => by omega)
    rw [sL1, hd9, m_chanceOf (w := w) (hM1' _) h ⟨s1, s2, s3⟩ hg (by omega) hdr (by rw [hxx]; exact hcan s a1 (by omega)), KV_eq, bMo_weighs_51 (by omega), w32_id (by omega), hxx]
    refine fk _ ⟨(f1.sL ⟨by omega, rfl⟩).sI ⟨by omega, rfl⟩, ?_⟩ _ _ _ _ _
    intro s' b1 b2
    by_cases he : s' = s
    · subst he
      refine ⟨?_, ?_⟩
      · rw [sI2, sL_eq]
        rfl
      · rw [sI_eq]
    · have := f2 s' b1 (by omega)
      rw [sI2, sL2, if_neg (by omega), sI_ne (by omega)]
      exact this
