/-! LAYER 3, THE REFERENCE CHOOSES A ROW -/
theorem ok_mul {R : RT} (h : WR R) (hn1 : 1 ≤ R 4 1) {w x r : Int} (hf : fitsP R x) (hr : 0 ≤ r ∧ r < 125) (ho : okR R w x r = true) : r % u5 (R 4 1) = 0 := by
  have hb := h.b
  obtain ⟨c0, c1, c2⟩ := ok_of ho
  have e1 : dr r 1 = r / 5 % 5 := rfl
  have e2 : dr r 2 = r % 5 := rfl
  rcases (by omega : R 4 1 = 1 ∨ R 4 1 = 2 ∨ R 4 1 = 3) with hn | hn | hn
  · have q1 := can_nin h hf (s := 1) (by omega) (by omega) (by omega) c1
    have q2 := can_nin h hf (s := 2) (by omega) (by omega) (by omega) c2
    rw [hn]; show r % 25 = 0; omega
  · have q2 := can_nin h hf (s := 2) (by omega) (by omega) (by omega) c2
    rw [hn]; show r % 5 = 0; omega
  · rw [hn]; show r % 1 = 0; omega
def gp (t : Int → Int64) (k : Int) : Int64 := 0 + (if 0 < k then t 0 else 0) + (if 1 < k then t 1 else 0) + (if 2 < k then t 2 else 0)
theorem gp_s {t : Int → Int64} {k : Int} (hk : 0 ≤ k ∧ k < 3) : gp t (k + 1) = gp t k + t k := by
  rcases (by omega : k = 0 ∨ k = 1 ∨ k = 2) with rfl | rfl | rfl <;> unfold gp <;> simp
theorem gp_n {t : Int → Int64} {n : Int} (hz : ∀ s : Int, 0 ≤ s → s < 3 → n ≤ s → t s = 0) : gp t n = 0 + t 0 + t 1 + t 2 := by
  have f : ∀ s : Int, 0 ≤ s → s < 3 → (if s < n then t s else 0) = t s := by
    intro s a1 a2
    split
    · rfl
    · rename_i hh; exact (hz s a1 a2 (by omega)).symm
  unfold gp
  rw [f 0 (by omega) (by omega), f 1 (by omega) (by omega), f 2 (by omega) (by omega)]
/-- the others' digits beside a shop's -/
def oP (r s : Int) : Int := if s = 0 then dr r 1 else dr r 0
def oQ (r s : Int) : Int := if s = 2 then dr r 1 else dr r 2
theorem gn_gp {R : RT} (h : WR R) (hn1 : 1 ≤ R 4 1) {V w x r} (hf : fitsP R x) (hr : okR R w x r = true) (hr0 : 0 ≤ r ∧ r < 125) (hV : ∀ y i : Int, 0 ≤ i → i < 3 → 0 ≤ y → y < 125 → fitsP R y → dg y i = 0 → V y i = 0) :
    gp (fun s => mSR R V w x s (oP r s) (oQ r s) - rG R V w x r s) (R 4 1) = gnR R V w x r ∧ gp (fun s => rG R V w x r s) (R 4 1) = smR R V w x r := by
  have q := fun s a1 a2 a3 => gn_n h hn1 hf hr hr0 hV s ⟨a1, a2⟩ a3
  refine ⟨?_, ?_⟩
  · rw [gp_n (fun s a1 a2 a3 => by
      have := q s a1 a2 a3
      show mSR R V w x s (oP r s) (oQ r s) - rG R V w x r s = 0
      unfold oP oQ
      rw [this.2, this.1]; rfl)]
    rfl
  · rw [gp_n (fun s a1 a2 a3 => (q s a1 a2 a3).1)]
    rfl
section
variable {d : Nat} {M : Mem} {Q : AV → Mem → Prop} {X : Nat → Mem → Prop} {w p b : Int} {R : RT} {V : Int → Int → Int64}
/-- the gain and the sum of one row -/
theorem m_gain (hM : MR R M) (h : WR R) (hn1 : 1 ≤ R 4 1) {x : Int} (hf : fitsP R x) (hrows : Rows R V w x (p5 (R 4 1)) M) (hV0 : ∀ y i : Int, 0 ≤ i → i < 3 → 0 ≤ y → y < 125 → fitsP R y → dg y i = 0 → V y i = 0) {v f : Int} (hv : 0 ≤ v ∧ v < p5 (R 4 1)) (hok : okR R w x (rvw v) = true) {x4 : Int} {y5 y7 : Int64}
    (hq : ∀ z15 z16 z17 z18 z19, At (d + 61) kMo_settles 188 [vr 10 0, vi w, vi p, vi b, vi x4, vl y5, JK, vl y7, JK, vi f, vi v, vl (gnR R V w x (rvw v)), JK, vl (smR R V w x (rvw v)), JK, z15, z16, z17, z18, z19] [] M Q X) (z16 z17 z18 z19 : AV) : At (d + 61) kMo_settles 116 [vr 10 0, vi w, vi p, vi b, vi x4, vl y5, JK, vl y7, JK, vi f, vi v, vl 0, JK, vl 0, JK, vi 0, z16, z17, z18, z19] [] M Q X := by
  have hb := h.b
  have n0 := hM.1
  have h5 := p5_R (n := R 4 1) (by omega)
  have hrR := rvw_R v
  obtain ⟨eg, es⟩ := gn_gp h hn1 hf hok hrR hV0
  have g0 : ∀ t : Int → Int64, gp t 0 = 0 := by intro t; unfold gp; simp
  refine loop_up (α := Int64 × Int64) (fun s a => ∀ z16 z17 z18 z19, At (d + 61) kMo_settles 116 [vr 10 0, vi w, vi p, vi b, vi x4, vl y5, JK, vl y7, JK, vi f, vi v, vl a.1, JK, vl a.2, JK, vi s, z16, z17, z18, z19] [] M Q X) (fun s a => a.1 = gp (fun s => mSR R V w x s (oP (rvw v) s) (oQ (rvw v) s) - rG R V w x (rvw v) s) s ∧ a.2 = gp (fun s => rG R V w x (rvw v) s) s) 0 (R 4 1) ?_ ?_ 0 (0, 0) (by omega) (by omega) ⟨(g0 _).symm, (g0 _).symm⟩ _ _ _ _
  · rintro ⟨a, c⟩ ⟨h1, h2⟩ z16 z17 z18 z19
    dsimp only at h1 h2 ⊢
    rw [bMo_settles_116, n0, if_pos (by omega), h1, h2, eg, es]
    exact hq _ _ _ _ _
  · rintro s ⟨a, c⟩ s1 s2 ⟨h1, h2⟩ hk z16 z17 z18 z19
    dsimp only at h1 h2 hk ⊢
    have hown := (hrows v hv.1 hv.2).2 hok s s1 s2
    have hcanv := (ok_rvw h hn1 hv).mp hok
    have hdv := dg_R v s
    rw [bMo_settles_116, n0, if_neg (by omega), bMo_settles_120 (by omega), show 0 * 125 + v.toNat = v.toNat by omega, hown]
    -- the most
    have hset := fun e (he : (0 : Int) ≤ e ∧ e < 5) => rvw_set (v := v) (s := s) (e := e) (by omega) (by omega) he
    have hix : ∀ e : Int, ix s (if s = 0 then dg v 1 else dg v 0) (if s = 2 then dg v 1 else dg v 2) e = ix s (oP (rvw v) s) (oQ (rvw v) s) e := by
      intro e
      unfold oP oQ
      rw [dr_rvw (by omega), dr_rvw (by omega), dr_rvw (by omega)]
    have hself : v + (dg v s - dg v s) * su s = v := by rw [Int.sub_self, Int.zero_mul, Int.add_zero]
    have hfv : rG R V w x (ix s (oP (rvw v) s) (oQ (rvw v) s) (dg v s)) s = rG R V w x (rvw v) s := by
      have := (hset (dg v s) (by omega)).2.1
      rw [hself, hix] at this
      rw [← this]
    refine loop_up (α := Int64) (fun e y => ∀ z19, At (d + 61) kMo_settles 129 [vr 10 0, vi w, vi p, vi b, vi x4, vl y5, JK, vl y7, JK, vi f, vi v, vl a, JK, vl c, JK, vi s, vl y, JK, vi e, z19] [] M Q X) (fun e y => (∀ e' : Int, 0 ≤ e' → e' < e → cB R w x s e' = true → (rG R V w x (ix s (oP (rvw v) s) (oQ (rvw v) s) e') s).toInt ≤ y.toInt) ∧ ∃ e' : Int, 0 ≤ e' ∧ e' ≤ ((4 : Nat) : Int) ∧ cB R w x s e' = true ∧ y = rG R V w x (ix s (oP (rvw v) s) (oQ (rvw v) s) e') s) 0 5 ?_ ?_ 0 _ (by omega) (by omega) ⟨by intros; omega, dg v s, by omega, by omega, decide_eq_true (hcanv s s1 s2), hfv.symm⟩ _
    · rintro y ⟨j1, j2⟩ z19
      have hy : y = mSR R V w x s (oP (rvw v) s) (oQ (rvw v) s) := mst_uniq (decide_eq_true (Or.inl rfl)) (fun e e1 e2 e3 => j1 e e1 (by omega) e3) j2
      rw [bMo_settles_129, if_pos (by omega), bMo_settles_166 (by omega), w32_id (by omega), show 0 * 125 + v.toNat = v.toNat by omega, hown]
      refine hk (_, _) ⟨?_, ?_⟩ _ _ _ _
      · dsimp only
        rw [gp_s (by omega), ← h1, hy]
      · dsimp only
        rw [gp_s (by omega), ← h2]
    · rintro e y e1 e2 ⟨j1, j2⟩ jk z19
      obtain ⟨hu1, hu2, hu3⟩ := hset e ⟨e1, e2⟩
      rw [hix] at hu2
      have hsu := su_R (s := s)
      have hur : w32 (v + w32 (w32 (e - dg v s) * su s)) = v + (e - dg v s) * su s := by
        rw [w32_id (z := e - dg v s) (by omega)]
        have t : w32 ((e - dg v s) * su s) = (e - dg v s) * su s := by
          rcases hsu with q | q | q <;> rw [q] <;> exact w32_id (by omega)
        rw [t]; exact w32_id (by omega)
      rw [bMo_settles_129, if_neg (by omega), bMo_settles_132, m_digit (by omega), KV_eq, bMo_settles_137, m_unitOf, KV_eq, bMo_settles_140 (by rw [hur]; exact hu1), hur]
      generalize hu : v + (e - dg v s) * su s = u at *
      have hup : u < p5 (R 4 1) := by
        have d1 : ∀ k : Int, R 4 1 ≤ k → k < 3 → dg u k = 0 := by
          intro k k1 k2
          rw [hu3 k (by omega) k2, if_neg (by omega)]
          exact dg_lt (by omega) hv k1 k2
        have u1 : dg u 1 = u / 5 % 5 := rfl
        have u2 : dg u 2 = u / 25 % 5 := rfl
        rcases (by omega : R 4 1 = 1 ∨ R 4 1 = 2 ∨ R 4 1 = 3) with q | q | q
        · have z1 := d1 1 (by omega) (by omega)
          have z2 := d1 2 (by omega) (by omega)
          rw [q]; show u < 5; omega
        · have z2 := d1 2 (by omega) (by omega)
          rw [q]; show u < 25; omega
        · rw [q]; show u < 125; omega
      have hru := hrows u (by omega) hup
      have hoku : okR R w x (rvw u) = true ↔ cB R w x s e = true := by
        rw [ok_rvw h hn1 ⟨by omega, hup⟩]
        unfold cB
        rw [decide_eq_true_eq]
        constructor
        · intro hc
          have := hc s s1 s2
          rw [hu3 s s1 (by omega), if_pos rfl] at this
          exact this
        · intro hc k k1 k2
          rw [hu3 k k1 (by omega)]
          by_cases hks : k = s
          · subst hks; rw [if_pos rfl]; exact hc
          · rw [if_neg hks]; exact hcanv k k1 k2
      rw [hru.1]
      by_cases hc : cB R w x s e = true
      · have hall := hru.2 (hoku.mpr hc) s s1 s2
        rw [if_neg (by rw [if_pos (hoku.mpr hc)]; omega), bMo_settles_148 (by omega), show 0 * 125 + u.toNat = u.toNat by omega, hall, hu2]
        have h1' : ∀ a b : Int64, a < b ↔ a.toInt < b.toInt := fun a b => Int64.lt_iff_toInt_lt
        by_cases hlt : y < rG R V w x (ix s (oP (rvw v) s) (oQ (rvw v) s) e) s
        · rw [if_neg (fun z => cmp64_le.mp z hlt), bMo_settles_157 (by omega), bMo_settles_164, w32_id (by omega), show 0 * 125 + u.toNat = u.toNat by omega, hall, hu2]
          rw [h1'] at hlt
          refine jk _ ⟨?_, e, e1, by omega, hc, rfl⟩ _
          intro e' a1 a2 a3
          by_cases he : e' = e
          · subst he; exact Int.le_refl _
          · have := j1 e' a1 (by omega) a3; omega
        · rw [if_pos (cmp64_le.mpr hlt), bMo_settles_164, w32_id (by omega)]
          rw [h1'] at hlt
          refine jk _ ⟨?_, j2⟩ _
          intro e' a1 a2 a3
          by_cases he : e' = e
          · subst he; omega
          · exact j1 e' a1 (by omega) a3
      · rw [if_pos (by rw [if_neg (fun z => hc (hoku.mp z))]), bMo_settles_164, w32_id (by omega)]
        refine jk _ ⟨?_, j2⟩ _
        intro e' a1 a2 a3
        by_cases he : e' = e
        · subst he; exact absurd a3 hc
        · exact j1 e' a1 (by omega) a3
/-- the best of all rows -/
theorem m_best (hM : MR R M) (h : WR R) (hn1 : 1 ≤ R 4 1) {x : Int} (hf : fitsP R x) (hrows : Rows R V w x (p5 (R 4 1)) M) (hV0 : ∀ y i : Int, 0 ≤ i → i < 3 → 0 ≤ y → y < 125 → fitsP R y → dg y i = 0 → V y i = 0)
    (hq : ∀ v : Int, 0 ≤ v → v < p5 (R 4 1) → rvw v = rowS R V w x → ∀ z7 z8 z9 z10 z11 z12 z13 z14 z15 z16 z17 z18 z19, At (d + 61) kMo_settles 212 [vr 10 0, vi w, vi p, vi b, vi v, vl (gnR R V w x (rowS R V w x)), JK, z7, z8, z9, z10, z11, z12, z13, z14, z15, z16, z17, z18, z19] [] M Q X) (z10 z11 z12 z13 z14 z15 z16 z17 z18 z19 : AV) : At (d + 61) kMo_settles 96 [vr 10 0, vi w, vi p, vi b, vi (-1), vl 0, JK, vl 0, JK, vi 0, z10, z11, z12, z13, z14, z15, z16, z17, z18, z19] [] M Q X := by
  have hb := h.b
  have n0 := hM.1
  have h5 := p5_R (n := R 4 1) (by omega)
  obtain ⟨pu1, pu2, pu3⟩ := p5u5 (n := R 4 1) (by omega)
  have hun : u5 (R 4 1) = 25 ∧ p5 (R 4 1) = 5 ∨ u5 (R 4 1) = 5 ∧ p5 (R 4 1) = 25 ∨ u5 (R 4 1) = 1 ∧ p5 (R 4 1) = 125 := by
    rcases (by omega : R 4 1 = 1 ∨ R 4 1 = 2 ∨ R 4 1 = 3) with q | q | q <;> rw [q]
    · exact Or.inl ⟨rfl, rfl⟩
    · exact Or.inr (Or.inl ⟨rfl, rfl⟩)
    · exact Or.inr (Or.inr ⟨rfl, rfl⟩)
  generalize hpk : (fun k : Nat => pick (okR R w x) (gnR R V w x) (smR R V w x) k) = pk
  have hpk' : ∀ k : Nat, pick (okR R w x) (gnR R V w x) (smR R V w x) k = pk k := fun k => by rw [← hpk]
  refine loop_up (α := Int × Int64 × Int64) (fun f a => ∀ z10 z11 z12 z13 z14 z15 z16 z17 z18 z19, At (d + 61) kMo_settles 96 [vr 10 0, vi w, vi p, vi b, vi a.1, vl a.2.1, JK, vl a.2.2, JK, vi f, z10, z11, z12, z13, z14, z15, z16, z17, z18, z19] [] M Q X) (fun f a => (f = 0 → a.1 = -1) ∧ (1 ≤ f → (0 ≤ a.1 ∧ a.1 < p5 (R 4 1)) ∧ rvw a.1 = pk (f * u5 (R 4 1) - 1).toNat ∧ a.2.1 = gnR R V w x (rvw a.1) ∧ a.2.2 = smR R V w x (rvw a.1))) 0 (p5 (R 4 1)) ?_ ?_ 0 (-1, 0, 0) (by omega) (by omega) ⟨fun _ => rfl, fun z => by omega⟩ _ _ _ _ _ _ _ _ _ _
  · rintro ⟨v, y5, y7⟩ ⟨-, h2⟩ z10 z11 z12 z13 z14 z15 z16 z17 z18 z19
    dsimp only at h2 ⊢
    obtain ⟨a1, a2, a3, a4⟩ := h2 (by omega)
    have hrow : rvw v = rowS R V w x := by
      rw [a2, pu1, ← hpk']; rfl
    rw [bMo_settles_96, m_rows hM, KV_eq, bMo_settles_99, if_pos (by omega), a3, hrow]
    exact hq v a1.1 a1.2 hrow _ _ _ _ _ _ _ _ _ _ _ _ _
  · rintro f ⟨v0, y5, y7⟩ f1 f2 ⟨h1, h2⟩ hk z10 z11 z12 z13 z14 z15 z16 z17 z18 z19
    dsimp only at h1 h2 hk ⊢
    obtain ⟨t1, t2, t3⟩ := tnd_R (n := R 4 1) (f := f) (by omega) ⟨f1, f2⟩
    have hisr := (hrows (tnd (R 4 1) f) t1 t2).1
    rw [bMo_settles_96, m_rows hM, KV_eq, bMo_settles_99, if_neg (by omega), bMo_settles_100, m_turned hM (by omega), KV_eq, bMo_settles_103 (by omega), hisr]
    generalize hv : tnd (R 4 1) f = v at *
    -- f stands where the class's row stands
    have hfu : 0 ≤ f * u5 (R 4 1) ∧ f * u5 (R 4 1) + u5 (R 4 1) ≤ 125 := by
      rcases hun with ⟨q, q'⟩ | ⟨q, q'⟩ | ⟨q, q'⟩ <;> rw [q] <;> omega
    have hnok : ∀ j : Nat, (f * u5 (R 4 1)).toNat < j → j ≤ (f * u5 (R 4 1)).toNat + ((u5 (R 4 1)).toNat - 1) → okR R w x (j : Int) = false := by
      intro j j1 j2
      by_cases hz : okR R w x (j : Int) = true
      · have := ok_mul h hn1 hf (r := (j : Int)) (by omega) hz
        exfalso
        rcases hun with ⟨q, q'⟩ | ⟨q, q'⟩ | ⟨q, q'⟩ <;> rw [q] at this j1 j2 hfu <;> omega
      · simpa using hz
    have hskip : pk ((f + 1) * u5 (R 4 1) - 1).toNat = pk (f * u5 (R 4 1)).toNat := by
      have e : ((f + 1) * u5 (R 4 1) - 1).toNat = (f * u5 (R 4 1)).toNat + ((u5 (R 4 1)).toNat - 1) := by
        have : (f + 1) * u5 (R 4 1) = f * u5 (R 4 1) + u5 (R 4 1) := by rw [Int.add_mul, Int.one_mul]
        omega
      rw [e, ← hpk', ← hpk']
      exact pick_skip _ _ hnok
    have hnext : 1 ≤ f → (f * u5 (R 4 1)).toNat = (f * u5 (R 4 1) - 1).toNat + 1 := by
      intro hf1
      rcases hun with ⟨q, q'⟩ | ⟨q, q'⟩ | ⟨q, q'⟩ <;> rw [q] <;> omega
    have hcast : (((f * u5 (R 4 1)).toNat : Nat) : Int) = f * u5 (R 4 1) := by omega
    -- the next round, if the row is left or taken
    have leave : (1 ≤ f → pk (f * u5 (R 4 1)).toNat = pk (f * u5 (R 4 1) - 1).toNat) → 1 ≤ f → ∀ z10 z11 z12 z13 z14 z15 z16 z17 z18 z19, At (d + 61) kMo_settles 210 [vr 10 0, vi w, vi p, vi b, vi v0, vl y5, JK, vl y7, JK, vi f, z10, z11, z12, z13, z14, z15, z16, z17, z18, z19] [] M Q X := by
      intro hp hf1 z10 z11 z12 z13 z14 z15 z16 z17 z18 z19
      rw [bMo_settles_210, w32_id (by omega)]
      refine hk (v0, y5, y7) ⟨fun z => by omega, fun _ => ?_⟩ _ _ _ _ _ _ _ _ _ _
      obtain ⟨a1, a2, a3, a4⟩ := h2 hf1
      exact ⟨a1, by rw [a2, hskip, hp hf1], a3, a4⟩
    have take : pk (f * u5 (R 4 1)).toNat = f * u5 (R 4 1) → ∀ z4 z5 z6 z7 z8 z15 z16 z17 z18 z19, At (d + 61) kMo_settles 204 [vr 10 0, vi w, vi p, vi b, z4, z5, z6, z7, z8, vi f, vi v, vl (gnR R V w x (rvw v)), JK, vl (smR R V w x (rvw v)), JK, z15, z16, z17, z18, z19] [] M Q X := by
      intro hp z4 z5 z6 z7 z8 z15 z16 z17 z18 z19
      rw [bMo_settles_204, bMo_settles_210, w32_id (by omega)]
      refine hk (v, _, _) ⟨fun z => by omega, fun _ => ⟨⟨t1, t2⟩, by rw [t3, hskip, hp], rfl, rfl⟩⟩ _ _ _ _ _ _ _ _ _ _
    by_cases hok : okR R w x (rvw v) = true
    · rw [if_pos (by rw [if_pos hok]; omega), bMo_settles_110]
      refine m_gain hM h hn1 hf hrows hV0 ⟨t1, t2⟩ hok ?_ _ _ _ _
      intro z15 z16 z17 z18 z19
      rw [bMo_settles_188]
      by_cases hf0 : f = 0
      · rw [if_pos (h1 hf0)]
        refine take ?_ _ _ _ _ _ _ _ _ _ _
        rw [hf0, Int.zero_mul, ← hpk']; rfl
      · obtain ⟨a1, a2, a3, a4⟩ := h2 (by omega)
        have hstep := hpk' (f * u5 (R 4 1)).toNat
        rw [hnext (by omega), pick, ← hnext (by omega), hcast, hpk', ← a2, ← a3, ← a4, ← t3] at hstep
        have hs2 : pk (f * u5 (R 4 1)).toNat = (if (gnR R V w x (rvw v) < y5 ∨ gnR R V w x (rvw v) = y5 ∧ y7 < smR R V w x (rvw v)) ∧ okR R w x (rvw v) = true then rvw v else rvw v0) := by rw [← t3]; exact hstep.symm
        rw [if_neg (by omega), bMo_settles_191, bMo_settles_195, bMo_settles_199]
        have hc1 : 0 < cmp64 (gnR R V w x (rvw v)) y5 ↔ y5 < gnR R V w x (rvw v) := cmp64_gt
        have hc2 : cmp64 (gnR R V w x (rvw v)) y5 = 0 ↔ gnR R V w x (rvw v) = y5 := cmp64_eq
        have hc3 : 0 < cmp64 (smR R V w x (rvw v)) y7 ↔ y7 < smR R V w x (rvw v) := cmp64_gt
        have hc4 : cmp64 (gnR R V w x (rvw v)) y5 < 0 ↔ gnR R V w x (rvw v) < y5 := cmp64_lt
        by_cases q1 : y5 < gnR R V w x (rvw v)
        · rw [if_pos (hc1.mpr q1)]
          refine leave (fun _ => ?_) (by omega) _ _ _ _ _ _ _ _ _ _
          rw [hs2, if_neg]
          · exact a2
          · rintro ⟨z, -⟩
            rcases z with z | z
            · have := hc4.mpr z; have := hc1.mpr q1; omega
            · have := hc2.mpr z.1; have := hc1.mpr q1; omega
        · rw [if_neg (fun z => q1 (hc1.mp z))]
          by_cases q2 : gnR R V w x (rvw v) = y5
          · rw [if_neg (by rw [ne_eq, hc2]; simp [q2])]
            by_cases q3 : y7 < smR R V w x (rvw v)
            · rw [if_pos (hc3.mpr q3)]
              refine take ?_ _ _ _ _ _ _ _ _ _ _
              rw [hs2, if_pos ⟨Or.inr ⟨q2, q3⟩, hok⟩, t3]
            · rw [if_neg (fun z => q3 (hc3.mp z)), bMo_settles_203]
              refine leave (fun _ => ?_) (by omega) _ _ _ _ _ _ _ _ _ _
              rw [hs2, if_neg]
              · exact a2
              · rintro ⟨z, -⟩
                rcases z with z | z
                · have := hc4.mpr z; have := hc2.mpr q2; omega
                · exact q3 z.2
          · rw [if_pos (by rw [ne_eq, hc2]; exact q2)]
            refine take ?_ _ _ _ _ _ _ _ _ _ _
            have q4 : gnR R V w x (rvw v) < y5 := by
              apply hc4.mp
              have n1 : ¬ 0 < cmp64 (gnR R V w x (rvw v)) y5 := fun z => q1 (hc1.mp z)
              have n2 : ¬ cmp64 (gnR R V w x (rvw v)) y5 = 0 := fun z => q2 (hc2.mp z)
              omega
            rw [hs2, if_pos ⟨Or.inl q4, hok⟩, t3]
    · rw [if_neg (by rw [if_neg hok]; simp), bMo_settles_109]
      by_cases hf0 : f = 0
      · exfalso
        refine hok ?_
        rw [t3, hf0, Int.zero_mul]; exact ok0
      · refine leave (fun _ => ?_) (by omega) _ _ _ _ _ _ _ _ _ _
        rw [← hpk', ← hpk', hnext (by omega), pick, ← hnext (by omega), hcast, ← t3, if_neg (fun z => hok z.2)]
end
