/-! LAYER 3, A STATE IS SETTLED, AND ALL ARE -/
theorem Opd.prc {R w x k M} (h : Opd R w x k M) : Prc R w x k M := by
  obtain ⟨h1, h2, h3⟩ := h
  refine ⟨h1, ?_, fun a b c a1 a2 a3 a4 a5 a6 => h3 a b c a1 a2 a3 a4 a5 a6, ?_⟩
  · intro s e a1 a2 a3 a4
    obtain ⟨c1, c2, c3⟩ := h2 s a1 a2 e a3 a4
    refine ⟨c2, ?_, ?_, ?_⟩
    · unfold lvM; rw [c3]; by_cases hz : lvP x s e <;> simp [hz]
    · rw [c1]; by_cases hz : canP R w x s e <;> simp [hz]
    · unfold cnM; rw [c1]
      intro hz
      have hc : canP R w x s e := by
        by_cases hc : canP R w x s e
        · exact hc
        · rw [if_neg hc] at hz; exact absurd rfl hz
      rcases hc with hc | hc
      · exact Or.inl hc
      · exact Or.inr hc.1
  · intro s a1 a2
    obtain ⟨c1, c2, c3⟩ := h2 s a1 a2 0 (by omega) (by omega)
    unfold cnM; rw [c1, if_pos (Or.inl rfl)]; omega
theorem Opd.can {R w x k M} (h : Opd R w x k M) {s e : Int} (a1 : 0 ≤ s) (a2 : s < 3) (a3 : 0 ≤ e) (a4 : e < 5) : cnM M k s e ↔ canP R w x s e := by
  obtain ⟨c1, -, -⟩ := h.2.1 s a1 a2 e a3 a4
  unfold cnM; rw [c1]
  by_cases hc : canP R w x s e <;> simp [hc]
abbrev pCl (b t i : Nat) : Prop := (t = 46 ∨ t = 51 ∨ t = 52 ∨ t = 48 ∨ t = 49 ∨ t = 8 ∨ t = 50 ∨ t = 23 ∨ t = 24 ∨ t = 20 ∨ t = 21 ∨ t = 22) ∧ i = b
/-- a cell of the board as it must be, by worths V behind it -/
def Cel (R : RT) (V : Int → Int → Int64) (b : Nat) (M : Mem) (w x : Int) : Prop := M.1 20 b (w * 125 + x).toNat = rowS R V w x ∧ M.2 21 b (w * 125 + x).toNat = gnR R V w x (rowS R V w x) ∧ ∀ i : Int, 0 ≤ i → i < 3 → bV M b w x i = rG R V w x (rowS R V w x) i
theorem mm_dr {r : Int} (hr : 0 ≤ r ∧ r < 125) : mm (dr r 0) (dr r 1) (dr r 2) = r := by
  have e0 : dr r 0 = r / 25 % 5 := rfl
  have e1 : dr r 1 = r / 5 % 5 := rfl
  have e2 : dr r 2 = r % 5 := rfl
  unfold mm; rw [e0, e1, e2]; omega
theorem c_cell {d : Nat} {M Q X} {b : Nat} {z1 : AV} {x w : Int} {R : RT} (hR : rd M (rcB b) = R) (h : WR R) (hw : 1 ≤ w ∧ w ≤ 6) (hx : 0 < x ∧ x < 125) (hf : fitsP R x)
    (hq : ∀ M', Fr (pCl b) M M' → Cel R (bV M b (w - 1)) b M' w x → (∀ j : Nat, j ≠ (w * 125 + x).toNat → M'.1 20 b j = M.1 20 b j ∧ M'.2 21 b j = M.2 21 b j) → (∀ j : Nat, ¬ (((w * 125 + x) * 3).toNat ≤ j ∧ j < ((w * 125 + x) * 3).toNat + 3) → M'.2 22 b j = M.2 22 b j) → At (d + 5) kBo_settle 41 [vr 0 b, z1, vi w, vi x] [] M' Q X) {x1 : Int} (hz1 : z1 = vi x1) : At (d + 5) kBo_settle 25 [vr 0 b, z1, vi w, vi x] [] M Q X := by
  subst hz1
  rw [bBo_settle_25]
  refine c_open hR h (by omega) (by omega) ?_
  intro M1 g1 g2
  have hR1 : rd M1 (rcB b) = R := by rw [rd_fr g1 (fun t ht z => by omega), hR]
  rw [KU_eq, bBo_settle_30]
  have hP := g2.prc
  refine c_price (b := b) hR1 h hw (by omega) hf hP ?_
  intro M2 k1 k2
  rw [KU_eq, bBo_settle_34]
  have f2 : Fr (pCl b) M M2 := (g1.mono (fun t i z => ⟨by omega, z.2⟩)).tr (k1.mono (fun t i z => ⟨by omega, z.2⟩))
  refine c_sumRows ?_
  intro M3 m1 m2
  have f3 : Fr (pCl b) M M3 := f2.tr (m1.mono (fun t i z => ⟨by omega, z.2⟩))
  rw [KU_eq, bBo_settle_36, c_placeOf (by omega) (by omega), KV_eq, bBo_settle_40, c_keepLeastGain (by omega), KU_eq]
  have ebV : bV M1 b (w - 1) = bV M b (w - 1) := by
    funext y i; unfold bV; rw [g1.g2 22 b (fun z => by omega)]
  rw [ebV] at k2
  have cn1 : ∀ s e : Int, 0 ≤ s → s < 3 → 0 ≤ e → e < 5 → (cnM M1 b s e ↔ canP R w x s e) := fun s e a1 a2 a3 a4 => g2.can a1 a2 a3 a4
  have cn2 : ∀ s e : Int, 0 ≤ s → s < 3 → 0 ≤ e → e < 5 → (cnM M2 b s e ↔ canP R w x s e) := fun s e a1 a2 a3 a4 => by unfold cnM; rw [k1.g1 46 b (fun z => by omega)]; exact cn1 s e a1 a2 a3 a4
  have cn3 : ∀ s e : Int, 0 ≤ s → s < 3 → 0 ≤ e → e < 5 → (cnM M3 b s e ↔ canP R w x s e) := fun s e a1 a2 a3 a4 => by unfold cnM; rw [m1.g1 46 b (fun z => by omega)]; exact cn2 s e a1 a2 a3 a4
  have val : ∀ d0 d1 d2 i : Int, 0 ≤ d0 → d0 < 5 → 0 ≤ d1 → d1 < 5 → 0 ≤ d2 → d2 < 5 → 0 ≤ i → i < 3 → canP R w x 0 d0 → canP R w x 1 d1 → canP R w x 2 d2 → vv M2 b d0 d1 d2 i = G0 R (bV M b (w - 1)) w x d0 d1 d2 i := by
    intro d0 d1 d2 i a1 a2 a3 a4 a5 a6 a7 a8 c0 c1 c2
    exact k2 d0 d1 d2 i a1 a2 a3 a4 a5 a6 a7 a8 ((cn1 0 d0 (by omega) (by omega) a1 a2).mpr c0) ((cn1 1 d1 (by omega) (by omega) a3 a4).mpr c1) ((cn1 2 d2 (by omega) (by omega) a5 a6).mpr c2)
  generalize hV : bV M b (w - 1) = V at *
  have hmS : ∀ a b' c : Int, 0 ≤ a → a < 5 → 0 ≤ b' → b' < 5 → 0 ≤ c → c < 5 → canP R w x 0 a → canP R w x 1 b' → canP R w x 2 c → mS M2 b 0 b' c = mSR R V w x 0 b' c ∧ mS M2 b 1 a c = mSR R V w x 1 a c ∧ mS M2 b 2 a b' = mSR R V w x 2 a b' := by
    intro a b' c a1 a2 b1 b2 c1 c2 h0 h1 h2
    have z0 : ∀ e : Int, 0 ≤ e → e ≤ 4 → canP R w x 0 e → M2.2 50 b (ix 0 b' c e * 3 + 0).toNat = rG R V w x (ix 0 b' c e) 0 := by
      intro e e1 e2 he
      obtain ⟨t0, t1, t2⟩ := (dr_ix (s := 0) (p := b') (q := c) (e := e) (by omega) (by omega) (by omega) (by omega)).1 rfl
      unfold rG
      rw [t0, t1, t2]
      exact val e b' c 0 e1 (by omega) b1 b2 c1 c2 (by omega) (by omega) he h1 h2
    have z1 : ∀ e : Int, 0 ≤ e → e ≤ 4 → canP R w x 1 e → M2.2 50 b (ix 1 a c e * 3 + 1).toNat = rG R V w x (ix 1 a c e) 1 := by
      intro e e1 e2 he
      obtain ⟨t0, t1, t2⟩ := (dr_ix (s := 1) (p := a) (q := c) (e := e) (by omega) (by omega) (by omega) (by omega)).2.1 rfl
      unfold rG
      rw [t0, t1, t2]
      exact val a e c 1 a1 a2 e1 (by omega) c1 c2 (by omega) (by omega) h0 he h2
    have z2 : ∀ e : Int, 0 ≤ e → e ≤ 4 → canP R w x 2 e → M2.2 50 b (ix 2 a b' e * 3 + 2).toNat = rG R V w x (ix 2 a b' e) 2 := by
      intro e e1 e2 he
      obtain ⟨t0, t1, t2⟩ := (dr_ix (s := 2) (p := a) (q := b') (e := e) (by omega) (by omega) (by omega) (by omega)).2.2 rfl
      unfold rG
      rw [t0, t1, t2]
      exact val a b' e 2 a1 a2 b1 b2 e1 (by omega) (by omega) (by omega) h0 h1 he
    refine ⟨?_, ?_, ?_⟩
    · exact mst_congr 4 (fun e e1 e2 => decide_eq_decide.mpr (cn2 0 e (by omega) (by omega) e1 (by omega))) (z0 0 (by omega) (by omega) (Or.inl rfl)) (fun e e1 e2 he => z0 e e1 e2 ((cn2 0 e (by omega) (by omega) e1 (by omega)).mp (of_decide_eq_true he)))
    · exact mst_congr 4 (fun e e1 e2 => decide_eq_decide.mpr (cn2 1 e (by omega) (by omega) e1 (by omega))) (z1 0 (by omega) (by omega) (Or.inl rfl)) (fun e e1 e2 he => z1 e e1 e2 ((cn2 1 e (by omega) (by omega) e1 (by omega)).mp (of_decide_eq_true he)))
    · exact mst_congr 4 (fun e e1 e2 => decide_eq_decide.mpr (cn2 2 e (by omega) (by omega) e1 (by omega))) (z2 0 (by omega) (by omega) (Or.inl rfl)) (fun e e1 e2 he => z2 e e1 e2 ((cn2 2 e (by omega) (by omega) e1 (by omega)).mp (of_decide_eq_true he)))
  have hok : ∀ r : Int, okM M3 b r = okR R w x r := by
    intro r
    have d0 := dr_R r 0
    have d1 := dr_R r 1
    have d2 := dr_R r 2
    unfold okM okR
    rw [decide_eq_decide, cn3 0 _ (by omega) (by omega) (by omega) (by omega), cn3 1 _ (by omega) (by omega) (by omega) (by omega), cn3 2 _ (by omega) (by omega) (by omega) (by omega)]
  have hgs : ∀ r : Int, 0 ≤ r → r ≤ 124 → okR R w x r = true → M3.2 23 b r.toNat = gnR R V w x r ∧ M3.2 24 b r.toNat = smR R V w x r := by
    intro r r1 r2 hr
    obtain ⟨c0, c1, c2⟩ := ok_of hr
    have d0 := dr_R r 0
    have d1 := dr_R r 1
    have d2 := dr_R r 2
    have hz := m2 (dr r 0) (dr r 1) (dr r 2) (by omega) (by omega) (by omega) (by omega) (by omega) (by omega) ((cn2 0 _ (by omega) (by omega) (by omega) (by omega)).mpr c0) ((cn2 1 _ (by omega) (by omega) (by omega) (by omega)).mpr c1) ((cn2 2 _ (by omega) (by omega) (by omega) (by omega)).mpr c2)
    rw [mm_dr (by omega)] at hz
    obtain ⟨s0, s1, s2⟩ := hmS (dr r 0) (dr r 1) (dr r 2) (by omega) (by omega) (by omega) (by omega) (by omega) (by omega) c0 c1 c2
    have v : ∀ i : Int, 0 ≤ i → i < 3 → vv M2 b (dr r 0) (dr r 1) (dr r 2) i = rG R V w x r i := fun i i1 i2 => val _ _ _ i (by omega) (by omega) (by omega) (by omega) (by omega) (by omega) i1 i2 c0 c1 c2
    refine ⟨?_, ?_⟩
    · rw [hz.1]; unfold gnM gnR
      rw [s0, s1, s2, v 0 (by omega) (by omega), v 1 (by omega) (by omega), v 2 (by omega) (by omega)]
    · rw [hz.2]; unfold smM smR
      rw [v 0 (by omega) (by omega), v 1 (by omega) (by omega), v 2 (by omega) (by omega)]
  have hrw : rwM M3 b = rowS R V w x := pick_congr (by rw [hok]; exact ok0) 124 (fun r _ _ => hok r) (fun r r1 r2 hr => hgs r r1 (by omega) (by rw [← hok]; exact hr))
  have hrR := rowS_R (R := R) (V := V) (w := w) (x := x)
  have hrk := rowS_ok (R := R) (V := V) (w := w) (x := x)
  rw [hrw]
  refine hq _ ?_ ⟨?_, ?_, ?_⟩ ?_ ?_
  · exact ((f3.sI ⟨by omega, rfl⟩).sL ⟨by omega, rfl⟩).cpL ⟨by omega, rfl⟩
  · rw [cpL1, sL1, sI_eq]
  · rw [cpL2, if_neg (by omega), sL_eq, (hgs _ hrR.1 hrR.2 hrk).1]
  · intro i i1 i2
    obtain ⟨c0, c1, c2⟩ := ok_of hrk
    have d0 := dr_R (rowS R V w x) 0
    have d1 := dr_R (rowS R V w x) 1
    have d2 := dr_R (rowS R V w x) 2
    have v := val (dr (rowS R V w x) 0) (dr (rowS R V w x) 1) (dr (rowS R V w x) 2) i (by omega) (by omega) (by omega) (by omega) (by omega) (by omega) i1 i2 c0 c1 c2
    unfold rG
    rw [← v]
    unfold bV vv
    rw [mm_dr (by omega), cpL2, if_pos ⟨rfl, rfl, by omega, by omega⟩, sL2, if_neg (by omega)]
    show M3.2 50 b _ = _
    rw [m1.g2 50 b (fun z => by omega), show (rowS R V w x * 3).toNat + (((w * 125 + x) * 3 + i).toNat - ((w * 125 + x) * 3).toNat) = (rowS R V w x * 3 + i).toNat by omega]
  · intro j hj
    refine ⟨?_, ?_⟩
    · rw [cpL1, sL1, sI_ne (by omega), m1.g1 20 b (fun z => by omega), k1.g1 20 b (fun z => by omega), g1.g1 20 b (fun z => by omega)]
    · rw [cpL2, if_neg (by omega), sL2, if_neg (by omega), sI2, m1.g2 21 b (fun z => by omega), k1.g2 21 b (fun z => by omega), g1.g2 21 b (fun z => by omega)]
  · intro j hj
    rw [cpL2, if_neg (by omega), sL2, if_neg (by omega), sI2, m1.g2 22 b (fun z => by omega), k1.g2 22 b (fun z => by omega), g1.g2 22 b (fun z => by omega)]
/-- what a settled board is: the cells that count are right, and week 0 and state 0 are empty -/
def Bz (b : Nat) (M : Mem) : Prop := (∀ x i : Int, 0 ≤ x → x < 125 → 0 ≤ i → i < 3 → bV M b 0 x i = 0) ∧ (∀ w i : Int, 0 ≤ w → w ≤ 6 → 0 ≤ i → i < 3 → bV M b w 0 i = 0) ∧ (∀ w : Int, 0 ≤ w → w ≤ 6 → M.1 20 b (w * 125).toNat = 0 ∧ M.2 21 b (w * 125).toNat = 0) ∧ (∀ x : Int, 0 ≤ x → x < 125 → M.1 20 b x.toNat = 0 ∧ M.2 21 b x.toNat = 0)
def CelF (R : RT) (b : Nat) (M : Mem) (w x : Int) : Prop := M.1 20 b (w * 125 + x).toNat = Rwf R w x ∧ M.2 21 b (w * 125 + x).toNat = Gnf R w x ∧ ∀ i : Int, 0 ≤ i → i < 3 → bV M b w x i = Wf R w.toNat x i
abbrev stlP (R : RT) (al w x : Int) : Prop := fitsP R x ∧ (al ≠ 0 ∨ rchP R w x)
theorem Wf_0 {R n i} : Wf R n 0 i = 0 := by
  cases n with
  | zero => rfl
  | succ n => unfold Wf; rw [if_pos rfl]
theorem stl_aft {R al w x a b c} (h : stlP R al w x) (ha : 0 ≤ a ∧ a < 3) (hb : 0 ≤ b ∧ b < 3) (hc : 0 ≤ c ∧ c < 3) : stlP R al (w - 1) (aft x (mm a b c)) := by
  obtain ⟨m0, m1, m2⟩ := dr_mm (a := a) (b := b) (c := c) (by omega) (by omega) (by omega)
  have e0 := dg_aft (x := x) (m := mm a b c) (s := 0) (by omega) (by omega) (by omega) (by omega)
  have e1 := dg_aft (x := x) (m := mm a b c) (s := 1) (by omega) (by omega) (by omega) (by omega)
  have e2 := dg_aft (x := x) (m := mm a b c) (s := 2) (by omega) (by omega) (by omega) (by omega)
  have b0 := ad_B (x := x) (m := mm a b c) (s := 0) (by omega)
  have b1 := ad_B (x := x) (m := mm a b c) (s := 1) (by omega)
  have b2 := ad_B (x := x) (m := mm a b c) (s := 2) (by omega)
  have k : ∀ s : Int, dr (mm a b c) s ≤ 2 → ad x (mm a b c) s = 0 ∨ dg x s - 1 ≤ ad x (mm a b c) s := by
    intro s hs
    have := dr_R (mm a b c) s
    unfold ad; repeat' split
    all_goals omega
  have k0 := k 0 (by omega)
  have k1 := k 1 (by omega)
  have k2 := k 2 (by omega)
  obtain ⟨⟨f0, f1, f2⟩, h⟩ := h
  refine ⟨⟨by omega, by omega, by omega⟩, ?_⟩
  rcases h with h | ⟨r0, r1, r2⟩
  · exact Or.inl h
  · right
    unfold rch1 at r0 r1 r2
    refine ⟨?_, ?_, ?_⟩ <;> unfold rch1 <;> omega
theorem loop2I {α : Type} (l1 n1 l2 n2 : Int) (hl1 : l1 ≤ n1) (hl2 : l2 ≤ n2) (P1 : Int → α → Prop) (P2 : Int → Int → α → Prop) (I : Int → Int → α → Prop)
    (e1 : ∀ m, I n1 l2 m → P1 n1 m) (i1 : ∀ a m, l1 ≤ a → a < n1 → I a l2 m → P2 a l2 m → P1 a m) (e2 : ∀ a m, l1 ≤ a → a < n1 → P1 (a + 1) m → P2 a n2 m)
    (st : ∀ a b m, l1 ≤ a → a < n1 → l2 ≤ b → b < n2 → I a b m → (∀ m', I a (b + 1) m' → P2 a (b + 1) m') → P2 a b m) (j2 : ∀ a m, l1 ≤ a → a < n1 → I a n2 m → I (a + 1) l2 m) : ∀ m, I l1 l2 m → P1 l1 m := by
  intro m hm
  refine loop_up P1 (fun a m => I a l2 m) l1 n1 e1 ?_ l1 m (Int.le_refl _) hl1 hm
  intro a m h1 h2 h3 h4
  refine i1 a m h1 h2 h3 ?_
  exact loop_up (P2 a) (I a) l2 n2 (fun m h => e2 a m h1 h2 (h4 m (j2 a m h1 h2 h))) (fun b m g1 g2 g3 g4 => st a b m h1 h2 g1 g2 g3 g4) l2 m (Int.le_refl _) hl2 h3
theorem c_settle {d : Nat} {M Q X} {b : Nat} {al : Int} {R : RT} (hR : rd M (rcB b) = R) (h : WR R) (hz : Bz b M)
    (hq : ∀ M', Fr (pCl b) M M' → Bz b M' → (∀ w x : Int, 1 ≤ w → w ≤ R 4 2 → 0 < x → x < 125 → stlP R al w x → CelF R b M' w x) → Q (vi 0) M') : Call (d + 6) qBo_settle [vr 0 b, vi al] M Q X := by
  have hb := h.b
  rw [eBo_settle, bBo_settle_0]
  have hloop := loop2I 1 (R 4 2 + 1) 1 125 (by omega) (by omega) (fun w M' => ∀ z, At (d + 5) kBo_settle 2 [vr 0 b, vi al, vi w, z] [] M' Q X) (fun w x M' => At (d + 5) kBo_settle 9 [vr 0 b, vi al, vi w, vi x] [] M' Q X)
    (fun w0 x0 M' => Fr (pCl b) M M' ∧ Bz b M' ∧ ∀ w x : Int, 1 ≤ w → w ≤ R 4 2 → 0 < x → x < 125 → stlP R al w x → (w < w0 ∨ w = w0 ∧ x < x0) → CelF R b M' w x) ?_ ?_ ?_ ?_ ?_
  · exact hloop M ⟨Fr.rf, hz, by intros; omega⟩ _
  · rintro M' ⟨g1, g2, g3⟩ z
    rw [bBo_settle_2, rd4, rd_fr g1 (fun t ht z => by omega), hR, if_pos (by omega), bBo_settle_45]
    exact hq M' g1 g2 (fun w x w1 w2 x1 x2 hs => g3 w x w1 w2 x1 x2 hs (by omega))
  · rintro w M' w1 w2 ⟨g1, -, -⟩ g z
    rw [bBo_settle_2, rd4, rd_fr g1 (fun t ht z => by omega), hR, if_neg (by omega), bBo_settle_7]
    exact g
  · intro w M' w1 w2 g
    rw [bBo_settle_9, if_pos (by omega), bBo_settle_43, w32_id (by omega)]; exact g _
  · rintro w x M' w1 w2 x1 x2 ⟨g1, g2, g3⟩ gk
    have hR' : rd M' (rcB b) = R := by rw [rd_fr g1 (fun t ht z => by omega), hR]
    have skip : ¬ stlP R al w x → At (d + 5) kBo_settle 41 [vr 0 b, vi al, vi w, vi x] [] M' Q X := by
      intro hn
      rw [bBo_settle_41, w32_id (by omega)]
      refine gk M' ⟨g1, g2, ?_⟩
      intro w' x' a1 a2 a3 a4 a5 a6
      by_cases he : w' = w ∧ x' = x
      · obtain ⟨rfl, rfl⟩ := he; exact absurd a5 hn
      · exact g3 w' x' a1 a2 a3 a4 a5 (by omega)
    have go : stlP R al w x → At (d + 5) kBo_settle 25 [vr 0 b, vi al, vi w, vi x] [] M' Q X := by
      intro hs
      refine c_cell hR' h (by omega) (by omega) hs.1 ?_ rfl
      intro M2 k1 k2 k3 k4
      rw [bBo_settle_41, w32_id (by omega)]
      have hA : Agr x (bV M' b (w - 1)) (Wf R (w - 1).toNat) := by
        intro a b' c i a1 a2 b1 b2 c1 c2 i1 i2
        obtain ⟨m0, m1, m2⟩ := dr_mm (a := a) (b := b') (c := c) (by omega) (by omega) (by omega)
        have hr := aft_R (x := x) (m := mm a b' c) (by omega) (by omega) (by omega)
        by_cases hw : w = 1
        · subst hw
          show bV M' b 0 _ i = 0
          exact g2.1 _ i hr.1 hr.2 i1 i2
        · by_cases hy : aft x (mm a b' c) = 0
          · rw [hy, Wf_0]; exact g2.2.1 (w - 1) i (by omega) (by omega) i1 i2
          · exact (g3 (w - 1) _ (by omega) (by omega) (by omega) (by omega) (stl_aft hs ⟨a1, a2⟩ ⟨b1, b2⟩ ⟨c1, c2⟩) (by omega)).2.2 i i1 i2
      have hrow : rowS R (bV M' b (w - 1)) w x = Rwf R w x := rowS_congr h hs.1 hA
      have hok := rowS_ok (R := R) (V := bV M' b (w - 1)) (w := w) (x := x)
      refine gk M2 ⟨g1.tr k1, ?_, ?_⟩
      · refine ⟨?_, ?_, ?_, ?_⟩
        · intro x' i a1 a2 i1 i2
          unfold bV; rw [k4 _ (by omega)]; exact g2.1 x' i a1 a2 i1 i2
        · intro w' i a1 a2 i1 i2
          unfold bV; rw [k4 _ (by omega)]; exact g2.2.1 w' i a1 a2 i1 i2
        · intro w' a1 a2
          have := k3 (w' * 125).toNat (by omega)
          rw [this.1, this.2]; exact g2.2.2.1 w' a1 a2
        · intro x' a1 a2
          have := k3 x'.toNat (by omega)
          rw [this.1, this.2]; exact g2.2.2.2 x' a1 a2
      · intro w' x' a1 a2 a3 a4 a5 a6
        by_cases he : w' = w ∧ x' = x
        · obtain ⟨rfl, rfl⟩ := he
          obtain ⟨c1, c2, c3⟩ := k2
          refine ⟨by rw [c1, hrow], ?_, ?_⟩
          · rw [c2, gnR_congr h hs.1 hA hok, hrow]; rfl
          · intro i i1 i2
            rw [c3 i i1 i2, rGr_congr h hs.1 hA ⟨i1, i2⟩ hok, hrow, Wf_at (by omega) (by omega)]
        · obtain ⟨c1, c2, c3⟩ := g3 w' x' a1 a2 a3 a4 a5 (by omega)
          have hj := k3 (w' * 125 + x').toNat (by omega)
          refine ⟨by rw [hj.1, c1], by rw [hj.2, c2], ?_⟩
          intro i i1 i2
          rw [← c3 i i1 i2]
          unfold bV
          rw [k4 _ (by omega)]
    rw [bBo_settle_9, if_neg (by omega), bBo_settle_12, c_fits (by omega), KV_eq, bBo_settle_16, hR']
    by_cases hf : fitsP R x
    · rw [if_pos hf, if_neg (by omega), bBo_settle_17]
      by_cases ha : al = 0
      · rw [if_neg (by omega), bBo_settle_19, c_reaches (by rw [hR']; exact h) (by omega) (by omega), KV_eq, bBo_settle_24, hR']
        by_cases hr : rchP R w x
        · rw [if_pos hr, if_neg (by omega)]; exact go ⟨hf, Or.inr hr⟩
        · rw [if_neg hr, if_pos rfl]; exact skip (fun z => z.2.elim (fun q => q ha) hr)
      · rw [if_pos ha]; exact go ⟨hf, Or.inl ha⟩
    · rw [if_neg hf, if_pos rfl]; exact skip (fun z => hf z.1)
  · rintro w M' w1 w2 ⟨g1, g2, g3⟩
    exact ⟨g1, g2, fun w' x' a1 a2 a3 a4 a5 a6 => g3 w' x' a1 a2 a3 a4 a5 (by omega)⟩
