/-! LAYER 3, ONE THAT IS ALONE: its row, and what it is worth -/
theorem can5 {R : RT} (h : WR R) {w x s e : Int} (hs : 0 ≤ s ∧ s < 3) (hc : canP R w x s e) : e ≤ 4 := by
  have hp := h.pcs s hs
  rcases hc with z | z
  · omega
  · have := z.2
    by_cases h4 : e = 4
    · omega
    · rw [if_neg h4] at this; omega
theorem fits_one {R : RT} (h : WR R) {s o : Int} (hs : 0 ≤ s ∧ s < 3) (ho : 0 ≤ o ∧ o ≤ stp R s) : fitsP R (o * su s) := by
  have hst := h.stp s hs
  have k : ∀ j : Int, 0 ≤ j → j < 3 → dg (o * su s) j ≤ stp R j := fun j j0 j3 => by
    have := h.stp j ⟨j0, j3⟩
    rw [dg_one hs (by omega) ⟨j0, j3⟩]
    by_cases hj : j = s
    · rw [if_pos hj, hj]; omega
    · rw [if_neg hj]; omega
  exact ⟨k 0 (by omega) (by omega), k 1 (by omega) (by omega), k 2 (by omega) (by omega)⟩
theorem row_one {R : RT} (h : WR R) {V : Int → Int → Int64} {w s o : Int} (hs : 0 ≤ s ∧ s < R 4 1) (ho : 1 ≤ o ∧ o ≤ stp R s) (hw : 1 ≤ w ∧ w ≤ 6) (hV : ∀ y j : Int, 0 ≤ j → j < 3 → 0 ≤ y → y < 125 → fitsP R y → Bd (V y j) (bdW (R 4 1) (w - 1)) ∧ (dg y j = 0 → V y j = 0)) :
    rowS R V w (o * su s) = fmx (cB R w (o * su s) s) (vOne R V w s o) 4 * ru s ∧ rG R V w (o * su s) (rowS R V w (o * su s)) s = vOne R V w s o (fmx (cB R w (o * su s) s) (vOne R V w s o) 4) := by
  have hb := h.b
  have hn1 : 1 ≤ R 4 1 := by omega
  have hs3 : 0 ≤ s ∧ s < 3 := by omega
  have hst := h.stp s hs3
  have hf : fitsP R (o * su s) := fits_one h hs3 (by omega)
  have hu := ru_R (s := s)
  have hB := bdW_R (n := R 4 1) (w := w) (by omega) (by omega)
  have hut : (((ru s).toNat : Nat) : Int) = ru s := by omega
  have okI : ∀ e : Int, 0 ≤ e → e < 5 → (okR R w (o * su s) (e * ru s) = true ↔ canP R w (o * su s) s e) := by
    intro e e0 e5
    unfold okR
    rw [decide_eq_true_eq, dr_one hs3 ⟨e0, e5⟩ (by omega), dr_one hs3 ⟨e0, e5⟩ (by omega), dr_one hs3 ⟨e0, e5⟩ (by omega)]
    have z : ∀ k : Int, k ≠ s → canP R w (o * su s) k (if k = s then e else 0) := fun k hk => by rw [if_neg hk]; exact Or.inl rfl
    rcases (by omega : s = 0 ∨ s = 1 ∨ s = 2) with rfl | rfl | rfl
    · exact ⟨fun y => y.1, fun y => ⟨y, z 1 (by omega), z 2 (by omega)⟩⟩
    · exact ⟨fun y => y.2.1, fun y => ⟨z 0 (by omega), y, z 2 (by omega)⟩⟩
    · exact ⟨fun y => y.2.2, fun y => ⟨z 0 (by omega), z 1 (by omega), y⟩⟩
  have zero : ∀ r k : Int, 0 ≤ k → k < 3 → k ≠ s → okR R w (o * su s) r = true → rG R V w (o * su s) r k = 0 := by
    intro r k k0 k3 hk hok
    obtain ⟨c0, c1, c2⟩ := ok_of hok
    exact G0_zero h hf (by rw [dg_one hs3 (by omega) ⟨k0, k3⟩, if_neg hk]) ⟨k0, k3⟩ (fun y a b c hd => (hV y k k0 k3 a b c).2 hd) c0 c1 c2
  have zeroM : ∀ r k : Int, 0 ≤ k → k < 3 → k ≠ s → okR R w (o * su s) r = true → mSR R V w (o * su s) k (oP r k) (oQ r k) = 0 := by
    intro r k k0 k3 hk hok
    obtain ⟨e, e0, e4, ec, em⟩ := (mst_max (c := cB R w (o * su s) k) (f := fun e => rG R V w (o * su s) (ix k (oP r k) (oQ r k) e) k) (decide_eq_true (Or.inl rfl)) 4).2
    unfold mSR
    rw [em]
    exact zero _ k k0 k3 hk (swp_ok ⟨k0, k3⟩ ⟨e0, by omega⟩ hok (of_decide_eq_true ec))
  have dd : ∀ r : Int, okR R w (o * su s) r = true → gnR R V w (o * su s) r = mSR R V w (o * su s) s (oP r s) (oQ r s) - rG R V w (o * su s) r s ∧ smR R V w (o * su s) r = rG R V w (o * su s) r s := by
    intro r hok
    have eg : gnR R V w (o * su s) r = 0 + (mSR R V w (o * su s) 0 (oP r 0) (oQ r 0) - rG R V w (o * su s) r 0) + (mSR R V w (o * su s) 1 (oP r 1) (oQ r 1) - rG R V w (o * su s) r 1) + (mSR R V w (o * su s) 2 (oP r 2) (oQ r 2) - rG R V w (o * su s) r 2) := rfl
    have es : smR R V w (o * su s) r = 0 + rG R V w (o * su s) r 0 + rG R V w (o * su s) r 1 + rG R V w (o * su s) r 2 := rfl
    have z := fun k k0 k3 hk => zero r k k0 k3 hk hok
    have zM := fun k k0 k3 hk => zeroM r k k0 k3 hk hok
    rcases (by omega : s = 0 ∨ s = 1 ∨ s = 2) with rfl | rfl | rfl
    · rw [eg, es, z 1 (by omega) (by omega) (by omega), z 2 (by omega) (by omega) (by omega), zM 1 (by omega) (by omega) (by omega), zM 2 (by omega) (by omega) (by omega)]
      constructor <;> grind
    · rw [eg, es, z 0 (by omega) (by omega) (by omega), z 2 (by omega) (by omega) (by omega), zM 0 (by omega) (by omega) (by omega), zM 2 (by omega) (by omega) (by omega)]
      constructor <;> grind
    · rw [eg, es, z 0 (by omega) (by omega) (by omega), z 1 (by omega) (by omega) (by omega), zM 0 (by omega) (by omega) (by omega), zM 1 (by omega) (by omega) (by omega)]
      constructor <;> grind
  have hoq : ∀ e : Int, 0 ≤ e → e < 5 → oP (e * ru s) s = 0 ∧ oQ (e * ru s) s = 0 := by
    intro e e0 e5
    unfold oP oQ
    rw [dr_one hs3 ⟨e0, e5⟩ (by omega), dr_one hs3 ⟨e0, e5⟩ (by omega), dr_one hs3 ⟨e0, e5⟩ (by omega)]
    rcases (by omega : s = 0 ∨ s = 1 ∨ s = 2) with rfl | rfl | rfl <;> exact ⟨rfl, rfl⟩
  have hXb : Bd (mSR R V w (o * su s) s 0 0) 800000000000000 := by
    obtain ⟨e, e0, e4, ec, em⟩ := (mst_max (c := cB R w (o * su s) s) (f := fun e => rG R V w (o * su s) (ix s 0 0 e) s) (decide_eq_true (Or.inl rfl)) 4).2
    have hix : ix s 0 0 e = e * ru s := by
      rw [ix_u]
      have : ix s 0 0 0 = 0 := by unfold ix mm; split <;> (try split) <;> omega
      omega
    have hb2 := G0_b h hn1 (V := V) (i := s) (r := e * ru s) hw hf hs3 hV ((okI e e0 (by omega)).mpr (of_decide_eq_true ec))
    unfold mSR
    rw [em, hix]
    unfold Bd at hb2 ⊢; omega
  have hrow : rowS R V w (o * su s) = fmx (cB R w (o * su s) s) (vOne R V w s o) 4 * ru s := by
    unfold rowS
    have hsk : pick (okR R w (o * su s)) (gnR R V w (o * su s)) (smR R V w (o * su s)) (4 * (ru s).toNat + (124 - 4 * (ru s).toNat)) = pick (okR R w (o * su s)) (gnR R V w (o * su s)) (smR R V w (o * su s)) (4 * (ru s).toNat) := pick_skip _ _ (fun j j0 j1 => by
      cases hj : okR R w (o * su s) (j : Int) with
      | false => rfl
      | true =>
        exfalso
        obtain ⟨e, he, hje, hce⟩ := ok_one hs3 (by omega) (r := (j : Int)) (by omega) hj
        rcases hu with q | q | q <;> rw [q] at hje j0 <;> omega)
    rw [show 4 * (ru s).toNat + (124 - 4 * (ru s).toNat) = 124 by omega] at hsk
    have hcg : pick (okR R w (o * su s)) (gnR R V w (o * su s)) (smR R V w (o * su s)) (4 * (ru s).toNat) = pick (fun r => okR R w (o * su s) r && decide (r < 125)) (gnR R V w (o * su s)) (smR R V w (o * su s)) (4 * (ru s).toNat) := pick_congr ok0 _ (fun r r0 r1 => by
      rw [decide_eq_true (by omega : r < 125), Bool.and_true]) (fun r _ _ _ => ⟨rfl, rfl⟩)
    have hmul := pick_mul (ok := fun r => okR R w (o * su s) r && decide (r < 125)) (g := gnR R V w (o * su s)) (sm := smR R V w (o * su s)) (u := (ru s).toNat) (by omega) (fun r r0 hok => by
      rw [Bool.and_eq_true, decide_eq_true_eq] at hok
      obtain ⟨e, -, he, -⟩ := ok_one hs3 (by omega) (r := r) ⟨r0, hok.2⟩ hok.1
      exact ⟨e, by rw [hut]; exact he⟩) 4
    have hlt : ∀ e : Int, 0 ≤ e → e ≤ 4 → e * ru s < 125 := fun e e0 e4 => by rcases hu with q | q | q <;> rw [q] <;> omega
    have hco : ∀ e : Int, 0 ≤ e → e ≤ 4 → (okR R w (o * su s) (e * ru s) && decide (e * ru s < 125)) = cB R w (o * su s) s e := fun e e0 e4 => by
      rw [decide_eq_true (hlt e e0 e4), Bool.and_true, Bool.eq_iff_iff, okI e e0 (by omega)]
      unfold cB; rw [decide_eq_true_eq]
    have key : pick (fun e => okR R w (o * su s) (e * ru s) && decide (e * ru s < 125)) (fun e => gnR R V w (o * su s) (e * ru s)) (fun e => smR R V w (o * su s) (e * ru s)) 4 = fmx (cB R w (o * su s) s) (vOne R V w s o) 4 := by
      refine Eq.trans (pick_congr (ok' := cB R w (o * su s) s) (g' := fun e => mSR R V w (o * su s) s 0 0 - vOne R V w s o e) (sm' := vOne R V w s o) ?_ 4 (fun e e0 e4 => hco e e0 (by omega)) (fun e e0 e4 he => ?_)) (pick_fmx (decide_eq_true (Or.inl rfl)) (fun e _ _ => rfl) (fun e e0 he => ?_) hXb 4)
      · rw [hco 0 (by omega) (by omega)]; exact decide_eq_true (Or.inl rfl)
      · have he4 : e ≤ 4 := by omega
        have hok : okR R w (o * su s) (e * ru s) = true := by
          have := hco e e0 he4
          rw [Bool.and_eq_true] at he; exact he.1
        obtain ⟨g1, g2⟩ := dd _ hok
        obtain ⟨p1, p2⟩ := hoq e e0 (by omega)
        rw [p1, p2, G0_one h hs hw (by omega)] at g1
        rw [G0_one h hs hw (by omega)] at g2
        exact ⟨g1, g2⟩
      · have hc : canP R w (o * su s) s e := of_decide_eq_true he
        have e4 := can5 h hs3 hc
        have hb2 := G0_b h hn1 (V := V) (i := s) (r := e * ru s) hw hf hs3 hV ((okI e e0 (by omega)).mpr hc)
        rw [G0_one h hs hw (by omega)] at hb2
        unfold Bd at hb2 ⊢; omega
    rw [hsk, hcg, hmul, hut, key]
  refine ⟨hrow, ?_⟩
  have hfr := fmx_R (c := cB R w (o * su s) s) (v := vOne R V w s o) 4
  rw [hrow]
  exact G0_one h hs hw (by omega)
