/-! LAYER 3, STATES THAT BREAK -/
theorem fs2_ex {f : Int → Bool} : ∀ (m : Nat) (lo : Int), 0 ≤ lo → (fs2 f lo m ≠ -1 ↔ ∃ k : Int, lo ≤ k ∧ k < lo + m ∧ f k = true)
  | 0, lo, _ => by
    constructor
    · intro h; exact absurd rfl h
    · rintro ⟨k, a, b, _⟩; omega
  | m + 1, lo, h0 => by
    have ih := fs2_ex (f := f) m (lo + 1) (by omega)
    show ((if f lo = true then lo else fs2 f (lo + 1) m) ≠ -1 ↔ _)
    by_cases hf : f lo = true
    · rw [if_pos hf]
      exact ⟨fun _ => ⟨lo, by omega, by omega, hf⟩, fun _ => by omega⟩
    · rw [if_neg hf, ih]
      constructor
      · rintro ⟨k, a, b, c⟩; exact ⟨k, by omega, by omega, c⟩
      · rintro ⟨k, a, b, c⟩
        by_cases hk : k = lo
        · subst hk; exact absurd c hf
        · exact ⟨k, by omega, by omega, c⟩
/-- a row with another doing of one shop -/
def swp (r s e : Int) : Int := ix s (oP r s) (oQ r s) e
theorem swp_d {r s e : Int} (he : 0 ≤ e ∧ e < 5) (hs : 0 ≤ s ∧ s < 3) {k : Int} (hk : 0 ≤ k ∧ k < 3) : dr (swp r s e) k = if k = s then e else dr r k := by
  have hP : 0 ≤ oP r s ∧ oP r s < 5 := by have := dr_R r 0; have := dr_R r 1; unfold oP; split <;> omega
  have hQ : 0 ≤ oQ r s ∧ oQ r s < 5 := by have := dr_R r 1; have := dr_R r 2; unfold oQ; split <;> omega
  have h := dr_ix (s := s) hP hQ he hs
  unfold swp
  rcases (by omega : s = 0 ∨ s = 1 ∨ s = 2) with rfl | rfl | rfl
  · obtain ⟨a, b, c⟩ := h.1 rfl
    rcases (by omega : k = 0 ∨ k = 1 ∨ k = 2) with rfl | rfl | rfl
    · rw [a]; rfl
    · rw [b]; rfl
    · rw [c]; rfl
  · obtain ⟨a, b, c⟩ := h.2.1 rfl
    rcases (by omega : k = 0 ∨ k = 1 ∨ k = 2) with rfl | rfl | rfl
    · rw [a]; rfl
    · rw [b]; rfl
    · rw [c]; rfl
  · obtain ⟨a, b, c⟩ := h.2.2 rfl
    rcases (by omega : k = 0 ∨ k = 1 ∨ k = 2) with rfl | rfl | rfl
    · rw [a]; rfl
    · rw [b]; rfl
    · rw [c]; rfl
theorem swp_R {r s e : Int} (he : 0 ≤ e ∧ e < 5) : 0 ≤ swp r s e ∧ swp r s e < 125 := by
  have hP : 0 ≤ oP r s ∧ oP r s < 5 := by have := dr_R r 0; have := dr_R r 1; unfold oP; split <;> omega
  have hQ : 0 ≤ oQ r s ∧ oQ r s < 5 := by have := dr_R r 1; have := dr_R r 2; unfold oQ; split <;> omega
  exact ix_R hP hQ he
theorem swp_v {r s e : Int} (hr : 0 ≤ r ∧ r < 125) (hs : 0 ≤ s ∧ s < 3) : r - dr r s * ru s + e * ru s = swp r s e := by
  have hm := mm_dr hr
  unfold mm at hm
  unfold swp ix oP oQ mm
  rcases (by omega : s = 0 ∨ s = 1 ∨ s = 2) with rfl | rfl | rfl
  · have : ru 0 = 25 := rfl
    rw [this, if_pos rfl, if_pos rfl, if_neg (by omega)]; omega
  · have : ru 1 = 5 := rfl
    rw [this, if_neg (by omega), if_pos rfl, if_neg (by omega), if_neg (by omega)]; omega
  · have : ru 2 = 1 := rfl
    rw [this, if_neg (by omega), if_neg (by omega), if_neg (by omega), if_pos rfl]; omega
theorem swp_ok {R : RT} {w x r s e : Int} (hs : 0 ≤ s ∧ s < 3) (he : 0 ≤ e ∧ e < 5) (h : okR R w x r = true) (hc : canP R w x s e) : okR R w x (swp r s e) = true := by
  obtain ⟨c0, c1, c2⟩ := ok_of h
  unfold okR
  rw [swp_d he hs (by omega), swp_d he hs (by omega), swp_d he hs (by omega)]
  refine decide_eq_true ⟨?_, ?_, ?_⟩
  · by_cases hk : 0 = s
    · rw [if_pos hk, hk]; exact hc
    · rw [if_neg hk]; exact c0
  · by_cases hk : 1 = s
    · rw [if_pos hk, hk]; exact hc
    · rw [if_neg hk]; exact c1
  · by_cases hk : 2 = s
    · rw [if_pos hk, hk]; exact hc
    · rw [if_neg hk]; exact c2
/-- one alone would have more -/
abbrev brk (R : RT) (U : Nat → Int) (w x s e : Int) : Prop := canP R w x s e ∧ Wr R U w.toNat x s < rG R (Wr R U (w - 1).toNat) w x (swp (tdR R U w x) s e) s
def brB (R : RT) (U : Nat → Int) (w x : Int) : Bool := decide (fs2 (fun s => decide (fs2 (fun e => decide (brk R U w x s e)) 0 5 ≠ -1)) 0 3 ≠ -1)
theorem brB_iff {R : RT} {U : Nat → Int} {w x : Int} : brB R U w x = true ↔ ∃ s e : Int, (0 ≤ s ∧ s < 3) ∧ (0 ≤ e ∧ e < 5) ∧ brk R U w x s e := by
  unfold brB
  rw [decide_eq_true_eq, fs2_ex 3 0 (by omega)]
  constructor
  · rintro ⟨s, a, b, c⟩
    rw [decide_eq_true_eq, fs2_ex 5 0 (by omega)] at c
    obtain ⟨e, a', b', c'⟩ := c
    exact ⟨s, e, by omega, by omega, of_decide_eq_true c'⟩
  · rintro ⟨s, e, hs, he, hb⟩
    refine ⟨s, by omega, by omega, ?_⟩
    rw [decide_eq_true_eq, fs2_ex 5 0 (by omega)]
    exact ⟨e, by omega, by omega, decide_eq_true hb⟩
theorem i64_irr {a : Int64} : ¬ a < a := fun h => by
  have := Int64.lt_iff_toInt_lt.mp h; omega
/-- who has no place does not break -/
theorem brk_n {R : RT} {U : Nat → Int} (h : WR R) (hW : WU U) {w x s e : Int} (hw : 1 ≤ w) (hx : x ≠ 0) (hf : fitsP R x) (hs : 0 ≤ s ∧ s < 3) (hb : brk R U w x s e) : s < R 4 1 := by
  by_cases hn : s < R 4 1
  · exact hn
  · exfalso
    have he : e = 0 := can_nin h hf hs.1 hs.2 (by omega) hb.1
    have hd : dr (tdR R U w x) s = 0 := by rw [dr_tdR hW hs]; exact can_nin h hf hs.1 hs.2 (by omega) byD_can
    have hsw : swp (tdR R U w x) s e = tdR R U w x := by
      have := swp_v (r := tdR R U w x) (s := s) (e := e) (tdR_R hW) hs
      rw [hd, he, Int.zero_mul] at this
      rw [he]; omega
    have := hb.2
    rw [hsw, Wr_at hw hx] at this
    exact i64_irr this
abbrev pBk (b : Nat) (t i _ : Nat) : Prop := pOp b t i ∨ pF2 b t i
theorem FullU.fs {P M M' R U b} (h : FullU R U b M) (hf : Fs P M M') (hp : ∀ t j, t = 20 ∨ t = 21 ∨ t = 22 → ¬ P t b j) : FullU R U b M' := by
  intro w x a1 a2 a3 a4 a5
  obtain ⟨c1, c2⟩ := h w x a1 a2 a3 a4 a5
  refine ⟨by rw [hf.g1 20 b _ (hp 20 _ (by omega))]; exact c1, fun i i0 i3 => ?_⟩
  unfold bV
  rw [hf.g2 22 b _ (hp 22 _ (by omega))]; exact c2 i i0 i3
section
variable {d : Nat} {Q : AV → Mem → Prop} {X : Nat → Mem → Prop}
theorem c_isBroken {M : Mem} {b : Nat} {R : RT} {U : Nat → Int} {w x : Int} (hR : rd M (rcB b) = R) (h : WR R) (hW : WU U) (hz : Bz b M) (hF : FullU R U b M) (hw : 1 ≤ w ∧ w ≤ R 4 2) (hx : 0 < x ∧ x < 125) (hf : fitsP R x)
    (hq : ∀ M', Fs (pBk b) M M' → Q (vi (b01 (brB R U w x))) M') : Call (d + 5) qBo_isBroken [vr 0 b, vi w, vi x] M Q X := by
  have hb := h.b
  have hr := tdR_R (R := R) hW (w := w) (x := x)
  rw [eBo_isBroken, bBo_isBroken_0]
  refine c_open hR h (by omega) (by omega) ?_
  intro M1 g1 g2
  have hR1 : rd M1 (rcB b) = R := by rw [rd_fr g1 (fun t ht z => by omega), hR]
  rw [KU_eq, bBo_isBroken_5]
  refine c_price (b := b) hR1 h (by omega) (by omega) hf g2.prc ?_
  intro M2 k1 k2
  have f2 : Fs (pBk b) M M2 := (g1.fs (fun t i j z => Or.inl z)).tr (k1.fs (fun t i j z => Or.inr z))
  have hcell := hF w x hw.1 hw.2 hx.1 hx.2 hf
  have hrow : M2.1 20 b (w * 125 + x).toNat = tdR R U w x := by rw [k1.g1 20 b (fun z => by omega), g1.g1 20 b (fun z => by omega)]; exact hcell.1
  have hwr : ∀ i : Int, 0 ≤ i → i < 3 → M2.2 22 b ((w * 125 + x) * 3 + i).toNat = Wr R U w.toNat x i := fun i i0 i3 => by
    rw [k1.g2 22 b (fun z => by omega), g1.g2 22 b (fun z => by omega)]; exact hcell.2 i i0 i3
  have hst : stlP R 1 w x := ⟨hf, Or.inl (by omega)⟩
  have hA : Agr x (bV M1 b (w - 1)) (Wr R U (w - 1).toNat) := by
    intro a b' c i a1 a2 b1 b2 c1 c2 i1 i2
    have e22 : ∀ y, bV M1 b (w - 1) y i = bV M b (w - 1) y i := fun y => by unfold bV; rw [g1.g2 22 b (fun z => by omega)]
    rw [e22]
    obtain ⟨m0, m1, m2⟩ := dr_mm (a := a) (b := b') (c := c) (by omega) (by omega) (by omega)
    have hr9 := aft_R (x := x) (m := mm a b' c) (by omega) (by omega) (by omega)
    by_cases hw1 : w = 1
    · subst hw1
      show bV M b 0 _ i = 0
      exact hz.1 _ i hr9.1 hr9.2 i1 i2
    · by_cases hy : aft x (mm a b' c) = 0
      · rw [hy, Wr_0]; exact hz.2.1 (w - 1) i (by omega) (by omega) i1 i2
      · exact (hF (w - 1) _ (by omega) (by omega) (by omega) (by omega) (stl_aft hst ⟨a1, a2⟩ ⟨b1, b2⟩ ⟨c1, c2⟩).1).2 i i1 i2
  have hcn : ∀ s e : Int, 0 ≤ s → s < 3 → 0 ≤ e → e < 5 → (M2.1 46 b (s * 5 + e).toNat ≠ 0 ↔ canP R w x s e) := fun s e a1 a2 a3 a4 => by
    rw [k1.g1 46 b (fun z => by omega)]; exact g2.can a1 a2 a3 a4
  have hval : ∀ s e : Int, 0 ≤ s → s < 3 → 0 ≤ e → e < 5 → canP R w x s e → M2.2 50 b (swp (tdR R U w x) s e * 3 + s).toNat = rG R (Wr R U (w - 1).toNat) w x (swp (tdR R U w x) s e) s := by
    intro s e s0 s3 e0 e5 hc
    have hok := swp_ok ⟨s0, s3⟩ ⟨e0, e5⟩ (tdR_ok (R := R) hW (w := w) (x := x)) hc
    obtain ⟨c0, c1, c2⟩ := ok_of hok
    have hsr := swp_R (r := tdR R U w x) (s := s) (e := e) ⟨e0, e5⟩
    generalize swp (tdR R U w x) s e = r' at *
    have q0 := dr_R r' 0
    have q1 := dr_R r' 1
    have q2 := dr_R r' 2
    have v := k2 (dr r' 0) (dr r' 1) (dr r' 2) s (by omega) (by omega) (by omega) (by omega) (by omega) (by omega) s0 s3 ((g2.can (by omega) (by omega) (by omega) (by omega)).mpr c0) ((g2.can (by omega) (by omega) (by omega) (by omega)).mpr c1) ((g2.can (by omega) (by omega) (by omega) (by omega)).mpr c2)
    unfold vv at v
    rw [mm_dr hsr] at v
    rw [v]
    exact rGr_congr h hf hA ⟨s0, s3⟩ hok
  have hq2 := hq M2 f2
  rw [KU_eq, bBo_isBroken_9, c_rowAt (by omega) (by omega), KV_eq, bBo_isBroken_13, hrow]
  refine loop_up (fun s _ => ∀ z5 z6 z7 z8, At (d + 4) kBo_isBroken 16 [vr 0 b, vi w, vi x, vi (tdR R U w x), vi s, z5, z6, z7, z8] [] M2 Q X) (fun s (_ : Unit) => ∀ s' e : Int, 0 ≤ s' → s' < s → 0 ≤ e → e < 5 → ¬ brk R U w x s' e) 0 3 ?_ ?_ 0 () (by omega) (by omega) (fun s' e a1 a2 => by omega) _ _ _ _
  · intro _ hno z5 z6 z7 z8
    have hB : brB R U w x = false := by
      rw [← Bool.not_eq_true, brB_iff]
      rintro ⟨s, e, hs, he, hb⟩
      exact hno s e hs.1 hs.2 he.1 he.2 hb
    rw [hB] at hq2
    rw [bBo_isBroken_16, if_pos (by omega), bBo_isBroken_74]; exact hq2
  · intro s _ s0 s3 hno hn z5 z6 z7 z8
    have hdr := dr_R (tdR R U w x) s
    have hu : ru s = 25 ∨ ru s = 5 ∨ ru s = 1 := by
      unfold ru
      repeat' split
      all_goals omega
    have hsv := swp_v (r := tdR R U w x) (s := s) (e := 0) hr ⟨s0, s3⟩
    have hsr := swp_R (r := tdR R U w x) (s := s) (e := 0) (by omega)
    rw [Int.zero_mul, Int.add_zero] at hsv
    have em : w32 (dr (tdR R U w x) s * ru s) = dr (tdR R U w x) s * ru s := by rcases hu with e | e | e <;> rw [e] <;> exact w32_id (by omega)
    have er : w32 (tdR R U w x - w32 (dr (tdR R U w x) s * ru s)) = swp (tdR R U w x) s 0 := by rw [em, hsv, w32_id (by omega)]
    rw [bBo_isBroken_16, if_neg (by omega), bBo_isBroken_19, c_doingIn (by omega), KV_eq, bBo_isBroken_23 (by omega), ro_ru (by omega), er]
    refine loop_up (fun e _ => ∀ z7 z8, At (d + 4) kBo_isBroken 31 [vr 0 b, vi w, vi x, vi (tdR R U w x), vi s, vi (swp (tdR R U w x) s 0), vi e, z7, z8] [] M2 Q X) (fun e (_ : Unit) => ∀ e' : Int, 0 ≤ e' → e' < e → ¬ brk R U w x s e') 0 5 ?_ ?_ 0 () (by omega) (by omega) (fun e a1 a2 => by omega) _ _
    · intro _ hno2 z7 z8
      rw [bBo_isBroken_31, if_pos (by omega), bBo_isBroken_72, w32_id (by omega)]
      refine hn () ?_ _ _ _ _
      intro s' e a1 a2 a3 a4
      by_cases hs : s' = s
      · subst hs; exact hno2 e a3 a4
      · exact hno s' e a1 (by omega) a3 a4
    · intro e _ e0 e5 hno2 hn2 z7 z8
      have hse := swp_R (r := tdR R U w x) (s := s) (e := e) ⟨e0, e5⟩
      have hsv' := swp_v (r := tdR R U w x) (s := s) (e := e) hr ⟨s0, s3⟩
      have e1 : w32 (swp (tdR R U w x) s 0 + w32 (e * ru s)) = swp (tdR R U w x) s e := by
        have : w32 (e * ru s) = e * ru s := by rcases hu with q | q | q <;> rw [q] <;> exact w32_id (by omega)
        rw [this, ← hsv, hsv', w32_id (by omega)]
      have e2 : w32 (w32 (w32 (swp (tdR R U w x) s 0 + w32 (e * ru s)) * 3) + s) = swp (tdR R U w x) s e * 3 + s := by
        rw [e1, w32_id (z := swp (tdR R U w x) s e * 3) (by omega), w32_id (by omega)]
      have e3 : w32 (w32 (s * 5) + e) = s * 5 + e := by rw [w32_id (z := s * 5) (by omega), w32_id (by omega)]
      have next : ¬ brk R U w x s e → ∀ z7 z8, At (d + 4) kBo_isBroken 70 [vr 0 b, vi w, vi x, vi (tdR R U w x), vi s, vi (swp (tdR R U w x) s 0), vi e, z7, z8] [] M2 Q X := by
        intro hnb z7 z8
        rw [bBo_isBroken_70, w32_id (by omega)]
        refine hn2 () ?_ _ _
        intro e' a1 a2
        by_cases he : e' = e
        · subst he; exact hnb
        · exact hno2 e' a1 (by omega)
      rw [bBo_isBroken_31, if_neg (by omega), bBo_isBroken_34 (by rw [ro_ru ⟨s0, s3⟩, e2, e3]; omega), ro_ru ⟨s0, s3⟩, e2, e3]
      by_cases hc : canP R w x s e
      · have h46 := (hcn s e s0 s3 e0 e5).mpr hc
        rw [if_neg h46, bBo_isBroken_60, c_worthAt (by omega) (by omega) ⟨s0, s3⟩, KV_eq, bBo_isBroken_66, hwr s s0 s3, hval s e s0 s3 e0 e5 hc]
        by_cases hlt : Wr R U w.toNat x s < rG R (Wr R U (w - 1).toNat) w x (swp (tdR R U w x) s e) s
        · have hB : brB R U w x = true := brB_iff.mpr ⟨s, e, ⟨s0, s3⟩, ⟨e0, e5⟩, hc, hlt⟩
          rw [hB] at hq2
          rw [if_neg (fun z => cmp64_le.mp z hlt), bBo_isBroken_68]; exact hq2
        · rw [if_pos (cmp64_le.mpr hlt)]
          exact next (fun z => hlt z.2) _ _
      · rw [if_pos (by have := hcn s e s0 s3 e0 e5; exact Decidable.byContradiction (fun z => hc (this.mp z)))]
        exact next (fun z => hc z.1) _ _
end
