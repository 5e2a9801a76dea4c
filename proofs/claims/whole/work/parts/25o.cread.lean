/-! LAYER 3, A WHOLE TEXT IN THE CLASS: the loop -/
theorem sD_ne {D : RT} {t j v t' j'} (h : t' ≠ t ∨ j' ≠ j) : sD D t j v t' j' = D t' j' := by unfold sD; rw [if_neg (by omega)]
theorem sD_eq {D : RT} {t j v} : sD D t j v t j = v := by unfold sD; rw [if_pos ⟨rfl, rfl⟩]
theorem pcx_ok {B : BT} {n s : Nat} : ∀ (f : Nat) (D : RT) (k : Nat) (D' : RT) (k1 : Nat), k ≤ n → pcx B n s f D k = .inr (D', k1) → k ≤ k1 ∧ k1 ≤ n ∧ ∀ j, D' 4 j = D 4 j := by
  intro f
  induction f with
  | zero =>
    intro D k D' k1 hk h
    unfold pcx at h
    split at h
    · cases h
    · cases h; exact ⟨Nat.le_refl _, hk, fun _ => rfl⟩
  | succ f ih =>
    intro D k D' k1 hk h
    unfold pcx at h
    split at h
    · rename_i hw
      have hl := isW_le hk hw
      rw [show (wd 20).length = 4 from rfl] at hl
      split at h
      · cases h
      · rename_i c k2 he
        have h2 := nmb_le hl he
        have hb := blk_le (B := B) h2.2.1
        split at h
        · rename_i hw2
          have hl2 := isW_le hb.2 hw2
          rw [show (wd 21).length = 2 from rfl] at hl2
          split at h
          · cases h
          · rename_i v k3 he3
            have h3 := nmb_le hl2 he3
            have hb3 := blk_le (B := B) h3.2.1
            obtain ⟨g1, g2, g3⟩ := ih _ _ _ _ hb3.2 h
            refine ⟨by omega, g2, fun j => ?_⟩
            rw [g3 j, sD_ne (by omega), sD_ne (by omega), sD_ne (by omega)]
        · cases h
    · cases h; exact ⟨Nat.le_refl _, hk, fun _ => rfl⟩
theorem cl1_ok {B : BT} {n : Nat} {D : RT} {T : TT} {k : Nat} {D' : RT} {T' : TT} {k1 : Nat} (hn : n ≤ 500) (hk : k ≤ n) (hD : 0 ≤ D 4 1) (h : cl1 B n D T k = .inr ((D', T'), k1)) : k ≤ k1 ∧ k1 ≤ n ∧ D' 4 7 = D 4 7 ∧ 0 ≤ D' 4 1 := by
  unfold cl1 at h
  split at h
  · rename_i hw
    have hl := isW_le hk hw
    rw [show (wd 12).length = 4 from rfl] at hl
    split at h
    · cases h
    · rename_i D2 k2 hs
      cases h
      unfold scl at hs
      split at hs
      · cases hs
      · split at hs
        · cases hs
        · rename_i v k3 he
          have h3 := nmb_le hl he
          have hb := blk_le (B := B) h3.2.1
          obtain ⟨g1, g2, g3⟩ := pcx_ok _ _ _ _ _ hb.2 hs
          refine ⟨by omega, g2, ?_, ?_⟩
          · rw [g3, sD_ne (by omega), sD_ne (by omega)]
          · rw [g3, sD_ne (by omega), sD_eq]; omega
  split at h
  · rename_i hw
    have hl := isW_le hk hw
    rw [show (wd 13).length = 5 from rfl] at hl
    split at h
    · cases h
    · rename_i v k2 he
      have h2 := nmb_le hl he
      have hb := blk_le (B := B) h2.2.1
      split at h
      · rename_i hw2
        have hl2 := isW_le hb.2 hw2
        rw [show (wd 14).length = 6 from rfl] at hl2
        split at h
        · cases h
        · rename_i v2 k3 he3
          have h3 := nmb_le hl2 he3
          cases h
          exact ⟨by omega, by omega, by rw [sD_ne (by omega), sD_ne (by omega)], by rw [sD_ne (by omega), sD_ne (by omega)]; exact hD⟩
      · cases h
        exact ⟨by omega, by omega, by rw [sD_ne (by omega), sD_ne (by omega)], by rw [sD_ne (by omega), sD_ne (by omega)]; exact hD⟩
  split at h
  · rename_i hw
    have hl := isW_le hk hw
    rw [show (wd 15).length = 5 from rfl] at hl
    split at h
    · cases h
    · rename_i v k2 he
      have h2 := nmb_le hl he
      cases h
      exact ⟨by omega, by omega, by rw [sD_ne (by omega)], by rw [sD_ne (by omega)]; exact hD⟩
  split at h
  · rename_i hw
    have hl := isW_le hk hw
    rw [show (wd 16).length = 5 from rfl] at hl
    split at h
    · cases h
    · rename_i v k2 he
      have h2 := nmb_le hl he
      have hb := blk_le (B := B) h2.2.1
      split at h
      · rename_i hw2
        have hl2 := isW_le hb.2 hw2
        rw [show (wd 17).length = 6 from rfl] at hl2
        split at h
        · cases h
        · rename_i v2 k3 he3
          have h3 := nmb_le hl2 he3
          cases h
          exact ⟨by omega, by omega, by rw [sD_ne (by omega), sD_ne (by omega)], by rw [sD_ne (by omega), sD_ne (by omega)]; exact hD⟩
      · cases h
  split at h
  · rename_i hw
    have hl := isW_le hk hw
    rw [show (wd 18).length = 4 from rfl] at hl
    split at h
    · cases h
    · rename_i r k2 he
      have hg := ((px_gd B n hn _ _ _ _ _ _ _ (by omega) hl he).1 (by omega)).1
      cases h
      exact ⟨by omega, by omega, rfl, hD⟩
  split at h
  · rename_i hw
    have hl := isW_le hk hw
    rw [show (wd 19).length = 5 from rfl] at hl
    split at h
    · cases h
    · rename_i r k2 he
      have hg := ((px_gd B n hn _ _ _ _ _ _ _ (by omega) hl he).1 (by omega)).1
      cases h
      exact ⟨by omega, by omega, rfl, hD⟩
  · cases h
theorem cl1_f {B : BT} {n : Nat} {D : RT} {T : TT} {k : Nat} {e : Int × Int} (h : cl1 B n D T k = .inl e) : e.1 ≠ 0 := by
  have pf : ∀ (s f : Nat) (D : RT) (k : Nat), pcx B n s f D k = .inl e → e.1 ≠ 0 := by
    intro s f
    induction f with
    | zero =>
      intro D k h
      unfold pcx at h
      split at h
      · cases h; exact (by omega : (3 : Int) ≠ 0)
      · cases h
    | succ f ih =>
      intro D k h
      unfold pcx at h
      split at h
      · split at h
        · rename_i e2 he; cases h; exact nmb_f he
        · split at h
          · split at h
            · rename_i e2 he; cases h; exact nmb_f he
            · exact ih _ _ h
          · cases h; exact Int.one_ne_zero
      · cases h
  unfold cl1 at h
  split at h
  · split at h
    · rename_i e2 hs
      cases h
      unfold scl at hs
      split at hs
      · cases hs; exact (by omega : (3 : Int) ≠ 0)
      · split at hs
        · rename_i e2 he; cases hs; exact nmb_f he
        · exact pf _ _ _ _ hs
    · cases h
  split at h
  · split at h
    · rename_i e2 he; cases h; exact nmb_f he
    · split at h
      · split at h
        · rename_i e2 he; cases h; exact nmb_f he
        · cases h
      · cases h
  split at h
  · split at h
    · rename_i e2 he; cases h; exact nmb_f he
    · cases h
  split at h
  · split at h
    · rename_i e2 he; cases h; exact nmb_f he
    · split at h
      · split at h
        · rename_i e2 he; cases h; exact nmb_f he
        · cases h
      · cases h; exact Int.one_ne_zero
  split at h
  · split at h
    · rename_i e2 he; cases h; have := px_f B n _ _ _ _ _ _ he; omega
    · cases h
  split at h
  · split at h
    · rename_i e2 he; cases h; have := px_f B n _ _ _ _ _ _ he; omega
    · cases h
  · cases h; exact Int.one_ne_zero
section
variable {d : Nat} {B : BT} {n : Nat} {Q : AV → Mem → Prop} {X : Nat → Mem → Prop}
/-- what stands when all clauses are read: fault or not -/
def RE (B : BT) (n : Nat) (M : Mem) (res : (Int × Int) ⊕ (RT × TT)) (M' : Mem) : Prop := Fs pRd M M' ∧ match res with
  | .inl e => e.1 ≠ 0 ∧ CF B n e.1 e.2 M'
  | .inr (D, T) => ∃ k, CK B n D T M' k
theorem c_readLoop {z1 : AV} : ∀ (f : Nat) (D : RT) (T : TT) (M : Mem) (k i : Nat), CK B n D T M k → 0 ≤ D 4 1 → D 4 7 = (i : Int) → i ≤ k → n < f + k → (∀ M' z1 z2, RE B n M (cls B n (f + 1) D T (blk B n k)) M' → At (d + 55) kRe_read 55 [vr 5 0, z1, z2] [] M' Q X) →
    At (d + 55) kRe_read 26 [vr 5 0, z1, vi (i : Int)] [] M Q X := by
  intro f
  induction f generalizing z1 with
  | zero =>
    intro D T M k i hc h1 h7 hi hf
    have := hc.1.2.2.1
    omega
  | succ f ih =>
    intro D T M k i hc h1 h7 hi hf hq
    have hn := hc.1.1.2.1
    have hk := hc.1.2.2.1
    have hb := blk_le (B := B) hk
    -- the end
    have fin : ∀ (M2 : Mem) (z1 z2 : AV) (k2 : Nat), ¬ blk B n k < n → Fs pRd M M2 → CK B n D T M2 k2 → At (d + 55) kRe_read 46 [vr 5 0, z1, z2] [] M2 Q X := by
      intro M2 z1 z2 k2 hlt f2 c2
      have hsh : M2.1 4 4 1 = D 4 1 := c2.2.1 4 1 (by omega)
      rw [bRe_read_46, hsh]
      have ecl : cls B n (f + 1 + 1) D T (blk B n k) = if D 4 1 = 0 then .inl (4, (n : Int)) else .inr (D, T) := by rw [cls, if_neg hlt]
      by_cases h0 : D 4 1 = 0
      · rw [if_pos h0] at ecl
        rw [if_neg (by omega), bRe_read_50, c_refuse, KU_eq, c2.1.1.1]
        refine hq _ _ _ ⟨?_, ?_⟩
        · unfold rfs; split
          · exact (f2.sI (by omega)).sI (by omega)
          · exact f2
        · rw [ecl]; exact ⟨(by omega : (4 : Int) ≠ 0), c2.bad⟩
      · rw [if_neg h0] at ecl
        rw [if_pos h0]
        refine hq _ _ _ ⟨f2, ?_⟩
        rw [ecl]; exact ⟨_, c2⟩
    rw [bRe_read_26]
    by_cases h500 : (500 : Int) ≤ (i : Int)
    · rw [if_pos h500]
      exact fin M _ _ k (by omega) Fs.rf hc
    rw [if_neg h500, bRe_read_29, eRe_hasMore, bRe_hasMore_0]
    refine g_blank hc ?_
    intro f2 c2
    have e7 := c2.1.1.1
    rw [KU_eq, bRe_hasMore_2, if_neg (by rw [c2.1.2.2.2.1]; omega), bRe_hasMore_5, c2.1.2.1, e7]
    by_cases hlt : blk B n k < n
    · rw [if_neg (by omega), bRe_hasMore_10, bRe_hasMore_13, KV_eq, bRe_read_31, if_neg (by omega), bRe_read_32]
      refine c_readClause c2 blk_blk h1 ?_
      intro M3 c3
      rw [KU_eq, bRe_read_34]
      cases hcl : cl1 B n D T (blk B n k) with
      | inl e =>
        have ha := cl1_f hcl
        have c32 := c3.2
        rw [hcl] at c32
        refine x_demand ha c32 ?_
        intro M4 f4 c4
        have ecl : cls B n (f + 1 + 1) D T (blk B n k) = .inl e := by rw [cls, if_pos hlt]; unfold cl2; rw [hcl]
        rw [KU_eq, bRe_read_37, bRe_read_26]
        -- behind a fault
        have bad : ∀ (M5 : Mem) (z1 z2 : AV), Fs pRd M M5 → CF B n e.1 e.2 M5 → At (d + 55) kRe_read 46 [vr 5 0, z1, z2] [] M5 Q X := by
          intro M5 z1 z2 f5 c5
          have h9 : M5.1 5 0 9 ≠ 0 := by obtain ⟨tp, x⟩ := c5; rw [x.2.1]; exact ha
          rw [bRe_read_46]
          split
          · exact hq _ _ _ ⟨f5, by rw [ecl]; exact ⟨ha, c5⟩⟩
          · rw [bRe_read_50, c_refuse, KU_eq, rfs_no h9]
            exact hq _ _ _ ⟨f5, by rw [ecl]; exact ⟨ha, c5⟩⟩
        have f4' := ((f2.tr c3.1).tr f4).sI (t := 4) (i := 4) (j := 7) (v := w32 (M4.1 4 4 7 + 1)) (by omega)
        have c4' := c4.d (t := 4) (j := 7) (v := w32 (M4.1 4 4 7 + 1)) (by omega)
        split
        · exact bad _ _ _ f4' c4'
        · rw [bRe_read_29, eRe_hasMore, bRe_hasMore_0]
          refine x_blank c4' ?_
          intro M6 f6 c6
          have h9 : M6.1 5 0 9 ≠ 0 := by obtain ⟨tp, x⟩ := c6; rw [x.2.1]; exact ha
          rw [KU_eq, bRe_hasMore_2, if_pos h9, bRe_hasMore_12, bRe_hasMore_13, KV_eq, bRe_read_31, if_pos (by omega)]
          exact bad _ _ _ (f4'.tr f6) c6
      | inr x =>
        obtain ⟨⟨D', T'⟩, k1⟩ := x
        have c32 := c3.2
        rw [hcl] at c32
        obtain ⟨o1, o2, o3, o4⟩ := cl1_ok hn hb.2 h1 hcl
        have hb1 := blk_le (B := B) o2
        refine g_demandS c32 (by omega) ?_ ?_
        · intro M4 hs f4 c4
          have e47 : M4.1 4 4 7 = (i : Int) := by rw [c4.2.1 4 7 (by omega), o3, h7]
          have ecl : cls B n (f + 1 + 1) D T (blk B n k) = cls B n (f + 1) (sD D' 4 7 (D' 4 7 + 1)) T' (blk B n (blk B n k1 + 1)) := by
            rw [cls, if_pos hlt]; unfold cl2; rw [hcl]; simp only []; rw [if_pos hs]
          rw [KU_eq, bRe_read_37, e47, w32_id (by omega), show ((i : Int) + 1) = ((i + 1 : Nat) : Int) by omega]
          have ed : D' 4 7 + 1 = ((i + 1 : Nat) : Int) := by rw [o3, h7]; omega
          rw [ed] at ecl
          refine ih _ _ _ _ (i + 1) (c4.d (by omega)) (by rw [sD_ne (by omega)]; exact o4) sD_eq (by omega) (by omega) ?_
          intro M5 z1 z2 r5
          refine hq M5 _ _ ⟨(((f2.tr c3.1).tr f4).sI (by omega)).tr r5.1, ?_⟩
          rw [ecl]; exact r5.2
        · intro M4 hs f4 c4
          have ecl : cls B n (f + 1 + 1) D T (blk B n k) = .inl (1, (blk B n k1 : Int)) := by
            rw [cls, if_pos hlt]; unfold cl2; rw [hcl]; simp only []; rw [if_neg hs]
          rw [KU_eq, bRe_read_37, bRe_read_26]
          have bad : ∀ (M5 : Mem) (z1 z2 : AV), Fs pRd M M5 → CF B n 1 (blk B n k1 : Int) M5 → At (d + 55) kRe_read 46 [vr 5 0, z1, z2] [] M5 Q X := by
            intro M5 z1 z2 f5 c5
            have h9 : M5.1 5 0 9 ≠ 0 := by obtain ⟨tp, x⟩ := c5; rw [x.2.1]; omega
            rw [bRe_read_46]
            split
            · exact hq _ _ _ ⟨f5, by rw [ecl]; exact ⟨Int.one_ne_zero, c5⟩⟩
            · rw [bRe_read_50, c_refuse, KU_eq, rfs_no h9]
              exact hq _ _ _ ⟨f5, by rw [ecl]; exact ⟨Int.one_ne_zero, c5⟩⟩
          have f4' := ((f2.tr c3.1).tr f4).sI (t := 4) (i := 4) (j := 7) (v := w32 (M4.1 4 4 7 + 1)) (by omega)
          have c4' := c4.d (t := 4) (j := 7) (v := w32 (M4.1 4 4 7 + 1)) (by omega)
          split
          · exact bad _ _ _ f4' c4'
          · rw [bRe_read_29, eRe_hasMore, bRe_hasMore_0]
            refine x_blank c4' ?_
            intro M6 f6 c6
            have h9 : M6.1 5 0 9 ≠ 0 := by obtain ⟨tp, x⟩ := c6; rw [x.2.1]; omega
            rw [KU_eq, bRe_hasMore_2, if_pos h9, bRe_hasMore_12, bRe_hasMore_13, KV_eq, bRe_read_31, if_pos (by omega)]
            exact bad _ _ _ (f4'.tr f6) c6
    · rw [if_pos (by omega), bRe_hasMore_12, bRe_hasMore_13, KV_eq, bRe_read_31, if_pos (by omega)]
      exact fin _ _ _ _ hlt f2 c2
end
