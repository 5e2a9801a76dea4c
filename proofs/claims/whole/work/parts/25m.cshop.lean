/-! LAYER 3, SHOPS AND CONDITIONS IN THE CLASS -/
theorem Call_up {d d' q : Nat} {as : List AV} {M : Mem} {Q : AV → Mem → Prop} {X : Nat → Mem → Prop} (h : d ≤ d') (hc : Call d q as M Q X) : Call d' q as M Q X := by
  obtain ⟨n, r, h1, h2⟩ := hc
  exact ⟨n, r, callD_mono prg d d' n n h (Nat.le_refl _) _ _ _ _ h1, h2⟩
def CO (B : BT) (n : Nat) (T : TT) (M : Mem) (res : (Int × Int) ⊕ (RT × Nat)) (M' : Mem) : Prop := Fs pRd M M' ∧ match res with
  | .inl e => CF B n e.1 e.2 M'
  | .inr (D, k) => CK B n D T M' k
theorem nmb_f {B : BT} {n k : Nat} {lo hi : Int} {e : Int × Int} (h : nmb B n k lo hi = .inl e) : e.1 ≠ 0 := by
  unfold nmb at h
  split at h
  · cases h; exact Int.one_ne_zero
  · split at h
    · cases h
    · cases h; exact (by omega : (2 : Int) ≠ 0)
section
variable {d : Nat} {B : BT} {n : Nat} {T : TT} {Q : AV → Mem → Prop} {X : Nat → Mem → Prop}
theorem x_paces {M : Mem} {a b : Int} {z1 z2 z3 : Int} {z0 : AV} (ha : a ≠ 0) (h : CF B n a b M) (hq : ∀ M', Fs pRd M M' → CF B n a b M' → Q (vi 0) M') : At (d + 4) kRe_readShop 34 [vr 5 0, z0, vi z1, vi z2, vi z3] [] M Q X := by
  rw [bRe_readShop_34]
  split
  · rw [bRe_readShop_91]; exact hq M Fs.rf h
  · rw [bRe_readShop_37]
    refine x_word (by omega) ha h ?_
    intro M1 f1 c1
    rw [KV_eq, bRe_readShop_40, if_pos rfl, bRe_readShop_91]
    exact hq M1 f1 c1
theorem c_paces {s : Nat} {z0 : AV} (hs : s < 3) : ∀ (f : Nat), f ≤ 3 → ∀ (D : RT) (M : Mem) (k : Nat), CK B n D T M k → blk B n k = k → (∀ M', CO B n T M (pcx B n s f D k) M' → Q (vi 0) M') →
    At (d + 4) kRe_readShop 34 [vr 5 0, z0, vi (s : Int), vi (k : Int), vi ((4 - f : Nat) : Int)] [] M Q X := by
  intro f
  induction f with
  | zero =>
    intro hf D M k hc hb hq
    rw [bRe_readShop_34, if_neg (by omega), bRe_readShop_37]
    refine g_word (by omega) hc ?_ ?_
    · intro hw f1 c1
      rw [hb] at hw
      rw [KV_eq, bRe_readShop_40, if_neg (by omega), bRe_readShop_41, if_neg (by omega), bRe_readShop_44, c_refuse, KU_eq, bRe_readShop_48]
      refine hq _ ⟨?_, ?_⟩
      · unfold rfs; split
        · exact (f1.sI (by omega)).sI (by omega)
        · exact f1
      · unfold pcx; rw [if_pos hw]; exact c1.bad
    · intro hw f1 c1
      rw [hb] at hw f1 c1 ⊢
      rw [KV_eq, bRe_readShop_40, if_pos rfl, bRe_readShop_91]
      refine hq _ ⟨f1, ?_⟩
      unfold pcx; rw [if_neg hw]; exact c1
  | succ f ih =>
    intro hf D M k hc hb hq
    have e4 : 4 - (f + 1) = 3 - f := by omega
    rw [e4, bRe_readShop_34, if_neg (by omega), bRe_readShop_37]
    refine g_word (by omega) hc ?_ ?_
    · intro hw f1 c1
      rw [hb] at hw f1 c1 ⊢
      have ew : (wd 20).length = 4 := rfl
      rw [ew] at f1 c1 ⊢
      have ei : w32 (w32 ((s : Int) * 5) + ((3 - f : Nat) : Int)) = ((s * 5 + (3 - f) : Nat) : Int) := by rw [w32_id (z := (s : Int) * 5) (by omega), w32_id (by omega)]; omega
      rw [KV_eq, bRe_readShop_40, if_neg (by omega), bRe_readShop_41, if_pos (by omega), bRe_readShop_49 (by omega), ei, show ((s : Int)).toNat = s by omega]
      have c2 := c1.d (t := 34) (j := s) (v := ((3 - f : Nat) : Int)) (by omega)
      have f2 := f1.sI (t := 34) (i := 4) (j := s) (v := ((3 - f : Nat) : Int)) (by omega)
      refine g_num c2 (by omega) (by omega) ?_ ?_
      · intro e he M3 v f3 c3
        have ha := nmb_f he
        rw [KV_eq, bRe_readShop_67 (by omega)]
        refine x_demandW (by omega) ha (c3.d (by omega)) ?_
        intro M4 f4 c4
        rw [KU_eq, bRe_readShop_71]
        refine x_num ha c4 ?_
        intro M5 v5 f5 c5
        rw [KV_eq, ei, bRe_readShop_83 (by omega)]
        refine x_blank (c5.d (by omega)) ?_
        intro M6 f6 c6
        rw [KU_eq, bRe_readShop_86]
        refine x_paces ha c6 ?_
        intro M7 f7 c7
        refine hq M7 ⟨((((f2.tr f3).sI (by omega)).tr f4).tr ((f5.sI (by omega)).tr f6)).tr f7, ?_⟩
        unfold pcx; rw [if_pos hw, he]; exact c7
      · intro v k1 he hk1 hv1 hv2 f3 c3
        rw [KV_eq, bRe_readShop_67 (by omega)]
        have c4 := c3.d (t := 35) (j := s * 5 + (3 - f)) (v := v) (by omega)
        have f4 := (f2.tr f3).sI (t := 35) (i := 4) (j := s * 5 + (3 - f)) (v := v) (by omega)
        rw [show ((s * 5 + (3 - f) : Nat) : Int).toNat = s * 5 + (3 - f) by omega]
        refine g_demandW (by omega) c4 ?_ ?_
        · intro M5 hw5 f5 c5
          have ew5 : (wd 21).length = 2 := rfl
          rw [ew5] at c5
          rw [KU_eq, bRe_readShop_71]
          refine g_num c5 (by omega) (by omega) ?_ ?_
          · intro e he6 M6 v6 f6 c6
            have ha := nmb_f he6
            rw [KV_eq, ei, bRe_readShop_83 (by omega)]
            refine x_blank (c6.d (by omega)) ?_
            intro M7 f7 c7
            rw [KU_eq, bRe_readShop_86]
            refine x_paces ha c7 ?_
            intro M8 f8 c8
            refine hq M8 ⟨(((f4.tr f5).tr (f6.sI (by omega))).tr f7).tr f8, ?_⟩
            unfold pcx; rw [if_pos hw, he]; simp only []; rw [if_pos hw5, he6]; exact c8
          · intro v6 k6 he6 hk6 hv61 hv62 f6 c6
            rw [KV_eq, ei, bRe_readShop_83 (by omega), show ((s * 5 + (3 - f) : Nat) : Int).toNat = s * 5 + (3 - f) by omega]
            refine g_blank (c6.d (by omega)) ?_
            intro f7 c7
            rw [KU_eq, bRe_readShop_86, sI_eq, show w32 (((3 - f : Nat) : Int) + 1) = ((4 - f : Nat) : Int) by rw [w32_id (by omega)]; omega]
            refine ih (by omega) _ _ _ c7 blk_blk ?_
            intro M8 c8
            refine hq M8 ⟨(((f4.tr f5).tr (f6.sI (by omega))).tr f7).tr c8.1, ?_⟩
            unfold pcx; rw [if_pos hw, he]; simp only []; rw [if_pos hw5, he6]; exact c8.2
        · intro M5 hw5 f5 c5
          rw [KU_eq, bRe_readShop_71]
          refine x_num (by omega) c5 ?_
          intro M6 v6 f6 c6
          rw [KV_eq, ei, bRe_readShop_83 (by omega)]
          refine x_blank (c6.d (by omega)) ?_
          intro M7 f7 c7
          rw [KU_eq, bRe_readShop_86]
          refine x_paces (by omega) c7 ?_
          intro M8 f8 c8
          refine hq M8 ⟨(((f4.tr f5).tr (f6.sI (by omega))).tr f7).tr f8, ?_⟩
          unfold pcx; rw [if_pos hw, he]; simp only []; rw [if_neg hw5]; exact c8
    · intro hw f1 c1
      rw [hb] at hw f1 c1 ⊢
      rw [KV_eq, bRe_readShop_40, if_pos rfl, bRe_readShop_91]
      refine hq _ ⟨f1, ?_⟩
      unfold pcx; rw [if_neg hw]; exact c1
/-- behind the word shop -/
theorem c_readShop {D : RT} {M : Mem} {k : Nat} (hc : CK B n D T M (k + 4)) (hD : 0 ≤ D 4 1) (hq : ∀ M', CO B n T M (scl B n D k) M' → Q (vi 0) M') : Call (d + 5) qRe_readShop [vr 5 0, vi (k : Int)] M Q X := by
  have hsh : M.1 4 4 1 = D 4 1 := hc.2.1 4 1 (by omega)
  rw [eRe_readShop, bRe_readShop_0, hsh]
  by_cases h3 : D 4 1 < 3
  · rw [if_pos h3, bRe_readShop_12, w32_id (by omega)]
    have hs : (((D 4 1).toNat : Nat) : Int) = D 4 1 := by omega
    generalize hsn : (D 4 1).toNat = s at hs
    have c2 := hc.d (t := 4) (j := 1) (v := D 4 1 + 1) (by omega)
    have f2 : Fs pRd M (sI M 4 4 1 (D 4 1 + 1)) := Fs.rf.sI (by omega)
    have hres : scl B n D k = match nmb B n (k + 4) 1 4 with | .inl e => .inl e | .inr (v, k1) => pcx B n s 3 (sD (sD D 4 1 (D 4 1 + 1)) 33 s v) (blk B n k1) := by
      unfold scl; rw [if_neg (by omega), hsn]; rfl
    refine g_num c2 (by omega) (by omega) ?_ ?_
    · intro e he M3 v f3 c3
      have ha := nmb_f he
      rw [KV_eq, bRe_readShop_26 (by omega)]
      refine x_blank (c3.d (by omega)) ?_
      intro M4 f4 c4
      rw [KU_eq, bRe_readShop_29]
      refine x_paces ha c4 ?_
      intro M5 f5 c5
      refine hq M5 ⟨((f2.tr (f3.sI (by omega))).tr f4).tr f5, ?_⟩
      rw [hres, he]; exact c5
    · intro v k1 he hk1 hv1 hv2 f3 c3
      rw [KV_eq, bRe_readShop_26 (by omega), hsn]
      refine g_blank (c3.d (by omega)) ?_
      intro f4 c4
      rw [← hs] at c4 f2 f3 f4
      rw [KU_eq, bRe_readShop_29, sI_eq, ← hs]
      refine c_paces (f := 3) (by omega) (by omega) _ _ _ c4 blk_blk ?_
      intro M5 c5
      refine hq M5 ⟨((f2.tr (f3.sI (by omega))).tr f4).tr c5.1, ?_⟩
      rw [hres, he, ← hs]
      exact c5.2
  · rw [if_neg h3, bRe_readShop_7, c_refuse, KU_eq, bRe_readShop_11]
    refine hq _ ⟨?_, ?_⟩
    · unfold rfs; split
      · exact (Fs.rf.sI (by omega)).sI (by omega)
      · exact Fs.rf
    · unfold scl; rw [if_pos (by omega)]; exact hc.bad
end
