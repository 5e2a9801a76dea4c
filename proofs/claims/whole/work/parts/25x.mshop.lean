/-! LAYER 3, SHOPS IN THE REFERENCE: the loop -/
section
variable {d : Nat} {B : BT} {n : Nat} {T : TT} {Q : AV → Mem → Prop} {X : Nat → Mem → Prop}
theorem m_paces {s : Nat} (hs : s < 3) : ∀ (f : Nat), f ≤ 3 → ∀ (D : RT) (M : Mem) (k : Nat) (z2 z3 z4 : AV), MK B n D T M k → (s : Int) < D 4 1 → D 34 s = ((3 - f : Nat) : Int) → (∀ M', MO B n T M (pcx B n s f D (blk B n k)) M' → Q (vi 0) M') →
    At (d + 5) kMo_shopHere 39 [vr 10 0, vi (s : Int), z2, z3, z4] [] M Q X := by
  intro f
  induction f with
  | zero =>
    intro hf D M k z2 z3 z4 hc hsD h34 hq
    have e63 : M.1 63 0 s = ((3 : Nat) : Int) := by rw [(hc.2.2.1.2 s hs hsD).2.1, h34]
    rw [bMo_shopHere_39, if_neg (by rw [hc.1.2.2.2.1]; omega), bMo_shopHere_42]
    refine gm_word (r := 20) (by omega) (by decide) hc ?_
    intro f1 c1
    rw [KV_eq, bMo_shopHere_50]
    by_cases hw : isW B n (blk B n k) (wd 20)
    · rw [if_pos hw, if_neg (by omega), bMo_shopHere_51 (by omega), show ((s : Int)).toNat = s by omega, sI_ne (by omega), e63, if_neg (by omega), bMo_shopHere_57, sI_eq, m_wrong, KU_eq, bMo_shopHere_62]
      refine hq _ ⟨(fs_wrs f1).mc, ?_⟩
      unfold pcx; rw [if_pos hw]; exact ⟨(by omega : (3 : Int) ≠ 0), c1.bad⟩
    · rw [if_neg hw, if_pos rfl, bMo_shopHere_120]
      refine hq _ ⟨f1.mc, ?_⟩
      unfold pcx; rw [if_neg hw]; exact c1
  | succ f ih =>
    intro hf D M k z2 z3 z4 hc hsD h34 hq
    have e63 : M.1 63 0 s = ((3 - (f + 1) : Nat) : Int) := by rw [(hc.2.2.1.2 s hs hsD).2.1, h34]
    rw [bMo_shopHere_39, if_neg (by rw [hc.1.2.2.2.1]; omega), bMo_shopHere_42]
    refine gm_word (r := 20) (by omega) (by decide) hc ?_
    intro f1 c1
    rw [KV_eq, bMo_shopHere_50]
    by_cases hw : isW B n (blk B n k) (wd 20)
    · rw [if_pos hw, if_neg (by omega), bMo_shopHere_51 (by omega), show ((s : Int)).toNat = s by omega, sI_ne (by omega), e63, if_pos (by omega), bMo_shopHere_63]
      refine gm_skip hw c1 ?_
      intro f2 c2
      rw [show (wd 20).length = 4 from rfl] at f2 c2 ⊢
      rw [KU_eq, bMo_shopHere_65]
      have f02 := f1.tr f2
      refine gm_num c2 (by omega) ?_ ?_
      · intro e he M3 v f3 c3
        have ha := nmb_f he
        have h6 : M3.1 10 0 6 ≠ 0 := by rw [c3.2.2.1]; exact ha
        have g63 : M3.1 63 0 s + 1 = ((3 - f : Nat) : Int) := by rw [(f02.tr f3).g1 63 0 s (by omega), e63]; omega
        rw [KV_eq, bMo_shopHere_69, if_pos h6, bMo_shopHere_81, if_pos h6, bMo_shopHere_89, m90 hs g63 (by omega), bMo_shopHere_39, if_pos (by rw [sI_ne (by omega), sI_ne (by omega), sI_ne (by omega)]; exact h6), bMo_shopHere_120]
        refine hq _ ⟨(((f02.tr f3).mc.sI (by omega)).sI (by omega)).sI (by omega), ?_⟩
        unfold pcx; rw [if_pos hw, he]; exact ⟨ha, ((c3.d (by omega)).d (by omega)).d (by omega)⟩
      · intro c k1 he hk1 hv1 hv2 f3 c3
        rw [KV_eq, bMo_shopHere_69, if_neg (by rw [c3.1.2.2.2.1]; omega), bMo_shopHere_73]
        have f03 := f02.tr f3
        refine gm_must (r := 21) (by omega) (by decide) c3 ?_ ?_
        · intro M4 hw4 f4 c4
          rw [show (wd 21).length = 2 from rfl] at c4
          rw [KU_eq, bMo_shopHere_81, if_neg (by rw [c4.1.2.2.2.1]; omega), bMo_shopHere_84]
          refine gm_num c4 (by omega) ?_ ?_
          · intro e he5 M5 v f5 c5
            have ha := nmb_f he5
            have h6 : M5.1 10 0 6 ≠ 0 := by rw [c5.2.2.1]; exact ha
            have f05 := (f03.tr f4).tr f5
            have g63 : M5.1 63 0 s + 1 = ((3 - f : Nat) : Int) := by rw [f05.g1 63 0 s (by omega), e63]; omega
            rw [KV_eq, bMo_shopHere_88, m90 hs g63 (by omega), bMo_shopHere_39, if_pos (by rw [sI_ne (by omega), sI_ne (by omega), sI_ne (by omega)]; exact h6), bMo_shopHere_120]
            refine hq _ ⟨((f05.mc.sI (by omega)).sI (by omega)).sI (by omega), ?_⟩
            unfold pcx; rw [if_pos hw, he]; simp only []; rw [if_pos hw4, he5]; exact ⟨ha, ((c5.d (by omega)).d (by omega)).d (by omega)⟩
          · intro v k5 he5 hk5 hv51 hv52 f5 c5
            have f05 := (f03.tr f4).tr f5
            have g63 : (sI M4 10 0 4 ((k5 : Nat) : Int)).1 63 0 s + 1 = ((3 - f : Nat) : Int) := by rw [f05.g1 63 0 s (by omega), e63]; omega
            rw [KV_eq, bMo_shopHere_88, m90 hs g63 (by omega)]
            refine ih (by omega) _ _ k5 _ _ _ (c5.pace hs hsD (by rw [h34]; omega) (by omega)) (by rw [sD_ne (by omega), sD_ne (by omega), sD_ne (by omega)]; exact hsD) (by rw [sD_ne (by omega), sD_ne (by omega), sD_eq]) ?_
            intro M6 r6
            refine hq M6 ⟨(((f05.mc.sI (by omega)).sI (by omega)).sI (by omega)).tr r6.1, ?_⟩
            unfold pcx; rw [if_pos hw, he]; simp only []; rw [if_pos hw4, he5]; exact r6.2
        · intro M4 hw4 f4 c4
          have h6 : M4.1 10 0 6 ≠ 0 := by rw [c4.2.2.1]; omega
          have f04 := f03.tr f4
          have g63 : M4.1 63 0 s + 1 = ((3 - f : Nat) : Int) := by rw [f04.g1 63 0 s (by omega), e63]; omega
          rw [KU_eq, bMo_shopHere_81, if_pos h6, bMo_shopHere_89, m90 hs g63 (by omega), bMo_shopHere_39, if_pos (by rw [sI_ne (by omega), sI_ne (by omega), sI_ne (by omega)]; exact h6), bMo_shopHere_120]
          refine hq _ ⟨((f04.mc.sI (by omega)).sI (by omega)).sI (by omega), ?_⟩
          unfold pcx; rw [if_pos hw, he]; simp only []; rw [if_neg hw4]; exact ⟨Int.one_ne_zero, ((c4.d (by omega)).d (by omega)).d (by omega)⟩
    · rw [if_neg hw, if_pos rfl, bMo_shopHere_120]
      refine hq _ ⟨f1.mc, ?_⟩
      unfold pcx; rw [if_neg hw]; exact c1
end
