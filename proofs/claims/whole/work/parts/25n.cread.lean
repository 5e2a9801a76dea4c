/-! LAYER 3, A WHOLE TEXT IN THE CLASS -/
def CP (B : BT) (n : Nat) (M : Mem) (res : CRs) (M' : Mem) : Prop := Fs pRd M M' ∧ match res with
  | .inl e => CF B n e.1 e.2 M'
  | .inr ((D, T), k) => CK B n D T M' k
section
variable {d : Nat} {B : BT} {n : Nat} {D : RT} {T : TT} {M : Mem} {Q : AV → Mem → Prop} {X : Nat → Mem → Prop}
theorem c_beginTerms {i : Nat} (hi : i < 2) : Call (d + 2) qRe_beginTerms [vr 5 0, vr 6 i] M Q X = Q (vi 0) (sI (sI M 5 0 6 (i : Int)) 6 i 1 0) := by
  rw [eRe_beginTerms, bRe_beginTerms_0 hi, sI_eq, show ((i : Int)).toNat = i by omega, eTe_clear, bTe_clear_0, KU_eq, bRe_beginTerms_6]
theorem c_choice {k i : Nat} (hi : i < 2) (hc : CK B n D T M k) (hq : ∀ M', CP B n M (match px B n (pxF n) 5 0 k rd0 with | .inl e => .inl e | .inr (r, k1) => .inr ((D, sTt T i (some (k, r))), k1)) M' → Q (vi 0) M') : Call (d + 54) qRe_readChoice [vr 5 0, vi 0] (sI (sI M 5 0 6 (i : Int)) 6 i 1 0) Q X := by
  obtain ⟨⟨h1, h2, h3, h4, h5, h6⟩, h7, h8⟩ := hc
  have hn := h1.2.1
  have hrk : rk 5 < 100 := by decide
  have hpx := px_fuel B n hn (pxF n) 5 0 k rd0 (by omega) (by omega) h3 (by unfold pxF; omega)
  have hg := cgr B n i hn (pxF n) 5 0 k rd0 (by omega) h3 hpx
  have hg5 := hg.2.2.2.2.2.1 rfl
  have hin : Inn B n i (sI (sI M 5 0 6 (i : Int)) 6 i 1 0) 0 k [] := by
    refine ⟨⟨⟨?_, hn, ?_⟩, ?_, h3, ?_, hi, ?_, ?_⟩, ?_, ?_, fun j hj => absurd hj (by simp)⟩
    · rw [sI_ne (by omega), sI_ne (by omega)]; exact h1.1
    · intro j hj; rw [sI_ne (by omega), sI_ne (by omega)]; exact h1.2.2 j hj
    · rw [sI_ne (by omega), sI_ne (by omega)]; exact h2
    · rw [sI_ne (by omega), sI_eq]
    · rw [sI_eq]; omega
    · rw [sI_eq]; omega
    · rw [sI_ne (by omega), sI_ne (by omega)]; exact h4
    · rw [sI_eq]; rfl
  refine Call_up (d := dp 5 0) (by unfold dp; omega) (hg5 _ _ _ 0 hin (by omega) ?_)
  intro M2 ho
  have f0 : Fs pRd M (sI (sI M 5 0 6 (i : Int)) 6 i 1 0) := (Fs.rf.sI (by omega)).sI (by omega)
  refine hq M2 ⟨f0.tr (ho.1.cr hi), ?_⟩
  cases hp : px B n (pxF n) 5 0 k rd0 with
  | inl e => rw [hp] at ho; exact ⟨i, ho.2⟩
  | inr x =>
    obtain ⟨r, k1⟩ := x
    rw [hp] at ho
    obtain ⟨hf, hi2, hp1, hbl⟩ := Out.inn ho
    obtain ⟨⟨g1, g2, g3, g4, g5, g6, g7⟩, g8, g9, g10⟩ := hi2
    refine ⟨⟨g1, g2, g3, g8, ?_, by omega⟩, ?_, ?_⟩
    · rw [hp1, sI_ne (by omega), sI_ne (by omega)]; exact h5
    · intro t j ht
      rw [hf.g1 t 4 j (by omega), sI_ne (by omega), sI_ne (by omega)]
      exact h7 t j ht
    · intro i' hi'
      by_cases hii : i' = i
      · subst hii
        refine ⟨⟨g6, g7⟩, ?_⟩
        unfold sTt; rw [if_pos rfl]
        exact ⟨by rw [g9]; omega, g10⟩
      · have e1 : M2.1 6 i' 1 = M.1 6 i' 1 := by rw [hf.g1 6 i' 1 (by omega), sI_ne (by omega), sI_ne (by omega)]
        have e2 : ∀ j, M2.1 40 i' j = M.1 40 i' j := fun j => by rw [hf.g1 40 i' j (by omega), sI_ne (by omega), sI_ne (by omega)]
        have h8i := h8 i' hi'
        rw [e1]
        refine ⟨h8i.1, ?_⟩
        unfold sTt; rw [if_neg hii]
        have h82 := h8i.2
        cases hT : T i' with
        | none => rw [hT] at h82; exact h82
        | some x => rw [hT] at h82; exact ⟨h82.1, h82.2.fr (fun j _ => e2 j)⟩
theorem c_readClause {k : Nat} (hc : CK B n D T M k) (hb : blk B n k = k) (hD : 0 ≤ D 4 1) (hq : ∀ M', CP B n M (cl1 B n D T k) M' → Q (vi 0) M') : Call (d + 55) qRe_readClause [vr 5 0] M Q X := by
  have h8 := hc.1.2.1
  rw [eRe_readClause, bRe_readClause_0, h8]
  refine g_word (by omega) hc ?_ ?_
  · intro hw f1 c1
    rw [hb] at hw f1 c1 ⊢
    rw [KV_eq, bRe_readClause_6, if_neg (by omega), bRe_readClause_7]
    refine Call_up (d := d + 5) (by omega) (c_readShop c1 hD ?_)
    intro M2 c2
    rw [KU_eq, bRe_readClause_10, bRe_readClause_99]
    refine hq M2 ⟨f1.tr c2.1, ?_⟩
    unfold cl1
    rw [if_pos hw]
    have := c2.2
    cases hs : scl B n D k with
    | inl e => rw [hs] at this; exact this
    | inr x => rw [hs] at this; exact this
  intro w1 f1 c1
  rw [hb] at w1 f1 c1 ⊢
  rw [KV_eq, bRe_readClause_6, if_pos rfl, bRe_readClause_11]
  refine g_word (by omega) c1 ?_ ?_
  · intro hw f2 c2
    rw [hb] at hw f2 c2 ⊢
    rw [show (wd 13).length = 5 from rfl] at f2 c2 ⊢
    rw [KV_eq, bRe_readClause_14, if_neg (by omega), bRe_readClause_15]
    refine g_num c2 (by omega) (by omega) ?_ ?_
    · intro e he M3 v f3 c3
      have ha := nmb_f he
      rw [KV_eq, bRe_readClause_21]
      refine x_word (by omega) ha (c3.d (by omega)) ?_
      intro M4 f4 c4
      rw [KV_eq, bRe_readClause_27, if_pos rfl, bRe_readClause_33, bRe_readClause_34, bRe_readClause_99]
      refine hq _ ⟨((((f1.tr f2).tr f3).sI (by omega)).tr f4).sI (by omega), ?_⟩
      unfold cl1; rw [if_neg w1, if_pos hw]
      rw [he]; exact c4.d (by omega)
    · intro v k1 he hk1 hv1 hv2 f3 c3
      rw [KV_eq, bRe_readClause_21]
      refine g_word (by omega) (c3.d (by omega)) ?_ ?_
      · intro hw4 f4 c4
        rw [show (wd 14).length = 6 from rfl] at f4 c4 ⊢
        rw [KV_eq, bRe_readClause_27, if_neg (by omega), bRe_readClause_28]
        refine g_num c4 (by omega) (by omega) ?_ ?_
        · intro e he5 M5 v5 f5 c5
          rw [KV_eq, bRe_readClause_32, bRe_readClause_34, bRe_readClause_99]
          refine hq _ ⟨(((((f1.tr f2).tr f3).sI (by omega)).tr f4).tr f5).sI (by omega), ?_⟩
          unfold cl1; rw [if_neg w1, if_pos hw]
          rw [he]; simp only []; rw [if_pos hw4]
          rw [he5]; exact c5.d (by omega)
        · intro v5 k5 he5 hk5 hv51 hv52 f5 c5
          rw [KV_eq, bRe_readClause_32, bRe_readClause_34, bRe_readClause_99]
          refine hq _ ⟨(((((f1.tr f2).tr f3).sI (by omega)).tr f4).tr f5).sI (by omega), ?_⟩
          unfold cl1; rw [if_neg w1, if_pos hw]
          rw [he]; simp only []; rw [if_pos hw4]
          rw [he5]; exact c5.d (by omega)
      · intro hw4 f4 c4
        rw [KV_eq, bRe_readClause_27, if_pos rfl, bRe_readClause_33, bRe_readClause_34, bRe_readClause_99]
        refine hq _ ⟨((((f1.tr f2).tr f3).sI (by omega)).tr f4).sI (by omega), ?_⟩
        unfold cl1; rw [if_neg w1, if_pos hw]
        rw [he]; simp only []; rw [if_neg hw4]; exact c4.d (by omega)
  intro w2 f2 c2
  rw [hb] at w2 f2 c2 ⊢
  rw [KV_eq, bRe_readClause_14, if_pos rfl, bRe_readClause_36]
  have f02 := f1.tr f2
  refine g_word (by omega) c2 ?_ ?_
  · intro hw f3 c3
    rw [hb] at hw f3 c3 ⊢
    rw [show (wd 15).length = 5 from rfl] at f3 c3 ⊢
    rw [KV_eq, bRe_readClause_39, if_neg (by omega), bRe_readClause_40]
    refine g_num c3 (by omega) (by omega) ?_ ?_
    · intro e he M4 v f4 c4
      rw [KV_eq, bRe_readClause_46, bRe_readClause_99]
      refine hq _ ⟨((f02.tr f3).tr f4).sI (by omega), ?_⟩
      unfold cl1; rw [if_neg w1, if_neg w2, if_pos hw]
      rw [he]; exact c4.d (by omega)
    · intro v k1 he hk1 hv1 hv2 f4 c4
      rw [KV_eq, bRe_readClause_46, bRe_readClause_99]
      refine hq _ ⟨((f02.tr f3).tr f4).sI (by omega), ?_⟩
      unfold cl1; rw [if_neg w1, if_neg w2, if_pos hw]
      rw [he]; exact c4.d (by omega)
  intro w3 f3 c3
  rw [hb] at w3 f3 c3 ⊢
  rw [KV_eq, bRe_readClause_39, if_pos rfl, bRe_readClause_48]
  have f03 := f02.tr f3
  refine g_word (by omega) c3 ?_ ?_
  · intro hw f4 c4
    rw [hb] at hw f4 c4 ⊢
    rw [show (wd 16).length = 5 from rfl] at f4 c4 ⊢
    rw [KV_eq, bRe_readClause_51, if_neg (by omega), bRe_readClause_52]
    refine g_num c4 (by omega) (by omega) ?_ ?_
    · intro e he M5 v f5 c5
      have ha := nmb_f he
      rw [KV_eq, bRe_readClause_58]
      refine x_demandW (by omega) ha (c5.d (by omega)) ?_
      intro M6 f6 c6
      rw [KU_eq, bRe_readClause_62]
      refine x_num ha c6 ?_
      intro M7 v7 f7 c7
      rw [KV_eq, bRe_readClause_68, bRe_readClause_99]
      refine hq _ ⟨((((f03.tr f4).tr (f5.sI (by omega))).tr f6).tr f7).sI (by omega), ?_⟩
      unfold cl1; rw [if_neg w1, if_neg w2, if_neg w3, if_pos hw]
      rw [he]; exact c7.d (by omega)
    · intro v k1 he hk1 hv1 hv2 f5 c5
      rw [KV_eq, bRe_readClause_58]
      refine g_demandW (by omega) (c5.d (by omega)) ?_ ?_
      · intro M6 hw6 f6 c6
        rw [show (wd 17).length = 6 from rfl] at c6
        rw [KU_eq, bRe_readClause_62]
        refine g_num c6 (by omega) (by omega) ?_ ?_
        · intro e he7 M7 v7 f7 c7
          rw [KV_eq, bRe_readClause_68, bRe_readClause_99]
          refine hq _ ⟨((((f03.tr f4).tr (f5.sI (by omega))).tr f6).tr f7).sI (by omega), ?_⟩
          unfold cl1; rw [if_neg w1, if_neg w2, if_neg w3, if_pos hw]
          rw [he]; simp only []; rw [if_pos hw6]
          rw [he7]; exact c7.d (by omega)
        · intro v7 k7 he7 hk7 hv71 hv72 f7 c7
          rw [KV_eq, bRe_readClause_68, bRe_readClause_99]
          refine hq _ ⟨((((f03.tr f4).tr (f5.sI (by omega))).tr f6).tr f7).sI (by omega), ?_⟩
          unfold cl1; rw [if_neg w1, if_neg w2, if_neg w3, if_pos hw]
          rw [he]; simp only []; rw [if_pos hw6]
          rw [he7]; exact c7.d (by omega)
      · intro M6 hw6 f6 c6
        rw [KU_eq, bRe_readClause_62]
        refine x_num (by omega) c6 ?_
        intro M7 v7 f7 c7
        rw [KV_eq, bRe_readClause_68, bRe_readClause_99]
        refine hq _ ⟨((((f03.tr f4).tr (f5.sI (by omega))).tr f6).tr f7).sI (by omega), ?_⟩
        unfold cl1; rw [if_neg w1, if_neg w2, if_neg w3, if_pos hw]
        rw [he]; simp only []; rw [if_neg hw6]; exact c7.d (by omega)
  intro w4 f4 c4
  rw [hb] at w4 f4 c4 ⊢
  rw [KV_eq, bRe_readClause_51, if_pos rfl, bRe_readClause_70]
  have f04 := f03.tr f4
  refine g_word (by omega) c4 ?_ ?_
  · intro hw f5 c5
    rw [hb] at hw f5 c5 ⊢
    rw [show (wd 18).length = 4 from rfl] at f5 c5 ⊢
    rw [KV_eq, bRe_readClause_73, if_neg (by omega), bRe_readClause_74, c_beginTerms (i := 0) (by omega), KU_eq, bRe_readClause_78]
    refine c_choice (i := 0) (by omega) c5 ?_
    intro M6 c6
    rw [KU_eq, bRe_readClause_81, bRe_readClause_99]
    refine hq M6 ⟨(f04.tr f5).tr c6.1, ?_⟩
    unfold cl1; rw [if_neg w1, if_neg w2, if_neg w3, if_neg w4, if_pos hw]
    exact c6.2
  intro w5 f5 c5
  rw [hb] at w5 f5 c5 ⊢
  rw [KV_eq, bRe_readClause_73, if_pos rfl, bRe_readClause_82]
  have f05 := f04.tr f5
  refine g_word (by omega) c5 ?_ ?_
  · intro hw f6 c6
    rw [hb] at hw f6 c6 ⊢
    rw [show (wd 19).length = 5 from rfl] at f6 c6 ⊢
    rw [KV_eq, bRe_readClause_85, if_neg (by omega), bRe_readClause_86, c_beginTerms (i := 1) (by omega), KU_eq, bRe_readClause_90]
    refine c_choice (i := 1) (by omega) c6 ?_
    intro M7 c7
    rw [KU_eq, bRe_readClause_93, bRe_readClause_99]
    refine hq M7 ⟨(f05.tr f6).tr c7.1, ?_⟩
    unfold cl1; rw [if_neg w1, if_neg w2, if_neg w3, if_neg w4, if_neg w5, if_pos hw]
    exact c7.2
  intro w6 f6 c6
  rw [hb] at w6 f6 c6 ⊢
  rw [KV_eq, bRe_readClause_85, if_pos rfl, bRe_readClause_94, sI_eq, c_refuse, KU_eq, bRe_readClause_99]
  refine hq _ ⟨?_, ?_⟩
  · unfold rfs; split
    · exact ((f05.tr f6).sI (by omega)).sI (by omega)
    · exact f05.tr f6
  · unfold cl1; rw [if_neg w1, if_neg w2, if_neg w3, if_neg w4, if_neg w5, if_neg w6]
    exact c6.bad
end
