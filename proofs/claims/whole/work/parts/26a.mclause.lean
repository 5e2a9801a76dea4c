/-! LAYER 3, A CLAUSE IN THE REFERENCE: all of it -/
section
variable {d : Nat} {B : BT} {n : Nat} {D : RT} {T : TT} {M : Mem} {Q : AV → Mem → Prop} {X : Nat → Mem → Prop}
/-- a condition in a clause: 31 sell, 32 leave -/
theorem gm_ors {k i : Nat} (hi : i < 2) (hc : MK B n D T M k) (hq : ∀ M' v, MP B n M (match px B n (pxF n) 5 0 k rd0 with | .inl e => .inl e | .inr (r, k1) => .inr ((D, sTt T i (some (k, r))), k1)) M' → Q (vi v) M') : Call (d + 53) qMo_ors [vr 10 0] (sI M 10 0 (31 + i) (k : Int)) Q X := by
  have hn := hc.1.1.2.1
  have hk := hc.1.2.2.1
  have hrk : rk 5 < 100 := by decide
  have hpx := px_fuel B n hn (pxF n) 5 0 k rd0 (by omega) (by omega) hk (by unfold pxF; omega)
  have hg := (mgr B n hn (pxF n) 5 0 k rd0 (by omega) hk hpx).2.2.2.2.2.1 rfl
  refine Call_up (d := dp 5 0) (by unfold dp; omega) (hg _ _ _ (hc.1.j (by omega)) ?_)
  intro M2 v ho
  have f0 : Fs pMc M (sI M 10 0 (31 + i) (k : Int)) := Fs.rf.sI (by omega)
  refine hq M2 v ⟨f0.tr ho.1.mc, ?_⟩
  cases hp : px B n (pxF n) 5 0 k rd0 with
  | inl e =>
    rw [hp] at ho
    have := px_f B n _ _ _ _ _ _ hp
    exact ⟨by omega, ho.2⟩
  | inr x =>
    obtain ⟨r, k1⟩ := x
    rw [hp] at ho
    obtain ⟨g1, g2, g3⟩ := ho.2
    have hf := ho.1
    have hD : MD D (sI M 10 0 (31 + i) (k : Int)) := by
      obtain ⟨⟨a1, a2, a3, a4, a5, a6, a7⟩, h4⟩ := hc.2.2.1
      refine ⟨⟨?_, ?_, ?_, ?_, ?_, ?_, ?_⟩, fun s hs hs2 => ?_⟩
      · rw [sI_ne (by omega)]; exact a1
      · rw [sI_ne (by omega)]; exact a2
      · rw [sI_ne (by omega)]; exact a3
      · rw [sI_ne (by omega)]; exact a4
      · rw [sI_ne (by omega)]; exact a5
      · rw [sI_ne (by omega)]; exact a6
      · rw [sI_ne (by omega)]; exact a7
      · obtain ⟨g1, g2, g3⟩ := h4 s hs hs2
        refine ⟨by rw [sI_ne (by omega)]; exact g1, by rw [sI_ne (by omega)]; exact g2, fun q q1 q2 q3 => ?_⟩
        rw [sI_ne (by omega), sI_ne (by omega)]
        exact g3 q q1 q2 q3
    refine ⟨g1, by rw [g2, sI_ne (by omega)]; exact hc.2.1, hD.mr hf, ?_, ?_⟩
    · rw [hf.g1 10 0 31 (by omega)]
      by_cases e : i = 0
      · subst e; rw [sI_eq]; rfl
      · rw [sI_ne (by omega)]; unfold sTt; rw [if_neg (by omega)]; exact hc.2.2.2.1
    · rw [hf.g1 10 0 32 (by omega)]
      by_cases e : i = 1
      · subst e; rw [sI_eq]; rfl
      · rw [sI_ne (by omega)]; unfold sTt; rw [if_neg (by omega)]; exact hc.2.2.2.2
theorem m_clause {k : Nat} (hn : n ≤ 500) (hb : blk B n k = k) (hc : MK B n D T M k) (hD : WD D) (h7 : 0 ≤ D 4 7 ∧ D 4 7 ≤ 1000) (hq : ∀ M', MP B n M (cl2 B n D T k) M' → Q (vi 0) M') : Call (d + 54) qMo_clause [vr 10 0] M Q X := by
  have hk := hc.1.2.2.1
  have ce : ∀ M2, MP B n M (cl1 B n D T k) M2 → At (d + 53) kMo_clause 154 [vr 10 0] [] M2 Q X := by
    intro M2 h2
    refine m_clend (d := d + 50) hn ?_ h2 hq
    intro D' T' k1 h
    have := cl1_ok hn hk hD.1.1.1 h
    omega
  rw [eMo_clause, bMo_clause_0]
  refine gm_word (r := 12) (by omega) (by decide) hc ?_
  intro f1 c1
  rw [hb] at f1 c1 ⊢
  rw [KV_eq, bMo_clause_8]
  by_cases w1 : isW B n k (wd 12)
  · rw [if_pos w1, if_neg (by omega), bMo_clause_9]
    refine m_shopHere w1 c1 hD ?_
    intro M2 r2
    rw [KU_eq, bMo_clause_11]
    refine ce M2 ⟨f1.mc.tr r2.1, ?_⟩
    unfold cl1; rw [if_pos w1]
    have := r2.2
    cases hs : scl B n D k with
    | inl e => rw [hs] at this; exact this
    | inr x => rw [hs] at this; exact this
  rw [if_neg w1, if_pos rfl, bMo_clause_12]
  refine gm_word (r := 13) (by omega) (by decide) c1 ?_
  intro f2 c2
  rw [hb] at f2 c2 ⊢
  have f02 := f1.tr f2
  rw [KV_eq, bMo_clause_20]
  by_cases w2 : isW B n k (wd 13)
  · rw [if_pos w2, if_neg (by omega), bMo_clause_21]
    refine gm_skip w2 c2 ?_
    intro f3 c3
    rw [show (wd 13).length = 5 from rfl] at f3 c3 ⊢
    have f03 := f02.tr f3
    rw [KU_eq, bMo_clause_23]
    refine gm_num c3 (by omega) ?_ ?_
    · intro e he M4 v f4 c4
      have ha := nmb_f he
      have h6 : M4.1 10 0 6 ≠ 0 := by rw [c4.2.2.1]; exact ha
      rw [KV_eq, bMo_clause_28, if_pos (by rw [sI_ne (by omega), sI_ne (by omega)]; exact h6)]
      refine ce _ ⟨((f03.tr f4).mc.sI (by omega)).sI (by omega), ?_⟩
      unfold cl1; rw [if_neg w1, if_pos w2, he]; exact ⟨ha, (c4.j (by omega)).j (by omega)⟩
    · intro v k1 he hk1 hv1 hv2 f4 c4
      have c5 := (c4.fld (j := 27) (jd := 3) (v := v) (by omega)).fld (j := 28) (jd := 4) (v := 0) (by omega)
      rw [KV_eq, bMo_clause_28, if_neg (by rw [c5.1.2.2.2.1]; omega), bMo_clause_35]
      refine gm_word (r := 14) (by omega) (by decide) c5 ?_
      intro f6 c6
      have f06 := (((f03.tr f4).mc.sI (t := 10) (i := 0) (j := 27) (v := v) (by omega)).sI (t := 10) (i := 0) (j := 28) (v := 0) (by omega)).tr f6.mc
      rw [KV_eq, bMo_clause_43]
      by_cases w6 : isW B n (blk B n k1) (wd 14)
      · rw [if_pos w6, if_neg (by omega), bMo_clause_44]
        refine gm_skip w6 c6 ?_
        intro f7 c7
        rw [show (wd 14).length = 6 from rfl] at f7 c7 ⊢
        rw [KU_eq, bMo_clause_46]
        refine gm_num c7 (by omega) ?_ ?_
        · intro e he8 M8 v8 f8 c8
          have ha := nmb_f he8
          rw [KV_eq, bMo_clause_51]
          refine ce _ ⟨((f06.tr f7.mc).tr f8.mc).sI (by omega), ?_⟩
          unfold cl1; rw [if_neg w1, if_pos w2, he]; simp only []; rw [if_pos w6, he8]; exact ⟨ha, c8.j (by omega)⟩
        · intro v8 k8 he8 hk8 hv81 hv82 f8 c8
          rw [KV_eq, bMo_clause_51]
          refine ce _ ⟨((f06.tr f7.mc).tr f8.mc).sI (by omega), ?_⟩
          have c9 := c8.fld (j := 28) (jd := 4) (v := v8) (by omega)
          rw [sD_sD] at c9
          unfold cl1; rw [if_neg w1, if_pos w2, he]; simp only []; rw [if_pos w6, he8]; exact c9
      · rw [if_neg w6, if_pos rfl]
        refine ce _ ⟨f06, ?_⟩
        unfold cl1; rw [if_neg w1, if_pos w2, he]; simp only []; rw [if_neg w6]; exact c6
  rw [if_neg w2, if_pos rfl, bMo_clause_53]
  refine gm_word (r := 15) (by omega) (by decide) c2 ?_
  intro f3 c3
  rw [hb] at f3 c3 ⊢
  have f03 := f02.tr f3
  rw [KV_eq, bMo_clause_61]
  by_cases w3 : isW B n k (wd 15)
  · rw [if_pos w3, if_neg (by omega), bMo_clause_62]
    refine gm_skip w3 c3 ?_
    intro f4 c4
    rw [show (wd 15).length = 5 from rfl] at f4 c4 ⊢
    rw [KU_eq, bMo_clause_64]
    refine gm_num c4 (by omega) ?_ ?_
    · intro e he M5 v f5 c5
      rw [KV_eq, bMo_clause_69]
      refine ce _ ⟨((f03.tr f4).tr f5).mc.sI (by omega), ?_⟩
      unfold cl1; rw [if_neg w1, if_neg w2, if_pos w3, he]; exact ⟨nmb_f he, c5.j (by omega)⟩
    · intro v k1 he hk1 hv1 hv2 f5 c5
      rw [KV_eq, bMo_clause_69]
      refine ce _ ⟨((f03.tr f4).tr f5).mc.sI (by omega), ?_⟩
      unfold cl1; rw [if_neg w1, if_neg w2, if_pos w3, he]; exact c5.fld (by omega)
  rw [if_neg w3, if_pos rfl, bMo_clause_71]
  refine gm_word (r := 16) (by omega) (by decide) c3 ?_
  intro f4 c4
  rw [hb] at f4 c4 ⊢
  have f04 := f03.tr f4
  rw [KV_eq, bMo_clause_79]
  by_cases w4 : isW B n k (wd 16)
  · rw [if_pos w4, if_neg (by omega), bMo_clause_80]
    refine gm_skip w4 c4 ?_
    intro f5 c5
    rw [show (wd 16).length = 5 from rfl] at f5 c5 ⊢
    rw [KU_eq, bMo_clause_82]
    have f05 := f04.tr f5
    refine gm_num c5 (by omega) ?_ ?_
    · intro e he M6 v f6 c6
      have ha := nmb_f he
      have h6 : M6.1 10 0 6 ≠ 0 := by rw [c6.2.2.1]; exact ha
      rw [KV_eq, bMo_clause_87, if_pos (by rw [sI_ne (by omega)]; exact h6), bMo_clause_99, if_pos (by rw [sI_ne (by omega)]; exact h6), bMo_clause_108, bMo_clause_109]
      refine ce _ ⟨((f05.tr f6).mc.sI (by omega)).sI (by omega), ?_⟩
      unfold cl1; rw [if_neg w1, if_neg w2, if_neg w3, if_pos w4, he]; exact ⟨ha, (c6.j (by omega)).j (by omega)⟩
    · intro v k1 he hk1 hv1 hv2 f6 c6
      have c7 := c6.fld (j := 29) (jd := 5) (v := v) (by omega)
      have f07 := (f05.tr f6).mc.sI (t := 10) (i := 0) (j := 29) (v := v) (by omega)
      rw [KV_eq, bMo_clause_87, if_neg (by rw [c7.1.2.2.2.1]; omega), bMo_clause_91]
      refine gm_must (r := 17) (by omega) (by decide) c7 ?_ ?_
      · intro M8 w8 f8 c8
        rw [show (wd 17).length = 6 from rfl] at c8
        rw [KU_eq, bMo_clause_99, if_neg (by rw [c8.1.2.2.2.1]; omega), bMo_clause_103]
        refine gm_num c8 (by omega) ?_ ?_
        · intro e he9 M9 v9 f9 c9
          rw [KV_eq, bMo_clause_107, bMo_clause_109]
          refine ce _ ⟨((f07.tr f8.mc).tr f9.mc).sI (by omega), ?_⟩
          unfold cl1; rw [if_neg w1, if_neg w2, if_neg w3, if_pos w4, he]; simp only []; rw [if_pos w8, he9]; exact ⟨nmb_f he9, c9.j (by omega)⟩
        · intro v9 k9 he9 hk9 hv91 hv92 f9 c9
          rw [KV_eq, bMo_clause_107, bMo_clause_109]
          refine ce _ ⟨((f07.tr f8.mc).tr f9.mc).sI (by omega), ?_⟩
          unfold cl1; rw [if_neg w1, if_neg w2, if_neg w3, if_pos w4, he]; simp only []; rw [if_pos w8, he9]; exact c9.fld (by omega)
      · intro M8 w8 f8 c8
        have h6 : M8.1 10 0 6 ≠ 0 := by rw [c8.2.2.1]; omega
        rw [KU_eq, bMo_clause_99, if_pos h6, bMo_clause_108, bMo_clause_109]
        refine ce _ ⟨(f07.tr f8.mc).sI (by omega), ?_⟩
        unfold cl1; rw [if_neg w1, if_neg w2, if_neg w3, if_pos w4, he]; simp only []; rw [if_neg w8]; exact ⟨Int.one_ne_zero, c8.j (by omega)⟩
  rw [if_neg w4, if_pos rfl, bMo_clause_111]
  refine gm_word (r := 18) (by omega) (by decide) c4 ?_
  intro f5 c5
  rw [hb] at f5 c5 ⊢
  have f05 := f04.tr f5
  rw [KV_eq, bMo_clause_119]
  by_cases w5 : isW B n k (wd 18)
  · rw [if_pos w5, if_neg (by omega), bMo_clause_120]
    refine gm_skip w5 c5 ?_
    intro f6 c6
    rw [show (wd 18).length = 4 from rfl] at f6 c6 ⊢
    rw [KU_eq, bMo_clause_122, c6.1.2.1]
    refine gm_ors (i := 0) (by omega) c6 ?_
    intro M7 v r7
    rw [KV_eq, bMo_clause_128]
    refine ce M7 ⟨(f05.tr f6).mc.tr r7.1, ?_⟩
    unfold cl1; rw [if_neg w1, if_neg w2, if_neg w3, if_neg w4, if_pos w5]; exact r7.2
  rw [if_neg w5, if_pos rfl, bMo_clause_130]
  refine gm_word (r := 19) (by omega) (by decide) c5 ?_
  intro f6 c6
  rw [hb] at f6 c6 ⊢
  have f06 := f05.tr f6
  rw [KV_eq, bMo_clause_138]
  by_cases w6 : isW B n k (wd 19)
  · rw [if_pos w6, if_neg (by omega), bMo_clause_139]
    refine gm_skip w6 c6 ?_
    intro f7 c7
    rw [show (wd 19).length = 5 from rfl] at f7 c7 ⊢
    rw [KU_eq, bMo_clause_141, c7.1.2.1]
    refine gm_ors (i := 1) (by omega) c7 ?_
    intro M8 v r8
    rw [KV_eq, bMo_clause_147]
    refine ce M8 ⟨(f06.tr f7).mc.tr r8.1, ?_⟩
    unfold cl1; rw [if_neg w1, if_neg w2, if_neg w3, if_neg w4, if_neg w5, if_pos w6]; exact r8.2
  rw [if_neg w6, if_pos rfl, bMo_clause_149, c6.1.2.1, m_wrong, KU_eq]
  refine ce _ ⟨(fs_wrs f06).mc, ?_⟩
  unfold cl1; rw [if_neg w1, if_neg w2, if_neg w3, if_neg w4, if_neg w5, if_neg w6]; exact ⟨Int.one_ne_zero, c6.bad⟩
end
