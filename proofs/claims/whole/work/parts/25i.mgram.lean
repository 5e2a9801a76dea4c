/-! LAYER 3, THE REFERENCE READS A CONDITION: what it does is the reading -/
theorem wrk6 {x y : Int} : wrk (-6) x y = w32 (x * y) := by unfold wrk; simp
theorem wrk4 {x y : Int} : wrk (-4) x y = w32 (x + y) := by unfold wrk; simp
theorem wrk5 {x y : Int} : wrk (-5) x y = w32 (x - y) := by unfold wrk; simp
theorem wrkAnd {x y : Int} (hx : x = 0 ∨ x = 1) (hy : y = 0 ∨ y = 1) : wrk (-10) x y = if x = 0 then 0 else if y = 0 then 0 else 1 := by
  rcases hx with rfl | rfl <;> rcases hy with rfl | rfl <;> decide
theorem wrkOr {x y : Int} (hx : x = 0 ∨ x = 1) (hy : y = 0 ∨ y = 1) : wrk (-11) x y = if x ≠ 0 then 1 else if y = 0 then 0 else 1 := by
  rcases hx with rfl | rfl <;> rcases hy with rfl | rfl <;> decide
theorem OutM.tr {B n c o M0 M res M' v} (h0 : Fs pMr M0 M) (h1 : M.1 10 0 7 = M0.1 10 0 7) (h : OutM B n c o M res M' v) : OutM B n c o M0 res M' v := by
  obtain ⟨a, b⟩ := h
  refine ⟨h0.tr a, ?_⟩
  rcases res with e | ⟨r, k'⟩
  · exact b
  · obtain ⟨b1, b2, b3⟩ := b
    obtain ⟨e1, e2, e3⟩ := fs_env h0
    rw [e1, e2, e3] at b3
    exact ⟨b1, b2.trans h1, b3⟩
theorem MSt.bd {B n M k o} (h : MSt B n M k o) (hn : n ≤ 500) : k ≤ 1000 := by have := h.2.2.1; omega
set_option maxHeartbeats 4000000 in
theorem mgr (B : BT) (n : Nat) (hn : n ≤ 500) : ∀ (f kd o k : Nat) (r : Rd), o ≤ 6 → k ≤ n → px B n f kd o k r ≠ .inl (9, 0) →
    (kd = 0 → McP B n 505 qMo_unit 0 o k (px B n f 0 o k r)) ∧ (kd = 1 → McP B n 505 qMo_product 1 o k (px B n f 1 o k r)) ∧ (kd = 2 → McP B n 505 qMo_sum 2 o k (px B n f 2 o k r)) ∧ (kd = 3 → McP B n 515 qMo_test 3 o k (px B n f 3 o k r)) ∧ (kd = 4 → McP B n 515 qMo_ands 4 o k (px B n f 4 o k r)) ∧ (kd = 5 → McP B n 515 qMo_ors 5 o k (px B n f 5 o k r)) ∧
    (kd = 6 → ∀ (M : Mem) (Q : AV → Mem → Prop) (X : Nat → Mem → Prop) (x : Int), MSt B n M (blk B n k) o → x = r.2 (M.1 10 0 38) (M.1 10 0 39) (M.1 10 0 40) → (∀ M' v, OutM B n 505 o M (px B n f 6 o k r) M' v → Q (vi v) M') → At (dp 1 o - 1) kMo_product 5 [vr 10 0, vi x] [] M Q X) ∧
    (kd = 7 → ∀ (M : Mem) (Q : AV → Mem → Prop) (X : Nat → Mem → Prop) (x : Int) (z2 z3 : AV), MSt B n M (blk B n k) o → x = r.2 (M.1 10 0 38) (M.1 10 0 39) (M.1 10 0 40) → (∀ M' v, OutM B n 505 o M (px B n f 7 o k r) M' v → Q (vi v) M') → At (dp 2 o - 1) kMo_sum 5 [vr 10 0, vi x, z2, z3] [] M Q X) ∧
    (kd = 8 → ∀ (M : Mem) (Q : AV → Mem → Prop) (X : Nat → Mem → Prop) (x : Int) (z2 : AV), MSt B n M k o → x = r.2 (M.1 10 0 38) (M.1 10 0 39) (M.1 10 0 40) → (x = 0 ∨ x = 1) → (∀ M' v, OutM B n 515 o M (px B n f 8 o k r) M' v → Q (vi v) M') → At (dp 4 o - 1) kMo_ands 3 [vr 10 0, vi x, z2] [] M Q X) ∧
    (kd = 9 → ∀ (M : Mem) (Q : AV → Mem → Prop) (X : Nat → Mem → Prop) (x : Int) (z2 : AV), MSt B n M k o → x = r.2 (M.1 10 0 38) (M.1 10 0 39) (M.1 10 0 40) → (x = 0 ∨ x = 1) → (∀ M' v, OutM B n 515 o M (px B n f 9 o k r) M' v → Q (vi v) M') → At (dp 5 o - 1) kMo_ors 3 [vr 10 0, vi x, z2] [] M Q X) := by
  intro f
  induction f with
  | zero => intro kd o k r _ _ h; exact absurd rfl h
  | succ f ih =>
    intro kd o k r ho hk hno
    have hb := blk_le (B := B) hk
    obtain ⟨w22, w23, w24, w25, w26, w27⟩ := wl
    match kd, hno with
    | 0, hno =>
      refine ⟨fun _ => ?_, by omega, by omega, by omega, by omega, by omega, by omega, by omega, by omega, by omega⟩
      intro M Q X hS hq
      obtain ⟨m, hm⟩ : ∃ m, dp 0 o = m + 12 := ⟨dp 0 o - 12, by unfold dp; omega⟩
      have hS1 := hS.at hb.2
      have hat1 : (sI M 10 0 4 ((blk B n k : Nat) : Int)).1 10 0 4 = ((blk B n k : Nat) : Int) := sI_eq
      have hM1 : sI (sI M 10 0 4 ((blk B n k : Nat) : Int)) 10 0 4 ((blk B n k : Nat) : Int) = sI M 10 0 4 ((blk B n k : Nat) : Int) := sI_sI
      rw [px_0] at hno hq
      rw [hm, eMo_unit, bMo_unit_0, if_pos hS.2.2.2.1, bMo_unit_5, m_blanks hS.1 hS.2.1 (hS.bd hn), KU_eq, bMo_unit_7, hat1, m_byteAt hS1.1, KV_eq, bMo_unit_11, m_isDigit, KV_eq, bMo_unit_12]
      by_cases hdg : isDg (byt B n (blk B n k)) = true
      · have hdd : 48 ≤ byt B n (blk B n k) ∧ byt B n (blk B n k) ≤ 57 := of_decide_eq_true hdg
        have e1 : dge B n (blk B n k) ≠ blk B n k := by
          have e : dge B n (blk B n k) = dge B n (blk B n k + 1) := rnd_yes nD hdg
          have := rnd_le nD (B := B) (n := n) (blk B n k + 1)
          have : blk B n k + 1 ≤ dge B n (blk B n k + 1) := this.1
          omega
        have hdl := dge_le (B := B) hb.2
        have nw : ∀ r : Nat, 12 ≤ r ∧ r < 28 → ¬ isW B n (blk B n k) (wd r) := fun r hr hw => by have := isW_first hr hw; omega
        rw [if_neg (by omega), if_neg (nw 25 (by omega)), if_neg (nw 26 (by omega)), if_neg (nw 27 (by omega)), if_neg e1] at hno hq
        have hv := nvl_ge (B := B) (n := n) (blk B n k) 0 (by omega)
        have hS2 := hS.at (k' := dge B n (blk B n k)) hdl.2
        rw [if_neg (by rw [if_pos hdg]; omega), bMo_unit_13, m_number hS1.1 hS1.2.1 (by omega), blk_blk, if_neg e1, KV_eq, bMo_unit_17]
        simp only [sI_sI]
        by_cases h9 : nvl B n (blk B n k) 0 ≤ 9999
        · have hl : lid 100000 (nvl B n (blk B n k) 0) = nvl B n (blk B n k) 0 := by unfold lid; rw [if_pos (by omega)]
          rw [if_pos h9] at hno hq
          rw [hl, if_pos (by omega)]
          exact hq _ _ ⟨Fs.rf.sI (by omega), hS2, sI_ne (by omega), rfl⟩
        · have hl : ¬ lid 100000 (nvl B n (blk B n k) 0) ≤ 9999 := by unfold lid; split <;> omega
          rw [if_neg h9] at hno hq
          rw [if_neg (fun z => hl z.2)]
          exact hq _ _ ⟨fs_wrs (Fs.rf.sI (by omega)), FMx.of_wrs hS2 (by omega)⟩
      · have e1 : dge B n (blk B n k) = blk B n k := rnd_no (by simpa using hdg)
        rw [if_pos (by rw [if_neg hdg]), bMo_unit_18, m_isWord (r := 25) (by omega) wOwn hS1.1 hS1.2.1 (by omega), blk_blk, hM1, KV_eq, bMo_unit_26, m_isWord (r := 26) (by omega) wNext hS1.1 hS1.2.1 (by omega), blk_blk, hM1, KV_eq, bMo_unit_35, m_isWord (r := 27) (by omega) wWeek hS1.1 hS1.2.1 (by omega), blk_blk, hM1, KV_eq, bMo_unit_44]
        have hlte : ∀ r : Nat, isW B n (blk B n k) (wd r) → lte B n (blk B n k) = blk B n k + (wd r).length := fun r hw => hw.1
        have f5 := wd_ok 25 (by omega) (by omega)
        have f6 := wd_ok 26 (by omega) (by omega)
        have f7 := wd_ok 27 (by omega) (by omega)
        have take : ∀ (x1 x2 z3 : Int) (k' : Nat), k' ≤ n → lte B n (blk B n k) = k' → ∀ v, v = (if x1 ≠ 0 then M.1 10 0 38 else if x2 ≠ 0 then M.1 10 0 39 else M.1 10 0 40) → Q (vi v) (sI M 10 0 4 ((k' : Nat) : Int)) → At (m + 11) kMo_unit 51 [vr 10 0, vi x1, vi x2, vi z3, JK] [] (sI M 10 0 4 ((blk B n k : Nat) : Int)) Q X := by
          intro x1 x2 z3 k' hk' hl v hv hQ
          rw [bMo_unit_51, m_skipWord hS1.1 hS1.2.1 (by omega), hl, sI_sI, KU_eq, bMo_unit_53]
          have q8 : (sI M 10 0 4 ((k' : Nat) : Int)).1 10 0 38 = M.1 10 0 38 := sI_ne (by omega)
          have q9 : (sI M 10 0 4 ((k' : Nat) : Int)).1 10 0 39 = M.1 10 0 39 := sI_ne (by omega)
          have q0 : (sI M 10 0 4 ((k' : Nat) : Int)).1 10 0 40 = M.1 10 0 40 := sI_ne (by omega)
          by_cases h1 : x1 = 0
          · rw [if_pos h1, bMo_unit_58]
            rw [if_neg (by omega)] at hv
            by_cases h2 : x2 = 0
            · rw [if_pos h2, bMo_unit_63, bMo_unit_65, q0]
              rw [if_neg (by omega)] at hv
              rw [← hv]; exact hQ
            · rw [if_neg h2, bMo_unit_60, bMo_unit_65, q9]
              rw [if_pos h2] at hv
              rw [← hv]; exact hQ
          · rw [if_neg h1, bMo_unit_55, bMo_unit_65, q8]
            rw [if_pos h1] at hv
            rw [← hv]; exact hQ
        by_cases h25 : isW B n (blk B n k) (wd 25)
        · have hwl := isW_len h25 hb.2
          have hfl := isW_first (by omega) h25
          rw [if_neg (by omega), if_pos h25] at hno hq
          rw [if_pos h25, if_pos (by omega)]
          refine take 1 _ _ (blk B n k + 3) (by omega) (by rw [hlte 25 h25, w25]) (M.1 10 0 38) (by rw [if_pos (by omega)]) ?_
          exact hq _ _ ⟨Fs.rf.sI (by omega), hS.at (by omega), sI_ne (by omega), rfl⟩
        · rw [if_neg h25, if_neg (by simp), bMo_unit_47]
          by_cases h26 : isW B n (blk B n k) (wd 26)
          · have hwl := isW_len h26 hb.2
            have hfl := isW_first (by omega) h26
            rw [if_neg (by omega), if_neg h25, if_pos h26] at hno hq
            rw [if_pos h26, if_pos (by omega)]
            refine take 0 1 _ (blk B n k + 4) (by omega) (by rw [hlte 26 h26, w26]) (M.1 10 0 39) (by rw [if_neg (by omega), if_pos (by omega)]) ?_
            exact hq _ _ ⟨Fs.rf.sI (by omega), hS.at (by omega), sI_ne (by omega), rfl⟩
          · rw [if_neg h26, if_neg (by simp), bMo_unit_49]
            by_cases h27 : isW B n (blk B n k) (wd 27)
            · have hwl := isW_len h27 hb.2
              have hfl := isW_first (by omega) h27
              rw [if_neg (by omega), if_neg h25, if_neg h26, if_pos h27] at hno hq
              rw [if_pos h27, if_neg (by omega)]
              refine take 0 0 _ (blk B n k + 4) (by omega) (by rw [hlte 27 h27, w27]) (M.1 10 0 40) (by rw [if_neg (by omega), if_neg (by omega)]) ?_
              exact hq _ _ ⟨Fs.rf.sI (by omega), hS.at (by omega), sI_ne (by omega), rfl⟩
            · rw [if_neg h27, if_pos rfl, bMo_unit_66, hat1, m_byteAt hS1.1, KV_eq, bMo_unit_70]
              by_cases h40 : byt B n (blk B n k) = 40
              · have hlt := byt_ne (B := B) (n := n) (k := blk B n k) (by omega)
                rw [if_pos h40] at hno hq
                rw [if_pos h40, bMo_unit_79, show (1 : Int) = ((1 : Nat) : Int) from rfl, m_opens hS1 ho (by omega) hn, KU_eq, bMo_unit_82]
                by_cases ho6 : o = 6
                · rw [if_pos (by omega)] at hno hq
                  rw [if_pos ho6]
                  have x0 : FMx B n 505 3 (blk B n k : Int) o (wrs (sI M 10 0 4 ((blk B n k : Nat) : Int)) 3 (blk B n k : Int)) := FMx.of_wrs hS1 (by omega)
                  have x1 := (x0.op (o' := o + 1)).at (k := blk B n k + 1) (by omega)
                  refine Call_mono (show 4 ≤ m + 11 by omega) (fm_sum (d := 0) (by omega) x1 (by omega) ?_)
                  intro M1 f1 y1
                  rw [KV_eq, bMo_unit_84]
                  refine fm_sign (by omega) y1 (by omega) (by omega) ?_
                  intro M2 f2 y2
                  have y3 := y2.op (o' := o)
                  rw [KU_eq, bMo_unit_88, y2.2.2.2.2, w32_id (by omega), show (((o + 1 : Nat) : Int) - 1) = ((o : Nat) : Int) by omega]
                  refine hq _ _ ⟨?_, y3⟩
                  exact (((((fs_wrs (Fs.rf.sI (by omega))).sI (by omega)).sI (by omega)).tr f1).tr f2).sI (by omega)
                · rw [if_neg (by omega)] at hno hq
                  rw [if_neg ho6]
                  have hS2 := (hS1.op (o' := o + 1)).at (k' := blk B n k + 1) (by omega)
                  have F0 : Fs pMr M (sI (sI (sI M 10 0 4 ((blk B n k : Nat) : Int)) 10 0 5 ((o + 1 : Nat) : Int)) 10 0 4 ((blk B n k + 1 : Nat) : Int)) := ((Fs.rf.sI (by omega)).sI (by omega)).sI (by omega)
                  cases hp : px B n f 2 (o + 1) (blk B n k + 1) r with
                  | inl e =>
                    rw [hp] at hno hq
                    have he := px_f B n f _ _ _ _ _ hp
                    refine Call_mono (show dp 2 (o + 1) ≤ m + 11 by unfold dp at hm ⊢; omega) ((ih 2 (o + 1) _ r (by omega) (by omega) (by rw [hp]; exact hno)).2.2.1 rfl _ _ _ hS2 ?_)
                    intro M1 v1 h1
                    rw [hp] at h1
                    rw [KV_eq, bMo_unit_84]
                    refine fm_sign (by omega) h1.2 (by omega) (by omega) ?_
                    intro M2 f2 y2
                    have y3 := y2.op (o' := o)
                    rw [KU_eq, bMo_unit_88, y2.2.2.2.2, w32_id (by omega), show (((o + 1 : Nat) : Int) - 1) = ((o : Nat) : Int) by omega]
                    exact hq _ _ ⟨((F0.tr h1.1).tr f2).sI (by omega), y3⟩
                  | inr x =>
                    obtain ⟨r2, k2⟩ := x
                    rw [hp] at hno hq
                    dsimp only at hno hq
                    have g := (px_gd B n hn f 2 (o + 1) _ r r2 k2 (by omega) (by omega) hp).1 (by omega)
                    have hb2 := blk_le (B := B) g.1.2
                    refine Call_mono (show dp 2 (o + 1) ≤ m + 11 by unfold dp at hm ⊢; omega) ((ih 2 (o + 1) _ r (by omega) (by omega) (by rw [hp]; simp)).2.2.1 rfl _ _ _ hS2 ?_)
                    intro M1 v1 h1
                    rw [hp] at h1
                    obtain ⟨a1, a2, a3, a4⟩ := h1
                    obtain ⟨E1, E2, E3⟩ := fs_env F0
                    rw [E1, E2, E3] at a4
                    rw [KV_eq, bMo_unit_84, m_sign a2.1 a2.2.1 (a2.bd hn)]
                    by_cases h41 : byt B n (blk B n k2) = 41
                    · have hlt2 := byt_ne (B := B) (n := n) (k := blk B n k2) (by omega)
                      have y2 := a2.at (k' := blk B n k2 + 1) (by omega)
                      have y3 := y2.op (o' := o)
                      rw [if_pos h41] at hq ⊢
                      rw [KU_eq, bMo_unit_88, y2.2.2.2.2, w32_id (by omega), show (((o + 1 : Nat) : Int) - 1) = ((o : Nat) : Int) by omega]
                      refine hq _ _ ⟨((F0.tr a1).sI (by omega)).sI (by omega), y3, ?_, a4⟩
                      rw [sI_ne (by omega), sI_ne (by omega), a3, sI_ne (by omega), sI_ne (by omega), sI_ne (by omega)]
                    · have y2 : FMx B n 505 1 (blk B n k2 : Int) (o + 1) (wrs (sI M1 10 0 4 ((blk B n k2 : Nat) : Int)) 1 (blk B n k2 : Int)) := FMx.of_wrs (a2.at hb2.2) (by omega)
                      have y3 := y2.op (o' := o)
                      rw [if_neg h41] at hq ⊢
                      rw [KU_eq, bMo_unit_88, y2.2.2.2.2, w32_id (by omega), show (((o + 1 : Nat) : Int) - 1) = ((o : Nat) : Int) by omega]
                      exact hq _ _ ⟨(fs_wrs ((F0.tr a1).sI (by omega))).sI (by omega), y3⟩
              · rw [if_neg h40, if_neg h25, if_neg h26, if_neg h27, if_pos e1] at hno hq
                rw [if_neg h40, bMo_unit_72, hat1, m_wrong, KU_eq, bMo_unit_77]
                exact hq _ _ ⟨fs_wrs (Fs.rf.sI (by omega)), FMx.of_wrs hS1 (by omega)⟩
    | 1, hno =>
      refine ⟨by omega, fun _ => ?_, by omega, by omega, by omega, by omega, by omega, by omega, by omega, by omega⟩
      rw [px_1] at hno ⊢
      intro M Q X hS hq
      obtain ⟨m, hm⟩ : ∃ m, dp 1 o = m + 13 := ⟨dp 1 o - 13, by unfold dp; omega⟩
      rw [hm, eMo_product, bMo_product_0]
      cases hp : px B n f 0 o k r with
      | inl e =>
        rw [hp] at hno hq
        have he := px_f B n f _ _ _ _ _ hp
        refine Call_mono (show dp 0 o ≤ m + 12 by unfold dp at hm ⊢; omega) ((ih 0 o k r ho hk (by rw [hp]; exact hno)).1 rfl M _ _ hS ?_)
        intro M1 v1 h1
        rw [hp] at h1
        obtain ⟨ee, hkk⟩ := h1.2.bl (d := m + 10) (Q := KU (m + 12) kMo_product 5 [vr 10 0, vi v1] [] Q X) (X := X) (by omega)
        have h2 := h1.2.at hkk
        rw [KV_eq, bMo_product_2, ee, KU_eq, bMo_product_5, if_pos (by rw [h2.2.2.1]; omega), bMo_product_28]
        exact hq _ _ ⟨h1.1.sI (by omega), h2⟩
      | inr x =>
        obtain ⟨r2, k2⟩ := x
        rw [hp] at hno hq
        have g := (px_gd B n hn f 0 o k r r2 k2 ho hk hp).1 (by omega)
        have g1 := g.1
        have hb2 := blk_le (B := B) g1.2
        refine Call_mono (show dp 0 o ≤ m + 12 by unfold dp at hm ⊢; omega) ((ih 0 o k r ho hk (by rw [hp]; simp)).1 rfl M _ _ hS ?_)
        intro M1 v1 h1
        rw [hp] at h1
        obtain ⟨a1, a2, a3, a4⟩ := h1
        obtain ⟨E1, E2, E3⟩ := fs_env a1
        have hS2 := a2.at hb2.2
        rw [KV_eq, bMo_product_2, m_blanks a2.1 a2.2.1 (a2.bd hn), KU_eq]
        refine At_mono (show dp 1 o - 1 ≤ m + 12 by omega) ((ih 6 o k2 r2 ho g1.2 hno).2.2.2.2.2.2.1 rfl _ Q X v1 hS2 ?_ ?_)
        · rw [sI_ne (by omega), sI_ne (by omega), sI_ne (by omega), E1, E2, E3]; exact a4
        · intro M2 v2 h2
          exact hq M2 v2 (h2.tr (a1.sI (by omega)) (by rw [sI_ne (by omega)]; exact a3))
    | 2, hno =>
      refine ⟨by omega, by omega, fun _ => ?_, by omega, by omega, by omega, by omega, by omega, by omega, by omega⟩
      rw [px_2] at hno ⊢
      intro M Q X hS hq
      obtain ⟨m, hm⟩ : ∃ m, dp 2 o = m + 13 := ⟨dp 2 o - 13, by unfold dp; omega⟩
      rw [hm, eMo_sum, bMo_sum_0]
      cases hp : px B n f 1 o k r with
      | inl e =>
        rw [hp] at hno hq
        have he := px_f B n f _ _ _ _ _ hp
        refine Call_mono (show dp 1 o ≤ m + 12 by unfold dp at hm ⊢; omega) ((ih 1 o k r ho hk (by rw [hp]; exact hno)).2.1 rfl M _ _ hS ?_)
        intro M1 v1 h1
        rw [hp] at h1
        obtain ⟨ee, hkk⟩ := h1.2.bl (d := m + 10) (Q := KU (m + 12) kMo_sum 5 [vr 10 0, vi v1, JK, JK] [] Q X) (X := X) (by omega)
        have h2 := h1.2.at hkk
        rw [KV_eq, bMo_sum_2, ee, KU_eq, bMo_sum_5, if_pos (by rw [h2.2.2.1]; omega), bMo_sum_48]
        exact hq _ _ ⟨h1.1.sI (by omega), h2⟩
      | inr x =>
        obtain ⟨r2, k2⟩ := x
        rw [hp] at hno hq
        have g := (px_gd B n hn f 1 o k r r2 k2 ho hk hp).1 (by omega)
        have g1 := g.1
        have hb2 := blk_le (B := B) g1.2
        refine Call_mono (show dp 1 o ≤ m + 12 by unfold dp at hm ⊢; omega) ((ih 1 o k r ho hk (by rw [hp]; simp)).2.1 rfl M _ _ hS ?_)
        intro M1 v1 h1
        rw [hp] at h1
        obtain ⟨a1, a2, a3, a4⟩ := h1
        obtain ⟨E1, E2, E3⟩ := fs_env a1
        have hS2 := a2.at hb2.2
        rw [KV_eq, bMo_sum_2, m_blanks a2.1 a2.2.1 (a2.bd hn), KU_eq]
        refine At_mono (show dp 2 o - 1 ≤ m + 12 by omega) ((ih 7 o k2 r2 ho g1.2 hno).2.2.2.2.2.2.2.1 rfl _ Q X v1 _ _ hS2 ?_ ?_)
        · rw [sI_ne (by omega), sI_ne (by omega), sI_ne (by omega), E1, E2, E3]; exact a4
        · intro M2 v2 h2
          exact hq M2 v2 (h2.tr (a1.sI (by omega)) (by rw [sI_ne (by omega)]; exact a3))
    | 3, hno =>
      refine ⟨by omega, by omega, by omega, fun _ => ?_, by omega, by omega, by omega, by omega, by omega, by omega⟩
      intro M Q X hS hq
      obtain ⟨m, hm⟩ : ∃ m, dp 3 o = m + 15 := ⟨dp 3 o - 15, by unfold dp; omega⟩
      have hS1 := hS.at hb.2
      have hat1 : (sI M 10 0 4 ((blk B n k : Nat) : Int)).1 10 0 4 = ((blk B n k : Nat) : Int) := sI_eq
      rw [px_3] at hno hq
      rw [hm, eMo_test, bMo_test_0, if_pos hS.2.2.2.1, bMo_test_5, m_isWord (r := 24) (by omega) wNot hS.1 hS.2.1 (hS.bd hn), KV_eq, bMo_test_13]
      by_cases h24 : isW B n (blk B n k) (wd 24)
      · have hwl := isW_len h24 hb.2
        rw [if_pos h24] at hno hq
        rw [if_pos h24, if_neg (by omega), bMo_test_14, show (3 : Int) = ((3 : Nat) : Int) from rfl, m_opens hS1 ho (by omega) hn, KU_eq, bMo_test_17]
        by_cases ho6 : o = 6
        · rw [if_pos (by omega)] at hno hq
          rw [if_pos ho6]
          have x0 : FMx B n 515 3 (blk B n k : Int) o (wrs (sI M 10 0 4 ((blk B n k : Nat) : Int)) 3 (blk B n k : Int)) := FMx.of_wrs hS1 (by omega)
          have x1 := (x0.op (o' := o + 1)).at (k := blk B n k + 3) (by omega)
          refine Call_mono (show 1 ≤ m + 14 by omega) (fm_test (d := 0) (by omega) x1 ?_)
          have y3 := x1.op (o' := o)
          rw [KV_eq, bMo_test_19, if_neg (by simp), bMo_test_20, bMo_test_23, x1.2.2.2.2, w32_id (by omega), show (((o + 1 : Nat) : Int) - 1) = ((o : Nat) : Int) by omega]
          exact hq _ _ ⟨(((fs_wrs (Fs.rf.sI (by omega))).sI (by omega)).sI (by omega)).sI (by omega), y3⟩
        · rw [if_neg (by omega)] at hno hq
          rw [if_neg ho6]
          have hS2 := (hS1.op (o' := o + 1)).at (k' := blk B n k + 3) (by omega)
          have F0 : Fs pMr M (sI (sI (sI M 10 0 4 ((blk B n k : Nat) : Int)) 10 0 5 ((o + 1 : Nat) : Int)) 10 0 4 ((blk B n k + 3 : Nat) : Int)) := ((Fs.rf.sI (by omega)).sI (by omega)).sI (by omega)
          cases hp : px B n f 3 (o + 1) (blk B n k + 3) r with
          | inl e =>
            rw [hp] at hno hq
            have he := px_f B n f _ _ _ _ _ hp
            refine Call_mono (show dp 3 (o + 1) ≤ m + 14 by unfold dp at hm ⊢; omega) ((ih 3 (o + 1) _ r (by omega) (by omega) (by rw [hp]; exact hno)).2.2.2.1 rfl _ _ _ hS2 ?_)
            intro M1 v1 h1
            rw [hp] at h1
            have y2 := h1.2
            have y3 := y2.op (o' := o)
            have fin : ∀ u, At (m + 14) kMo_test 23 [vr 10 0, JK, JK, JK] [vi u] M1 Q X := by
              intro u
              rw [bMo_test_23, y2.2.2.2.2, w32_id (by omega), show (((o + 1 : Nat) : Int) - 1) = ((o : Nat) : Int) by omega]
              exact hq _ _ ⟨(F0.tr h1.1).sI (by omega), y3⟩
            rw [KV_eq, bMo_test_19, bMo_test_20, bMo_test_22]
            split
            · exact fin _
            · exact fin _
          | inr y =>
            obtain ⟨r2, k2⟩ := y
            rw [hp] at hno hq
            dsimp only at hno hq
            have g := (px_gd B n hn f 3 (o + 1) _ r r2 k2 (by omega) (by omega) hp).1 (by omega)
            refine Call_mono (show dp 3 (o + 1) ≤ m + 14 by unfold dp at hm ⊢; omega) ((ih 3 (o + 1) _ r (by omega) (by omega) (by rw [hp]; simp)).2.2.2.1 rfl _ _ _ hS2 ?_)
            intro M1 v1 h1
            rw [hp] at h1
            obtain ⟨a1, a2, a3, a4⟩ := h1
            obtain ⟨E1, E2, E3⟩ := fs_env F0
            rw [E1, E2, E3] at a4
            have v01 : v1 = 0 ∨ v1 = 1 := by rw [a4]; exact g.2.2.2.2.1 (by omega) _ _ _
            have y3 := a2.op (o' := o)
            have fin : ∀ u, u % 2 = w32 (1 - v1) → At (m + 14) kMo_test 23 [vr 10 0, JK, JK, JK] [vi u] M1 Q X := by
              intro u hu
              rw [bMo_test_23, a2.2.2.2.2, w32_id (z := ((o + 1 : Nat) : Int) - 1) (by omega), show (((o + 1 : Nat) : Int) - 1) = ((o : Nat) : Int) by omega]
              refine hq _ _ ⟨(F0.tr a1).sI (by omega), y3, ?_, ?_⟩
              · rw [sI_ne (by omega), a3, sI_ne (by omega), sI_ne (by omega), sI_ne (by omega)]
              · show _ = w32 (1 - r2.2 _ _ _)
                rw [hu, ← a4]
            rw [KV_eq, bMo_test_19, bMo_test_20, bMo_test_22]
            rcases v01 with q | q <;> rw [q] at fin ⊢
            · rw [if_neg (by simp)]; exact fin 1 (by decide)
            · rw [if_pos (by omega)]; exact fin 0 (by decide)
      · rw [if_neg h24] at hno hq
        rw [if_neg h24, if_pos rfl, bMo_test_32, hat1, m_byteAt hS1.1, KV_eq, bMo_test_36]
        by_cases h91 : byt B n (blk B n k) = 91
        · have hlt := byt_ne (B := B) (n := n) (k := blk B n k) (by omega)
          rw [if_pos h91] at hno hq
          rw [if_neg (by omega), bMo_test_38, show (1 : Int) = ((1 : Nat) : Int) from rfl, m_opens hS1 ho (by omega) hn, KU_eq, bMo_test_41]
          by_cases ho6 : o = 6
          · rw [if_pos (by omega)] at hno hq
            rw [if_pos ho6]
            have x0 : FMx B n 515 3 (blk B n k : Int) o (wrs (sI M 10 0 4 ((blk B n k : Nat) : Int)) 3 (blk B n k : Int)) := FMx.of_wrs hS1 (by omega)
            have x1 := (x0.op (o' := o + 1)).at (k := blk B n k + 1) (by omega)
            refine Call_mono (show 3 ≤ m + 14 by omega) (fm_ors (d := 0) (by omega) x1 ?_)
            rw [KV_eq, bMo_test_43]
            refine fm_sign (by omega) x1 (by omega) (by omega) ?_
            intro M2 f2 y2
            have y3 := y2.op (o' := o)
            rw [KU_eq, bMo_test_47, y2.2.2.2.2, w32_id (by omega), show (((o + 1 : Nat) : Int) - 1) = ((o : Nat) : Int) by omega]
            exact hq _ _ ⟨((((fs_wrs (Fs.rf.sI (by omega))).sI (by omega)).sI (by omega)).tr f2).sI (by omega), y3⟩
          · rw [if_neg (by omega)] at hno hq
            rw [if_neg ho6]
            have hS2 := (hS1.op (o' := o + 1)).at (k' := blk B n k + 1) (by omega)
            have F0 : Fs pMr M (sI (sI (sI M 10 0 4 ((blk B n k : Nat) : Int)) 10 0 5 ((o + 1 : Nat) : Int)) 10 0 4 ((blk B n k + 1 : Nat) : Int)) := ((Fs.rf.sI (by omega)).sI (by omega)).sI (by omega)
            cases hp : px B n f 5 (o + 1) (blk B n k + 1) r with
            | inl e =>
              rw [hp] at hno hq
              have he := px_f B n f _ _ _ _ _ hp
              refine Call_mono (show dp 5 (o + 1) ≤ m + 14 by unfold dp at hm ⊢; omega) ((ih 5 (o + 1) _ r (by omega) (by omega) (by rw [hp]; exact hno)).2.2.2.2.2.1 rfl _ _ _ hS2 ?_)
              intro M1 v1 h1
              rw [hp] at h1
              rw [KV_eq, bMo_test_43]
              refine fm_sign (by omega) h1.2 (by omega) (by omega) ?_
              intro M2 f2 y2
              have y3 := y2.op (o' := o)
              rw [KU_eq, bMo_test_47, y2.2.2.2.2, w32_id (by omega), show (((o + 1 : Nat) : Int) - 1) = ((o : Nat) : Int) by omega]
              exact hq _ _ ⟨((F0.tr h1.1).tr f2).sI (by omega), y3⟩
            | inr y =>
              obtain ⟨r2, k2⟩ := y
              rw [hp] at hno hq
              dsimp only at hno hq
              have g := (px_gd B n hn f 5 (o + 1) _ r r2 k2 (by omega) (by omega) hp).1 (by omega)
              have hb2 := blk_le (B := B) g.1.2
              refine Call_mono (show dp 5 (o + 1) ≤ m + 14 by unfold dp at hm ⊢; omega) ((ih 5 (o + 1) _ r (by omega) (by omega) (by rw [hp]; simp)).2.2.2.2.2.1 rfl _ _ _ hS2 ?_)
              intro M1 v1 h1
              rw [hp] at h1
              obtain ⟨a1, a2, a3, a4⟩ := h1
              obtain ⟨E1, E2, E3⟩ := fs_env F0
              rw [E1, E2, E3] at a4
              have v01 : v1 = 0 ∨ v1 = 1 := by rw [a4]; exact g.2.2.2.2.1 (by omega) _ _ _
              rw [KV_eq, bMo_test_43, m_sign a2.1 a2.2.1 (a2.bd hn)]
              by_cases h93 : byt B n (blk B n k2) = 93
              · have hlt2 := byt_ne (B := B) (n := n) (k := blk B n k2) (by omega)
                have y2 := a2.at (k' := blk B n k2 + 1) (by omega)
                have y3 := y2.op (o' := o)
                rw [if_pos h93] at hq ⊢
                rw [KU_eq, bMo_test_47, y2.2.2.2.2, w32_id (by omega), show (((o + 1 : Nat) : Int) - 1) = ((o : Nat) : Int) by omega]
                refine hq _ _ ⟨((F0.tr a1).sI (by omega)).sI (by omega), y3, ?_, ?_⟩
                · rw [sI_ne (by omega), sI_ne (by omega), a3, sI_ne (by omega), sI_ne (by omega), sI_ne (by omega)]
                · rw [show v1 % 2 = v1 by omega]; exact a4
              · have y2 : FMx B n 515 1 (blk B n k2 : Int) (o + 1) (wrs (sI M1 10 0 4 ((blk B n k2 : Nat) : Int)) 1 (blk B n k2 : Int)) := FMx.of_wrs (a2.at hb2.2) (by omega)
                have y3 := y2.op (o' := o)
                rw [if_neg h93] at hq ⊢
                rw [KU_eq, bMo_test_47, y2.2.2.2.2, w32_id (by omega), show (((o + 1 : Nat) : Int) - 1) = ((o : Nat) : Int) by omega]
                exact hq _ _ ⟨(fs_wrs ((F0.tr a1).sI (by omega))).sI (by omega), y3⟩
        · rw [if_neg h91] at hno hq
          rw [if_pos h91, bMo_test_55]
          have hbl : px B n f 2 o (blk B n k) r = px B n f 2 o k r := px_bl2 f o k r
          have fin87 : ∀ (M' : Mem) (x1 x2 x3 : Int) (z : AV), (∀ v, Q (vi v) M') → At (m + 14) kMo_test 87 [vr 10 0, vi x1, vi x2, z] [vi x3] M' Q X := by
            intro M' x1 x2 x3 z hQ
            rw [bMo_test_87, bMo_test_91, bMo_test_94, bMo_test_96, bMo_test_98, bMo_test_101, bMo_test_104, bMo_test_106, bMo_test_108, bMo_test_111, bMo_test_113, bMo_test_114, bMo_test_114]
            repeat' split
            all_goals exact hQ _
          -- behind a fault the rest of the test runs dry
          have dry : ∀ (M1 : Mem) (a b x1 x2 : Int) (z : AV), a ≠ 0 → Fs pMr M M1 → FMx B n 505 a b o M1 → (∀ M' v, Fs pMr M M' → FMx B n 515 a b o M' → Q (vi v) M') → At (m + 14) kMo_test 79 [vr 10 0, vi x1, vi x2, z] [] M1 Q X := by
            intro M1 a b x1 x2 z ha F1 y1 hQ
            obtain ⟨k5, q1, q2⟩ := y1.2.1
            have y2 := (y1.up (c' := 515) (by omega)).at (k := k5 + 1) (by omega)
            rw [bMo_test_79, q1, w32_id (by omega), show (k5 : Int) + 1 = ((k5 + 1 : Nat) : Int) by omega]
            refine Call_mono (show 4 ≤ m + 14 by omega) (fm_sum (d := 0) ha y2 (by omega) ?_)
            intro M2 f2 y3
            rw [KV_eq]
            refine fin87 _ _ _ _ _ (fun v => hQ _ _ ((F1.sI (by omega)).tr f2) y3)
          cases hp : px B n f 2 o k r with
          | inl e =>
            rw [hp] at hno hq
            have he := px_f B n f _ _ _ _ _ hp
            refine Call_mono (show dp 2 o ≤ m + 14 by unfold dp at hm ⊢; omega) ((ih 2 o (blk B n k) r ho hb.2 (by rw [hbl, hp]; exact hno)).2.2.1 rfl _ _ _ hS1 ?_)
            intro M1 v1 h1
            rw [hbl, hp] at h1
            obtain ⟨ee, hkk⟩ := h1.2.bl (d := m + 12) (Q := KU (m + 14) kMo_test 60 [vr 10 0, vi v1, JK, JK] [] Q X) (X := X) (by omega)
            have h2 := h1.2.at hkk
            have F2 : Fs pMr M (sI M1 10 0 4 ((blk B n (M1.1 10 0 4).toNat : Nat) : Int)) := ((Fs.rf.sI (by omega)).tr h1.1).sI (by omega)
            have hd := fun (x2 : Int) (z : AV) => dry _ e.1 e.2 v1 x2 z (by omega) F2 h2 (fun M' v f' y' => hq M' v ⟨f', y'⟩)
            rw [KV_eq, bMo_test_57, ee, KU_eq, bMo_test_60, sI_eq, m_byteAt h2.1, KV_eq, bMo_test_64, bMo_test_68, bMo_test_71, bMo_test_74, m_wrong, KU_eq, wrs_no (by rw [h2.2.2.1]; omega)]
            repeat' split
            all_goals exact hd _ _
          | inr y =>
            obtain ⟨r2, k2⟩ := y
            rw [hp] at hno hq
            dsimp only at hno hq
            have g := (px_gd B n hn f 2 o k r r2 k2 ho hk hp).1 (by omega)
            have g1 := g.1
            have hb2 := blk_le (B := B) g1.2
            refine Call_mono (show dp 2 o ≤ m + 14 by unfold dp at hm ⊢; omega) ((ih 2 o (blk B n k) r ho hb.2 (by rw [hbl, hp]; simp)).2.2.1 rfl _ _ _ hS1 ?_)
            intro M1 v1 h1
            rw [hbl, hp] at h1
            obtain ⟨a1, a2, a3, a4⟩ := h1
            rw [sI_ne (by omega), sI_ne (by omega), sI_ne (by omega)] at a4
            have hS3 := a2.at hb2.2
            have F2 : Fs pMr M (sI M1 10 0 4 ((blk B n k2 : Nat) : Int)) := ((Fs.rf.sI (by omega)).tr a1).sI (by omega)
            rw [KV_eq, bMo_test_57, m_blanks a2.1 a2.2.1 (a2.bd hn), KU_eq, bMo_test_60, sI_eq, m_byteAt hS3.1, KV_eq, bMo_test_64, bMo_test_68, bMo_test_71, bMo_test_74, sI_eq, m_wrong, KU_eq]
            by_cases hrel : byt B n (blk B n k2) = 60 ∨ byt B n (blk B n k2) = 62 ∨ byt B n (blk B n k2) = 61
            · have hlt2 := byt_ne (B := B) (n := n) (k := blk B n k2) (by omega)
              rw [if_pos hrel] at hno hq
              have hS4 := a2.at (k' := blk B n k2 + 1) (by omega)
              have main : ∀ z, At (m + 14) kMo_test 79 [vr 10 0, vi v1, vi (byt B n (blk B n k2)), z] [] (sI M1 10 0 4 ((blk B n k2 : Nat) : Int)) Q X := by
                intro z
                rw [bMo_test_79, sI_eq, w32_id (by omega), show ((blk B n k2 : Nat) : Int) + 1 = ((blk B n k2 + 1 : Nat) : Int) by omega, sI_sI]
                cases hp2 : px B n f 2 o (blk B n k2 + 1) r with
                | inl e =>
                  rw [hp2] at hno hq
                  have he := px_f B n f _ _ _ _ _ hp2
                  refine Call_mono (show dp 2 o ≤ m + 14 by unfold dp at hm ⊢; omega) ((ih 2 o _ r ho (by omega) (by rw [hp2]; exact hno)).2.2.1 rfl _ _ _ hS4 ?_)
                  intro M3 v3 h3
                  rw [hp2] at h3
                  rw [KV_eq]
                  exact fin87 _ _ _ _ _ (fun v => hq _ _ ⟨(((Fs.rf.sI (by omega)).tr a1).sI (by omega)).tr h3.1, h3.2.up (by omega)⟩)
                | inr y =>
                  obtain ⟨r3, k3⟩ := y
                  rw [hp2] at hno hq
                  dsimp only at hno hq
                  refine Call_mono (show dp 2 o ≤ m + 14 by unfold dp at hm ⊢; omega) ((ih 2 o _ r ho (by omega) (by rw [hp2]; simp)).2.2.1 rfl _ _ _ hS4 ?_)
                  intro M3 v3 h3
                  rw [hp2] at h3
                  obtain ⟨b1, b2, b3, b4⟩ := h3
                  have F3 : Fs pMr M (sI M1 10 0 4 ((blk B n k2 + 1 : Nat) : Int)) := ((Fs.rf.sI (by omega)).tr a1).sI (by omega)
                  obtain ⟨E1, E2, E3⟩ := fs_env F3
                  rw [E1, E2, E3] at b4
                  have hQ : ∀ v, v = wrk (rel (byt B n (blk B n k2))) v1 v3 → Q (vi v) M3 := by
                    intro v hv
                    refine hq _ _ ⟨F3.tr b1, b2, ?_, ?_⟩
                    · rw [b3, sI_ne (by omega), a3, sI_ne (by omega)]
                    · show _ = wrk _ (r2.2 _ _ _) (r3.2 _ _ _)
                      rw [hv, ← a4, ← b4]
                  rw [KV_eq, bMo_test_87, bMo_test_91, bMo_test_94, bMo_test_96, bMo_test_98, bMo_test_101, bMo_test_104, bMo_test_106, bMo_test_108, bMo_test_111, bMo_test_113, bMo_test_114, bMo_test_114]
                  unfold rel at hQ
                  repeat' split
                  all_goals
                    refine hQ _ ?_
                    unfold wrk
                    clear hq hno dry fin87 hQ
                    first | (simp_all; done) | (simp_all; omega) | (simp [*] at *; omega)
              repeat' split
              all_goals first | exact main _ | (exfalso; omega)
            · rw [if_neg hrel] at hno hq
              have y2 : FMx B n 505 1 (blk B n k2 : Int) o (wrs (sI M1 10 0 4 ((blk B n k2 : Nat) : Int)) 1 (blk B n k2 : Int)) := FMx.of_wrs hS3 (by omega)
              have hd := fun (x2 : Int) (z : AV) => dry _ 1 (blk B n k2 : Int) v1 x2 z (by omega) (fs_wrs F2) y2 (fun M' v f' y' => hq M' v ⟨f', y'⟩)
              rw [if_neg (fun z => hrel (Or.inl z)), if_neg (fun z => hrel (Or.inr (Or.inl z))), if_neg (fun z => hrel (Or.inr (Or.inr z)))]
              exact hd _ _
    | 4, hno =>
      refine ⟨by omega, by omega, by omega, by omega, fun _ => ?_, by omega, by omega, by omega, by omega, by omega⟩
      rw [px_4] at hno ⊢
      intro M Q X hS hq
      obtain ⟨m, hm⟩ : ∃ m, dp 4 o = m + 13 := ⟨dp 4 o - 13, by unfold dp; omega⟩
      rw [hm, eMo_ands, bMo_ands_0]
      cases hp : px B n f 3 o k r with
      | inl e =>
        rw [hp] at hno hq
        have he := px_f B n f _ _ _ _ _ hp
        refine Call_mono (show dp 3 o ≤ m + 12 by unfold dp at hm ⊢; omega) ((ih 3 o k r ho hk (by rw [hp]; exact hno)).2.2.2.1 rfl M _ _ hS ?_)
        intro M1 v1 h1
        rw [hp] at h1
        rw [KV_eq, bMo_ands_2, bMo_ands_3, if_pos (by rw [h1.2.2.2.1]; omega), bMo_ands_29]
        exact hq _ _ ⟨h1.1, h1.2⟩
      | inr x =>
        obtain ⟨r2, k2⟩ := x
        rw [hp] at hno hq
        have g := (px_gd B n hn f 3 o k r r2 k2 ho hk hp).1 (by omega)
        have g1 := g.1
        refine Call_mono (show dp 3 o ≤ m + 12 by unfold dp at hm ⊢; omega) ((ih 3 o k r ho hk (by rw [hp]; simp)).2.2.2.1 rfl M _ _ hS ?_)
        intro M1 v1 h1
        rw [hp] at h1
        obtain ⟨a1, a2, a3, a4⟩ := h1
        obtain ⟨E1, E2, E3⟩ := fs_env a1
        rw [KV_eq, bMo_ands_2]
        refine At_mono (show dp 4 o - 1 ≤ m + 12 by omega) ((ih 8 o k2 r2 ho g1.2 hno).2.2.2.2.2.2.2.2.1 rfl _ Q X v1 _ a2 (by rw [E1, E2, E3]; exact a4) (by rw [a4]; exact g.2.2.2.2.1 (by omega) _ _ _) ?_)
        intro M2 v2 h2
        exact hq M2 v2 (h2.tr a1 a3)
    | 5, hno =>
      refine ⟨by omega, by omega, by omega, by omega, by omega, fun _ => ?_, by omega, by omega, by omega, by omega⟩
      rw [px_5] at hno ⊢
      intro M Q X hS hq
      obtain ⟨m, hm⟩ : ∃ m, dp 5 o = m + 13 := ⟨dp 5 o - 13, by unfold dp; omega⟩
      rw [hm, eMo_ors, bMo_ors_0]
      cases hp : px B n f 4 o k r with
      | inl e =>
        rw [hp] at hno hq
        have he := px_f B n f _ _ _ _ _ hp
        refine Call_mono (show dp 4 o ≤ m + 12 by unfold dp at hm ⊢; omega) ((ih 4 o k r ho hk (by rw [hp]; exact hno)).2.2.2.2.1 rfl M _ _ hS ?_)
        intro M1 v1 h1
        rw [hp] at h1
        rw [KV_eq, bMo_ors_2, bMo_ors_3, if_pos (by rw [h1.2.2.2.1]; omega), bMo_ors_29]
        exact hq _ _ ⟨h1.1, h1.2⟩
      | inr x =>
        obtain ⟨r2, k2⟩ := x
        rw [hp] at hno hq
        have g := (px_gd B n hn f 4 o k r r2 k2 ho hk hp).1 (by omega)
        have g1 := g.1
        refine Call_mono (show dp 4 o ≤ m + 12 by unfold dp at hm ⊢; omega) ((ih 4 o k r ho hk (by rw [hp]; simp)).2.2.2.2.1 rfl M _ _ hS ?_)
        intro M1 v1 h1
        rw [hp] at h1
        obtain ⟨a1, a2, a3, a4⟩ := h1
        obtain ⟨E1, E2, E3⟩ := fs_env a1
        rw [KV_eq, bMo_ors_2]
        refine At_mono (show dp 5 o - 1 ≤ m + 12 by omega) ((ih 9 o k2 r2 ho g1.2 hno).2.2.2.2.2.2.2.2.2 rfl _ Q X v1 _ a2 (by rw [E1, E2, E3]; exact a4) (by rw [a4]; exact g.2.2.2.2.1 (by omega) _ _ _) ?_)
        intro M2 v2 h2
        exact hq M2 v2 (h2.tr a1 a3)
    | 6, hno =>
      refine ⟨by omega, by omega, by omega, by omega, by omega, by omega, fun _ => ?_, by omega, by omega, by omega⟩
      rw [px_6] at hno ⊢
      intro M Q X x hS hx hq
      obtain ⟨m, hm⟩ : ∃ m, dp 1 o = m + 13 := ⟨dp 1 o - 13, by unfold dp; omega⟩
      rw [show dp 1 o - 1 = m + 12 by omega, bMo_product_5, if_neg (by rw [hS.2.2.2.1]; simp), bMo_product_8, hS.2.1, m_byteAt hS.1, KV_eq, bMo_product_12]
      by_cases hc : byt B n (blk B n k) = 42
      · have hlt := byt_ne (B := B) (n := n) (k := blk B n k) (by omega)
        have hS2 := hS.at (k' := blk B n k + 1) (by omega)
        rw [if_pos hc] at hno hq
        rw [if_neg (by omega), bMo_product_14, hS.2.1, w32_id (by omega), show ((blk B n k : Nat) : Int) + 1 = ((blk B n k + 1 : Nat) : Int) by omega]
        cases hp : px B n f 0 o (blk B n k + 1) r with
        | inl e =>
          rw [hp] at hno hq
          have he := px_f B n f _ _ _ _ _ hp
          refine Call_mono (show dp 0 o ≤ m + 12 by unfold dp at hm ⊢; omega) ((ih 0 o _ r ho (by omega) (by rw [hp]; exact hno)).1 rfl _ _ _ hS2 ?_)
          intro M1 v1 h1
          rw [hp] at h1
          obtain ⟨ee, hkk⟩ := h1.2.bl (d := m + 10) (Q := KU (m + 12) kMo_product 27 [vr 10 0, vi (w32 (x * v1))] [] Q X) (X := X) (by omega)
          have h2 := h1.2.at hkk
          rw [KV_eq, bMo_product_23, ee, KU_eq, bMo_product_27, bMo_product_5, if_pos (by rw [h2.2.2.1]; omega), bMo_product_28]
          exact hq _ _ ⟨((Fs.rf.sI (by omega)).tr h1.1).sI (by omega), h2⟩
        | inr y =>
          obtain ⟨r2, k2⟩ := y
          rw [hp] at hno hq
          have g := (px_gd B n hn f 0 o _ r r2 k2 ho (by omega) hp).1 (by omega)
          have g1 := g.1
          have hb2 := blk_le (B := B) g1.2
          refine Call_mono (show dp 0 o ≤ m + 12 by unfold dp at hm ⊢; omega) ((ih 0 o _ r ho (by omega) (by rw [hp]; simp)).1 rfl _ _ _ hS2 ?_)
          intro M1 v1 h1
          rw [hp] at h1
          obtain ⟨a1, a2, a3, a4⟩ := h1
          have F0 : Fs pMr M M1 := (Fs.rf.sI (by omega)).tr a1
          obtain ⟨E1, E2, E3⟩ := fs_env F0
          rw [sI_ne (by omega), sI_ne (by omega), sI_ne (by omega)] at a4
          have hS3 := a2.at hb2.2
          rw [KV_eq, bMo_product_23, m_blanks a2.1 a2.2.1 (a2.bd hn), KU_eq, bMo_product_27]
          refine At_mono (show dp 1 o - 1 ≤ m + 12 by omega) ((ih 6 o k2 _ ho g1.2 hno).2.2.2.2.2.2.1 rfl _ Q X _ hS3 ?_ ?_)
          · rw [sI_ne (by omega), sI_ne (by omega), sI_ne (by omega), E1, E2, E3]
            show _ = wrk (-6) (r.2 _ _ _) (r2.2 _ _ _)
            rw [wrk6, ← hx, ← a4]
          · intro M2 v2 h2
            refine hq M2 v2 (h2.tr (F0.sI (by omega)) ?_)
            rw [sI_ne (by omega), a3, sI_ne (by omega)]
      · rw [if_neg hc] at hno hq
        rw [if_pos hc, bMo_product_28]
        exact hq _ _ ⟨Fs.rf, hS, rfl, hx⟩
    | 7, hno =>
      refine ⟨by omega, by omega, by omega, by omega, by omega, by omega, by omega, fun _ => ?_, by omega, by omega⟩
      rw [px_7] at hno ⊢
      intro M Q X x z2 z3 hS hx hq
      obtain ⟨m, hm⟩ : ∃ m, dp 2 o = m + 13 := ⟨dp 2 o - 13, by unfold dp; omega⟩
      rw [show dp 2 o - 1 = m + 12 by omega, bMo_sum_5, if_neg (by rw [hS.2.2.2.1]; simp), bMo_sum_8, hS.2.1, m_byteAt hS.1, KV_eq, bMo_sum_12]
      by_cases hc : byt B n (blk B n k) = 43
      · rw [if_pos hc] at hno hq
        rw [if_pos hc]
        have hlt := byt_ne (B := B) (n := n) (k := blk B n k) (by omega)
        have hS2 := hS.at (k' := blk B n k + 1) (by omega)
        rw [bMo_sum_20, hS.2.1, m_byteAt hS.1, KV_eq, bMo_sum_24, hS.2.1, w32_id (by omega), show ((blk B n k : Nat) : Int) + 1 = ((blk B n k + 1 : Nat) : Int) by omega]
        cases hp : px B n f 1 o (blk B n k + 1) r with
        | inl e =>
          rw [hp] at hno hq
          have he := px_f B n f _ _ _ _ _ hp
          refine Call_mono (show dp 1 o ≤ m + 12 by unfold dp at hm ⊢; omega) ((ih 1 o _ r ho (by omega) (by rw [hp]; exact hno)).2.1 rfl _ _ _ hS2 ?_)
          intro M1 v1 h1
          rw [hp] at h1
          rw [KV_eq, bMo_sum_33, if_neg (by omega), bMo_sum_37]
          obtain ⟨ee, hkk⟩ := h1.2.bl (d := m + 10) (Q := KU (m + 12) kMo_sum 47 [vr 10 0, vi (w32 (x + v1)), vi (byt B n (blk B n k)), vi v1] [] Q X) (X := X) (by omega)
          have h2 := h1.2.at hkk
          rw [bMo_sum_44, ee, KU_eq, bMo_sum_47, bMo_sum_5, if_pos (by rw [h2.2.2.1]; omega), bMo_sum_48]
          exact hq _ _ ⟨((Fs.rf.sI (by omega)).tr h1.1).sI (by omega), h2⟩
        | inr y =>
          obtain ⟨r2, k2⟩ := y
          rw [hp] at hno hq
          have g := (px_gd B n hn f 1 o _ r r2 k2 ho (by omega) hp).1 (by omega)
          have g1 := g.1
          have hb2 := blk_le (B := B) g1.2
          refine Call_mono (show dp 1 o ≤ m + 12 by unfold dp at hm ⊢; omega) ((ih 1 o _ r ho (by omega) (by rw [hp]; simp)).2.1 rfl _ _ _ hS2 ?_)
          intro M1 v1 h1
          rw [hp] at h1
          obtain ⟨a1, a2, a3, a4⟩ := h1
          have F0 : Fs pMr M M1 := (Fs.rf.sI (by omega)).tr a1
          obtain ⟨E1, E2, E3⟩ := fs_env F0
          rw [sI_ne (by omega), sI_ne (by omega), sI_ne (by omega)] at a4
          have hS3 := a2.at hb2.2
          rw [KV_eq, bMo_sum_33, if_neg (by omega), bMo_sum_37, bMo_sum_44, m_blanks a2.1 a2.2.1 (a2.bd hn), KU_eq, bMo_sum_47]
          refine At_mono (show dp 2 o - 1 ≤ m + 12 by omega) ((ih 7 o k2 _ ho g1.2 hno).2.2.2.2.2.2.2.1 rfl _ Q X _ _ _ hS3 ?_ ?_)
          · rw [sI_ne (by omega), sI_ne (by omega), sI_ne (by omega), E1, E2, E3]
            show _ = wrk (-4) (r.2 _ _ _) (r2.2 _ _ _)
            rw [wrk4, ← hx, ← a4]
          · intro M2 v2 h2
            refine hq M2 v2 (h2.tr (F0.sI (by omega)) ?_)
            rw [sI_ne (by omega), a3, sI_ne (by omega)]
      · rw [if_neg hc] at hno hq
        rw [if_neg hc, bMo_sum_14, hS.2.1, m_byteAt hS.1, KV_eq, bMo_sum_18]
        by_cases hc2 : byt B n (blk B n k) = 45
        · rw [if_pos hc2] at hno hq
          rw [if_neg (by omega)]
          have hlt := byt_ne (B := B) (n := n) (k := blk B n k) (by omega)
          have hS2 := hS.at (k' := blk B n k + 1) (by omega)
          rw [bMo_sum_20, hS.2.1, m_byteAt hS.1, KV_eq, bMo_sum_24, hS.2.1, w32_id (by omega), show ((blk B n k : Nat) : Int) + 1 = ((blk B n k + 1 : Nat) : Int) by omega]
          cases hp : px B n f 1 o (blk B n k + 1) r with
          | inl e =>
            rw [hp] at hno hq
            have he := px_f B n f _ _ _ _ _ hp
            refine Call_mono (show dp 1 o ≤ m + 12 by unfold dp at hm ⊢; omega) ((ih 1 o _ r ho (by omega) (by rw [hp]; exact hno)).2.1 rfl _ _ _ hS2 ?_)
            intro M1 v1 h1
            rw [hp] at h1
            rw [KV_eq, bMo_sum_33, if_pos (by omega), bMo_sum_41]
            obtain ⟨ee, hkk⟩ := h1.2.bl (d := m + 10) (Q := KU (m + 12) kMo_sum 47 [vr 10 0, vi (w32 (x - v1)), vi (byt B n (blk B n k)), vi v1] [] Q X) (X := X) (by omega)
            have h2 := h1.2.at hkk
            rw [bMo_sum_44, ee, KU_eq, bMo_sum_47, bMo_sum_5, if_pos (by rw [h2.2.2.1]; omega), bMo_sum_48]
            exact hq _ _ ⟨((Fs.rf.sI (by omega)).tr h1.1).sI (by omega), h2⟩
          | inr y =>
            obtain ⟨r2, k2⟩ := y
            rw [hp] at hno hq
            have g := (px_gd B n hn f 1 o _ r r2 k2 ho (by omega) hp).1 (by omega)
            have g1 := g.1
            have hb2 := blk_le (B := B) g1.2
            refine Call_mono (show dp 1 o ≤ m + 12 by unfold dp at hm ⊢; omega) ((ih 1 o _ r ho (by omega) (by rw [hp]; simp)).2.1 rfl _ _ _ hS2 ?_)
            intro M1 v1 h1
            rw [hp] at h1
            obtain ⟨a1, a2, a3, a4⟩ := h1
            have F0 : Fs pMr M M1 := (Fs.rf.sI (by omega)).tr a1
            obtain ⟨E1, E2, E3⟩ := fs_env F0
            rw [sI_ne (by omega), sI_ne (by omega), sI_ne (by omega)] at a4
            have hS3 := a2.at hb2.2
            rw [KV_eq, bMo_sum_33, if_pos (by omega), bMo_sum_41, bMo_sum_44, m_blanks a2.1 a2.2.1 (a2.bd hn), KU_eq, bMo_sum_47]
            refine At_mono (show dp 2 o - 1 ≤ m + 12 by omega) ((ih 7 o k2 _ ho g1.2 hno).2.2.2.2.2.2.2.1 rfl _ Q X _ _ _ hS3 ?_ ?_)
            · rw [sI_ne (by omega), sI_ne (by omega), sI_ne (by omega), E1, E2, E3]
              show _ = wrk (-5) (r.2 _ _ _) (r2.2 _ _ _)
              rw [wrk5, ← hx, ← a4]
            · intro M2 v2 h2
              refine hq M2 v2 (h2.tr (F0.sI (by omega)) ?_)
              rw [sI_ne (by omega), a3, sI_ne (by omega)]
        · rw [if_neg hc2] at hno hq
          rw [if_pos hc2, bMo_sum_48]
          exact hq _ _ ⟨Fs.rf, hS, rfl, hx⟩
    | 8, hno =>
      refine ⟨by omega, by omega, by omega, by omega, by omega, by omega, by omega, by omega, fun _ => ?_, by omega⟩
      rw [px_8] at hno ⊢
      intro M Q X x z2 hS hx hx01 hq
      have hS1 := hS.at hb.2
      obtain ⟨m, hm⟩ : ∃ m, dp 4 o = m + 13 := ⟨dp 4 o - 13, by unfold dp; omega⟩
      have hx2 : x % 2 = x := by omega
      rw [show dp 4 o - 1 = m + 12 by omega, bMo_ands_3, if_neg (by rw [hS.2.2.2.1]; simp), bMo_ands_6, m_isWord (r := 23) (by omega) wAnd hS.1 hS.2.1 (hS.bd hn), KV_eq, bMo_ands_14]
      by_cases hc : isW B n (blk B n k) (wd 23)
      · have hwl := isW_len hc hb.2
        have hlte : lte B n (blk B n k) = blk B n k + 3 := by rw [hc.1, w23]
        have hS2 := hS.at (k' := blk B n k + 3) (by omega)
        rw [if_pos hc] at hno hq
        rw [if_pos hc, if_neg (by omega), bMo_ands_15, m_skipWord hS1.1 hS1.2.1 (by omega), hlte, sI_sI, KU_eq, bMo_ands_17]
        cases hp : px B n f 3 o (blk B n k + 3) r with
        | inl e =>
          rw [hp] at hno hq
          have he := px_f B n f _ _ _ _ _ hp
          refine Call_mono (show dp 3 o ≤ m + 12 by unfold dp at hm ⊢; omega) ((ih 3 o _ r ho (by omega) (by rw [hp]; exact hno)).2.2.2.1 rfl _ _ _ hS2 ?_)
          intro M1 v1 h1
          rw [hp] at h1
          have fin : ∀ u z, At (m + 12) kMo_ands 27 [vr 10 0, vi x, z] [vi u] M1 Q X := by
            intro u z
            rw [bMo_ands_27, bMo_ands_3, if_pos (by rw [h1.2.2.2.1]; omega), bMo_ands_29]
            exact hq _ _ ⟨(Fs.rf.sI (by omega)).tr h1.1, h1.2⟩
          rw [KV_eq, bMo_ands_19, bMo_ands_22, bMo_ands_24, bMo_ands_26]
          repeat' split
          all_goals exact fin _ _
        | inr y =>
          obtain ⟨r2, k2⟩ := y
          rw [hp] at hno hq
          have g := (px_gd B n hn f 3 o _ r r2 k2 ho (by omega) hp).1 (by omega)
          have g1 := g.1
          refine Call_mono (show dp 3 o ≤ m + 12 by unfold dp at hm ⊢; omega) ((ih 3 o _ r ho (by omega) (by rw [hp]; simp)).2.2.2.1 rfl _ _ _ hS2 ?_)
          intro M1 v1 h1
          rw [hp] at h1
          obtain ⟨a1, a2, a3, a4⟩ := h1
          have F0 : Fs pMr M M1 := (Fs.rf.sI (by omega)).tr a1
          obtain ⟨E1, E2, E3⟩ := fs_env F0
          rw [sI_ne (by omega), sI_ne (by omega), sI_ne (by omega)] at a4
          have v01 : v1 = 0 ∨ v1 = 1 := by rw [a4]; exact g.2.2.2.2.1 (by omega) _ _ _
          have fin : ∀ u z, u = wrk (-10) x v1 → At (m + 12) kMo_ands 27 [vr 10 0, vi x, z] [vi u] M1 Q X := by
            intro u z hu
            rw [bMo_ands_27]
            refine At_mono (show dp 4 o - 1 ≤ m + 12 by omega) ((ih 8 o k2 _ ho g1.2 hno).2.2.2.2.2.2.2.2.1 rfl _ Q X u _ a2 ?_ ?_ ?_)
            · rw [E1, E2, E3]
              show _ = wrk (-10) (r.2 _ _ _) (r2.2 _ _ _)
              rw [hu, ← hx, ← a4]
            · rw [hu]; exact wrkb (by omega) hx01 v01
            · intro M2 v2 h2
              exact hq M2 v2 (h2.tr F0 (by rw [a3, sI_ne (by omega)]))
          rw [KV_eq, bMo_ands_19, bMo_ands_22, bMo_ands_24, bMo_ands_26]
          repeat' split
          all_goals
            refine fin _ _ ?_
            rw [wrkAnd hx01 v01]
            rcases hx01 with rfl | rfl <;> rcases v01 with h9 | h9 <;> simp_all
      · rw [if_neg hc] at hno hq
        rw [if_neg hc, if_pos rfl, bMo_ands_29, hx2]
        exact hq _ _ ⟨Fs.rf.sI (by omega), hS1, sI_ne (by omega), hx⟩
    | 9, hno =>
      refine ⟨by omega, by omega, by omega, by omega, by omega, by omega, by omega, by omega, by omega, fun _ => ?_⟩
      rw [px_9] at hno ⊢
      intro M Q X x z2 hS hx hx01 hq
      have hS1 := hS.at hb.2
      obtain ⟨m, hm⟩ : ∃ m, dp 5 o = m + 13 := ⟨dp 5 o - 13, by unfold dp; omega⟩
      have hx2 : x % 2 = x := by omega
      rw [show dp 5 o - 1 = m + 12 by omega, bMo_ors_3, if_neg (by rw [hS.2.2.2.1]; simp), bMo_ors_6, m_isWord (r := 22) (by omega) wOr hS.1 hS.2.1 (hS.bd hn), KV_eq, bMo_ors_14]
      by_cases hc : isW B n (blk B n k) (wd 22)
      · have hwl := isW_len hc hb.2
        have hlte : lte B n (blk B n k) = blk B n k + 2 := by rw [hc.1, w22]
        have hS2 := hS.at (k' := blk B n k + 2) (by omega)
        rw [if_pos hc] at hno hq
        rw [if_pos hc, if_neg (by omega), bMo_ors_15, m_skipWord hS1.1 hS1.2.1 (by omega), hlte, sI_sI, KU_eq, bMo_ors_17]
        cases hp : px B n f 4 o (blk B n k + 2) r with
        | inl e =>
          rw [hp] at hno hq
          have he := px_f B n f _ _ _ _ _ hp
          refine Call_mono (show dp 4 o ≤ m + 12 by unfold dp at hm ⊢; omega) ((ih 4 o _ r ho (by omega) (by rw [hp]; exact hno)).2.2.2.2.1 rfl _ _ _ hS2 ?_)
          intro M1 v1 h1
          rw [hp] at h1
          have fin : ∀ u z, At (m + 12) kMo_ors 27 [vr 10 0, vi x, z] [vi u] M1 Q X := by
            intro u z
            rw [bMo_ors_27, bMo_ors_3, if_pos (by rw [h1.2.2.2.1]; omega), bMo_ors_29]
            exact hq _ _ ⟨(Fs.rf.sI (by omega)).tr h1.1, h1.2⟩
          rw [KV_eq, bMo_ors_19, bMo_ors_22, bMo_ors_24, bMo_ors_26]
          repeat' split
          all_goals exact fin _ _
        | inr y =>
          obtain ⟨r2, k2⟩ := y
          rw [hp] at hno hq
          have g := (px_gd B n hn f 4 o _ r r2 k2 ho (by omega) hp).1 (by omega)
          have g1 := g.1
          refine Call_mono (show dp 4 o ≤ m + 12 by unfold dp at hm ⊢; omega) ((ih 4 o _ r ho (by omega) (by rw [hp]; simp)).2.2.2.2.1 rfl _ _ _ hS2 ?_)
          intro M1 v1 h1
          rw [hp] at h1
          obtain ⟨a1, a2, a3, a4⟩ := h1
          have F0 : Fs pMr M M1 := (Fs.rf.sI (by omega)).tr a1
          obtain ⟨E1, E2, E3⟩ := fs_env F0
          rw [sI_ne (by omega), sI_ne (by omega), sI_ne (by omega)] at a4
          have v01 : v1 = 0 ∨ v1 = 1 := by rw [a4]; exact g.2.2.2.2.1 (by omega) _ _ _
          have fin : ∀ u z, u = wrk (-11) x v1 → At (m + 12) kMo_ors 27 [vr 10 0, vi x, z] [vi u] M1 Q X := by
            intro u z hu
            rw [bMo_ors_27]
            refine At_mono (show dp 5 o - 1 ≤ m + 12 by omega) ((ih 9 o k2 _ ho g1.2 hno).2.2.2.2.2.2.2.2.2 rfl _ Q X u _ a2 ?_ ?_ ?_)
            · rw [E1, E2, E3]
              show _ = wrk (-11) (r.2 _ _ _) (r2.2 _ _ _)
              rw [hu, ← hx, ← a4]
            · rw [hu]; exact wrkb (by omega) hx01 v01
            · intro M2 v2 h2
              exact hq M2 v2 (h2.tr F0 (by rw [a3, sI_ne (by omega)]))
          rw [KV_eq, bMo_ors_19, bMo_ors_22, bMo_ors_24, bMo_ors_26]
          repeat' split
          all_goals
            refine fin _ _ ?_
            rw [wrkOr hx01 v01]
            rcases hx01 with rfl | rfl <;> rcases v01 with h9 | h9 <;> simp_all
      · rw [if_neg hc] at hno hq
        rw [if_neg hc, if_pos rfl, bMo_ors_29, hx2]
        exact hq _ _ ⟨Fs.rf.sI (by omega), hS1, sI_ne (by omega), hx⟩
    | kd + 10, hno => exact ⟨by omega, by omega, by omega, by omega, by omega, by omega, by omega, by omega, by omega, by omega⟩
