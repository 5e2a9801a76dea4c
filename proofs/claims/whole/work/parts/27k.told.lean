/-! LAYER 3, TOLD, SHOP, FAULT, OFFER, ENTRY -/
def toV (R : RT) (k : Int) : Int := R 4 (k + 1).toNat
def tTo (k : Int) : Int := if 0 ≤ k ∧ k ≤ 6 then 0 else 1
theorem Cur.told {R M} (h : Cur R M) : M.1 10 0 20 = R 4 1 ∧ M.1 10 0 13 = R 4 2 ∧ M.1 10 0 14 = R 4 3 ∧ M.1 10 0 15 = R 4 4 ∧ M.1 10 0 16 = R 4 5 ∧ M.1 10 0 17 = R 4 6 ∧ M.1 10 0 12 = R 4 7 := by
  rcases h with ⟨h1, h2, h3, h4⟩ | ⟨B, n, T, hx, hc⟩
  · exact ⟨by rw [h1, h2], by rw [h3 2 (by omega) (by omega), h4 13 (by omega) (by omega)], by rw [h3 3 (by omega) (by omega), h4 14 (by omega) (by omega)], by rw [h3 4 (by omega) (by omega), h4 15 (by omega) (by omega)], by rw [h3 5 (by omega) (by omega), h4 16 (by omega) (by omega)], by rw [h3 6 (by omega) (by omega), h4 17 (by omega) (by omega)], by rw [h3 7 (by omega) (by omega), h4 12 (by omega) (by omega)]⟩
  · exact ⟨hc.1.1, hc.1.2.1, hc.1.2.2.1, hc.1.2.2.2.1, hc.1.2.2.2.2.1, hc.1.2.2.2.2.2.1, hc.2.2.2.2.2.1⟩
def shV (R : RT) (s k : Int) : Int := if k = 0 then stp R s else if k = 1 then pcs R s else if k ≤ 4 then cst R s (k - 1) else chc R s (k - 4)
def tSh (R : RT) (s k : Int) : Int := if 0 ≤ s ∧ s < R 4 1 then (if 0 ≤ k ∧ k ≤ 7 then 0 else 2) else 1
section
variable {d : Nat} {Q : AV → Mem → Prop} {X : Nat → Mem → Prop}
theorem c_toldC {M : Mem} {k : Int} (hx : tTo k = 1 → X 2 M) (hq : tTo k = 0 → Q (vi (toV (rd M 0) k)) M) : Call (d + 1) qPR_told [vr 9 0, vi k] M Q X := by
  rw [ePR_told, bPR_told_0]
  unfold tTo at hx hq
  by_cases h : 0 ≤ k ∧ k ≤ 6
  · rw [if_pos h] at hq
    have hq := hq rfl
    unfold toV at hq
    rcases (by omega : k = 0 ∨ k = 1 ∨ k = 2 ∨ k = 3 ∨ k = 4 ∨ k = 5 ∨ k = 6) with rfl | rfl | rfl | rfl | rfl | rfl | rfl
    · rw [show tsel 0 6 [27, 6, 9, 12, 15, 18, 21, 24] 0 = 6 from rfl, bPR_told_6]; exact hq
    · rw [show tsel 0 6 [27, 6, 9, 12, 15, 18, 21, 24] 1 = 9 from rfl, bPR_told_9]; exact hq
    · rw [show tsel 0 6 [27, 6, 9, 12, 15, 18, 21, 24] 2 = 12 from rfl, bPR_told_12]; exact hq
    · rw [show tsel 0 6 [27, 6, 9, 12, 15, 18, 21, 24] 3 = 15 from rfl, bPR_told_15]; exact hq
    · rw [show tsel 0 6 [27, 6, 9, 12, 15, 18, 21, 24] 4 = 18 from rfl, bPR_told_18]; exact hq
    · rw [show tsel 0 6 [27, 6, 9, 12, 15, 18, 21, 24] 5 = 21 from rfl, bPR_told_21]; exact hq
    · rw [show tsel 0 6 [27, 6, 9, 12, 15, 18, 21, 24] 6 = 24 from rfl, bPR_told_24]; exact hq
  · rw [if_neg h] at hx
    have e : tsel 0 6 [27, 6, 9, 12, 15, 18, 21, 24] k = 27 := by unfold tsel; rw [if_neg h]; rfl
    rw [e, bPR_told_27]; exact hx rfl
theorem m_told {M : Mem} {R : RT} {k : Int} (hc : Cur R M) (hq : ∀ M' v, MS R M M' → M'.1 10 0 0 = tTo k → (tTo k = 0 → v = toV R k) → Q (vi v) M') : Call (d + 2) qMo_told [vr 10 0, vi k] M Q X := by
  rw [eMo_told, bMo_told_0, m_in, KV_eq, bMo_told_8]
  by_cases h : 0 ≤ k ∧ k ≤ 6
  · rw [if_pos (by rw [if_pos h]; omega), bMo_told_11, bMo_told_12, m_bad0, KV_eq, bMo_told_14, if_pos rfl, bMo_told_17]
    obtain ⟨a0, a1, a2, a3, a4, a5, a6⟩ := hc.told
    have fin := fun v hv => hq (sI M 10 0 0 0) v (MS.t0 hc) (by unfold tTo; rw [if_pos h]; exact sI_eq) hv
    clear hq
    unfold toV at fin
    have nx : ∀ j v, j ≠ 0 → (sI M 10 0 0 v).1 10 0 j = M.1 10 0 j := fun j v hj => sI_ne (by omega)
    rcases (by omega : k = 0 ∨ k = 1 ∨ k = 2 ∨ k = 3 ∨ k = 4 ∨ k = 5 ∨ k = 6) with rfl | rfl | rfl | rfl | rfl | rfl | rfl
    · rw [if_neg (by omega), bMo_told_19, bMo_told_54, nx _ _ (by omega)]; exact fin _ (fun _ => a0)
    · rw [if_pos (by omega), bMo_told_22, if_neg (by omega), bMo_told_25, bMo_told_54, nx _ _ (by omega)]; exact fin _ (fun _ => a1)
    · rw [if_pos (by omega), bMo_told_22, if_pos (by omega), bMo_told_28, if_neg (by omega), bMo_told_31, bMo_told_54, nx _ _ (by omega)]; exact fin _ (fun _ => a2)
    · rw [if_pos (by omega), bMo_told_22, if_pos (by omega), bMo_told_28, if_pos (by omega), bMo_told_34, if_neg (by omega), bMo_told_37, bMo_told_54, nx _ _ (by omega)]; exact fin _ (fun _ => a3)
    · rw [if_pos (by omega), bMo_told_22, if_pos (by omega), bMo_told_28, if_pos (by omega), bMo_told_34, if_pos (by omega), bMo_told_40, if_neg (by omega), bMo_told_43, bMo_told_54, nx _ _ (by omega)]; exact fin _ (fun _ => a4)
    · rw [if_pos (by omega), bMo_told_22, if_pos (by omega), bMo_told_28, if_pos (by omega), bMo_told_34, if_pos (by omega), bMo_told_40, if_pos (by omega), bMo_told_46, if_neg (by omega), bMo_told_49, bMo_told_54, nx _ _ (by omega)]; exact fin _ (fun _ => a5)
    · rw [if_pos (by omega), bMo_told_22, if_pos (by omega), bMo_told_28, if_pos (by omega), bMo_told_34, if_pos (by omega), bMo_told_40, if_pos (by omega), bMo_told_46, if_pos (by omega), bMo_told_52, bMo_told_54, nx _ _ (by omega)]; exact fin _ (fun _ => a6)
  · rw [if_neg (by rw [if_neg h]; omega), bMo_told_9, bMo_told_12, m_bad1 (by omega), KV_eq, bMo_told_14, if_neg (by omega), bMo_told_15]
    refine hq _ _ (MS.th hc 1) ?_ ?_
    · unfold tTo; rw [if_neg h]; exact th0_eq
    · unfold tTo; rw [if_neg h]; intro z; omega
theorem c_shopC {M : Mem} {s k : Int} (hn : rd M 0 4 1 ≤ 3) (hx1 : tSh (rd M 0) s k = 1 → X 1 M) (hx2 : tSh (rd M 0) s k = 2 → X 2 M) (hq : tSh (rd M 0) s k = 0 → Q (vi (shV (rd M 0) s k)) M) : Call (d + 2) qPR_shop [vr 9 0, vi s, vi k] M Q X := by
  rw [ePR_shop, bPR_shop_0, c_needShop hn]
  unfold tSh at hx1 hx2 hq
  by_cases hs : 0 ≤ s ∧ s < rd M 0 4 1
  · rw [if_pos hs] at hx2 hq
    rw [if_pos hs, KU_eq, bPR_shop_3]
    by_cases hk : 0 ≤ k ∧ k ≤ 7
    · rw [if_pos hk] at hq
      have hq := hq rfl
      unfold shV at hq
      rw [if_neg (by omega), bPR_shop_5, if_pos (by omega), bPR_shop_13]
      by_cases k0 : k = 0
      · rw [if_pos k0] at hq
        rw [if_neg (fun z => z k0), bPR_shop_15 (by omega)]; exact hq
      rw [if_neg k0] at hq
      rw [if_pos k0, bPR_shop_22]
      by_cases k1 : k = 1
      · rw [if_pos k1] at hq
        rw [if_neg (fun z => z k1), bPR_shop_25 (by omega)]; exact hq
      rw [if_neg k1] at hq
      rw [if_pos k1, bPR_shop_32]
      by_cases k4 : k ≤ 4
      · rw [if_pos k4] at hq
        rw [if_neg (by omega), bPR_shop_35, w32_id (by omega), c_costOf (by omega) (by omega), KV_eq, bPR_shop_43]; exact hq
      · rw [if_neg k4] at hq
        rw [if_pos (by omega), bPR_shop_44, w32_id (z := k - 1) (by omega), w32_id (by omega), c_chanceOf (by omega) (by omega), KV_eq, bPR_shop_54, show k - 1 - 3 = k - 4 by omega]; exact hq
    · rw [if_neg hk] at hx2
      by_cases k0 : k < 0
      · rw [if_pos k0, bPR_shop_8]; exact hx2 rfl
      · rw [if_neg k0, bPR_shop_5, if_neg (by omega), bPR_shop_8]; exact hx2 rfl
  · rw [if_neg hs] at hx1 ⊢; exact hx1 rfl
theorem m_shop {M : Mem} {R : RT} {s k : Int} (hc : Cur R M) (hk32 : -2147483648 ≤ k ∧ k ≤ 2147483647) (hq : ∀ M' v, MS R M M' → M'.1 10 0 0 = tSh R s k → (tSh R s k = 0 → v = shV R s k) → Q (vi v) M') : Call (d + 2) qMo_shop [vr 10 0, vi s, vi k] M Q X := by
  have h20 := hc.n
  have hR3 : 0 ≤ R 4 1 ∧ R 4 1 ≤ 3 := by
    rcases id hc with hc0 | ⟨B, n, T, hx, hcm⟩
    · rw [hc0.1]; omega
    · exact hx.wr.1
  rw [eMo_shop, bMo_shop_0, th_ne (by omega), h20, w32_id (by omega), m_in, KV_eq, bMo_shop_11]
  by_cases hs : 0 ≤ s ∧ s < R 4 1
  · rw [if_pos (by rw [if_pos (by omega)]; omega), bMo_shop_14, bMo_shop_15, m_bad0, KV_eq, bMo_shop_17, if_neg (by omega), bMo_shop_18, m_in, KV_eq, bMo_shop_23]
    by_cases hk : 0 ≤ k ∧ k ≤ 7
    · rw [if_pos (by rw [if_pos hk]; omega), bMo_shop_26, bMo_shop_27, m_bad0, KV_eq, bMo_shop_29, if_pos rfl, bMo_shop_32]
      have fin := fun v hv => hq (sI M 10 0 0 0) v (MS.t0 hc) (by unfold tSh; rw [if_pos hs, if_pos hk]; exact sI_eq) hv
      clear hq
      unfold shV at fin
      rcases id hc with hc0 | ⟨B, n, T, hx, hcm⟩
      · exfalso; have := hc0.1; omega
      obtain ⟨-, -, -, -, -, -, h7, h8⟩ := hcm.1
      by_cases k0 : k = 0
      · rw [if_pos k0] at fin
        rw [if_neg (fun z => z k0), bMo_shop_34 (by omega), bMo_shop_67, th_ne (by omega)]; exact fin _ (fun _ => (h7 s hs.1 (by omega)).1)
      rw [if_neg k0] at fin
      rw [if_pos k0, bMo_shop_39]
      by_cases k1 : k = 1
      · rw [if_pos k1] at fin
        rw [if_neg (fun z => z k1), bMo_shop_42 (by omega), bMo_shop_67, th_ne (by omega)]; exact fin _ (fun _ => (h7 s hs.1 (by omega)).2)
      rw [if_neg k1] at fin
      rw [if_pos k1, bMo_shop_47]
      by_cases k4 : k ≤ 4
      · rw [if_pos k4] at fin
        have ek : w32 (k - 1) = k - 1 := w32_id (by omega)
        rw [if_neg (by omega), bMo_shop_50 (by omega), bMo_shop_67, ek, th_ne (by omega), Nat.zero_mul, Nat.zero_add]; exact fin _ (fun _ => (h8 s (k - 1) hs.1 (by omega) (by omega) (by omega)).1)
      · rw [if_neg k4] at fin
        have ek : w32 (k - 4) = k - 4 := w32_id (by omega)
        rw [if_pos (by omega), bMo_shop_59 (by omega), bMo_shop_67, ek, th_ne (by omega), Nat.zero_mul, Nat.zero_add]; exact fin _ (fun _ => (h8 s (k - 4) hs.1 (by omega) (by omega) (by omega)).2)
    · rw [if_neg (by rw [if_neg hk]; omega), bMo_shop_24, bMo_shop_27, m_bad1 (by omega), KV_eq, bMo_shop_29, if_neg (by omega), bMo_shop_30]
      refine hq _ _ (MS.th hc 2) ?_ ?_
      · unfold tSh; rw [if_pos hs, if_neg hk]; exact th0_eq
      · unfold tSh; rw [if_pos hs, if_neg hk]; intro z; omega
  · rw [if_neg (by rw [if_neg (by omega)]; omega), bMo_shop_12, bMo_shop_15, m_bad1 (by omega), KV_eq, bMo_shop_17, if_pos (by omega), bMo_shop_30]
    refine hq _ _ (MS.th hc 1) ?_ ?_
    · unfold tSh; rw [if_neg hs]; exact th0_eq
    · unfold tSh; rw [if_neg hs]; intro z; omega
theorem c_faultC {M : Mem} : Call (d + 1) qPR_fault [vr 9 0] M Q X = Q (vi (M.1 5 0 1)) M := by rw [ePR_fault, bPR_fault_0]
theorem m_fault {M : Mem} : Call (d + 1) qMo_fault [vr 10 0] M Q X = Q (vi (M.1 10 0 3)) (sI M 10 0 0 0) := by rw [eMo_fault, bMo_fault_0, sI_ne (by omega)]
def tOf (x : Int) : Int := if 0 ≤ x ∧ x ≤ 9999 then 0 else 1
theorem c_offer {M : Mem} {x : Int} {m : Nat} (hm : M.1 2 0 3 = (m : Int)) (hm9 : m ≤ 9) (hx : tOf x = 1 → X 2 M) (hq : tOf x = 0 → (m < 9 → Q (vi ((m : Int) + 1)) (sI (sI M 28 0 m x) 2 0 3 ((m : Int) + 1))) ∧ (m = 9 → Q (vi (-1)) M)) : Call (d + 2) qPR_offer [vr 9 0, vi x] M Q X := by
  rw [ePR_offer, bPR_offer_0]
  unfold tOf at hx hq
  by_cases h0 : 0 ≤ x
  · by_cases h1 : x ≤ 9999
    · rw [if_pos ⟨h0, h1⟩] at hq
      obtain ⟨q1, q2⟩ := hq rfl
      rw [if_neg (by omega), bPR_offer_2, if_pos h1, bPR_offer_10, eDe_addPrize, bDe_addPrize_0, hm, if_neg (by omega), bDe_addPrize_3, hm]
      rcases (by omega : m = 9 ∨ m < 9) with e | e
      · rw [if_neg (by omega), bDe_addPrize_7, KV_eq, bPR_offer_14]; exact q2 e
      · rw [if_pos (by omega), bDe_addPrize_9 (by omega), sI_eq, sI_ne (by omega), hm, w32_id (by omega), Int.toNat_natCast, KV_eq, bPR_offer_14]; exact q1 e
    · rw [if_neg (by omega)] at hx
      rw [if_neg (by omega), bPR_offer_2, if_neg h1, bPR_offer_5]; exact hx rfl
  · rw [if_neg (by omega)] at hx
    rw [if_pos (by omega), bPR_offer_5]; exact hx rfl
theorem m_offer {M : Mem} {x : Int} {m : Nat} (hm : M.1 10 0 54 = (m : Int)) (hm9 : m ≤ 9) (hq1 : tOf x = 1 → ∀ v, Q (vi v) (th0 M 1)) (hq : tOf x = 0 → (m < 9 → Q (vi ((m : Int) + 1)) (sI (sI (sI M 10 0 0 0) 92 0 m x) 10 0 54 ((m : Int) + 1))) ∧ (m = 9 → Q (vi (-1)) (sI M 10 0 0 0))) : Call (d + 2) qMo_offer [vr 10 0, vi x] M Q X := by
  rw [eMo_offer, bMo_offer_0, m_in, KV_eq, bMo_offer_8]
  unfold tOf at hq1 hq
  have e54 : (sI M 10 0 0 0).1 10 0 54 = (m : Int) := by rw [sI_ne (by omega)]; exact hm
  by_cases h : 0 ≤ x ∧ x ≤ 9999
  · rw [if_pos h] at hq
    obtain ⟨q1, q2⟩ := hq rfl
    rw [if_pos h, if_pos (by omega), bMo_offer_11, bMo_offer_12, m_bad0, KV_eq, bMo_offer_14, if_pos rfl, bMo_offer_17, e54]
    rcases (by omega : m = 9 ∨ m < 9) with e | e
    · rw [if_neg (by omega), bMo_offer_21]; exact q2 e
    · rw [if_pos (by omega), bMo_offer_23 (by omega), sI_eq, sI_ne (by omega), e54, w32_id (by omega), Int.toNat_natCast]; exact q1 e
  · rw [if_neg h] at hq1
    rw [if_neg h, if_neg (by omega), bMo_offer_9, bMo_offer_12, m_bad1 (by omega), KV_eq, bMo_offer_14, if_neg (by omega), bMo_offer_15]; exact hq1 rfl _
end
