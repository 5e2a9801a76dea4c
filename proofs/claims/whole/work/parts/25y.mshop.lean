/-! LAYER 3, A SHOP IN THE REFERENCE -/
section
variable {d : Nat} {B : BT} {n : Nat} {D : RT} {T : TT} {M : Mem} {Q : AV → Mem → Prop} {X : Nat → Mem → Prop}
theorem m22 {s : Nat} {a0 : Int} {z2 z3 z4 : AV} (hs : s < 3) (h25 : M.1 10 0 25 = (s : Int)) : At d kMo_shopHere 22 [vr 10 0, vi (s : Int), z2, z3, z4] [vi a0] M Q X = At d kMo_shopHere 39 [vr 10 0, vi (s : Int), vi a0, z3, z4] [] (sI (sI (sI M 62 0 s a0) 63 0 s 0) 10 0 25 ((s : Int) + 1)) Q X := by
  have en : ((s : Int)).toNat = s := by omega
  have e2 : (sI (sI M 62 0 s a0) 63 0 s 0).1 10 0 25 = (s : Int) := by rw [sI_ne (by omega), sI_ne (by omega)]; exact h25
  rw [bMo_shopHere_22 (by omega), en, e2, w32_id (by omega)]
theorem MK.shop {k s : Nat} {v : Int} (h : MK B n D T M k) (hs : s < 3) (hsD : (s : Int) = D 4 1) (h34 : D 34 s = 0) : MK B n (sD (sD D 4 1 (D 4 1 + 1)) 33 s v) T (sI (sI (sI M 62 0 s v) 63 0 s 0) 10 0 25 ((s : Int) + 1)) k := by
  obtain ⟨h1, h2, ⟨⟨a1, a2, a3, a4, a5, a6, a7⟩, h4⟩, h5, h6⟩ := h
  have e : ∀ j, j ≠ 25 → (sI (sI (sI M 62 0 s v) 63 0 s 0) 10 0 25 ((s : Int) + 1)).1 10 0 j = M.1 10 0 j := fun j hj => by rw [sI_ne (by omega), sI_ne (by omega), sI_ne (by omega)]
  have eD : ∀ j, j ≠ 1 → sD (sD D 4 1 (D 4 1 + 1)) 33 s v 4 j = D 4 j := fun j hj => by rw [sD_ne (by omega), sD_ne (by omega)]
  have eD1 : sD (sD D 4 1 (D 4 1 + 1)) 33 s v 4 1 = D 4 1 + 1 := by rw [sD_ne (by omega), sD_eq]
  refine ⟨((h1.d (by omega)).d (by omega)).j (by omega), by rw [e 7 (by omega)]; exact h2, ⟨⟨by rw [sI_eq, eD1, hsD], ?_, ?_, ?_, ?_, ?_, ?_⟩, ?_⟩, by rw [e 31 (by omega)]; exact h5, by rw [e 32 (by omega)]; exact h6⟩
  · rw [e 26 (by omega), eD 2 (by omega)]; exact a2
  · rw [e 27 (by omega), eD 3 (by omega)]; exact a3
  · rw [e 28 (by omega), eD 4 (by omega)]; exact a4
  · rw [e 29 (by omega), eD 5 (by omega)]; exact a5
  · rw [e 30 (by omega), eD 6 (by omega)]; exact a6
  · rw [e 33 (by omega), eD 7 (by omega)]; exact a7
  · intro s' hs' hs2
    rw [eD1] at hs2
    have e34 : sD (sD D 4 1 (D 4 1 + 1)) 33 s v 34 s' = D 34 s' := by rw [sD_ne (by omega), sD_ne (by omega)]
    unfold MDs
    rw [e34]
    by_cases e' : s' = s
    · subst e'
      refine ⟨by rw [sI_ne (by omega), sI_ne (by omega), sI_eq, sD_eq], by rw [sI_ne (by omega), sI_eq, h34], fun q q1 q2 q3 => by omega⟩
    · obtain ⟨g1, g2, g3⟩ := h4 s' hs' (by omega)
      refine ⟨?_, ?_, fun q q1 q2 q3 => ?_⟩
      · rw [sI_ne (by omega), sI_ne (by omega), sI_ne (by omega), sD_ne (by omega), sD_ne (by omega)]; exact g1
      · rw [sI_ne (by omega), sI_ne (by omega), sI_ne (by omega)]; exact g2
      · rw [sI_ne (by omega), sI_ne (by omega), sI_ne (by omega), sI_ne (by omega), sI_ne (by omega), sI_ne (by omega), sD_ne (by omega), sD_ne (by omega), sD_ne (by omega), sD_ne (by omega)]
        exact g3 q q1 q2 q3
theorem m_shopHere {k : Nat} (hw : isW B n k (wd 12)) (hc : MK B n D T M k) (hD : WD D) (hq : ∀ M', MO B n T M (scl B n D k) M' → Q (vi 0) M') : Call (d + 6) qMo_shopHere [vr 10 0] M Q X := by
  have h25 : M.1 10 0 25 = D 4 1 := hc.2.2.1.1.1
  have h3 := hD.1.1
  rw [eMo_shopHere, bMo_shopHere_0, h25]
  by_cases e3 : D 4 1 = 3
  · rw [if_neg (fun z => z e3), bMo_shopHere_4, hc.1.2.1, m_wrong, KU_eq, bMo_shopHere_9]
    have hb : MF B n 3 (k : Int) (wrs M 3 (k : Int)) := hc.bad
    rw [if_neg (by rw [hb.2.2.1]; omega), bMo_shopHere_12]
    refine hq _ ⟨(fs_wrs Fs.rf).mc, ?_⟩
    unfold scl; rw [if_pos (by omega)]; exact ⟨(by omega : (3 : Int) ≠ 0), hb⟩
  · obtain ⟨s, hs⟩ : ∃ s : Nat, (s : Int) = D 4 1 := ⟨(D 4 1).toNat, by omega⟩
    have hsn : (D 4 1).toNat = s := by omega
    have h34 : D 34 s = 0 := (hD.2 s (by omega)).2.2.2.1 (by omega)
    have hres : scl B n D k = match nmb B n (k + 4) 1 4 with | .inl e => .inl e | .inr (v, k1) => pcx B n s 3 (sD (sD D 4 1 (D 4 1 + 1)) 33 s v) (blk B n k1) := by
      unfold scl; rw [if_neg (by omega), hsn]; rfl
    rw [if_pos e3, bMo_shopHere_9, if_pos hc.1.2.2.2.1, bMo_shopHere_13]
    refine gm_skip hw hc ?_
    intro f1 c1
    rw [show (wd 12).length = 4 from rfl] at f1 c1 ⊢
    rw [KU_eq, bMo_shopHere_15, sI_ne (by omega), h25, ← hs]
    refine gm_num c1 (by omega) ?_ ?_
    · intro e he M2 v f2 c2
      have ha := nmb_f he
      have h6 : M2.1 10 0 6 ≠ 0 := by rw [c2.2.2.1]; exact ha
      have g25 : M2.1 10 0 25 = (s : Int) := by rw [(f1.tr f2).g1 10 0 25 (by omega), h25, hs]
      rw [KV_eq, m22 (by omega) g25, bMo_shopHere_39, if_pos (by rw [sI_ne (by omega), sI_ne (by omega), sI_ne (by omega)]; exact h6), bMo_shopHere_120]
      refine hq _ ⟨(((f1.tr f2).mc.sI (by omega)).sI (by omega)).sI (by omega), ?_⟩
      rw [hres, he]; exact ⟨ha, ((c2.d (by omega)).d (by omega)).j (by omega)⟩
    · intro v k1 he hk1 hv1 hv2 f2 c2
      have g25 : (sI (sI M 10 0 4 ((k + 4 : Nat) : Int)) 10 0 4 ((k1 : Nat) : Int)).1 10 0 25 = (s : Int) := by rw [(f1.tr f2).g1 10 0 25 (by omega), h25, hs]
      rw [KV_eq, m22 (by omega) g25]
      refine m_paces (by omega) 3 (by omega) (sD (sD D 4 1 (D 4 1 + 1)) 33 s v) _ k1 _ _ _ (c2.shop (by omega) hs h34) (by rw [sD_ne (by omega), sD_eq]; omega) (by rw [sD_ne (by omega), sD_ne (by omega), h34]; rfl) ?_
      intro M3 r3
      refine hq M3 ⟨(((f1.tr f2).mc.sI (by omega)).sI (by omega)).sI (by omega) |>.tr r3.1, ?_⟩
      rw [hres, he]; exact r3.2
end
