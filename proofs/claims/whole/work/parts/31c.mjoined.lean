/-! LAYER 3, PARTNERS: the reference -/
section
variable {d : Nat} {Q : AV → Mem → Prop} {X : Nat → Mem → Prop}
/-- what the reference has while it joins two -/
def JB (R : RT) (a b x : Nat) (M : Mem) : Prop := (∀ i : Nat, i < 3 → M.1 56 0 i = m1 R a b (if b ≤ i ∧ i < x then i + 1 else i) ∧ M.1 57 0 i = m2 R a b (if b ≤ i ∧ i < x then i + 1 else i)) ∧ ∀ i e : Nat, i < 3 → 1 ≤ e → e < 4 → M.1 59 i e = m3 R a b (if b ≤ i ∧ i < x then i + 1 else i) e ∧ M.1 61 i e = m4 R a b (if b ≤ i ∧ i < x then i + 1 else i) e
abbrev pJo (t _ j : Nat) : Prop := t = 56 ∨ t = 57 ∨ t = 59 ∨ t = 61 ∨ (t = 10 ∧ (j = 20 ∨ j = 44))
theorem m_mergeCosts {M : Mem} {R : RT} {a b : Nat} {z4 : AV} (h : WR R) (hj : JP R a b) (ha : a < 3) (hb3 : b < 3) (hC : ∀ i e : Nat, i < 3 → 1 ≤ e → e < 4 → M.1 59 i e = R 35 (i * 5 + e) ∧ M.1 61 i e = R 36 (i * 5 + e))
    (hq : ∀ M', Fs (fun t i j => (t = 59 ∨ t = 61) ∧ i = a ∧ 1 ≤ j ∧ j < 4) M M' → (∀ i e : Nat, i < 3 → 1 ≤ e → e < 4 → M'.1 59 i e = m3 R a b i e ∧ M'.1 61 i e = m4 R a b i e) → At d kMo_joined 124 [vr 10 0, vi (a : Int), vi (b : Int), vi 4, z4] [] M' Q X) : At d kMo_joined 72 [vr 10 0, vi (a : Int), vi (b : Int), vi 1, z4] [] M Q X := by
  obtain ⟨ja, jb, jab, j5⟩ := hj
  have q5 := h.2.2.2.2.2.2.2.2.2.2.1
  refine loop_up (fun (x : Int) (M1 : Mem) => At d kMo_joined 72 [vr 10 0, vi (a : Int), vi (b : Int), vi x, z4] [] M1 Q X) (fun (x : Int) (M1 : Mem) => Fs (fun t i j => (t = 59 ∨ t = 61) ∧ i = a ∧ 1 ≤ j ∧ j < x.toNat) M M1 ∧ ∀ e : Nat, 1 ≤ e → (e : Int) < x → M1.1 59 a e = R 35 (a * 5 + e) + R 35 (b * 5 + e) ∧ M1.1 61 a e = (if R 36 (a * 5 + e) < R 36 (b * 5 + e) then R 36 (b * 5 + e) else R 36 (a * 5 + e))) 1 4 ?_ ?_ 1 M (by omega) (by omega) ⟨Fs.rf, fun e _ _ => by omega⟩
  · rintro M1 ⟨f1, g1⟩
    show At _ _ _ _ _ _ _ _
    rw [bMo_joined_72, if_pos (by omega)]
    refine hq M1 f1 (fun i e hi e1 e4 => ?_)
    unfold m3 m4
    by_cases z : i = a
    · subst z
      rw [if_pos ⟨rfl, e1, by omega⟩, if_pos ⟨rfl, e1, by omega⟩]; exact g1 e e1 (by omega)
    · rw [if_neg (fun q => z q.1), if_neg (fun q => z q.1), f1.g1 59 i e (fun q => z q.2.1), f1.g1 61 i e (fun q => z q.2.1)]; exact hC i e hi e1 e4
  · rintro x M1 x0 x1 ⟨f1, g1⟩ ih
    obtain ⟨xn, rfl⟩ : ∃ xn : Nat, x = (xn : Int) := ⟨x.toNat, by omega⟩
    have c1 := hC a xn ha (by omega) (by omega)
    have c2 := hC b xn hb3 (by omega) (by omega)
    have v1 : M1.1 59 a xn = R 35 (a * 5 + xn) := (f1.g1 59 a xn (by omega)).trans c1.1
    have v2 : M1.1 59 b xn = R 35 (b * 5 + xn) := (f1.g1 59 b xn (by omega)).trans c2.1
    have v3 : M1.1 61 a xn = R 36 (a * 5 + xn) := (f1.g1 61 a xn (by omega)).trans c1.2
    have v4 : M1.1 61 b xn = R 36 (b * 5 + xn) := (f1.g1 61 b xn (by omega)).trans c2.2
    have b1 := q5 (a * 5 + xn) (by omega)
    have b2 := q5 (b * 5 + xn) (by omega)
    have ea : 0 * 3 + ((a : Int)).toNat = a := by omega
    have eb : 0 * 3 + ((b : Int)).toNat = b := by omega
    have ex : ((xn : Int)).toNat = xn := by omega
    have fin : ∀ v : Int, v = (if R 36 (a * 5 + xn) < R 36 (b * 5 + xn) then R 36 (b * 5 + xn) else R 36 (a * 5 + xn)) → At d kMo_joined 72 [vr 10 0, vi (a : Int), vi (b : Int), vi ((xn : Int) + 1), z4] [] (sI (sI M1 59 a xn (R 35 (a * 5 + xn) + R 35 (b * 5 + xn))) 61 a xn v) Q X := by
      intro v hv
      refine ih _ ⟨((f1.mono (fun t i j z => by omega)).sI (by omega)).sI (by omega), fun e e0 e1 => ?_⟩
      by_cases z : e = xn
      · subst z
        rw [sI_ne (by omega), sI_eq, sI_eq]; exact ⟨rfl, hv⟩
      · rw [sI_ne (by omega), sI_ne (by omega), sI_ne (by omega), sI_ne (by omega)]; exact g1 e e0 (by omega)
    show At _ _ _ _ _ _ _ _
    rw [bMo_joined_72, if_neg (by omega), bMo_joined_75 (by omega), ea, eb, ex, v1, v2, w32_id (z := R 35 (a * 5 + xn) + R 35 (b * 5 + xn)) (by omega), sI_ne (by omega), sI_ne (by omega), v3, v4]
    by_cases hc : R 36 (a * 5 + xn) ≤ R 36 (b * 5 + xn)
    · rw [if_pos hc, bMo_joined_115 (by omega), eb, ex, sI_ne (by omega), v4, bMo_joined_121 (by omega), ex, w32_id (by omega)]
      exact fin _ (by split <;> omega)
    · rw [if_neg hc, bMo_joined_108 (by omega), ea, ex, sI_ne (by omega), v3, bMo_joined_121 (by omega), ex, w32_id (by omega)]
      exact fin _ (by split <;> omega)
theorem m_shift {M : Mem} {R : RT} {a b : Nat} {z4 : AV} (hb3 : b < 3) (hC : JB R a b b M)
    (hq : ∀ M' x z4, Fs (fun t _ _ => t = 56 ∨ t = 57 ∨ t = 59 ∨ t = 61) M M' → JB R a b 2 M' → At d kMo_joined 208 [vr 10 0, vi (a : Int), vi (b : Int), vi x, z4] [] M' Q X) : At d kMo_joined 148 [vr 10 0, vi (a : Int), vi (b : Int), vi (b : Int), z4] [] M Q X := by
  refine loop_up (fun (x : Int) (A : Mem × AV) => At d kMo_joined 148 [vr 10 0, vi (a : Int), vi (b : Int), vi x, A.2] [] A.1 Q X) (fun (x : Int) (A : Mem × AV) => Fs (fun t _ _ => t = 56 ∨ t = 57 ∨ t = 59 ∨ t = 61) M A.1 ∧ JB R a b x.toNat A.1) (b : Int) 2 ?_ ?_ (b : Int) (M, z4) (by omega) (by omega) ⟨Fs.rf, by rw [show ((b : Int)).toNat = b by omega]; exact hC⟩
  · rintro ⟨M1, z4⟩ ⟨f1, g1⟩
    show At _ _ _ _ _ _ _ _
    rw [bMo_joined_148, if_pos (by omega)]
    exact hq M1 _ _ f1 g1
  · rintro x ⟨M1, z4⟩ x0 x1 ⟨f1, g1⟩ ih
    obtain ⟨xn, rfl⟩ : ∃ xn : Nat, x = (xn : Int) := ⟨x.toNat, by omega⟩
    have g1 : JB R a b xn M1 := g1
    have ex : ((xn : Int)).toNat = xn := by omega
    have ex1 : (((xn : Int)) + 1).toNat = xn + 1 := by omega
    have e1 : w32 ((xn : Int) + 1) = (xn : Int) + 1 := w32_id (by omega)
    have u := g1.1 (xn + 1) (by omega)
    rw [if_neg (by omega)] at u
    show At _ _ _ _ _ _ _ _
    rw [bMo_joined_148, if_neg (by omega), bMo_joined_151 (by rw [e1]; omega), e1, ex, ex1, sI_ne (by omega), u.1, u.2]
    generalize hM2 : sI (sI M1 56 0 xn (m1 R a b (xn + 1))) 57 0 xn (m2 R a b (xn + 1)) = M2
    have f2 : Fs (fun t i j => (t = 56 ∨ t = 57) ∧ i = 0 ∧ j = xn) M1 M2 := by rw [← hM2]; exact (Fs.rf.sI (by omega)).sI (by omega)
    have k56 : M2.1 56 0 xn = m1 R a b (xn + 1) := by rw [← hM2, sI_ne (by omega), sI_eq]
    have k57 : M2.1 57 0 xn = m2 R a b (xn + 1) := by rw [← hM2, sI_eq]
    refine loop_up (fun (e : Int) (M3 : Mem) => At d kMo_joined 173 [vr 10 0, vi (a : Int), vi (b : Int), vi (xn : Int), vi e] [] M3 Q X) (fun (e : Int) (M3 : Mem) => Fs (fun t i j => (t = 59 ∨ t = 61) ∧ i = xn) M2 M3 ∧ (∀ k : Nat, 1 ≤ k → (k : Int) < e → M3.1 59 xn k = m3 R a b (xn + 1) k ∧ M3.1 61 xn k = m4 R a b (xn + 1) k)) 1 4 ?_ ?_ 1 M2 (by omega) (by omega) ⟨Fs.rf, fun k _ _ => by omega⟩
    · rintro M3 ⟨f3, g3⟩
      show At _ _ _ _ _ _ _ _
      rw [bMo_joined_173, if_pos (by omega), bMo_joined_206, e1]
      refine ih (M3, _) ⟨f1.tr ((f2.mono (fun t i j z => by omega)).tr (f3.mono (fun t i j z => by omega))), ?_⟩
      show JB R a b ((xn : Int) + 1).toNat M3
      rw [ex1]
      have ec : ∀ i : Nat, i ≠ xn → (if b ≤ i ∧ i < xn + 1 then i + 1 else i) = (if b ≤ i ∧ i < xn then i + 1 else i) := fun i hi => by
        by_cases q : b ≤ i ∧ i < xn
        · rw [if_pos q, if_pos (by omega)]
        · rw [if_neg q, if_neg (by omega)]
      refine ⟨fun i hi => ?_, fun i e hi ex1' e4 => ?_⟩
      · rw [f3.g1 56 0 i (by omega), f3.g1 57 0 i (by omega)]
        by_cases z : i = xn
        · subst z
          rw [if_pos ⟨by omega, by omega⟩]; exact ⟨k56, k57⟩
        · rw [ec i z, f2.g1 56 0 i (by omega), f2.g1 57 0 i (by omega)]; exact g1.1 i hi
      · by_cases z : i = xn
        · subst z
          rw [if_pos ⟨by omega, by omega⟩]; exact g3 e ex1' (by omega)
        · rw [ec i z, f3.g1 59 i e (fun q => z q.2), f3.g1 61 i e (fun q => z q.2), f2.g1 59 i e (by omega), f2.g1 61 i e (by omega)]; exact g1.2 i e hi ex1' e4
    · rintro e M3 e0 e5 ⟨f3, g3⟩ ih3
      obtain ⟨en, rfl⟩ : ∃ en : Nat, e = (en : Int) := ⟨e.toNat, by omega⟩
      have een : ((en : Int)).toNat = en := by omega
      have v := g1.2 (xn + 1) en (by omega) (by omega) (by omega)
      rw [if_neg (by omega)] at v
      have v1 : M3.1 59 (xn + 1) en = m3 R a b (xn + 1) en := (f3.g1 59 _ _ (by omega)).trans ((f2.g1 59 _ _ (by omega)).trans v.1)
      have v2 : M3.1 61 (xn + 1) en = m4 R a b (xn + 1) en := (f3.g1 61 _ _ (by omega)).trans ((f2.g1 61 _ _ (by omega)).trans v.2)
      have n1 : 0 * 3 + xn = xn := by omega
      have n2 : 0 * 3 + (xn + 1) = xn + 1 := by omega
      show At _ _ _ _ _ _ _ _
      rw [bMo_joined_173, if_neg (by omega), bMo_joined_176 (by rw [e1]; omega), e1, ex, ex1, een, n1, n2, sI_ne (by omega), v1, v2, w32_id (by omega)]
      refine ih3 _ ⟨(f3.sI (by omega)).sI (by omega), fun k k0 k1 => ?_⟩
      by_cases z : k = en
      · subst z
        rw [sI_ne (by omega), sI_eq, sI_eq]; exact ⟨rfl, rfl⟩
      · rw [sI_ne (by omega), sI_ne (by omega), sI_ne (by omega), sI_ne (by omega)]; exact g3 k k0 (by omega)
theorem m_joined {M : Mem} {R : RT} {a b : Int} (hc : Cur R M) (hq : ∀ M' v, MS R M M' → M'.1 10 0 0 = tT R a b → (tT R a b = 0 → v = joV R a b) → Q (vl v) M') : Call (d + 64) qMo_joined [vr 10 0, vi a, vi b] M Q X := by
  have h20 := hc.n
  rw [eMo_joined, bMo_joined_0, th_ne (by omega), h20]
  by_cases h0 : R 4 1 = 0
  · rw [if_neg (fun z => z h0), bMo_joined_7, bMo_joined_10, m_bad1 (by omega), KV_eq, bMo_joined_12, if_pos (by omega), bMo_joined_46]
    refine hq _ _ (MS.th hc 1) ?_ ?_
    · unfold tT; rw [if_pos h0]; exact th0_eq
    · unfold tT; rw [if_pos h0]; intro z; omega
  rw [if_pos h0, bMo_joined_9, bMo_joined_10, m_bad0, KV_eq, bMo_joined_12, if_neg (by omega), bMo_joined_13, th_ne (by omega), h20]
  rcases id hc with hc0 | ⟨B, n, T, hx, hcm⟩
  · exact absurd hc0.1 h0
  have hW := hx.wr
  have hb := hW.b
  have hn1 := hx.2.1
  have no2 : ¬ ((0 ≤ a ∧ a < R 4 1) ∧ (0 ≤ b ∧ b < R 4 1)) → At (d + 63) kMo_joined 30 [vr 10 0, vi a, vi b, JK, JK] [vr 10 0] (sI M 10 0 0 0) Q X := by
    intro hs
    rw [bMo_joined_30, bMo_joined_33, m_bad1 (by omega), KV_eq, bMo_joined_35, if_pos (by omega), bMo_joined_46]
    refine hq _ _ (MS.th hc 2) ?_ ?_
    · unfold tT; rw [if_neg h0, if_neg hs]; exact th0_eq
    · unfold tT; rw [if_neg h0, if_neg hs]; intro z; omega
  rw [w32_id (by omega), m_in, KV_eq, bMo_joined_21]
  by_cases ha : 0 ≤ a ∧ a < R 4 1
  · rw [if_neg (by rw [if_pos (by omega)]; omega), bMo_joined_22, th_ne (by omega), h20, w32_id (by omega), m_in, KV_eq, bMo_joined_29]
    by_cases hbs : 0 ≤ b ∧ b < R 4 1
    · rw [if_pos (by rw [if_pos (by omega)]; omega), bMo_joined_32, bMo_joined_33, m_bad0, KV_eq, bMo_joined_35, if_neg (by omega), bMo_joined_36]
      by_cases hab : a = b
      · rw [if_neg (fun z => z hab), bMo_joined_40, bMo_joined_43, m_bad1 (by omega), KV_eq, bMo_joined_45, if_neg (by omega), bMo_joined_46]
        refine hq _ _ (MS.th hc 3) ?_ ?_
        · unfold tT; rw [if_neg h0, if_pos ⟨ha, hbs⟩, if_pos hab]; exact th0_eq
        · unfold tT; rw [if_neg h0, if_pos ⟨ha, hbs⟩, if_pos hab]; intro z; omega
      · have tz : tT R a b = 0 := by unfold tT; rw [if_neg h0, if_pos ⟨ha, hbs⟩, if_neg hab]
        rw [tz] at hq
        rw [if_pos hab, bMo_joined_42, bMo_joined_43, m_bad0, KV_eq, bMo_joined_45, if_pos rfl]
        clear no2
        obtain ⟨fs0, cur0⟩ := MS.t0 hc
        have hcm0 : CM R B n T (sI M 10 0 0 0) := hcm.fs (by omega) ⟨hn1, by omega⟩ (P := fun t i j => t = 10 ∧ i = 0 ∧ j = 0) (Fs.rf.sI (by omega)) (fun t i j z => by omega)
        have z0 : (sI M 10 0 0 0).1 10 0 0 = 0 := sI_eq
        generalize hM0 : sI M 10 0 0 0 = M0 at *
        obtain ⟨an, rfl⟩ : ∃ an : Nat, a = (an : Int) := ⟨a.toNat, by omega⟩
        obtain ⟨bn, rfl⟩ : ∃ bn : Nat, b = (bn : Int) := ⟨b.toNat, by omega⟩
        have ean : ((an : Int)).toNat = an := by omega
        have ebn : ((bn : Int)).toNat = bn := by omega
        have hjp : JP R an bn := ⟨ha.2, hbs.2, by omega, hx.c99⟩
        have hMR := hcm0.1
        have r56 : ∀ i : Nat, i < 3 → M0.1 56 0 i = R 33 i ∧ M0.1 57 0 i = R 34 i := fun i hi => by
          have := hMR.2.2.2.2.2.2.1 (i : Int) (by omega) (by omega)
          rw [show ((i : Int)).toNat = i by omega] at this
          unfold stp pcs at this
          rw [show ((i : Int)).toNat = i by omega] at this
          exact this
        have r59 : ∀ i e : Nat, i < 3 → 1 ≤ e → e < 4 → M0.1 59 i e = R 35 (i * 5 + e) ∧ M0.1 61 i e = R 36 (i * 5 + e) := fun i e hi e1 e4 => by
          have := hMR.2.2.2.2.2.2.2 (i : Int) (e : Int) (by omega) (by omega) (by omega) (by omega)
          unfold cst chc at this
          rw [show ((i : Int)).toNat = i by omega, show ((e : Int)).toNat = e by omega, show ((i : Int) * 5 + (e : Int)).toNat = i * 5 + e by omega] at this
          exact this
        have hq' : ∀ M', Fs scM M M' → M'.1 10 0 0 = 0 → CM R B n T M' → Q (vl (joV R (an : Int) (bn : Int))) M' := fun M2 f2 g2 c2 => hq M2 _ ⟨f2, Or.inr ⟨B, n, T, hx, c2⟩⟩ g2 (fun _ => rfl)
        rw [bMo_joined_48 (by omega), ean, ebn, (r56 an (by omega)).1, (r56 bn (by omega)).1]
        -- the merge of steps
        have goMerge : At (d + 63) kMo_joined 72 [vr 10 0, vi (an : Int), vi (bn : Int), vi 1, JK] [] (sI M0 56 0 an (m1 R an bn an)) Q X := by
          refine m_mergeCosts hW hjp (by omega) (by omega) (fun i e hi e1 e4 => by rw [sI_ne (by omega), sI_ne (by omega)]; exact r59 i e hi e1 e4) ?_
          intro M1 f1 g1
          have k57 : ∀ i : Nat, i < 3 → M1.1 57 0 i = R 34 i := fun i hi => by rw [f1.g1 57 0 i (by omega), sI_ne (by omega)]; exact (r56 i hi).2
          have k56 : ∀ i : Nat, i < 3 → M1.1 56 0 i = m1 R an bn i := fun i hi => by
            rw [f1.g1 56 0 i (by omega)]
            by_cases z : i = an
            · subst z; exact sI_eq
            · rw [sI_ne (by omega), (r56 i hi).1]; unfold m1; rw [if_neg z]
          have goShift : ∀ v : Int, v = m2 R an bn an → At (d + 63) kMo_joined 148 [vr 10 0, vi (an : Int), vi (bn : Int), vi (bn : Int), JK] [] (sI M1 57 0 an v) Q X := by
            intro v hv
            refine m_shift (R := R) (by omega) ⟨fun i hi => ?_, fun i e hi e1 e4 => ?_⟩ ?_
            · rw [if_neg (by omega), sI_ne (by omega)]
              refine ⟨k56 i hi, ?_⟩
              by_cases z : i = an
              · subst z; rw [sI_eq]; exact hv
              · rw [sI_ne (by omega), k57 i hi]; unfold m2; rw [if_neg z]
            · rw [if_neg (by omega), sI_ne (by omega), sI_ne (by omega)]; exact g1 i e hi e1 e4
            · intro M2 x z4 f2 g2
              have fA : Fs (fun t _ _ => t = 56 ∨ t = 57 ∨ t = 59 ∨ t = 61) M0 M2 := ((Fs.rf.sI (by omega)).tr (f1.mono (fun t i j z => by omega))).tr ((Fs.rf.sI (by omega)).tr f2)
              have k10 : ∀ j, M2.1 10 0 j = M0.1 10 0 j := fun j => fA.g1 10 0 j (by omega)
              rw [bMo_joined_208 (by omega), sI_ne (by omega), sI_ne (by omega), k10, hMR.1, w32_id (by omega), show ((2 : Int)).toNat = 2 from rfl]
              generalize hM3 : sI (sI (sI (sI M2 56 0 2 0) 57 0 2 0) 10 0 20 (R 4 1 - 1)) 10 0 44 0 = M3
              have f3 : Fs (fun t i j => (t = 56 ∨ t = 57) ∧ i = 0 ∧ j = 2 ∨ (t = 10 ∧ (j = 20 ∨ j = 44))) M2 M3 := by
                rw [← hM3]; exact (((Fs.rf.sI (by omega)).sI (by omega)).sI (by omega)).sI (by omega)
              have fB : Fs pJo M0 M3 := (fA.mono (fun t i j z => by omega)).tr (f3.mono (fun t i j z => by omega))
              have k3 : ∀ j, j ≠ 20 → j ≠ 44 → M3.1 10 0 j = M0.1 10 0 j := fun j a b => fB.g1 10 0 j (by omega)
              have h44 : M3.1 10 0 44 = 0 := by rw [← hM3, sI_eq]
              have hn20 : M3.1 10 0 20 = R 4 1 - 1 := by rw [← hM3, sI_ne (by omega), sI_eq]
              have hsh : ∀ i : Nat, i < 2 → (if bn ≤ i ∧ i < 2 then i + 1 else i) = shf bn i := fun i hi => by
                unfold shf
                by_cases z : i < bn
                · rw [if_neg (by omega), if_pos z]
                · rw [if_pos ⟨by omega, by omega⟩, if_neg z]
              have mr : MR (jm R an bn) M3 := by
                have j4 : ∀ j : Nat, j ≠ 1 → jm R an bn 4 j = R 4 j := fun j hj => by rw [jm_ne (by omega), jn4, if_neg hj]
                refine ⟨by rw [hn20, jm_ne (by omega), jn4, if_pos rfl], by rw [k3 _ (by omega) (by omega), j4 _ (by omega)]; exact hMR.2.1, by rw [k3 _ (by omega) (by omega), j4 _ (by omega)]; exact hMR.2.2.1, by rw [k3 _ (by omega) (by omega), j4 _ (by omega)]; exact hMR.2.2.2.1, by rw [k3 _ (by omega) (by omega), j4 _ (by omega)]; exact hMR.2.2.2.2.1, by rw [k3 _ (by omega) (by omega), j4 _ (by omega)]; exact hMR.2.2.2.2.2.1, ?_, ?_⟩
                · intro s s0 s3
                  obtain ⟨i, rfl⟩ : ∃ i : Nat, s = (i : Int) := ⟨s.toNat, by omega⟩
                  unfold stp pcs
                  rw [show ((i : Int)).toNat = i by omega, jm_ne (by omega), jm_ne (by omega), jn33, jn34]
                  by_cases z : i < 2
                  · have := g2.1 i (by omega)
                    rw [hsh i z] at this
                    rw [if_pos z, if_pos z, f3.g1 56 0 i (by omega), f3.g1 57 0 i (by omega)]; exact this
                  · have e : i = 2 := by omega
                    subst e
                    rw [if_neg z, if_neg z, ← hM3]
                    refine ⟨?_, ?_⟩
                    · rw [sI_ne (by omega), sI_ne (by omega), sI_ne (by omega), sI_eq]
                    · rw [sI_ne (by omega), sI_ne (by omega), sI_eq]
                · intro s e s0 s3 e1 e4
                  obtain ⟨i, rfl⟩ : ∃ i : Nat, s = (i : Int) := ⟨s.toNat, by omega⟩
                  obtain ⟨k, rfl⟩ : ∃ k : Nat, e = (k : Int) := ⟨e.toNat, by omega⟩
                  have := g2.2 i k (by omega) (by omega) (by omega)
                  unfold cst chc
                  rw [show ((i : Int)).toNat = i by omega, show ((k : Int)).toNat = k by omega, show ((i : Int) * 5 + (k : Int)).toNat = i * 5 + k by omega, f3.g1 59 i k (by omega), f3.g1 61 i k (by omega)]
                  by_cases z : i < 2
                  · rw [hsh i z] at this
                    rw [jm_ne (by omega), jm_ne (by omega), jn35, jn36, if_pos (by omega), if_pos (by omega), show (i * 5 + k) / 5 = i by omega, show (i * 5 + k) % 5 = k by omega]; exact this
                  · have e : i = 2 := by omega
                    subst e
                    rw [if_neg (by omega)] at this
                    rw [jm35 (by omega), jm36 (by omega), show 2 * 5 + k - 10 = k by omega]; exact this
              have hWm := hW.jmW hjp
              have e41 : jm R an bn 4 1 = R 4 1 - 1 := by rw [jm_ne (by omega), jn4, if_pos rfl]
              have e42 : jm R an bn 4 2 = R 4 2 := by rw [jm_ne (by omega), jn4, if_neg (by omega)]
              have hlv : LvR T (jm R an bn) := fun w o k a b c e f => by rw [jm_ne (by omega), jn38]; exact hx.lv w o k a b c e f
              have t11 : M3.1 10 0 11 = (n : Int) := (k3 11 (by omega) (by omega)).trans hcm0.2.1
              have tB : ∀ j : Nat, j < n → M3.1 55 0 j = B j := fun j hj => (fB.g1 55 0 j (by omega)).trans (hcm0.2.2.1 j hj)
              have t19 : M3.1 10 0 19 = wh (T 1) := (k3 19 (by omega) (by omega)).trans hcm0.2.2.2.2.1
              refine m_solve (d := d) mr hWm (by rw [e41]; omega) (hl_of2 hx.1 hWm hlv hx.2.2.1 t11 tB t19) (fun z => absurd h44 z) ?_
              intro M4 f4 sv _
              have mr4 : MR (jm R an bn) M4 := mr.fs f4 (fun t i j z => by have := sv_no z; omega)
              have k4 : ∀ t i j, (t = 55 ∨ (t = 10 ∧ (j = 0 ∨ 11 ≤ j ∧ j ≤ 20))) → M4.1 t i j = M3.1 t i j := fun t i j h => f4.g1 t i j (fun z => by have := sv_no z; omega)
              have hbm := hWm.b
              have hbR : 0 ≤ bgn (jm R an bn) ∧ bgn (jm R an bn) < 125 := bgo_R hWm _
              have hpw := pw_n (n := jm R an bn 4 1) (by omega)
              have hev : 0 ≤ evb (jm R an bn) ∧ evb (jm R an bn) < 8 := by unfold evb; omega
              have hpr : 0 ≤ (if (an : Int) < (bn : Int) then (an : Int) else (an : Int) - 1) ∧ (if (an : Int) < (bn : Int) then (an : Int) else (an : Int) - 1) < jm R an bn 4 1 := by rw [e41]; split <;> omega
              have ew := wrt_evb hWm (by rw [e41]; omega) sv (w := jm R an bn 4 2) (p := bgn (jm R an bn)) (by omega) hbR (bgn_plain hWm) hpr
              have ev : Wf (jm R an bn) (jm R an bn 4 2).toNat (bgn (jm R an bn)) (if (an : Int) < (bn : Int) then (an : Int) else (an : Int) - 1) = joV R (an : Int) (bn : Int) := by
                unfold joV
                rw [e42, (jm_ag hW).WfE _ (by omega), (jm_ag hW).bgnE, ean, ebn]
              rw [ev] at ew
              rw [KU_eq, bMo_joined_229 (by rw [mr4.2.1]; omega), m_beginPlace mr4 hWm, KV_eq, bMo_joined_236 hbR, m_everybody mr4 hWm, KV_eq, bMo_joined_239 hev, mr4.2.1]
              have last : ∀ z1 z2 z3 z4 : AV, At (d + 63) kMo_joined 248 [vr 10 0, z1, z2, z3, z4] [vi (if (an : Int) < (bn : Int) then (an : Int) else (an : Int) - 1), vr 71 (((0 * 7 + (jm R an bn 4 2).toNat) * 125 + (bgn (jm R an bn)).toNat) * 8 + (evb (jm R an bn)).toNat)] M4 Q X := by
                intro z1 z2 z3 z4
                rw [bMo_joined_248 (by omega), ew]
                refine Call_up (d := d + 56) (show d + 56 ≤ d + 63 by omega) (m_tellsAgain hx ((k4 10 0 11 (by omega)).trans t11) (fun j hj => (k4 55 0 j (by omega)).trans (tB j hj)) ?_)
                intro M5 f5 c5 _
                rw [KU_eq, bMo_joined_252]
                refine hq' M5 ?_ ?_ c5
                · exact (fs0.tr (fB.mono (fun t i j z => by omega))).tr ((f4.mono (fun t i j z => (sv_no z).1)).tr (f5.mono (fun t i j z => (ta_sc z).1)))
                · rw [f5.g1 10 0 0 (fun z => (ta_sc z).2 ⟨rfl, rfl⟩), k4 10 0 0 (by omega), k3 0 (by omega) (by omega)]; exact z0
              by_cases hle : (an : Int) ≤ (bn : Int)
              · rw [if_pos (by omega)] at last
                rw [if_pos hle, bMo_joined_247]; exact last _ _ _ _
              · rw [if_neg (by omega)] at last
                rw [if_neg hle, bMo_joined_243, w32_id (by omega)]; exact last _ _ _ _
          rw [bMo_joined_124 (by omega), ean, ebn, k57 an (by omega), k57 bn (by omega)]
          by_cases hc2 : R 34 an ≤ R 34 bn
          · rw [if_pos hc2, bMo_joined_141 (by omega), ebn, k57 bn (by omega), bMo_joined_145 (by omega), ean]
            exact goShift _ (by unfold m2; rw [if_pos rfl]; split <;> omega)
          · rw [if_neg hc2, bMo_joined_136 (by omega), ean, k57 an (by omega), bMo_joined_145 (by omega), ean]
            exact goShift _ (by unfold m2; rw [if_pos rfl]; split <;> omega)
        by_cases hc1 : R 33 bn ≤ R 33 an
        · have e : m1 R an bn an = R 33 bn := by unfold m1; rw [if_pos rfl]; split <;> omega
          rw [e] at goMerge
          rw [if_pos hc1, bMo_joined_65 (by omega), ebn, (r56 bn (by omega)).1, bMo_joined_69 (by omega), ean]; exact goMerge
        · have e : m1 R an bn an = R 33 an := by unfold m1; rw [if_pos rfl]; split <;> omega
          rw [e] at goMerge
          rw [if_neg hc1, bMo_joined_60 (by omega), ean, (r56 an (by omega)).1, bMo_joined_69 (by omega), ean]; exact goMerge
    · rw [if_neg (by rw [if_neg (by omega)]; omega)]
      exact no2 (fun z => hbs z.2)
  · rw [if_pos (by rw [if_neg (by omega)])]
    exact no2 (fun z => ha z.1)
end
