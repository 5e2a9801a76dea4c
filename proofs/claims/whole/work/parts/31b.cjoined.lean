/-! LAYER 3, PARTNERS: the class -/
theorem TX.c99 {R B n T} (h : TX R B n T) : ∀ k : Nat, k < 15 → R 35 k ≤ 99 := by
  obtain ⟨hn, -, -, D, ht, hr⟩ := h
  have hw := (txt_wd hn ht).1.2
  intro k hk
  rw [hr.2.1 35 k (by omega)]
  have := ((hw (k / 5) (by omega)).2.2.2.2 (k % 5) (by omega)).1.2
  rwa [show k / 5 * 5 + k % 5 = k by omega] at this
section
variable {d : Nat} {Q : AV → Mem → Prop} {X : Nat → Mem → Prop}
theorem c_moveShop {M : Mem} {f s : Nat} (hf : f < 3) (hs : s < 3) (hne : f ≠ s)
    (hq : ∀ M', Fs (pCs 5 s) M M' → M'.1 33 5 s = M.1 33 5 f → M'.1 34 5 s = M.1 34 5 f → M'.1 37 5 s = M.1 37 5 f % 2 → (∀ e : Nat, e < 5 → M'.1 35 5 (s * 5 + e) = M.1 35 5 (f * 5 + e) ∧ M'.1 36 5 (s * 5 + e) = M.1 36 5 (f * 5 + e)) → Q (vi 0) M') : Call (d + 1) qRa_moveShop [vr 4 5, vi (f : Int), vi (s : Int)] M Q X := by
  have e1 : w32 ((f : Int) * 5) = (f : Int) * 5 := w32_id (by omega)
  have e2 : w32 ((s : Int) * 5) = (s : Int) * 5 := w32_id (by omega)
  rw [eRa_moveShop, bRa_moveShop_0 (by rw [e1, e2]; omega), e1, e2, show ((f : Int)).toNat = f by omega, show ((s : Int)).toNat = s by omega, show ((f : Int) * 5).toNat = f * 5 by omega, show ((s : Int) * 5).toNat = s * 5 by omega, show ((5 : Int)).toNat = 5 from rfl]
  generalize hM3 : sI (sI (sI M 33 5 s (M.1 33 5 f)) 34 5 s ((sI M 33 5 s (M.1 33 5 f)).1 34 5 f)) 37 5 s (((sI (sI M 33 5 s (M.1 33 5 f)) 34 5 s ((sI M 33 5 s (M.1 33 5 f)).1 34 5 f)).1 37 5 f) % 2) = M3
  have g3 : ∀ t i j, ¬ (i = 5 ∧ (t = 33 ∨ t = 34 ∨ t = 37) ∧ j = s) → M3.1 t i j = M.1 t i j := fun t i j h => by rw [← hM3, sI_ne (by omega), sI_ne (by omega), sI_ne (by omega)]
  have f3 : Fs (pCs 5 s) M M3 := by rw [← hM3]; exact ((Fs.rf.sI (by omega)).sI (by omega)).sI (by omega)
  refine hq _ ((f3.cpI (fun j _ _ => by omega)).cpI (fun j _ _ => by omega)) ?_ ?_ ?_ ?_
  · rw [cpI1, if_neg (by omega), cpI1, if_neg (by omega), ← hM3, sI_ne (by omega), sI_ne (by omega), sI_eq]
  · rw [cpI1, if_neg (by omega), cpI1, if_neg (by omega), ← hM3, sI_ne (by omega), sI_eq, sI_ne (by omega)]
  · rw [cpI1, if_neg (by omega), cpI1, if_neg (by omega), ← hM3, sI_eq, sI_ne (by omega), sI_ne (by omega)]
  · intro e he
    constructor
    · rw [cpI1, if_neg (by omega), cpI1, if_pos (by omega), g3 _ _ _ (by omega), show f * 5 + (s * 5 + e - s * 5) = f * 5 + e by omega]
    · rw [cpI1, if_pos (by omega), cpI1, if_neg (by omega), g3 _ _ _ (by omega), show f * 5 + (s * 5 + e - s * 5) = f * 5 + e by omega]
abbrev pMg (a x : Nat) (t i j : Nat) : Prop := i = 5 ∧ ((t = 33 ∨ t = 34) ∧ j = a ∨ (t = 35 ∨ t = 36) ∧ a * 5 + 1 ≤ j ∧ j < a * 5 + x)
/-- what stands when the two are merged -/
def Mgd (R : RT) (a b : Nat) (M : Mem) : Prop := (∀ i : Nat, i < 3 → M.1 33 5 i = m1 R a b i ∧ M.1 34 5 i = m2 R a b i) ∧ ∀ i e : Nat, i < 3 → e < 5 → M.1 35 5 (i * 5 + e) = m3 R a b i e ∧ M.1 36 5 (i * 5 + e) = m4 R a b i e
theorem c_merge {M : Mem} {R : RT} {a b : Nat} (hR : rd M 5 = R) (h : WR R) (hj : JP R a b) (ha : a < 3) (hb3 : b < 3)
    (hq : ∀ M' z4 z5, Fs (pMg a 4) M M' → Mgd R a b M' → At (d + 1) kRa_joinShops 71 [vr 4 5, vi (a : Int), vi (b : Int), vi 4, z4, z5] [] M' Q X) : At (d + 1) kRa_joinShops 0 [vr 4 5, vi (a : Int), vi (b : Int), JK, JK, JK] [] M Q X := by
  obtain ⟨ja, jb, jab, j5⟩ := hj
  have ea : ((a : Int)).toNat = a := by omega
  have eb : ((b : Int)).toNat = b := by omega
  rw [bRa_joinShops_0 (by omega), c_min, KV_eq, ea, eb, bRa_joinShops_12 (by omega), c_max, KV_eq, ea, eb, bRa_joinShops_25 (by omega), ea, rd33, rd33, sI_ne (by omega), sI_ne (by omega), rd34, rd34, hR]
  have r5 : ∀ j, M.1 35 5 j = R 35 j := fun j => by rw [← hR]; rfl
  have r6 : ∀ j, M.1 36 5 j = R 36 j := fun j => by rw [← hR]; rfl
  have r3 : ∀ j, M.1 33 5 j = R 33 j := fun j => by rw [← hR]; rfl
  have r4 : ∀ j, M.1 34 5 j = R 34 j := fun j => by rw [← hR]; rfl
  have q5 := h.2.2.2.2.2.2.2.2.2.2.1
  refine loop_up (fun (x : Int) (A : Mem × AV × AV) => At (d + 1) kRa_joinShops 28 [vr 4 5, vi (a : Int), vi (b : Int), vi x, A.2.1, A.2.2] [] A.1 Q X)
    (fun (x : Int) (A : Mem × AV × AV) => Fs (pMg a x.toNat) M A.1 ∧ (A.1.1 33 5 a = (if R 33 b < R 33 a then R 33 b else R 33 a) ∧ A.1.1 34 5 a = (if R 34 a < R 34 b then R 34 b else R 34 a)) ∧ ∀ e : Nat, 1 ≤ e → (e : Int) < x → A.1.1 35 5 (a * 5 + e) = R 35 (a * 5 + e) + R 35 (b * 5 + e) ∧ A.1.1 36 5 (a * 5 + e) = (if R 36 (a * 5 + e) < R 36 (b * 5 + e) then R 36 (b * 5 + e) else R 36 (a * 5 + e))) 1 4 ?_ ?_ 1 (_, _, _) (by omega) (by omega) ⟨(Fs.rf.sI (by omega)).sI (by omega), ⟨?_, ?_⟩, fun e _ _ => by omega⟩
  · rintro ⟨M1, z4, z5⟩ ⟨f1, ⟨g1, g2⟩, g3⟩
    show At _ _ _ _ _ _ _ _
    rw [bRa_joinShops_28, if_pos (by omega)]
    refine hq M1 _ _ f1 ⟨fun i hi => ?_, fun i e hi he => ?_⟩
    · unfold m1 m2
      by_cases z : i = a
      · rw [if_pos z, if_pos z, z]; exact ⟨g1, g2⟩
      · rw [if_neg z, if_neg z, f1.g1 33 5 i (by omega), f1.g1 34 5 i (by omega)]; exact ⟨r3 i, r4 i⟩
    · unfold m3 m4
      by_cases z : i = a ∧ 1 ≤ e ∧ e ≤ 3
      · rw [if_pos z, if_pos z, z.1]; exact g3 e z.2.1 (by omega)
      · have hno : ∀ t, (t = 35 ∨ t = 36) → ¬ pMg a 4 t 5 (i * 5 + e) := fun t ht hp => by
          apply z
          omega
        rw [if_neg z, if_neg z, f1.g1 35 5 _ (hno 35 (by omega)), f1.g1 36 5 _ (hno 36 (by omega))]; exact ⟨r5 _, r6 _⟩
  · rintro x ⟨M1, z4, z5⟩ x0 x1 ⟨f1, ⟨g1, g2⟩, g3⟩ ih
    have e1 : w32 ((a : Int) * 5) = (a : Int) * 5 := w32_id (by omega)
    have e2 : w32 ((b : Int) * 5) = (b : Int) * 5 := w32_id (by omega)
    have e3 : w32 ((a : Int) * 5 + x) = (a : Int) * 5 + x := w32_id (by omega)
    have e4 : w32 ((b : Int) * 5 + x) = (b : Int) * 5 + x := w32_id (by omega)
    obtain ⟨xn, rfl⟩ : ∃ xn : Nat, x = (xn : Int) := ⟨x.toNat, by omega⟩
    have t1 : ((a : Int) * 5 + (xn : Int)).toNat = a * 5 + xn := by omega
    have t2 : ((b : Int) * 5 + (xn : Int)).toNat = b * 5 + xn := by omega
    have v1 : M1.1 35 5 (a * 5 + xn) = R 35 (a * 5 + xn) := (f1.g1 35 5 _ (by omega)).trans (r5 _)
    have v2 : M1.1 35 5 (b * 5 + xn) = R 35 (b * 5 + xn) := (f1.g1 35 5 _ (by omega)).trans (r5 _)
    have v3 : M1.1 36 5 (a * 5 + xn) = R 36 (a * 5 + xn) := (f1.g1 36 5 _ (by omega)).trans (r6 _)
    have v4 : M1.1 36 5 (b * 5 + xn) = R 36 (b * 5 + xn) := (f1.g1 36 5 _ (by omega)).trans (r6 _)
    have b1 := q5 (a * 5 + xn) (by omega)
    have b2 := q5 (b * 5 + xn) (by omega)
    show At _ _ _ _ _ _ _ _
    rw [bRa_joinShops_28, if_neg (by omega), bRa_joinShops_31 (by rw [e1, e2, e3, e4]; omega), e1, e2, e3, e4, t1, t2, c_max, KV_eq, bRa_joinShops_68 (by omega), t1, v1, v2, sI_ne (by omega), sI_ne (by omega), v3, v4, w32_id (z := R 35 (a * 5 + xn) + R 35 (b * 5 + xn)) (by omega), w32_id (by omega)]
    refine ih (_, _, _) ⟨((f1.mono (fun t i j z => by omega)).sI (by omega)).sI (by omega), ⟨?_, ?_⟩, fun e e0 e1 => ?_⟩
    · show (sI _ _ _ _ _).1 _ _ _ = _
      rw [sI_ne (by omega), sI_ne (by omega)]; exact g1
    · show (sI _ _ _ _ _).1 _ _ _ = _
      rw [sI_ne (by omega), sI_ne (by omega)]; exact g2
    · show (sI _ _ _ _ _).1 _ _ _ = _ ∧ (sI _ _ _ _ _).1 _ _ _ = _
      by_cases z : e = xn
      · subst z
        rw [sI_ne (by omega), sI_eq, sI_eq]; exact ⟨rfl, rfl⟩
      · rw [sI_ne (by omega), sI_ne (by omega), sI_ne (by omega), sI_ne (by omega)]; exact g3 e e0 (by omega)
  · show (sI _ _ _ _ _).1 _ _ _ = _
    rw [sI_ne (by omega), sI_eq]
  · show (sI _ _ _ _ _).1 _ _ _ = _
    rw [sI_eq]
/-- one of them moved to the place before it -/
def Mvd (R : RT) (a b x : Nat) (M : Mem) : Prop := (∀ i : Nat, i < 3 → M.1 33 5 i = m1 R a b (if b ≤ i ∧ i < x then i + 1 else i) ∧ M.1 34 5 i = m2 R a b (if b ≤ i ∧ i < x then i + 1 else i) ∧ M.1 37 5 i = R 37 (if b ≤ i ∧ i < x then i + 1 else i)) ∧ ∀ i e : Nat, i < 3 → e < 5 → M.1 35 5 (i * 5 + e) = m3 R a b (if b ≤ i ∧ i < x then i + 1 else i) e ∧ M.1 36 5 (i * 5 + e) = m4 R a b (if b ≤ i ∧ i < x then i + 1 else i) e
theorem c_joinShops {M : Mem} {R : RT} {a b : Nat} (hR : rd M 5 = R) (h : WR R) (hj : JP R a b) (ha : a < 3) (hb3 : b < 3)
    (hq : ∀ M', Fs (pCp 5) M M' → (∀ t j, inRa t j → M'.1 t 5 j = jn R a b t j) → Q (vi (if a < b then (a : Int) else (a : Int) - 1)) M') : Call (d + 2) qRa_joinShops [vr 4 5, vi (a : Int), vi (b : Int)] M Q X := by
  have hbb := h.b
  have hj' := hj
  obtain ⟨ja, jb, jab, j5⟩ := hj'
  have h37 := h.2.2.2.2.2.2.2.2.2.2.2.2.2.1
  rw [eRa_joinShops]
  refine c_merge hR h hj ha hb3 ?_
  intro M1 z4 z5 f1 g1
  have f1' : Fs (pCp 5) M M1 := f1.mono (fun t i j z => ⟨z.1, by unfold inRa; omega⟩)
  rw [bRa_joinShops_71]
  refine loop_up (fun (x : Int) (M2 : Mem) => At (d + 1) kRa_joinShops 73 [vr 4 5, vi (a : Int), vi (b : Int), vi x, z4, z5] [] M2 Q X) (fun (x : Int) (M2 : Mem) => Fs (pCp 5) M M2 ∧ (∀ t j, t = 4 ∨ t = 38 → M2.1 t 5 j = M.1 t 5 j) ∧ Mvd R a b x.toNat M2) (b : Int) 2 ?_ ?_ (b : Int) M1 (by omega) (by omega) ⟨f1', fun t j ht => f1.g1 t 5 j (by omega), ?_⟩
  · rintro M2 ⟨f2, k2, g2⟩
    show At _ _ _ _ _ _ _ _
    rw [bRa_joinShops_73, w32_id (by omega), if_pos (by omega), bRa_joinShops_86]
    refine c_clearShop (i := 5) (s := 2) (by omega) ?_
    intro M3 f3 g3
    rw [KU_eq, bRa_joinShops_89]
    have e41 : M3.1 4 5 1 = R 4 1 := by rw [f3.g1 4 5 1 (by omega), k2 4 1 (by omega), ← hR]; rfl
    rw [e41, w32_id (by omega)]
    generalize hM4 : sI M3 4 5 1 (R 4 1 - 1) = M4
    have fin : Q (vi (if a < b then (a : Int) else (a : Int) - 1)) M4 := by
      refine hq M4 ?_ ?_
      · rw [← hM4]; exact (f2.tr (f3.mono (fun t i j z => ⟨z.1, by unfold inRa; omega⟩))).sI ⟨rfl, by unfold inRa; omega⟩
      · intro t j hin
        have n4 : t ≠ 4 ∨ j ≠ 1 → M4.1 t 5 j = M3.1 t 5 j := fun z => by rw [← hM4, sI_ne (by omega)]
        have hsh : ∀ i : Nat, i < 2 → (if b ≤ i ∧ i < (2 : Int).toNat then i + 1 else i) = shf b i := fun i hi => by
          unfold shf
          by_cases z : i < b
          · rw [if_neg (by omega), if_pos z]
          · rw [if_pos ⟨by omega, by omega⟩, if_neg z]
        rcases (show (t = 4 ∧ j < 8) ∨ ((t = 33 ∨ t = 34 ∨ t = 37) ∧ j < 3) ∨ ((t = 35 ∨ t = 36) ∧ j < 15) ∨ (t = 38 ∧ j < 175) from hin) with ⟨rfl, hj8⟩ | ⟨ht, hj3⟩ | ⟨ht, hj15⟩ | ⟨rfl, _⟩
        · rw [jn4]
          by_cases z : j = 1
          · rw [if_pos z, z, ← hM4, sI_eq]
          · rw [if_neg z, n4 (by omega), f3.g1 4 5 j (by omega), k2 4 j (by omega), ← hR]; rfl
        · rw [n4 (by omega)]
          by_cases z : j < 2
          · obtain ⟨p1, p2, p3⟩ := g2.1 j (by omega)
            rw [hsh j z] at p1 p2 p3
            rw [f3.g1 t 5 j (by omega)]
            rcases ht with rfl | rfl | rfl
            · rw [jn33, if_pos z]; exact p1
            · rw [jn34, if_pos z]; exact p2
            · rw [jn37, if_pos z]; exact p3
          · have e : j = 2 := by omega
            subst e
            rcases ht with rfl | rfl | rfl
            · exact g3.1
            · exact g3.2.1
            · exact g3.2.2.1
        · rw [n4 (by omega)]
          by_cases z : j < 10
          · obtain ⟨p1, p2⟩ := g2.2 (j / 5) (j % 5) (by omega) (by omega)
            rw [hsh (j / 5) (by omega), show j / 5 * 5 + j % 5 = j by omega] at p1 p2
            rw [f3.g1 t 5 j (by omega)]
            rcases ht with rfl | rfl
            · rw [jn35, if_pos z]; exact p1
            · rw [jn36, if_pos z]; exact p2
          · obtain ⟨p1, p2⟩ := g3.2.2.2 (j - 10) (by omega)
            rw [show 2 * 5 + (j - 10) = j by omega] at p1 p2
            rcases ht with rfl | rfl
            · rw [jn35, if_neg z]; exact p1
            · rw [jn36, if_neg z]; exact p2
        · rw [jn38, n4 (by omega), f3.g1 38 5 j (by omega), k2 38 j (by omega), ← hR]; rfl
    by_cases hab : b ≤ a
    · rw [if_neg (by omega)] at fin
      rw [if_pos (by omega), bRa_joinShops_100, bRa_joinShops_103, w32_id (by omega)]; exact fin
    · rw [if_pos (by omega)] at fin
      rw [if_neg (by omega), bRa_joinShops_98, bRa_joinShops_103]; exact fin
  · rintro x M2 x0 x1 ⟨f2, k2, g2⟩ ih
    obtain ⟨xn, rfl⟩ : ∃ xn : Nat, x = (xn : Int) := ⟨x.toNat, by omega⟩
    have g2 : Mvd R a b xn M2 := g2
    show At _ _ _ _ _ _ _ _
    rw [bRa_joinShops_73, w32_id (by omega), if_neg (by omega), bRa_joinShops_78, w32_id (by omega), show ((xn : Int) + 1) = ((xn + 1 : Nat) : Int) by omega]
    refine c_moveShop (f := xn + 1) (s := xn) (by omega) (by omega) (by omega) ?_
    intro M3 f3 p33 p34 p37 pe
    rw [KU_eq, bRa_joinShops_84, w32_id (by omega)]
    refine ih M3 ⟨f2.tr (f3.mono (fun t i j z => ⟨z.1, by unfold inRa; omega⟩)), fun t j ht => (f3.g1 t 5 j (by omega)).trans (k2 t j ht), ?_⟩
    show Mvd R a b ((xn : Int) + 1).toNat M3
    rw [show ((xn : Int) + 1).toNat = xn + 1 by omega]
    refine ⟨fun i hi => ?_, fun i e hi he => ?_⟩
    · by_cases z : i = xn
      · subst z
        obtain ⟨u1, u2, u3⟩ := g2.1 (i + 1) (by omega)
        rw [if_neg (by omega)] at u1 u2 u3
        rw [if_pos ⟨by omega, by omega⟩, p33, p34, p37, u1, u2, u3]
        refine ⟨rfl, rfl, ?_⟩
        rcases h37 (i + 1) (by omega) with q | q <;> rw [q] <;> rfl
      · obtain ⟨u1, u2, u3⟩ := g2.1 i hi
        have ec : (if b ≤ i ∧ i < xn + 1 then i + 1 else i) = (if b ≤ i ∧ i < xn then i + 1 else i) := by
          by_cases q : b ≤ i ∧ i < xn
          · rw [if_pos q, if_pos (by omega)]
          · rw [if_neg q, if_neg (by omega)]
        rw [ec, f3.g1 33 5 i (by omega), f3.g1 34 5 i (by omega), f3.g1 37 5 i (by omega)]
        exact ⟨u1, u2, u3⟩
    · by_cases z : i = xn
      · subst z
        obtain ⟨u1, u2⟩ := g2.2 (i + 1) e (by omega) he
        rw [if_neg (by omega)] at u1 u2
        rw [if_pos ⟨by omega, by omega⟩, (pe e he).1, (pe e he).2, u1, u2]
        exact ⟨rfl, rfl⟩
      · obtain ⟨u1, u2⟩ := g2.2 i e hi he
        have ec : (if b ≤ i ∧ i < xn + 1 then i + 1 else i) = (if b ≤ i ∧ i < xn then i + 1 else i) := by
          by_cases q : b ≤ i ∧ i < xn
          · rw [if_pos q, if_pos (by omega)]
          · rw [if_neg q, if_neg (by omega)]
        rw [ec, f3.g1 35 5 _ (by omega), f3.g1 36 5 _ (by omega)]
        exact ⟨u1, u2⟩
  · show Mvd R a b ((b : Int)).toNat M1
    rw [show ((b : Int)).toNat = b by omega]
    refine ⟨fun i hi => ?_, fun i e hi he => ?_⟩
    · rw [if_neg (by omega)]
      refine ⟨(g1.1 i hi).1, (g1.1 i hi).2, ?_⟩
      rw [f1.g1 37 5 i (by omega), ← hR]; rfl
    · rw [if_neg (by omega)]; exact g1.2 i e hi he
/-- what the partners are worth -/
def joV (R : RT) (a b : Int) : Int64 := Wf (jn R a.toNat b.toNat) (R 4 2).toNat (bgn (jn R a.toNat b.toNat)) (if a < b then a else a - 1)
theorem c_joined {M : Mem} {a b : Int} (h0 : CI0 M) (hb : Cb M) (h99 : 1 ≤ rd M 0 4 1 → ∀ k : Nat, k < 15 → rd M 0 35 k ≤ 99) (hx1 : tT (rd M 0) a b = 1 → X 0 M) (hx2 : tT (rd M 0) a b = 2 → X 1 M) (hx3 : tT (rd M 0) a b = 3 → X 2 M) (hq : ∀ M', tT (rd M 0) a b = 0 → Fs pEd M M' → CI0 M' → Cb M' → Q (vl (joV (rd M 0) a b)) M') : Call (d + 8) qPR_joined [vr 9 0, vi a, vi b] M Q X := by
  have hW := h0.2.2.1 0 (by omega)
  have hbb := hW.b
  unfold tT at hx1 hx2 hx3 hq
  rw [ePR_joined, bPR_joined_0, c_needRace]
  by_cases hn : rd M 0 4 1 = 0
  · rw [if_pos hn] at hx1; rw [if_pos hn]; exact hx1 rfl
  rw [if_neg hn] at hq hx2 hx3
  rw [if_neg hn, KU_eq, bPR_joined_2, c_needTwo (by omega)]
  by_cases hs : (0 ≤ a ∧ a < rd M 0 4 1) ∧ (0 ≤ b ∧ b < rd M 0 4 1)
  · rw [if_pos hs] at hq hx3
    rw [if_pos hs]
    by_cases hab : a = b
    · rw [if_pos hab] at hx3; rw [if_pos hab]; exact hx3 rfl
    rw [if_neg hab] at hq
    rw [if_neg hab, KU_eq, bPR_joined_6]
    have hq := fun M' => hq M' rfl
    obtain ⟨an, rfl⟩ : ∃ an : Nat, a = (an : Int) := ⟨a.toNat, by omega⟩
    obtain ⟨bn, rfl⟩ : ∃ bn : Nat, b = (bn : Int) := ⟨b.toNat, by omega⟩
    have hjp : JP (rd M 0) an bn := ⟨hs.1.2, hs.2.2, by omega, h99 (by omega)⟩
    refine c_copyFrom (by omega) (h0.2.1 5 (by omega) (by omega)) ?_
    intro M1 f1 r1 zo1
    rw [nm_rd (h0.2.1 0 (by omega) (by omega))] at r1
    rw [KU_eq, bPR_joined_12]
    refine c_joinShops (d := d + 5) r1 hW hjp (by omega) (by omega) ?_
    intro M2 f2 g2
    have zo2 : Zo M2 5 := zo1.fs f2 (fun t j ht hn z => hn z.2)
    have hag : Ag (jn (rd M 0) an bn) (rd M2 5) := by
      have g : ∀ t j, inRa t j → rd M2 5 t j = jn (rd M 0) an bn t j := fun t j hi => by
        rw [← g2 t j hi]
        unfold rd
        rw [if_pos (by unfold inRa at hi; omega)]
      exact ⟨fun j _ _ => g 4 j (by unfold inRa; omega), fun s _ => ⟨g 33 s (by unfold inRa; omega), g 34 s (by unfold inRa; omega)⟩, fun s e _ _ _ => ⟨g 35 _ (by unfold inRa; omega), g 36 _ (by unfold inRa; omega)⟩, fun j _ => g 38 j (by unfold inRa; omega)⟩
    have hW2 : WR (rd M2 5) := (hW.jnW hjp).cg (fun t j hi _ => by
        rw [← g2 t j hi]
        unfold rd
        rw [if_pos (by unfold inRa at hi; omega)])
    rw [KV_eq, bPR_joined_17]
    have f12 : Fs (pCp 5) M M2 := f1.tr f2
    have hz2 : Bz 2 M2 := (h0.1 2 (by omega)).fs f12 (fun t j ht z => by unfold pCp inRa at z; omega)
    refine c_settle (d := d + 1) (b := 2) (al := 0) rfl hW2 hz2 ?_
    intro M3 f3 z3 c3
    have r3 : rd M3 5 = rd M2 5 := rd_fr f3 (fun t ht z => by unfold pCl at z; omega)
    have e42 : M3.1 4 5 2 = rd M2 5 4 2 := by rw [← r3]; rfl
    have hb2 := hW2.b
    have hbR : 0 ≤ bgn (rd M2 5) ∧ bgn (rd M2 5) < 125 := bgo_R hW2 _
    have hpr : 0 ≤ (if an < bn then (an : Int) else (an : Int) - 1) ∧ (if an < bn then (an : Int) else (an : Int) - 1) < 3 := by split <;> omega
    rw [KU_eq, bPR_joined_22, c_beginning (by rw [r3]; exact hW2), KV_eq, bPR_joined_30, r3, e42, c_worthAt (by omega) hbR hpr, KV_eq, bPR_joined_32, Sid.wrt (R := rd M2 5) (M := M3) (fun w x a b c e g => c3 w x a b c e g) z3 hW2 hpr]
    have ev : Wf (rd M2 5) (rd M2 5 4 2).toNat (bgn (rd M2 5)) (if an < bn then (an : Int) else (an : Int) - 1) = joV (rd M 0) (an : Int) (bn : Int) := by
      unfold joV
      have e2 : rd M2 5 4 2 = rd M 0 4 2 := (hag.1 2 (by omega) (by omega)).trans (by rw [jn4, if_neg (by omega)])
      rw [e2, hag.WfE _ (by omega), hag.bgnE, show ((an : Int)).toNat = an by omega, show ((bn : Int)).toNat = bn by omega]
      congr 1
      by_cases z : an < bn
      · rw [if_pos z, if_pos (by omega)]
      · rw [if_neg z, if_neg (by omega)]
    rw [ev]
    have f3' : Fs pEd M M3 := (f12.mono (fun t i j z => Or.inr z)).tr (f3.fs (fun t i j z => Or.inl z))
    have c0 : CI0 M3 := by
      refine h0.fs f3' ?_ (zo2.fr f3 (fun t ht z => by unfold pCl at z; omega)) (fun t i j z => ⟨fun y => (ed_no z).1 ⟨y.1, by omega⟩, fun y => (ed_no z).2.2.1 y.1⟩)
      intro b hb3
      by_cases e : b = 2
      · subst e; exact z3
      · exact (h0.1 b hb3).fs f3' (fun t j a z => (ed_no z).2.1 ⟨by omega, by omega⟩)
    have rds : ∀ i : Nat, i < 4 → rd M3 i = rd M i := fun i hi => rd_fs f3' (fun t j ht z => (ed_no z).1 ⟨ht, by omega⟩)
    refine hq M3 f3' c0 ⟨?_, ?_⟩
    · rw [f3'.g1 0 0 2 (fun z => (ed_no z).2.2.2.1 rfl), f3'.g1 9 0 1 (fun z => (ed_no z).2.2.1 rfl)]; exact hb.1
    · intro i hi
      rw [rds i hi, f3'.g1 4 i 0 (fun z => (ed_no z).1 ⟨Or.inl rfl, by omega⟩), f3'.g1 0 0 2 (fun z => (ed_no z).2.2.2.1 rfl)]
      intro a c
      exact (hb.2 i hi a c).fs f3' (fun t j a z => (ed_no z).2.1 ⟨by omega, by omega⟩)
  · rw [if_neg hs] at hx2 ⊢; exact hx2 rfl
end
