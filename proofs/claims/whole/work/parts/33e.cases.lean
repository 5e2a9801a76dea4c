/-! LAYER 4, THE LAW: its cases that only ask (by gen33.py) -/
section
variable {L : Nat} {xs : Nat → Int} {i : Int} {d : Nat} {Q : AV → Mem → Prop} {X : Nat → Mem → Prop}
theorem la_told {M : Mem} {z5 z6 z7 : AV} (hLI : LI L xs i M) (hi : 0 ≤ i ∧ i + 6 ≤ L) (hL : L ≤ 3072) (hx : ∀ j, -2147483648 ≤ xs j ∧ xs j ≤ 2147483647)
    (hq : ∀ M' z5 z6 z7, LI L xs (i + 6) M' → At (d + 70) kLa_law 1175 [vr 118 0, vr 9 0, vr 10 0, vr 115 0, vi i, z5, z6, z7] [] M' Q X) : At (d + 70) kLa_law 124 [vr 118 0, vr 9 0, vr 10 0, vr 115 0, vi i, z5, z6, z7] [] M Q X := by
  obtain ⟨hs, ⟨g0, g1⟩, U, f, B, pl, n, P, m, I, ic, ir, is⟩ := hLI
  have e1 : w32 (i + 1) = i + 1 := w32_id (by omega)
  rw [bLa_law_124 (by rw [e1, hs.1]; omega), e1, hs.2]
  refine Call_up (d := d + 2) (show d + 2 ≤ d + 70 by omega) (h_told ic is.2.2.2.1 ⟨g0, by omega⟩ ir.1  ?_)
  intro M1 ic1 r1 af1 v1
  have s1 : ∀ a b, M1.1 118 a b = M.1 118 a b := fun a b => af1.1.g1 118 a b (by omega)
  have ir1 := ir.kp af1.1 (fun t i j z => by omega)
  rw [KV_eq, bLa_law_132 (by rw [e1, s1, hs.1]; omega), e1, s1, hs.2]
  refine Call_up (d := d + 2) (show d + 2 ≤ d + 70 by omega) (m_told ir1.1  ?_)
  intro M2 v ms t2 v2
  have o2 : M2.2 115 0 0 = M1.2 115 0 0 := ms.fm.g2 115 0 0 (by omega)
  have fin : ∀ z5 z6 z7, At (d + 70) kLa_law 1175 [vr 118 0, vr 9 0, vr 10 0, vr 115 0, vi i, z5, z6, z7] [] M2 Q X := fun z5 z6 z7 => hq M2 z5 z6 z7 (LI.next hs g1 af1 ms.fm ic1 (by omega) (ir1.q ms) r1 is)
  rw [KV_eq, bLa_law_140, eMo_thrown, bMo_thrown_0, KV_eq, bLa_law_143, t2, if_pos rfl, bLa_law_147]
  by_cases hz : tTo (xs (i + 1).toNat) = 0
  · rw [if_neg (fun z => z hz), bLa_law_149 (by omega), show ((0 : Int)).toNat = 0 from rfl, o2, v1 hz, v2 hz, if_pos (cmp64_eq.mpr rfl), bLa_law_158]; exact fin _ _ _
  · rw [if_pos hz, bLa_law_158]; exact fin _ _ _
theorem la_worth {M : Mem} {z5 z6 z7 : AV} (hLI : LI L xs i M) (hi : 0 ≤ i ∧ i + 6 ≤ L) (hL : L ≤ 3072) (hx : ∀ j, -2147483648 ≤ xs j ∧ xs j ≤ 2147483647)
    (hq : ∀ M' z5 z6 z7, LI L xs (i + 6) M' → At (d + 70) kLa_law 1175 [vr 118 0, vr 9 0, vr 10 0, vr 115 0, vi i, z5, z6, z7] [] M' Q X) : At (d + 70) kLa_law 204 [vr 118 0, vr 9 0, vr 10 0, vr 115 0, vi i, z5, z6, z7] [] M Q X := by
  obtain ⟨hs, ⟨g0, g1⟩, U, f, B, pl, n, P, m, I, ic, ir, is⟩ := hLI
  have e1 : w32 (i + 1) = i + 1 := w32_id (by omega)
  have e2 : w32 (i + 2) = i + 2 := w32_id (by omega)
  have e3 : w32 (i + 3) = i + 3 := w32_id (by omega)
  have e4 : w32 (i + 4) = i + 4 := w32_id (by omega)
  rw [bLa_law_204 (by rw [e1, e2, e3, e4, hs.1]; omega), e1, e2, e3, e4, hs.2, hs.2, hs.2, hs.2]
  refine Call_up (d := d + 9) (show d + 9 ≤ d + 70 by omega) (h_worth ic is.2.2.2.1 ⟨g0, by omega⟩ ir.1 (hx _).2 ?_)
  intro M1 ic1 r1 af1 v1
  have s1 : ∀ a b, M1.1 118 a b = M.1 118 a b := fun a b => af1.1.g1 118 a b (by omega)
  have ir1 := ir.kp af1.1 (fun t i j z => by omega)
  rw [KV_eq, bLa_law_227 (by rw [e1, e2, e3, e4, s1, hs.1]; omega), e1, e2, e3, e4, s1, hs.2, s1, hs.2, s1, hs.2, s1, hs.2]
  refine Call_up (d := d + 64) (show d + 64 ≤ d + 70 by omega) (m_worth ir1.1 (hx _).2 ?_)
  intro M2 v ms t2 v2
  have o2 : M2.2 115 0 0 = M1.2 115 0 0 := ms.fm.g2 115 0 0 (by omega)
  have fin : ∀ z5 z6 z7, At (d + 70) kLa_law 1175 [vr 118 0, vr 9 0, vr 10 0, vr 115 0, vi i, z5, z6, z7] [] M2 Q X := fun z5 z6 z7 => hq M2 z5 z6 z7 (LI.next hs g1 af1 ms.fm ic1 (by omega) (ir1.q ms) r1 is)
  rw [KV_eq, bLa_law_250, eMo_thrown, bMo_thrown_0, KV_eq, bLa_law_253, t2, if_pos rfl, bLa_law_257]
  by_cases hz : tW (rd M 0) (xs (i + 1).toNat) (xs (i + 2).toNat) (xs (i + 3).toNat) (xs (i + 4).toNat) = 0
  · rw [if_neg (fun z => z hz), bLa_law_259 (by omega), show ((0 : Int)).toNat = 0 from rfl, o2, v1 hz, v2 hz, if_pos (cmp64_eq.mpr rfl), bLa_law_267]; exact fin _ _ _
  · rw [if_pos hz, bLa_law_267]; exact fin _ _ _
theorem la_gain {M : Mem} {z5 z6 z7 : AV} (hLI : LI L xs i M) (hi : 0 ≤ i ∧ i + 6 ≤ L) (hL : L ≤ 3072) (hx : ∀ j, -2147483648 ≤ xs j ∧ xs j ≤ 2147483647)
    (hq : ∀ M' z5 z6 z7, LI L xs (i + 6) M' → At (d + 70) kLa_law 1175 [vr 118 0, vr 9 0, vr 10 0, vr 115 0, vi i, z5, z6, z7] [] M' Q X) : At (d + 70) kLa_law 333 [vr 118 0, vr 9 0, vr 10 0, vr 115 0, vi i, z5, z6, z7] [] M Q X := by
  obtain ⟨hs, ⟨g0, g1⟩, U, f, B, pl, n, P, m, I, ic, ir, is⟩ := hLI
  have e1 : w32 (i + 1) = i + 1 := w32_id (by omega)
  have e2 : w32 (i + 2) = i + 2 := w32_id (by omega)
  have e3 : w32 (i + 3) = i + 3 := w32_id (by omega)
  rw [bLa_law_333 (by rw [e1, e2, e3, hs.1]; omega), e1, e2, e3, hs.2, hs.2, hs.2]
  refine Call_up (d := d + 9) (show d + 9 ≤ d + 70 by omega) (h_gain ic is.2.2.2.1 ⟨g0, by omega⟩ ir.1 (hx _).2 ?_)
  intro M1 ic1 r1 af1 v1
  have s1 : ∀ a b, M1.1 118 a b = M.1 118 a b := fun a b => af1.1.g1 118 a b (by omega)
  have ir1 := ir.kp af1.1 (fun t i j z => by omega)
  rw [KV_eq, bLa_law_351 (by rw [e1, e2, e3, s1, hs.1]; omega), e1, e2, e3, s1, hs.2, s1, hs.2, s1, hs.2]
  refine Call_up (d := d + 64) (show d + 64 ≤ d + 70 by omega) (m_gainC ir1.1 (hx _).2 ?_)
  intro M2 v ms t2 v2
  have o2 : M2.2 115 0 0 = M1.2 115 0 0 := ms.fm.g2 115 0 0 (by omega)
  have fin : ∀ z5 z6 z7, At (d + 70) kLa_law 1175 [vr 118 0, vr 9 0, vr 10 0, vr 115 0, vi i, z5, z6, z7] [] M2 Q X := fun z5 z6 z7 => hq M2 z5 z6 z7 (LI.next hs g1 af1 ms.fm ic1 (by omega) (ir1.q ms) r1 is)
  rw [KV_eq, bLa_law_369, eMo_thrown, bMo_thrown_0, KV_eq, bLa_law_372, t2, if_pos rfl, bLa_law_376]
  by_cases hz : tG (rd M 0) (xs (i + 1).toNat) (xs (i + 2).toNat) (xs (i + 3).toNat) = 0
  · rw [if_neg (fun z => z hz), bLa_law_378 (by omega), show ((0 : Int)).toNat = 0 from rfl, o2, v1 hz, v2 hz, if_pos (cmp64_eq.mpr rfl), bLa_law_386]; exact fin _ _ _
  · rw [if_pos hz, bLa_law_386]; exact fin _ _ _
theorem la_judged {M : Mem} {z5 z6 z7 : AV} (hLI : LI L xs i M) (hi : 0 ≤ i ∧ i + 6 ≤ L) (hL : L ≤ 3072) (hx : ∀ j, -2147483648 ≤ xs j ∧ xs j ≤ 2147483647)
    (hq : ∀ M' z5 z6 z7, LI L xs (i + 6) M' → At (d + 70) kLa_law 1175 [vr 118 0, vr 9 0, vr 10 0, vr 115 0, vi i, z5, z6, z7] [] M' Q X) : At (d + 70) kLa_law 502 [vr 118 0, vr 9 0, vr 10 0, vr 115 0, vi i, z5, z6, z7] [] M Q X := by
  obtain ⟨hs, ⟨g0, g1⟩, U, f, B, pl, n, P, m, I, ic, ir, is⟩ := hLI
  have e1 : w32 (i + 1) = i + 1 := w32_id (by omega)
  rw [bLa_law_502 (by rw [e1, hs.1]; omega), e1, hs.2]
  refine Call_up (d := d + 9) (show d + 9 ≤ d + 70 by omega) (h_judged ic is.2.2.2.1 ⟨g0, by omega⟩ ir.1 is.1 ?_)
  intro M1 ic1 r1 af1 v1
  have s1 : ∀ a b, M1.1 118 a b = M.1 118 a b := fun a b => af1.1.g1 118 a b (by omega)
  have ir1 := ir.kp af1.1 (fun t i j z => by omega)
  rw [KV_eq, bLa_law_510 (by rw [e1, s1, hs.1]; omega), e1, s1, hs.2]
  refine Call_up (d := d + 64) (show d + 64 ≤ d + 70 by omega) (m_judged ir1.1 ir1.2.1 is.1 ?_)
  intro M2 v ms t2 v2
  have o2 : M2.2 115 0 0 = M1.2 115 0 0 := ms.fm.g2 115 0 0 (by omega)
  have fin : ∀ z5 z6 z7, At (d + 70) kLa_law 1175 [vr 118 0, vr 9 0, vr 10 0, vr 115 0, vi i, z5, z6, z7] [] M2 Q X := fun z5 z6 z7 => hq M2 z5 z6 z7 (LI.next hs g1 af1 ms.fm ic1 (by omega) (ir1.q ms) r1 is)
  rw [KV_eq, bLa_law_518, eMo_thrown, bMo_thrown_0, KV_eq, bLa_law_521, t2, if_pos rfl, bLa_law_525]
  by_cases hz : tS (rd M 0) (xs (i + 1).toNat) = 0
  · rw [if_neg (fun z => z hz), bLa_law_527 (by omega), show ((0 : Int)).toNat = 0 from rfl, o2, v1 hz, v2 hz, if_pos (cmp64_eq.mpr rfl), bLa_law_535]; exact fin _ _ _
  · rw [if_pos hz, bLa_law_535]; exact fin _ _ _
theorem la_alone {M : Mem} {z5 z6 z7 : AV} (hLI : LI L xs i M) (hi : 0 ≤ i ∧ i + 6 ≤ L) (hL : L ≤ 3072) (hx : ∀ j, -2147483648 ≤ xs j ∧ xs j ≤ 2147483647)
    (hq : ∀ M' z5 z6 z7, LI L xs (i + 6) M' → At (d + 70) kLa_law 1175 [vr 118 0, vr 9 0, vr 10 0, vr 115 0, vi i, z5, z6, z7] [] M' Q X) : At (d + 70) kLa_law 561 [vr 118 0, vr 9 0, vr 10 0, vr 115 0, vi i, z5, z6, z7] [] M Q X := by
  obtain ⟨hs, ⟨g0, g1⟩, U, f, B, pl, n, P, m, I, ic, ir, is⟩ := hLI
  have e1 : w32 (i + 1) = i + 1 := w32_id (by omega)
  have e2 : w32 (i + 2) = i + 2 := w32_id (by omega)
  have e3 : w32 (i + 3) = i + 3 := w32_id (by omega)
  rw [bLa_law_561 (by rw [e1, e2, e3, hs.1]; omega), e1, e2, e3, hs.2, hs.2, hs.2]
  refine Call_up (d := d + 9) (show d + 9 ≤ d + 70 by omega) (h_alone ic is.2.2.2.1 ⟨g0, by omega⟩ ir.1  ?_)
  intro M1 ic1 r1 af1 v1
  have s1 : ∀ a b, M1.1 118 a b = M.1 118 a b := fun a b => af1.1.g1 118 a b (by omega)
  have ir1 := ir.kp af1.1 (fun t i j z => by omega)
  rw [KV_eq, bLa_law_579 (by rw [e1, e2, e3, s1, hs.1]; omega), e1, e2, e3, s1, hs.2, s1, hs.2, s1, hs.2]
  refine Call_up (d := d + 64) (show d + 64 ≤ d + 70 by omega) (m_alone ir1.1  ?_)
  intro M2 v ms t2 v2
  have o2 : M2.2 115 0 0 = M1.2 115 0 0 := ms.fm.g2 115 0 0 (by omega)
  have fin : ∀ z5 z6 z7, At (d + 70) kLa_law 1175 [vr 118 0, vr 9 0, vr 10 0, vr 115 0, vi i, z5, z6, z7] [] M2 Q X := fun z5 z6 z7 => hq M2 z5 z6 z7 (LI.next hs g1 af1 ms.fm ic1 (by omega) (ir1.q ms) r1 is)
  rw [KV_eq, bLa_law_597, eMo_thrown, bMo_thrown_0, KV_eq, bLa_law_600, t2, if_pos rfl, bLa_law_604]
  by_cases hz : tAl (rd M 0) (xs (i + 1).toNat) (xs (i + 2).toNat) (xs (i + 3).toNat) = 0
  · rw [if_neg (fun z => z hz), bLa_law_606 (by omega), show ((0 : Int)).toNat = 0 from rfl, o2, v1 hz, v2 hz, if_pos (cmp64_eq.mpr rfl), bLa_law_614]; exact fin _ _ _
  · rw [if_pos hz, bLa_law_614]; exact fin _ _ _
theorem la_answer {M : Mem} {z5 z6 z7 : AV} (hLI : LI L xs i M) (hi : 0 ≤ i ∧ i + 6 ≤ L) (hL : L ≤ 3072) (hx : ∀ j, -2147483648 ≤ xs j ∧ xs j ≤ 2147483647)
    (hq : ∀ M' z5 z6 z7, LI L xs (i + 6) M' → At (d + 70) kLa_law 1175 [vr 118 0, vr 9 0, vr 10 0, vr 115 0, vi i, z5, z6, z7] [] M' Q X) : At (d + 70) kLa_law 670 [vr 118 0, vr 9 0, vr 10 0, vr 115 0, vi i, z5, z6, z7] [] M Q X := by
  obtain ⟨hs, ⟨g0, g1⟩, U, f, B, pl, n, P, m, I, ic, ir, is⟩ := hLI
  have e1 : w32 (i + 1) = i + 1 := w32_id (by omega)
  have e2 : w32 (i + 2) = i + 2 := w32_id (by omega)
  rw [bLa_law_670 (by rw [e1, e2, hs.1]; omega), e1, e2, hs.2, hs.2]
  refine Call_up (d := d + 9) (show d + 9 ≤ d + 70 by omega) (h_answer ic is.2.2.2.1 ⟨g0, by omega⟩ ir.1  ?_)
  intro M1 ic1 r1 af1 v1
  have s1 : ∀ a b, M1.1 118 a b = M.1 118 a b := fun a b => af1.1.g1 118 a b (by omega)
  have ir1 := ir.kp af1.1 (fun t i j z => by omega)
  rw [KV_eq, bLa_law_683 (by rw [e1, e2, s1, hs.1]; omega), e1, e2, s1, hs.2, s1, hs.2]
  refine Call_up (d := d + 64) (show d + 64 ≤ d + 70 by omega) (m_answer ir1.1  ?_)
  intro M2 v ms t2 v2
  have o2 : M2.2 115 0 0 = M1.2 115 0 0 := ms.fm.g2 115 0 0 (by omega)
  have fin : ∀ z5 z6 z7, At (d + 70) kLa_law 1175 [vr 118 0, vr 9 0, vr 10 0, vr 115 0, vi i, z5, z6, z7] [] M2 Q X := fun z5 z6 z7 => hq M2 z5 z6 z7 (LI.next hs g1 af1 ms.fm ic1 (by omega) (ir1.q ms) r1 is)
  rw [KV_eq, bLa_law_696, eMo_thrown, bMo_thrown_0, KV_eq, bLa_law_699, t2, if_pos rfl, bLa_law_703]
  by_cases hz : tAn (rd M 0) (xs (i + 1).toNat) (xs (i + 2).toNat) = 0
  · rw [if_neg (fun z => z hz), bLa_law_705 (by omega), show ((0 : Int)).toNat = 0 from rfl, o2, v1 hz, v2 hz, if_pos (cmp64_eq.mpr rfl), bLa_law_713]; exact fin _ _ _
  · rw [if_pos hz, bLa_law_713]; exact fin _ _ _
theorem la_late {M : Mem} {z5 z6 z7 : AV} (hLI : LI L xs i M) (hi : 0 ≤ i ∧ i + 6 ≤ L) (hL : L ≤ 3072) (hx : ∀ j, -2147483648 ≤ xs j ∧ xs j ≤ 2147483647)
    (hq : ∀ M' z5 z6 z7, LI L xs (i + 6) M' → At (d + 70) kLa_law 1175 [vr 118 0, vr 9 0, vr 10 0, vr 115 0, vi i, z5, z6, z7] [] M' Q X) : At (d + 70) kLa_law 748 [vr 118 0, vr 9 0, vr 10 0, vr 115 0, vi i, z5, z6, z7] [] M Q X := by
  obtain ⟨hs, ⟨g0, g1⟩, U, f, B, pl, n, P, m, I, ic, ir, is⟩ := hLI
  rw [bLa_law_748]
  refine Call_up (d := d + 9) (show d + 9 ≤ d + 70 by omega) (h_late ic is.2.2.2.1 ⟨g0, by omega⟩ ir.1  ?_)
  intro M1 ic1 r1 af1 v1
  have s1 : ∀ a b, M1.1 118 a b = M.1 118 a b := fun a b => af1.1.g1 118 a b (by omega)
  have ir1 := ir.kp af1.1 (fun t i j z => by omega)
  rw [KV_eq, bLa_law_751]
  refine Call_up (d := d + 65) (show d + 65 ≤ d + 70 by omega) (m_late ir1.1  ?_)
  intro M2 v ms t2 v2
  have o2 : M2.2 115 0 0 = M1.2 115 0 0 := ms.fm.g2 115 0 0 (by omega)
  have fin : ∀ z5 z6 z7, At (d + 70) kLa_law 1175 [vr 118 0, vr 9 0, vr 10 0, vr 115 0, vi i, z5, z6, z7] [] M2 Q X := fun z5 z6 z7 => hq M2 z5 z6 z7 (LI.next hs g1 af1 ms.fm ic1 (by omega) (ir1.q ms) r1 is)
  rw [KV_eq, bLa_law_754, eMo_thrown, bMo_thrown_0, KV_eq, bLa_law_757, t2, if_pos rfl, bLa_law_761]
  by_cases hz : tR (rd M 0) = 0
  · rw [if_neg (fun z => z hz), bLa_law_763 (by omega), show ((0 : Int)).toNat = 0 from rfl, o2, v1 hz, v2 hz, if_pos (cmp64_eq.mpr rfl), bLa_law_771]; exact fin _ _ _
  · rw [if_pos hz, bLa_law_771]; exact fin _ _ _
theorem la_harder {M : Mem} {z5 z6 z7 : AV} (hLI : LI L xs i M) (hi : 0 ≤ i ∧ i + 6 ≤ L) (hL : L ≤ 3072) (hx : ∀ j, -2147483648 ≤ xs j ∧ xs j ≤ 2147483647)
    (hq : ∀ M' z5 z6 z7, LI L xs (i + 6) M' → At (d + 70) kLa_law 1175 [vr 118 0, vr 9 0, vr 10 0, vr 115 0, vi i, z5, z6, z7] [] M' Q X) : At (d + 70) kLa_law 796 [vr 118 0, vr 9 0, vr 10 0, vr 115 0, vi i, z5, z6, z7] [] M Q X := by
  obtain ⟨hs, ⟨g0, g1⟩, U, f, B, pl, n, P, m, I, ic, ir, is⟩ := hLI
  rw [bLa_law_796]
  refine Call_up (d := d + 9) (show d + 9 ≤ d + 70 by omega) (h_harder ic is.2.2.2.1 ⟨g0, by omega⟩ ir.1  ?_)
  intro M1 ic1 r1 af1 v1
  have s1 : ∀ a b, M1.1 118 a b = M.1 118 a b := fun a b => af1.1.g1 118 a b (by omega)
  have ir1 := ir.kp af1.1 (fun t i j z => by omega)
  rw [KV_eq, bLa_law_799]
  refine Call_up (d := d + 64) (show d + 64 ≤ d + 70 by omega) (m_harder ir1.1  ?_)
  intro M2 v ms t2 v2
  have o2 : M2.2 115 0 0 = M1.2 115 0 0 := ms.fm.g2 115 0 0 (by omega)
  have fin : ∀ z5 z6 z7, At (d + 70) kLa_law 1175 [vr 118 0, vr 9 0, vr 10 0, vr 115 0, vi i, z5, z6, z7] [] M2 Q X := fun z5 z6 z7 => hq M2 z5 z6 z7 (LI.next hs g1 af1 ms.fm ic1 (by omega) (ir1.q ms) r1 is)
  rw [KV_eq, bLa_law_802, eMo_thrown, bMo_thrown_0, KV_eq, bLa_law_805, t2, if_pos rfl, bLa_law_809]
  by_cases hz : tR (rd M 0) = 0
  · rw [if_neg (fun z => z hz), bLa_law_811 (by omega), show ((0 : Int)).toNat = 0 from rfl, o2, v1 hz, v2 hz, if_pos (cmp64_eq.mpr rfl), bLa_law_820]; exact fin _ _ _
  · rw [if_pos hz, bLa_law_820]; exact fin _ _ _
theorem la_leavers {M : Mem} {z5 z6 z7 : AV} (hLI : LI L xs i M) (hi : 0 ≤ i ∧ i + 6 ≤ L) (hL : L ≤ 3072) (hx : ∀ j, -2147483648 ≤ xs j ∧ xs j ≤ 2147483647)
    (hq : ∀ M' z5 z6 z7, LI L xs (i + 6) M' → At (d + 70) kLa_law 1175 [vr 118 0, vr 9 0, vr 10 0, vr 115 0, vi i, z5, z6, z7] [] M' Q X) : At (d + 70) kLa_law 846 [vr 118 0, vr 9 0, vr 10 0, vr 115 0, vi i, z5, z6, z7] [] M Q X := by
  obtain ⟨hs, ⟨g0, g1⟩, U, f, B, pl, n, P, m, I, ic, ir, is⟩ := hLI
  have e1 : w32 (i + 1) = i + 1 := w32_id (by omega)
  rw [bLa_law_846 (by rw [e1, hs.1]; omega), e1, hs.2]
  refine Call_up (d := d + 9) (show d + 9 ≤ d + 70 by omega) (h_leavers ic is.2.2.2.1 ⟨g0, by omega⟩ ir.1  ?_)
  intro M1 ic1 r1 af1 v1
  have s1 : ∀ a b, M1.1 118 a b = M.1 118 a b := fun a b => af1.1.g1 118 a b (by omega)
  have ir1 := ir.kp af1.1 (fun t i j z => by omega)
  rw [KV_eq, bLa_law_854 (by rw [e1, s1, hs.1]; omega), e1, s1, hs.2]
  refine Call_up (d := d + 64) (show d + 64 ≤ d + 70 by omega) (m_leavers ir1.1  ?_)
  intro M2 v ms t2 v2
  have o2 : M2.2 115 0 0 = M1.2 115 0 0 := ms.fm.g2 115 0 0 (by omega)
  have fin : ∀ z5 z6 z7, At (d + 70) kLa_law 1175 [vr 118 0, vr 9 0, vr 10 0, vr 115 0, vi i, z5, z6, z7] [] M2 Q X := fun z5 z6 z7 => hq M2 z5 z6 z7 (LI.next hs g1 af1 ms.fm ic1 (by omega) (ir1.q ms) r1 is)
  rw [KV_eq, bLa_law_862, eMo_thrown, bMo_thrown_0, KV_eq, bLa_law_865, t2, if_pos rfl, bLa_law_869]
  by_cases hz : tS (rd M 0) (xs (i + 1).toNat) = 0
  · rw [if_neg (fun z => z hz), bLa_law_871 (by omega), show ((0 : Int)).toNat = 0 from rfl, o2, v1 hz, v2 hz, if_pos (cmp64_eq.mpr rfl), bLa_law_880]; exact fin _ _ _
  · rw [if_pos hz, bLa_law_880]; exact fin _ _ _
theorem la_sold {M : Mem} {z5 z6 z7 : AV} (hLI : LI L xs i M) (hi : 0 ≤ i ∧ i + 6 ≤ L) (hL : L ≤ 3072) (hx : ∀ j, -2147483648 ≤ xs j ∧ xs j ≤ 2147483647)
    (hq : ∀ M' z5 z6 z7, LI L xs (i + 6) M' → At (d + 70) kLa_law 1175 [vr 118 0, vr 9 0, vr 10 0, vr 115 0, vi i, z5, z6, z7] [] M' Q X) : At (d + 70) kLa_law 925 [vr 118 0, vr 9 0, vr 10 0, vr 115 0, vi i, z5, z6, z7] [] M Q X := by
  obtain ⟨hs, ⟨g0, g1⟩, U, f, B, pl, n, P, m, I, ic, ir, is⟩ := hLI
  have e1 : w32 (i + 1) = i + 1 := w32_id (by omega)
  have e2 : w32 (i + 2) = i + 2 := w32_id (by omega)
  rw [bLa_law_925 (by rw [e1, e2, hs.1]; omega), e1, e2, hs.2, hs.2]
  refine Call_up (d := d + 9) (show d + 9 ≤ d + 70 by omega) (h_sold ic is.2.2.2.1 ⟨g0, by omega⟩ ir.1  ?_)
  intro M1 ic1 r1 af1 v1
  have s1 : ∀ a b, M1.1 118 a b = M.1 118 a b := fun a b => af1.1.g1 118 a b (by omega)
  have ir1 := ir.kp af1.1 (fun t i j z => by omega)
  rw [KV_eq, bLa_law_938 (by rw [e1, e2, s1, hs.1]; omega), e1, e2, s1, hs.2, s1, hs.2]
  refine Call_up (d := d + 64) (show d + 64 ≤ d + 70 by omega) (m_sold ir1.1  ?_)
  intro M2 v ms t2 v2
  have o2 : M2.2 115 0 0 = M1.2 115 0 0 := ms.fm.g2 115 0 0 (by omega)
  have fin : ∀ z5 z6 z7, At (d + 70) kLa_law 1175 [vr 118 0, vr 9 0, vr 10 0, vr 115 0, vi i, z5, z6, z7] [] M2 Q X := fun z5 z6 z7 => hq M2 z5 z6 z7 (LI.next hs g1 af1 ms.fm ic1 (by omega) (ir1.q ms) r1 is)
  rw [KV_eq, bLa_law_951, eMo_thrown, bMo_thrown_0, KV_eq, bLa_law_954, t2, if_pos rfl, bLa_law_958]
  by_cases hz : tT (rd M 0) (xs (i + 1).toNat) (xs (i + 2).toNat) = 0
  · rw [if_neg (fun z => z hz), bLa_law_960 (by omega), show ((0 : Int)).toNat = 0 from rfl, o2, v1 hz, v2 hz, if_pos (cmp64_eq.mpr rfl), bLa_law_968]; exact fin _ _ _
  · rw [if_pos hz, bLa_law_968]; exact fin _ _ _
theorem la_entry {M : Mem} {z5 z6 z7 : AV} (hLI : LI L xs i M) (hi : 0 ≤ i ∧ i + 6 ≤ L) (hL : L ≤ 3072) (hx : ∀ j, -2147483648 ≤ xs j ∧ xs j ≤ 2147483647)
    (hq : ∀ M' z5 z6 z7, LI L xs (i + 6) M' → At (d + 70) kLa_law 1175 [vr 118 0, vr 9 0, vr 10 0, vr 115 0, vi i, z5, z6, z7] [] M' Q X) : At (d + 70) kLa_law 1039 [vr 118 0, vr 9 0, vr 10 0, vr 115 0, vi i, z5, z6, z7] [] M Q X := by
  obtain ⟨hs, ⟨g0, g1⟩, U, f, B, pl, n, P, m, I, ic, ir, is⟩ := hLI
  have e1 : w32 (i + 1) = i + 1 := w32_id (by omega)
  rw [bLa_law_1039 (by rw [e1, hs.1]; omega), e1, hs.2]
  refine Call_up (d := d + 9) (show d + 9 ≤ d + 70 by omega) (h_entry ic is.2.2.2.1 ⟨g0, by omega⟩ ir.1  ?_)
  intro M1 ic1 r1 af1 v1
  have s1 : ∀ a b, M1.1 118 a b = M.1 118 a b := fun a b => af1.1.g1 118 a b (by omega)
  have ir1 := ir.kp af1.1 (fun t i j z => by omega)
  rw [KV_eq, bLa_law_1047 (by rw [e1, s1, hs.1]; omega), e1, s1, hs.2]
  refine Call_up (d := d + 64) (show d + 64 ≤ d + 70 by omega) (m_entry ir1.1  ?_)
  intro M2 v ms t2 v2
  have o2 : M2.2 115 0 0 = M1.2 115 0 0 := ms.fm.g2 115 0 0 (by omega)
  have fin : ∀ z5 z6 z7, At (d + 70) kLa_law 1175 [vr 118 0, vr 9 0, vr 10 0, vr 115 0, vi i, z5, z6, z7] [] M2 Q X := fun z5 z6 z7 => hq M2 z5 z6 z7 (LI.next hs g1 af1 ms.fm ic1 (by omega) (ir1.q ms) r1 is)
  rw [KV_eq, bLa_law_1055, eMo_thrown, bMo_thrown_0, KV_eq, bLa_law_1058, t2, if_pos rfl, bLa_law_1062]
  by_cases hz : tEn (rd M 0) (xs (i + 1).toNat) = 0
  · rw [if_neg (fun z => z hz), bLa_law_1064 (by omega), show ((0 : Int)).toNat = 0 from rfl, o2, v1 hz, v2 hz, if_pos (cmp64_eq.mpr rfl), bLa_law_1073]; exact fin _ _ _
  · rw [if_pos hz, bLa_law_1073]; exact fin _ _ _
theorem la_run {M : Mem} {z5 z6 z7 : AV} (hLI : LI L xs i M) (hi : 0 ≤ i ∧ i + 6 ≤ L) (hL : L ≤ 3072) (hx : ∀ j, -2147483648 ≤ xs j ∧ xs j ≤ 2147483647)
    (hq : ∀ M' z5 z6 z7, LI L xs (i + 6) M' → At (d + 70) kLa_law 1175 [vr 118 0, vr 9 0, vr 10 0, vr 115 0, vi i, z5, z6, z7] [] M' Q X) : At (d + 70) kLa_law 1099 [vr 118 0, vr 9 0, vr 10 0, vr 115 0, vi i, z5, z6, z7] [] M Q X := by
  obtain ⟨hs, ⟨g0, g1⟩, U, f, B, pl, n, P, m, I, ic, ir, is⟩ := hLI
  have e1 : w32 (i + 1) = i + 1 := w32_id (by omega)
  have e2 : w32 (i + 2) = i + 2 := w32_id (by omega)
  rw [bLa_law_1099 (by rw [e1, e2, hs.1]; omega), e1, e2, hs.2, hs.2]
  refine Call_up (d := d + 9) (show d + 9 ≤ d + 70 by omega) (h_run ic is.2.2.2.1 ⟨g0, by omega⟩ ir.1  ?_)
  intro M1 ic1 r1 af1 v1
  have s1 : ∀ a b, M1.1 118 a b = M.1 118 a b := fun a b => af1.1.g1 118 a b (by omega)
  have ir1 := ir.kp af1.1 (fun t i j z => by omega)
  rw [KV_eq, bLa_law_1112 (by rw [e1, e2, s1, hs.1]; omega), e1, e2, s1, hs.2, s1, hs.2]
  refine Call_up (d := d + 64) (show d + 64 ≤ d + 70 by omega) (m_run ir1.1  ?_)
  intro M2 v ms t2 v2
  have o2 : M2.2 115 0 0 = M1.2 115 0 0 := ms.fm.g2 115 0 0 (by omega)
  have fin : ∀ z5 z6 z7, At (d + 70) kLa_law 1175 [vr 118 0, vr 9 0, vr 10 0, vr 115 0, vi i, z5, z6, z7] [] M2 Q X := fun z5 z6 z7 => hq M2 z5 z6 z7 (LI.next hs g1 af1 ms.fm ic1 (by omega) (ir1.q ms) r1 is)
  rw [KV_eq, bLa_law_1125, eMo_thrown, bMo_thrown_0, KV_eq, bLa_law_1128, t2, if_pos rfl, bLa_law_1132]
  by_cases hz : tRn (rd M 0) (xs (i + 2).toNat) = 0
  · rw [if_neg (fun z => z hz), bLa_law_1134 (by omega), show ((0 : Int)).toNat = 0 from rfl, o2, v1 hz, v2 hz, if_pos (cmp64_eq.mpr rfl), bLa_law_1143]; exact fin _ _ _
  · rw [if_pos hz, bLa_law_1143]; exact fin _ _ _
end
