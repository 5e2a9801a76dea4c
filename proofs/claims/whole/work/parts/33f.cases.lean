/-! LAYER 4, THE LAW: its cases that only ask (by gen33.py) -/
section
variable {L : Nat} {xs : Nat → Int} {i : Int} {d : Nat} {Q : AV → Mem → Prop} {X : Nat → Mem → Prop}
theorem la_shop {M : Mem} {z5 z6 z7 : AV} (hLI : LI L xs i M) (hi : 0 ≤ i ∧ i + 6 ≤ L) (hL : L ≤ 3072) (hx : ∀ j, -2147483648 ≤ xs j ∧ xs j ≤ 2147483647)
    (hq : ∀ M' z5 z6 z7, LI L xs (i + 6) M' → At (d + 70) kLa_law 1175 [vr 118 0, vr 9 0, vr 10 0, vr 115 0, vi i, z5, z6, z7] [] M' Q X) : At (d + 70) kLa_law 159 [vr 118 0, vr 9 0, vr 10 0, vr 115 0, vi i, z5, z6, z7] [] M Q X := by
  obtain ⟨hs, ⟨g0, g1⟩, U, f, B, pl, n, P, m, I, ic, ir, is⟩ := hLI
  have e1 : w32 (i + 1) = i + 1 := w32_id (by omega)
  have e2 : w32 (i + 2) = i + 2 := w32_id (by omega)
  rw [bLa_law_159 (by rw [e1, e2, hs.1]; omega), e1, e2, hs.2, hs.2]
  refine Call_up (d := d + 3) (show d + 3 ≤ d + 70 by omega) (h_shop ic is.2.2.2.1 ⟨g0, by omega⟩ ir.1  ?_)
  intro M1 ic1 r1 af1 v1
  have s1 : ∀ a b, M1.1 118 a b = M.1 118 a b := fun a b => af1.1.g1 118 a b (by omega)
  have ir1 := ir.kp af1.1 (fun t i j z => by omega)
  rw [KV_eq, bLa_law_172 (by rw [e1, e2, s1, hs.1]; omega), e1, e2, s1, hs.2, s1, hs.2]
  refine Call_up (d := d + 2) (show d + 2 ≤ d + 70 by omega) (m_shop ir1.1 (hx _) ?_)
  intro M2 v ms t2 v2
  have o2 : M2.2 115 0 0 = M1.2 115 0 0 := ms.fm.g2 115 0 0 (by omega)
  have fin : ∀ z5 z6 z7, At (d + 70) kLa_law 1175 [vr 118 0, vr 9 0, vr 10 0, vr 115 0, vi i, z5, z6, z7] [] M2 Q X := fun z5 z6 z7 => hq M2 z5 z6 z7 (LI.next hs g1 af1 ms.fm ic1 (by omega) (ir1.q ms) r1 is)
  rw [KV_eq, bLa_law_185, eMo_thrown, bMo_thrown_0, KV_eq, bLa_law_188, t2, if_pos rfl, bLa_law_192]
  by_cases hz : tSh (rd M 0) (xs (i + 1).toNat) (xs (i + 2).toNat) = 0
  · rw [if_neg (fun z => z hz), bLa_law_194 (by omega), show ((0 : Int)).toNat = 0 from rfl, o2, v1 hz, v2 hz, if_pos (cmp64_eq.mpr rfl), bLa_law_203]; exact fin _ _ _
  · rw [if_pos hz, bLa_law_203]; exact fin _ _ _
theorem la_doing {M : Mem} {z5 z6 z7 : AV} (hLI : LI L xs i M) (hi : 0 ≤ i ∧ i + 6 ≤ L) (hL : L ≤ 3072) (hx : ∀ j, -2147483648 ≤ xs j ∧ xs j ≤ 2147483647)
    (hq : ∀ M' z5 z6 z7, LI L xs (i + 6) M' → At (d + 70) kLa_law 1175 [vr 118 0, vr 9 0, vr 10 0, vr 115 0, vi i, z5, z6, z7] [] M' Q X) : At (d + 70) kLa_law 268 [vr 118 0, vr 9 0, vr 10 0, vr 115 0, vi i, z5, z6, z7] [] M Q X := by
  obtain ⟨hs, ⟨g0, g1⟩, U, f, B, pl, n, P, m, I, ic, ir, is⟩ := hLI
  have e1 : w32 (i + 1) = i + 1 := w32_id (by omega)
  have e2 : w32 (i + 2) = i + 2 := w32_id (by omega)
  have e3 : w32 (i + 3) = i + 3 := w32_id (by omega)
  have e4 : w32 (i + 4) = i + 4 := w32_id (by omega)
  rw [bLa_law_268 (by rw [e1, e2, e3, e4, hs.1]; omega), e1, e2, e3, e4, hs.2, hs.2, hs.2, hs.2]
  refine Call_up (d := d + 9) (show d + 9 ≤ d + 70 by omega) (h_doing ic is.2.2.2.1 ⟨g0, by omega⟩ ir.1 (hx _).2 ?_)
  intro M1 ic1 r1 af1 v1
  have s1 : ∀ a b, M1.1 118 a b = M.1 118 a b := fun a b => af1.1.g1 118 a b (by omega)
  have ir1 := ir.kp af1.1 (fun t i j z => by omega)
  rw [KV_eq, bLa_law_291 (by rw [e1, e2, e3, e4, s1, hs.1]; omega), e1, e2, e3, e4, s1, hs.2, s1, hs.2, s1, hs.2, s1, hs.2]
  refine Call_up (d := d + 64) (show d + 64 ≤ d + 70 by omega) (m_doing ir1.1 (hx _).2 ?_)
  intro M2 v ms t2 v2
  have o2 : M2.2 115 0 0 = M1.2 115 0 0 := ms.fm.g2 115 0 0 (by omega)
  have fin : ∀ z5 z6 z7, At (d + 70) kLa_law 1175 [vr 118 0, vr 9 0, vr 10 0, vr 115 0, vi i, z5, z6, z7] [] M2 Q X := fun z5 z6 z7 => hq M2 z5 z6 z7 (LI.next hs g1 af1 ms.fm ic1 (by omega) (ir1.q ms) r1 is)
  rw [KV_eq, bLa_law_314, eMo_thrown, bMo_thrown_0, KV_eq, bLa_law_317, t2, if_pos rfl, bLa_law_321]
  by_cases hz : tW (rd M 0) (xs (i + 1).toNat) (xs (i + 2).toNat) (xs (i + 3).toNat) (xs (i + 4).toNat) = 0
  · rw [if_neg (fun z => z hz), bLa_law_323 (by omega), show ((0 : Int)).toNat = 0 from rfl, o2, v1 hz, v2 hz, if_pos (cmp64_eq.mpr rfl), bLa_law_332]; exact fin _ _ _
  · rw [if_pos hz, bLa_law_332]; exact fin _ _ _
theorem la_unrest {M : Mem} {z5 z6 z7 : AV} (hLI : LI L xs i M) (hi : 0 ≤ i ∧ i + 6 ≤ L) (hL : L ≤ 3072) (hx : ∀ j, -2147483648 ≤ xs j ∧ xs j ≤ 2147483647)
    (hq : ∀ M' z5 z6 z7, LI L xs (i + 6) M' → At (d + 70) kLa_law 1175 [vr 118 0, vr 9 0, vr 10 0, vr 115 0, vi i, z5, z6, z7] [] M' Q X) : At (d + 70) kLa_law 387 [vr 118 0, vr 9 0, vr 10 0, vr 115 0, vi i, z5, z6, z7] [] M Q X := by
  obtain ⟨hs, ⟨g0, g1⟩, U, f, B, pl, n, P, m, I, ic, ir, is⟩ := hLI
  rw [bLa_law_387]
  refine Call_up (d := d + 9) (show d + 9 ≤ d + 70 by omega) (h_unrest ic is.2.2.2.1 ⟨g0, by omega⟩ ir.1  ?_)
  intro M1 ic1 r1 af1 v1
  have s1 : ∀ a b, M1.1 118 a b = M.1 118 a b := fun a b => af1.1.g1 118 a b (by omega)
  have ir1 := ir.kp af1.1 (fun t i j z => by omega)
  rw [KV_eq, bLa_law_390]
  refine Call_up (d := d + 64) (show d + 64 ≤ d + 70 by omega) (m_unrest ir1.1  ?_)
  intro M2 v ms t2 v2
  have o2 : M2.2 115 0 0 = M1.2 115 0 0 := ms.fm.g2 115 0 0 (by omega)
  have fin : ∀ z5 z6 z7, At (d + 70) kLa_law 1175 [vr 118 0, vr 9 0, vr 10 0, vr 115 0, vi i, z5, z6, z7] [] M2 Q X := fun z5 z6 z7 => hq M2 z5 z6 z7 (LI.next hs g1 af1 ms.fm ic1 (by omega) (ir1.q ms) r1 is)
  rw [KV_eq, bLa_law_393, eMo_thrown, bMo_thrown_0, KV_eq, bLa_law_396, t2, if_pos rfl, bLa_law_400]
  by_cases hz : tR (rd M 0) = 0
  · rw [if_neg (fun z => z hz), bLa_law_402 (by omega), show ((0 : Int)).toNat = 0 from rfl, o2, v1 hz, v2 hz, if_pos (cmp64_eq.mpr rfl), bLa_law_411]; exact fin _ _ _
  · rw [if_pos hz, bLa_law_411]; exact fin _ _ _
theorem la_breaks {M : Mem} {z5 z6 z7 : AV} (hLI : LI L xs i M) (hi : 0 ≤ i ∧ i + 6 ≤ L) (hL : L ≤ 3072) (hx : ∀ j, -2147483648 ≤ xs j ∧ xs j ≤ 2147483647)
    (hq : ∀ M' z5 z6 z7, LI L xs (i + 6) M' → At (d + 70) kLa_law 1175 [vr 118 0, vr 9 0, vr 10 0, vr 115 0, vi i, z5, z6, z7] [] M' Q X) : At (d + 70) kLa_law 536 [vr 118 0, vr 9 0, vr 10 0, vr 115 0, vi i, z5, z6, z7] [] M Q X := by
  obtain ⟨hs, ⟨g0, g1⟩, U, f, B, pl, n, P, m, I, ic, ir, is⟩ := hLI
  rw [bLa_law_536]
  refine Call_up (d := d + 9) (show d + 9 ≤ d + 70 by omega) (h_breaks ic is.2.2.2.1 ⟨g0, by omega⟩ ir.1 is.1 ?_)
  intro M1 ic1 r1 af1 v1
  have s1 : ∀ a b, M1.1 118 a b = M.1 118 a b := fun a b => af1.1.g1 118 a b (by omega)
  have ir1 := ir.kp af1.1 (fun t i j z => by omega)
  rw [KV_eq, bLa_law_539]
  refine Call_up (d := d + 64) (show d + 64 ≤ d + 70 by omega) (m_breaks ir1.1 ir1.2.1 is.1 ?_)
  intro M2 v ms t2 v2
  have o2 : M2.2 115 0 0 = M1.2 115 0 0 := ms.fm.g2 115 0 0 (by omega)
  have fin : ∀ z5 z6 z7, At (d + 70) kLa_law 1175 [vr 118 0, vr 9 0, vr 10 0, vr 115 0, vi i, z5, z6, z7] [] M2 Q X := fun z5 z6 z7 => hq M2 z5 z6 z7 (LI.next hs g1 af1 ms.fm ic1 (by omega) (ir1.q ms) r1 is)
  rw [KV_eq, bLa_law_542, eMo_thrown, bMo_thrown_0, KV_eq, bLa_law_545, t2, if_pos rfl, bLa_law_549]
  by_cases hz : tR (rd M 0) = 0
  · rw [if_neg (fun z => z hz), bLa_law_551 (by omega), show ((0 : Int)).toNat = 0 from rfl, o2, v1 hz, v2 hz, if_pos (cmp64_eq.mpr rfl), bLa_law_560]; exact fin _ _ _
  · rw [if_pos hz, bLa_law_560]; exact fin _ _ _
theorem la_best {M : Mem} {z5 z6 z7 : AV} (hLI : LI L xs i M) (hi : 0 ≤ i ∧ i + 6 ≤ L) (hL : L ≤ 3072) (hx : ∀ j, -2147483648 ≤ xs j ∧ xs j ≤ 2147483647)
    (hq : ∀ M' z5 z6 z7, LI L xs (i + 6) M' → At (d + 70) kLa_law 1175 [vr 118 0, vr 9 0, vr 10 0, vr 115 0, vi i, z5, z6, z7] [] M' Q X) : At (d + 70) kLa_law 615 [vr 118 0, vr 9 0, vr 10 0, vr 115 0, vi i, z5, z6, z7] [] M Q X := by
  obtain ⟨hs, ⟨g0, g1⟩, U, f, B, pl, n, P, m, I, ic, ir, is⟩ := hLI
  have e1 : w32 (i + 1) = i + 1 := w32_id (by omega)
  have e2 : w32 (i + 2) = i + 2 := w32_id (by omega)
  have e3 : w32 (i + 3) = i + 3 := w32_id (by omega)
  rw [bLa_law_615 (by rw [e1, e2, e3, hs.1]; omega), e1, e2, e3, hs.2, hs.2, hs.2]
  refine Call_up (d := d + 9) (show d + 9 ≤ d + 70 by omega) (h_best ic is.2.2.2.1 ⟨g0, by omega⟩ ir.1  ?_)
  intro M1 ic1 r1 af1 v1
  have s1 : ∀ a b, M1.1 118 a b = M.1 118 a b := fun a b => af1.1.g1 118 a b (by omega)
  have ir1 := ir.kp af1.1 (fun t i j z => by omega)
  rw [KV_eq, bLa_law_633 (by rw [e1, e2, e3, s1, hs.1]; omega), e1, e2, e3, s1, hs.2, s1, hs.2, s1, hs.2]
  refine Call_up (d := d + 64) (show d + 64 ≤ d + 70 by omega) (m_bestC ir1.1  ?_)
  intro M2 v ms t2 v2
  have o2 : M2.2 115 0 0 = M1.2 115 0 0 := ms.fm.g2 115 0 0 (by omega)
  have fin : ∀ z5 z6 z7, At (d + 70) kLa_law 1175 [vr 118 0, vr 9 0, vr 10 0, vr 115 0, vi i, z5, z6, z7] [] M2 Q X := fun z5 z6 z7 => hq M2 z5 z6 z7 (LI.next hs g1 af1 ms.fm ic1 (by omega) (ir1.q ms) r1 is)
  rw [KV_eq, bLa_law_651, eMo_thrown, bMo_thrown_0, KV_eq, bLa_law_654, t2, if_pos rfl, bLa_law_658]
  by_cases hz : tAl (rd M 0) (xs (i + 1).toNat) (xs (i + 2).toNat) (xs (i + 3).toNat) = 0
  · rw [if_neg (fun z => z hz), bLa_law_660 (by omega), show ((0 : Int)).toNat = 0 from rfl, o2, v1 hz, v2 hz, if_pos (cmp64_eq.mpr rfl), bLa_law_669]; exact fin _ _ _
  · rw [if_pos hz, bLa_law_669]; exact fin _ _ _
theorem la_first {M : Mem} {z5 z6 z7 : AV} (hLI : LI L xs i M) (hi : 0 ≤ i ∧ i + 6 ≤ L) (hL : L ≤ 3072) (hx : ∀ j, -2147483648 ≤ xs j ∧ xs j ≤ 2147483647)
    (hq : ∀ M' z5 z6 z7, LI L xs (i + 6) M' → At (d + 70) kLa_law 1175 [vr 118 0, vr 9 0, vr 10 0, vr 115 0, vi i, z5, z6, z7] [] M' Q X) : At (d + 70) kLa_law 714 [vr 118 0, vr 9 0, vr 10 0, vr 115 0, vi i, z5, z6, z7] [] M Q X := by
  obtain ⟨hs, ⟨g0, g1⟩, U, f, B, pl, n, P, m, I, ic, ir, is⟩ := hLI
  have e1 : w32 (i + 1) = i + 1 := w32_id (by omega)
  rw [bLa_law_714 (by rw [e1, hs.1]; omega), e1, hs.2]
  refine Call_up (d := d + 9) (show d + 9 ≤ d + 70 by omega) (h_first ic is.2.2.2.1 ⟨g0, by omega⟩ ir.1  ?_)
  intro M1 ic1 r1 af1 v1
  have s1 : ∀ a b, M1.1 118 a b = M.1 118 a b := fun a b => af1.1.g1 118 a b (by omega)
  have ir1 := ir.kp af1.1 (fun t i j z => by omega)
  rw [KV_eq, bLa_law_722 (by rw [e1, s1, hs.1]; omega), e1, s1, hs.2]
  refine Call_up (d := d + 65) (show d + 65 ≤ d + 70 by omega) (m_first ir1.1  ?_)
  intro M2 v ms t2 v2
  have o2 : M2.2 115 0 0 = M1.2 115 0 0 := ms.fm.g2 115 0 0 (by omega)
  have fin : ∀ z5 z6 z7, At (d + 70) kLa_law 1175 [vr 118 0, vr 9 0, vr 10 0, vr 115 0, vi i, z5, z6, z7] [] M2 Q X := fun z5 z6 z7 => hq M2 z5 z6 z7 (LI.next hs g1 af1 ms.fm ic1 (by omega) (ir1.q ms) r1 is)
  rw [KV_eq, bLa_law_730, eMo_thrown, bMo_thrown_0, KV_eq, bLa_law_733, t2, if_pos rfl, bLa_law_737]
  by_cases hz : tFi (rd M 0) (xs (i + 1).toNat) = 0
  · rw [if_neg (fun z => z hz), bLa_law_739 (by omega), show ((0 : Int)).toNat = 0 from rfl, o2, v1 hz, v2 hz, if_pos (cmp64_eq.mpr rfl), bLa_law_747]; exact fin _ _ _
  · rw [if_pos hz, bLa_law_747]; exact fin _ _ _
theorem la_waste {M : Mem} {z5 z6 z7 : AV} (hLI : LI L xs i M) (hi : 0 ≤ i ∧ i + 6 ≤ L) (hL : L ≤ 3072) (hx : ∀ j, -2147483648 ≤ xs j ∧ xs j ≤ 2147483647)
    (hq : ∀ M' z5 z6 z7, LI L xs (i + 6) M' → At (d + 70) kLa_law 1175 [vr 118 0, vr 9 0, vr 10 0, vr 115 0, vi i, z5, z6, z7] [] M' Q X) : At (d + 70) kLa_law 772 [vr 118 0, vr 9 0, vr 10 0, vr 115 0, vi i, z5, z6, z7] [] M Q X := by
  obtain ⟨hs, ⟨g0, g1⟩, U, f, B, pl, n, P, m, I, ic, ir, is⟩ := hLI
  rw [bLa_law_772]
  refine Call_up (d := d + 9) (show d + 9 ≤ d + 70 by omega) (h_waste ic is.2.2.2.1 ⟨g0, by omega⟩ ir.1  ?_)
  intro M1 ic1 r1 af1 v1
  have s1 : ∀ a b, M1.1 118 a b = M.1 118 a b := fun a b => af1.1.g1 118 a b (by omega)
  have ir1 := ir.kp af1.1 (fun t i j z => by omega)
  rw [KV_eq, bLa_law_775]
  refine Call_up (d := d + 65) (show d + 65 ≤ d + 70 by omega) (m_waste ir1.1  ?_)
  intro M2 v ms t2 v2
  have o2 : M2.2 115 0 0 = M1.2 115 0 0 := ms.fm.g2 115 0 0 (by omega)
  have fin : ∀ z5 z6 z7, At (d + 70) kLa_law 1175 [vr 118 0, vr 9 0, vr 10 0, vr 115 0, vi i, z5, z6, z7] [] M2 Q X := fun z5 z6 z7 => hq M2 z5 z6 z7 (LI.next hs g1 af1 ms.fm ic1 (by omega) (ir1.q ms) r1 is)
  rw [KV_eq, bLa_law_778, eMo_thrown, bMo_thrown_0, KV_eq, bLa_law_781, t2, if_pos rfl, bLa_law_785]
  by_cases hz : tR (rd M 0) = 0
  · rw [if_neg (fun z => z hz), bLa_law_787 (by omega), show ((0 : Int)).toNat = 0 from rfl, o2, v1 hz, v2 hz, if_pos (cmp64_eq.mpr rfl), bLa_law_795]; exact fin _ _ _
  · rw [if_pos hz, bLa_law_795]; exact fin _ _ _
theorem la_behind {M : Mem} {z5 z6 z7 : AV} (hLI : LI L xs i M) (hi : 0 ≤ i ∧ i + 6 ≤ L) (hL : L ≤ 3072) (hx : ∀ j, -2147483648 ≤ xs j ∧ xs j ≤ 2147483647)
    (hq : ∀ M' z5 z6 z7, LI L xs (i + 6) M' → At (d + 70) kLa_law 1175 [vr 118 0, vr 9 0, vr 10 0, vr 115 0, vi i, z5, z6, z7] [] M' Q X) : At (d + 70) kLa_law 821 [vr 118 0, vr 9 0, vr 10 0, vr 115 0, vi i, z5, z6, z7] [] M Q X := by
  obtain ⟨hs, ⟨g0, g1⟩, U, f, B, pl, n, P, m, I, ic, ir, is⟩ := hLI
  rw [bLa_law_821]
  refine Call_up (d := d + 9) (show d + 9 ≤ d + 70 by omega) (h_behind ic is.2.2.2.1 ⟨g0, by omega⟩ ir.1  ?_)
  intro M1 ic1 r1 af1 v1
  have s1 : ∀ a b, M1.1 118 a b = M.1 118 a b := fun a b => af1.1.g1 118 a b (by omega)
  have ir1 := ir.kp af1.1 (fun t i j z => by omega)
  rw [KV_eq, bLa_law_824]
  refine Call_up (d := d + 64) (show d + 64 ≤ d + 70 by omega) (m_behind ir1.1  ?_)
  intro M2 v ms t2 v2
  have o2 : M2.2 115 0 0 = M1.2 115 0 0 := ms.fm.g2 115 0 0 (by omega)
  have fin : ∀ z5 z6 z7, At (d + 70) kLa_law 1175 [vr 118 0, vr 9 0, vr 10 0, vr 115 0, vi i, z5, z6, z7] [] M2 Q X := fun z5 z6 z7 => hq M2 z5 z6 z7 (LI.next hs g1 af1 ms.fm ic1 (by omega) (ir1.q ms) r1 is)
  rw [KV_eq, bLa_law_827, eMo_thrown, bMo_thrown_0, KV_eq, bLa_law_830, t2, if_pos rfl, bLa_law_834]
  by_cases hz : tR (rd M 0) = 0
  · rw [if_neg (fun z => z hz), bLa_law_836 (by omega), show ((0 : Int)).toNat = 0 from rfl, o2, v1 hz, v2 hz, if_pos (cmp64_eq.mpr rfl), bLa_law_845]; exact fin _ _ _
  · rw [if_pos hz, bLa_law_845]; exact fin _ _ _
theorem la_joined {M : Mem} {z5 z6 z7 : AV} (hLI : LI L xs i M) (hi : 0 ≤ i ∧ i + 6 ≤ L) (hL : L ≤ 3072) (hx : ∀ j, -2147483648 ≤ xs j ∧ xs j ≤ 2147483647)
    (hq : ∀ M' z5 z6 z7, LI L xs (i + 6) M' → At (d + 70) kLa_law 1175 [vr 118 0, vr 9 0, vr 10 0, vr 115 0, vi i, z5, z6, z7] [] M' Q X) : At (d + 70) kLa_law 881 [vr 118 0, vr 9 0, vr 10 0, vr 115 0, vi i, z5, z6, z7] [] M Q X := by
  obtain ⟨hs, ⟨g0, g1⟩, U, f, B, pl, n, P, m, I, ic, ir, is⟩ := hLI
  have e1 : w32 (i + 1) = i + 1 := w32_id (by omega)
  have e2 : w32 (i + 2) = i + 2 := w32_id (by omega)
  rw [bLa_law_881 (by rw [e1, e2, hs.1]; omega), e1, e2, hs.2, hs.2]
  refine Call_up (d := d + 9) (show d + 9 ≤ d + 70 by omega) (h_joined ic is.2.2.2.1 ⟨g0, by omega⟩ ir.1  ?_)
  intro M1 ic1 r1 af1 v1
  have s1 : ∀ a b, M1.1 118 a b = M.1 118 a b := fun a b => af1.1.g1 118 a b (by omega)
  have ir1 := ir.kp af1.1 (fun t i j z => by omega)
  rw [KV_eq, bLa_law_894 (by rw [e1, e2, s1, hs.1]; omega), e1, e2, s1, hs.2, s1, hs.2]
  refine Call_up (d := d + 64) (show d + 64 ≤ d + 70 by omega) (m_joined ir1.1  ?_)
  intro M2 v ms t2 v2
  have o2 : M2.2 115 0 0 = M1.2 115 0 0 := ms.fm.g2 115 0 0 (by omega)
  have fin : ∀ z5 z6 z7, At (d + 70) kLa_law 1175 [vr 118 0, vr 9 0, vr 10 0, vr 115 0, vi i, z5, z6, z7] [] M2 Q X := fun z5 z6 z7 => hq M2 z5 z6 z7 (LI.next hs g1 af1 ms.fm ic1 (by omega) (ir1.q ms) r1 is)
  rw [KV_eq, bLa_law_907, eMo_thrown, bMo_thrown_0, KV_eq, bLa_law_910, t2, if_pos rfl, bLa_law_914]
  by_cases hz : tT (rd M 0) (xs (i + 1).toNat) (xs (i + 2).toNat) = 0
  · rw [if_neg (fun z => z hz), bLa_law_916 (by omega), show ((0 : Int)).toNat = 0 from rfl, o2, v1 hz, v2 hz, if_pos (cmp64_eq.mpr rfl), bLa_law_924]; exact fin _ _ _
  · rw [if_pos hz, bLa_law_924]; exact fin _ _ _
theorem la_king {M : Mem} {z5 z6 z7 : AV} (hLI : LI L xs i M) (hi : 0 ≤ i ∧ i + 6 ≤ L) (hL : L ≤ 3072) (hx : ∀ j, -2147483648 ≤ xs j ∧ xs j ≤ 2147483647)
    (hq : ∀ M' z5 z6 z7, LI L xs (i + 6) M' → At (d + 70) kLa_law 1175 [vr 118 0, vr 9 0, vr 10 0, vr 115 0, vi i, z5, z6, z7] [] M' Q X) : At (d + 70) kLa_law 1004 [vr 118 0, vr 9 0, vr 10 0, vr 115 0, vi i, z5, z6, z7] [] M Q X := by
  obtain ⟨hs, ⟨g0, g1⟩, U, f, B, pl, n, P, m, I, ic, ir, is⟩ := hLI
  have e1 : w32 (i + 1) = i + 1 := w32_id (by omega)
  rw [bLa_law_1004 (by rw [e1, hs.1]; omega), e1, hs.2]
  refine Call_up (d := d + 9) (show d + 9 ≤ d + 70 by omega) (h_king ic is.2.2.2.1 ⟨g0, by omega⟩ ir.1 is.2.2.1 ?_)
  intro M1 ic1 r1 af1 v1
  have s1 : ∀ a b, M1.1 118 a b = M.1 118 a b := fun a b => af1.1.g1 118 a b (by omega)
  have ir1 := ir.kp af1.1 (fun t i j z => by omega)
  rw [KV_eq, bLa_law_1012 (by rw [e1, s1, hs.1]; omega), e1, s1, hs.2]
  refine Call_up (d := d + 65) (show d + 65 ≤ d + 70 by omega) (m_king ir1.1 ir1.2.2.2.2.2.1 is.2.2.1.1 (fun j hj => ⟨ir1.2.2.2.2.2.2.1 j hj, is.2.2.1.2 j hj⟩) ?_)
  intro M2 v ms t2 v2
  have o2 : M2.2 115 0 0 = M1.2 115 0 0 := ms.fm.g2 115 0 0 (by omega)
  have fin : ∀ z5 z6 z7, At (d + 70) kLa_law 1175 [vr 118 0, vr 9 0, vr 10 0, vr 115 0, vi i, z5, z6, z7] [] M2 Q X := fun z5 z6 z7 => hq M2 z5 z6 z7 (LI.next hs g1 af1 ms.fm ic1 (by omega) (ir1.q ms) r1 is)
  rw [KV_eq, bLa_law_1020, eMo_thrown, bMo_thrown_0, KV_eq, bLa_law_1023, t2, if_pos rfl, bLa_law_1027]
  by_cases hz : tKg (rd M 0) (xs (i + 1).toNat) = 0
  · rw [if_neg (fun z => z hz), bLa_law_1029 (by omega), show ((0 : Int)).toNat = 0 from rfl, o2, v1 hz, v2 hz, if_pos (cmp64_eq.mpr rfl), bLa_law_1038]; exact fin _ _ _
  · rw [if_pos hz, bLa_law_1038]; exact fin _ _ _
theorem la_edge {M : Mem} {z5 z6 z7 : AV} (hLI : LI L xs i M) (hi : 0 ≤ i ∧ i + 6 ≤ L) (hL : L ≤ 3072) (hx : ∀ j, -2147483648 ≤ xs j ∧ xs j ≤ 2147483647)
    (hq : ∀ M' z5 z6 z7, LI L xs (i + 6) M' → At (d + 70) kLa_law 1175 [vr 118 0, vr 9 0, vr 10 0, vr 115 0, vi i, z5, z6, z7] [] M' Q X) : At (d + 70) kLa_law 1074 [vr 118 0, vr 9 0, vr 10 0, vr 115 0, vi i, z5, z6, z7] [] M Q X := by
  obtain ⟨hs, ⟨g0, g1⟩, U, f, B, pl, n, P, m, I, ic, ir, is⟩ := hLI
  rw [bLa_law_1074]
  refine Call_up (d := d + 10) (show d + 10 ≤ d + 70 by omega) (h_edge ic is.2.2.2.1 ⟨g0, by omega⟩ ir.1  ?_)
  intro M1 ic1 r1 af1 v1
  have s1 : ∀ a b, M1.1 118 a b = M.1 118 a b := fun a b => af1.1.g1 118 a b (by omega)
  have ir1 := ir.kp af1.1 (fun t i j z => by omega)
  rw [KV_eq, bLa_law_1077]
  refine Call_up (d := d + 64) (show d + 64 ≤ d + 70 by omega) (m_edge ir1.1  ?_)
  intro M2 v ms t2 v2
  have o2 : M2.2 115 0 0 = M1.2 115 0 0 := ms.fm.g2 115 0 0 (by omega)
  have fin : ∀ z5 z6 z7, At (d + 70) kLa_law 1175 [vr 118 0, vr 9 0, vr 10 0, vr 115 0, vi i, z5, z6, z7] [] M2 Q X := fun z5 z6 z7 => hq M2 z5 z6 z7 (LI.next hs g1 af1 ms.fm ic1 (by omega) (ir1.q ms) r1 is)
  rw [KV_eq, bLa_law_1080, eMo_thrown, bMo_thrown_0, KV_eq, bLa_law_1083, t2, if_pos rfl, bLa_law_1087]
  by_cases hz : tR (rd M 0) = 0
  · rw [if_neg (fun z => z hz), bLa_law_1089 (by omega), show ((0 : Int)).toNat = 0 from rfl, o2, v1 hz, v2 hz, if_pos (cmp64_eq.mpr rfl), bLa_law_1098]; exact fin _ _ _
  · rw [if_pos hz, bLa_law_1098]; exact fin _ _ _
end
