/-! THE LAW'S HEAD, up to its loop -/
theorem wA_nm : wA.map (fun w => (w.1, w.2.1)) = some (119, 21150) := by decide +kernel
theorem wB_nm : wB.map (fun w => (w.1, w.2.1)) = some (25176, 122093) := by decide +kernel
theorem w_ex : ∃ w : BW, bcall bprg 3 200 9 [vr 0 0] (obN (0, 0, []) 9) = some w ∧ w.1 = 119 ∧ w.2.1 = 21150 ∧ ∃ w2 : BW, bcall bprg 3 300 10 [vr 0 w.1] (obN w 10) = some w2 ∧ w2.1 = 25176 ∧ w2.2.1 = 122093 ∧ wCv = (w2.1 + 1, w2.2.1 + 1, w2.2.2 ++ [(w2.1, .inr (.inl (.long, [1])))]) := by
  have h1 := wA_nm
  have h2 := wB_nm
  have h3 : wB = wA.bind (fun w => bcall bprg 3 300 10 [vr 0 w.1] (obN w 10)) := by rw [wB]
  have h4 : wCv = (wB.map (fun w => (w.1 + 1, w.2.1 + 1, w.2.2 ++ [(w.1, .inr (.inl (.long, [1])))]))).getD (0, 0, []) := by rw [wCv, wC]
  have h5 : wA = bcall bprg 3 200 9 [vr 0 0] (obN (0, 0, []) 9) := by rw [wA]
  rw [← h5]
  generalize wA = A at *
  generalize wB = B at *
  generalize wCv = E at *
  clear h5
  cases A with
  | none => cases h1
  | some w =>
    have e1 := Option.some.inj h1
    refine ⟨w, rfl, congrArg Prod.fst e1, congrArg Prod.snd e1, ?_⟩
    cases B with
    | none => cases h2
    | some w2 =>
      have e2 := Option.some.inj h2
      exact ⟨w2, h3.symm, congrArg Prod.fst e2, congrArg Prod.snd e2, h4⟩
section SD
variable {p : Program} {l : Launch} {e : Env} {R : Room} {s : State} {m : MethodId} {args : Array Value} {below : List Frame} {meth : Method} {c : Code} {Q : State → Prop}
variable {D : va_G} {K : FieldType → ClassId} {N0 : Nat}
set_option maxHeartbeats 2000000 in
theorem law_head (C : BCx D K N0 p s m args meth c code 8 15) (hN : s.heap.size = N0) (hfr : 20 ≤ R.frames) (hlo : 1000 ≤ R.locals) (hce : 25177 ≤ R.cells) (hsl : 122094 ≤ R.slots) {b : Nat} {ls0 : Array Slot} (hl0 : lv_has ls0 8 [(0, .ref b)])
    (kk : ∀ (H : Heap) (locs : List Loc) (ls : Array Slot), LPh D K N0 s H locs wCv → lv_has ls 8 [(4, .int 0), (3, .ref (N0 + 25176)), (2, .ref (N0 + 119)), (1, .ref (N0 + 0)), (0, .ref b)] → W p l e R s m args below meth c H locs 25177 122094 Q (F0 m 23 ls [])) :
    W p l e R s m args below meth c s.heap [] 0 0 Q (F0 m 0 ls0 []) := by
  have hx := C.1
  have hb := C.2.1
  have h15 : (15 : Nat) < 11 ∨ (15 : Nat) = 15 := Or.inr rfl
  obtain ⟨wAv, hA, a1, a2, wBv, wB_call, b1, b2, wC_eq⟩ := w_ex
  generalize wCv = wE at kk wC_eq
  have hP0 : LPh D K N0 s s.heap [] (0, 0, []) := ⟨⟨hN, fun k q h => (by simp at h), fun i j p q _ h => (by simp at h)⟩, va_S.rf⟩
  refine b_newL (st := []) (idx := 8) (t := 9) C hP0 (clk_all 15 h15 _ (by decide)) (by decide +kernel) (by omega) (by show 0 + 15 ≤ _; omega) fun H1 locs1 hP1 => ?_
  refine lv_dup hx hb (by decide +kernel) rfl ?_
  refine b_callL (d := 3) (q := 9) (idx := 106) (n := 0) (st := [vr 0 0, vr 0 0]) (as := [vr 0 0]) (w' := wAv) C hP1 hl0.1 (Or.inl (blk_all 15 h15 _ (by decide))) rfl ⟨by decide, by decide, rfl⟩ rfl (bct_all 3 200 9 _ _ _ hA) (by decide +kernel) ⟨0, [], rfl⟩ (by omega) (by omega) (by show 0 + 1 + (wAv.1 - 1) ≤ _; omega) (by show 0 + 15 + (wAv.2.1 - 15) ≤ _; omega) fun H2 locs2 hP2 => ?_
  refine W.widen (k := 119) (n := 21150) (by show 0 + 1 + (wAv.1 - 1) ≤ _; omega) (by show 0 + 15 + (wAv.2.1 - 15) ≤ _; omega) ?_
  refine lv_astore_n (k := 1) (i := 1) hx hb (by decide +kernel) rfl hl0 (by decide) rfl fun ls1 hl1 => ?_
  refine b_newL (st := []) (idx := 107) (t := 10) C hP2 (clk_all 15 h15 _ (by decide)) (by decide +kernel) (by omega) (by show 21150 + 73 ≤ _; omega) fun H3 locs3 hP3 => ?_
  refine lv_dup hx hb (by decide +kernel) rfl ?_
  refine b_callL (d := 3) (q := 10) (idx := 109) (n := 0) (st := [vr 0 wAv.1, vr 0 wAv.1]) (as := [vr 0 wAv.1]) (w' := wBv) C hP3 hl1.1 (Or.inl (blk_all 15 h15 _ (by decide))) rfl ⟨by show (1 : Nat) ≤ 2; omega, by show (2 : Nat) ≤ 4; omega, rfl⟩ rfl (bct_all 3 300 10 _ _ _ wB_call) (by decide +kernel) ⟨wAv.1, [], rfl⟩ (by omega) (by omega) (by show 119 + 1 + (wBv.1 - (wAv.1 + 1)) ≤ _; omega) (by show 21150 + 73 + (wBv.2.1 - (wAv.2.1 + 73)) ≤ _; omega) fun H4 locs4 hP4 => ?_
  refine W.widen (k := 25176) (n := 122093) (by show 119 + 1 + (wBv.1 - (wAv.1 + 1)) ≤ _; omega) (by show 21150 + 73 + (wBv.2.1 - (wAv.2.1 + 73)) ≤ _; omega) ?_
  refine lv_astore_n (k := 2) (i := 2) hx hb (by decide +kernel) rfl hl1 (by decide) rfl fun ls2 hl2 => ?_
  refine lv_iconst (n := 1) hx hb (by decide +kernel) (v := Int32.ofInt 1) rfl ?_
  refine b_newaL (b := 1) (x := 1) (at' := .long) (r := []) C hP4 (by decide) rfl rfl (by decide +kernel) (by omega) (by show 122093 + 1 ≤ _; omega) fun H5 locs5 hP5 => ?_
  refine lv_astore_n (k := 3) (i := 3) hx hb (by decide +kernel) rfl hl2 (by decide) rfl fun ls3 hl3 => ?_
  refine lv_iconst (n := 0) hx hb (by decide +kernel) (v := 0) rfl ?_
  refine lv_istore (i := 4) hx hb (by decide +kernel) hl3 (by decide) rfl fun ls4 hl4 => ?_
  have hP6 : LPh D K N0 s H5 locs5 wE := by rw [wC_eq]; exact hP5
  refine kk H5 locs5 ls4 hP6 ?_
  rw [a1, b1] at hl4
  exact hl4
end SD
