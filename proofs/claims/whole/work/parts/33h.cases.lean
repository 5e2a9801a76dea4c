/-! LAYER 4, THE LAW: its cases that change something, more -/
section
variable {L : Nat} {xs : Nat → Int} {i : Int} {d : Nat} {Q : AV → Mem → Prop} {X : Nat → Mem → Prop}
theorem la_follow {M : Mem} {z5 z6 z7 : AV} (hLI : LI L xs i M) (hi : 0 ≤ i ∧ i + 6 ≤ L) (hL : L ≤ 3072) (hx : ∀ j, -2147483648 ≤ xs j ∧ xs j ≤ 2147483647)
    (hq : ∀ M' z5 z6 z7, LI L xs (i + 6) M' → At (d + 70) kLa_law 1175 [vr 118 0, vr 9 0, vr 10 0, vr 115 0, vi i, z5, z6, z7] [] M' Q X) : At (d + 70) kLa_law 477 [vr 118 0, vr 9 0, vr 10 0, vr 115 0, vi i, z5, z6, z7] [] M Q X := by
  obtain ⟨hs, ⟨g0, g1⟩, U, f, B, pl, n, P, m, I, ic, ir, is⟩ := hLI
  have hm := is.2.2.2.1
  have hb3 := (ic.1.1.2.2.1 0 (by omega)).b
  rw [bLa_law_477]
  refine Call_up (d := d + 9) (show d + 9 ≤ d + 70 by omega) ?_
  rw [show d + 9 = (d + 8) + 1 from rfl, eLa_follow, bLa_follow_0]
  refine c_follow (d := d) ic.1.1 ic.1.2.1 ic.2.1 ?_ ?_ ?_
  · intro e
    show M.1 900 0 0 < 1000 ∧ At (d + 8) kLa_follow 8 [vr 9 0, vr 115 0, JK] [] (gh M) _ _
    refine ⟨by omega, ?_⟩
    have af1 : AfC M (gh M) := AfC.th g0
    have ir1 := ir.kp af1.1 (fun t i j z => by omega)
    have r1 : rd (gh M) 0 = rd M 0 := rd_sI (by omega)
    rw [bLa_follow_8, KV_eq, bLa_law_480]
    refine Call_up (d := d + 64) (show d + 64 ≤ d + 70 by omega) (m_follow ir1.1 ir1.2.1 ?_ (fun z => by rw [e] at z; omega) (fun z => by unfold tR at e; rw [if_neg (by omega)] at e; omega))
    intro _ v
    have ms := MS.th ir1.1 1
    rw [KV_eq, bLa_law_483, eMo_thrown, bMo_thrown_0, KV_eq, bLa_law_486, th0_eq, if_pos rfl, bLa_law_490, if_pos (by omega), bLa_law_501]
    exact hq _ _ _ _ (LI.next hs g1 af1 ms.fm (ic.ghost hm) (by omega) (ir1.q ms) r1 is)
  · intro e hn2
    have af1 : AfC M (sL M 115 0 0 (Int64.ofInt (-1))) := AfC.ok (M' := M) g0 (Pf := fun t _ _ => t = 9) Fs.rf (fun t i j z => by omega)
    have ir1 := ir.kp af1.1 (fun t i j z => by omega)
    rw [KV_eq, bLa_follow_4 (by omega), bLa_follow_10, show ((0 : Int)).toNat = 0 from rfl, KV_eq, bLa_law_480]
    refine Call_up (d := d + 64) (show d + 64 ≤ d + 70 by omega) (m_follow ir1.1 ir1.2.1 (fun z => by rw [e] at z; omega) ?_ (fun z => absurd z hn2))
    intro _ _
    have ms := MS.t0 ir1.1
    have o2 : (sI (sL M 115 0 0 (Int64.ofInt (-1))) 10 0 0 0).2 115 0 0 = Int64.ofInt (-1) := by rw [sI2]; exact sL_eq
    rw [KV_eq, bLa_law_483, eMo_thrown, bMo_thrown_0, KV_eq, bLa_law_486, sI_eq, if_pos rfl, bLa_law_490, if_neg (by omega), bLa_law_492 (by omega), show ((0 : Int)).toNat = 0 from rfl, o2, if_pos (cmp64_eq.mpr rfl), bLa_law_501]
    exact hq _ _ _ _ (LI.next hs g1 af1 ms.fm (ic.out hm) (by omega) (ir1.q ms) rfl is)
  · intro hn2 M1 f1 c0 cb u1 z7
    have nq : ∀ t i j, pFw t i j → ¬ ((t = 4 ∨ 33 ≤ t ∧ t ≤ 38) ∧ i ≠ 5) ∧ ¬ (t = 9 ∧ j ≠ 7) ∧ ¬ (29 ≤ t ∧ t ≤ 32) ∧ t ≠ 5 ∧ t ≠ 39 ∧ t ≠ 2 ∧ t ≠ 28 ∧ ¬ (t = 27 ∧ i ≠ 0) ∧ (t < 10 ∨ 20 ≤ t ∧ t ≤ 53) := fun t i j z => by unfold pFw pSd pCl pRu at z; omega
    have ic1 : IC (foA (rd M 0) (U, 0) (rd M 0 33 0).toNat).1 f B pl n P m I i M1 := ic.chg hm f1 ⟨c0, cb, ic.1.2.2.1.fs f1 (fun t i j z => by have := nq t i j z; omega), ic.1.2.2.2.1.fs f1 (fun t i j z => by have := nq t i j z; omega), Cr.z z7, ic.1.2.2.2.2.2.fs f1 (fun t i j z => by have := nq t i j z; omega)⟩ u1 ((f1.g1 5 0 2 (fun z => by have := nq _ _ _ z; omega)).trans ic.2.2.1) (fun j => (f1.g1 39 0 j (fun z => by have := nq _ _ _ z; omega)).trans (ic.2.2.2.1 j)) ((f1.g1 5 0 1 (fun z => by have := nq _ _ _ z; omega)).trans ic.2.2.2.2.1) ((f1.g1 2 0 3 (fun z => by have := nq _ _ _ z; omega)).trans ic.2.2.2.2.2.1) (fun j hj => (f1.g1 28 0 j (fun z => by have := nq _ _ _ z; omega)).trans (ic.2.2.2.2.2.2.1 j hj)) ((f1.g1 9 0 4 (fun z => by have := nq _ _ _ z; omega)).trans ic.2.2.2.2.2.2.2.1) (by rw [f1.g1 9 0 1 (fun z => by have := nq _ _ _ z; omega)]; exact ic.2.2.2.2.2.2.2.2.1) (fun t i j z => by have := nq t i j z; omega)
    have r1 : rd M1 0 = rd M 0 := rd_fs f1 (fun t j ht z => by have := nq _ _ _ z; omega)
    have af1 : AfC M (sL M1 115 0 0 (Int64.ofInt (foA (rd M 0) (U, 0) (rd M 0 33 0).toNat).2)) := AfC.ok g0 f1 (fun t i j z => by have := nq t i j z; omega)
    have ir1 := ir.kp af1.1 (fun t i j z => by omega)
    rw [KV_eq, bLa_follow_4 (by omega), bLa_follow_10, show ((0 : Int)).toNat = 0 from rfl, KV_eq, bLa_law_480]
    refine Call_up (d := d + 64) (show d + 64 ≤ d + 70 by omega) (m_follow ir1.1 ir1.2.1 (fun z => by unfold tR at z; rw [if_neg (by omega)] at z; omega) (fun _ z => absurd hn2 z) ?_)
    intro _ M2 f2 cu2 t2 u2
    have nm : ∀ t i j, pMw t i j → (t = 10 ∧ (j ≤ 44 ∧ j ≠ 1 ∧ j ≠ 3 ∧ j ≠ 11 ∨ 61 ≤ j ∧ j ≤ 63)) ∨ (56 ≤ t ∧ t ≤ 114 ∧ t ≠ 92 ∧ t ≠ 94 ∧ t ≠ 96 ∧ t ≠ 97 ∧ t ≠ 101) := fun t i j z => by unfold pMw scM at z; omega
    have f2' : Fs pMd (sL M1 115 0 0 (Int64.ofInt (foA (rd M 0) (U, 0) (rd M 0 33 0).toNat).2)) M2 := f2.mono (fun t i j z => by have := nm t i j z; omega)
    have ir2 : IR (rd M 0) (foA (rd M 0) (U, 0) (rd M 0 33 0).toNat).1 f B pl n P m I M2 :=
      ir1.chg f2 cu2 u2 ((f2.g1 10 0 1 (fun z => by have := nm _ _ _ z; omega)).trans ir1.2.2.1) (fun j => (f2.g1 54 0 j (fun z => by have := nm _ _ _ z; omega)).trans (ir1.2.2.2.1 j)) ((f2.g1 10 0 3 (fun z => by have := nm _ _ _ z; omega)).trans ir1.2.2.2.2.1) ((f2.g1 10 0 54 (fun z => by have := nm _ _ _ z; omega)).trans ir1.2.2.2.2.2.1) (fun j hj => (f2.g1 92 0 j (fun z => by have := nm _ _ _ z; omega)).trans (ir1.2.2.2.2.2.2.1 j hj)) ((f2.g1 10 0 55 (fun z => by have := nm _ _ _ z; omega)).trans ir1.2.2.2.2.2.2.2.1) (by rw [f2.g1 10 0 11 (fun z => by have := nm _ _ _ z; omega)]; exact ir1.2.2.2.2.2.2.2.2.1) (fun t i j z => by have := nm t i j z; omega)
    have o2 : M2.2 115 0 0 = Int64.ofInt (foA (rd M 0) (U, 0) (rd M 0 33 0).toNat).2 := (f2'.g2 115 0 0 (by omega)).trans sL_eq
    rw [KV_eq, bLa_law_483, eMo_thrown, bMo_thrown_0, KV_eq, bLa_law_486, t2, if_pos rfl, bLa_law_490, if_neg (by omega), bLa_law_492 (by omega), show ((0 : Int)).toNat = 0 from rfl, o2, if_pos (cmp64_eq.mpr rfl), bLa_law_501]
    exact hq _ _ _ _ (LI.next hs g1 af1 f2' (ic1.out hm) (by omega) ir2 r1 ⟨foA_WU (S := (U, 0)) is.1 (by omega) _ (by omega), is.2⟩)
end
