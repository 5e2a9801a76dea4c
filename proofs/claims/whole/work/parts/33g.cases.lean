/-! LAYER 4, THE LAW: its cases that change something -/
section
variable {U U' : Nat → Int} {f f' n n' m : Nat} {B B' : BT} {pl pl' g g' : Int} {P P' : Nat → Int} {I : Nat → IMG} {R R' : RT} {M M' : Mem} {Pf : Nat → Nat → Nat → Prop}
theorem IC.chg (h : IC U f B pl n P m I g M) (hm : m ≤ 3) (hf : Fs Pf M M') (c : CI0 M' ∧ Cb M' ∧ Ce M' ∧ Cl M' ∧ Cr U' M' ∧ RdS M') (hU : RuC U' 0 M') (h2 : M'.1 5 0 2 = (f' : Int)) (h39 : ∀ j, M'.1 39 0 j = B' j) (h51 : M'.1 5 0 1 = pl') (h23 : M'.1 2 0 3 = (n' : Int)) (h28 : ∀ j : Nat, j < n' → M'.1 28 0 j = P' j) (h94 : M'.1 9 0 4 = (m : Int)) (h91 : 0 ≤ M'.1 9 0 1 ∧ M'.1 9 0 1 ≤ g')
    (hp : ∀ t i j, Pf t i j → ¬ ((t = 4 ∨ 33 ≤ t ∧ t ≤ 38) ∧ 1 ≤ i ∧ i < 4) ∧ ¬ ((t = 27 ∨ t = 28 ∨ t = 2) ∧ 1 ≤ i ∧ i < 4)) : IC U' f' B' pl' n' P' m I g' M' := by
  obtain ⟨-, -, -, -, -, -, -, -, -, h15⟩ := h
  exact ⟨c, hU, h2, h39, h51, h23, h28, h94, h91, fun k hk => (h15 k hk).fs (by omega) hf hp⟩
theorem AfC.fr (h : 0 ≤ M.1 900 0 0) (hf : Fs Pf M M') (hp : ∀ t i j, Pf t i j → t < 10 ∨ 20 ≤ t ∧ t ≤ 53) : AfC M M' := by
  have e := hf.g1 900 0 0 (fun z => by have := hp _ _ _ z; omega)
  exact ⟨hf.mono (fun t i j z => by have := hp t i j z; omega), by rw [e]; exact h, by rw [e]; omega⟩
theorem AfC.sl {v : Int64} (h : AfC M M') : AfC M (sL M' 115 0 0 v) := ⟨h.1.sL (by omega), h.2.1, h.2.2⟩
theorem Cb.fs (h : Cb M) (hf : Fs Pf M M') (hp : ∀ t i j, Pf t i j → ¬ ((t = 4 ∨ 33 ≤ t ∧ t ≤ 38) ∧ i < 4) ∧ ¬ (t = 9 ∧ j = 1) ∧ t ≠ 0 ∧ ¬ ((20 ≤ t ∧ t ≤ 22) ∧ i = 0)) : Cb M' := by
  have hr : ∀ i : Nat, i < 4 → rd M' i = rd M i := fun i hi => rd_fs hf (fun t j ht z => (hp _ _ _ z).1 ⟨ht, hi⟩)
  have e1 := hf.g1 9 0 1 (fun z => (hp _ _ _ z).2.1 (by omega))
  have e2 := hf.g1 0 0 2 (fun z => (hp _ _ _ z).2.2.1 rfl)
  refine ⟨by rw [e1, e2]; exact h.1, fun i hi => ?_⟩
  rw [hr i hi, hf.g1 4 i 0 (fun z => (hp _ _ _ z).1 (by omega)), e2]
  intro a b
  exact (h.2 i hi a b).fs hf (fun t j ht z => (hp _ _ _ z).2.2.2 (by omega))
/-- frames that touch neither races nor boards nor stamps -/
theorem IC.std (h : IC U f B pl n P m I g M) (hf : Fs Pf M M') (hp : ∀ t i j, Pf t i j → ¬ (t = 4 ∨ 33 ≤ t ∧ t ≤ 38) ∧ ¬ (20 ≤ t ∧ t ≤ 22) ∧ t ≠ 0 ∧ ¬ (29 ≤ t ∧ t ≤ 32) ∧ ¬ (t = 9 ∧ j ≠ 7)) : CI0 M' ∧ Cb M' ∧ Ce M' ∧ Cl M' := by
  have h0 := h.1.1
  exact ⟨h0.fs hf (fun b hb => (h0.1 b hb).fs hf (fun t j ht z => by have := hp _ _ _ z; omega)) ((h0.2.1 5 (by omega) (by omega)).fs hf (fun t j ht _ z => by have := hp _ _ _ z; omega)) (fun t i j z => by have := hp _ _ _ z; omega), h.1.2.1.fs hf (fun t i j z => by have := hp _ _ _ z; omega), h.1.2.2.1.fs hf (fun t i j z => by have := hp _ _ _ z; omega), h.1.2.2.2.1.fs hf (fun t i j z => by have := hp _ _ _ z; omega)⟩
theorem Cr.z (h : M.1 9 0 7 = 0) : Cr U M := fun z => absurd h z
theorem RdS.fs (h : RdS M) (hf : Fs Pf M M') (hp : ∀ t i j, Pf t i j → ¬ (t = 5 ∧ j = 6) ∧ ¬ (t = 38 ∧ i = 4)) : RdS M' := by
  refine ⟨by rw [hf.g1 5 0 6 (fun z => (hp _ _ _ z).1 ⟨rfl, rfl⟩)]; exact h.1, fun j hj => ?_⟩
  rw [hf.g1 38 4 j (fun z => (hp _ _ _ z).2 ⟨rfl, rfl⟩)]; exact h.2 j hj
theorem IR.chg (h : IR R U f B pl n P m I M) (hf : Fs Pf M M') (hc : Cur R' M') (hU : RuM U' M') (h1 : M'.1 10 0 1 = (f' : Int)) (h54 : ∀ j, M'.1 54 0 j = B' j) (h3 : M'.1 10 0 3 = pl') (hn : M'.1 10 0 54 = (n' : Int)) (h92 : ∀ j : Nat, j < n' → M'.1 92 0 j = P' j) (h55 : M'.1 10 0 55 = (m : Int)) (h11 : 0 ≤ M'.1 10 0 11 ∧ M'.1 10 0 11 ≤ 500)
    (hp : ∀ t i j, Pf t i j → t ≠ 101 ∧ t ≠ 96 ∧ t ≠ 94 ∧ t ≠ 97) : IR R' U' f' B' pl' n' P' m I M' := by
  obtain ⟨-, -, -, -, -, -, -, -, -, h10⟩ := h
  exact ⟨hc, hU, h1, h54, h3, hn, h92, h55, h11, fun k hk => (h10 k hk).fs hf (fun t i j z => by have := hp _ _ _ z; omega)⟩
end
section
variable {L : Nat} {xs : Nat → Int} {i : Int} {d : Nat} {Q : AV → Mem → Prop} {X : Nat → Mem → Prop}
theorem la_fault {M : Mem} {z5 z6 z7 : AV} (hLI : LI L xs i M) (hi : 0 ≤ i ∧ i + 6 ≤ L) (hL : L ≤ 3072) (hx : ∀ j, -2147483648 ≤ xs j ∧ xs j ≤ 2147483647)
    (hq : ∀ M' z5 z6 z7, LI L xs (i + 6) M' → At (d + 70) kLa_law 1175 [vr 118 0, vr 9 0, vr 10 0, vr 115 0, vi i, z5, z6, z7] [] M' Q X) : At (d + 70) kLa_law 117 [vr 118 0, vr 9 0, vr 10 0, vr 115 0, vi i, z5, z6, z7] [] M Q X := by
  obtain ⟨hs, ⟨g0, g1⟩, U, f, B, pl, n, P, m, I, ic, ir, is⟩ := hLI
  have e : M.1 5 0 1 = M.1 10 0 3 := by rw [ic.2.2.2.2.1, ir.2.2.2.2.1]
  rw [bLa_law_117, c_faultC (d := d + 69), KV_eq, bLa_law_119, m_fault (d := d + 69), KV_eq, bLa_law_121, if_pos e]
  exact hq _ _ _ _ (LI.next (M1 := M) hs g1 (AfC.fr g0 (Pf := fun t _ _ => t = 9) Fs.rf (fun t i j z => by omega)) (MS.t0 ir.1).fm ic (by omega) (ir.q (MS.t0 ir.1)) rfl is)
theorem la_count {M : Mem} {z5 z6 z7 : AV} (hLI : LI L xs i M) (hi : 0 ≤ i ∧ i + 6 ≤ L) (hL : L ≤ 3072) (hx : ∀ j, -2147483648 ≤ xs j ∧ xs j ≤ 2147483647)
    (hq : ∀ M' z5 z6 z7, LI L xs (i + 6) M' → At (d + 70) kLa_law 1175 [vr 118 0, vr 9 0, vr 10 0, vr 115 0, vi i, z5, z6, z7] [] M' Q X) : At (d + 70) kLa_law 1158 [vr 118 0, vr 9 0, vr 10 0, vr 115 0, vi i, z5, z6, z7] [] M Q X := by
  obtain ⟨hs, ⟨g0, g1⟩, U, f, B, pl, n, P, m, I, ic, ir, is⟩ := hLI
  have e1 : w32 (i + 1) = i + 1 := w32_id (by omega)
  rw [bLa_law_1158 (by rw [e1, hs.1]; omega), e1, hs.2, c_count (d := d + 68) ic.2.1 is.1, KV_eq, bLa_law_1165 (by rw [e1, hs.1]; omega), e1, hs.2, m_count (d := d + 69) ir.2.1 is.1, KV_eq, bLa_law_1172, if_pos (by rw [ic.2.2.2.2.2.1, ic.2.2.2.2.2.2.2.1, ic.2.2.1, ir.2.2.2.2.2.1, ir.2.2.2.2.2.2.2.1, ir.2.2.1])]
  exact hq _ _ _ _ (LI.next (M1 := M) hs g1 (AfC.fr g0 (Pf := fun t _ _ => t = 9) Fs.rf (fun t i j z => by omega)) (MS.t0 ir.1).fm ic (by omega) (ir.q (MS.t0 ir.1)) rfl is)
theorem la_feed {M : Mem} {z5 z6 z7 : AV} (hLI : LI L xs i M) (hi : 0 ≤ i ∧ i + 6 ≤ L) (hL : L ≤ 3072) (hx : ∀ j, -2147483648 ≤ xs j ∧ xs j ≤ 2147483647)
    (hq : ∀ M' z5 z6 z7, LI L xs (i + 6) M' → At (d + 70) kLa_law 1175 [vr 118 0, vr 9 0, vr 10 0, vr 115 0, vi i, z5, z6, z7] [] M' Q X) : At (d + 70) kLa_law 25 [vr 118 0, vr 9 0, vr 10 0, vr 115 0, vi i, z5, z6, z7] [] M Q X := by
  obtain ⟨hs, ⟨g0, g1⟩, U, f, B, pl, n, P, m, I, ic, ir, is⟩ := hLI
  have e1 : w32 (i + 1) = i + 1 := w32_id (by omega)
  have e2 : w32 (i + 2) = i + 2 := w32_id (by omega)
  have e3 : w32 (i + 3) = i + 3 := w32_id (by omega)
  have e4 : w32 (i + 4) = i + 4 := w32_id (by omega)
  have e5 : w32 (i + 5) = i + 5 := w32_id (by omega)
  have hm := is.2.2.2.1
  rw [bLa_law_25 (by rw [e1, e2, e3, e4, e5, hs.1]; omega), e1, e2, e3, e4, e5, hs.2, hs.2, hs.2, hs.2, hs.2]
  refine Call_up (d := d + 2) (show d + 2 ≤ d + 70 by omega) (c_feed (f := f) ic.2.2.1 is.2.1 ?_ ?_)
  · intro hf M1 f1 q1 q2
    have af1 : AfC M M1 := AfC.fr g0 f1 (fun t i j z => by omega)
    have s1 : ∀ a b, M1.1 118 a b = M.1 118 a b := fun a b => af1.1.g1 118 a b (by omega)
    have ir1 := ir.kp af1.1 (fun t i j z => by omega)
    have st := ic.std f1 (fun t i j z => by omega)
    have ic1 : IC U (f + 20) (fun j => if f ≤ j ∧ j < f + 20 then FB (xs (i + 1).toNat) (xs (i + 2).toNat) (xs (i + 3).toNat) (xs (i + 4).toNat) (xs (i + 5).toNat) (j - f) else B j) pl n P m I i M1 :=
      ic.chg hm f1 ⟨st.1, st.2.1, st.2.2.1, st.2.2.2, ic.1.2.2.2.2.1.fs f1 (fun t i j z => by omega), ic.1.2.2.2.2.2.fs f1 (fun t i j z => by omega)⟩ (fun j hj => (f1.g1 27 0 j (by omega)).trans (ic.2.1 j hj)) q1 (fun j => by rw [q2 j, ic.2.2.2.1 j]) ((f1.g1 5 0 1 (by omega)).trans ic.2.2.2.2.1) ((f1.g1 2 0 3 (by omega)).trans ic.2.2.2.2.2.1) (fun j hj => (f1.g1 28 0 j (by omega)).trans (ic.2.2.2.2.2.2.1 j hj)) ((f1.g1 9 0 4 (by omega)).trans ic.2.2.2.2.2.2.2.1) (by rw [f1.g1 9 0 1 (by omega)]; exact ic.2.2.2.2.2.2.2.2.1) (fun t i j z => by omega)
    rw [KV_eq, bLa_law_52 (by rw [e1, e2, e3, e4, e5, s1, hs.1]; omega), e1, e2, e3, e4, e5, s1, s1, s1, s1, s1, hs.2, hs.2, hs.2, hs.2, hs.2]
    refine Call_up (d := d + 2) (show d + 2 ≤ d + 70 by omega) (m_feed (f := f) ir1.2.2.1 is.2.1 ?_ (fun z => by omega))
    intro _ M2 f2 t2 w1 w2
    have f2' : Fs pMd M1 M2 := f2.mono (fun t i j z => by omega)
    have ir2 : IR (rd M 0) U (f + 20) (fun j => if f ≤ j ∧ j < f + 20 then FB (xs (i + 1).toNat) (xs (i + 2).toNat) (xs (i + 3).toNat) (xs (i + 4).toNat) (xs (i + 5).toNat) (j - f) else B j) pl n P m I M2 :=
      ir1.chg f2 (ir1.1.fs f2 (fun t i j z => by omega)) (fun i x hi hx => (f2.g1 87 i x (by omega)).trans (ir1.2.1 i x hi hx)) w1 (fun j => by rw [w2 j, ir1.2.2.2.1 j]) ((f2.g1 10 0 3 (by omega)).trans ir1.2.2.2.2.1) ((f2.g1 10 0 54 (by omega)).trans ir1.2.2.2.2.2.1) (fun j hj => (f2.g1 92 0 j (by omega)).trans (ir1.2.2.2.2.2.2.1 j hj)) ((f2.g1 10 0 55 (by omega)).trans ir1.2.2.2.2.2.2.2.1) (by rw [f2.g1 10 0 11 (by omega)]; exact ir1.2.2.2.2.2.2.2.2.1) (fun t i j z => by omega)
    rw [KV_eq, bLa_law_79, if_pos rfl]
    exact hq _ _ _ _ (LI.next hs g1 af1 f2' ic1 (by omega) ir2 (rd_fs f1 (fun t j ht z => by omega)) ⟨is.1, by omega, is.2.2⟩)
  · intro hf
    rw [KV_eq, bLa_law_52 (by rw [e1, e2, e3, e4, e5, hs.1]; omega), e1, e2, e3, e4, e5, hs.2, hs.2, hs.2, hs.2, hs.2]
    refine Call_up (d := d + 2) (show d + 2 ≤ d + 70 by omega) (m_feed (f := f) ir.2.2.1 is.2.1 (fun z => by omega) ?_)
    intro _
    rw [KV_eq, bLa_law_79, if_pos rfl]
    exact hq _ _ _ _ (LI.next (M1 := M) hs g1 (AfC.fr g0 (Pf := fun t _ _ => t = 9) Fs.rf (fun t i j z => by omega)) (MS.t0 ir.1).fm ic (by omega) (ir.q (MS.t0 ir.1)) rfl is)
theorem h_rule {M : Mem} {U : Nat → Int} {f n m : Nat} {B : BT} {pl g0 : Int} {P : Nat → Int} {I : Nat → IMG} {s o k v : Int} (hI : IC U f B pl n P m I g0 M) (hm : m ≤ 3) (hg : 0 ≤ M.1 900 0 0 ∧ M.1 900 0 0 < 1000)
    (hq : ∀ M', (tRu (rd M 0) s o k v ≠ 0 → IC U f B pl n P m I g0 M') → (tRu (rd M 0) s o k v = 0 → IC (upU U (rqI s o k).toNat v) f B pl n P m I g0 M' ∧ M'.2 115 0 0 = Int64.ofInt (U (rqI s o k).toNat)) → rd M' 0 = rd M 0 → AfC M M' → Q (vi (tRu (rd M 0) s o k v)) M') : Call (d + 5) qLa_rule [vr 9 0, vi s, vi o, vi k, vi v, vr 115 0] M Q X := by
  have th : ∀ t : Int, tRu (rd M 0) s o k v = t → t ≠ 0 → Q (vi t) (gh M) := fun t e hz => by
    have := hq _ (fun _ => hI.ghost hm) (fun z => absurd (e.symm.trans z) hz) (rd_sI (by omega)) (AfC.th hg.1)
    rw [e] at this; exact this
  rw [show d + 5 = (d + 4) + 1 from rfl, eLa_rule, bLa_rule_0]
  refine c_rule (d := d) hI.2.1 (by have := (hI.1.1.2.2.1 0 (by omega)).b; omega) ?_ ?_ ?_
  · intro e
    show M.1 900 0 0 < 1000 ∧ At (d + 4) kLa_rule 12 [vr 9 0, vi s, vi o, vi k, vi v, vr 115 0, JK] [] (gh M) Q X
    exact ⟨hg.2, by rw [bLa_rule_12]; exact th 1 e (by omega)⟩
  · intro e
    show M.1 900 0 0 < 1000 ∧ At (d + 4) kLa_rule 15 [vr 9 0, vi s, vi o, vi k, vi v, vr 115 0, JK] [] (gh M) Q X
    exact ⟨hg.2, by rw [bLa_rule_15]; exact th 2 e (by omega)⟩
  · intro ez M1 f1 u1 z7
    have st := hI.std f1 (fun t i j z => by omega)
    have ic1 : IC (upU U (rqI s o k).toNat v) f B pl n P m I g0 M1 := hI.chg hm f1 ⟨st.1, st.2.1, st.2.2.1, st.2.2.2, Cr.z z7, hI.1.2.2.2.2.2.fs f1 (fun t i j z => by omega)⟩ u1 ((f1.g1 5 0 2 (by omega)).trans hI.2.2.1) (fun j => (f1.g1 39 0 j (by omega)).trans (hI.2.2.2.1 j)) ((f1.g1 5 0 1 (by omega)).trans hI.2.2.2.2.1) ((f1.g1 2 0 3 (by omega)).trans hI.2.2.2.2.2.1) (fun j hj => (f1.g1 28 0 j (by omega)).trans (hI.2.2.2.2.2.2.1 j hj)) ((f1.g1 9 0 4 (by omega)).trans hI.2.2.2.2.2.2.2.1) (by rw [f1.g1 9 0 1 (by omega)]; exact hI.2.2.2.2.2.2.2.2.1) (fun t i j z => by omega)
    have r1 : rd M1 0 = rd M 0 := rd_fs f1 (fun t j ht z => by omega)
    rw [KV_eq, bLa_rule_8 (by omega), bLa_rule_17, show ((0 : Int)).toNat = 0 from rfl]
    have := hq (sL M1 115 0 0 (Int64.ofInt (U (rqI s o k).toNat))) (fun z => absurd ez z) (fun _ => ⟨ic1.out hm, sL_eq⟩) r1 (AfC.ok hg.1 f1 (fun t i j z => by omega))
    rw [ez] at this; exact this
theorem la_rule {M : Mem} {z5 z6 z7 : AV} (hLI : LI L xs i M) (hi : 0 ≤ i ∧ i + 6 ≤ L) (hL : L ≤ 3072) (hx : ∀ j, -2147483648 ≤ xs j ∧ xs j ≤ 2147483647)
    (hq : ∀ M' z5 z6 z7, LI L xs (i + 6) M' → At (d + 70) kLa_law 1175 [vr 118 0, vr 9 0, vr 10 0, vr 115 0, vi i, z5, z6, z7] [] M' Q X) : At (d + 70) kLa_law 412 [vr 118 0, vr 9 0, vr 10 0, vr 115 0, vi i, z5, z6, z7] [] M Q X := by
  obtain ⟨hs, ⟨g0, g1⟩, U, f, B, pl, n, P, m, I, ic, ir, is⟩ := hLI
  have e1 : w32 (i + 1) = i + 1 := w32_id (by omega)
  have e2 : w32 (i + 2) = i + 2 := w32_id (by omega)
  have e3 : w32 (i + 3) = i + 3 := w32_id (by omega)
  have e4 : w32 (i + 4) = i + 4 := w32_id (by omega)
  have hb3 := (ic.1.1.2.2.1 0 (by omega)).b
  rw [bLa_law_412 (by rw [e1, e2, e3, e4, hs.1]; omega), e1, e2, e3, e4, hs.2, hs.2, hs.2, hs.2]
  refine Call_up (d := d + 5) (show d + 5 ≤ d + 70 by omega) (h_rule ic is.2.2.2.1 ⟨g0, by omega⟩ ?_)
  intro M1 icn icz r1 af1
  have s1 : ∀ a b, M1.1 118 a b = M.1 118 a b := fun a b => af1.1.g1 118 a b (by omega)
  have ir1 := ir.kp af1.1 (fun t i j z => by omega)
  rw [KV_eq, bLa_law_435 (by rw [e1, e2, e3, e4, s1, hs.1]; omega), e1, e2, e3, e4, s1, s1, s1, s1, hs.2, hs.2, hs.2, hs.2]
  refine Call_up (d := d + 2) (show d + 2 ≤ d + 70 by omega) (m_rule ir1.1 ir1.2.1 ?_ ?_)
  · intro hz w
    have ms := MS.th ir1.1 (tRu (rd M 0) (xs (i + 1).toNat) (xs (i + 2).toNat) (xs (i + 3).toNat) (xs (i + 4).toNat))
    rw [KV_eq, bLa_law_458, eMo_thrown, bMo_thrown_0, KV_eq, bLa_law_461, th0_eq, if_pos rfl, bLa_law_465, if_pos hz, bLa_law_476]
    exact hq _ _ _ _ (LI.next hs g1 af1 ms.fm (icn hz) (by omega) (ir1.q ms) r1 is)
  · intro hz M2 f2 t2 u2
    obtain ⟨ic1, o1⟩ := icz hz
    have f2' : Fs pMd M1 M2 := f2.mono (fun t i j z => by omega)
    have ir2 : IR (rd M 0) (upU U (rqI (xs (i + 1).toNat) (xs (i + 2).toNat) (xs (i + 3).toNat)).toNat (xs (i + 4).toNat)) f B pl n P m I M2 :=
      ir1.chg f2 (ir1.1.fs f2 (fun t i j z => by omega)) u2 ((f2.g1 10 0 1 (by omega)).trans ir1.2.2.1) (fun j => (f2.g1 54 0 j (by omega)).trans (ir1.2.2.2.1 j)) ((f2.g1 10 0 3 (by omega)).trans ir1.2.2.2.2.1) ((f2.g1 10 0 54 (by omega)).trans ir1.2.2.2.2.2.1) (fun j hj => (f2.g1 92 0 j (by omega)).trans (ir1.2.2.2.2.2.2.1 j hj)) ((f2.g1 10 0 55 (by omega)).trans ir1.2.2.2.2.2.2.2.1) (by rw [f2.g1 10 0 11 (by omega)]; exact ir1.2.2.2.2.2.2.2.2.1) (fun t i j z => by omega)
    have hru : (0 ≤ xs (i + 1).toNat ∧ xs (i + 1).toNat < rd M 0 4 1) ∧ ruP (xs (i + 2).toNat) (xs (i + 3).toNat) (xs (i + 4).toNat) := by
      unfold tRu at hz
      by_cases ha : 0 ≤ xs (i + 1).toNat ∧ xs (i + 1).toNat < rd M 0 4 1
      · rw [if_pos ha] at hz
        by_cases hb : ruP (xs (i + 2).toNat) (xs (i + 3).toNat) (xs (i + 4).toNat)
        · exact ⟨ha, hb⟩
        · rw [if_neg hb] at hz; omega
      · rw [if_neg ha] at hz; omega
    have o2 : M2.2 115 0 0 = M1.2 115 0 0 := f2'.g2 115 0 0 (by omega)
    rw [KV_eq, bLa_law_458, eMo_thrown, bMo_thrown_0, KV_eq, bLa_law_461, t2, hz, if_pos rfl, bLa_law_465, if_neg (by omega), bLa_law_467 (by omega), show ((0 : Int)).toNat = 0 from rfl, o2, o1, if_pos (cmp64_eq.mpr rfl), bLa_law_476]
    exact hq _ _ _ _ (LI.next hs g1 af1 f2' ic1 (by omega) ir2 r1 ⟨is.1.up (by omega) hru.2, is.2⟩)
end
