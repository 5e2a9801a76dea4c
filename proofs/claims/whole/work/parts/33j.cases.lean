/-! LAYER 4, THE LAW: an image put back, a race told -/
section
variable {L : Nat} {xs : Nat → Int} {i : Int} {d : Nat} {Q : AV → Mem → Prop} {X : Nat → Mem → Prop}
theorem la_restore {M : Mem} {z5 z6 z7 : AV} (hLI : LI L xs i M) (hi : 0 ≤ i ∧ i + 6 ≤ L) (hL : L ≤ 3072) (hx : ∀ j, -2147483648 ≤ xs j ∧ xs j ≤ 2147483647)
    (hq : ∀ M' z5 z6 z7, LI L xs (i + 6) M' → At (d + 70) kLa_law 1175 [vr 118 0, vr 9 0, vr 10 0, vr 115 0, vi i, z5, z6, z7] [] M' Q X) : At (d + 70) kLa_law 1151 [vr 118 0, vr 9 0, vr 10 0, vr 115 0, vi i, z5, z6, z7] [] M Q X := by
  obtain ⟨hs, ⟨g0, g1⟩, U, f, B, pl, n, P, m, I, ic, ir, is⟩ := hLI
  have hm := is.2.2.2.1
  rw [bLa_law_1151]
  refine Call_up (d := d + 3) (show d + 3 ≤ d + 70 by omega) (c_restore ic.2.2.2.2.2.2.2.1 hm (ic.1.1.2.1 0 (by omega) (by omega)) ?_ ?_)
  · intro h0
    rw [KV_eq, bLa_law_1153]
    refine Call_up (d := d + 58) (show d + 58 ≤ d + 70 by omega) (m_restoreB (R := rd M 0) (T := fun _ => none) (B := B) ir.2.2.2.2.2.2.2.1 hm ?_ (fun z => by omega) (fun z => by omega) (fun n z => by omega) (fun n j z => by omega))
    intro _
    rw [KV_eq, bLa_law_1155, if_pos rfl]
    exact hq _ _ _ _ (LI.next (M1 := M) hs g1 (AfC.fr g0 (Pf := fun t _ _ => t = 9) Fs.rf (fun t i j z => by omega)) (MS.t0 ir.1).fm ic (by omega) (ir.q (MS.t0 ir.1)) rfl is)
  · intro h1 M1 f1 rd1 zo1 q27 q28 q23 q94 q97
    obtain ⟨p, rfl⟩ : ∃ p, m = p + 1 := ⟨m - 1, by omega⟩
    rw [nm_rd (ic.1.1.2.1 (p + 1) (by omega) (by omega))] at rd1
    obtain ⟨im1, im2, im3, im4⟩ := ic.2.2.2.2.2.2.2.2.2 p (by omega)
    have nq : ∀ t k j, (pDc 0 t k j ∨ (t = 9 ∧ k = 0 ∧ (j = 4 ∨ j = 7))) → ((t = 4 ∨ 33 ≤ t ∧ t ≤ 38 ∨ t = 27 ∨ t = 28 ∨ t = 2) ∧ k = 0) ∨ (t = 9 ∧ (j = 4 ∨ j = 7)) := fun t k j z => by unfold pDc inRa at z; omega
    have af1 : AfC M M1 := AfC.fr g0 f1 (fun t i j z => by have := nq _ _ _ z; omega)
    have ir1 := ir.kp af1.1 (fun t i j z => by omega)
    have r1 : rd M1 0 = (I p).1 := rd1.trans im1
    have rr : ∀ k : Nat, k < 4 → rd M1 k = rd M (if k = 0 then p + 1 else k) := fun k hk => by
      by_cases e : k = 0
      · rw [if_pos e, e]; exact rd1
      · rw [if_neg e]; exact rd_fs f1 (fun t j ht z => by have := nq _ _ _ z; omega)
    have stp' : ∀ k : Nat, k < 4 → M1.1 4 k 0 = M.1 4 (if k = 0 then p + 1 else k) 0 := fun k hk => congrFun (congrFun (rr k hk) 4) 0
    have e91 : M1.1 9 0 1 = M.1 9 0 1 := f1.g1 9 0 1 (fun z => by have := nq _ _ _ z; omega)
    have h0 := ic.1.1
    have lt4 : ∀ k : Nat, k < 4 → (if k = 0 then p + 1 else k) < 4 := fun k hk => by split <;> omega
    have c0 : CI0 M1 := by
      refine ⟨fun b hb => (h0.1 b hb).fs f1 (fun t j ht z => by have := nq _ _ _ z; omega), fun k hk h4 => ?_, fun k hk => by rw [rr k hk]; exact h0.2.2.1 _ (lt4 k hk), fun k hk => by rw [stp' k hk, e91]; exact h0.2.2.2.1 _ (lt4 k hk), fun k l hk hl he => ?_⟩
      · by_cases e : k = 0
        · rw [e]; exact zo1
        · exact (h0.2.1 k hk h4).fs f1 (fun t j ht _ z => by have := nq _ _ _ z; omega)
      · rw [stp' k hk, stp' l hl] at he
        rw [rr k hk, rr l hl]
        exact h0.2.2.2.2 _ _ (lt4 k hk) (lt4 l hl) he
    have cb : Cb M1 := by
      have e2 := f1.g1 0 0 2 (fun z => by have := nq _ _ _ z; omega)
      refine ⟨by rw [e2, e91]; exact ic.1.2.1.1, fun k hk a b => ?_⟩
      rw [rr k hk] at a ⊢
      rw [stp' k hk, e2] at b
      exact (ic.1.2.1.2 _ (lt4 k hk) a b).fs f1 (fun t j ht z => by have := nq _ _ _ z; omega)
    have ce : Ce M1 := by
      have e2 := f1.g1 9 0 13 (fun z => by have := nq _ _ _ z; omega)
      have e3 := f1.g1 9 0 14 (fun z => by have := nq _ _ _ z; omega)
      refine ⟨by rw [e2, e91]; exact ic.1.2.2.1.1, fun k hk a b => ?_⟩
      rw [rr k hk] at a ⊢
      rw [stp' k hk, e2] at b
      rw [e3]; exact ic.1.2.2.1.2 _ (lt4 k hk) a b
    have cl : Cl M1 := by
      intro k hk
      have a1 := f1.g1 31 0 k (fun z => by have := nq _ _ _ z; omega)
      have a2 := f1.g1 32 0 k (fun z => by have := nq _ _ _ z; omega)
      have a3 := f1.g2 29 0 k (fun z => by have := nq _ _ _ z; omega)
      have a4 := f1.g2 30 0 k (fun z => by have := nq _ _ _ z; omega)
      refine ⟨by rw [a1, e91]; exact (ic.1.2.2.2.1 k hk).1, fun l hl a b => ?_⟩
      rw [rr l hl] at a ⊢
      rw [stp' l hl, a1] at b
      rw [a2, a3, a4]; exact (ic.1.2.2.2.1 k hk).2 _ (lt4 l hl) a b
    have hof := (is.2.2.2.2 p (by omega)).2
    have ic1 : IC (I p).2.1 f B pl (I p).2.2.1 (I p).2.2.2.1 p I i M1 := by
      refine ⟨⟨c0, cb, ce, cl, Cr.z q97, ic.1.2.2.2.2.2.fs f1 (fun t i j z => by have := nq _ _ _ z; omega)⟩, fun j hj => (q27 j hj).trans (im2 j hj), (f1.g1 5 0 2 (fun z => by have := nq _ _ _ z; omega)).trans ic.2.2.1, fun j => (f1.g1 39 0 j (fun z => by have := nq _ _ _ z; omega)).trans (ic.2.2.2.1 j), (f1.g1 5 0 1 (fun z => by have := nq _ _ _ z; omega)).trans ic.2.2.2.2.1, q23.trans im3, fun j hj => (q28 j (by have := hof.1; omega)).trans (im4 j hj), by rw [q94]; omega, by rw [e91]; exact ic.2.2.2.2.2.2.2.2.1, fun k hk => (ic.2.2.2.2.2.2.2.2.2 k (by omega)).fs (by omega) f1 (fun t i j z => by have := nq _ _ _ z; omega)⟩
    obtain ⟨jm1, jm2, jm3, jm4⟩ := ir1.2.2.2.2.2.2.2.2.2 p (by omega)
    have nr : ∀ t i j, pRr t i j → (t = 10 ∧ (j ≤ 44 ∧ j ≠ 1 ∧ j ≠ 3 ∨ j = 54 ∨ j = 55)) ∨ (55 ≤ t ∧ t ≤ 67) ∨ t = 87 ∨ t = 92 := fun t i j z => z
    have is' : IS (I p).2.1 f (I p).2.2.1 (I p).2.2.2.1 p I := ⟨(is.2.2.2.2 p (by omega)).1, is.2.1, hof, by omega, fun k hk => is.2.2.2.2 k (by omega)⟩
    have fin : ∀ M2, Fs pRr M1 M2 → M2.1 10 0 55 = ((p + 1 : Nat) : Int) - 1 → (∀ i x : Nat, i < 15 → x < 6 → M2.1 87 i x = M1.1 101 ((p + 1 - 1) * 15 + i) x) → (∀ j : Nat, j < 9 → M2.1 92 0 j = M1.1 96 (p + 1 - 1) j) → M2.1 10 0 54 = M1.1 96 (p + 1 - 1) 9 → Cur (I p).1 M2 → (0 ≤ M2.1 10 0 11 ∧ M2.1 10 0 11 ≤ 500) → ∀ z5 z6 z7, At (d + 70) kLa_law 1155 [vr 118 0, vr 9 0, vr 10 0, vr 115 0, vi i, z5, z6, z7] [vi (((p + 1 : Nat) : Int) - 1), vi (((p + 1 : Nat) : Int) - 1)] M2 Q X := by
      intro M2 f2 w55 w87 w92 w54 cu w11 z5 z6 z7
      rw [show p + 1 - 1 = p by omega] at w87 w92 w54
      have f2' : Fs pMd M1 M2 := f2.mono (fun t i j z => by have := nr _ _ _ z; omega)
      have ir2 : IR (I p).1 (I p).2.1 f B pl (I p).2.2.1 (I p).2.2.2.1 p I M2 := by
        refine ⟨cu, fun i x hi hx => (w87 i x hi hx).trans (jm1 i x hi hx), (f2.g1 10 0 1 (fun z => by have := nr _ _ _ z; omega)).trans ir1.2.2.1, fun j => (f2.g1 54 0 j (fun z => by have := nr _ _ _ z; omega)).trans (ir1.2.2.2.1 j), (f2.g1 10 0 3 (fun z => by have := nr _ _ _ z; omega)).trans ir1.2.2.2.2.1, w54.trans jm2, fun j hj => (w92 j (by have := hof.1; omega)).trans (jm3 j hj), by rw [w55]; omega, w11, fun k hk => (ir1.2.2.2.2.2.2.2.2.2 k (by omega)).fs f2 (fun t i j z => by have := nr _ _ _ z; omega)⟩
      rw [bLa_law_1155, if_pos rfl]
      exact hq _ _ _ _ (LI.next hs g1 af1 f2' ic1 (by omega) ir2 r1 is')
    rw [KV_eq, bLa_law_1153]
    rcases jm4 with ⟨a, b, c⟩ | ⟨nn, T, hx, b, c⟩
    · refine Call_up (d := d + 58) (show d + 58 ≤ d + 70 by omega) (m_restoreB (R := (I p).1) (T := fun _ => none) (B := B) ir1.2.2.2.2.2.2.2.1 hm (fun z => by omega) (fun _ => Or.inl c) ?_ (fun nn _ z => by rw [show p + 1 - 1 = p by omega, c] at z; omega) (fun nn j _ z => by rw [show p + 1 - 1 = p by omega, c] at z; omega))
      intro _ M2 f2 z2 w55 w87 w92 w54 wn _
      obtain ⟨u1, u2, u3⟩ := wn c
      rw [KV_eq]
      exact fin M2 f2 w55 w87 w92 w54 (Or.inl ⟨a, u1, b, u2⟩) (by rw [u3]; exact ir1.2.2.2.2.2.2.2.2.1) _ _ _
    · refine Call_up (d := d + 58) (show d + 58 ≤ d + 70 by omega) (m_restoreB (R := (I p).1) (T := T) (B := (I p).2.2.2.2) ir1.2.2.2.2.2.2.2.1 hm (fun z => by omega) (fun _ => Or.inr ⟨nn, hx.1, b⟩) ?_ (fun n2 _ z => by
          have e : n2 = nn := by rw [show p + 1 - 1 = p by omega, b] at z; omega
          rw [e]; exact hx) (fun n2 j _ z hj => by
          have e : n2 = nn := by rw [show p + 1 - 1 = p by omega, b] at z; omega
          rw [show p + 1 - 1 = p by omega]; exact c j (by omega)))
      intro _ M2 f2 z2 w55 w87 w92 w54 _ wt
      have cm := wt nn b
      rw [KV_eq]
      exact fin M2 f2 w55 w87 w92 w54 (Or.inr ⟨_, nn, T, hx, cm⟩) (by rw [cm.2.1]; have := hx.1; omega) _ _ _
theorem la_race {M : Mem} {z5 z6 z7 : AV} (hLI : LI L xs i M) (hi : 0 ≤ i ∧ i + 6 ≤ L) (hL : L ≤ 3072) (hx : ∀ j, -2147483648 ≤ xs j ∧ xs j ≤ 2147483647)
    (hq : ∀ M' z5 z6 z7, LI L xs (i + 6) M' → At (d + 70) kLa_law 1175 [vr 118 0, vr 9 0, vr 10 0, vr 115 0, vi i, z5, z6, z7] [] M' Q X) : At (d + 70) kLa_law 82 [vr 118 0, vr 9 0, vr 10 0, vr 115 0, vi i, z5, z6, z7] [] M Q X := by
  obtain ⟨hs, ⟨g0, g1⟩, U, f, B, pl, n, P, m, I, ic, ir, is⟩ := hLI
  have hm := is.2.2.2.1
  have hf5 := is.2.1
  have e1 : w32 (i + 1) = i + 1 := w32_id (by omega)
  have eB : (fun j => M.1 39 0 j) = B := funext ic.2.2.2.1
  have e52 : M.1 5 0 2 = (f : Int) := ic.2.2.1
  have h91 := ic.2.2.2.2.2.2.2.2.1
  rw [bLa_law_82 (by rw [e1, hs.1]; omega), e1, hs.2]
  -- the reference behind it
  have go : ∀ (M1 : Mem) (t : Int), AfC M M1 → tRa (f : Int) (xs (i + 1).toNat) = t →
      (t = 1 → IC U f B pl n P m I i M1 ∧ rd M1 0 = rd M 0) →
      (∀ (k : Nat) e, xs (i + 1).toNat = (k : Int) → t = 0 → txt B k = .inl e → IC U 0 B e.2 n P m I i M1 ∧ rd M1 0 = rd M 0 ∧ M1.2 115 0 0 = Int64.ofInt (w32 (e.1 - 10))) →
      (∀ (k : Nat) D T, xs (i + 1).toNat = (k : Int) → t = 0 → txt B k = .inr (D, T) → IC (fun _ => 0) 0 B (-1) n P m I (i + 1) M1 ∧ RDd D T (rd M1 0) ∧ M1.2 115 0 0 = Int64.ofInt (D 4 1)) →
      At (d + 70) kLa_law 90 [vr 118 0, vr 9 0, vr 10 0, vr 115 0, vi i, z5, z6, z7] [vi t] M1 Q X := by
    intro M1 t af1 ht k1 k2 k3
    have s1 : ∀ a b, M1.1 118 a b = M.1 118 a b := fun a b => af1.1.g1 118 a b (by omega)
    have ir1 := ir.kp af1.1 (fun t i j z => by omega)
    have eB1 : (fun j => M1.1 54 0 j) = B := funext ir1.2.2.2.1
    have e10 : M1.1 10 0 1 = (f : Int) := ir1.2.2.1
    rw [bLa_law_90 (by rw [e1, s1, hs.1]; omega), e1, s1, hs.2]
    refine Call_up (d := d + 58) (show d + 58 ≤ d + 70 by omega) (m_race (by rw [e10]; omega) ?_ ?_ ?_)
    · intro hno
      rw [e10] at hno
      have t1 : t = 1 := by rw [← ht]; unfold tRa; rw [if_neg hno]
      subst t1
      obtain ⟨ic1, r1⟩ := k1 rfl
      have ms := MS.th ir1.1 1
      have z2 : (sI (sI M1 10 0 0 0) 10 0 0 1).1 10 0 0 = 1 := sI_eq
      rw [KV_eq, bLa_law_98, eMo_thrown, bMo_thrown_0, KV_eq, bLa_law_101, z2, if_pos rfl, bLa_law_105, if_pos (by omega), bLa_law_116]
      exact hq _ _ _ _ (LI.next hs g1 af1 ms.fm ic1 (by omega) (ir1.q ms) r1 is)
    · intro k e M2 hk hle htx f2 z2 w1 w3
      rw [e10] at hle
      rw [eB1] at htx
      have t0 : t = 0 := by rw [← ht]; unfold tRa; rw [if_pos ⟨by omega, hle⟩]
      subst t0
      obtain ⟨ic1, r1, o1⟩ := k2 k e hk rfl htx
      have nr : ∀ t i j, pMy t i j → (t = 10 ∧ (j ≤ 8 ∨ 25 ≤ j ∧ j ≤ 33)) ∨ (62 ≤ t ∧ t ≤ 67) := fun t i j z => z
      have f2' : Fs pMd M1 M2 := f2.mono (fun t i j z => by have := nr _ _ _ z; omega)
      have ir2 : IR (rd M 0) U 0 B e.2 n P m I M2 :=
        ir1.chg f2 (ir1.1.fs f2 (fun t i j z => by have := nr _ _ _ z; omega)) (fun i x hi hx => (f2.g1 87 i x (fun z => by have := nr _ _ _ z; omega)).trans (ir1.2.1 i x hi hx)) w1 (fun j => (f2.g1 54 0 j (fun z => by have := nr _ _ _ z; omega)).trans (ir1.2.2.2.1 j)) w3 ((f2.g1 10 0 54 (fun z => by have := nr _ _ _ z; omega)).trans ir1.2.2.2.2.2.1) (fun j hj => (f2.g1 92 0 j (fun z => by have := nr _ _ _ z; omega)).trans (ir1.2.2.2.2.2.2.1 j hj)) ((f2.g1 10 0 55 (fun z => by have := nr _ _ _ z; omega)).trans ir1.2.2.2.2.2.2.2.1) (by rw [f2.g1 10 0 11 (fun z => by have := nr _ _ _ z; omega)]; exact ir1.2.2.2.2.2.2.2.2.1) (fun t i j z => by have := nr _ _ _ z; omega)
      have o2 : M2.2 115 0 0 = Int64.ofInt (w32 (e.1 - 10)) := (f2'.g2 115 0 0 (by omega)).trans o1
      rw [KV_eq, bLa_law_98, eMo_thrown, bMo_thrown_0, KV_eq, bLa_law_101, z2, if_pos rfl, bLa_law_105, if_neg (by omega), bLa_law_107 (by omega), show ((0 : Int)).toNat = 0 from rfl, o2, if_pos (cmp64_eq.mpr rfl), bLa_law_116]
      exact hq _ _ _ _ (LI.next hs g1 af1 f2' ic1 (by omega) ir2 r1 ⟨is.1, by omega, is.2.2⟩)
    · intro k D T M2 hk hle htx f2 z2 w1 w3 wcm w87 w44
      rw [e10] at hle
      rw [eB1] at htx wcm
      have t0 : t = 0 := by rw [← ht]; unfold tRa; rw [if_pos ⟨by omega, hle⟩]
      subst t0
      obtain ⟨ic1, rdd, o1⟩ := k3 k D T hk rfl htx
      have hk5 : k ≤ 500 := by omega
      have hwd := txt_wd hk5 htx
      have cm := wcm _ rdd
      have tx : TX (rd M1 0) B k T := ⟨hk5, by rw [rdd.2.1 4 1 (by omega)]; exact hwd.2.2, hwd.2.1, D, htx, rdd⟩
      have nr : ∀ t i j, pMz t i j → (t = 10 ∧ j ≤ 44) ∨ (55 ≤ t ∧ t ≤ 67) ∨ t = 87 := fun t i j z => z
      have f2' : Fs pMd M1 M2 := f2.mono (fun t i j z => by have := nr _ _ _ z; omega)
      have ir2 : IR (rd M1 0) (fun _ => 0) 0 B (-1) n P m I M2 :=
        ir1.chg f2 (Or.inr ⟨B, k, T, tx, cm⟩) (fun i x hi hx => by rw [w87 i x hi hx]; unfold ruM; split <;> rfl) w1 (fun j => (f2.g1 54 0 j (fun z => by have := nr _ _ _ z; omega)).trans (ir1.2.2.2.1 j)) w3 ((f2.g1 10 0 54 (fun z => by have := nr _ _ _ z; omega)).trans ir1.2.2.2.2.2.1) (fun j hj => (f2.g1 92 0 j (fun z => by have := nr _ _ _ z; omega)).trans (ir1.2.2.2.2.2.2.1 j hj)) ((f2.g1 10 0 55 (fun z => by have := nr _ _ _ z; omega)).trans ir1.2.2.2.2.2.2.2.1) (by rw [cm.2.1]; omega) (fun t i j z => by have := nr _ _ _ z; omega)
      have o2 : M2.2 115 0 0 = Int64.ofInt (D 4 1) := (f2'.g2 115 0 0 (by omega)).trans o1
      rw [KV_eq, bLa_law_98, eMo_thrown, bMo_thrown_0, KV_eq, bLa_law_101, z2, if_pos rfl, bLa_law_105, if_neg (by omega), bLa_law_107 (by omega), show ((0 : Int)).toNat = 0 from rfl, o2, if_pos (cmp64_eq.mpr rfl), bLa_law_116]
      exact hq _ _ _ _ (LI.next hs g1 af1 f2' ic1 (by omega) ir2 rfl ⟨fun j hj => ⟨⟨Int.le_refl 0, by show (0 : Int) ≤ 4; omega⟩, fun _ => rfl⟩, by omega, is.2.2⟩)
  refine Call_up (d := d + 58) (show d + 58 ≤ d + 70 by omega) ?_
  rw [show d + 58 = (d + 57) + 1 from rfl, eLa_race, bLa_race_0]
  refine c_race (d := d) (by rw [e52]; omega) ic.1.2.2.2.2.2 (ic.1.1.2.1 0 (by omega) (by omega)) (by omega) ?_ ?_ ?_
  · intro e
    show M.1 900 0 0 < 1000 ∧ At (d + 57) kLa_race 9 [vr 9 0, vi (xs (i + 1).toNat), vr 115 0, JK] [] (gh M) _ _
    refine ⟨by omega, ?_⟩
    rw [e52] at e
    rw [bLa_race_9, KV_eq]
    exact go (gh M) 1 (AfC.th g0) e (fun _ => ⟨ic.ghost hm, rd_sI (by omega)⟩) (fun _ _ _ z => by omega) (fun _ _ _ _ z => by omega)
  · intro k e M1 hk ht htx f1 q52 rs1 q51
    rw [e52] at ht
    rw [eB] at htx
    have nq : ∀ t i j, pRe t i j → (t = 5 ∧ i = 0) ∨ ((t = 4 ∨ 33 ≤ t ∧ t ≤ 38) ∧ i = 4) ∨ t = 6 ∨ t = 40 ∨ t = 41 := fun t i j z => by unfold pRe at z; omega
    have h0 := ic.1.1
    have c0 : CI0 M1 := h0.fs f1 (fun b hb => (h0.1 b hb).fs f1 (fun t j ht z => by have := nq _ _ _ z; omega)) ((h0.2.1 5 (by omega) (by omega)).fs f1 (fun t j ht _ z => by have := nq _ _ _ z; omega)) (fun t i j z => by have := nq _ _ _ z; omega)
    have ic1 : IC U 0 B e.2 n P m I i M1 :=
      ic.chg hm f1 ⟨c0, ic.1.2.1.fs f1 (fun t i j z => by have := nq _ _ _ z; omega), ic.1.2.2.1.fs f1 (fun t i j z => by have := nq _ _ _ z; omega), ic.1.2.2.2.1.fs f1 (fun t i j z => by have := nq _ _ _ z; omega), ic.1.2.2.2.2.1.fs f1 (fun t i j z => by have := nq _ _ _ z; omega), rs1⟩ (fun j hj => (f1.g1 27 0 j (fun z => by have := nq _ _ _ z; omega)).trans (ic.2.1 j hj)) q52 (fun j => (f1.g1 39 0 j (fun z => by have := nq _ _ _ z; omega)).trans (ic.2.2.2.1 j)) q51 ((f1.g1 2 0 3 (fun z => by have := nq _ _ _ z; omega)).trans ic.2.2.2.2.2.1) (fun j hj => (f1.g1 28 0 j (fun z => by have := nq _ _ _ z; omega)).trans (ic.2.2.2.2.2.2.1 j hj)) ((f1.g1 9 0 4 (fun z => by have := nq _ _ _ z; omega)).trans ic.2.2.2.2.2.2.2.1) (by rw [f1.g1 9 0 1 (fun z => by have := nq _ _ _ z; omega)]; exact h91) (fun t i j z => by have := nq _ _ _ z; omega)
    rw [KV_eq, bLa_race_5 (by omega), bLa_race_11, show ((0 : Int)).toNat = 0 from rfl, KV_eq]
    refine go _ 0 (AfC.ok g0 f1 (fun t i j z => by have := nq _ _ _ z; omega)) ht (fun z => by omega) (fun k2 e2 h2 _ h3 => ?_) (fun k2 D T h2 _ h3 => ?_)
    · have ek : k2 = k := by omega
      subst ek
      rw [htx] at h3
      cases h3
      exact ⟨ic1.out hm, (rd_fs f1 (fun t j ht z => by have := nq _ _ _ z; omega) : rd M1 0 = rd M 0), sL_eq⟩
    · have ek : k2 = k := by omega
      subst ek
      rw [htx] at h3
      cases h3
  · intro k D T M1 hk ht htx f1 q52 rs1 q51 rdd q40 q91 zo1 q27 q97
    rw [e52] at ht
    rw [eB] at htx
    have nq : ∀ t i j, pRz t i j → t = 5 ∨ ((t = 4 ∨ 33 ≤ t ∧ t ≤ 38) ∧ (i = 4 ∨ i = 0)) ∨ t = 6 ∨ t = 40 ∨ t = 41 ∨ (t = 27 ∧ i = 0) ∨ (t = 9 ∧ (j = 1 ∨ j = 7)) := fun t i j z => by unfold pRz inRa at z; omega
    have h0 := ic.1.1
    have rr : ∀ k : Nat, 1 ≤ k → k < 4 → rd M1 k = rd M k := fun k k1 k4 => rd_fs f1 (fun t j ht z => by have := nq _ _ _ z; omega)
    have st0 : M1.1 4 0 0 = M.1 9 0 1 + 1 := q40
    have stk : ∀ k : Nat, 1 ≤ k → k < 4 → M1.1 4 k 0 = M.1 4 k 0 := fun k k1 k4 => f1.g1 4 k 0 (fun z => by have := nq _ _ _ z; omega)
    have hle : ∀ k : Nat, k < 4 → 0 ≤ M.1 4 k 0 ∧ M.1 4 k 0 ≤ M.1 9 0 1 := fun k hk => h0.2.2.2.1 k hk
    have c0 : CI0 M1 := by
      refine ⟨fun b hb => (h0.1 b hb).fs f1 (fun t j ht z => by have := nq _ _ _ z; omega), fun k hk h4 => ?_, fun k hk => ?_, fun k hk => ?_, fun k l hk hl he => ?_⟩
      · by_cases e : k = 0
        · rw [e]; exact zo1
        · exact (h0.2.1 k hk h4).fs f1 (fun t j ht _ z => by have := nq _ _ _ z; omega)
      · by_cases e : k = 0
        · rw [e]; exact rdd.1
        · rw [rr k (by omega) hk]; exact h0.2.2.1 k hk
      · by_cases e : k = 0
        · rw [e, st0, q91]; omega
        · have := hle k hk
          rw [stk k (by omega) hk, q91]; omega
      · by_cases e : k = 0
        · by_cases e2 : l = 0
          · rw [e, e2]
          · have := hle l hl
            rw [e, st0, stk l (by omega) hl] at he; omega
        · by_cases e2 : l = 0
          · have := hle k hk
            rw [e2, st0, stk k (by omega) hk] at he; omega
          · rw [stk k (by omega) hk, stk l (by omega) hl] at he
            rw [rr k (by omega) hk, rr l (by omega) hl]; exact h0.2.2.2.2 k l hk hl he
    have cb : Cb M1 := by
      have e2 := f1.g1 0 0 2 (fun z => by have := nq _ _ _ z; omega)
      have hb1 := ic.1.2.1.1
      refine ⟨by rw [e2, q91]; omega, fun k hk a b => ?_⟩
      by_cases e : k = 0
      · rw [e, st0, e2] at b; omega
      · rw [rr k (by omega) hk] at a ⊢
        rw [stk k (by omega) hk, e2] at b
        exact (ic.1.2.1.2 k hk a b).fs f1 (fun t j ht z => by have := nq _ _ _ z; omega)
    have ce : Ce M1 := by
      have e2 := f1.g1 9 0 13 (fun z => by have := nq _ _ _ z; omega)
      have e3 := f1.g1 9 0 14 (fun z => by have := nq _ _ _ z; omega)
      have hb1 := ic.1.2.2.1.1
      refine ⟨by rw [e2, q91]; omega, fun k hk a b => ?_⟩
      by_cases e : k = 0
      · rw [e, st0, e2] at b; omega
      · rw [rr k (by omega) hk] at a ⊢
        rw [stk k (by omega) hk, e2] at b
        rw [e3]; exact ic.1.2.2.1.2 k hk a b
    have cl : Cl M1 := by
      intro k hk
      have a1 := f1.g1 31 0 k (fun z => by have := nq _ _ _ z; omega)
      have a2 := f1.g1 32 0 k (fun z => by have := nq _ _ _ z; omega)
      have a3 := f1.g2 29 0 k (fun z => by have := nq _ _ _ z; omega)
      have a4 := f1.g2 30 0 k (fun z => by have := nq _ _ _ z; omega)
      have hb1 := (ic.1.2.2.2.1 k hk).1
      refine ⟨by rw [a1, q91]; omega, fun l hl a b => ?_⟩
      by_cases e : l = 0
      · rw [e, st0, a1] at b; omega
      · rw [rr l (by omega) hl] at a ⊢
        rw [stk l (by omega) hl, a1] at b
        rw [a2, a3, a4]; exact (ic.1.2.2.2.1 k hk).2 l hl a b
    have ic1 : IC (fun _ => 0) 0 B (-1) n P m I (i + 1) M1 :=
      ic.chg hm f1 ⟨c0, cb, ce, cl, Cr.z q97, rs1⟩ (fun j hj => q27 j hj) q52 (fun j => (f1.g1 39 0 j (fun z => by have := nq _ _ _ z; omega)).trans (ic.2.2.2.1 j)) q51 ((f1.g1 2 0 3 (fun z => by have := nq _ _ _ z; omega)).trans ic.2.2.2.2.2.1) (fun j hj => (f1.g1 28 0 j (fun z => by have := nq _ _ _ z; omega)).trans (ic.2.2.2.2.2.2.1 j hj)) ((f1.g1 9 0 4 (fun z => by have := nq _ _ _ z; omega)).trans ic.2.2.2.2.2.2.2.1) (by rw [q91]; omega) (fun t i j z => by have := nq _ _ _ z; omega)
    rw [KV_eq, bLa_race_5 (by omega), bLa_race_11, show ((0 : Int)).toNat = 0 from rfl, KV_eq]
    refine go _ 0 (AfC.ok g0 f1 (fun t i j z => by have := nq _ _ _ z; omega)) ht (fun z => by omega) (fun k2 e2 h2 _ h3 => ?_) (fun k2 D2 T2 h2 _ h3 => ?_)
    · have ek : k2 = k := by omega
      subst ek
      rw [htx] at h3
      cases h3
    · have ek : k2 = k := by omega
      subst ek
      rw [htx] at h3
      cases h3
      exact ⟨ic1.out hm, rdd, sL_eq⟩
end
