/-! LAYER 4, THE LAW: offers, images, races -/
section
variable {L : Nat} {xs : Nat → Int} {i : Int} {d : Nat} {Q : AV → Mem → Prop} {X : Nat → Mem → Prop}
theorem la_offer {M : Mem} {z5 z6 z7 : AV} (hLI : LI L xs i M) (hi : 0 ≤ i ∧ i + 6 ≤ L) (hL : L ≤ 3072) (hx : ∀ j, -2147483648 ≤ xs j ∧ xs j ≤ 2147483647)
    (hq : ∀ M' z5 z6 z7, LI L xs (i + 6) M' → At (d + 70) kLa_law 1175 [vr 118 0, vr 9 0, vr 10 0, vr 115 0, vi i, z5, z6, z7] [] M' Q X) : At (d + 70) kLa_law 969 [vr 118 0, vr 9 0, vr 10 0, vr 115 0, vi i, z5, z6, z7] [] M Q X := by
  obtain ⟨hs, ⟨g0, g1⟩, U, f, B, pl, n, P, m, I, ic, ir, is⟩ := hLI
  have hm := is.2.2.2.1
  have e1 : w32 (i + 1) = i + 1 := w32_id (by omega)
  have hn9 := is.2.2.1.1
  rw [bLa_law_969 (by rw [e1, hs.1]; omega), e1, hs.2]
  refine Call_up (d := d + 3) (show d + 3 ≤ d + 70 by omega) ?_
  rw [show d + 3 = (d + 2) + 1 from rfl, eLa_offer, bLa_offer_0]
  have go : ∀ (M1 : Mem) (t : Int) (n' : Nat) (P' : Nat → Int) (v : Int), AfC M M1 → IC U f B pl n' P' m I i M1 → rd M1 0 = rd M 0 → tOf (xs (i + 1).toNat) = t → (t = 0 → M1.2 115 0 0 = Int64.ofInt v) → IS U f n' P' m I →
      (t = 1 → n' = n ∧ P' = P) → (t = 0 → n < 9 → n' = n + 1 ∧ v = (n : Int) + 1 ∧ P' = fun j => if j = n then xs (i + 1).toNat else P j) → (t = 0 → n = 9 → n' = n ∧ v = -1 ∧ P' = P) →
      At (d + 70) kLa_law 977 [vr 118 0, vr 9 0, vr 10 0, vr 115 0, vi i, z5, z6, z7] [vi t] M1 Q X := by
    intro M1 t n' P' v af1 ic1 r1 ht ho is' h1 h2 h3
    have s1 : ∀ a b, M1.1 118 a b = M.1 118 a b := fun a b => af1.1.g1 118 a b (by omega)
    have ir1 := ir.kp af1.1 (fun t i j z => by omega)
    rw [bLa_law_977 (by rw [e1, s1, hs.1]; omega), e1, s1, hs.2]
    refine Call_up (d := d + 2) (show d + 2 ≤ d + 70 by omega) (m_offer ir1.2.2.2.2.2.1 hn9 ?_ ?_)
    · intro h1t v
      have t1 : t = 1 := ht.symm.trans h1t
      subst t1
      obtain ⟨rfl, rfl⟩ := h1 rfl
      have ms := MS.th ir1.1 1
      rw [KV_eq, bLa_law_985, eMo_thrown, bMo_thrown_0, KV_eq, bLa_law_988, th0_eq, if_pos rfl, bLa_law_992, if_pos (by omega), bLa_law_1003]
      exact hq _ _ _ _ (LI.next hs g1 af1 ms.fm ic1 (by omega) (ir1.q ms) r1 is')
    · intro h0t
      have t0 : t = 0 := ht.symm.trans h0t
      subst t0
      refine ⟨fun h9 => ?_, fun h9 => ?_⟩
      · obtain ⟨rfl, rfl, rfl⟩ := h2 rfl h9
        generalize hM2 : sI (sI (sI M1 10 0 0 0) 92 0 n (xs (i + 1).toNat)) 10 0 54 ((n : Int) + 1) = M2
        have f2 : Fs (fun t i j => (t = 10 ∧ i = 0 ∧ (j = 0 ∨ j = 54)) ∨ (t = 92 ∧ i = 0 ∧ j = n)) M1 M2 := by rw [← hM2]; exact ((Fs.rf.sI (by omega)).sI (by omega)).sI (by omega)
        have f2' : Fs pMd M1 M2 := f2.mono (fun t i j z => by omega)
        have z2 : M2.1 10 0 0 = 0 := by rw [← hM2, sI_ne (by omega), sI_ne (by omega), sI_eq]
        have ir2 : IR (rd M 0) U f B pl (n + 1) (fun j => if j = n then xs (i + 1).toNat else P j) m I M2 :=
          ir1.chg f2 (ir1.1.fs f2 (fun t i j z => by omega)) (fun i x hi hx => (f2.g1 87 i x (by omega)).trans (ir1.2.1 i x hi hx)) ((f2.g1 10 0 1 (by omega)).trans ir1.2.2.1) (fun j => (f2.g1 54 0 j (by omega)).trans (ir1.2.2.2.1 j)) ((f2.g1 10 0 3 (by omega)).trans ir1.2.2.2.2.1) (by rw [← hM2, sI_eq]; omega) (fun j hj => by
              by_cases hjn : j = n
              · rw [if_pos hjn, hjn, ← hM2, sI_ne (by omega), sI_eq]
              · rw [if_neg hjn, f2.g1 92 0 j (by omega)]; exact ir1.2.2.2.2.2.2.1 j (by omega)) ((f2.g1 10 0 55 (by omega)).trans ir1.2.2.2.2.2.2.2.1) (by rw [f2.g1 10 0 11 (by omega)]; exact ir1.2.2.2.2.2.2.2.2.1) (fun t i j z => by omega)
        have o2 : M2.2 115 0 0 = Int64.ofInt ((n : Int) + 1) := (f2'.g2 115 0 0 (by omega)).trans (ho rfl)
        rw [KV_eq, bLa_law_985, eMo_thrown, bMo_thrown_0, KV_eq, bLa_law_988, z2, if_pos rfl, bLa_law_992, if_neg (by omega), bLa_law_994 (by omega), show ((0 : Int)).toNat = 0 from rfl, o2, if_pos (cmp64_eq.mpr rfl), bLa_law_1003]
        exact hq _ _ _ _ (LI.next hs g1 af1 f2' ic1 (by omega) ir2 r1 is')
      · obtain ⟨rfl, rfl, rfl⟩ := h3 rfl h9
        have ms := MS.t0 ir1.1
        have o2 : (sI M1 10 0 0 0).2 115 0 0 = Int64.ofInt (-1) := by rw [sI2]; exact ho rfl
        rw [KV_eq, bLa_law_985, eMo_thrown, bMo_thrown_0, KV_eq, bLa_law_988, sI_eq, if_pos rfl, bLa_law_992, if_neg (by omega), bLa_law_994 (by omega), show ((0 : Int)).toNat = 0 from rfl, o2, if_pos (cmp64_eq.mpr rfl), bLa_law_1003]
        exact hq _ _ _ _ (LI.next hs g1 af1 ms.fm ic1 (by omega) (ir1.q ms) r1 is')
  refine c_offer (d := d) ic.2.2.2.2.2.1 hn9 ?_ ?_
  · intro e
    show M.1 900 0 0 < 1000 ∧ At (d + 2) kLa_offer 9 [vr 9 0, vi (xs (i + 1).toNat), vr 115 0, JK] [] (gh M) _ _
    refine ⟨by omega, ?_⟩
    rw [bLa_offer_9, KV_eq]
    exact go (gh M) 1 n P 0 (AfC.th g0) (ic.ghost hm) (rd_sI (by omega)) e (fun z => by omega) is (fun _ => ⟨rfl, rfl⟩) (fun z => by omega) (fun z => by omega)
  · intro e
    refine ⟨fun h9 => ?_, fun h9 => ?_⟩
    · have hxr : 0 ≤ xs (i + 1).toNat ∧ xs (i + 1).toNat ≤ 9999 := by
        unfold tOf at e
        by_cases hr : 0 ≤ xs (i + 1).toNat ∧ xs (i + 1).toNat ≤ 9999
        · exact hr
        · rw [if_neg hr] at e; omega
      generalize hM1 : sI (sI M 28 0 n (xs (i + 1).toNat)) 2 0 3 ((n : Int) + 1) = M1
      have f1 : Fs (fun t i j => (t = 28 ∧ i = 0 ∧ j = n) ∨ (t = 2 ∧ i = 0 ∧ j = 3)) M M1 := by rw [← hM1]; exact (Fs.rf.sI (by omega)).sI (by omega)
      have st := ic.std f1 (fun t i j z => by omega)
      have ic1 : IC U f B pl (n + 1) (fun j => if j = n then xs (i + 1).toNat else P j) m I i M1 :=
        ic.chg hm f1 ⟨st.1, st.2.1, st.2.2.1, st.2.2.2, ic.1.2.2.2.2.1.fs f1 (fun t i j z => by omega), ic.1.2.2.2.2.2.fs f1 (fun t i j z => by omega)⟩ (fun j hj => (f1.g1 27 0 j (by omega)).trans (ic.2.1 j hj)) ((f1.g1 5 0 2 (by omega)).trans ic.2.2.1) (fun j => (f1.g1 39 0 j (by omega)).trans (ic.2.2.2.1 j)) ((f1.g1 5 0 1 (by omega)).trans ic.2.2.2.2.1) (by rw [← hM1, sI_eq]; omega) (fun j hj => by
              by_cases hjn : j = n
              · rw [if_pos hjn, hjn, ← hM1, sI_ne (by omega), sI_eq]
              · rw [if_neg hjn, f1.g1 28 0 j (by omega)]; exact ic.2.2.2.2.2.2.1 j (by omega)) ((f1.g1 9 0 4 (by omega)).trans ic.2.2.2.2.2.2.2.1) (by rw [f1.g1 9 0 1 (by omega)]; exact ic.2.2.2.2.2.2.2.2.1) (fun t i j z => by omega)
      have is' : IS U f (n + 1) (fun j => if j = n then xs (i + 1).toNat else P j) m I := by
        refine ⟨is.1, is.2.1, ⟨by omega, fun j hj => ?_⟩, is.2.2.2⟩
        show 0 ≤ (if j = n then xs (i + 1).toNat else P j) ∧ (if j = n then xs (i + 1).toNat else P j) ≤ 9999
        by_cases hjn : j = n
        · rw [if_pos hjn]; exact hxr
        · rw [if_neg hjn]; exact is.2.2.1.2 j (by omega)
      rw [KV_eq, bLa_offer_5 (by omega), bLa_offer_11, show ((0 : Int)).toNat = 0 from rfl, KV_eq]
      exact go _ 0 (n + 1) _ ((n : Int) + 1) (AfC.ok g0 f1 (fun t i j z => by omega)) (ic1.out hm) ((rd_fs f1 (fun t j ht z => by omega) : rd M1 0 = rd M 0)) e (fun _ => sL_eq) is' (fun z => by omega) (fun _ _ => ⟨rfl, rfl, rfl⟩) (fun _ z => by omega)
    · rw [KV_eq, bLa_offer_5 (by omega), bLa_offer_11, show ((0 : Int)).toNat = 0 from rfl, KV_eq]
      exact go _ 0 n P (-1) (AfC.ok (M' := M) g0 (Pf := fun t _ _ => t = 9) Fs.rf (fun t i j z => by omega)) (ic.out hm) rfl e (fun _ => sL_eq) is (fun z => by omega) (fun _ z => by omega) (fun _ _ => ⟨rfl, rfl, rfl⟩)
/-- an image more -/
def adI (I : Nat → IMG) (m : Nat) (J : IMG) : Nat → IMG := fun k => if k = m then J else I k
theorem adI_eq {I : Nat → IMG} {m : Nat} {J : IMG} : adI I m J m = J := if_pos rfl
theorem adI_ne {I : Nat → IMG} {m k : Nat} {J : IMG} (h : k ≠ m) : adI I m J k = I k := if_neg h
theorem la_image {M : Mem} {z5 z6 z7 : AV} (hLI : LI L xs i M) (hi : 0 ≤ i ∧ i + 6 ≤ L) (hL : L ≤ 3072) (hx : ∀ j, -2147483648 ≤ xs j ∧ xs j ≤ 2147483647)
    (hq : ∀ M' z5 z6 z7, LI L xs (i + 6) M' → At (d + 70) kLa_law 1175 [vr 118 0, vr 9 0, vr 10 0, vr 115 0, vi i, z5, z6, z7] [] M' Q X) : At (d + 70) kLa_law 1144 [vr 118 0, vr 9 0, vr 10 0, vr 115 0, vi i, z5, z6, z7] [] M Q X := by
  obtain ⟨hs, ⟨g0, g1⟩, U, f, B, pl, n, P, m, I, ic, ir, is⟩ := hLI
  have hm := is.2.2.2.1
  have hn9 := is.2.2.1.1
  rw [bLa_law_1144]
  refine Call_up (d := d + 3) (show d + 3 ≤ d + 70 by omega) (c_image ic.2.2.2.2.2.2.2.1 hm (fun z => ic.1.1.2.1 (m + 1) (by omega) (by omega)) ?_ ?_)
  · intro h3
    rw [KV_eq, bLa_law_1146]
    refine Call_up (d := d + 1) (show d + 1 ≤ d + 70 by omega) (m_image ir.2.2.2.2.2.2.2.1 hm ir.2.2.2.2.2.2.2.2.1 ?_ (fun z => by omega))
    intro _
    rw [KV_eq, bLa_law_1148, if_pos rfl]
    exact hq _ _ _ _ (LI.next (M1 := M) hs g1 (AfC.fr g0 (Pf := fun t _ _ => t = 9) Fs.rf (fun t i j z => by omega)) (MS.t0 ir.1).fm ic (by omega) (ir.q (MS.t0 ir.1)) rfl is)
  · intro h3 M1 f1 rd1 zo1 q27 q28 q23 q94
    rw [nm_rd (ic.1.1.2.1 0 (by omega) (by omega))] at rd1
    have nq : ∀ t k j, (pDc (m + 1) t k j ∨ (t = 9 ∧ k = 0 ∧ j = 4)) → ((t = 4 ∨ 33 ≤ t ∧ t ≤ 38 ∨ t = 27 ∨ t = 28 ∨ t = 2) ∧ k = m + 1) ∨ (t = 9 ∧ j = 4) := fun t k j z => by unfold pDc inRa at z; omega
    have af1 : AfC M M1 := AfC.fr g0 f1 (fun t i j z => by have := nq _ _ _ z; omega)
    have ir1 := ir.kp af1.1 (fun t i j z => by omega)
    have r1 : rd M1 0 = rd M 0 := rd_fs f1 (fun t j ht z => by have := nq _ _ _ z; omega)
    have rr : ∀ k : Nat, k < 4 → rd M1 k = rd M (if k = m + 1 then 0 else k) := fun k hk => by
      by_cases e : k = m + 1
      · rw [if_pos e, e]; exact rd1
      · rw [if_neg e]; exact rd_fs f1 (fun t j ht z => by have := nq _ _ _ z; omega)
    have stp' : ∀ k : Nat, k < 4 → M1.1 4 k 0 = M.1 4 (if k = m + 1 then 0 else k) 0 := fun k hk => congrFun (congrFun (rr k hk) 4) 0
    have e91 : M1.1 9 0 1 = M.1 9 0 1 := f1.g1 9 0 1 (fun z => by have := nq _ _ _ z; omega)
    have h0 := ic.1.1
    have lt4 : ∀ k : Nat, k < 4 → (if k = m + 1 then 0 else k) < 4 := fun k hk => by split <;> omega
    have c0 : CI0 M1 := by
      refine ⟨fun b hb => (h0.1 b hb).fs f1 (fun t j ht z => by have := nq _ _ _ z; omega), fun k hk h4 => ?_, fun k hk => by rw [rr k hk]; exact h0.2.2.1 _ (lt4 k hk), fun k hk => by rw [stp' k hk, e91]; exact h0.2.2.2.1 _ (lt4 k hk), fun k l hk hl he => ?_⟩
      · by_cases e : k = m + 1
        · rw [e]; exact zo1
        · exact (h0.2.1 k hk h4).fs f1 (fun t j ht _ z => by have := nq _ _ _ z; omega)
      · rw [stp' k hk, stp' l hl] at he
        rw [rr k hk, rr l hl]
        exact h0.2.2.2.2 _ _ (lt4 k hk) (lt4 l hl) he
    have cb : Cb M1 := by
      have e2 := f1.g1 0 0 2 (fun z => by have := nq _ _ _ z; omega)
      refine ⟨by rw [e2, e91]; exact ic.1.2.1.1, fun k hk a b => ?_⟩
      rw [rr k hk] at a ⊢
      rw [stp' k hk, e2] at b
      exact (ic.1.2.1.2 _ (lt4 k hk) a b).fs f1 (fun t j ht z => by have := nq _ _ _ z; omega)
    have ce : Ce M1 := by
      have e2 := f1.g1 9 0 13 (fun z => by have := nq _ _ _ z; omega)
      have e3 := f1.g1 9 0 14 (fun z => by have := nq _ _ _ z; omega)
      refine ⟨by rw [e2, e91]; exact ic.1.2.2.1.1, fun k hk a b => ?_⟩
      rw [rr k hk] at a ⊢
      rw [stp' k hk, e2] at b
      rw [e3]; exact ic.1.2.2.1.2 _ (lt4 k hk) a b
    have cl : Cl M1 := by
      intro k hk
      have a1 := f1.g1 31 0 k (fun z => by have := nq _ _ _ z; omega)
      have a2 := f1.g1 32 0 k (fun z => by have := nq _ _ _ z; omega)
      have a3 := f1.g2 29 0 k (fun z => by have := nq _ _ _ z; omega)
      have a4 := f1.g2 30 0 k (fun z => by have := nq _ _ _ z; omega)
      refine ⟨by rw [a1, e91]; exact (ic.1.2.2.2.1 k hk).1, fun l hl a b => ?_⟩
      rw [rr l hl] at a ⊢
      rw [stp' l hl, a1] at b
      rw [a2, a3, a4]; exact (ic.1.2.2.2.1 k hk).2 _ (lt4 l hl) a b
    rw [KV_eq, bLa_law_1146]
    refine Call_up (d := d + 1) (show d + 1 ≤ d + 70 by omega) (m_image ir1.2.2.2.2.2.2.2.1 hm ir1.2.2.2.2.2.2.2.2.1 (fun z => by omega) ?_)
    intro _ M2 f2 z2 q55 kp
    have f2' : Fs pMd M1 M2 := f2.mono (fun t i j z => by unfold pIm at z; omega)
    -- the image's text
    obtain ⟨B0, himg⟩ : ∃ B0 : BT, (rd M 0 4 1 = 0 ∧ (∀ j : Nat, 2 ≤ j → j ≤ 7 → rd M 0 4 j = 0) ∧ M2.1 97 0 m = -1) ∨ ∃ (nn : Nat) (T : TT), TX (rd M 0) B0 nn T ∧ M2.1 97 0 m = (nn : Int) ∧ ∀ j : Nat, j < nn → M2.1 94 m j = B0 j := by
      rcases ir1.1 with ⟨a, b, c, _⟩ | ⟨B0, nn, T, hx, hcm⟩
      · exact ⟨fun _ => 0, Or.inl ⟨a, c, by rw [kp.2.1, if_pos b]⟩⟩
      · have hn20 : M1.1 10 0 20 ≠ 0 := by rw [hcm.1.1]; have := hx.2.1; omega
        refine ⟨B0, Or.inr ⟨nn, T, hx, by rw [kp.2.1, if_neg hn20]; exact hcm.2.1, fun j hj => ?_⟩⟩
        rw [kp.1 j (by rw [hcm.2.1]; omega)]; exact hcm.2.2.1 j hj
    have ic1 : IC U f B pl n P (m + 1) (adI I m (rd M 0, U, n, P, B0)) i M1 := by
      refine ⟨⟨c0, cb, ce, cl, ?_, ic.1.2.2.2.2.2.fs f1 (fun t i j z => by have := nq _ _ _ z; omega)⟩, fun j hj => (f1.g1 27 0 j (fun z => by have := nq _ _ _ z; omega)).trans (ic.2.1 j hj), (f1.g1 5 0 2 (fun z => by have := nq _ _ _ z; omega)).trans ic.2.2.1, fun j => (f1.g1 39 0 j (fun z => by have := nq _ _ _ z; omega)).trans (ic.2.2.2.1 j), (f1.g1 5 0 1 (fun z => by have := nq _ _ _ z; omega)).trans ic.2.2.2.2.1, (f1.g1 2 0 3 (fun z => by have := nq _ _ _ z; omega)).trans ic.2.2.2.2.2.1, fun j hj => (f1.g1 28 0 j (fun z => by have := nq _ _ _ z; omega)).trans (ic.2.2.2.2.2.2.1 j hj), by rw [q94]; omega, by rw [e91]; exact ic.2.2.2.2.2.2.2.2.1, fun k hk => ?_⟩
      · unfold Cr
        rw [r1, f1.g1 9 0 7 (fun z => by have := nq _ _ _ z; omega)]
        intro z
        exact (ic.1.2.2.2.2.1 z).fs f1 (fun t j ht y => by have := nq _ _ _ y; omega)
      · by_cases e : k = m
        · rw [e, adI_eq]
          exact ⟨rd1, fun j hj => (q27 j hj).trans (ic.2.1 j hj), q23.trans ic.2.2.2.2.2.1, fun j hj => by
            have hj : j < n := hj
            exact (q28 j (by omega)).trans (ic.2.2.2.2.2.2.1 j hj)⟩
        · rw [adI_ne e]
          refine ⟨(rd_fs f1 (fun t j ht z => by have := nq _ _ _ z; omega)).trans (ic.2.2.2.2.2.2.2.2.2 k (by omega)).1, fun j hj => (f1.g1 27 _ j (fun z => by have := nq _ _ _ z; omega)).trans ((ic.2.2.2.2.2.2.2.2.2 k (by omega)).2.1 j hj), (f1.g1 2 _ 3 (fun z => by have := nq _ _ _ z; omega)).trans (ic.2.2.2.2.2.2.2.2.2 k (by omega)).2.2.1, fun j hj => (f1.g1 28 _ j (fun z => by have := nq _ _ _ z; omega)).trans ((ic.2.2.2.2.2.2.2.2.2 k (by omega)).2.2.2 j hj)⟩
    have gm : ∀ t i j, ¬ pIm m t i j → M2.1 t i j = M1.1 t i j := fun t i j h => f2.g1 t i j h
    have ir2 : IR (rd M 0) U f B pl n P (m + 1) (adI I m (rd M 0, U, n, P, B0)) M2 := by
      refine ⟨ir1.1.fs f2 (fun t i j z => by unfold pIm at z; omega), fun i x hi hx => (gm 87 i x (by unfold pIm; omega)).trans (ir1.2.1 i x hi hx), (gm 10 0 1 (by unfold pIm; omega)).trans ir1.2.2.1, fun j => (gm 54 0 j (by unfold pIm; omega)).trans (ir1.2.2.2.1 j), (gm 10 0 3 (by unfold pIm; omega)).trans ir1.2.2.2.2.1, (gm 10 0 54 (by unfold pIm; omega)).trans ir1.2.2.2.2.2.1, fun j hj => (gm 92 0 j (by unfold pIm; omega)).trans (ir1.2.2.2.2.2.2.1 j hj), by rw [q55]; omega, by rw [gm 10 0 11 (by unfold pIm; omega)]; exact ir1.2.2.2.2.2.2.2.2.1, fun k hk => ?_⟩
      by_cases e : k = m
      · rw [e, adI_eq]
        refine ⟨fun i x hi hx => (kp.2.2.1 i x hi hx).trans (ir1.2.1 i x hi hx), kp.2.2.2.2.trans ir1.2.2.2.2.2.1, fun j hj => ?_, himg⟩
        have hj : j < n := hj
        exact (kp.2.2.2.1 j (by omega)).trans (ir1.2.2.2.2.2.2.1 j hj)
      · rw [adI_ne e]
        exact (ir1.2.2.2.2.2.2.2.2.2 k (by omega)).fs f2 (fun t i j z => by unfold pIm at z; omega)
    have is' : IS U f n P (m + 1) (adI I m (rd M 0, U, n, P, B0)) := by
      refine ⟨is.1, is.2.1, is.2.2.1, by omega, fun k hk => ?_⟩
      by_cases e : k = m
      · rw [e, adI_eq]; exact ⟨is.1, is.2.2.1⟩
      · rw [adI_ne e]; exact is.2.2.2.2 k (by omega)
    rw [KV_eq, bLa_law_1148, if_pos rfl]
    exact hq _ _ _ _ (LI.next hs g1 af1 f2' ic1 (by omega) ir2 r1 is')
end
