/-! LAYER 3, A RACE IS TOLD: the reference -/
/-- three loops over the rules -/
theorem loop356 {α : Type} (P1 : Int → α → Prop) (P2 : Int → Int → α → Prop) (P3 : Int → Int → Int → α → Prop) (I : Int → α → Prop)
    (e1 : ∀ m, I 90 m → P1 3 m) (i1 : ∀ a m, 0 ≤ a → a < 3 → P2 a 0 m → P1 a m) (e2 : ∀ a m, 0 ≤ a → a < 3 → P1 (a + 1) m → P2 a 5 m)
    (i2 : ∀ a b m, 0 ≤ a → a < 3 → 0 ≤ b → b < 5 → P3 a b 0 m → P2 a b m) (e3 : ∀ a b m, 0 ≤ a → a < 3 → 0 ≤ b → b < 5 → P2 a (b + 1) m → P3 a b 6 m)
    (st : ∀ a b c m, 0 ≤ a → a < 3 → 0 ≤ b → b < 5 → 0 ≤ c → c < 6 → I ((a * 5 + b) * 6 + c) m → (∀ m', I ((a * 5 + b) * 6 + (c + 1)) m' → P3 a b (c + 1) m') → P3 a b c m) : ∀ m, I 0 m → P1 0 m := by
  intro m hm
  refine loop_up P1 (fun a m => I (a * 30) m) 0 3 (fun m h => e1 m (by rw [show (90 : Int) = 3 * 30 by omega]; exact h)) ?_ 0 m (by omega) (by omega) (by simpa using hm)
  intro a m a0 a1 h hn
  refine i1 a m a0 a1 ?_
  refine loop_up (P2 a) (fun b m => I ((a * 5 + b) * 6) m) 0 5 ?_ ?_ 0 m (by omega) (by omega) (by rw [show (a * 5 + 0) * 6 = a * 30 by omega]; exact h)
  · intro m h
    exact e2 a m a0 a1 (hn m (by rw [show (a + 1) * 30 = (a * 5 + 5) * 6 by omega]; exact h))
  · intro b m b0 b1 h hn2
    refine i2 a b m a0 a1 b0 b1 ?_
    refine loop_up (P3 a b) (fun c m => I ((a * 5 + b) * 6 + c) m) 0 6 ?_ ?_ 0 m (by omega) (by omega) (by rw [Int.add_zero]; exact h)
    · intro m h
      exact e3 a b m a0 a1 b0 b1 (hn2 m (by rw [show (a * 5 + (b + 1)) * 6 = (a * 5 + b) * 6 + 6 by omega]; exact h))
    · intro c m c0 c1 h hn3
      exact st a b c m a0 a1 b0 b1 c0 c1 h hn3
/-- the reference has this race by this text -/
def CM (R : RT) (B : BT) (n : Nat) (T : TT) (M : Mem) : Prop := MR R M ∧ M.1 10 0 11 = (n : Int) ∧ (∀ j : Nat, j < n → M.1 55 0 j = B j) ∧ M.1 10 0 18 = wh (T 0) ∧ M.1 10 0 19 = wh (T 1) ∧ M.1 10 0 12 = R 4 7 ∧ (M.1 10 0 44 ≠ 0 → Solved R M)
/-- a race that a text tells -/
def TX (R : RT) (B : BT) (n : Nat) (T : TT) : Prop := n ≤ 500 ∧ 1 ≤ R 4 1 ∧ TG B n T ∧ ∃ D, txt B n = .inr (D, T) ∧ RDd D T R
theorem TX.wr {R B n T} (h : TX R B n T) : WR R := by obtain ⟨-, -, -, D, -, hr⟩ := h; exact hr.1
theorem MR.cg {R R' : RT} {M : Mem} (h : MR R M) (he : ∀ t j : Nat, (t = 4 ∧ 1 ≤ j ∧ j ≤ 7) ∨ ((t = 33 ∨ t = 34) ∧ j < 3) ∨ ((t = 35 ∨ t = 36) ∧ j < 15) → R' t j = R t j) : MR R' M := by
  obtain ⟨h1, h2, h3, h4, h5, h6, h7, h8⟩ := h
  refine ⟨by rw [he 4 1 (by omega)]; exact h1, by rw [he 4 2 (by omega)]; exact h2, by rw [he 4 3 (by omega)]; exact h3, by rw [he 4 4 (by omega)]; exact h4, by rw [he 4 5 (by omega)]; exact h5, by rw [he 4 6 (by omega)]; exact h6, ?_, ?_⟩
  · intro s s0 s3
    unfold stp pcs
    rw [he 33 _ (by omega), he 34 _ (by omega)]; exact h7 s s0 s3
  · intro s e s0 s3 e0 e4
    unfold cst chc
    rw [he 35 _ (by omega), he 36 _ (by omega)]; exact h8 s e s0 s3 e0 e4
theorem hl_cm {R B n T M} (h : TX R B n T) (hc : CM R B n T M) : HL R M := by
  obtain ⟨h1, h2, h3, D, h4, h5⟩ := h
  exact hl_of h1 h5 h3 hc.2.1 hc.2.2.1 hc.2.2.2.2.1 (fun p b s _ hg s0 s3 hb => hx_of hg s0 s3 hb)
section
variable {d : Nat} {Q : AV → Mem → Prop} {X : Nat → Mem → Prop}
theorem m_bad {M : Mem} {a k : Int} (hk : k ≠ 0) (ha : a = 0 ∨ a = 1) (h0 : M.1 10 0 0 = 0) : Call (d + 1) qMo_bad [vr 10 0, vi a, vi k] M Q X = if a = 0 then Q (vi 0) M else Q (vi 1) (sI M 10 0 0 k) := by
  rw [eMo_bad, bMo_bad_0]
  rcases ha with rfl | rfl
  · rw [if_pos rfl, if_pos rfl, bMo_bad_8, if_pos h0, bMo_bad_13, bMo_bad_14]; rfl
  · rw [if_neg (by omega), if_neg (by omega), bMo_bad_2, if_neg (by omega), bMo_bad_5, bMo_bad_8, sI_eq, if_neg hk, bMo_bad_11, bMo_bad_14]; rfl
abbrev pTa (t _ j : Nat) : Prop := (t = 10 ∧ 2 ≤ j ∧ j ≠ 3 ∧ j ≠ 11 ∧ j ≤ 44) ∨ (56 ≤ t ∧ t ≤ 67)
abbrev pMz (t _ j : Nat) : Prop := (t = 10 ∧ j ≤ 44) ∨ (55 ≤ t ∧ t ≤ 67) ∨ t = 87
abbrev pMy (t _ j : Nat) : Prop := (t = 10 ∧ (j ≤ 8 ∨ 25 ≤ j ∧ j ≤ 33)) ∨ (62 ≤ t ∧ t ≤ 67)
theorem ma_my {t i j : Nat} (h : pMa t i j) : pMy t i j := by unfold pMy; omega
theorem ma_ta {t i j : Nat} (h : pMa t i j) : pTa t i j := by unfold pTa; omega
theorem tk_ta {t i j : Nat} (h : pTk t i j) : pTa t i j := by unfold pTa; omega
theorem my_mz {t i j : Nat} (h : pMy t i j) : pMz t i j := by unfold pMz; omega
theorem ta_mz {t i j : Nat} (h : pTa t i j) : pMz t i j := by unfold pMz; omega
theorem m_tellsAgain {M : Mem} {R : RT} {B : BT} {n : Nat} {T : TT} (hx : TX R B n T) (h11 : M.1 10 0 11 = (n : Int)) (hB : ∀ j : Nat, j < n → M.1 55 0 j = B j)
    (hq : ∀ M', Fs pTa M M' → CM R B n T M' → M'.1 10 0 44 = 0 → Q (vi 0) M') : Call (d + 56) qMo_tellsAgain [vr 10 0] M Q X := by
  obtain ⟨hn, hn1, hT, D, ht, hr⟩ := hx
  have hw := txt_wd hn ht
  rw [eMo_tellsAgain, bMo_tellsAgain_0, sI_ne (by omega), h11]
  refine m_readAll (B := B) hn ?_ ?_
  · intro j hj
    rw [if_neg (by rw [sI_eq]; omega), sI_ne (by omega)]; exact hB j hj
  · intro M1 f1 e1
    rw [KU_eq, bMo_tellsAgain_7]
    rw [ht] at e1
    obtain ⟨-, k, c1⟩ := e1
    refine Call_up (d := d + 1) (show d + 1 ≤ d + 55 by omega) (m_takes c1.2.2.1 hw.1 ?_)
    intro M2 f2 mr k12 k18 k19 k44
    rw [KU_eq, bMo_tellsAgain_9]
    refine hq M2 (((Fs.rf.sI (by omega)).tr (f1.mono (fun t i j z => ma_ta z))).tr (f2.mono (fun t i j z => tk_ta z))) ⟨mr.cg hr.2.1, ?_, ?_, ?_, ?_, ?_, ?_⟩ k44
    · rw [f2.g1 10 0 11 (by omega), f1.g1 10 0 11 (by omega), sI_ne (by omega)]; exact h11
    · intro j hj
      rw [f2.g1 55 0 j (by omega), f1.g1 55 0 j (by omega), sI_ne (by omega)]; exact hB j hj
    · rw [k18]; exact c1.2.2.2.1
    · rw [k19]; exact c1.2.2.2.2
    · rw [k12, hr.2.1 4 7 (by omega)]
    · intro z; exact absurd k44 z
theorem m_clr {M : Mem} {z1 : AV} (hz : kl z1 = z1) (hq : ∀ M', Fs (fun t _ _ => t = 87) M M' → (∀ i j : Nat, i < 15 → j < 6 → M'.1 87 i j = 0) → Q (vi (M'.1 10 0 20)) M') {z3 z4 : AV} : At d kMo_race 61 [vr 10 0, z1, vi 0, z3, z4] [] M Q X := by
  refine loop356 (fun a M' => ∀ z3 z4, At d kMo_race 61 [vr 10 0, z1, vi a, z3, z4] [] M' Q X) (fun a b M' => ∀ z4, At d kMo_race 66 [vr 10 0, z1, vi a, vi b, z4] [] M' Q X) (fun a b c M' => At d kMo_race 71 [vr 10 0, z1, vi a, vi b, vi c] [] M' Q X) (fun q M' => Fs (fun t _ _ => t = 87) M M' ∧ ∀ i j : Nat, i < 15 → j < 6 → ((i * 6 + j : Nat) : Int) < q → M'.1 87 i j = 0) ?_ ?_ ?_ ?_ ?_ ?_ M ⟨Fs.rf, fun i j _ _ h => by omega⟩ z3 z4
  · intro m h z3 z4
    rw [bMo_race_61, if_pos (by omega), bMo_race_89]
    exact hq m h.1 (fun i j a b => h.2 i j a b (by omega))
  · intro a m a0 a1 h z3 z4
    rw [bMo_race_61, if_neg (by omega), bMo_race_64]; exact h z4
  · intro a m a0 a1 h z4
    rw [bMo_race_66, if_pos (by omega), bMo_race_87, hz, w32_id (by omega)]; exact h _ _
  · intro a b m a0 a1 b0 b1 h z4
    rw [bMo_race_66, if_neg (by omega), bMo_race_69]; exact h
  · intro a b m a0 a1 b0 b1 h
    rw [bMo_race_71, if_pos (by omega), bMo_race_85, w32_id (by omega)]; exact h _
  · intro a b c m a0 a1 b0 b1 c0 c1 h hn
    rw [bMo_race_71, if_neg (by omega), bMo_race_74 (by omega), w32_id (by omega)]
    refine hn _ ⟨h.1.sI rfl, ?_⟩
    intro i j hi hj hlt
    by_cases e : i = (0 * 3 + a.toNat) * 5 + b.toNat ∧ j = c.toNat
    · obtain ⟨rfl, rfl⟩ := e; exact sI_eq
    · rw [sI_ne (by omega)]; exact h.2 i j hi hj (by omega)
theorem m_race {M : Mem} {x : Int} (h1 : 0 ≤ M.1 10 0 1 ∧ M.1 10 0 1 ≤ 500)
    (hq0 : ¬ (0 ≤ x ∧ x ≤ M.1 10 0 1) → Q (vi 0) (sI (sI M 10 0 0 0) 10 0 0 1))
    (hq1 : ∀ (n : Nat) e M', x = (n : Int) → x ≤ M.1 10 0 1 → txt (fun j => M.1 54 0 j) n = .inl e → Fs pMy M M' → M'.1 10 0 0 = 0 → M'.1 10 0 1 = 0 → M'.1 10 0 3 = e.2 → Q (vi (w32 (e.1 - 10))) M')
    (hq2 : ∀ (n : Nat) D T M', x = (n : Int) → x ≤ M.1 10 0 1 → txt (fun j => M.1 54 0 j) n = .inr (D, T) → Fs pMz M M' → M'.1 10 0 0 = 0 → M'.1 10 0 1 = 0 → M'.1 10 0 3 = -1 → (∀ R, RDd D T R → CM R (fun j => M.1 54 0 j) n T M') → (∀ i j : Nat, i < 15 → j < 6 → M'.1 87 i j = 0) → M'.1 10 0 44 = 0 → Q (vi (D 4 1)) M') : Call (d + 58) qMo_race [vr 10 0, vi x] M Q X := by
  have e01 : (sI M 10 0 0 0).1 10 0 1 = M.1 10 0 1 := sI_ne (by omega)
  rw [eMo_race, bMo_race_0, m_in, KV_eq, bMo_race_9, e01]
  by_cases hx : 0 ≤ x ∧ x ≤ M.1 10 0 1
  · rw [if_pos (by rw [if_pos hx]; omega), bMo_race_12, bMo_race_13, m_bad (by omega) (by omega) sI_eq, if_pos rfl, KV_eq, bMo_race_15, if_pos rfl, bMo_race_18]
    obtain ⟨n, rfl⟩ : ∃ n : Nat, x = (n : Int) := ⟨x.toNat, by omega⟩
    have hn : n ≤ 500 := by omega
    generalize hBB : (fun j => M.1 54 0 j) = B at *
    refine m_readAll (d := d + 2) (B := B) hn ?_ ?_
    · intro j hj
      rw [if_pos sI_eq, sI_ne (by omega), sI_ne (by omega), ← hBB]
    intro M1 f1 e1
    have f1' : Fs pMy M M1 := ((Fs.rf.sI (by omega)).sI (by omega)).tr (f1.mono (fun t i j z => ma_my z))
    have g0 : M1.1 10 0 0 = 0 := by rw [f1.g1 10 0 0 (by omega), sI_ne (by omega), sI_eq]
    have g6 : ∀ v w, (sI (sI M1 10 0 1 v) 10 0 3 w).1 10 0 6 = M1.1 10 0 6 := fun v w => by rw [sI_ne (by omega), sI_ne (by omega)]
    rw [KU_eq, bMo_race_24, g6, sI_ne (by omega)]
    cases ht : txt B n with
    | inl e =>
      rw [ht] at e1
      obtain ⟨-, hne, hF⟩ := e1
      rw [if_neg (by rw [hF.2.2.1]; exact hne), bMo_race_34, g6, hF.2.2.1]
      refine hq1 n e _ rfl hx.2 ht ((f1'.sI (by omega)).sI (by omega)) ?_ ?_ ?_
      · rw [sI_ne (by omega), sI_ne (by omega)]; exact g0
      · rw [sI_ne (by omega), sI_eq]
      · rw [sI_eq]; exact hF.2.2.2.1
    | inr y =>
      obtain ⟨D, T⟩ := y
      have hw := txt_wd hn ht
      rw [ht] at e1
      obtain ⟨-, k, c1⟩ := e1
      rw [if_pos c1.1.2.2.2.1, bMo_race_39]
      refine loop_up (fun x M' => At (d + 57) kMo_race 41 [vr 10 0, vi (n : Int), vi x, JK, JK] [] M' Q X) (fun x M' => Fs (fun t i j => t = 55 ∧ i = 0) (sI (sI M1 10 0 1 0) 10 0 3 (M1.1 10 0 7)) M' ∧ ∀ j : Nat, (j : Int) < x → M'.1 55 0 j = B j) 0 n ?_ ?_ 0 _ (by omega) (by omega) ⟨Fs.rf, fun j h => by omega⟩
      · intro M2 h2
        obtain ⟨f2, b2⟩ := h2
        show At _ _ _ _ _ _ _ _
        rw [bMo_race_41, if_pos (by omega), bMo_race_54]
        have md2 : MD D (sI M2 10 0 11 (n : Int)) := by
          have hk : ∀ t i j, (t = 10 ∧ 25 ≤ j ∧ j ≤ 33) ∨ 60 ≤ t → (sI M2 10 0 11 (n : Int)).1 t i j = M1.1 t i j := fun t i j z => by rw [sI_ne (by omega), f2.g1 t i j (by omega), sI_ne (by omega), sI_ne (by omega)]
          obtain ⟨⟨a1, a2, a3, a4, a5, a6, a7⟩, hs⟩ := c1.2.2.1
          exact ⟨⟨(hk _ _ _ (by omega)).trans a1, (hk _ _ _ (by omega)).trans a2, (hk _ _ _ (by omega)).trans a3, (hk _ _ _ (by omega)).trans a4, (hk _ _ _ (by omega)).trans a5, (hk _ _ _ (by omega)).trans a6, (hk _ _ _ (by omega)).trans a7⟩,
            fun s h3 hl => ⟨(hk _ _ _ (by omega)).trans (hs s h3 hl).1, (hk _ _ _ (by omega)).trans (hs s h3 hl).2.1, fun p u v w => ⟨(hk _ _ _ (by omega)).trans ((hs s h3 hl).2.2 p u v w).1, (hk _ _ _ (by omega)).trans ((hs s h3 hl).2.2 p u v w).2⟩⟩⟩
        refine Call_up (d := d + 1) (show d + 1 ≤ d + 57 by omega) (m_takes md2 hw.1 ?_)
        intro M3 f3 mr k12 k18 k19 k44
        rw [KU_eq, bMo_race_59]
        have f02 : Fs pMz M (sI M2 10 0 11 (n : Int)) := (((f1'.mono (fun t i j z => my_mz z)).sI (by omega)).sI (by omega)).tr ((f2.mono (fun t i j z => Or.inr (Or.inl (by omega)))).sI (by omega))
        have f03 : Fs pMz M M3 := f02.tr (f3.mono (fun t i j z => ta_mz (tk_ta z)))
        refine m_clr rfl ?_
        intro M4 f4 h4
        have g4 : ∀ j, M4.1 10 0 j = M3.1 10 0 j := fun j => f4.g1 10 0 j (by omega)
        have g3 : ∀ j, (j < 12 ∨ 25 ≤ j ∧ j < 44) → M3.1 10 0 j = (sI M2 10 0 11 (n : Int)).1 10 0 j := fun j hj => f3.g1 10 0 j (by omega)
        have g2 : ∀ j, M2.1 10 0 j = (sI (sI M1 10 0 1 0) 10 0 3 (M1.1 10 0 7)).1 10 0 j := fun j => f2.g1 10 0 j (by omega)
        have e20 : M4.1 10 0 20 = D 4 1 := by rw [g4]; exact mr.1
        rw [e20]
        refine hq2 n D T M4 rfl hx.2 ht (f03.tr (f4.mono (fun t i j z => Or.inr (Or.inr z)))) ?_ ?_ ?_ ?_ h4 ?_
        · rw [g4, g3 _ (by omega), sI_ne (by omega), g2, sI_ne (by omega), sI_ne (by omega)]; exact g0
        · rw [g4, g3 _ (by omega), sI_ne (by omega), g2, sI_ne (by omega), sI_eq]
        · rw [g4, g3 _ (by omega), sI_ne (by omega), g2, sI_eq]; exact c1.2.1
        · intro R hr
          have mr4 : MR R M4 := (mr.cg hr.2.1).fs f4 (fun t i j z => by omega)
          refine ⟨mr4, ?_, ?_, ?_, ?_, ?_, ?_⟩
          · rw [g4, g3 _ (by omega), sI_eq]
          · intro j hj
            rw [f4.g1 55 0 j (by omega), f3.g1 55 0 j (by omega), sI_ne (by omega)]; exact b2 j (by omega)
          · rw [g4, k18, sI_ne (by omega), g2, sI_ne (by omega), sI_ne (by omega)]; exact c1.2.2.2.1
          · rw [g4, k19, sI_ne (by omega), g2, sI_ne (by omega), sI_ne (by omega)]; exact c1.2.2.2.2
          · rw [g4, k12, hr.2.1 4 7 (by omega)]
          · intro z; exact absurd (by rw [g4]; exact k44) z
        · rw [g4]; exact k44
      · intro x M2 x0 x1 h2 hn2
        show At _ _ _ _ _ _ _ _
        rw [bMo_race_41, if_neg (by omega), bMo_race_44 (by omega), w32_id (by omega)]
        refine hn2 _ ⟨h2.1.sI (by omega), ?_⟩
        intro j hj
        by_cases e : j = x.toNat
        · subst e
          rw [sI_eq, h2.1.g1 54 0 _ (by omega), sI_ne (by omega), sI_ne (by omega), f1'.g1 54 0 _ (by omega), ← hBB]
        · rw [sI_ne (by omega)]; exact h2.2 j (by omega)
  · rw [if_neg (by rw [if_neg hx]; omega), bMo_race_10, bMo_race_13, m_bad (by omega) (by omega) sI_eq, if_neg (by omega), KV_eq, bMo_race_15, if_neg (by omega), bMo_race_16]
    exact hq0 hx
end
