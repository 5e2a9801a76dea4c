/-! LAYER 3, STATES THAT BREAK: the reference, and how many -/
theorem sum1_st {f : Int → Int} {x : Int} (hx : 1 ≤ x) : sum1 f x.toNat = sum1 f (x - 1).toNat + f x := by
  obtain ⟨n, hn⟩ : ∃ n : Nat, x = (n : Int) + 1 := ⟨(x - 1).toNat, by omega⟩
  subst hn
  rw [show ((n : Int) + 1).toNat = n + 1 by omega, show ((n : Int) + 1 - 1).toNat = n by omega]
  rfl
/-- what is counted so far -/
def cSo (R : RT) (F : Int → Int → Bool) (w x : Int) : Int := sum1 (fun w => cnP R F w) (w - 1).toNat + sum1 (fun x => b01 (plB R x && F w x)) (x - 1).toNat
theorem cSo_R {R : RT} {F : Int → Int → Bool} {w x : Int} (hw : w ≤ 7) (hx : x ≤ 125) : 0 ≤ cSo R F w x ∧ cSo R F w x ≤ 1000 := by
  have a := sum1_R (f := fun w => cnP R F w) (c := 124) (fun k => cnP_R k) (w - 1).toNat
  have b := sum1_R (f := fun x => b01 (plB R x && F w x)) (c := 1) (fun k => b01_R _) (x - 1).toNat
  unfold cSo; omega
theorem cSo_x {R : RT} {F : Int → Int → Bool} {w x : Int} (hx : 1 ≤ x) : cSo R F w (x + 1) = cSo R F w x + b01 (plB R x && F w x) := by
  unfold cSo
  rw [show x + 1 - 1 = x by omega, sum1_st hx]; omega
theorem cSo_w {R : RT} {F : Int → Int → Bool} {w : Int} (hw : 1 ≤ w) : cSo R F w 125 = cSo R F (w + 1) 1 := by
  unfold cSo
  rw [show w + 1 - 1 = w by omega, sum1_st hw, show ((125 : Int) - 1).toNat = 124 from rfl, show ((1 : Int) - 1).toNat = 0 from rfl]
  show _ + cnP R F w = _ + cnP R F w + 0
  omega
theorem cSo_w0 {R : RT} {F : Int → Int → Bool} {w : Int} (hw : 1 ≤ w) : cSo R F w 125 = cSo R F (w + 1) 0 := by
  rw [cSo_w hw]
  unfold cSo
  rw [show ((1 : Int) - 1).toNat = 0 from rfl, show ((0 : Int) - 1).toNat = 0 from rfl]
theorem cSo_e {R : RT} {F : Int → Int → Bool} (h : 0 ≤ R 4 2) {x : Int} (hx : x ≤ 1) : cSo R F (R 4 2 + 1) x = cnA R F := by
  unfold cSo cnA
  rw [show R 4 2 + 1 - 1 = R 4 2 by omega, show (x - 1).toNat = 0 by omega]
  show _ + 0 = _
  omega
section
variable {d : Nat} {Q : AV → Mem → Prop} {X : Nat → Mem → Prop}
theorem c_statesThatBreak {M : Mem} {b : Nat} {R : RT} {U : Nat → Int} (hR : rd M (rcB b) = R) (h : WR R) (hW : WU U) (hz : Bz b M) (hF : FullU R U b M) (hn1 : 1 ≤ R 4 1)
    (hq : ∀ M', Fs (pBk b) M M' → Q (vi (cnA R (brB R U))) M') : Call (d + 6) qBo_statesThatBreak [vr 0 b] M Q X := by
  have hb := h.b
  have no : ∀ t i j, pBk b t i j → ¬ (t = 4 ∨ 33 ≤ t ∧ t ≤ 38) ∧ ¬ (20 ≤ t ∧ t ≤ 22) := fun t i j z => by unfold pBk pOp pF2 at z; omega
  rw [eBo_statesThatBreak, bBo_statesThatBreak_0]
  have hloop := loop2I (α := Mem × Int) 1 (R 4 2 + 1) 1 125 (by omega) (by omega) (fun w a => ∀ z3, At (d + 5) kBo_statesThatBreak 4 [vr 0 b, vi a.2, vi w, z3] [] a.1 Q X) (fun w x a => At (d + 5) kBo_statesThatBreak 11 [vr 0 b, vi a.2, vi w, vi x] [] a.1 Q X)
    (fun w x a => Fs (pBk b) M a.1 ∧ a.2 = cSo R (brB R U) w x) ?_ ?_ ?_ ?_ ?_
  · exact hloop (M, 0) ⟨Fs.rf, rfl⟩ _
  · rintro ⟨M', acc⟩ ⟨g1, g2⟩ z3
    have hR' : rd M' (rcB b) = R := by rw [rd_fs g1 (fun t j ht z => (no _ _ _ z).1 ht), hR]
    show At _ _ _ _ _ _ _ _
    rw [bBo_statesThatBreak_4, rd4, hR', if_pos (by omega), bBo_statesThatBreak_29]
    have g2 : acc = cSo R (brB R U) (R 4 2 + 1) 1 := g2
    rw [g2, cSo_e (by omega) (by omega)]; exact hq M' g1
  · rintro w ⟨M', acc⟩ w1 w2 ⟨g1, -⟩ g z3
    have hR' : rd M' (rcB b) = R := by rw [rd_fs g1 (fun t j ht z => (no _ _ _ z).1 ht), hR]
    show At _ _ _ _ _ _ _ _
    rw [bBo_statesThatBreak_4, rd4, hR', if_neg (by omega), bBo_statesThatBreak_9]; exact g
  · rintro w ⟨M', acc⟩ w1 w2 g
    show At _ _ _ _ _ _ _ _
    rw [bBo_statesThatBreak_11, if_pos (by omega), bBo_statesThatBreak_27, w32_id (by omega)]; exact g _
  · rintro w x ⟨M', acc⟩ w1 w2 x1 x2 ⟨g1, g2⟩ gk
    have g2 : acc = cSo R (brB R U) w x := g2
    have hc := cSo_R (R := R) (F := brB R U) (w := w) (x := x) (by omega) (by omega)
    have hR' : rd M' (rcB b) = R := by rw [rd_fs g1 (fun t j ht z => (no _ _ _ z).1 ht), hR]
    show At _ _ _ _ _ _ _ _
    rw [bBo_statesThatBreak_11, if_neg (by omega), bBo_statesThatBreak_14, c_isPlain (by rw [hR']; exact h) (by omega), KV_eq, bBo_statesThatBreak_18, hR']
    by_cases hp : plainP R x
    · have hpB : plB R x = true := decide_eq_true hp
      rw [if_pos hp, if_neg (by omega), bBo_statesThatBreak_19]
      refine c_isBroken (d := d) hR' h hW (hz.fs g1 (fun t j ht z => (no _ _ _ z).2 (by omega))) (hF.fs g1 (fun t j ht z => (no _ _ _ z).2 (by omega))) (by omega) (by omega) hp.2.2.2 ?_
      intro M2 f2
      have hx := cSo_x (R := R) (F := brB R U) (w := w) (x := x) (by omega)
      rw [hpB, Bool.true_and] at hx
      rw [KV_eq, bBo_statesThatBreak_23]
      by_cases hB : brB R U w x = true
      · rw [hB, b01_t] at hx
        rw [hB, b01_t, if_neg (by omega), bBo_statesThatBreak_24, bBo_statesThatBreak_25, w32_id (z := x + 1) (by omega), w32_id (by omega)]
        exact gk (M2, acc + 1) ⟨g1.tr f2, by show acc + 1 = _; rw [hx, g2]⟩
      · rw [Bool.not_eq_true] at hB
        rw [hB, b01_f] at hx
        rw [hB, b01_f, if_pos rfl, bBo_statesThatBreak_25, w32_id (by omega)]
        exact gk (M2, acc) ⟨g1.tr f2, by show acc = _; rw [hx, g2]; omega⟩
    · have hpB : plB R x = false := decide_eq_false hp
      have hx := cSo_x (R := R) (F := brB R U) (w := w) (x := x) (by omega)
      rw [hpB, Bool.false_and, b01_f] at hx
      rw [if_neg hp, if_pos rfl, bBo_statesThatBreak_25, w32_id (by omega)]
      exact gk (M', acc) ⟨g1, by show acc = _; rw [hx, g2]; omega⟩
  · rintro w ⟨M', acc⟩ w1 w2 ⟨g1, g2⟩
    exact ⟨g1, Eq.trans g2 (cSo_w w1)⟩
abbrev pBm (t i j : Nat) : Prop := pHo t i j ∨ t = 79 ∨ t = 82 ∨ t = 112
theorem m_isBroken {M : Mem} {R : RT} {U : Nat → Int} {w p : Int} (hM : MR R M) (h : WR R) (hn1 : 1 ≤ R 4 1) (hH : HL R M) (hU : RuM U M) (hW : WU U) (sv : SolvU R U M) (hw : 1 ≤ w ∧ w ≤ R 4 2) (hp : 0 ≤ p ∧ p < 125) (hpl : plainP R p)
    (hq : ∀ M', Fs pBm M M' → Q (vi (b01 (brB R U w p))) M') : Call (d + 63) qMo_isBroken [vr 10 0, vi w, vi p] M Q X := by
  have hb := h.b
  have hpn := pw_n (n := R 4 1) ⟨hn1, by omega⟩
  have hev : 0 ≤ evb R ∧ evb R < pw (R 4 1) := by unfold evb; omega
  have hS : Sta R p (evb R) := sta_of h hn1 hp hpl.2.2.2 hev
  have hcdo := cdo_evb h hn1 hp hpl
  have hp0 : p ≠ 0 := fun z => by
    subst z
    exact hpl.1 (by omega) rfl
  have hnf : ¬ hfP p (evb R) := fun z => by
    unfold cdo at hcdo; rw [if_pos z] at hcdo; exact hp0 hcdo.symm
  have hg : Gng p (evb R) := gng_of hnf
  have hcd : cd p (evb R) = p := by unfold cdo at hcdo; rw [if_neg hnf] at hcdo; exact hcdo
  have hfit : ∀ s : Int, 0 ≤ s → s < 3 → dg p s ≤ stp R s := by
    intro s a1 a2
    rcases (by omega : s = 0 ∨ s = 1 ∨ s = 2) with rfl | rfl | rfl
    · exact hpl.2.2.2.1
    · exact hpl.2.2.2.2.1
    · exact hpl.2.2.2.2.2
  have keepM : ∀ M', Fs pBm M M' → MR R M' ∧ HL R M' ∧ RuM U M' ∧ SolvU R U M' := fun M' f =>
    ⟨hM.fs f (fun t i j z => by omega), hH.tx (f.tx (fun t i j z => by omega)), fun i x hi hx => (f.g1 87 i x (by omega)).trans (hU i x hi hx), fun w' p' b' a1 a2 a3 a4 a5 a6 a7 s s0 s1 => (f.g2 71 _ _ (by omega)).trans (sv w' p' b' a1 a2 a3 a4 a5 a6 a7 s s0 s1)⟩
  rw [show d + 63 = (d + 62) + 1 from rfl, eMo_isBroken, bMo_isBroken_0, m_everybody hM h, KV_eq, bMo_isBroken_2]
  refine loop_up (fun s M1 => ∀ z5 z6, At (d + 62) kMo_isBroken 5 [vr 10 0, vi w, vi p, vi (evb R), vi s, z5, z6] [] M1 Q X) (fun s M1 => Fs pBm M M1 ∧ ∀ s' e : Int, 0 ≤ s' → s' < s → 0 ≤ e → e < 5 → ¬ brk R U w p s' e) 0 (R 4 1) ?_ ?_ 0 M (by omega) (by omega) ⟨Fs.rf, fun s' e a1 a2 => by omega⟩ _ _
  · rintro M1 ⟨f1, hno⟩ z5 z6
    obtain ⟨hM1, -, -, -⟩ := keepM M1 f1
    have hB : brB R U w p = false := by
      rw [← Bool.not_eq_true, brB_iff]
      rintro ⟨s, e, hs, he, hbk⟩
      exact hno s e hs.1 (brk_n h hW (by omega) hp0 hpl.2.2.2 hs hbk) he.1 he.2 hbk
    have hq2 := hq M1 f1
    rw [hB] at hq2
    rw [bMo_isBroken_5, hM1.1, if_pos (by omega), bMo_isBroken_75]; exact hq2
  · rintro s M1 s0 s1 ⟨f1, hno⟩ hn z5 z6
    obtain ⟨hM1, -, -, -⟩ := keepM M1 f1
    rw [bMo_isBroken_5, hM1.1, if_neg (by omega), bMo_isBroken_9]
    refine loop_up (fun e M2 => ∀ z6, At (d + 62) kMo_isBroken 11 [vr 10 0, vi w, vi p, vi (evb R), vi s, vi e, z6] [] M2 Q X) (fun e M2 => Fs pBm M M2 ∧ ∀ e' : Int, 0 ≤ e' → e' < e → ¬ brk R U w p s e') 0 5 ?_ ?_ 0 M1 (by omega) (by omega) ⟨f1, fun e a1 a2 => by omega⟩ _
    · rintro M2 ⟨f2, hno2⟩ z6
      rw [bMo_isBroken_11, if_pos (by omega), bMo_isBroken_73, w32_id (by omega)]
      refine hn M2 ⟨f2, ?_⟩ _ _
      intro s' e a1 a2 a3 a4
      by_cases hs : s' = s
      · subst hs; exact hno2 e a3 a4
      · exact hno s' e a1 (by omega) a3 a4
    · rintro e M2 e0 e5 ⟨f2, hno2⟩ hn2 z6
      have next : ∀ M3, Fs pBm M M3 → ¬ brk R U w p s e → ∀ z6, At (d + 62) kMo_isBroken 71 [vr 10 0, vi w, vi p, vi (evb R), vi s, vi e, z6] [] M3 Q X := by
        intro M3 f3 hnb z6
        rw [bMo_isBroken_71, w32_id (by omega)]
        refine hn2 M3 ⟨f3, ?_⟩ _
        intro e' a1 a2
        by_cases he : e' = e
        · subst he; exact hnb
        · exact hno2 e' a1 (by omega)
      rw [bMo_isBroken_11, if_neg (by omega), bMo_isBroken_14]
      refine loop_up (fun k M3 => At (d + 62) kMo_isBroken 16 [vr 10 0, vi w, vi p, vi (evb R), vi s, vi e, vi k] [] M3 Q X) (fun k M3 => Fs pBm M M3 ∧ ∀ k' : Int, 0 ≤ k' → k' < k → M3.1 79 0 k'.toNat = byD R U w p k') 0 (R 4 1) ?_ ?_ 0 M2 (by omega) (by omega) ⟨f2, fun e a1 a2 => by omega⟩
      · rintro M3 ⟨f3, r3⟩
        obtain ⟨hM3, hH3, hU3, sv3⟩ := keepM M3 f3
        show At _ _ _ _ _ _ _ _
        rw [bMo_isBroken_16, hM3.1, if_pos (by omega), bMo_isBroken_32]
        refine m_mayDo (d := d + 1) hM3 h hH3 hS hg (by omega) (by omega) ⟨e0, e5⟩ ?_
        intro M4 f4
        have f4' : Fs pBm M M4 := f3.tr (f4.mono (fun t i j z => Or.inl z))
        obtain ⟨hM4, hH4, hU4, sv4⟩ := keepM M4 f4'
        rw [KV_eq, bMo_isBroken_39, hcd]
        by_cases hc : canP R w p s e
        · rw [if_pos (by rw [if_pos hc]; omega), bMo_isBroken_41 (by omega)]
          have f5 : Fs pBm M (sI M4 79 0 s.toNat e) := f4'.sI (Or.inr (Or.inl rfl))
          obtain ⟨hM5, -, -, sv5⟩ := keepM _ f5
          have hsd : ∀ k : Int, 0 ≤ k → k < 3 → dr (swp (tdR R U w p) s e) k = if k = s then e else byD R U w p k := fun k k0 k3 => by
            rw [swp_d ⟨e0, e5⟩ (by omega) ⟨k0, k3⟩, dr_tdR hW ⟨k0, k3⟩]
          have e3 : ∀ k : Int, 0 ≤ k → k < 3 → d3 (dr (swp (tdR R U w p) s e) 0) (dr (swp (tdR R U w p) s e) 1) (dr (swp (tdR R U w p) s e) 2) k = dr (swp (tdR R U w p) s e) k := fun k k0 k3 => d3_f (f := fun k => dr (swp (tdR R U w p) s e) k) ⟨k0, k3⟩
          have hok := swp_ok (s := s) (e := e) (by omega) ⟨e0, e5⟩ (tdR_ok (R := R) hW (w := w) (x := p)) hc
          obtain ⟨c0, c1, c2⟩ := ok_of hok
          have hcan : ∀ k : Int, 0 ≤ k → k < 3 → canP R w p k (dr (swp (tdR R U w p) s e) k) := fun k k0 k3 => by
            rcases (by omega : k = 0 ∨ k = 1 ∨ k = 2) with rfl | rfl | rfl
            · exact c0
            · exact c1
            · exact c2
          refine m_weighs (d := d + 59) (tb := 1) (V := Wr R U (w - 1).toNat) (d0 := dr (swp (tdR R U w p) s e) 0) (d1 := dr (swp (tdR R U w p) s e) 1) (d2 := dr (swp (tdR R U w p) s e) 2) hM5 h hn1 hS hg hfit (by omega) ?_ ?_ ?_ ?_ ?_ (fun y i i0 i3 y0 y1 hf hd => Wr_zero h hW _ y i i0 i3 y0 y1 hf hd) ?_
          · intro k k0 k1
            rw [e3 k k0 (by omega), hsd k k0 (by omega)]
            by_cases hk : k = s
            · subst hk; rw [if_pos rfl, sI_eq]
            · rw [if_neg hk, sI_ne (by omega), f4.g1 79 _ _ (by omega)]; exact r3 k k0 k1
          · intro k k0 k3
            rw [e3 k (by omega) k3]
            exact can_nin h hpl.2.2.2 (by omega) k3 k0 (hcan k (by omega) k3)
          · intro k k0 k3
            have := dr_R (swp (tdR R U w p) s e) k
            rw [e3 k k0 k3]; omega
          · intro k k0 k3
            rw [e3 k k0 k3, hcd]; exact hcan k k0 k3
          · intro p' b' i a1 a2 a3 a4 a5
            have hbl := bits_lt ⟨hn1, by omega⟩ a1
            rw [sv5 (w - 1) p' b' (by omega) (by omega) a1.1.1 a1.1.2 ⟨a2 0 (by omega) (by omega), a2 1 (by omega) (by omega), a2 2 (by omega) (by omega)⟩ hbl.1 hbl.2 i a4 a5]
            unfold cdo; rw [if_neg a3]
          · intro M6 f6 g6
            have f6' : Fs pBm M M6 := f5.tr (f6.fs (fun t i j z => by omega))
            have ev := sv w p (evb R) (by omega) (by omega) hp.1 hp.2 hpl.2.2.2 hev.1 hev.2 s s0 s1
            have e71 : M6.2 71 (((1 * 7 + w.toNat) * 125 + p.toNat) * 8 + (evb R).toNat) s.toNat = Wr R U w.toNat p s := by
              rw [f6'.g2 71 _ _ (by omega), ← hcdo]
              rw [hcdo]; rw [hcdo] at ev; exact ev
            have e82 : M6.2 82 0 s.toNat = rG R (Wr R U (w - 1).toNat) w p (swp (tdR R U w p) s e) s := by
              rw [g6 s s0 s1, hcd]; rfl
            rw [KU_eq, bMo_isBroken_53 ⟨by omega, by omega, hp, hS.2.1, by omega⟩, e71, e82]
            by_cases hlt : Wr R U w.toNat p s < rG R (Wr R U (w - 1).toNat) w p (swp (tdR R U w p) s e) s
            · have hB : brB R U w p = true := brB_iff.mpr ⟨s, e, ⟨s0, by omega⟩, ⟨e0, e5⟩, hc, hlt⟩
              have hq2 := hq M6 f6'
              rw [hB] at hq2
              rw [if_neg (fun z => cmp64_le.mp z hlt), bMo_isBroken_69]; exact hq2
            · rw [if_pos (cmp64_le.mpr hlt)]
              exact next M6 f6' (fun z => hlt z.2) _
        · rw [if_neg (by rw [if_neg hc]; simp), bMo_isBroken_40]
          exact next M4 f4' (fun z => hc z.1) _
      · rintro k M3 k0 k1 ⟨f3, r3⟩ hn3
        obtain ⟨hM3, hH3, hU3, sv3⟩ := keepM M3 f3
        show At _ _ _ _ _ _ _ _
        rw [bMo_isBroken_16, hM3.1, if_neg (by omega), bMo_isBroken_20]
        refine m_byRule (d := d) hM3 h hH3 hU3 hW hS hg (by omega) (by omega) ?_
        intro M4 f4
        rw [KV_eq, bMo_isBroken_29 (by omega), hcd, w32_id (by omega)]
        refine hn3 _ ⟨(f3.tr (f4.mono (fun t i j z => Or.inl z))).sI (Or.inr (Or.inl rfl)), ?_⟩
        intro k' a1 a2
        by_cases hk : k' = k
        · subst hk; exact sI_eq
        · rw [sI_ne (by omega), f4.g1 79 _ _ (by omega)]; exact r3 k' a1 (by omega)
end
