/-! LAYER 3, RULES -/
/-- a rule's place in the reference, by the class's row U of 75 -/
def ruM (U : Nat → Int) (i x : Nat) : Int := if i % 5 = 0 ∨ x = 0 then 0 else U (i * 5 + (if x = 5 then 0 else x))
def RuC (U : Nat → Int) (k : Nat) (M : Mem) : Prop := ∀ j : Nat, j < 75 → M.1 27 k j = U j
def RuM (U : Nat → Int) (M : Mem) : Prop := ∀ i x : Nat, i < 15 → x < 6 → M.1 87 i x = ruM U i x
def WU (U : Nat → Int) : Prop := ∀ j : Nat, j < 75 → (0 ≤ U j ∧ U j ≤ 4) ∧ (j % 25 < 5 → U j = 0)
def upU (U : Nat → Int) (q : Nat) (v : Int) : Nat → Int := fun j => if j = q then v else U j
def nxp (n : Int) : Int := if n = 9 then 5 else n
abbrev ruP (o n d : Int) : Prop := (1 ≤ o ∧ o ≤ 4) ∧ (1 ≤ n ∧ n ≤ 4 ∨ n = 9) ∧ (0 ≤ d ∧ d ≤ 4)
def tRu (R : RT) (s o n d : Int) : Int := if 0 ≤ s ∧ s < R 4 1 then (if ruP o n d then 0 else 2) else 1
def rqI (s o n : Int) : Int := s * 25 + spl o n
theorem rqI_R {s o n : Int} (hs : 0 ≤ s ∧ s < 3) : 0 ≤ rqI s o n ∧ rqI s o n < 75 := by have := spl_R o n; unfold rqI; omega
theorem spl_v {o n : Int} (ho : 1 ≤ o ∧ o ≤ 4) (hn : 1 ≤ n ∧ n ≤ 4 ∨ n = 9) : spl o n = o * 5 + (if n = 9 then 0 else n) := by
  unfold spl
  rw [if_pos (by omega)]
  split <;> split <;> omega
theorem ruM_q {U : Nat → Int} {s o n : Int} (hs : 0 ≤ s ∧ s < 3) (ho : 1 ≤ o ∧ o ≤ 4) (hn : 1 ≤ n ∧ n ≤ 4 ∨ n = 9) : ruM U (s.toNat * 5 + o.toNat) (nxp n).toNat = U (rqI s o n).toNat := by
  unfold ruM nxp rqI
  rw [spl_v ho hn]
  by_cases h9 : n = 9
  · subst h9
    rw [if_pos rfl, if_pos rfl, if_neg (by omega), if_pos (by omega), show (s * 25 + (o * 5 + 0)).toNat = (s.toNat * 5 + o.toNat) * 5 + 0 by omega]
  · rw [if_neg h9, if_neg h9, if_neg (by omega), if_neg (by omega), show (s * 25 + (o * 5 + n)).toNat = (s.toNat * 5 + o.toNat) * 5 + n.toNat by omega]
theorem ruM_up {U : Nat → Int} {s o n v : Int} (hs : 0 ≤ s ∧ s < 3) (ho : 1 ≤ o ∧ o ≤ 4) (hn : 1 ≤ n ∧ n ≤ 4 ∨ n = 9) {i x : Nat} (hi : i < 15) (hx : x < 6) : ruM (upU U (rqI s o n).toNat v) i x = if i = s.toNat * 5 + o.toNat ∧ x = (nxp n).toNat then v else ruM U i x := by
  by_cases e : i = s.toNat * 5 + o.toNat ∧ x = (nxp n).toNat
  · obtain ⟨rfl, rfl⟩ := e
    rw [if_pos ⟨rfl, rfl⟩, ruM_q hs ho hn]; unfold upU; rw [if_pos rfl]
  · rw [if_neg e]
    unfold ruM
    by_cases h0 : i % 5 = 0 ∨ x = 0
    · rw [if_pos h0, if_pos h0]
    · rw [if_neg h0, if_neg h0]
      unfold upU
      rw [if_neg]
      intro he
      apply e
      unfold rqI at he
      rw [spl_v ho hn] at he
      unfold nxp
      by_cases h5 : x = 5 <;> by_cases h9 : n = 9 <;> simp only [h5, h9, if_true, if_false] at he ⊢ <;> omega
theorem WU.up {U : Nat → Int} {s o n v : Int} (h : WU U) (hs : 0 ≤ s ∧ s < 3) (hr : ruP o n v) : WU (upU U (rqI s o n).toNat v) := by
  intro j hj
  unfold upU
  by_cases e : j = (rqI s o n).toNat
  · rw [if_pos e]
    refine ⟨hr.2.2, fun z => ?_⟩
    exfalso
    unfold rqI at e
    rw [spl_v hr.1 hr.2.1] at e
    have := hr.1
    have := hr.2.1
    by_cases h9 : n = 9 <;> simp only [h9, if_true, if_false] at e <;> omega
  · rw [if_neg e]; exact h j hj
/-- how many rules are not rest -/
def fU (U : Nat → Int) (j : Nat) : Int := if U j = 0 then 0 else 1
def cnU (U : Nat → Int) : Int := sum1 (fun j => fU U j.toNat) 74
def fM (U : Nat → Int) (i x : Nat) : Int := if ruM U i x = 0 then 0 else 1
theorem fU_R (U : Nat → Int) (j : Nat) : 0 ≤ fU U j ∧ fU U j ≤ 1 := by unfold fU; split <;> omega
theorem fM_R (U : Nat → Int) (i x : Nat) : 0 ≤ fM U i x ∧ fM U i x ≤ 1 := by unfold fM; split <;> omega
def cM1 (U : Nat → Int) (i : Nat) : Int := sum1 (fun x => fM U i x.toNat) 5
def cM2 (U : Nat → Int) (s : Nat) : Int := sum1 (fun o => cM1 U (s * 5 + o.toNat)) 4
theorem cM1_R (U : Nat → Int) (i : Nat) : 0 ≤ cM1 U i ∧ cM1 U i ≤ 5 := by
  have := sum1_R (f := fun x => fM U i x.toNat) (c := 1) (fun k => fM_R _ _ _) 5
  unfold cM1; omega
theorem cM2_R (U : Nat → Int) (i : Nat) : 0 ≤ cM2 U i ∧ cM2 U i ≤ 20 := by
  have := sum1_R (f := fun o => cM1 U (i * 5 + o.toNat)) (c := 5) (fun k => cM1_R _ _) 4
  unfold cM2; omega
theorem cM1_v {U : Nat → Int} {i : Nat} (hi : ¬ i % 5 = 0) : cM1 U i = fU U (i * 5) + fU U (i * 5 + 1) + fU U (i * 5 + 2) + fU U (i * 5 + 3) + fU U (i * 5 + 4) := by
  unfold cM1
  simp only [sum1_s]
  show 0 + fM U i 1 + fM U i 2 + fM U i 3 + fM U i 4 + fM U i 5 = _
  have e : ∀ x : Nat, 1 ≤ x → fM U i x = fU U (i * 5 + (if x = 5 then 0 else x)) := by
    intro x hx
    have er : ruM U i x = U (i * 5 + (if x = 5 then 0 else x)) := by unfold ruM; rw [if_neg (by omega)]
    unfold fM fU
    rw [er]
  rw [e 1 (by omega), e 2 (by omega), e 3 (by omega), e 4 (by omega), e 5 (by omega)]
  simp only [if_true, show ¬ (1 = 5) by omega, show ¬ (2 = 5) by omega, show ¬ (3 = 5) by omega, show ¬ (4 = 5) by omega, if_false, Nat.add_zero]
  omega
theorem sum1_74 {f : Nat → Int} : sum1 (fun j => f j.toNat) 74 = 0 + f 1 + f 2 + f 3 + f 4 + f 5 + f 6 + f 7 + f 8 + f 9 + f 10 + f 11 + f 12 + f 13 + f 14 + f 15 + f 16 + f 17 + f 18 + f 19 + f 20 + f 21 + f 22 + f 23 + f 24 + f 25 + f 26 + f 27 + f 28 + f 29 + f 30 + f 31 + f 32 + f 33 + f 34 + f 35 + f 36 + f 37 + f 38 + f 39 + f 40 + f 41 + f 42 + f 43 + f 44 + f 45 + f 46 + f 47 + f 48 + f 49 + f 50 + f 51 + f 52 + f 53 + f 54 + f 55 + f 56 + f 57 + f 58 + f 59 + f 60 + f 61 + f 62 + f 63 + f 64 + f 65 + f 66 + f 67 + f 68 + f 69 + f 70 + f 71 + f 72 + f 73 + f 74 := by
  simp only [sum1_s]
  rfl
theorem cnU_eq {U : Nat → Int} (h : WU U) : cnU U = 0 + cM2 U 0 + cM2 U 1 + cM2 U 2 := by
  have z : ∀ j : Nat, j < 75 → j % 25 < 5 → fU U j = 0 := fun j a b => by unfold fU; rw [if_pos ((h j a).2 b)]
  have e : ∀ s : Nat, cM2 U s = 0 + cM1 U (s * 5 + 1) + cM1 U (s * 5 + 2) + cM1 U (s * 5 + 3) + cM1 U (s * 5 + 4) := fun s => by
    unfold cM2
    simp only [sum1_s]
    rfl
  unfold cnU
  rw [sum1_74, e, e, e]
  simp only [Nat.zero_mul, Nat.zero_add, Nat.one_mul, Nat.reduceMul, Nat.reduceAdd]
  rw [cM1_v (i := 1) (by omega), cM1_v (i := 2) (by omega), cM1_v (i := 3) (by omega), cM1_v (i := 4) (by omega), cM1_v (i := 6) (by omega), cM1_v (i := 7) (by omega), cM1_v (i := 8) (by omega), cM1_v (i := 9) (by omega), cM1_v (i := 11) (by omega), cM1_v (i := 12) (by omega), cM1_v (i := 13) (by omega), cM1_v (i := 14) (by omega)]
  simp only [Nat.one_mul, Nat.reduceMul, Nat.reduceAdd]
  rw [z 1 (by omega) (by omega), z 2 (by omega) (by omega), z 3 (by omega) (by omega), z 4 (by omega) (by omega), z 25 (by omega) (by omega), z 26 (by omega) (by omega), z 27 (by omega) (by omega), z 28 (by omega) (by omega), z 29 (by omega) (by omega), z 50 (by omega) (by omega), z 51 (by omega) (by omega), z 52 (by omega) (by omega), z 53 (by omega) (by omega), z 54 (by omega) (by omega)]
  clear h z e
  generalize fU U = f
  omega
section
variable {d : Nat} {Q : AV → Mem → Prop} {X : Nat → Mem → Prop}
theorem c_rulesNotRest {M : Mem} {U : Nat → Int} (hU : RuC U 0 M) (hW : WU U) : Call (d + 1) qDe_rulesNotRest [vr 2 0] M Q X = Q (vi (cnU U)) M := by
  rw [eDe_rulesNotRest, bDe_rulesNotRest_0]
  obtain ⟨_, e⟩ := sum_up0 (α := Unit) (A := fun x acc _ => At d kDe_rulesNotRest 4 [vr 2 0, vi acc, vi x] [] M Q X) (f := fun j => fU U j.toNat) (c := 1) (B := 1000) (fun k => fU_R _ _) (by unfold fU; rw [if_pos]; exact (hW 0 (by omega)).2 (by omega)) 74 (by
    intro x acc _ x0 x1 b0 b1
    refine ⟨(), ?_⟩
    show At _ _ _ _ _ _ _ _ = At _ _ _ _ _ _ _ _
    rw [bDe_rulesNotRest_4, if_neg (by omega), bDe_rulesNotRest_9 (by omega), hU x.toNat (by omega)]
    unfold fU
    by_cases hc : U x.toNat = 0
    · rw [if_pos hc, if_pos hc, bDe_rulesNotRest_15, w32_id (by omega), Int.add_zero]
    · rw [if_neg hc, if_neg hc, bDe_rulesNotRest_14, bDe_rulesNotRest_15, w32_id (by omega), w32_id (by omega)]) 0 () (by omega) (by omega)
  refine Eq.trans e ?_
  show At _ _ _ _ _ _ _ _ = _
  rw [bDe_rulesNotRest_4, if_pos (by omega), bDe_rulesNotRest_17, Int.zero_add]
  rfl
/-- what count answers -/
def ctV (U : Nat → Int) (f m g : Int) (k : Int) : Int := if k = 0 then cnU U else if k = 1 then f else if k = 2 then m else if k = 3 then g else -1
theorem c_count {M : Mem} {U : Nat → Int} {k : Int} (hU : RuC U 0 M) (hW : WU U) : Call (d + 2) qPR_count [vr 9 0, vi k] M Q X = Q (vi (ctV U (M.1 2 0 3) (M.1 9 0 4) (M.1 5 0 2) k)) M := by
  rw [ePR_count, bPR_count_0]
  unfold ctV
  by_cases h0 : k = 0
  · subst h0
    rw [show tsel 0 3 [17, 2, 6, 10, 13] 0 = 2 from rfl, bPR_count_2, c_rulesNotRest hU hW, KV_eq, bPR_count_5, if_pos rfl]
  by_cases h1 : k = 1
  · subst h1
    rw [show tsel 0 3 [17, 2, 6, 10, 13] 1 = 6 from rfl, bPR_count_6, if_neg (by omega), if_pos rfl]
  by_cases h2 : k = 2
  · subst h2
    rw [show tsel 0 3 [17, 2, 6, 10, 13] 2 = 10 from rfl, bPR_count_10, if_neg (by omega), if_neg (by omega), if_pos rfl]
  by_cases h3 : k = 3
  · subst h3
    rw [show tsel 0 3 [17, 2, 6, 10, 13] 3 = 13 from rfl, bPR_count_13, if_neg (by omega), if_neg (by omega), if_neg (by omega), if_pos rfl]
  have e : tsel 0 3 [17, 2, 6, 10, 13] k = 17 := by unfold tsel; rw [if_neg (by omega)]; rfl
  rw [e, bPR_count_17, if_neg h0, if_neg h1, if_neg h2, if_neg h3]
theorem m_count {M : Mem} {U : Nat → Int} {k : Int} (hU : RuM U M) (hW : WU U) : Call (d + 1) qMo_count [vr 10 0, vi k] M Q X = Q (vi (ctV U (M.1 10 0 54) (M.1 10 0 55) (M.1 10 0 1) k)) (sI M 10 0 0 0) := by
  rw [eMo_count, bMo_count_0]
  have g : ∀ j, j ≠ 0 → (sI M 10 0 0 0).1 10 0 j = M.1 10 0 j := fun j hj => sI_ne (by omega)
  have hU' : RuM U (sI M 10 0 0 0) := fun i x a b => by rw [sI_ne (by omega)]; exact hU i x a b
  have g54 := g 54 (by omega)
  have g55 := g 55 (by omega)
  have g1 := g 1 (by omega)
  rw [← g54, ← g55, ← g1]
  clear g54 g55 g1 g hU
  generalize sI M 10 0 0 0 = M0 at *
  have in1 : ∀ s o acc : Int, 0 ≤ s → s < 3 → 0 ≤ o → o < 5 → 0 ≤ acc → acc ≤ 1000 → At d kMo_count 17 [vr 10 0, vi k, vi acc, vi s, vi o, vi 0] [] M0 Q X = At d kMo_count 17 [vr 10 0, vi k, vi (acc + cM1 U (s.toNat * 5 + o.toNat)), vi s, vi o, vi 6] [] M0 Q X := by
    intro s o acc s0 s1 o0 o1 a0 a1
    obtain ⟨_, e⟩ := sum_up0 (α := Unit) (A := fun x acc _ => At d kMo_count 17 [vr 10 0, vi k, vi acc, vi s, vi o, vi x] [] M0 Q X) (f := fun x => fM U (s.toNat * 5 + o.toNat) x.toNat) (c := 1) (B := 1010) (fun k => fM_R _ _ _) (by unfold fM ruM; simp) 5 (by
      intro x acc _ x0 x1 b0 b1
      refine ⟨(), ?_⟩
      show At _ _ _ _ _ _ _ _ = At _ _ _ _ _ _ _ _
      have er := hU' (s.toNat * 5 + o.toNat) x.toNat (by omega) (by omega)
      rw [bMo_count_17, if_neg (by omega), bMo_count_20 (by omega), show (0 * 3 + s.toNat) * 5 + o.toNat = s.toNat * 5 + o.toNat by omega, er]
      unfold fM
      by_cases hc : ruM U (s.toNat * 5 + o.toNat) x.toNat = 0
      · rw [if_neg (fun z => z hc), if_pos hc, bMo_count_30, bMo_count_33, w32_id (by omega), w32_id (by omega)]
      · rw [if_pos hc, if_neg hc, bMo_count_32, bMo_count_33, w32_id (by omega), w32_id (by omega)]) acc () a0 (by omega)
    exact e
  have z0 : ∀ s : Nat, cM1 U (s * 5 + 0) = 0 := by
    intro s
    have : ∀ x, fM U (s * 5 + 0) x = 0 := fun x => by unfold fM ruM; rw [if_pos (Or.inl (by omega))]; rfl
    unfold cM1
    simp only [this]
    rfl
  have in2 : ∀ s acc : Int, 0 ≤ s → s < 3 → 0 ≤ acc → acc ≤ 900 → ∀ z, ∃ z', At d kMo_count 12 [vr 10 0, vi k, vi acc, vi s, vi 0, z] [] M0 Q X = At d kMo_count 12 [vr 10 0, vi k, vi (acc + cM2 U s.toNat), vi s, vi 5, z'] [] M0 Q X := by
    intro s acc s0 s1 a0 a1 z
    exact sum_up0 (α := AV) (A := fun o acc z => At d kMo_count 12 [vr 10 0, vi k, vi acc, vi s, vi o, z] [] M0 Q X) (f := fun o => cM1 U (s.toNat * 5 + o.toNat)) (c := 5) (B := 940) (fun k => cM1_R _ _) (z0 s.toNat) 4 (by
      intro o acc z o0 o1 b0 b1
      refine ⟨vi 6, ?_⟩
      show At _ _ _ _ _ _ _ _ = At _ _ _ _ _ _ _ _
      rw [bMo_count_12, if_neg (by omega), bMo_count_15, in1 s o acc s0 s1 o0 (by omega) b0 (by omega), bMo_count_17, if_pos (by omega), bMo_count_37, w32_id (by omega)]) acc z a0 (by omega)
  have in3 : ∀ s acc : Int, 0 ≤ s → s < 3 → 0 ≤ acc → acc ≤ 900 → ∀ z4 z5, ∃ z4' z5', At d kMo_count 7 [vr 10 0, vi k, vi acc, vi s, z4, z5] [] M0 Q X = At d kMo_count 7 [vr 10 0, vi k, vi (acc + cM2 U s.toNat), vi (s + 1), z4', z5'] [] M0 Q X := by
    intro s acc s0 s1 a0 a1 z4 z5
    obtain ⟨z', e⟩ := in2 s acc s0 s1 a0 a1 z5
    refine ⟨vi 5, z', ?_⟩
    rw [bMo_count_7, if_neg (by omega), bMo_count_10, e, bMo_count_12, if_pos (by omega), bMo_count_39, w32_id (by omega)]
  have r0 := cM2_R U 0
  have r1 := cM2_R U 1
  obtain ⟨a4, a5, e1⟩ := in3 0 0 (by omega) (by omega) (by omega) (by omega) JK JK
  have t0 : (0 : Int).toNat = 0 := rfl
  have t1 : (0 + 1 : Int).toNat = 1 := rfl
  have t2 : (0 + 1 + 1 : Int).toNat = 2 := rfl
  rw [t0] at e1
  obtain ⟨b4, b5, e2⟩ := in3 (0 + 1) (0 + cM2 U 0) (by omega) (by omega) (by omega) (by omega) a4 a5
  rw [t1] at e2
  obtain ⟨c4, c5, e3⟩ := in3 (0 + 1 + 1) (0 + cM2 U 0 + cM2 U 1) (by omega) (by omega) (by omega) (by omega) b4 b5
  rw [t2] at e3
  rw [e1, e2, e3, ← cnU_eq hW, bMo_count_7, if_pos (by omega), bMo_count_41]
  unfold ctV
  by_cases h0 : k = 0
  · rw [if_neg (fun z => z h0), if_pos h0, bMo_count_43, bMo_count_64]
  rw [if_pos h0, if_neg h0, bMo_count_45]
  by_cases h1 : k = 1
  · rw [if_neg (fun z => z h1), if_pos h1, bMo_count_48, bMo_count_64]
  rw [if_pos h1, if_neg h1, bMo_count_51]
  by_cases h2 : k = 2
  · rw [if_neg (fun z => z h2), if_pos h2, bMo_count_54, bMo_count_64]
  rw [if_pos h2, if_neg h2, bMo_count_57]
  by_cases h3 : k = 3
  · rw [if_neg (fun z => z h3), if_pos h3, bMo_count_60, bMo_count_64]
  rw [if_pos h3, if_neg h3, bMo_count_63, bMo_count_64]
theorem c_ruleAt {M : Mem} {U : Nat → Int} {s o n : Int} (hU : RuC U 0 M) (hs : 0 ≤ s ∧ s < 3) : Call (d + 2) qDe_ruleAt [vr 2 0, vi s, vi o, vi n] M Q X = Q (vi (U (rqI s o n).toNat)) M := by
  have hr := spl_R o n
  have e : w32 (s * 25 + spl o n) = s * 25 + spl o n := w32_id (by omega)
  rw [eDe_ruleAt, bDe_ruleAt_0, if_neg (by omega), bDe_ruleAt_2, if_neg (by omega), bDe_ruleAt_5, c_stepsPlace, KV_eq, w32_id (z := s * 25) (by omega), bDe_ruleAt_13 (by rw [e]; omega), bDe_ruleAt_17, e, hU _ (by omega)]
  rfl
abbrev pRu (t i j : Nat) : Prop := t = 27 ∧ i = 0 ∧ j < 75
theorem c_putRule {M : Mem} {U : Nat → Int} {s o n v : Int} (hU : RuC U 0 M) (hs : 0 ≤ s ∧ s < 3) (hq : ∀ M', Fs pRu M M' → RuC (upU U (rqI s o n).toNat v) 0 M' → Q (vi (if U (rqI s o n).toNat = v then 0 else 1)) M') : Call (d + 3) qDe_putRule [vr 2 0, vi s, vi o, vi n, vi v] M Q X := by
  have hr := spl_R o n
  have e : w32 (s * 25 + spl o n) = s * 25 + spl o n := w32_id (by omega)
  rw [eDe_putRule, bDe_putRule_0, if_neg (by omega), bDe_putRule_2, if_neg (by omega), bDe_putRule_5, c_ruleAt hU hs, KV_eq, bDe_putRule_10]
  by_cases hc : U (rqI s o n).toNat = v
  · rw [if_neg (fun z => z hc), bDe_putRule_12]
    have := hq M Fs.rf (fun j hj => by
      rw [hU j hj]; unfold upU
      by_cases ej : j = (rqI s o n).toNat
      · rw [if_pos ej, ej, hc]
      · rw [if_neg ej])
    rwa [if_pos hc] at this
  · rw [if_pos hc, bDe_putRule_14, c_stepsPlace, KV_eq, w32_id (z := s * 25) (by omega), bDe_putRule_22 (by rw [e]; omega), e]
    have hR := rqI_R (o := o) (n := n) hs
    have := hq (sI M 27 0 (rqI s o n).toNat v) (Fs.rf.sI (by omega)) (fun j hj => by
      rw [sI1]; unfold upU
      by_cases ej : j = (rqI s o n).toNat
      · rw [if_pos ⟨rfl, rfl, ej⟩, if_pos ej]
      · rw [if_neg (fun z => ej z.2.2), if_neg ej, hU j hj])
    rwa [if_neg hc] at this
abbrev pRc (t i j : Nat) : Prop := (t = 27 ∧ i = 0 ∧ j < 75) ∨ (t = 9 ∧ i = 0 ∧ j = 7)
theorem c_rule {M : Mem} {U : Nat → Int} {s o n v : Int} (hU : RuC U 0 M) (hn3 : rd M 0 4 1 ≤ 3) (hx1 : tRu (rd M 0) s o n v = 1 → X 1 M) (hx2 : tRu (rd M 0) s o n v = 2 → X 2 M) (hq : tRu (rd M 0) s o n v = 0 → ∀ M', Fs pRc M M' → RuC (upU U (rqI s o n).toNat v) 0 M' → M'.1 9 0 7 = 0 → Q (vi (U (rqI s o n).toNat)) M') : Call (d + 4) qPR_rule [vr 9 0, vi s, vi o, vi n, vi v] M Q X := by
  unfold tRu at hx1 hx2 hq
  rw [ePR_rule, bPR_rule_0, c_needShop hn3]
  by_cases hs : 0 ≤ s ∧ s < rd M 0 4 1
  · rw [if_pos hs] at hx2 hq
    rw [if_pos hs, KU_eq, bPR_rule_3]
    have st : ∀ a0 : Int, (a0 = if 1 ≤ n ∧ n ≤ 4 ∨ n = 9 then 1 else 0) → At (d + 3) kPR_rule 15 [vr 9 0, vi s, vi o, vi n, vi v, JK, JK] [vi a0] M Q X := by
      intro a0 ha
      rw [bPR_rule_15, bPR_rule_19, bPR_rule_22, bPR_rule_24, bPR_rule_26]
      by_cases hr : ruP o n v
      · rw [if_pos hr] at hq
        obtain ⟨h1, h2, h3⟩ := hr
        rw [if_pos h2] at ha
        subst ha
        rw [if_neg (by omega), if_neg (by omega), if_neg (by omega), if_neg (by omega), if_pos (by omega), bPR_rule_34, c_ruleAt hU (by omega), KV_eq, bPR_rule_40]
        refine c_putRule hU (by omega) ?_
        intro M1 f1 u1
        rw [KV_eq, bPR_rule_48 (by omega)]
        refine hq rfl _ ((f1.mono (fun t i j z => Or.inl z)).sI (by omega)) (fun j hj => by rw [sI_ne (by omega)]; exact u1 j hj) sI_eq
      · rw [if_neg hr] at hx2
        have hx := hx2 rfl
        rw [bPR_rule_29]
        by_cases c1 : o < 1
        · rw [if_pos c1]; exact hx
        rw [if_neg c1]
        by_cases c2 : 4 < o
        · rw [if_pos c2]; exact hx
        rw [if_neg c2]
        by_cases c3 : 1 ≤ n ∧ n ≤ 4 ∨ n = 9
        · rw [if_pos c3] at ha
          subst ha
          rw [if_neg (by omega)]
          by_cases c4 : v < 0
          · rw [if_pos c4]; exact hx
          rw [if_neg c4]
          by_cases c5 : v ≤ 4
          · exact absurd ⟨⟨by omega, by omega⟩, c3, by omega, c5⟩ hr
          · rw [if_neg c5]; exact hx
        · rw [if_neg c3] at ha
          subst ha
          rw [if_pos rfl]; exact hx
    rw [bPR_rule_6, bPR_rule_9, bPR_rule_12, bPR_rule_14]
    by_cases h9 : n = 9
    · rw [if_neg (show ¬ (n ≠ 9) from fun z => z h9)]
      by_cases c1 : n < 1
      · omega
      · rw [if_neg c1, ite_self]
        exact st 1 (by rw [if_pos (Or.inr h9)])
    · rw [if_pos h9]
      by_cases c1 : n < 1
      · rw [if_pos c1]; exact st 0 (by rw [if_neg (by omega)])
      · rw [if_neg c1]
        by_cases c2 : n ≤ 4
        · rw [if_pos c2]; exact st 1 (by rw [if_pos (by omega)])
        · rw [if_neg c2]; exact st 0 (by rw [if_neg (by omega)])
  · rw [if_neg hs] at hx1 ⊢; exact hx1 rfl
theorem m_nextPlace {M : Mem} {n : Int} : Call (d + 1) qMo_nextPlace [vi n] M Q X = Q (vi (nxp n)) M := by
  rw [eMo_nextPlace, bMo_nextPlace_0, bMo_nextPlace_5, bMo_nextPlace_3, bMo_nextPlace_6, bMo_nextPlace_6]
  unfold nxp
  by_cases h : n = 9
  · rw [if_neg (fun z => z h), if_pos h]
  · rw [if_pos h, if_neg h]
abbrev pRm (t i j : Nat) : Prop := (t = 87 ∧ i < 15 ∧ j < 6) ∨ (t = 10 ∧ i = 0 ∧ j = 0)
theorem m_rule {M : Mem} {R : RT} {U : Nat → Int} {s o n v : Int} (hc : Cur R M) (hU : RuM U M) (hq1 : tRu R s o n v ≠ 0 → ∀ w, Q (vi w) (th0 M (tRu R s o n v))) (hq : tRu R s o n v = 0 → ∀ M', Fs pRm M M' → M'.1 10 0 0 = 0 → RuM (upU U (rqI s o n).toNat v) M' → Q (vi (U (rqI s o n).toNat)) M') : Call (d + 2) qMo_rule [vr 10 0, vi s, vi o, vi n, vi v] M Q X := by
  have h20 := hc.n
  have hR3 : 0 ≤ R 4 1 ∧ R 4 1 ≤ 3 := by
    rcases id hc with hc0 | ⟨B, m, T, hx, hcm⟩
    · rw [hc0.1]; omega
    · exact hx.wr.1
  unfold tRu at hq1 hq
  rw [eMo_rule, bMo_rule_0, th_ne (by omega), h20, w32_id (by omega), m_in, KV_eq, bMo_rule_11]
  by_cases hs : 0 ≤ s ∧ s < R 4 1
  · rw [if_pos hs] at hq1 hq
    rw [if_pos (by rw [if_pos (by omega)]; omega), bMo_rule_14, bMo_rule_15, m_bad0, KV_eq, bMo_rule_17, if_neg (by omega), bMo_rule_18, m_in, KV_eq, bMo_rule_23, bMo_rule_24, m_in, KV_eq, bMo_rule_28, bMo_rule_29, bMo_rule_32, m_in, KV_eq, bMo_rule_36]
    by_cases hr : ruP o n v
    · rw [if_pos hr] at hq
      obtain ⟨h1, h2, h3⟩ := hr
      have g : At (d + 1) kMo_rule 39 [vr 10 0, vi s, vi o, vi n, vi v, JK] [vr 10 0] (sI M 10 0 0 0) Q X := by
        have hnx : 0 ≤ nxp n ∧ nxp n < 6 := by unfold nxp; split <;> omega
        rw [bMo_rule_39, bMo_rule_40, m_bad0, KV_eq, bMo_rule_42, if_pos rfl, bMo_rule_45 (by omega), m_nextPlace, KV_eq, bMo_rule_53 (by omega), m_nextPlace, KV_eq, bMo_rule_63 hnx, show (0 * 3 + s.toNat) * 5 + o.toNat = s.toNat * 5 + o.toNat by omega, th_ne (by omega), hU _ _ (by omega) (by omega), ruM_q (by omega) h1 h2]
        refine hq rfl _ ((Fs.rf.sI (by omega)).sI (by omega)) (by rw [sI_ne (by omega), sI_eq]) ?_
        intro i x hi hx
        rw [ruM_up (by omega) h1 h2 hi hx, sI1]
        by_cases e : i = s.toNat * 5 + o.toNat ∧ x = (nxp n).toNat
        · rw [if_pos ⟨rfl, e⟩, if_pos e]
        · rw [if_neg (fun z => e z.2), if_neg e, sI_ne (by omega)]; exact hU i x hi hx
      rw [if_pos h1, if_neg (by omega), if_pos h3, if_pos (show (1 : Int) ≠ 0 by omega)]
      by_cases h4 : 1 ≤ n ∧ n ≤ 4
      · rw [if_pos h4, if_pos (by omega)]; exact g
      · rw [if_neg h4, if_neg (by omega), if_neg (by omega)]; exact g
    · rw [if_neg hr] at hq1
      have g : At (d + 1) kMo_rule 37 [vr 10 0, vi s, vi o, vi n, vi v, JK] [vr 10 0] (sI M 10 0 0 0) Q X := by
        rw [bMo_rule_37, bMo_rule_40, m_bad1 (by omega), KV_eq, bMo_rule_42, if_neg (by omega), bMo_rule_43]
        exact hq1 (by omega) _
      by_cases h1 : 1 ≤ o ∧ o ≤ 4
      · rw [if_pos h1, if_neg (show ¬ ((1 : Int) = 0) by omega)]
        by_cases h3 : 0 ≤ v ∧ v ≤ 4
        · have h2 : ¬ (1 ≤ n ∧ n ≤ 4 ∨ n = 9) := fun z => hr ⟨h1, z, h3⟩
          rw [if_neg (show ¬ (1 ≤ n ∧ n ≤ 4) by omega), if_neg (show ¬ ((0 : Int) ≠ 0) by omega), if_pos (by omega)]; exact g
        · rw [if_neg h3, if_neg (show ¬ ((0 : Int) ≠ 0) by omega)]
          repeat' split
          all_goals exact g
      · rw [if_neg h1, if_pos rfl]; exact g
  · rw [if_neg hs] at hq1
    rw [if_neg (by rw [if_neg (by omega)]; omega), bMo_rule_12, bMo_rule_15, m_bad1 (by omega), KV_eq, bMo_rule_17, if_pos (by omega), bMo_rule_43]
    exact hq1 (by omega) _
end
