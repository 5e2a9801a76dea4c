/-! LAYER 3, RULES TAKEN FROM THE ROWS: follow -/
/-- the rules, and how many were changed -/
abbrev FS : Type := (Nat → Int) × Int
def fo0 (S : FS) (q : Nat) (v : Int) : FS := (upU S.1 q v, S.2 + (if S.1 q = v then 0 else 1))
def fo1 (R : RT) (a b : Int) (S : FS) : FS := fo0 (fo0 S (rqI 0 a b).toNat (rwD R (R 4 2) (a + b * 5) 0)) (rqI 1 b a).toNat (rwD R (R 4 2) (a + b * 5) 1)
def foB (R : RT) (a : Int) (S : FS) : Nat → FS
  | 0 => S
  | k + 1 => fo1 R a ((k : Int) + 1) (foB R a S k)
def foA (R : RT) (S : FS) : Nat → FS
  | 0 => S
  | k + 1 => foB R ((k : Int) + 1) (foA R S k) (R 33 1).toNat
theorem fo0_R {S : FS} {q : Nat} {v : Int} : S.2 ≤ (fo0 S q v).2 ∧ (fo0 S q v).2 ≤ S.2 + 1 := by
  unfold fo0
  show S.2 ≤ S.2 + _ ∧ S.2 + _ ≤ S.2 + 1
  split <;> omega
theorem fo1_R {R : RT} {a b : Int} {S : FS} : S.2 ≤ (fo1 R a b S).2 ∧ (fo1 R a b S).2 ≤ S.2 + 2 := by
  have h1 := fo0_R (S := S) (q := (rqI 0 a b).toNat) (v := rwD R (R 4 2) (a + b * 5) 0)
  have h2 := fo0_R (S := fo0 S (rqI 0 a b).toNat (rwD R (R 4 2) (a + b * 5) 0)) (q := (rqI 1 b a).toNat) (v := rwD R (R 4 2) (a + b * 5) 1)
  unfold fo1; omega
theorem foB_R {R : RT} {a : Int} {S : FS} : ∀ k : Nat, S.2 ≤ (foB R a S k).2 ∧ (foB R a S k).2 ≤ S.2 + 2 * k
  | 0 => by unfold foB; omega
  | k + 1 => by
    have h1 := foB_R (R := R) (a := a) (S := S) k
    have h2 := fo1_R (R := R) (a := a) (b := (k : Int) + 1) (S := foB R a S k)
    show S.2 ≤ (fo1 R a ((k : Int) + 1) (foB R a S k)).2 ∧ _
    show _ ∧ (fo1 R a ((k : Int) + 1) (foB R a S k)).2 ≤ _
    omega
theorem foA_R {R : RT} {S : FS} (h : R 33 1 ≤ 4) : ∀ k : Nat, S.2 ≤ (foA R S k).2 ∧ (foA R S k).2 ≤ S.2 + 8 * k
  | 0 => by unfold foA; omega
  | k + 1 => by
    have h1 := foA_R (R := R) (S := S) h k
    have h2 := foB_R (R := R) (a := (k : Int) + 1) (S := foA R S k) (R 33 1).toNat
    show S.2 ≤ (foB R ((k : Int) + 1) (foA R S k) (R 33 1).toNat).2 ∧ _
    show _ ∧ (foB R ((k : Int) + 1) (foA R S k) (R 33 1).toNat).2 ≤ _
    omega
theorem fo1_WU {R : RT} {a b : Int} {S : FS} (h : WU S.1) (ha : 1 ≤ a ∧ a ≤ 4) (hb : 1 ≤ b ∧ b ≤ 4) : WU (fo1 R a b S).1 := by
  have r0 := rwD_R (R := R) (w := R 4 2) (x := a + b * 5) (s := 0)
  have r1 := rwD_R (R := R) (w := R 4 2) (x := a + b * 5) (s := 1)
  exact (h.up (s := 0) (o := a) (n := b) (by omega) ⟨ha, Or.inl hb, by omega⟩).up (s := 1) (o := b) (n := a) (by omega) ⟨hb, Or.inl ha, by omega⟩
theorem foB_WU {R : RT} {a : Int} {S : FS} (h : WU S.1) (ha : 1 ≤ a ∧ a ≤ 4) : ∀ k : Nat, k ≤ 4 → WU (foB R a S k).1
  | 0, _ => h
  | k + 1, hk => fo1_WU (foB_WU h ha k (by omega)) ha (by omega)
theorem foA_WU {R : RT} {S : FS} (h : WU S.1) (h1 : 0 ≤ R 33 1 ∧ R 33 1 ≤ 4) : ∀ k : Nat, k ≤ 4 → WU (foA R S k).1
  | 0, _ => h
  | k + 1, hk => foB_WU (foA_WU h h1 k (by omega)) (by omega) _ (by omega)
theorem fits2 {R : RT} (h : WR R) {a b : Int} (ha : 1 ≤ a ∧ a ≤ R 33 0) (hb : 1 ≤ b ∧ b ≤ R 33 1) (h2 : R 4 1 = 2) : (0 ≤ a + b * 5 ∧ a + b * 5 < 125) ∧ plainP R (a + b * 5) := by
  have hh := h.b
  have e := dg3 (a := a) (b := b) (c := 0) (by omega) (by omega) (by omega)
  rw [show a + b * 5 + 0 * 25 = a + b * 5 by omega] at e
  refine ⟨by omega, ?_⟩
  unfold plainP fitsP
  rw [e.1, e.2.1, e.2.2]
  omega
section
variable {d : Nat} {Q : AV → Mem → Prop} {X : Nat → Mem → Prop}
theorem c_fo1 {M : Mem} {R : RT} {a b : Int} {S : FS} {z6 : AV} (hR : rd M 0 = R) (h : WR R) (h2 : R 4 1 = 2) (hf : Full R 0 M) (hz : Bz 0 M) (hU : RuC S.1 0 M) (hS : 0 ≤ S.2 ∧ S.2 ≤ 1000) (ha : 1 ≤ a ∧ a ≤ R 33 0) (hb : 1 ≤ b ∧ b ≤ R 33 1)
    (hq : ∀ M' z, Fs pRu M M' → RuC (fo1 R a b S).1 0 M' → At (d + 4) kPR_follow 27 [vr 9 0, vr 4 0, vr 0 0, vi (fo1 R a b S).2, vi a, vi (b + 1), z] [] M' Q X) : At (d + 4) kPR_follow 27 [vr 9 0, vr 4 0, vr 0 0, vi S.2, vi a, vi b, z6] [] M Q X := by
  have hh := h.b
  obtain ⟨hx, hpl⟩ := fits2 h ha hb h2
  have e33 : M.1 33 0 (1 : Int).toNat = R 33 1 := by rw [← hR]; rfl
  have e42 : M.1 4 0 2 = R 4 2 := by rw [← hR]; rfl
  have ec : w32 (w32 (a * roI 116 0 (0 : Int).toNat) + w32 (b * roI 116 0 (1 : Int).toNat)) = a + b * 5 := by
    rw [ro_su (by omega), ro_su (by omega), show su 0 = 1 from rfl, show su 1 = 5 from rfl, w32_id (z := a * 1) (by omega), w32_id (z := b * 5) (by omega), Int.mul_one, w32_id (by omega)]
  have er := hf.row hz (w := R 4 2) (x := a + b * 5) (by omega) (by omega) hx hpl.2.2.2
  rw [bPR_follow_27 (by omega), e33, if_neg (by omega), bPR_follow_33 (by omega), e42, ec, c_doingAt (by omega) hx (by rw [er]; exact rwX_R), KV_eq, er, rwX_D, bPR_follow_57]
  refine c_putRule (d := d + 1) hU (by omega) ?_
  intro M1 f1 u1
  have g : ∀ t i j, t ≠ 27 → M1.1 t i j = M.1 t i j := fun t i j ht => f1.g1 t i j (by omega)
  have e42' : M1.1 4 0 2 = R 4 2 := (g _ _ _ (by omega)).trans e42
  have er' : M1.1 20 0 (R 4 2 * 125 + (a + b * 5)).toNat = rwX R (R 4 2) (a + b * 5) := (g _ _ _ (by omega)).trans er
  have s1 := fo0_R (S := S) (q := (rqI 0 a b).toNat) (v := rwD R (R 4 2) (a + b * 5) 0)
  rw [KV_eq, bPR_follow_58, e42', c_doingAt (by omega) hx (by rw [er']; exact rwX_R), KV_eq, er', rwX_D, bPR_follow_72]
  have ea : w32 (S.2 + (if S.1 (rqI 0 a b).toNat = rwD R (R 4 2) (a + b * 5) 0 then 0 else 1)) = (fo0 S (rqI 0 a b).toNat (rwD R (R 4 2) (a + b * 5) 0)).2 := by
    show w32 ((fo0 S (rqI 0 a b).toNat (rwD R (R 4 2) (a + b * 5) 0)).2) = _
    exact w32_id (by omega)
  rw [ea]
  refine c_putRule (d := d + 1) (U := (fo0 S (rqI 0 a b).toNat (rwD R (R 4 2) (a + b * 5) 0)).1) u1 (by omega) ?_
  intro M2 f2 u2
  have s2 := fo1_R (R := R) (a := a) (b := b) (S := S)
  rw [KV_eq, bPR_follow_73]
  have eb : w32 ((fo0 S (rqI 0 a b).toNat (rwD R (R 4 2) (a + b * 5) 0)).2 + (if (fo0 S (rqI 0 a b).toNat (rwD R (R 4 2) (a + b * 5) 0)).1 (rqI 1 b a).toNat = rwD R (R 4 2) (a + b * 5) 1 then 0 else 1)) = (fo1 R a b S).2 := by
    show w32 ((fo1 R a b S).2) = _
    exact w32_id (by omega)
  rw [eb, w32_id (by omega)]
  exact hq M2 _ (f1.tr f2) u2
theorem c_foB {M : Mem} {R : RT} {a : Int} {S : FS} (hR : rd M 0 = R) (h : WR R) (h2 : R 4 1 = 2) (hf : Full R 0 M) (hz : Bz 0 M) (hU : RuC S.1 0 M) (hS : 0 ≤ S.2 ∧ S.2 ≤ 900) (ha : 1 ≤ a ∧ a ≤ R 33 0) : ∀ (k : Nat), (k : Int) ≤ R 33 1 →
    (∀ M' z, Fs pRu M M' → RuC (foB R a S k).1 0 M' → At (d + 4) kPR_follow 27 [vr 9 0, vr 4 0, vr 0 0, vi (foB R a S k).2, vi a, vi ((k : Int) + 1), z] [] M' Q X) → ∀ z6, At (d + 4) kPR_follow 27 [vr 9 0, vr 4 0, vr 0 0, vi S.2, vi a, vi 1, z6] [] M Q X := by
  intro k
  have hh := h.b
  induction k with
  | zero => intro _ hq z6; exact hq M z6 Fs.rf hU
  | succ k ih =>
    intro hk hq z6
    refine ih (by omega) ?_ z6
    intro M1 z f1 u1
    have hb := foB_R (R := R) (a := a) (S := S) k
    have g : ∀ t i j, t ≠ 27 → M1.1 t i j = M.1 t i j := fun t i j ht => f1.g1 t i j (by omega)
    refine c_fo1 (R := R) (S := foB R a S k) ((rd_fs f1 (fun t j ht z => by omega)).trans hR) h h2 (hf.fs f1 (fun t j a b => by omega)) (hz.fs f1 (fun t j a b => by omega)) u1 (by omega) ha (by omega) ?_
    intro M2 z' f2 u2
    rw [show (k : Int) + 1 + 1 = ((k + 1 : Nat) : Int) + 1 by omega]
    exact hq M2 z' (f1.tr f2) u2
theorem c_foA {M : Mem} {R : RT} {S : FS} (hR : rd M 0 = R) (h : WR R) (h2 : R 4 1 = 2) (hf : Full R 0 M) (hz : Bz 0 M) (hU : RuC S.1 0 M) (hS : 0 ≤ S.2 ∧ S.2 ≤ 800) : ∀ (k : Nat), (k : Int) ≤ R 33 0 →
    (∀ M' z z', Fs pRu M M' → RuC (foA R S k).1 0 M' → At (d + 4) kPR_follow 19 [vr 9 0, vr 4 0, vr 0 0, vi (foA R S k).2, vi ((k : Int) + 1), z, z'] [] M' Q X) → ∀ z5 z6, At (d + 4) kPR_follow 19 [vr 9 0, vr 4 0, vr 0 0, vi S.2, vi 1, z5, z6] [] M Q X := by
  intro k
  have hh := h.b
  induction k with
  | zero => intro _ hq z5 z6; exact hq M z5 z6 Fs.rf hU
  | succ k ih =>
    intro hk hq z5 z6
    refine ih (by omega) ?_ z5 z6
    intro M1 z z' f1 u1
    have hb := foA_R (R := R) (S := S) (by omega) k
    have hr1 : rd M1 0 = R := (rd_fs f1 (fun t j ht z => by omega)).trans hR
    have e33 : M1.1 33 0 (0 : Int).toNat = R 33 0 := by rw [← hr1]; rfl
    rw [bPR_follow_19 (by omega), e33, if_neg (by omega), bPR_follow_25]
    refine c_foB (S := foA R S k) hr1 h h2 (hf.fs f1 (fun t j a b => by omega)) (hz.fs f1 (fun t j a b => by omega)) u1 (by omega) (by omega) (R 33 1).toNat (by omega) ?_ z'
    intro M2 y f2 u2
    have e33' : M2.1 33 0 (1 : Int).toNat = R 33 1 := by rw [f2.g1 33 0 _ (by omega), ← hr1]; rfl
    rw [bPR_follow_27 (by omega), e33', if_pos (by omega), bPR_follow_77, w32_id (by omega), show (k : Int) + 1 + 1 = ((k + 1 : Nat) : Int) + 1 by omega]
    exact hq M2 _ _ (f1.tr f2) u2
abbrev pFw (t i j : Nat) : Prop := pSd t i j ∨ pRu t i j ∨ (t = 9 ∧ i = 0 ∧ j = 7)
theorem c_follow {M : Mem} {U : Nat → Int} (h0 : CI0 M) (hb : Cb M) (hU : RuC U 0 M) (hx : tR (rd M 0) = 1 → X 0 M) (hq1 : tR (rd M 0) = 0 → rd M 0 4 1 ≠ 2 → Q (vi (-1)) M)
    (hq : rd M 0 4 1 = 2 → ∀ M', Fs pFw M M' → CI0 M' → Cb M' → RuC (foA (rd M 0) (U, 0) (rd M 0 33 0).toNat).1 0 M' → M'.1 9 0 7 = 0 → Q (vi (foA (rd M 0) (U, 0) (rd M 0 33 0).toNat).2) M') : Call (d + 8) qPR_follow [vr 9 0] M Q X := by
  have hW := h0.2.2.1 0 (by omega)
  have hbb := hW.b
  unfold tR at hx hq1
  rw [ePR_follow, bPR_follow_0, c_needRace]
  by_cases hn : rd M 0 4 1 = 0
  · rw [if_pos hn] at hx; rw [if_pos hn]; exact hx rfl
  rw [if_neg hn] at hq1
  rw [if_neg hn, KU_eq, bPR_follow_2, rd4]
  by_cases h2 : rd M 0 4 1 = 2
  · rw [if_pos h2, bPR_follow_12]
    refine c_settled (d := d) h0 hb (by omega) ?_
    intro M1 f1 c1 b1 full
    rw [KV_eq, bPR_follow_14]
    have er : rd M1 0 = rd M 0 := rd_fs f1 (fun t j ht z => by unfold pSd pCl at z; omega)
    have u1 : RuC U 0 M1 := fun j hj => (f1.g1 27 0 j (fun z => by unfold pSd pCl at z; omega)).trans (hU j hj)
    refine c_foA (d := d + 3) (S := (U, 0)) er hW h2 full (c1.1 0 (by omega)) u1 (by show (0 : Int) ≤ 0 ∧ (0 : Int) ≤ 800; omega) (rd M 0 33 0).toNat (by omega) ?_ JK JK
    intro M2 z z' f2 u2
    have e33 : M2.1 33 0 (0 : Int).toNat = rd M 0 33 0 := by rw [f2.g1 33 0 _ (by omega), ← er]; rfl
    rw [bPR_follow_19 (by omega), e33, if_pos (by omega), bPR_follow_79 (by omega)]
    have f3 : Fs (fun t i j => pRu t i j ∨ (t = 9 ∧ i = 0 ∧ j = 7)) M1 (sI M2 9 0 7 0) := (f2.mono (fun t i j z => Or.inl z)).sI (Or.inr ⟨rfl, rfl, rfl⟩)
    refine hq h2 _ ((f1.mono (fun t i j z => Or.inl z)).tr (f3.mono (fun t i j z => Or.inr z))) ?_ ?_ (fun j hj => by rw [sI_ne (by omega)]; exact u2 j hj) sI_eq
    · exact c1.fs f3 (fun b hb3 => (c1.1 b hb3).fs f3 (fun t j a z => by omega)) ((c1.2.1 5 (by omega) (by omega)).fs f3 (fun t j ht _ z => by omega)) (fun t i j z => by omega)
    · refine ⟨?_, ?_⟩
      · rw [f3.g1 0 0 2 (by omega), f3.g1 9 0 1 (by omega)]; exact b1.1
      · intro i hi
        rw [rd_fs f3 (fun t j ht z => by omega), f3.g1 4 i 0 (by omega), f3.g1 0 0 2 (by omega)]
        intro a c
        exact (b1.2 i hi a c).fs f3 (fun t j a z => by omega)
  · rw [if_neg h2, bPR_follow_10]; exact hq1 rfl h2
theorem m_follows {M : Mem} {S : FS} {s o n v : Int} (hU : RuM S.1 M) (hs : 0 ≤ s ∧ s < 3) (ho : 1 ≤ o ∧ o ≤ 4) (hn : 1 ≤ n ∧ n ≤ 4) (hq : ∀ M', Fs (fun t _ _ => t = 87) M M' → RuM (fo0 S (rqI s o n).toNat v).1 M' → Q (vi (if S.1 (rqI s o n).toNat = v then 0 else 1)) M') : Call (d + 1) qMo_follows [vr 10 0, vi s, vi o, vi n, vi v] M Q X := by
  have en : nxp n = n := by unfold nxp; rw [if_neg (by omega)]
  have er : M.1 87 (s.toNat * 5 + o.toNat) n.toNat = S.1 (rqI s o n).toNat := by
    rw [hU _ _ (by omega) (by omega)]
    have := ruM_q (U := S.1) hs ho (Or.inl hn)
    rwa [en] at this
  have key : Q (vi (if S.1 (rqI s o n).toNat = v then 0 else 1)) (sI M 87 (s.toNat * 5 + o.toNat) n.toNat v) := by
    refine hq _ (Fs.rf.sI rfl) ?_
    intro i x hi hx
    show _ = ruM (upU S.1 (rqI s o n).toNat v) i x
    rw [ruM_up hs ho (Or.inl hn) hi hx, en, sI1]
    by_cases e : i = s.toNat * 5 + o.toNat ∧ x = n.toNat
    · rw [if_pos ⟨rfl, e⟩, if_pos e]
    · rw [if_neg (fun z => e z.2), if_neg e]; exact hU i x hi hx
  rw [eMo_follows, bMo_follows_0 (by omega), show (0 * 3 + s.toNat) * 5 + o.toNat = s.toNat * 5 + o.toNat by omega, er, bMo_follows_23, bMo_follows_21, bMo_follows_24, bMo_follows_24]
  by_cases hc : S.1 (rqI s o n).toNat = v
  · rw [if_neg (fun z => z hc)]; rwa [if_pos hc] at key
  · rw [if_pos hc]; rwa [if_neg hc] at key
theorem m_fo1 {M : Mem} {R : RT} {a b : Int} {S : FS} (hM : MR R M) (h : WR R) (h2 : R 4 1 = 2) (sv : Solved R M) (hU : RuM S.1 M) (hS : 0 ≤ S.2 ∧ S.2 ≤ 1000) (ha : 1 ≤ a ∧ a ≤ R 33 0) (hb : 1 ≤ b ∧ b ≤ R 33 1)
    (hq : ∀ M', Fs (fun t _ _ => t = 87) M M' → RuM (fo1 R a b S).1 M' → At (d + 1) kMo_follow 35 [vr 10 0, vi (fo1 R a b S).2, vi a, vi (b + 1)] [] M' Q X) : At (d + 1) kMo_follow 35 [vr 10 0, vi S.2, vi a, vi b] [] M Q X := by
  have hh := h.b
  obtain ⟨hx, hpl⟩ := fits2 h ha hb h2
  have e56 : M.1 56 0 (1 : Int).toNat = R 33 1 := (hM.2.2.2.2.2.2.1 1 (by omega) (by omega)).1
  have ec : w32 (a + w32 (5 * b)) = a + b * 5 := by rw [w32_id (z := 5 * b) (by omega), w32_id (by omega)]; omega
  have ev : (evb R).toNat = (3 : Int).toNat := by unfold evb; rw [h2]; rfl
  have r0 := row_evb h (by omega) sv (w := R 4 2) (p := a + b * 5) (s := 0) (by omega) hx hpl (by omega)
  have r1 := row_evb h (by omega) sv (w := R 4 2) (p := a + b * 5) (s := 1) (by omega) hx hpl (by omega)
  rw [ev] at r0 r1
  rw [bMo_follow_35 (by omega), e56, if_neg (by omega), bMo_follow_41 (by rw [ec, hM.2.1]; omega), ec, hM.2.1, r0]
  refine m_follows hU (by omega) (by omega) (by omega) ?_
  intro M1 f1 u1
  have g : ∀ t i j, t ≠ 87 → M1.1 t i j = M.1 t i j := fun t i j ht => f1.g1 t i j (by omega)
  have s1 := fo0_R (S := S) (q := (rqI 0 a b).toNat) (v := rwD R (R 4 2) (a + b * 5) 0)
  have e13 : M1.1 10 0 13 = R 4 2 := (g _ _ _ (by omega)).trans hM.2.1
  have ea : w32 (S.2 + (if S.1 (rqI 0 a b).toNat = rwD R (R 4 2) (a + b * 5) 0 then 0 else 1)) = (fo0 S (rqI 0 a b).toNat (rwD R (R 4 2) (a + b * 5) 0)).2 := by
    show w32 ((fo0 S (rqI 0 a b).toNat (rwD R (R 4 2) (a + b * 5) 0)).2) = _
    exact w32_id (by omega)
  rw [KV_eq, bMo_follow_62 (by rw [ec, e13]; omega), ec, e13, g _ _ _ (by omega), r1, ea]
  refine m_follows (S := fo0 S (rqI 0 a b).toNat (rwD R (R 4 2) (a + b * 5) 0)) u1 (by omega) (by omega) (by omega) ?_
  intro M2 f2 u2
  have s2 := fo1_R (R := R) (a := a) (b := b) (S := S)
  have eb : w32 ((fo0 S (rqI 0 a b).toNat (rwD R (R 4 2) (a + b * 5) 0)).2 + (if (fo0 S (rqI 0 a b).toNat (rwD R (R 4 2) (a + b * 5) 0)).1 (rqI 1 b a).toNat = rwD R (R 4 2) (a + b * 5) 1 then 0 else 1)) = (fo1 R a b S).2 := by
    show w32 ((fo1 R a b S).2) = _
    exact w32_id (by omega)
  rw [KV_eq, bMo_follow_85, eb, w32_id (by omega)]
  exact hq M2 (f1.tr f2) u2
theorem m_foB {M : Mem} {R : RT} {a : Int} {S : FS} (hM : MR R M) (h : WR R) (h2 : R 4 1 = 2) (sv : Solved R M) (hU : RuM S.1 M) (hS : 0 ≤ S.2 ∧ S.2 ≤ 900) (ha : 1 ≤ a ∧ a ≤ R 33 0) : ∀ (k : Nat), (k : Int) ≤ R 33 1 →
    (∀ M', Fs (fun t _ _ => t = 87) M M' → RuM (foB R a S k).1 M' → At (d + 1) kMo_follow 35 [vr 10 0, vi (foB R a S k).2, vi a, vi ((k : Int) + 1)] [] M' Q X) → At (d + 1) kMo_follow 35 [vr 10 0, vi S.2, vi a, vi 1] [] M Q X := by
  intro k
  have hh := h.b
  induction k with
  | zero => intro _ hq; exact hq M Fs.rf hU
  | succ k ih =>
    intro hk hq
    refine ih (by omega) ?_
    intro M1 f1 u1
    have hb := foB_R (R := R) (a := a) (S := S) k
    refine m_fo1 (S := foB R a S k) (hM.fs f1 (fun t i j z => by omega)) h h2 (sv.fs (by omega) (by omega) f1 (fun t i j z => by omega)) u1 (by omega) ha (by omega) ?_
    intro M2 f2 u2
    rw [show (k : Int) + 1 + 1 = ((k + 1 : Nat) : Int) + 1 by omega]
    exact hq M2 (f1.tr f2) u2
theorem m_foA {M : Mem} {R : RT} {S : FS} (hM : MR R M) (h : WR R) (h2 : R 4 1 = 2) (sv : Solved R M) (hU : RuM S.1 M) (hS : 0 ≤ S.2 ∧ S.2 ≤ 800) : ∀ (k : Nat), (k : Int) ≤ R 33 0 →
    (∀ M' z, Fs (fun t _ _ => t = 87) M M' → RuM (foA R S k).1 M' → At (d + 1) kMo_follow 27 [vr 10 0, vi (foA R S k).2, vi ((k : Int) + 1), z] [] M' Q X) → ∀ z3, At (d + 1) kMo_follow 27 [vr 10 0, vi S.2, vi 1, z3] [] M Q X := by
  intro k
  have hh := h.b
  induction k with
  | zero => intro _ hq z3; exact hq M z3 Fs.rf hU
  | succ k ih =>
    intro hk hq z3
    refine ih (by omega) ?_ z3
    intro M1 z f1 u1
    have hb := foA_R (R := R) (S := S) (by omega) k
    have hM1 : MR R M1 := hM.fs f1 (fun t i j z => by omega)
    have e56 : M1.1 56 0 (0 : Int).toNat = R 33 0 := (hM1.2.2.2.2.2.2.1 0 (by omega) (by omega)).1
    rw [bMo_follow_27 (by omega), e56, if_neg (by omega), bMo_follow_33]
    refine m_foB (S := foA R S k) hM1 h h2 (sv.fs (by omega) (by omega) f1 (fun t i j z => by omega)) u1 (by omega) (by omega) (R 33 1).toNat (by omega) ?_
    intro M2 f2 u2
    have e56' : M2.1 56 0 (1 : Int).toNat = R 33 1 := (f2.g1 56 0 _ (by omega)).trans (hM1.2.2.2.2.2.2.1 1 (by omega) (by omega)).1
    rw [bMo_follow_35 (by omega), e56', if_pos (by omega), bMo_follow_89, w32_id (by omega), show (k : Int) + 1 + 1 = ((k + 1 : Nat) : Int) + 1 by omega]
    exact hq M2 _ (f1.tr f2) u2
abbrev pMw (t i j : Nat) : Prop := scM t i j ∨ t = 87
theorem m_follow {M : Mem} {R : RT} {U : Nat → Int} (hc : Cur R M) (hU : RuM U M) (hq1 : tR R = 1 → ∀ v, Q (vi v) (th0 M 1)) (hq2 : tR R = 0 → R 4 1 ≠ 2 → Q (vi (-1)) (sI M 10 0 0 0))
    (hq : R 4 1 = 2 → ∀ M', Fs pMw M M' → Cur R M' → M'.1 10 0 0 = 0 → RuM (foA R (U, 0) (R 33 0).toNat).1 M' → Q (vi (foA R (U, 0) (R 33 0).toNat).2) M') : Call (d + 64) qMo_follow [vr 10 0] M Q X := by
  have h20 := hc.n
  unfold tR at hq1 hq2
  rw [eMo_follow, bMo_follow_0, th_ne (by omega), h20]
  by_cases h0 : R 4 1 = 0
  · rw [if_pos h0] at hq1
    rw [if_neg (fun z => z h0), bMo_follow_7, bMo_follow_10, m_bad1 (by omega), KV_eq, bMo_follow_12, if_neg (by omega), bMo_follow_13]
    exact hq1 rfl _
  rw [if_neg h0] at hq2
  rw [if_pos h0, bMo_follow_9, bMo_follow_10, m_bad0, KV_eq, bMo_follow_12, if_pos rfl, bMo_follow_15, th_ne (by omega), h20]
  by_cases h2 : R 4 1 = 2
  · rw [if_pos h2, bMo_follow_21]
    rcases id hc with hc0 | ⟨B, n, T, hx, hcm⟩
    · exact absurd hc0.1 h0
    have hW := hx.wr
    have hb := hW.b
    have hn1 := hx.2.1
    obtain ⟨fs0, -⟩ := MS.t0 hc
    have hcm0 : CM R B n T (sI M 10 0 0 0) := hcm.fs (by omega) ⟨hn1, by omega⟩ (P := fun t i j => t = 10 ∧ i = 0 ∧ j = 0) (Fs.rf.sI (by omega)) (fun t i j z => by omega)
    refine m_solveC (d := d) hx hcm0 ?_
    intro M' f c' sv
    have u1 : RuM U M' := fun i x hi hx => by
      rw [f.g1 87 i x (fun z => by have := (sv_sc z).1; unfold scM at this; omega), sI_ne (by omega)]; exact hU i x hi hx
    rw [KU_eq, bMo_follow_23]
    refine m_foA (d := d + 62) (S := (U, 0)) c'.1 hW h2 sv u1 (by show (0 : Int) ≤ 0 ∧ (0 : Int) ≤ 800; omega) (R 33 0).toNat (by omega) ?_ JK
    intro M2 z f2 u2
    have e56 : M2.1 56 0 (0 : Int).toNat = R 33 0 := (f2.g1 56 0 _ (by omega)).trans (c'.1.2.2.2.2.2.2.1 0 (by omega) (by omega)).1
    rw [bMo_follow_27 (by omega), e56, if_pos (by omega), bMo_follow_91]
    refine hq h2 M2 (((fs0.tr (f.mono (fun t i j z => (sv_sc z).1))).mono (fun t i j z => Or.inl z)).tr (f2.mono (fun t i j z => Or.inr z))) (Or.inr ⟨B, n, T, hx, c'.fs (by omega) ⟨hn1, by omega⟩ f2 (fun t i j z => by omega)⟩) ?_ u2
    rw [f2.g1 10 0 0 (by omega), f.g1 10 0 0 (fun z => (sv_sc z).2 ⟨rfl, rfl⟩)]; exact sI_eq
  · rw [if_neg h2, bMo_follow_19]; exact hq2 rfl h2
end
