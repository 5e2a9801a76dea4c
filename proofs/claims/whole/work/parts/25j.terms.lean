/-! LAYER 3, TERMS AT WORK: the class's stack -/
def Stk (tp : Nat) (M : Mem) (s : List Int) : Prop := M.1 6 tp 3 = (s.length : Int) ∧ s.length ≤ 60 ∧ ∀ j : Nat, j < s.length → M.1 41 tp (s.length - 1 - j) = s.getD j 0
abbrev pTe (tp t i j : Nat) : Prop := (t = 6 ∧ i = tp ∧ j = 3) ∨ (t = 41 ∧ i = tp)
section
variable {d tp : Nat} {M : Mem} {Q : AV → Mem → Prop} {X : Nat → Mem → Prop}
theorem t_push {s : List Int} {v : Int} (h : Stk tp M s) (hl : s.length < 60) (hq : ∀ M', Fs (pTe tp) M M' → Stk tp M' (v :: s) → Q (vi 0) M') : Call (d + 1) qTe_push [vr 6 tp, vi v] M Q X := by
  obtain ⟨h1, h2, h3⟩ := h
  rw [eTe_push, bTe_push_0, h1, if_neg (by omega), bTe_push_6 (by omega), bTe_push_18, sI_ne (by omega), h1, w32_id (by omega)]
  refine hq _ ((Fs.rf.sI (by omega)).sI (by omega)) ⟨?_, ?_, ?_⟩
  · rw [sI_eq, List.length_cons]; omega
  · rw [List.length_cons]; omega
  · intro j hj
    rw [List.length_cons] at hj ⊢
    rw [sI_ne (by omega)]
    cases j with
    | zero => rw [show s.length + 1 - 1 - 0 = (s.length : Int).toNat by omega, sI_eq]; rfl
    | succ j =>
      rw [sI_ne (by omega), show s.length + 1 - 1 - (j + 1) = s.length - 1 - j by omega, h3 j (by omega)]
      rfl
theorem t_pop {s : List Int} {v : Int} (h : Stk tp M (v :: s)) (hq : ∀ M', Fs (pTe tp) M M' → Stk tp M' s → Q (vi v) M') : Call (d + 1) qTe_pop [vr 6 tp] M Q X := by
  obtain ⟨h1, h2, h3⟩ := h
  rw [List.length_cons] at h1 h2
  have h0 := h3 0 (by rw [List.length_cons]; omega)
  rw [List.length_cons, show s.length + 1 - 1 - 0 = s.length by omega] at h0
  have hw : w32 (M.1 6 tp 3 - 1) = (s.length : Int) := by rw [h1, w32_id (by omega)]; omega
  rw [eTe_pop, bTe_pop_0, if_pos (by omega), bTe_pop_5 (by rw [sI_eq, hw]; omega), sI_eq, hw, sI_ne (by omega), show (s.length : Int).toNat = s.length by omega, h0]
  refine hq _ (Fs.rf.sI (by omega)) ⟨sI_eq, by omega, ?_⟩
  intro j hj
  have := h3 (j + 1) (by rw [List.length_cons]; omega)
  rw [List.length_cons] at this
  rw [sI_ne (by omega), show s.length - 1 - j = s.length + 1 - 1 - (j + 1) by omega, this]
  rfl
theorem t_work {c x y : Int} (hc : -11 ≤ c ∧ c ≤ -4) : Call (d + 1) qTe_work [vi c, vi x, vi y] M Q X = Q (vi (wrk c x y)) M := by
  rw [eTe_work, bTe_work_0]
  rcases (by omega : c = -11 ∨ c = -10 ∨ c = -9 ∨ c = -8 ∨ c = -7 ∨ c = -6 ∨ c = -5 ∨ c = -4) with rfl | rfl | rfl | rfl | rfl | rfl | rfl | rfl
  · show At d kTe_work 39 _ _ _ _ _ = _
    rw [bTe_work_39]; unfold wrk; simp
  · show At d kTe_work 35 _ _ _ _ _ = _
    rw [bTe_work_35]; unfold wrk; simp
  · show At d kTe_work 28 _ _ _ _ _ = _
    rw [bTe_work_28, bTe_work_31, bTe_work_33, bTe_work_34, bTe_work_34]; unfold wrk; simp
    by_cases h : x = y <;> simp [h]
  · show At d kTe_work 21 _ _ _ _ _ = _
    rw [bTe_work_21, bTe_work_24, bTe_work_26, bTe_work_27, bTe_work_27]; unfold wrk; simp
    by_cases h : x ≤ y
    · rw [if_pos h, if_neg (by omega)]
    · rw [if_neg h, if_pos (by omega)]
  · show At d kTe_work 14 _ _ _ _ _ = _
    rw [bTe_work_14, bTe_work_17, bTe_work_19, bTe_work_20, bTe_work_20]; unfold wrk; simp
    by_cases h : y ≤ x
    · rw [if_pos h, if_neg (by omega)]
    · rw [if_neg h, if_pos (by omega)]
  · show At d kTe_work 10 _ _ _ _ _ = _
    rw [bTe_work_10]; unfold wrk; simp
  · show At d kTe_work 6 _ _ _ _ _ = _
    rw [bTe_work_6]; unfold wrk; simp
  · show At d kTe_work 2 _ _ _ _ _ = _
    rw [bTe_work_2]; unfold wrk; simp
theorem t_holds {x y z v : Int} {cs : List Int} (hsz : M.1 6 tp 1 = (cs.length : Int)) (hlen : cs.length ≤ 500) (hc : Hc tp M 0 cs) (hx : xr x y z cs [] = [v]) (hh : hg cs 0 = some 1) (hcs : ∀ c ∈ cs, -12 ≤ c ∧ c ≤ 9999)
    (hq : ∀ M', Fs (pTe tp) M M' → Q (vi (if v ≠ 0 then 1 else 0)) M') : Call (d + 2) qTe_holds [vr 6 tp, vi x, vi y, vi z] M Q X := by
  rw [eTe_holds, bTe_holds_0]
  have main : ∀ (rest : List Int) (pre : List Int) (s : List Int) (M' : Mem) (z5 z6 : AV), cs = pre ++ rest → Fs (pTe tp) M M' → Stk tp M' s → hg rest s.length = some 1 → xr x y z rest s = [v] → At (d + 1) kTe_holds 5 [vr 6 tp, vi x, vi y, vi z, vi (pre.length : Int), z5, z6] [] M' Q X := by
    intro rest
    induction rest with
    | nil =>
      intro pre s M' z5 z6 he hf hs h1 h2
      rw [List.append_nil] at he
      have hs1 : s = [v] := h2
      subst hs1
      rw [bTe_holds_5, hf.g1 6 tp 1 (fun z => by omega), hsz, he, if_pos (by omega), bTe_holds_63]
      refine t_pop hs ?_
      intro M2 f2 s2
      rw [KV_eq, bTe_holds_65, bTe_holds_66, bTe_holds_68, bTe_holds_69, bTe_holds_69]
      have := hq M2 (hf.tr f2)
      by_cases hv : v = 0
      · rw [if_neg (by simp [hv])] at this; rw [if_pos hv]; exact this
      · rw [if_pos hv] at this; rw [if_neg hv]; exact this
    | cons c rest ih =>
      intro pre s M' z5 z6 he hf hs q1 h2
      have hl : cs.length = pre.length + (rest.length + 1) := by rw [he, List.length_append, List.length_cons]
      have hcell : M'.1 40 tp ((pre.length : Int)).toNat = c := by
        rw [hf.g1 40 tp _ (fun z => by omega)]
        have := hc pre.length (by omega)
        rw [Nat.zero_add] at this
        rw [show ((pre.length : Int)).toNat = pre.length by omega, this, he, List.getD_eq_getElem?_getD, List.getElem?_append_right (Nat.le_refl _)]
        simp
      have hcr := hcs c (by rw [he]; simp)
      have he2 : cs = (pre ++ [c]) ++ rest := by rw [he]; simp
      have hpl : ((pre ++ [c]).length : Int) = (pre.length : Int) + 1 := by simp
      have next : ∀ (M2 : Mem) (z5 z6 : AV), Fs (pTe tp) M M2 → Stk tp M2 (st1 x y z c s) → hg rest (st1 x y z c s).length = some 1 → At (d + 1) kTe_holds 61 [vr 6 tp, vi x, vi y, vi z, vi (pre.length : Int), z5, z6] [] M2 Q X := by
        intro M2 z5 z6 f2 s2 g2
        rw [bTe_holds_61, w32_id (by omega), ← hpl]
        exact ih (pre ++ [c]) _ M2 z5 z6 he2 f2 s2 g2 h2
      rw [bTe_holds_5, hf.g1 6 tp 1 (fun z => by omega), hsz, if_neg (by omega), bTe_holds_9 (by omega), hcell]
      have hpu : ∀ (v' : Int), -3 ≤ c → s.length < 60 ∧ hg rest (v' :: s).length = some 1 := by
        intro v' h3
        by_cases hl6 : s.length < 60
        · have e1 : h1 c s.length = some (s.length + 1) := by unfold h1; rw [if_pos h3, if_pos hl6]
          rw [hg, e1] at q1
          exact ⟨hl6, q1⟩
        · have e1 : h1 c s.length = none := by unfold h1; rw [if_pos h3, if_neg hl6]
          rw [hg, e1] at q1
          exact absurd q1 (by simp)
      have st (v' : Int) (h3 : -3 ≤ c) (e : st1 x y z c s = v' :: s) : ∀ M2, Fs (pTe tp) M' M2 → Stk tp M2 (v' :: s) → ∀ (z5 z6 : AV), At (d + 1) kTe_holds 61 [vr 6 tp, vi x, vi y, vi z, vi (pre.length : Int), z5, z6] [] M2 Q X := by
        intro M2 f2 s2 z5 z6
        exact next M2 z5 z6 (hf.tr f2) (by rw [e]; exact s2) (by rw [e]; exact (hpu v' h3).2)
      by_cases c0 : 0 ≤ c
      · rw [if_neg (by omega), bTe_holds_16]
        refine t_push hs (hpu c (by omega)).1 ?_
        intro M2 f2 s2
        rw [KU_eq, bTe_holds_19]
        exact st c (by omega) (by unfold st1; rw [if_pos c0]) M2 f2 s2 _ _
      rw [if_pos (by omega), bTe_holds_20]
      by_cases c1 : c = -1
      · rw [if_neg (by simpa using c1), bTe_holds_23]
        refine t_push hs (hpu x (by omega)).1 ?_
        intro M2 f2 s2
        rw [KU_eq, bTe_holds_26]
        exact st x (by omega) (by unfold st1; rw [if_neg c0, if_pos c1]) M2 f2 s2 _ _
      rw [if_pos c1, bTe_holds_27]
      by_cases c2 : c = -2
      · rw [if_neg (by simpa using c2), bTe_holds_30]
        refine t_push hs (hpu y (by omega)).1 ?_
        intro M2 f2 s2
        rw [KU_eq, bTe_holds_33]
        exact st y (by omega) (by unfold st1; rw [if_neg c0, if_neg c1, if_pos c2]) M2 f2 s2 _ _
      rw [if_pos c2, bTe_holds_34]
      by_cases c3 : c = -3
      · rw [if_neg (by simpa using c3), bTe_holds_37]
        refine t_push hs (hpu z (by omega)).1 ?_
        intro M2 f2 s2
        rw [KU_eq, bTe_holds_40]
        exact st z (by omega) (by unfold st1; rw [if_neg c0, if_neg c1, if_neg c2, if_pos c3]) M2 f2 s2 _ _
      rw [if_pos c3, bTe_holds_41]
      by_cases c4 : c = -12
      · have e1 : h1 c s.length = if 1 ≤ s.length then some s.length else none := by unfold h1; rw [if_neg (by omega), if_pos c4]
        rw [hg, e1] at q1
        cases s with
        | nil => exact absurd q1 (by simp)
        | cons a s =>
          rw [if_pos (by rw [List.length_cons]; omega)] at q1
          have e2 : st1 x y z c (a :: s) = w32 (1 - a) :: s := by unfold st1; rw [if_neg c0, if_neg c1, if_neg c2, if_neg c3, if_pos c4]
          rw [if_neg (by simpa using c4), bTe_holds_44]
          refine t_pop hs ?_
          intro M2 f2 s2
          have hl6 := hs.2.1
          rw [List.length_cons] at hl6
          rw [KV_eq, bTe_holds_48]
          refine t_push s2 (by omega) ?_
          intro M3 f3 s3
          rw [KU_eq, bTe_holds_50]
          exact next M3 _ _ ((hf.tr f2).tr f3) (by rw [e2]; exact s3) (by rw [e2]; exact q1)
      rw [if_pos c4]
      have e1 : h1 c s.length = if 2 ≤ s.length then some (s.length - 1) else none := by unfold h1; rw [if_neg (by omega), if_neg c4]
      rw [hg, e1] at q1
      cases s with
      | nil => exact absurd q1 (by simp)
      | cons b s =>
        cases s with
        | nil => exact absurd q1 (by simp)
        | cons a s =>
          rw [if_pos (by rw [List.length_cons, List.length_cons]; omega)] at q1
          have e2 : st1 x y z c (b :: a :: s) = wrk c a b :: s := by unfold st1; rw [if_neg c0, if_neg c1, if_neg c2, if_neg c3, if_neg c4]
          rw [bTe_holds_51]
          refine t_pop hs ?_
          intro M2 f2 s2
          have hl6 := hs.2.1
          rw [List.length_cons, List.length_cons] at hl6
          rw [KV_eq, bTe_holds_53]
          refine t_pop s2 ?_
          intro M3 f3 s3
          rw [KV_eq, bTe_holds_58, t_work (by omega), KV_eq, bTe_holds_60]
          refine t_push s3 (by omega) ?_
          intro M4 f4 s4
          rw [KU_eq]
          exact next M4 _ _ (((hf.tr f2).tr f3).tr f4) (by rw [e2]; exact s4) (by rw [e2]; exact q1)
  exact main cs [] [] _ _ _ rfl (Fs.rf.sI (by omega)) ⟨by rw [sI_eq]; rfl, by simp, fun j hj => absurd hj (by simp)⟩ hh hx
end
