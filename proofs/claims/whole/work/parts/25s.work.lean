/-! LAYER 3, THE CONDITIONS AT WORK IN THE CLASS -/
section
variable {d : Nat} {B : BT} {n : Nat} {T : TT} {Q : AV → Mem → Prop} {X : Nat → Mem → Prop}
theorem c_told {M : Mem} {tp : Nat} : Call (d + 1) qTe_isTold [vr 6 tp] M Q X = Q (vi (if M.1 6 tp 1 ≤ 0 then 0 else 1)) M := by
  rw [eTe_isTold, bTe_isTold_0]
  split
  · rw [bTe_isTold_5, bTe_isTold_6]; rfl
  · rw [bTe_isTold_3, bTe_isTold_6]; rfl
theorem c_cond {M : Mem} {tp k0 : Nat} {r : Rd} (hn : n ≤ 500) (hT : TG B n T) (hA : TA T M) (ht : tp < 2) (hTi : T tp = some (k0, r)) {x y z : Int} : 1 ≤ M.1 6 tp 1 ∧ ((∀ M', Fs (pTe tp) M M' → Q (vi (if r.2 x y z ≠ 0 then 1 else 0)) M') → Call (d + 2) qTe_holds [vr 6 tp, vi x, vi y, vi z] M Q X) := by
  obtain ⟨hk0, k', hp⟩ := hT tp k0 r hTi
  have hg := (px_gd B n hn _ _ _ _ _ _ _ (by omega) hk0 hp).1 (by omega)
  have ha := hA tp ht
  rw [hTi] at ha
  obtain ⟨⟨a1, a2⟩, a3, a4⟩ := ha
  have hl := hg.2.1
  refine ⟨by omega, fun hq => ?_⟩
  exact t_holds a3 (by omega) a4 (hg.2.2.1 x y z []) (hg.2.2.2.1 0 (by omega)) hg.2.2.2.2.2 hq
abbrev pW1 (q t i j : Nat) : Prop := (t = 6 ∧ i < 2 ∧ j = 3) ∨ (t = 41 ∧ i < 2) ∨ (t = 38 ∧ i = 4 ∧ j = q)
abbrev pWc (t i j : Nat) : Prop := (t = 6 ∧ i < 2 ∧ j = 3) ∨ (t = 41 ∧ i < 2) ∨ ((t = 37 ∨ t = 38) ∧ i = 4)
def nx9 (k : Nat) : Int := if k = 0 then 9 else (k : Int)
theorem c_leaf1 {M : Mem} {w o k : Nat} {z4 : AV} (hn : n ≤ 500) (hT : TG B n T) (hA : TA T M) (hw : 1 ≤ w ∧ w ≤ 6) (ho : 1 ≤ o ∧ o ≤ 4) (hk : k < 5)
    (hq : ∀ M' z4, Fs (pW1 (w * 25 + (o * 5 + k))) M M' → M'.1 38 4 (w * 25 + (o * 5 + k)) = lvT T w o (nx9 k) → At (d + 2) kRe_workConditions 12 [vr 5 0, vi (w : Int), vi (o : Int), vi ((k : Int) + 1), z4] [] M' Q X) :
    At (d + 2) kRe_workConditions 12 [vr 5 0, vi (w : Int), vi (o : Int), vi (k : Int), z4] [] M Q X := by
  have e20 : ∀ z4, At (d + 2) kRe_workConditions 20 [vr 5 0, vi (w : Int), vi (o : Int), vi (k : Int), z4] [vi (nx9 k)] M Q X := by
    intro z4
    have es : spl (o : Int) (nx9 k) = ((o * 5 + k : Nat) : Int) := by unfold spl nx9; split <;> split <;> omega
    have ei : w32 (w32 ((w : Int) * 25) + ((o * 5 + k : Nat) : Int)) = ((w * 25 + (o * 5 + k) : Nat) : Int) := by rw [w32_id (z := (w : Int) * 25) (by omega), w32_id (by omega)]; omega
    rw [bRe_workConditions_20, c_stepsPlace, KV_eq, es, bRe_workConditions_30, c_told, KV_eq, ei, bRe_workConditions_34]
    have ek : w32 ((k : Int) + 1) = (k : Int) + 1 := w32_id (by omega)
    have en : ((w * 25 + (o * 5 + k) : Nat) : Int).toNat = w * 25 + (o * 5 + k) := by omega
    cases hTi : T 1 with
    | none =>
      have ha := (hA 1 (by omega)).2
      rw [hTi] at ha
      have ha1 : M.1 6 1 1 = 0 := ha
      rw [ha1, if_pos (Int.le_refl _), if_pos rfl, bRe_workConditions_42, bRe_workConditions_45 (by omega), ek, en]
      refine hq _ _ (Fs.rf.sI (by omega)) ?_
      rw [sI_eq]; unfold lvT; rw [hTi]; rfl
    | some x =>
      obtain ⟨k0, r⟩ := x
      have hcd := c_cond (d := d) (Q := KV (d + 2) kRe_workConditions 41 [vr 5 0, vi (w : Int), vi (o : Int), vi (k : Int), vi (nx9 k)] [vi ((w * 25 + (o * 5 + k) : Nat) : Int), vr 38 4] Q X) (X := X) hn hT hA (show 1 < 2 by omega) hTi (x := (o : Int)) (y := nx9 k) (z := (w : Int))
      rw [if_neg (by omega), bRe_workConditions_35]
      refine hcd.2 ?_
      intro M2 f2
      have elv : lvT T w o (nx9 k) = if r.2 o (nx9 k) w ≠ 0 then 1 else 0 := by unfold lvT; rw [hTi]
      rw [KV_eq, bRe_workConditions_41]
      have f2' : Fs (pW1 (w * 25 + (o * 5 + k))) M M2 := Fs.mono (fun t i j z => by omega) f2
      by_cases hv : r.2 o (nx9 k) w = 0
      · have ev : (if r.2 o (nx9 k) w ≠ 0 then (1 : Int) else 0) = 0 := if_neg (fun z => z hv)
        rw [ev] at elv ⊢
        rw [if_pos rfl, bRe_workConditions_44, bRe_workConditions_45 (by omega), ek, en]
        refine hq _ _ (f2'.sI (by omega)) ?_
        rw [sI_eq, elv]; rfl
      · have ev : (if r.2 o (nx9 k) w ≠ 0 then (1 : Int) else 0) = 1 := if_pos hv
        rw [ev] at elv ⊢
        rw [if_neg (by omega), bRe_workConditions_42, bRe_workConditions_45 (by omega), ek, en]
        refine hq _ _ (f2'.sI (by omega)) ?_
        rw [sI_eq, elv]; rfl
  rw [bRe_workConditions_12, if_neg (by omega), bRe_workConditions_15]
  by_cases hk0 : k = 0
  · rw [if_neg (by omega), bRe_workConditions_17]
    have := e20 z4
    unfold nx9 at this
    rw [if_pos hk0] at this
    exact this
  · rw [if_pos (by omega), bRe_workConditions_19]
    have := e20 z4
    unfold nx9 at this
    rw [if_neg hk0] at this
    exact this
def Lvd (T : TT) (M : Mem) (w o k : Int) (M' : Mem) : Prop := Fs pWc M M' ∧ (∀ j, M'.1 37 4 j = M.1 37 4 j) ∧ (∀ j, M'.1 38 4 j = M.1 38 4 j ∨ M'.1 38 4 j = 0 ∨ M'.1 38 4 j = 1) ∧ ∀ w' o' k' : Nat, 1 ≤ w' → w' ≤ 6 → 1 ≤ o' → o' ≤ 4 → k' < 5 → ((w' : Int) < w ∨ ((w' : Int) = w ∧ ((o' : Int) < o ∨ ((o' : Int) = o ∧ (k' : Int) < k)))) → M'.1 38 4 (w' * 25 + (o' * 5 + k')) = lvT T w' o' (nx9 k')
theorem TA.wc {T : TT} {M M' : Mem} (h : TA T M) (hf : Fs pWc M M') : TA T M' := h.fr (fun i hi => hf.g1 6 i 1 (by omega)) (fun i j hi => hf.g1 40 i j (by omega))
theorem lvT_01 {T : TT} {a b c : Int} : lvT T a b c = 0 ∨ lvT T a b c = 1 := by
  unfold lvT
  cases T 1 with
  | none => exact Or.inr rfl
  | some x =>
    dsimp only
    by_cases h : x.2.2 b c a = 0
    · exact Or.inl (if_neg (by simpa using h))
    · exact Or.inr (if_pos h)
theorem c_leaves {M : Mem} {z2 z3 z4 : AV} (hn : n ≤ 500) (hT : TG B n T) (hA : TA T M) (hq : ∀ M' z1 z2 z3 z4, Lvd T M 7 0 0 M' → At (d + 2) kRe_workConditions 52 [vr 5 0, z1, z2, z3, z4] [] M' Q X) :
    At (d + 2) kRe_workConditions 2 [vr 5 0, vi 1, z2, z3, z4] [] M Q X := by
  refine loop_up (fun (x : Int) (M' : Mem) => ∀ z2 z3 z4, At (d + 2) kRe_workConditions 2 [vr 5 0, vi x, z2, z3, z4] [] M' Q X) (fun x M' => Lvd T M x 0 0 M') 1 7 ?_ ?_ 1 M (Int.le_refl _) (by omega) ⟨Fs.rf, fun _ => rfl, fun _ => Or.inl rfl, fun w' o' k' _ _ _ _ _ z => by omega⟩ _ _ _
  · intro M' h z2 z3 z4
    rw [bRe_workConditions_2, if_pos (by omega)]
    exact hq _ _ _ _ _ h
  intro w M1 hw1 hw2 h1 hk1 z2 z3 z4
  obtain ⟨wn, rfl⟩ : ∃ wn : Nat, w = (wn : Int) := ⟨w.toNat, by omega⟩
  rw [bRe_workConditions_2, if_neg (by omega), bRe_workConditions_5]
  refine loop_up (fun (x : Int) (M' : Mem) => ∀ z3 z4, At (d + 2) kRe_workConditions 7 [vr 5 0, vi (wn : Int), vi x, z3, z4] [] M' Q X) (fun x M' => Lvd T M wn x 0 M') 1 5 ?_ ?_ 1 M1 (Int.le_refl _) (by omega) ⟨h1.1, h1.2.1, h1.2.2.1, fun w' o' k' a1 a2 a3 a4 a5 z => h1.2.2.2 w' o' k' a1 a2 a3 a4 a5 (by omega)⟩ _ _
  · intro M' h z3 z4
    rw [bRe_workConditions_7, if_pos (by omega), bRe_workConditions_50, w32_id (by omega)]
    exact hk1 _ ⟨h.1, h.2.1, h.2.2.1, fun w' o' k' a1 a2 a3 a4 a5 z => h.2.2.2 w' o' k' a1 a2 a3 a4 a5 (by omega)⟩ _ _ _
  intro o M2 ho1 ho2 h2 hk2 z3 z4
  obtain ⟨on, rfl⟩ : ∃ on : Nat, o = (on : Int) := ⟨o.toNat, by omega⟩
  rw [bRe_workConditions_7, if_neg (by omega), bRe_workConditions_10]
  refine loop_up (fun (x : Int) (M' : Mem) => ∀ z4, At (d + 2) kRe_workConditions 12 [vr 5 0, vi (wn : Int), vi (on : Int), vi x, z4] [] M' Q X) (fun x M' => Lvd T M wn on x M') 0 5 ?_ ?_ 0 M2 (Int.le_refl _) (by omega) ⟨h2.1, h2.2.1, h2.2.2.1, fun w' o' k' a1 a2 a3 a4 a5 z => h2.2.2.2 w' o' k' a1 a2 a3 a4 a5 (by omega)⟩ _
  · intro M' h z4
    rw [bRe_workConditions_12, if_pos (by omega), bRe_workConditions_48, w32_id (by omega)]
    exact hk2 _ ⟨h.1, h.2.1, h.2.2.1, fun w' o' k' a1 a2 a3 a4 a5 z => h.2.2.2 w' o' k' a1 a2 a3 a4 a5 (by omega)⟩ _ _
  intro k M3 hk01 hk02 h3 hk3 z4
  obtain ⟨kn, rfl⟩ : ∃ kn : Nat, k = (kn : Int) := ⟨k.toNat, by omega⟩
  refine c_leaf1 hn hT (hA.wc h3.1) (by omega) (by omega) (by omega) ?_
  intro M4 z4 f4 v4
  refine hk3 _ ⟨h3.1.tr (Fs.mono (fun t i j z => by omega) f4), ?_, ?_, ?_⟩ _
  · intro j; rw [f4.g1 37 4 j (by omega)]; exact h3.2.1 j
  · intro j
    by_cases e : j = wn * 25 + (on * 5 + kn)
    · rw [e, v4]; exact Or.inr lvT_01
    · rw [f4.g1 38 4 j (by omega)]; exact h3.2.2.1 j
  · intro w' o' k' a1 a2 a3 a4 a5 z
    by_cases e : w' = wn ∧ o' = on ∧ k' = kn
    · obtain ⟨rfl, rfl, rfl⟩ := e; exact v4
    · rw [f4.g1 38 4 _ (by omega)]
      exact h3.2.2.2 w' o' k' a1 a2 a3 a4 a5 (by omega)
end
