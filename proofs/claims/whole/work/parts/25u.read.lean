/-! LAYER 3, THE CLASS HAS READ: sell, and all -/
section
variable {d : Nat} {B : BT} {n : Nat} {D : RT} {T : TT} {Q : AV → Mem → Prop} {X : Nat → Mem → Prop}
theorem slT_01 {T : TT} {a b c : Int} : slT T a b c = 0 ∨ slT T a b c = 1 := by
  unfold slT
  cases T 0 with
  | none => exact Or.inl rfl
  | some x =>
    dsimp only
    by_cases h : x.2.2 a b c = 0
    · exact Or.inl (if_neg (fun z => z h))
    · exact Or.inr (if_pos h)
theorem DA.wc {D : RT} {M M' : Mem} (h : DA D M) (hf : Fs pWc M M') : DA D M' := fun t j ht => by rw [hf.g1 t 4 j (by omega)]; exact h t j ht
theorem c_sells {M : Mem} {b : Int} {z3 z4 : AV} (hn : n ≤ 500) (hT : TG B n T) (hA : TA T M) (hD : DA D M) (hW : WD D) (hb : 0 ≤ b ∧ b ≤ 100000)
    (hq : ∀ M', Fs pWc M M' → (∀ j, M'.1 38 4 j = M.1 38 4 j) → (∀ s : Nat, M'.1 37 4 s = if (s : Int) < D 4 1 then slT T (D 33 s) (nxt b s) (D 4 2) else M.1 37 4 s) → Q (vi 0) M') :
    At (d + 2) kRe_workConditions 58 [vr 5 0, vi b, vi 0, z3, z4] [] M Q X := by
  have hs3 := hW.1.1
  refine loop_up (fun (x : Int) (M' : Mem) => ∀ z3 z4, At (d + 2) kRe_workConditions 58 [vr 5 0, vi b, vi x, z3, z4] [] M' Q X) (fun x M' => Fs pWc M M' ∧ (∀ j, M'.1 38 4 j = M.1 38 4 j) ∧ ∀ s : Nat, M'.1 37 4 s = if (s : Int) < x then slT T (D 33 s) (nxt b s) (D 4 2) else M.1 37 4 s) 0 (D 4 1) ?_ ?_ 0 M (Int.le_refl _) hs3.1 ⟨Fs.rf, fun _ => rfl, fun s => by rw [if_neg (by omega)]⟩ _ _
  · intro M' ⟨h1, h2, h3⟩ z3 z4
    have e41 : M'.1 4 4 1 = D 4 1 := (hD.wc h1) 4 1 (by omega)
    rw [bRe_workConditions_58, e41, if_pos (Int.le_refl _), bRe_workConditions_95]
    exact hq M' h1 h2 h3
  intro x M1 hx0 hx1 ⟨h1, h2, h3⟩ hk z3 z4
  obtain ⟨i, rfl⟩ : ∃ i : Nat, x = (i : Int) := ⟨x.toNat, by omega⟩
  have hD1 := hD.wc h1
  have hA1 := hA.wc h1
  have e41 : M1.1 4 4 1 = D 4 1 := hD1 4 1 (by omega)
  have e33 : M1.1 33 4 i = D 33 i := hD1 33 i (by omega)
  have ek : w32 ((i : Int) + 1) = (i : Int) + 1 := w32_id (by omega)
  have en : ((i : Int)).toNat = i := by omega
  have fin : ∀ (M2 : Mem) (z3 z4 : AV), Fs (pTe 0) M1 M2 → At (d + 2) kRe_workConditions 58 [vr 5 0, vi b, vi ((i : Int) + 1), z3, z4] [] (sI M2 37 4 i (slT T (D 33 i) (nxt b i) (D 4 2))) Q X := by
    intro M2 z3 z4 f2
    have f2' : Fs pWc M1 M2 := Fs.mono (fun t i j z => by omega) f2
    refine hk _ ⟨(h1.tr f2').sI (by omega), ?_, ?_⟩ _ _
    · intro j; rw [sI_ne (by omega), f2.g1 38 4 j (by omega)]; exact h2 j
    · intro s
      by_cases e : s = i
      · subst e; rw [sI_eq, if_pos (by omega)]
      · rw [sI_ne (by omega), f2.g1 37 4 s (by omega), h3 s]
        by_cases e2 : (s : Int) < (i : Int)
        · rw [if_pos e2, if_pos (by omega)]
        · rw [if_neg e2, if_neg (by omega)]
  rw [bRe_workConditions_58, e41, if_neg (by omega), bRe_workConditions_63, if_neg (by omega), bRe_workConditions_66, c_told, KV_eq, bRe_workConditions_73]
  cases hTi : T 0 with
  | none =>
    have ha := (hA1 0 (by omega)).2
    rw [hTi] at ha
    have ha1 : M1.1 6 0 1 = 0 := ha
    have esl : slT T (D 33 i) (nxt b i) (D 4 2) = 0 := by unfold slT; rw [hTi]
    rw [ha1, if_pos (Int.le_refl _), if_pos rfl, bRe_workConditions_91, bRe_workConditions_92 (by omega), ek, en]
    have := fin M1 z3 z4 Fs.rf
    rw [esl] at this
    exact this
  | some x =>
    obtain ⟨k0, r⟩ := x
    have hcd := c_cond (d := d) (Q := KV (d + 2) kRe_workConditions 88 [vr 5 0, vi b, vi (i : Int), z3, z4] [vi (i : Int), vr 37 4] Q X) (X := X) hn hT hA1 (show 0 < 2 by omega) hTi (x := D 33 i) (y := nxt b i) (z := D 4 2)
    rw [if_neg (by omega), bRe_workConditions_74 (by omega), c_nextIn hb, KV_eq, en, e33, bRe_workConditions_84, show M1.1 4 4 2 = D 4 2 from hD1 4 2 (by omega)]
    refine hcd.2 ?_
    intro M2 f2
    have esl : slT T (D 33 i) (nxt b i) (D 4 2) = if r.2 (D 33 i) (nxt b i) (D 4 2) ≠ 0 then 1 else 0 := by unfold slT; rw [hTi]
    have fi := fin M2 z3 z4 f2
    rw [esl] at fi
    rw [KV_eq, bRe_workConditions_88]
    by_cases hv : r.2 (D 33 i) (nxt b i) (D 4 2) = 0
    · have ev : (if r.2 (D 33 i) (nxt b i) (D 4 2) ≠ 0 then (1 : Int) else 0) = 0 := if_neg (fun z => z hv)
      rw [ev] at fi ⊢
      rw [if_pos rfl, bRe_workConditions_91, bRe_workConditions_92 (by omega), ek, en]
      exact fi
    · have ev : (if r.2 (D 33 i) (nxt b i) (D 4 2) ≠ 0 then (1 : Int) else 0) = 1 := if_pos hv
      rw [ev] at fi ⊢
      rw [if_neg (by omega), bRe_workConditions_89, bRe_workConditions_92 (by omega), ek, en]
      exact fi
/-- what the class has of a text without a fault -/
def RDd (D : RT) (T : TT) (R : RT) : Prop := WR R ∧ (∀ t j : Nat, (t = 4 ∧ 1 ≤ j ∧ j ≤ 7) ∨ ((t = 33 ∨ t = 34) ∧ j < 3) ∨ ((t = 35 ∨ t = 36) ∧ j < 15) → R t j = D t j) ∧ (∀ w o k : Nat, 1 ≤ w → w ≤ 6 → 1 ≤ o → o ≤ 4 → k < 5 → R 38 (w * 25 + (o * 5 + k)) = lvT T w o (nx9 k)) ∧ ∀ s : Nat, s < 3 → R 37 s = if (s : Int) < D 4 1 then slT T (D 33 s) (nxt (bgn R) s) (D 4 2) else 0
theorem c_work {M : Mem} (hn : n ≤ 500) (hT : TG B n T) (hA : TA T M) (hD : DA D M) (hW : WD D) (h7 : ∀ s : Nat, s < 3 → M.1 37 4 s = 0) (h8 : ∀ j : Nat, j < 175 → M.1 38 4 j = 0 ∨ M.1 38 4 j = 1)
    (hq : ∀ M', Fs pWc M M' → RDd D T (rd M' 4) → Q (vi 0) M') : Call (d + 3) qRe_workConditions [vr 5 0] M Q X := by
  rw [eRe_workConditions, bRe_workConditions_0]
  refine c_leaves hn hT hA ?_
  intro M1 z1 z2 z3 z4 ⟨f1, v7, v8, vl⟩
  have g7 : ∀ s : Nat, s < 3 → M1.1 37 4 s = 0 := fun s hs => by rw [v7 s]; exact h7 s hs
  have g8 : ∀ j : Nat, j < 175 → M1.1 38 4 j = 0 ∨ M1.1 38 4 j = 1 := by
    intro j hj
    rcases v8 j with e | e | e
    · rw [e]; exact h8 j hj
    · exact Or.inl e
    · exact Or.inr e
  have hD1 := hD.wc f1
  have hWR := wr_of hW hD1 (fun s hs => Or.inl (g7 s hs)) g8
  have hbR := bgo_R hWR (rd M1 4 4 1)
  rw [bRe_workConditions_52, c_beginning hWR, KV_eq, bRe_workConditions_55]
  refine c_sells hn hT (hA.wc f1) hD1 hW ⟨hbR.1, by have : bgn (rd M1 4) = bgo (rd M1 4) (rd M1 4 4 1) := rfl; omega⟩ ?_
  intro M2 f2 w8 w7
  have hD2 := hD1.wc f2
  refine hq M2 (f1.tr f2) ⟨?_, ?_, ?_, ?_⟩
  · refine wr_of hW hD2 (fun s hs => ?_) (fun j hj => by rw [w8 j]; exact g8 j hj)
    rw [w7 s]
    split
    · exact slT_01
    · exact Or.inl (g7 s hs)
  · intro t j ht
    unfold rd; rw [if_pos (by omega)]; exact hD2 t j ht
  · intro w o k a1 a2 a3 a4 a5
    unfold rd; rw [if_pos (by omega), w8]; exact vl w o k a1 a2 a3 a4 a5 (by omega)
  · intro s hs
    have eb : bgn (rd M2 4) = bgn (rd M1 4) := by
      have r4 : rd M2 4 4 1 = rd M1 4 4 1 := by unfold rd; rw [if_pos (by omega), if_pos (by omega), f2.g1 4 4 1 (by omega)]
      have r3 : ∀ j, rd M2 4 33 j = rd M1 4 33 j := fun j => by unfold rd; rw [if_pos (by omega), if_pos (by omega), f2.g1 33 4 j (by omega)]
      unfold bgn bgo; rw [r4, r3 0, r3 1, r3 2]
    rw [eb]
    have : rd M2 4 37 s = M2.1 37 4 s := by unfold rd; rw [if_pos (by omega)]
    rw [this, w7 s, g7 s hs]
/-- THE CLASS READS A TEXT -/
abbrev pRe (t i j : Nat) : Prop := (t = 5 ∧ i = 0) ∨ (t = 4 ∧ i = 4 ∧ 1 ≤ j) ∨ (33 ≤ t ∧ t ≤ 38 ∧ i = 4) ∨ ((t = 6 ∨ t = 40 ∨ t = 41) ∧ i < 2)
theorem c_read {M : Mem} (hn : n ≤ 500) (hB : ∀ j : Nat, j < n → M.1 39 0 j = B j) (h6 : M.1 5 0 6 = 0 ∨ M.1 5 0 6 = 1) (h8 : ∀ j : Nat, j < 175 → M.1 38 4 j = 0 ∨ M.1 38 4 j = 1)
    (h1 : ∀ e M', txt B n = .inl e → Fs pRe M M' → M'.1 5 0 2 = 0 → (M'.1 5 0 6 = 0 ∨ M'.1 5 0 6 = 1) → (∀ j : Nat, j < 175 → M'.1 38 4 j = 0 ∨ M'.1 38 4 j = 1) → e.1 ≠ 0 → M'.1 5 0 1 = e.2 → Q (vi e.1) M')
    (h2 : ∀ D T M', txt B n = .inr (D, T) → Fs pRe M M' → M'.1 5 0 2 = 0 → (M'.1 5 0 6 = 0 ∨ M'.1 5 0 6 = 1) → (∀ j : Nat, j < 175 → M'.1 38 4 j = 0 ∨ M'.1 38 4 j = 1) → M'.1 5 0 1 = -1 → RDd D T (rd M' 4) → Q (vi 0) M') : Call (d + 56) qRe_read [vr 5 0, vi (n : Int)] M Q X := by
  refine c_readHead hn hB h6 ?_
  intro M1 z1 z2 f1 r1 g2 g7
  have f1' : Fs pRe M M1 := Fs.mono (fun t i j z => by omega) f1
  have g8 : ∀ j : Nat, j < 175 → M1.1 38 4 j = 0 ∨ M1.1 38 4 j = 1 := fun j hj => by rw [f1.g1 38 4 j (by omega)]; exact h8 j hj
  rw [bRe_read_55]
  cases ht : txt B n with
  | inl e =>
    rw [ht] at r1
    obtain ⟨r2, tp, r3, r4, r5⟩ := r1
    obtain ⟨k, hk⟩ := r3
    rw [if_pos (by rw [r4]; exact r2), bRe_read_60, r4]
    have := hk.2.2.2.1
    have := hk.2.2.2.2.1
    exact h1 e M1 ht f1' g2 (by omega) g8 r2 r5
  | inr x =>
    obtain ⟨D, T⟩ := x
    rw [ht] at r1
    obtain ⟨k, hc⟩ := r1
    have hw := txt_wd hn ht
    obtain ⟨⟨k1, k2, k3, k4, k5, k6⟩, k7, k8⟩ := hc
    rw [if_neg (by rw [k4]; exact fun z => z rfl), bRe_read_58]
    refine Call_up (d := d + 3) (by omega) (c_work hn hw.2.1 k8 k7 hw.1 g7 g8 ?_)
    intro M2 f2 r2
    rw [KU_eq, bRe_read_60, f2.g1 5 0 9 (by omega), k4]
    refine h2 D T M2 ht (f1'.tr (Fs.mono (fun t i j z => by omega) f2)) (by rw [f2.g1 5 0 2 (by omega)]; exact g2) (by rw [f2.g1 5 0 6 (by omega)]; exact k6) ?_ (by rw [f2.g1 5 0 1 (by omega)]; exact k5) r2
    intro j hj
    have := r2.1.2.2.2.2.2.2.2.2.2.2.2.2.1 j hj
    unfold rd at this
    rw [if_pos (by omega)] at this
    exact this
end
