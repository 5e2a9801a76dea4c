/-! LAYER 3, THE REFERENCE WORKS A CONDITION OUT -/
section
variable {d : Nat} {B : BT} {n : Nat} {M : Mem} {Q : AV → Mem → Prop} {X : Nat → Mem → Prop}
theorem MR.j38 {R : RT} {v : Int} (h : MR R M) : MR R (sI M 10 0 38 v) := by
  obtain ⟨a1, a2, a3, a4, a5, a6, a7, a8⟩ := h
  refine ⟨?_, ?_, ?_, ?_, ?_, ?_, fun s h1 h2 => ?_, fun s e h1 h2 h3 h4 => ?_⟩
  · rw [sI_ne (by omega)]; exact a1
  · rw [sI_ne (by omega)]; exact a2
  · rw [sI_ne (by omega)]; exact a3
  · rw [sI_ne (by omega)]; exact a4
  · rw [sI_ne (by omega)]; exact a5
  · rw [sI_ne (by omega)]; exact a6
  · rw [sI_ne (by omega), sI_ne (by omega)]; exact a7 s h1 h2
  · rw [sI_ne (by omega), sI_ne (by omega)]; exact a8 s e h1 h2 h3 h4
theorem m_holds {R : RT} {x2 w p b s : Int} {k0 : Nat} {r : Rd} {k' : Nat} (hn : n ≤ 500) (hM : MR R M) (hW : WR R) (hS : Sta R p b) (h11 : M.1 10 0 11 = (n : Int)) (hB : ∀ j : Nat, j < n → M.1 55 0 j = B j) (hk0 : k0 ≤ n) (hp : px B n (pxF n) 5 0 k0 rd0 = .inr (r, k'))
    (hq : ∀ M', Fs pHo M M' → Q (vi (if r.2 (dg p s) (nxm p b s) w ≠ 0 then 1 else 0)) M') : Call (d + 54) qMo_holds [vr 10 0, vi (k0 : Int), vi x2, vi w, vi p, vi b, vi s] M Q X := by
  rw [eMo_holds, bMo_holds_0, if_pos (by omega), bMo_holds_5, m_stepsOf hS.1, KV_eq, bMo_holds_9, m_nextOf hM.j38 hW hS, KV_eq, bMo_holds_16]
  have e11 : (sI (sI (sI (sI M 10 0 38 (dg p s)) 10 0 39 (nxm p b s)) 10 0 40 w) 10 0 8 1).1 10 0 11 = (n : Int) := by
    rw [sI_ne (by omega), sI_ne (by omega), sI_ne (by omega), sI_ne (by omega)]; exact h11
  rw [e11]
  have hm : ∀ M', M' = sI (sI (sI (sI (sI (sI (sI (sI M 10 0 38 (dg p s)) 10 0 39 (nxm p b s)) 10 0 40 w) 10 0 8 1) 10 0 2 (n : Int)) 10 0 4 (k0 : Int)) 10 0 5 0) 10 0 6 0 → Fs pHo M M' ∧ MSt B n M' k0 0 ∧ M'.1 10 0 38 = dg p s ∧ M'.1 10 0 39 = nxm p b s ∧ M'.1 10 0 40 = w := by
    intro M' e
    have f1 : Fs pHo M M' := by
      rw [e]; repeat (first | exact Fs.rf | refine Fs.sI ?_ (by omega))
    have e8 : M'.1 10 0 8 = 1 := by rw [e]; repeat (first | exact sI_eq | rw [sI_ne (by omega)])
    refine ⟨f1, ⟨⟨?_, hn, ?_⟩, ?_, hk0, ?_, ?_⟩, ?_, ?_, ?_⟩
    · rw [e]; repeat (first | exact sI_eq | rw [sI_ne (by omega)])
    · intro j hj; rw [e8, if_neg (by omega), f1.g1 55 0 j (by omega)]; exact hB j hj
    all_goals (rw [e]; repeat (first | exact sI_eq | rw [sI_ne (by omega)]))
  generalize hM1 : sI (sI (sI (sI (sI (sI (sI (sI M 10 0 38 (dg p s)) 10 0 39 (nxm p b s)) 10 0 40 w) 10 0 8 1) 10 0 2 (n : Int)) 10 0 4 (k0 : Int)) 10 0 5 0) 10 0 6 0 = M1
  obtain ⟨f1, c1, e38, e39, e40⟩ := hm M1 hM1.symm
  clear hm hM1
  have hrk : rk 5 < 100 := by decide
  have hpx := px_fuel B n hn (pxF n) 5 0 k0 rd0 (by omega) (by omega) hk0 (by unfold pxF; omega)
  have hg := (mgr B n hn (pxF n) 5 0 k0 rd0 (by omega) hk0 hpx).2.2.2.2.2.1 rfl
  have hgd := ((px_gd B n hn _ _ _ _ _ _ _ (by omega) hk0 hp).1 (by omega)).2.2.2.2.1 (by omega) (dg p s) (nxm p b s) w
  refine Call_up (d := dp 5 0) (by unfold dp; omega) (hg _ _ _ c1 ?_)
  intro M2 v ho
  rw [hp] at ho
  obtain ⟨f2, g1, g2, g3⟩ := ho
  rw [e38, e39, e40] at g3
  rw [KV_eq, bMo_holds_38, g3]
  have := hq M2 (f1.tr (Fs.mono (fun t i j z => by omega) f2))
  rcases hgd with e | e
  · rw [e] at this ⊢; exact this
  · rw [e] at this ⊢; exact this
end
