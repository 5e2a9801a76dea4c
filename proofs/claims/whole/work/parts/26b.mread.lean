/-! LAYER 3, THE REFERENCE READS A TEXT -/
def ME (B : BT) (n : Nat) (M : Mem) (res : (Int × Int) ⊕ (RT × TT)) (M' : Mem) : Prop := Fs pMc M M' ∧ match res with
  | .inl e => e.1 ≠ 0 ∧ MF B n e.1 e.2 M'
  | .inr (D, T) => ∃ k, MK B n D T M' k
section
variable {d : Nat} {B : BT} {n : Nat} {Q : AV → Mem → Prop} {X : Nat → Mem → Prop}
theorem m_readLoop {z1 : AV} : ∀ (f : Nat) (D : RT) (T : TT) (M : Mem) (k i : Nat), MK B n D T M k → blk B n k = k → WD D → TG B n T → D 4 7 = (i : Int) → i ≤ k → n < f + k → (∀ M', ME B n M (cls B n (f + 1) D T k) M' → Q (vi 0) M') →
    At (d + 54) kMo_readAll 44 [vr 10 0, z1] [] M Q X := by
  intro f
  induction f with
  | zero =>
    intro D T M k i hc _ _ _ _ _ hf
    have := hc.1.2.2.1
    omega
  | succ f ih =>
    intro D T M k i hc hb hD hT h7 hi hf hq
    have hn := hc.1.1.2.1
    have hk := hc.1.2.2.1
    rw [bMo_readAll_44, if_neg (by rw [hc.1.2.2.2.1]; omega), bMo_readAll_47, hc.1.1.1, hc.1.2.1]
    by_cases hlt : k < n
    · rw [if_neg (by omega), bMo_readAll_52]
      refine m_clause hn hb hc hD (by omega) ?_
      intro M2 r2
      rw [KU_eq, bMo_readAll_54]
      cases hcl : cl2 B n D T k with
      | inl e =>
        have r22 := r2.2
        rw [hcl] at r22
        obtain ⟨ha, c2⟩ := r22
        obtain ⟨eb, hbk⟩ := FMx.bl (d := d + 52) (Q := KU (d + 54) kMo_readAll 56 [vr 10 0, z1] [] Q X) (X := X) c2 (by omega)
        have c3 := FMx.at c2 hbk
        have h6 : ∀ v, (sI M2 10 0 4 v).1 10 0 6 ≠ 0 := fun v => by rw [sI_ne (by omega), c2.2.2.1]; exact ha
        rw [eb, KU_eq, bMo_readAll_56, bMo_readAll_44, if_pos (h6 _), bMo_readAll_57, if_pos (h6 _), bMo_readAll_68]
        refine hq _ ⟨r2.1.sI (by omega), ?_⟩
        rw [cls, if_pos hlt, hcl]; exact ⟨ha, c3⟩
      | inr x =>
        obtain ⟨⟨D', T'⟩, k1⟩ := x
        have r22 := r2.2
        rw [hcl] at r22
        have c2 : MK B n D' T' M2 k1 := r22
        have hk1 := c2.1.2.2.1
        have hb1 := blk_le (B := B) hk1
        rw [m_blanks c2.1.1 c2.1.2.1 (by omega), KU_eq, bMo_readAll_56]
        have hx : WD D' ∧ TG B n T' ∧ D' 4 7 = ((i + 1 : Nat) : Int) ∧ i + 1 ≤ k1 ∧ k + 1 ≤ k1 := by
          unfold cl2 at hcl
          split at hcl
          · cases hcl
          · rename_i D3 T3 k3 h3
            have hw := cl1_wd hk hD hT h3
            have ho := cl1_ok hn hk hD.1.1.1 h3
            have hb3 := blk_le (B := B) ho.2.1
            split at hcl
            · cases hcl
              exact ⟨hw.1.set (by omega) (by omega), hw.2, by rw [sD_eq]; omega, by omega, by omega⟩
            · cases hcl
        refine ih D' T' _ _ (i + 1) (c2.at hb1.2) blk_blk hx.1 hx.2.1 hx.2.2.1 (by omega) (by omega) ?_
        intro M3 r3
        refine hq M3 ⟨(r2.1.sI (by omega)).tr r3.1, ?_⟩
        rw [cls, if_pos hlt, hcl]; exact r3.2
    · rw [if_pos (by omega), bMo_readAll_57, if_neg (by rw [hc.1.2.2.2.1]; omega), bMo_readAll_60, hc.2.2.1.1.1]
      by_cases h0 : D 4 1 = 0
      · rw [if_neg (fun z => z h0), bMo_readAll_63, hc.1.1.1, m_wrong, KU_eq, bMo_readAll_68]
        refine hq _ ⟨(fs_wrs Fs.rf).mc, ?_⟩
        rw [cls, if_neg hlt, if_pos h0]; exact ⟨(by omega : (4 : Int) ≠ 0), hc.bad⟩
      · rw [if_pos h0, bMo_readAll_68]
        refine hq _ ⟨Fs.rf, ?_⟩
        rw [cls, if_neg hlt, if_neg h0]; exact ⟨k, hc⟩
/-- THE REFERENCE READS A TEXT -/
abbrev pMa (t i j : Nat) : Prop := pMc t i j ∨ (t = 10 ∧ i = 0 ∧ j = 2)
theorem m_readAll {M : Mem} (hn : n ≤ 500) (hB : ∀ j : Nat, j < n → (if M.1 10 0 8 = 0 then M.1 54 0 j else M.1 55 0 j) = B j)
    (hq : ∀ M', Fs pMa M M' → ME B n M' (txt B n) M' → Q (vi 0) M') : Call (d + 55) qMo_readAll [vr 10 0, vi (n : Int)] M Q X := by
  rw [eMo_readAll, bMo_readAll_0]
  have hm : ∀ M', M' = sI (sI (sI (sI (sI (sI (sI (sI (sI (sI (sI (sI (sI (sI M 10 0 2 (n : Int)) 10 0 4 0) 10 0 5 0) 10 0 6 0) 10 0 7 (-1)) 10 0 25 0) 10 0 26 4) 10 0 27 0) 10 0 28 0) 10 0 29 0) 10 0 30 0) 10 0 31 (-1)) 10 0 32 (-1)) 10 0 33 0 → Fs pMa M M' ∧ MK B n D0 (fun _ => none) M' 0 := by
    intro M' e
    subst e
    have fa : Fs pMa M (sI (sI (sI (sI (sI (sI (sI (sI (sI (sI (sI (sI (sI (sI M 10 0 2 (n : Int)) 10 0 4 0) 10 0 5 0) 10 0 6 0) 10 0 7 (-1)) 10 0 25 0) 10 0 26 4) 10 0 27 0) 10 0 28 0) 10 0 29 0) 10 0 30 0) 10 0 31 (-1)) 10 0 32 (-1)) 10 0 33 0) := by
      repeat (first | exact Fs.rf | refine Fs.sI ?_ (by omega))
    refine ⟨fa, ⟨⟨?_, hn, ?_⟩, ?_, Nat.zero_le n, ?_, ?_⟩, ?_, ⟨⟨?_, ?_, ?_, ?_, ?_, ?_, ?_⟩, fun s _ h => by unfold D0 at h; simp at h; omega⟩, ?_, ?_⟩
    · repeat (first | exact sI_eq | rw [sI_ne (by omega)])
    · intro j hj
      rw [fa.g1 10 0 8 (by omega), fa.g1 54 0 j (by omega), fa.g1 55 0 j (by omega)]; exact hB j hj
    all_goals (repeat (first | exact sI_eq | rw [sI_ne (by omega)]))
  generalize hM1 : sI (sI (sI (sI (sI (sI (sI (sI (sI (sI (sI (sI (sI (sI M 10 0 2 (n : Int)) 10 0 4 0) 10 0 5 0) 10 0 6 0) 10 0 7 (-1)) 10 0 25 0) 10 0 26 4) 10 0 27 0) 10 0 28 0) 10 0 29 0) 10 0 30 0) 10 0 31 (-1)) 10 0 32 (-1)) 10 0 33 0 = M1
  obtain ⟨f1, c1⟩ := hm M1 hM1.symm
  clear hm hM1
  have hb := blk_le (B := B) (Nat.zero_le n)
  rw [m_blanks c1.1.1 c1.1.2.1 (by omega), KU_eq]
  refine m_readLoop (n + 1) D0 (fun _ => none) _ _ 0 (c1.at hb.2) blk_blk WD0 (fun i k0 r e => by cases e) rfl (Nat.zero_le _) (by omega) ?_
  intro M2 r2
  refine hq M2 (f1.tr (Fs.mono (fun t i j z => Or.inl z) ((Fs.rf.sI (by omega)).tr r2.1))) ⟨Fs.rf, r2.2⟩
end
