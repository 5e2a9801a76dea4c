/-! THE GHOST: how many throws were caught; no step writes it, so it never falls -/
def gC (M : Mem) : Int := M.1 900 0 0
def arM : AR → Mem
  | .inl (_, _, M) => M
  | .inr (.inl (_, _, _, M)) => M
  | .inr (.inr (.inl (_, _, _, _, M))) => M
  | .inr (.inr (.inr (.inl (_, M)))) => M
  | .inr (.inr (.inr (.inr (_, M)))) => M
theorem gC_sI {M : Mem} {t i j : Nat} {v : Int} (h : t ≠ 900) : gC (sI M t i j v) = gC M := if_neg (fun q => h q.1.symm)
theorem gC_sL {M : Mem} {t i j : Nat} {v : Int64} : gC (sL M t i j v) = gC M := rfl
theorem gC_cpI {M : Mem} {t i p t' i' p' n : Nat} (h : t' ≠ 900) : gC (cpI M t i p t' i' p' n) = gC M := if_neg (fun q => h q.1.symm)
theorem gC_cpL {M : Mem} {t i p t' i' p' n : Nat} : gC (cpL M t i p t' i' p' n) = gC M := rfl
theorem akd_900 {t : Nat} (h : akd t ≠ 0) : t ≠ 900 := fun q => h (by rw [q]; rfl)
theorem arM_jmp {j : Nat} {c : Prop} {d : Decidable c} {l st : List AV} {M : Mem} : arM (jmp j c d l st M) = M := by
  unfold jmp
  split <;> rfl
theorem arM_ptf {c j k : Nat} {l st : List AV} {M : Mem} {gs : List Prop} {a : AR} (h9 : c ≠ 900) (h : ptf c j k l st M = some (gs, a)) : gC (arM a) = gC M := by
  unfold ptf at h
  split at h <;> first
    | (cases h; done)
    | (split at h
       · simp only [Option.some.injEq, Prod.mk.injEq] at h
         obtain ⟨-, rfl⟩ := h
         first
           | exact gC_sI h9
           | exact gC_sL
       · cases h)
theorem arM_astI {kd : Nat} {f : Int → Int} {l st : List AV} {M : Mem} {gs : List Prop} {a : AR} (hk : kd ≠ 0) (h : astI kd f l st M = some (gs, a)) : gC (arM a) = gC M := by
  unfold astI at h
  split at h
  · split at h
    · next hq =>
      simp only [Option.some.injEq, Prod.mk.injEq] at h
      obtain ⟨-, rfl⟩ := h
      exact gC_sI (akd_900 (by rw [hq]; exact hk))
    · cases h
  · cases h
theorem arM_arC {l st : List AV} {M : Mem} {gs : List Prop} {a : AR} (h : arC l st M = some (gs, a)) : gC (arM a) = gC M := by
  unfold arC at h
  split at h
  · split at h
    · cases h
    · split at h
      · next hq =>
        simp only [Option.some.injEq, Prod.mk.injEq] at h
        obtain ⟨-, rfl⟩ := h
        exact gC_cpI (akd_900 (by rw [← hq.1]; rcases hq.2 with q | q <;> rw [q] <;> decide))
      · split at h
        · simp only [Option.some.injEq, Prod.mk.injEq] at h
          obtain ⟨-, rfl⟩ := h
          exact gC_cpL
        · cases h
  · cases h
theorem arM_if1 {k : ClassFile.Cond} {j : Nat} {l st : List AV} {M : Mem} {gs : List Prop} {a : AR} (h : if1 k j l st M = some (gs, a)) : gC (arM a) = gC M := by
  unfold if1 at h
  split at h
  · cases k <;> (simp only [Option.some.injEq, Prod.mk.injEq] at h; obtain ⟨-, rfl⟩ := h; rw [arM_jmp])
  · cases h
theorem arM_if2 {k : ClassFile.Cond} {j : Nat} {l st : List AV} {M : Mem} {gs : List Prop} {a : AR} (h : if2 k j l st M = some (gs, a)) : gC (arM a) = gC M := by
  unfold if2 at h
  split at h
  · cases k <;> (simp only [Option.some.injEq, Prod.mk.injEq] at h; obtain ⟨-, rfl⟩ := h; rw [arM_jmp])
  · cases h
set_option maxHeartbeats 8000000 in
theorem step_gC {e : Ent} {l st : List AV} {M : Mem} {gs : List Prop} {a : AR} (h9 : nine e = true) (h : step e l st M = some (gs, a)) : gC (arM a) = gC M := by
  obtain ⟨pc, ins, xs, v⟩ := e
  cases ins with
  | putfield idx => exact arM_ptf (by have h9 : (xg (pc, Instr.putfield idx, xs, v) 0 != 900) = true := h9; simpa using h9) h
  | iastore => exact arM_astI (by decide) h
  | bastore => exact arM_astI (by decide) h
  | ifCond k off => exact arM_if1 h
  | if_icmp k off => exact arM_if2 h
  | invokestatic idx =>
    simp only [step] at h
    split at h
    · exact arM_arC h
    · split at h
      · split at h
        · cases h
        · simp only [Option.some.injEq, Prod.mk.injEq] at h
          obtain ⟨-, rfl⟩ := h
          rfl
      · cases h
    · split at h
      · cases h
      · simp only [Option.some.injEq, Prod.mk.injEq] at h
        obtain ⟨-, rfl⟩ := h
        rfl
  | _ =>
    first
      | (cases h; done)
      | (simp only [step, ldI, ldL, ldR, stI, stL, stR, bnI, bnL, shL, gtf, aldI, aldL, aldR, astL] at h
         (repeat' split at h) <;> first
           | (cases h; done)
           | (simp only [Option.some.injEq, Prod.mk.injEq] at h; obtain ⟨-, rfl⟩ := h; rfl))
theorem gC_gh (M : Mem) : gC (gh M) = gC M + 1 := by
  show (if (900 : Nat) = 900 ∧ (0 : Nat) = 0 ∧ (0 : Nat) = 0 then M.1 900 0 0 + 1 else M.1 900 0 0) = M.1 900 0 0 + 1
  rw [if_pos ⟨rfl, rfl, rfl⟩]
theorem drop_hd {c : List Ent} {i : Nat} {e : Ent} {is : List Ent} (h : c.drop i = e :: is) : c[i]? = some e ∧ is = c.drop (i + 1) := by
  constructor
  · have h1 : (c.drop i)[0]? = some e := by rw [h]; rfl
    rw [List.getElem?_drop] at h1
    exact h1
  · have h1 : (c.drop i).drop 1 = is := by rw [h]; rfl
    rw [List.drop_drop] at h1
    exact h1.symm
theorem ev_gC {call : Nat → List AV → Mem → Option RS} {c : List Ent} (h9 : ∀ e ∈ c, nine e = true) (hc : ∀ q as M r M', call q as M = some (r, M') → gC M ≤ gC M') : ∀ (n i : Nat) (l st : List AV) (M : Mem) (r : AV ⊕ Nat) (M' : Mem), ev n call c (c.drop i) l st M = some (r, M') → gC M ≤ gC M' := by
  intro n
  induction n with
  | zero => intro i l st M r M' h; cases h
  | succ n ih =>
    intro i l st M r M' h
    cases hd : c.drop i with
    | nil => rw [hd] at h; cases h
    | cons e is =>
      rw [hd] at h
      obtain ⟨he, his⟩ := drop_hd hd
      subst his
      have h9e := h9 e (List.mem_of_getElem? he)
      simp only [ev] at h
      cases hs : step e l st M with
      | none => rw [hs] at h; cases h
      | some x =>
        obtain ⟨gs, a⟩ := x
        rw [hs] at h
        have hg := step_gC h9e hs
        dsimp only at h
        split at h
        · rcases a with ⟨l1, st1, M1⟩ | ⟨j, l1, st1, M1⟩ | ⟨q, as, l1, st1, M1⟩ | ⟨v, M1⟩ | ⟨E, M1⟩
          · have hg : gC M1 = gC M := hg
            rw [← hg]; exact ih _ _ _ _ _ _ h
          · have hg : gC M1 = gC M := hg
            rw [← hg]; exact ih _ _ _ _ _ _ h
          · have hg : gC M1 = gC M := hg
            dsimp only at h
            cases hq : call q as M1 with
            | none => rw [hq] at h; cases h
            | some y =>
              obtain ⟨r1, M2⟩ := y
              have h1 := hc _ _ _ _ _ hq
              rw [hq] at h
              rcases r1 with v | E
              · have := ih _ _ _ _ _ _ h
                omega
              · dsimp only at h
                split at h
                · simp only [Option.some.injEq, Prod.mk.injEq] at h
                  obtain ⟨-, rfl⟩ := h
                  omega
                · split at h
                  · have := ih _ _ _ _ _ _ h
                    rw [gC_gh] at this
                    omega
                  · cases h
          · have hg : gC M1 = gC M := hg
            simp only [Option.some.injEq, Prod.mk.injEq] at h
            obtain ⟨-, rfl⟩ := h
            omega
          · have hg : gC M1 = gC M := hg
            simp only [Option.some.injEq, Prod.mk.injEq] at h
            obtain ⟨-, rfl⟩ := h
            omega
        · cases h
