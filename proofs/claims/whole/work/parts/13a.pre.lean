/-! BEFORE THE BODY -/
theorem nine_all : prgL.all (fun x => x.1.all nine) = true := by decide +kernel
theorem nine_of {q : Nat} {c : List Ent} {nl : Nat} (h : prg q = some (c, nl)) : ∀ e ∈ c, nine e = true := fun e he =>
  List.all_eq_true.mp (List.all_eq_true.mp nine_all (c, nl) (List.mem_of_getElem? h)) e he
theorem callD_gC : ∀ (d n q : Nat) (as : List AV) (M : Mem) (r : AV ⊕ Nat) (M' : Mem), callD prg d n q as M = some (r, M') → gC M ≤ gC M' := by
  intro d
  induction d with
  | zero => intro n q as M r M' h; cases h
  | succ d ih =>
    intro n q as M r M' h
    unfold callD at h
    cases hp : prg q with
    | none => rw [hp] at h; cases h
    | some x =>
      obtain ⟨c, nl⟩ := x
      rw [hp] at h
      dsimp only at h
      by_cases hle : (lay as).length ≤ nl
      · rw [if_pos hle] at h
        exact ev_gC (nine_of hp) (fun q as M r M' h => ih n q as M r M' h) n 0 _ _ _ _ _ h
      · rw [if_neg hle] at h
        cases h
theorem callD_q {d n q : Nat} {as : List AV} {M : Mem} {r : RS} (h : callD prg d n q as M = some r) : q < 288 := by
  cases d with
  | zero => cases h
  | succ d =>
    unfold callD at h
    cases hp : prg q with
    | none => rw [hp] at h; cases h
    | some x =>
      have h1 : prgL[q]? = some x := hp
      have h2 : prgL.length = 288 := by decide +kernel
      have := (List.getElem?_eq_some_iff.mp h1).1
      omega
theorem ev_some {n : Nat} {call : Nat → List AV → Mem → Option RS} {c : List Ent} {j : Nat} {l st : List AV} {M : Mem} {r : RS} (h : ev n call c (c.drop j) l st M = some r) : ∃ e', c[j]? = some e' := by
  cases n with
  | zero => cases h
  | succ n =>
    cases hd : c.drop j with
    | nil => rw [hd] at h; cases h
    | cons e is => exact ⟨e, (drop_hd hd).1⟩
theorem step_cls {pc : Nat} {ins : Instr} {xs : List Nat} {v0 : Int} {l st : List AV} {M : Mem} {gs : List Prop} {a : AR} (h : step (pc, ins, xs, v0) l st M = some (gs, a)) :
    isN ins = true ∨ isB ins = true ∨ isR ins = true ∨ (∃ idx, ins = .invokevirtual idx) ∨ (∃ idx, ins = .invokestatic idx) ∨ ∃ idx, ins = .new idx := by
  cases ins <;> first
    | exact Or.inl rfl
    | exact Or.inr (Or.inl rfl)
    | exact Or.inr (Or.inr (Or.inl rfl))
    | exact Or.inr (Or.inr (Or.inr (Or.inl ⟨_, rfl⟩)))
    | exact Or.inr (Or.inr (Or.inr (Or.inr (Or.inl ⟨_, rfl⟩))))
    | exact Or.inr (Or.inr (Or.inr (Or.inr (Or.inr ⟨_, rfl⟩))))
    | (cases h; done)
theorem step_rt {pc : Nat} {ins : Instr} {xs : List Nat} {v0 : Int} {l st : List AV} {M : Mem} {gs : List Prop} {a : AR} (hi : isR ins = true) (h : step (pc, ins, xs, v0) l st M = some (gs, a)) : ∃ v, a = rRt v M := by
  cases ins <;> first
    | (exfalso; simp [isR] at hi; done)
    | (simp only [step] at h
       (repeat' split at h) <;> first
         | (cases h; done)
         | (simp only [Option.some.injEq, Prod.mk.injEq] at h; obtain ⟨-, rfl⟩ := h; exact ⟨_, rfl⟩))
theorem step_br {pc : Nat} {ins : Instr} {xs : List Nat} {v0 : Int} {l st : List AV} {M : Mem} {gs : List Prop} {a : AR} (hi : isB ins = true) (h : step (pc, ins, xs, v0) l st M = some (gs, a)) : (∃ l' st', a = rNx l' st' M) ∨ ∃ j l' st', a = rJp j l' st' M := by
  have hj : ∀ (j : Nat) (c : Prop) (d : Decidable c) (l st : List AV), (∃ l' st', jmp j c d l st M = rNx l' st' M) ∨ ∃ j' l' st', jmp j c d l st M = rJp j' l' st' M := fun j c d l st => by
    by_cases q : c
    · exact Or.inr ⟨_, _, _, jmp_pos q⟩
    · exact Or.inl ⟨_, _, jmp_neg q⟩
  cases ins with
  | ifCond k off =>
    simp only [step, if1] at h
    split at h
    · cases k <;> (simp only [Option.some.injEq, Prod.mk.injEq] at h; obtain ⟨-, rfl⟩ := h; exact hj _ _ _ _ _)
    · cases h
  | if_icmp k off =>
    simp only [step, if2] at h
    split at h
    · cases k <;> (simp only [Option.some.injEq, Prod.mk.injEq] at h; obtain ⟨-, rfl⟩ := h; exact hj _ _ _ _ _)
    · cases h
  | goto off =>
    simp only [step, Option.some.injEq, Prod.mk.injEq] at h
    obtain ⟨-, rfl⟩ := h
    exact Or.inr ⟨_, _, _, rfl⟩
  | ifnonnull off =>
    simp only [step] at h
    split at h
    · simp only [Option.some.injEq, Prod.mk.injEq] at h
      obtain ⟨-, rfl⟩ := h
      exact Or.inr ⟨_, _, _, rfl⟩
    · cases h
  | tableswitch df lo hi' offs =>
    simp only [step] at h
    split at h
    · simp only [Option.some.injEq, Prod.mk.injEq] at h
      obtain ⟨-, rfl⟩ := h
      exact Or.inr ⟨_, _, _, rfl⟩
    · cases h
  | _ => simp [isB] at hi
theorem step_cv {pc idx : Nat} {xs : List Nat} {v0 : Int} {l st : List AV} {M : Mem} {gs : List Prop} {a : AR} (h : step (pc, .invokevirtual idx, xs, v0) l st M = some (gs, a)) : ∃ as st', a = rCl (xg (pc, .invokevirtual idx, xs, v0) 0) as l st' M := by
  simp only [step] at h
  (repeat' split at h) <;> first
    | (cases h; done)
    | (simp only [Option.some.injEq, Prod.mk.injEq] at h; obtain ⟨-, rfl⟩ := h; exact ⟨_, _, rfl⟩)
theorem step_th {pc idx : Nat} {xs : List Nat} {v0 : Int} {l st : List AV} {M : Mem} {gs : List Prop} {a : AR} (h : step (pc, .new idx, xs, v0) l st M = some (gs, a)) : a = rTh (xg (pc, .new idx, xs, v0) 0) M ∧ ¬ 8 < wds st := by
  simp only [step] at h
  split at h
  · cases h
  · next hw =>
    simp only [Option.some.injEq, Prod.mk.injEq] at h
    obtain ⟨-, rfl⟩ := h
    exact ⟨rfl, hw⟩
/-- a static call: an array copied, an index checked, a callee -/
theorem step_cs {pc idx : Nat} {xs : List Nat} {v0 : Int} {l st : List AV} {M : Mem} {gs : List Prop} {a : AR} (h : step (pc, .invokestatic idx, xs, v0) l st M = some (gs, a)) :
    (xg (pc, .invokestatic idx, xs, v0) 0 = 9000 ∧ arC l st M = some (gs, a)) ∨ (xg (pc, .invokestatic idx, xs, v0) 0 = 9001 ∧ ∃ n j rest, st = vi n :: vi j :: rest ∧ ¬ 8 < wds rest ∧ gs = [0 ≤ j ∧ j < n] ∧ a = rNx l rest M) ∨ ∃ as st', a = rCl (xg (pc, .invokestatic idx, xs, v0) 0) as l st' M := by
  simp only [step] at h
  split at h
  · next h0 => exact Or.inl ⟨h0, h⟩
  · next h0 =>
    split at h
    · split at h
      · cases h
      · next hw =>
        simp only [Option.some.injEq, Prod.mk.injEq] at h
        obtain ⟨rfl, rfl⟩ := h
        exact Or.inr (Or.inl ⟨h0, _, _, _, rfl, hw, rfl, rfl⟩)
    · cases h
  · split at h
    · cases h
    · simp only [Option.some.injEq, Prod.mk.injEq] at h
      obtain ⟨-, rfl⟩ := h
      exact Or.inr (Or.inr ⟨_, _, rfl⟩)
theorem chk_of {o rt nl : Nat} {cc : ByteArray} {tb : List Ent} {i pc : Nat} {ins : Instr} {xs : List Nat} {v0 : Int} (h : chkE o rt nl cc tb i = true) (he : tb[i]? = some (pc, ins, xs, v0)) (hn : ins ≠ .nop) :
    ∃ len, decode cc pc = .ok (ins, len) ∧ (iln ins = 0 ∨ len = iln ins) ∧ (∀ e', tb[i + 1]? = some e' → e'.1 = pc + len) ∧ chkI o rt nl tb i (pc, ins, xs, v0) = true := by
  unfold chkE at h
  rw [he] at h
  dsimp only at h
  rw [decide_eq_false hn, Bool.false_or] at h
  split at h
  · next ins' len hd =>
    simp only [Bool.and_eq_true, Bool.or_eq_true, decide_eq_true_eq, beq_iff_eq] at h
    obtain ⟨⟨⟨h1, h2⟩, h3⟩, h4⟩ := h
    subst h1
    refine ⟨len, hd, h2, fun e' he' => ?_, h4⟩
    rw [he'] at h3
    exact beq_iff_eq.mp h3
  · cases h
