/-! EVERY CONSTRUCTOR'S CONTRACT, by depth -/
theorem bstp_mo {en : Ent} {lv st lv' st' : List AV} {w w' : BW} (h : bstp en lv st w = some (.inl (lv', st', w'))) : bmo w w' := by
  obtain ⟨pc, ins, xs, v0⟩ := en
  have rf : bmo w w := ⟨Nat.le_refl _, Nat.le_refl _⟩
  cases ins with
  | aload_n i =>
    simp only [bstp] at h
    split at h
    · split at h
      · cases h; exact rf
      · cases h
    · cases h
  | iload_n i =>
    simp only [bstp] at h
    split at h
    · cases h; exact rf
    · cases h
  | iconst k => cases h; exact rf
  | bipush k => cases h; exact rf
  | sipush k => cases h; exact rf
  | istore_n i =>
    simp only [bstp] at h
    split at h
    · cases h; exact rf
    · cases h
  | iinc i k =>
    simp only [bstp] at h
    split at h
    · cases h; exact rf
    · cases h
  | if_icmp kd off =>
    cases kd with
    | ge =>
      simp only [bstp] at h
      split at h
      · split at h
        · split at h
          · cases h
          · cases h; exact rf
        · cases h
      · cases h
    | _ => cases h
  | dup =>
    simp only [bstp] at h
    split at h
    · split at h
      · cases h; exact rf
      · cases h
    · cases h
  | new idx => exact bnew_mo h
  | invokespecial idx =>
    simp only [bstp] at h
    split at h
    · split at h
      · split at h
        · cases h; exact rf
        · cases h
      · cases h
    · split at h <;> cases h
  | putfield idx => exact bput_mo h
  | getfield idx => exact bget_mo h
  | newarray a =>
    simp only [bstp] at h
    split at h
    · split at h
      · exact bnew_mo h
      · cases h
    · cases h
  | anewarray idx =>
    simp only [bstp] at h
    split at h
    · split at h
      · exact bnew_mo h
      · cases h
    · cases h
  | aastore => exact baas_mo h
  | multianewarray idx k =>
    simp only [bstp] at h
    split at h
    · split at h
      · exact bnew_mo h
      · cases h
    · cases h
  | return_ =>
    simp only [bstp] at h
    split at h <;> cases h
  | goto off => cases h
  | _ => cases h
theorem bev_mo {call : Nat → List AV → BW → Option BW} (hc : ∀ q as w w', call q as w = some w' → bmo w w') : ∀ (n : Nat) (tb : List Ent) (i : Nat) (lv st : List AV) (w w' : BW), bev n call tb i lv st w = some w' → bmo w w'
  | 0, _, _, _, _, _, _, h => by cases h
  | n + 1, tb, i, lv, st, w, w', h => by
    unfold bev at h
    split at h
    · cases h
    · next en he =>
      split at h
      · cases h
      · next lv1 st1 w1 hs =>
        have a := bstp_mo hs
        have b := bev_mo hc n tb _ _ _ _ _ h
        exact ⟨Nat.le_trans a.1 b.1, Nat.le_trans a.2 b.2⟩
      · exact bev_mo hc n tb _ _ _ _ _ h
      · next q as rest hs =>
        split at h
        · cases h
        · next w1 hw1 =>
          have a := hc _ _ _ _ hw1
          have b := bev_mo hc n tb _ _ _ _ _ h
          exact ⟨Nat.le_trans a.1 b.1, Nat.le_trans a.2 b.2⟩
      · cases h; exact ⟨Nat.le_refl _, Nat.le_refl _⟩
theorem bcall_mo {prg : Nat → Option (List Ent × Nat)} : ∀ (d n q : Nat) (as : List AV) (w w' : BW), bcall prg d n q as w = some w' → bmo w w'
  | 0, _, _, _, _, _, h => by cases h
  | d + 1, n, q, as, w, w', h => by
    unfold bcall at h
    split at h
    · cases h
    · split at h
      · exact bev_mo (fun q as w w' h => bcall_mo d n q as w w' h) _ _ _ _ _ _ _ h
      · cases h
theorem bstp_j {pc : Nat} {ins : Instr} {xs : List Nat} {v0 : Int} {lv st lv' st' : List AV} {w : BW} {j : Nat} (h : bstp (pc, ins, xs, v0) lv st w = some (.inr (.inl (j, lv', st')))) : (∃ off, ins = .goto off) ∨ ∃ off, ins = .if_icmp .ge off := by
  cases ins with
  | aload_n i => (simp only [bstp, bput, bget, baas, bnew] at h; (repeat' split at h) <;> cases h)
  | iload_n i => (simp only [bstp, bput, bget, baas, bnew] at h; (repeat' split at h) <;> cases h)
  | istore_n i => (simp only [bstp, bput, bget, baas, bnew] at h; (repeat' split at h) <;> cases h)
  | iinc i k => (simp only [bstp, bput, bget, baas, bnew] at h; (repeat' split at h) <;> cases h)
  | dup => (simp only [bstp, bput, bget, baas, bnew] at h; (repeat' split at h) <;> cases h)
  | putfield i => (simp only [bstp, bput, bget, baas, bnew] at h; (repeat' split at h) <;> cases h)
  | getfield i => (simp only [bstp, bput, bget, baas, bnew] at h; (repeat' split at h) <;> cases h)
  | newarray i => (simp only [bstp, bput, bget, baas, bnew] at h; (repeat' split at h) <;> cases h)
  | anewarray i => (simp only [bstp, bput, bget, baas, bnew] at h; (repeat' split at h) <;> cases h)
  | aastore => (simp only [bstp, bput, bget, baas, bnew] at h; (repeat' split at h) <;> cases h)
  | multianewarray i k => (simp only [bstp, bput, bget, baas, bnew] at h; (repeat' split at h) <;> cases h)
  | if_icmp kd off => 
    cases kd with
    | ge => exact Or.inr ⟨off, rfl⟩
    | _ => cases h
  | goto off => exact Or.inl ⟨off, rfl⟩
  | invokespecial idx => (simp only [bstp, bput, bget, baas, bnew] at h; (repeat' split at h) <;> cases h)
  | return_ => (simp only [bstp, bput, bget, baas, bnew] at h; (repeat' split at h) <;> cases h)
  | _ => cases h
theorem bstp_c {pc : Nat} {ins : Instr} {xs : List Nat} {v0 : Int} {lv st as rest : List AV} {w : BW} {q : Nat} (h : bstp (pc, ins, xs, v0) lv st w = some (.inr (.inr (.inl (q, as, rest))))) : ∃ idx, ins = .invokespecial idx := by
  cases ins with
  | aload_n i => (simp only [bstp, bput, bget, baas, bnew] at h; (repeat' split at h) <;> cases h)
  | iload_n i => (simp only [bstp, bput, bget, baas, bnew] at h; (repeat' split at h) <;> cases h)
  | istore_n i => (simp only [bstp, bput, bget, baas, bnew] at h; (repeat' split at h) <;> cases h)
  | iinc i k => (simp only [bstp, bput, bget, baas, bnew] at h; (repeat' split at h) <;> cases h)
  | dup => (simp only [bstp, bput, bget, baas, bnew] at h; (repeat' split at h) <;> cases h)
  | putfield i => (simp only [bstp, bput, bget, baas, bnew] at h; (repeat' split at h) <;> cases h)
  | getfield i => (simp only [bstp, bput, bget, baas, bnew] at h; (repeat' split at h) <;> cases h)
  | newarray i => (simp only [bstp, bput, bget, baas, bnew] at h; (repeat' split at h) <;> cases h)
  | anewarray i => (simp only [bstp, bput, bget, baas, bnew] at h; (repeat' split at h) <;> cases h)
  | aastore => (simp only [bstp, bput, bget, baas, bnew] at h; (repeat' split at h) <;> cases h)
  | multianewarray i k => (simp only [bstp, bput, bget, baas, bnew] at h; (repeat' split at h) <;> cases h)
  | if_icmp kd off =>
    cases kd with
    | ge => (simp only [bstp] at h; (repeat' split at h) <;> cases h)
    | _ => cases h
  | goto off => cases h
  | invokespecial idx => exact ⟨idx, rfl⟩
  | return_ => (simp only [bstp, bput, bget, baas, bnew] at h; (repeat' split at h) <;> cases h)
  | _ => cases h
theorem bstp_r {pc : Nat} {ins : Instr} {xs : List Nat} {v0 : Int} {lv st : List AV} {w : BW} {u : Unit} (h : bstp (pc, ins, xs, v0) lv st w = some (.inr (.inr (.inr u)))) : ins = .return_ := by
  cases ins with
  | aload_n i => (simp only [bstp, bput, bget, baas, bnew] at h; (repeat' split at h) <;> cases h)
  | iload_n i => (simp only [bstp, bput, bget, baas, bnew] at h; (repeat' split at h) <;> cases h)
  | istore_n i => (simp only [bstp, bput, bget, baas, bnew] at h; (repeat' split at h) <;> cases h)
  | iinc i k => (simp only [bstp, bput, bget, baas, bnew] at h; (repeat' split at h) <;> cases h)
  | dup => (simp only [bstp, bput, bget, baas, bnew] at h; (repeat' split at h) <;> cases h)
  | putfield i => (simp only [bstp, bput, bget, baas, bnew] at h; (repeat' split at h) <;> cases h)
  | getfield i => (simp only [bstp, bput, bget, baas, bnew] at h; (repeat' split at h) <;> cases h)
  | newarray i => (simp only [bstp, bput, bget, baas, bnew] at h; (repeat' split at h) <;> cases h)
  | anewarray i => (simp only [bstp, bput, bget, baas, bnew] at h; (repeat' split at h) <;> cases h)
  | aastore => (simp only [bstp, bput, bget, baas, bnew] at h; (repeat' split at h) <;> cases h)
  | multianewarray i k => (simp only [bstp, bput, bget, baas, bnew] at h; (repeat' split at h) <;> cases h)
  | if_icmp kd off =>
    cases kd with
    | ge => (simp only [bstp] at h; (repeat' split at h) <;> cases h)
    | _ => cases h
  | goto off => cases h
  | invokespecial idx => (simp only [bstp, bput, bget, baas, bnew] at h; (repeat' split at h) <;> cases h)
  | return_ => rfl
  | _ => cases h
def bchkM (q : Nat) : Bool := match bprg q with
  | none => false
  | some (c, nl) => nl == (bi q).2.2.1 && (List.range c.length).all (fun i => bchkE q nl (bi q).2.1 c i) && (match c[0]? with | some e => e.1 == 0 | none => false)
theorem bchk_all : ∀ q, q < 11 → bchkM q = true := by decide +kernel
theorem bown : ∀ q, q < 11 → own' q = (bi q).1.cls ∧ (bi q).1.name = "<init>" ∧ plainName (bi q).1.cls = true := by decide +kernel
/-- what a call's answer says of its first argument: every constructor begins with aload_0 -/
theorem bprg_0 : ∀ q, q < 11 → (bprg q).map (fun x => (x.1.getD 0 (0, .nop, [], 0)).2.1) = some (.aload_n 0) := by decide +kernel
theorem bas_of {d n q : Nat} {as : List AV} {w w' : BW} (h : bcall bprg d n q as w = some w') : ∃ b r, as = vr 0 b :: r := by
  cases d with
  | zero => cases h
  | succ d =>
    unfold bcall at h
    cases hp : bprg q with
    | none => rw [hp] at h; cases h
    | some x =>
      obtain ⟨tb, nl⟩ := x
      rw [hp] at h
      dsimp only at h
      split at h
      · next hle =>
        have hq : q < 11 := (List.getElem?_eq_some_iff.mp hp).1
        have h0 := bprg_0 q hq
        rw [hp] at h0
        simp only [Option.map_some, Option.some.injEq] at h0
        cases n with
        | zero => cases h
        | succ n =>
          unfold bev at h
          cases ht : tb[0]? with
          | none => rw [ht] at h; cases h
          | some e0 =>
            rw [ht] at h
            rw [List.getD_eq_getElem?_getD, ht] at h0
            obtain ⟨pc, ins, xs, v0⟩ := e0
            have h0 : ins = .aload_n 0 := h0
            subst h0
            dsimp only at h
            simp only [bstp] at h
            cases as with
            | nil =>
              exfalso
              have hl : (lay ([] : List AV) ++ List.replicate (nl - (lay ([] : List AV)).length) JK)[(0 : Fin 4).val]? = none ∨ (lay ([] : List AV) ++ List.replicate (nl - (lay ([] : List AV)).length) JK)[(0 : Fin 4).val]? = some JK := by
                cases nl with
                | zero => exact Or.inl rfl
                | succ k => exact Or.inr rfl
              rcases hl with hl | hl
              · rw [hl] at h; cases h
              · rw [hl] at h; cases h
            | cons v r =>
              rcases v with x | x | ⟨t, b⟩
              · cases h
              · cases h
              · by_cases e : t = 0
                · subst e; exact ⟨b, r, rfl⟩
                · exfalso
                  have hl : (lay ((.inr (.inr (t, b)) : AV) :: r) ++ List.replicate (nl - (lay ((.inr (.inr (t, b)) : AV) :: r)).length) JK)[(0 : Fin 4).val]? = some (.inr (.inr (t, b))) := rfl
                  rw [hl] at h
                  have hf : ¬ isRef (.inr (.inr (t, b)) : AV) = true := by
                    show ¬ (t == 0) = true
                    simpa using e
                  dsimp only at h
                  rw [if_neg hf] at h
                  cases h
      · cases h
section SD
variable {p : Program} {l : Launch} {e : Env} {R : Room} {s : State} {m : MethodId} {args : Array Value} {below : List Frame} {meth : Method} {c : Code}
variable {D : va_G} {K : FieldType → ClassId} {N0 : Nat} {cc : ByteArray} {nL o d n0 : Nat} {tb : List Ent} {wI wF : BW}
set_option maxHeartbeats 1000000 in
theorem bbody (C : BCx D K N0 p s m args meth c cc nL o) (ho : o < 11 ∨ o = 15) (hchk : ∀ i, bchkE o nL cc tb i = true) (hr : meth.sig.returnType = none) (hct : ∀ q as w w', bcall bprg d n0 q as w = some w' → BCt l D K N0 d q as w w')
    (hfr : d + 11 ≤ R.frames) (hlo : 64 * d + 264 ≤ R.locals) (hce : wF.1 ≤ wI.1 + R.cells) (hsl : wF.2.1 ≤ wI.2.1 + R.slots) :
    ∀ (n i : Nat) (lv st : List AV) (w : BW) (cells slots : Nat) (e0 : Ent), bev n (bcall bprg d n0) tb i lv st w = some wF → tb[i]? = some e0 → w.1 = wI.1 + cells → w.2.1 = wI.2.1 + slots →
      BGO p l e R s m args below meth c cells slots (MQ below (BQc D K N0 wF) args s (wF.1 - wI.1) (wF.2.1 - wI.2.1) (fun q => N0 ≤ q)) D K N0 nL e0.1 lv st w := by
  have mono : ∀ (n i : Nat) (lv st : List AV) (w : BW), bev n (bcall bprg d n0) tb i lv st w = some wF → bmo w wF := fun n i lv st w h => bev_mo (fun q as w w' h => bcall_mo d n0 q as w w' h) n tb i lv st w wF h
  intro n
  induction n with
  | zero => intro i lv st w cells slots e0 h; cases h
  | succ n ih =>
    intro i lv st w cells slots e0 hev he h1 h2 H locs ls hP
    obtain ⟨pc, ins, xs, v0⟩ := e0
    obtain ⟨hd, hnx, hck⟩ := bchk_of (hchk i) he
    unfold bev at hev
    rw [he] at hev
    dsimp only at hev
    have ev_some : ∀ (n i : Nat) (lv st : List AV) (w : BW), bev n (bcall bprg d n0) tb i lv st w = some wF → ∃ e', tb[i]? = some e' := by
      intro n i lv st w h
      cases n with
      | zero => cases h
      | succ n =>
        unfold bev at h
        cases ht : tb[i]? with
        | none => rw [ht] at h; cases h
        | some e' => exact ⟨e', rfl⟩
    cases hs : bstp (pc, ins, xs, v0) lv st w with
    | none => rw [hs] at hev; cases hev
    | some r =>
      rw [hs] at hev
      rcases r with ⟨lv1, st1, w1⟩ | ⟨j, lv1, st1⟩ | ⟨q, as, rest⟩ | u
      · dsimp only at hev
        have m1 := bstp_mo hs
        have m2 := mono _ _ _ _ _ hev
        obtain ⟨e1, he1⟩ := ev_some _ _ _ _ _ hev
        have hk := ih (i + 1) lv1 st1 w1 (w1.1 - wI.1) (w1.2.1 - wI.2.1) e1 hev he1 (by have := m1.1; omega) (by have := m1.2; omega)
        rw [hnx e1 he1] at hk
        exact b_nx C ho hP hd hck (by omega) (by omega) hs (c1 := w1.1 - wI.1) (s1 := w1.2.1 - wI.2.1) (by have := m1.1; omega) (by have := m1.2; omega) (by have := m2.1; omega) (by have := m2.2; omega) hk
      · dsimp only at hev
        obtain ⟨e1, he1⟩ := ev_some _ _ _ _ _ hev
        have hk := ih j lv1 st1 w cells slots e1 hev he1 h1 h2
        have hx := C.1
        have hb := C.2.1
        rcases bstp_j hs with ⟨off, rfl⟩ | ⟨off, rfl⟩
        · have hck : jt tb (xg (pc, Instr.goto off, xs, v0) 0) ((pc : Int) + off) = true := hck
          obtain ⟨e', he', ht⟩ := jt_at hck
          cases hs
          obtain rfl := Option.some.inj (he1.symm.trans he')
          exact lv_goto (tgt := e1.1) hx hb hd ht (hk _ _ _ hP)
        · have hck : jt tb (xg (pc, Instr.if_icmp .ge off, xs, v0) 0) ((pc : Int) + off) = true := hck
          obtain ⟨e', he', ht⟩ := jt_at hck
          simp only [bstp] at hs
          split at hs
          · next y x r =>
            split at hs
            · next hc =>
              obtain ⟨a1, a2⟩ := sml_i hc.1
              obtain ⟨b1, b2⟩ := sml_i hc.2
              split at hs
              · next hle =>
                cases hs
                obtain rfl := Option.some.inj (he1.symm.trans he')
                have e2 := ofInt_le (x := y) (y := x) ⟨by omega, by omega⟩ ⟨by omega, by omega⟩
                exact lv_icmp_ge (tgt := e1.1) hx hb hd ht (fun q => hk _ _ _ hP) (fun q => absurd (e2.mpr hle) q)
              · cases hs
            · cases hs
          · cases hs
      · dsimp only at hev
        cases hcl : bcall bprg d n0 q as w with
        | none => rw [hcl] at hev; cases hev
        | some w1 =>
          rw [hcl] at hev
          dsimp only at hev
          have m1 := bcall_mo d n0 q as w w1 hcl
          have m2 := mono _ _ _ _ _ hev
          obtain ⟨e1, he1⟩ := ev_some _ _ _ _ _ hev
          have hk := ih (i + 1) lv rest w1 (cells + (w1.1 - w.1)) (slots + (w1.2.1 - w.2.1)) e1 hev he1 (by have := m1.1; omega) (by have := m1.2; omega)
          rw [hnx e1 he1] at hk
          obtain ⟨idx, rfl⟩ := bstp_c hs
          simp only [bchkI] at hck
          simp only [bstp] at hs
          split at hs
          · split at hs
            · split at hs <;> cases hs
            · cases hs
          · next h99 =>
            rw [if_neg h99] at hck
            simp only [Bool.and_eq_true, Bool.or_eq_true, beq_iff_eq] at hck
            split at hs
            · next hl =>
              cases hs
              have h0 := bas_of hcl
              exact b_call C hP (hck.1.elim (fun h => Or.inl (blk_all o ho _ (List.contains_iff_mem.mp h))) (fun h => Or.inr (blk_all o ho _ (List.contains_iff_mem.mp h)))) hck.2 hl rfl (hct _ _ _ _ hcl) hd h0 hfr hlo (by have := m1.1; have := m2.1; omega) (by have := m1.2; have := m2.2; omega) hk
            · cases hs
      · dsimp only at hev
        cases hev
        have hins := bstp_r hs
        subst hins
        have hst : st = [] := by
          simp only [bstp] at hs
          split at hs
          · assumption
          · cases hs
        subst hst
        have ec : wF.1 - wI.1 = cells := by omega
        have es : wF.2.1 - wI.2.1 = slots := by omega
        rw [ec, es]
        exact W.vret C.1 C.2.1 hr (fun t ht _ => ⟨rfl, by rw [ht]; exact hP.1, va_S.F hP.2.2 ht⟩) hP.2.2.2.2 hd C.2.2.2.2.2.2.2.2.1
end SD
theorem bct_all {l : Launch} {D : va_G} {K : FieldType → ClassId} {N0 : Nat} : ∀ (d n q : Nat) (as : List AV) (w w' : BW), bcall bprg d n q as w = some w' → BCt l D K N0 d q as w w' := by
  intro d
  induction d with
  | zero => intro n q as w w' h; cases h
  | succ d ih =>
    intro n q as w w' h
    have h' := h
    unfold bcall at h
    cases hp : bprg q with
    | none => rw [hp] at h; cases h
    | some x =>
      obtain ⟨tb, nl⟩ := x
      rw [hp] at h
      dsimp only at h
      split at h
      · next hle =>
        have hq : q < 11 := (List.getElem?_eq_some_iff.mp hp).1
        have hc := bchk_all q hq
        unfold bchkM at hc
        rw [hp] at hc
        simp only [Bool.and_eq_true, beq_iff_eq, List.all_eq_true, List.mem_range] at hc
        obtain ⟨⟨k1, k2⟩, k3⟩ := hc
        subst k1
        obtain ⟨o1, o2, o3⟩ := bown q hq
        have hm := bcall_mo (prg := bprg) _ _ _ _ _ _ h'
        have k5 : ∀ i, bchkE q (bi q).2.2.1 (bi q).2.1 tb i = true := fun i => by
          by_cases hi : i < tb.length
          · exact k2 i hi
          · unfold bchkE
            rw [List.getElem?_eq_none (Nat.le_of_not_lt hi)]
        refine Met.ofW (cc := (bi q).2.1) (maxL := (bi q).2.2.1) (ret := none) o3 rfl ?_
        intro p e s m args below meth c s₁ B hml hP
        obtain ⟨rfl, hH, hK, hKK, hNw⟩ := hP
        have hts : ∀ w ∈ gtbl, w.before _ s = true := fun w h => atoms_spec (ws := bcode q :: gtbl) B.pre w (List.mem_cons_of_mem _ h)
        have C : BCx D K N0 p s m _ meth c (bi q).2.1 (bi q).2.2.1 q := ⟨B.exec, B.bytes, hml, by rw [o1]; exact findClass_of_methodNamed B.named, hts, hK, hKK, hNw, BodyLoose.notSynchronized B, Or.inr ((name_of_methodNamed B.named B.method).1.trans o2), by rw [hH.1]; omega⟩
        rw [lg_entry_eq]
        cases ht : tb[0]? with
        | none =>
          rw [ht] at k3; cases k3
        | some e0 =>
          rw [ht] at k3
          have hpc : e0.1 = 0 := beq_iff_eq.mp k3
          have hb := bbody (p := p) (e := e) (below := below) (R := (headSpec (bcode q :: gtbl) (rmB (d + 1) (w'.1 - w.1) (w'.2.1 - w.2.1))).room) (wI := w) (wF := w') C (Or.inl hq) k5 B.returns (fun q as w w' h => ih n q as w w' h)
            (by show d + 11 ≤ d + 1 + 10; omega) (by show 64 * d + 264 ≤ 64 * (d + 1) + 200; omega) (by show w'.1 ≤ w.1 + (w'.1 - w.1); have := hm.1; omega) (by show w'.2.1 ≤ w.2.1 + (w'.2.1 - w.2.1); have := hm.2; omega) n 0 _ _ w 0 0 e0 h ht rfl rfl
          rw [hpc] at hb
          exact hb s.heap [] _ ⟨hH, LV_entry hle, va_S.rf⟩
      · cases h
