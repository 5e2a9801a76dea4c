/-! RETURNS -/
def isR : Instr → Bool
  | .ireturn | .lreturn | .areturn | .return_ => true
  | _ => false
theorem rk0 {t : Option FieldType} (h : retk t = 0) : t = some .int := by
  cases t with
  | none => cases h
  | some x => cases x <;> first | rfl | cases h
theorem rk1 {t : Option FieldType} (h : retk t = 1) : t = some .boolean := by
  cases t with
  | none => cases h
  | some x => cases x <;> first | rfl | cases h
theorem rk2 {t : Option FieldType} (h : retk t = 2) : t = some .char ∨ t = some .byte := by
  cases t with
  | none => cases h
  | some x => cases x <;> first | exact Or.inl rfl | exact Or.inr rfl | cases h
theorem rk3 {t : Option FieldType} (h : retk t = 3) : t = some .long := by
  cases t with
  | none => cases h
  | some x => cases x <;> first | rfl | cases h
theorem rk4 {t : Option FieldType} (h : retk t = 4) : ∃ n, t = some (.object n) := by
  cases t with
  | none => cases h
  | some x => cases x <;> first | exact ⟨_, rfl⟩ | cases h
theorem rk5 {t : Option FieldType} (h : retk t = 5) : t = none := by
  cases t with
  | none => rfl
  | some x => cases x <;> cases h
section SD
variable {p : Program} {l : Launch} {e : Env} {R : Room} {s : State} {m : MethodId} {args : Array Value} {below : List Frame} {meth : Method} {c : Code} {H : Heap} {locs : List Loc} {cells slots : Nat}
theorem zret2 {cc : ByteArray} {Qc : Array Value → State → Outcome → State → Prop} {free : Addr → Prop} {v v' : Int32} {ty : FieldType} (hexec : p.tables.exec = Jvm.exec) (hb : c.code = cc) (hr : meth.sig.returnType = some ty) (hn : narrow ty (.int v) = .int v')
    (hq : ∀ t : State, t.heap = H → s.WarmedH t.vm → Qc args s (.returned (some (.int v'))) t) (hf : ∀ q ∈ locs, free q.base)
    {pc : Nat} {ls : Array Slot} (hdg : decode cc pc = .ok (.ireturn, 1)) (hlocks : meth.locks = false) : W p l e R s m args below meth c H locs cells slots (MQ below Qc args s cells slots free) (F0 m pc ls [.int v]) := by
  intro T hT X
  obtain ⟨fs, hret, hrun, hended, hW, hframe⟩ := X.leave (v := some (.int v')) (fun h => by rw [hr] at h; cases h)
  have hmeth' : T.vm.method? m = some meth := X.method'
  refine ⟨T.setFrames fs, ?_, .returned (some (.int v')), hrun, hended, hq _ hT hW, locs, ⟨⟨_, rfl⟩, hW, hframe⟩, hf⟩
  jvm_step X.here [X.here.top, hexec, hb, hdg, hmeth', hr, hn]
  (try refine ⟨rfl, ?_⟩); (try refine ⟨rfl, ?_⟩)
  first | (intro acts; rw [hret _ acts rfl rfl rfl]) | rw [hret _ _ rfl rfl rfl]
  exact Steps.refl _
variable {G : Gx} {sc : Nat × (Nat → Int)} {cc : ByteArray} {nL o pc q : Nat} {ls : Array Slot} {lv st : List AV} {M M1 : Mem} {gs : List Prop} {v : AV}
set_option maxHeartbeats 1000000 in
theorem sd_rt {tb : List Ent} {ix : Nat} {ins : Instr} {xs : List Nat} {v0 : Int} {len : Nat} {XC : String → State → State → Prop} (C : Cx G sc p l s m args meth c cc nL o) (hP : PT G sc s nL H locs ls lv st M) (hi : isR ins = true) (hd : decode cc pc = .ok (ins, len)) (hln : len = iln ins) (hck : chkI o (retk (mi q).2.2.2.1) nL tb ix (pc, ins, xs, v0) = true)
    (hs : step (pc, ins, xs, v0) lv st M = some (gs, rRt v M1)) (hg : allP gs) (hr : meth.sig.returnType = (mi q).2.2.2.1) :
    W p l e R s m args below meth c H locs cells slots (vx_MQ below (QcM G sc q (.inl v, M1)) XC args s cells slots (AA G)) (F0 m pc ls (st.map (cv G))) := by
  have hx := C.1
  have hb := C.2.1
  have hlk := C.2.2.2.2.2.2.2.2.2.1
  have hQ : ∀ {v : AV} {w : Option Value}, okV v → rv G q v = w → ∀ t : State, t.heap = H → s.WarmedH t.vm → QcM G sc q (.inl v, M) args s (.returned w) t := fun hv hw t ht _ => ⟨by rw [hw], hv, by rw [ht]; exact hP.1, va_S.F hP.2.2.2.2 ht⟩
  subst hln
  cases ins with
  | ireturn =>
    simp only [chkI, Bool.and_eq_true, decide_eq_true_eq, beq_iff_eq] at hck
    obtain ⟨h1, h2⟩ := hck
    simp only [step] at hs
    split at hs
    · next x =>
      have hx0 : inR x := hP.pop.2
      split at hs
      · next h0 =>
        simp only [Option.some.injEq, Prod.mk.injEq, Sum.inr.injEq, Sum.inl.injEq] at hs
        obtain ⟨-, rfl, rfl⟩ := hs
        have hk : retk (mi q).2.2.2.1 = 0 := h1.symm.trans h0
        refine vx_ret (W.iret hx hb (by rw [hr]; exact rk0 hk) (hQ (v := vi x) hx0 ?_) hP.2.2.2.2.2.2 hd hlk)
        unfold rv; rw [if_neg (by omega)]; rfl
      · next h0 =>
        simp only [Option.some.injEq, Prod.mk.injEq, Sum.inr.injEq, Sum.inl.injEq] at hs
        obtain ⟨-, rfl, rfl⟩ := hs
        have hk : retk (mi q).2.2.2.1 = 1 := h1.symm.trans h0
        refine vx_ret (zret2 hx hb (by rw [hr]; exact rk1 hk) (nar_z2 x) (hQ (v := vi (x % 2)) (mod2_R x) ?_) hP.2.2.2.2.2.2 hd hlk)
        unfold rv; rw [if_neg (by omega)]; rfl
      · next h0 h0' =>
        simp only [Option.some.injEq, Prod.mk.injEq, Sum.inr.injEq, Sum.inl.injEq] at hs
        obtain ⟨rfl, rfl, rfl⟩ := hs
        have hk : retk (mi q).2.2.2.1 = 2 := by
          have a1 : ¬ retk (mi q).2.2.2.1 = 0 := fun h => h0 (h1.trans h)
          have a2 : ¬ retk (mi q).2.2.2.1 = 1 := fun h => h0' (h1.trans h)
          omega
        have hw : rv G q (vi x) = some (.int (Int32.ofInt x)) := by unfold rv; rw [if_neg (by omega)]; rfl
        have hg : 0 ≤ x ∧ x < 128 := hg
        obtain ⟨n1, n2⟩ := nar_small hg.1 hg.2
        rcases rk2 hk with ht | ht
        · exact vx_ret (zret2 hx hb (by rw [hr]; exact ht) n1 (hQ (v := vi x) hx0 hw) hP.2.2.2.2.2.2 hd hlk)
        · exact vx_ret (zret2 hx hb (by rw [hr]; exact ht) n2 (hQ (v := vi x) hx0 hw) hP.2.2.2.2.2.2 hd hlk)
    · cases hs
  | lreturn =>
    simp only [chkI, beq_iff_eq] at hck
    simp only [step] at hs
    split at hs
    · next x =>
      simp only [Option.some.injEq, Prod.mk.injEq, Sum.inr.injEq, Sum.inl.injEq] at hs
      obtain ⟨-, rfl, rfl⟩ := hs
      refine vx_ret (W.lret hx hb (by rw [hr]; exact rk3 hck) (hQ (v := vl x) trivial ?_) hP.2.2.2.2.2.2 hd hlk)
      unfold rv; rw [if_neg (by omega)]; rfl
    · cases hs
  | areturn =>
    simp only [chkI, beq_iff_eq] at hck
    simp only [step] at hs
    split at hs
    · next t i =>
      simp only [Option.some.injEq, Prod.mk.injEq, Sum.inr.injEq, Sum.inl.injEq] at hs
      obtain ⟨-, rfl, rfl⟩ := hs
      obtain ⟨n, hn⟩ := rk4 hck
      refine vx_ret (W.aret (rt := .object n) hx hb (by rw [hr]; exact hn) (Or.inl ⟨n, rfl⟩) (Or.inr ⟨_, rfl⟩) (hQ (v := vr t i) hP.pop.2 ?_) hP.2.2.2.2.2.2 hd hlk)
      unfold rv; rw [if_neg (by omega)]; rfl
    · cases hs
  | return_ =>
    simp only [chkI, beq_iff_eq] at hck
    simp only [step] at hs
    split at hs
    · simp only [Option.some.injEq, Prod.mk.injEq, Sum.inr.injEq, Sum.inl.injEq] at hs
      obtain ⟨-, rfl, rfl⟩ := hs
      refine vx_ret (W.vret hx hb (by rw [hr]; exact rk5 hck) (hQ (v := vi 0) R0 ?_) hP.2.2.2.2.2.2 hd hlk)
      unfold rv; rw [if_pos hck]
    · cases hs
  | _ => simp [isR] at hi
end SD
