theorem chkM_of {q nl : Nat} {tb : List Ent} (h : chkM q = true) (hp : prg q = some (tb, nl)) : nl = (mi q).2.2.1 ∧ nl ≤ 45 ∧ (∀ e ∈ tb, nine e = true) ∧ chkH nl (hhs q) tb = true ∧ ∀ i, chkE (mi q).2.2.2.2.1 (retk (mi q).2.2.2.1) nl (mi q).2.1 tb i = true := by
  unfold chkM at h
  rw [hp] at h
  simp only [Bool.and_eq_true, beq_iff_eq, decide_eq_true_eq, List.all_eq_true, List.mem_range] at h
  obtain ⟨⟨⟨⟨h1, h2⟩, h3⟩, h4⟩, h5⟩ := h
  refine ⟨h1, h2, h3, h4, fun i => ?_⟩
  by_cases hi : i < tb.length
  · exact h5 i hi
  · unfold chkE
    rw [List.getElem?_eq_none (Nat.le_of_not_lt hi)]
theorem pc0_all : prgL.all (fun x => match x.1[0]? with | some e => e.1 == 0 | none => false) = true := by decide +kernel
theorem pc0 {q nl : Nat} {tb : List Ent} {e0 : Ent} (hp : prg q = some (tb, nl)) (he : tb[0]? = some e0) : e0.1 = 0 := by
  have h := List.all_eq_true.mp pc0_all (tb, nl) (List.mem_of_getElem? hp)
  dsimp only at h
  rw [he] at h
  exact beq_iff_eq.mp h
theorem own16 : ∀ q, q < 288 → (mi q).2.2.2.2.1 < 16 := by decide +kernel
theorem pn_for : ∀ q, q < 288 → plainFor (mi q).1 = true := by decide +kernel
theorem pn_RL : plainName (own' 15) = true := by decide +kernel
theorem vx_ofWF {l : Launch} {y : MethodName} {ws ws' : List Cond} {rm : Room} {Pc : Array Value → State → Prop} {Qc : Array Value → State → Outcome → State → Prop} {XC : String → State → State → Prop} {mc ms : Nat} {free : Addr → Prop} {cc : ByteArray} {maxL : Nat} {ret : Option FieldType}
    (hy : plainFor y = true) (hw : ws = Cond.code y cc maxL ret :: ws')
    (body : ∀ p e s m args below meth c s₁, BodyLoose p l y (headSpec ws rm) cc maxL ret e s m args below meth c s₁ → c.maxLocals = maxL → (∀ x ∈ c.exceptionTable.toList, False) → Pc args s →
      W p l e (headSpec ws rm).room s m args below meth c s.heap [] 0 0 (vx_MQ below Qc XC args s mc ms free) (entryFrame m args maxL)) : vx_Met l y ws rm Pc Qc XC mc ms free := by
  refine MetFree.of_bodyRF (code := cc) (maxLocals := maxL) (ret := ret) hy ?_ ?_
  · intro args s m h hn
    obtain ⟨meth, c, h1, h2, h3, h4, h5, h6, -, -⟩ := Cond.code_spec hn (atoms_spec (ws := ws) h _ (by rw [hw]; exact List.mem_cons_self))
    exact ⟨meth, c, h1, h2, h3, h4, h5, h6⟩
  · intro p e s m args below meth c s₁ B hml hP _ hst
    have hh0 : s₁.heap = s.heap := by rw [B.state]; rfl
    have ht : ∀ x ∈ c.exceptionTable.toList, False := by
      obtain ⟨meth9, c9, h1, h2, -, -, -, -, h7, -⟩ := Cond.code_spec B.named (atoms_spec (ws := ws) B.pre _ (by rw [hw]; exact List.mem_cons_self))
      cases Option.some.inj (h1.symm.trans B.method)
      cases Option.some.inj (h2.symm.trans (Stand.of_body B).code)
      intro x hx
      rw [Array.isEmpty_iff.mp h7] at hx
      cases hx
    obtain ⟨t, a1, o, b1, b2, b3⟩ := body p e s m args below meth c s₁ B hml ht hP s₁ hh0 (Stand.of_body B)
    exact ⟨t, o, hst.trans a1, b1, b2, b3⟩
theorem ct_all {l : Launch} {G : Gx} {sc : Nat × (Nat → Int)} (hA : AOK G) (hst : l.stackTraces = false) (hck : ∀ q, q < 288 → q ≠ qLa_law → chkM q = true) : ∀ (d n q : Nat) (as : List AV) (M : Mem) (r : RS), q ≠ qLa_law → callD prg d n q as M = some r → Ct l G sc d q as M r := by
  intro d
  induction d with
  | zero => intro n q as M r _ h; cases h
  | succ d ih =>
    intro n q as M r hl h
    have hq := callD_q h
    unfold callD at h
    cases hp : prg q with
    | none => rw [hp] at h; cases h
    | some x =>
      obtain ⟨tb, nl⟩ := x
      rw [hp] at h
      dsimp only at h
      by_cases hle : (lay as).length ≤ nl
      · rw [if_pos hle] at h
        obtain ⟨k1, k2, k3, k4, k5⟩ := chkM_of (hck q hq hl) hp
        subst k1
        obtain ⟨w1, w2, w3, w4⟩ := qka hq hl
        have core : ∀ p e s m args below meth c s₁, BodyLoose p l (mi q).1 (headSpec (mcode q :: gtbl) (rmD (d + 1) (kR M r))) (mi q).2.1 (mi q).2.2.1 (mi q).2.2.2.1 e s m args below meth c s₁ → c.maxLocals = (mi q).2.2.1 → c.exceptionTable.toList = tableOf (hhs q) → PcM G sc as M args s →
            W p l e (headSpec (mcode q :: gtbl) (rmD (d + 1) (kR M r))).room s m args below meth c s.heap [] 0 0 (vx_MQ below (QcM G sc q r) (XcM G sc r) args s (kR M r) (6 * kR M r) (AA G)) (entryFrame m args (mi q).2.2.1) := by
          intro p e s m args below meth c s₁ B hml hte hP
          obtain ⟨rfl, hok, hW, hK, hAr, hRO⟩ := hP
          have hts : ∀ w ∈ gtbl, w.before _ s = true := fun w h => atoms_spec (ws := mcode q :: gtbl) B.pre w (List.mem_cons_of_mem _ h)
          have C : Cx G sc p l s m _ meth c (mi q).2.1 (mi q).2.2.1 (mi q).2.2.2.2.1 := ⟨B.exec, B.bytes, hml, by rw [w4]; exact findClass_of_methodNamed B.named, hts, hA, hK, hAr, hRO, BodyLoose.notSynchronized B, hst⟩
          rw [lg_entry_eq]
          have h0 : ev n (callD prg d n) tb (tb.drop 0) (lay as ++ List.replicate ((mi q).2.2.1 - (lay as).length) JK) [] M = some r := h
          obtain ⟨e0, he0⟩ := ev_some h0
          have hb := body (p := p) (e := e) (below := below) (R := (headSpec (mcode q :: gtbl) (rmD (d + 1) (kR M r))).room) (M0 := M) C (own16 q hq) (fun hne => by
              have h16 := own16 q hq
              by_cases h15 : (mi q).2.2.2.2.1 < 15
              · exact absurd (hh_own q hq h15) hne
              · have : (mi q).2.2.2.2.1 = 15 := by omega
                rw [this]; rfl) k2 k5 k3 k4 hte (fun h9 => hh_own q hq (by omega)) B.returns (fun q' as M r hl h => ih n q' as M r hl h)
            (Nat.le_refl _) (by show 64 * d + 264 ≤ 64 * (d + 1) + 200; omega) (Nat.le_refl _) (Nat.le_refl _) n 0 _ _ M 0 e0 h0 he0 (by simp)
          rw [pc0 hp he0] at hb
          exact hb s.heap [] _ ⟨hW, LV_entry hle, okL_entry hok, okL_nil, va_S.rf⟩
        cases hh : hhs q with
        | nil =>
          refine vx_ofWF (cc := (mi q).2.1) (maxL := (mi q).2.2.1) (ret := (mi q).2.2.2.1) (pn_for q hq) (by rw [mcode_nil hh]) ?_
          intro p e s m args below meth c s₁ B hml ht hP
          exact core p e s m args below meth c s₁ B hml (by rw [hh]; exact List.eq_nil_iff_forall_not_mem.mpr (fun x hx => ht x hx)) hP
        | cons r0 rs =>
          refine vx_ofWH (cc := (mi q).2.1) (maxL := (mi q).2.2.1) (ret := (mi q).2.2.2.1) (hh := r0 :: rs) (by
            have h16 := own16 q hq
            have h15 : ¬ (mi q).2.2.2.2.1 < 15 := fun z => by rw [hh_own q hq z] at hh; cases hh
            have e15 : (mi q).2.2.2.2.1 = 15 := by omega
            rw [← w4, e15]; exact pn_RL) (by rw [mcode_hh hh]) ?_
          intro p e s m args below meth c s₁ B hml hP
          have hcw : (Cond.codeWith (mi q).1 (mi q).2.1 (mi q).2.2.1 (mi q).2.2.2.1 (r0 :: rs)).before args s = true := by
            rw [← mcode_hh hh]
            exact atoms_spec (ws := mcode q :: gtbl) B.pre _ List.mem_cons_self
          exact core p e s m args below meth c s₁ B hml (by rw [hh]; exact vx_table (x := (mi q).1) B hcw) hP
      · rw [if_neg hle] at h
        cases h
