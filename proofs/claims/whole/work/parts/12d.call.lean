/-! CALLS -/
theorem own_ne (o : Nat) : own' o ≠ "java/lang/invoke/MethodHandle" ∧ own' o ≠ "java/lang/invoke/VarHandle" := by
  have key : ∀ o, o < 16 → own' o ≠ "java/lang/invoke/MethodHandle" ∧ own' o ≠ "java/lang/invoke/VarHandle" := by decide +kernel
  by_cases h : o < 16
  · exact key o h
  · have e : own' o = "" := by
      show ownN.getD o "" = ""
      rw [List.getD_eq_getElem?_getD, List.getElem?_eq_none (l := ownN) (i := o) (Nat.le_of_not_lt h)]
      rfl
    rw [e]
    decide
theorem nl45 : ∀ q, q < 288 → q ≠ qLa_law → (mi q).2.2.1 ≤ 45 := by decide +kernel
theorem hh_own : ∀ q, q < 288 → (mi q).2.2.2.2.1 < 15 → hhs q = [] := by decide +kernel
theorem law_own : (mi qLa_law).2.2.2.2.1 = 15 := rfl
theorem no_law : ∀ o, o < 16 → ∀ x ∈ MLT.getD o [], x.2.1 ≠ qLa_law := by decide +kernel
theorem mcode_nil {q : Nat} (h : hhs q = []) : mcode q = Cond.code (mi q).1 (mi q).2.1 (mi q).2.2.1 (mi q).2.2.2.1 := by unfold mcode; rw [h]
theorem mcode_hh {q : Nat} {r : Nat × Nat × Nat × Nat} {rs : List (Nat × Nat × Nat × Nat)} (h : hhs q = r :: rs) : mcode q = Cond.codeWith (mi q).1 (mi q).2.1 (mi q).2.2.1 (mi q).2.2.2.1 (r :: rs) := by unfold mcode; rw [h]
theorem npar_eq (q : Nat) : ∀ sig, parseMethodDescriptor (mi q).1.desc = some sig → npar q = sig.parameters.length := fun sig h => by unfold npar; rw [h]
theorem okL_take {st : List AV} {n : Nat} (h : okL st) : okL (st.take n).reverse := fun v hv => h v (List.mem_of_mem_take (List.mem_reverse.mp hv))
theorem okL_drop {st : List AV} {n : Nat} (h : okL st) : okL (st.drop n) := fun v hv => h v (List.mem_of_mem_drop hv)
section SD
variable {p : Program} {l : Launch} {e : Env} {R : Room} {s : State} {m : MethodId} {args : Array Value} {below : List Frame} {meth : Method} {c : Code} {H : Heap} {locs : List Loc} {cells slots : Nat} {Q : State → Prop}
variable {G : Gx} {sc : Nat × (Nat → Int)} {cc : ByteArray} {nL o pc q d : Nat} {ls : Array Slot} {lv lv' st as rest : List AV} {M M1 : Mem} {gs : List Prop} {r : RS}
/-- what every call needs, but its link -/
theorem sd_calln (C : Cx G sc p l s m args meth c cc nL o) (hq : q < 288) (hl : q ≠ qLa_law) (hh : hhs q = []) {K : Nat} (hfr : d + 11 ≤ R.frames) (hlo : 64 * d + 264 ≤ R.locals) :
    CallN R s args (mi q).1 (mi q).2.1 (mi q).2.2.1 (mi q).2.2.2.1 (mcode q :: gtbl) (rmD d K) K (6 * K) (npar q) := by
  have hts := C.2.2.2.2.1
  obtain ⟨w1, w2, -, w4⟩ := qka hq hl
  have hn := nl45 q hq hl
  have hc : Cond.code (mi q).1 (mi q).2.1 (mi q).2.2.1 (mi q).2.2.2.1 ∈ mcode q :: gtbl := by rw [← mcode_nil hh]; exact List.mem_cons_self
  refine ⟨rfl, rfl, ?_, ?_, pay_in hts (gt_cons w1), hc, ?_, hts _ w2, ?_, npar_eq q⟩
  · show d + 10 + 1 ≤ R.frames; omega
  · show 8 + ((mi q).2.2.1 + 11) + (64 * d + 200) ≤ R.locals; omega
  · rw [← mcode_nil hh]; exact hts _ w1
  · rw [← w4]; exact own_ne _
theorem sd_callb (C : Cx G sc p l s m args meth c cc nL o) (hq : q < 288) (hl : q ≠ qLa_law) (hh : hhs q = []) {idx K : Nat} (hfr : d + 11 ≤ R.frames) (hlo : 64 * d + 264 ≤ R.locals) (hk : Cond.methodLink (own' o) idx (mi q).1 ∈ gtbl) :
    CallB R s args (own' o) idx (mi q).1 (mi q).2.1 (mi q).2.2.1 (mi q).2.2.2.1 (mcode q :: gtbl) (rmD d K) K (6 * K) (npar q) := by
  obtain ⟨h1, h2, h3, h4, h5, h6, h7, h8, h9, h10⟩ := sd_calln C hq hl hh (K := K) hfr hlo
  exact ⟨h1, h2, h3, h4, h5, h6, h7, h8, h9, h10, C.2.2.2.2.1 _ hk⟩
/-- a receiver's cell -/
theorem sd_recv {t i : Nat} (C : Cx G sc p l s m args meth c cc nL o) (hW : Wm G sc M H) (hS : va_S (AA G) s.heap H locs) (ht : t < 12) (hi : i < nI' t) : ∃ cellB : Cell, H[G.2.2.1 t i]? = some cellB ∧ cellB.vm.isStatics = false ∧ s.vm.findClass (own' t) = some cellB.cls := by
  by_cases h : t < 11
  · have hc := hW.2.2.2.2.1 t i (Or.inl h) hi
    rw [cel_o h] at hc
    have key : ∀ t, t < 11 → cls11[t]?.map (fun r => r.1) = some (own' t) := by decide +kernel
    have hk := key t h
    cases hr : cls11[t]? with
    | none => rw [hr] at hk; cases hk
    | some r =>
      rw [hr] at hk
      have hk : r.1 = own' t := Option.some.inj hk
      rw [← hk]
      exact va_recv (q0 := 0) (ws := [(G.2.2.1 t i, .inr (t, flds G M t i))]) C.2.2.2.2.2.2.1 (fun k q hk => by
        cases k with
        | zero => cases hk; exact hc
        | succ k => cases hk) hr rfl
  · have e : t = 11 := by omega
    subst e
    obtain ⟨h1, -⟩ := C.2.2.2.2.2.2.2.2.1.2.2.2.2.1 i hi
    obtain ⟨cell, a1, a2, a3, -⟩ := h1.kept hS.2.1
    exact ⟨cell, a1, a2, a3⟩
theorem sd_callV {tb : List Ent} {ix rt idx : Nat} {xs : List Nat} {v0 : Int} (C : Cx G sc p l s m args meth c cc nL o) (ho : o < 16) (hP : PT G sc s nL H locs ls lv st M) (hd : decode cc pc = .ok (.invokevirtual idx, 3)) (hck : chkI o rt nL tb ix (pc, .invokevirtual idx, xs, v0) = true)
    (hs : step (pc, .invokevirtual idx, xs, v0) lv st M = some (gs, rCl q as lv' rest M1)) (hct : Ct l G sc d q as M1 r) (hfr : d + 11 ≤ R.frames) (hlo : 64 * d + 264 ≤ R.locals) (hce : cells + kR M1 r ≤ R.cells) (hsl : slots + 6 * kR M1 r ≤ R.slots)
    (kk : ∀ v M', r = (.inl v, M') → GO p l e R s m args below meth c (cells + kR M1 r) (slots + 6 * kR M1 r) Q G sc nL (pc + 3) lv' (if retk (mi q).2.2.2.1 = 5 then rest else v :: rest) M')
    (kx : ∀ E M', r = (.inr E, M') → ∀ (H1 : Heap) (locs1 : List Loc) (q9 : Addr) (ce : Cell), PT G sc s nL H1 locs1 ls lv' rest M' → H1[q9]? = some ce → ce.vm = .none → s.vm.findClass (exN E) = some ce.cls → E < 3 → vx_W p l e R s m args below meth c H1 locs1 (cells + kR M1 r) (slots + 6 * kR M1 r) Q (F0 m pc ls (rest.map (cv G))) q9) :
    W p l e R s m args below meth c H locs cells slots Q (F0 m pc ls (st.map (cv G))) := by
  simp only [chkI, Bool.and_eq_true, decide_eq_true_eq, beq_iff_eq] at hck
  obtain ⟨⟨⟨⟨⟨⟨h1, h2⟩, h3⟩, h4⟩, h5⟩, h6⟩, h7⟩ := hck
  simp only [step] at hs
  split at hs
  · cases hs
  · next hw =>
    split at hs
    · next t i as' hta =>
      split at hs
      · next ht =>
        simp only [Option.some.injEq, Prod.mk.injEq, Sum.inr.injEq, Sum.inl.injEq] at hs
        obtain ⟨-, rfl, rfl, rfl, rfl, rfl⟩ := hs
        generalize hq : xg (pc, Instr.invokevirtual idx, xs, v0) 0 = q at *
        generalize hn : xg (pc, Instr.invokevirtual idx, xs, v0) 1 = n at *
        have hl := no_law o ho _ (List.contains_iff_mem.mp h2)
        have hlink := mlk o ho _ (List.contains_iff_mem.mp h2)
        have hlink : Cond.methodLink (own' o) idx (mi q).1 ∈ gtbl := hlink
        obtain ⟨w1, w2, w3, w4⟩ := qka h1 hl
        rw [if_neg (by rw [h5]; decide)] at w3
        have hts := C.2.2.2.2.1
        have hoa : okL (vr t i :: as') := by rw [← hta]; exact okL_take hP.2.2.2.1
        have hor : okL (st.drop n) := okL_drop hP.2.2.2.1
        have htk : st.take n = as'.reverse ++ [vr t i] := by rw [← List.reverse_reverse (st.take n), hta]; simp
        have hlen : as'.length = npar q := by
          have e1 : (st.take n).length = n := by rw [List.length_take]; omega
          rw [htk] at e1
          simp at e1
          omega
        have hst : st.map (cv G) = (as'.map (cv G)).reverse ++ Value.ref (G.2.2.1 t i) :: (st.drop n).map (cv G) := by
          conv => lhs; rw [← List.take_append_drop n st, htk]
          have ecv : cv G (vr t i) = Value.ref (G.2.2.1 t i) := rfl
          rw [List.map_append, List.map_append, List.map_reverse, List.map_cons, List.map_nil, ecv, List.append_assoc]
          rfl
        have hto : t = (mi q).2.2.2.2.1 := ht.trans h7
        have ht12 : t < 12 := by omega
        have hi : i < nI' t := by
          have := (okL_cons.mp hoa).1
          exact ok_sys this (by omega)
        have hP' : PT G sc s nL H locs ls lv (st.drop n) M := ⟨hP.1, hP.2.1, hP.2.2.1, hor, hP.2.2.2.2⟩
        have hrec := sd_recv C hP.1 hP.2.2.2.2 ht12 hi
        rw [hto, w4, ← hto] at hrec
        rw [hst]
        refine sd_after (a := (Value.ref (G.2.2.1 t i) :: as'.map (cv G)).toArray) (vx_runV (n := npar q) (C := (mi q).1.cls) (b := G.2.2.1 t i) (As := as'.map (cv G)) (rest := (st.drop n).map (cv G)) ⟨C.1, C.2.1, C.2.2.1, C.2.2.2.1, hts⟩ hct ⟨sd_callb C h1 hl (hh_own q h1 (by omega)) hfr hlo hlink, hts _ w3.1, hts _ w3.2⟩
          ⟨PcM_blind, hrec, PcM_at C hP hoa⟩ rfl ?_ hP.2.1.1.1 rfl ?_ hd ⟨hce, hsl⟩) hP' kk kx
        · rw [List.length_map]; exact hlen
        · show 2 * 0 + (((st.drop n).map (cv G)).map fun v => v.category).sum ≤ 8
          rw [wds_cat]; omega
      · cases hs
    · cases hs
end SD
