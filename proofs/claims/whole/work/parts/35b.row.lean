/-! LAYER 5: the row of multianewarray, any depth -/
section
variable {p : Program} {l : Launch} {e : Env} {R : Room} {s : State} {m : MethodId} {args : Array Value} {below : List Frame} {meth : Method} {c : Code}
theorem gm_cons (dv : Value) (c : ClassId) (n : Nat) (r : ClassId × Nat) (rest : Dm) (s : State) : gm dv ((c, n) :: r :: rest) s = gfl (gm dv (r :: rest)) c n (gS (r :: rest)) s n := rfl
theorem standG (dv : Value) : ∀ (D : Dm), D ≠ [] → ∀ (T : State) (locs : List Loc) (cells slots : Nat), Stand p l e R s m args below meth c T locs cells slots → ∃ L : List Loc, Stand p l e R s m args below meth c (gm dv D T) (locs ++ L) (cells + gS D) (slots + gL D) ∧ ∀ x ∈ L, T.heap.size ≤ x.base
  | [], h => absurd rfl h
  | [(k, n)], _ => by
    intro T locs cells slots X
    refine ⟨[], ?_, fun x hx => by cases hx⟩
    have h := X.pushed (Jvm.Free.Multi.innerC k n dv)
    have e1 : (Jvm.Free.Multi.innerC k n dv).slots.size = n := by simp [Jvm.Free.Multi.innerC]
    rw [e1] at h
    rw [List.append_nil]
    simpa [gm, gS, gL] using h
  | (k, n) :: r :: rest, _ => by
    intro T locs cells slots X
    have ih := standG dv (r :: rest) (by simp)
    have hF := gm_facts dv (r :: rest) (by simp)
    generalize hSS : gS (r :: rest) = S at *
    generalize hLL : gL (r :: rest) = LL at *
    have key : ∀ i : Nat, ∃ L : List Loc, Stand p l e R s m args below meth c (gfl (gm dv (r :: rest)) k n S T i) (locs ++ L) (cells + 1 + i * S) (slots + n + i * LL) ∧ ∀ x ∈ L, T.heap.size ≤ x.base := by
      intro i
      induction i with
      | zero =>
        refine ⟨[], ?_, fun x hx => by cases hx⟩
        have h := X.pushed (ocell k n T.heap.size S 0)
        rw [(ocell_facts k n T.heap.size S 0).2.2] at h
        rw [List.append_nil]
        simpa [gfl] using h
      | succ i ihi =>
        obtain ⟨L, Xi, hL⟩ := ihi
        obtain ⟨f1, f2, f3, f4, f5, f6, f7⟩ := gfl_facts hF k n T i
        obtain ⟨L2, X2, hL2⟩ := ih _ _ _ _ Xi
        obtain ⟨g1, g2, g3, g4, g5, g6⟩ := hF.1 (gfl (gm dv (r :: rest)) k n S T i)
        have hlt0 : T.heap.size < (gfl (gm dv (r :: rest)) k n S T i).heap.size := by rw [f1]; omega
        have hcell : (gm dv (r :: rest) (gfl (gm dv (r :: rest)) k n S T i)).heap[T.heap.size]? = some (ocell k n T.heap.size S i) := by rw [g4 _ hlt0]; exact f2
        have h := X2.stored hcell i (.ref (T.heap.size + 1 + i * S))
        refine ⟨L ++ L2 ++ [⟨T.heap.size, i⟩], ?_, ?_⟩
        · have e1 : cells + 1 + (i + 1) * S = cells + 1 + i * S + S := by rw [Nat.succ_mul]; omega
          have e2 : slots + n + (i + 1) * LL = slots + n + i * LL + LL := by rw [Nat.succ_mul]; omega
          have e3 : locs ++ (L ++ L2 ++ [⟨T.heap.size, i⟩]) = locs ++ L ++ L2 ++ [⟨T.heap.size, i⟩] := by simp [List.append_assoc]
          rw [e1, e2, e3]
          exact h
        · intro x hx
          rcases List.mem_append.mp hx with hx | hx
          · rcases List.mem_append.mp hx with hx | hx
            · exact hL x hx
            · exact Nat.le_trans (Nat.le_of_lt hlt0) (hL2 x hx)
          · rw [List.mem_singleton.mp hx]; exact Nat.le_refl _
    obtain ⟨L, Xn, hL⟩ := key n
    refine ⟨L, ?_, hL⟩
    have e1 : cells + gS ((k, n) :: r :: rest) = cells + 1 + n * S := by show cells + (1 + n * gS (r :: rest)) = _; rw [hSS]; omega
    have e2 : slots + gL ((k, n) :: r :: rest) = slots + n + n * LL := by show slots + (n + n * gL (r :: rest)) = _; rw [hLL]; omega
    rw [gm_cons, hSS, e1, e2]
    exact Xn
theorem mna_row {T : State} {locs : List Loc} {cells slots : Nat} (X : Stand p l e R s m args below meth c T locs cells slots) (hexec : p.tables.exec = Jvm.exec) {own name : String} {index : Nat} {ty : FieldType} {D : Dm} {cs : List Int32} (hk : D.length = 2 ∨ D.length = 3 ∨ D.length = 4)
    (hown : s.vm.findClass own = some m.cls) (hclink : (Cond.classLink own index name).before args s = true) (hname : s.vm.findClass name = some ((D.head?.map (·.1)).getD 0)) (hAK : AKc s D ty) (hC : Cts cs D)
    {g : JFrame} (hg : g.method = m) (hdg : decode c.code g.pc = .ok (.multianewarray index D.length, 4)) {rest : List Value} (hstack : g.stack = (cs.map Value.int).reverse ++ rest)
    (hdf : fits ty (defaultValue ty) = true) (hdd : (defaultValue ty).isDefault = true) (hcells : cells + gS D ≤ R.cells) (hslots : slots + gL D ≤ R.slots) :
    ∃ vm₁ : Vm, Stand p l e R s m args below meth c (gm (defaultValue ty) D (T.setVm vm₁)) locs (cells + gS D) (slots + gL D) ∧
      ∀ target, Steps p.tables e below ((gm (defaultValue ty) D (T.setVm vm₁)).setTop { g with pc := g.pc + 4, stack := .ref T.heap.size :: rest }) target → Steps p.tables e below (T.setTop g) target := by
  subst hg
  have hD : D ≠ [] := by intro h; subst h; simp at hk
  have hpl : e.platform.magicAccessors = ({} : Platform).magicAccessors := by rw [X.admits.platform]
  obtain ⟨c0, hfc0, hcl⟩ := Cond.classLink_spec hown hclink e.platform hpl
  cases hname.symm.trans hfc0
  obtain ⟨hg₁, hwarm₁, hready₁⟩ := State.classEntry (e := e) X.warmed hcl
  generalize T.vm.noted g.method.cls index (.cls ((D.head?.map (·.1)).getD 0)) = vm₁ at hg₁ hwarm₁ hready₁
  have hal : s.vm.Alike vm₁ := hwarm₁.alike
  have X₁ := X.noted hwarm₁
  obtain ⟨hr1, hr2⟩ := X.roomAbove hcells hslots
  have hF := gm_facts (defaultValue ty) D hD
  obtain ⟨L, XF0, hL⟩ := standG (defaultValue ty) D hD _ _ _ _ X₁
  have XF := XF0.dropFresh (fun x hx => Nat.le_trans X.heapGrown (hL x hx))
  refine ⟨vm₁, XF, fun target hrest => ?_⟩
  have hlim : e.platform.arrayLengthLimit ≥ 3000 := by rw [Launch.admits_arrayLengthLimit X.admits]; decide
  have hmax : e.platform.maxHeapBytes ≥ 24000 := by rw [Launch.admits_maxHeapBytes X.admits]; decide
  have hAK1 : ∀ g' : JFrame, AKc ((T.setVm vm₁).setTop g') D ty := fun g' => AKc.moved hal D ty hAK
  have eS : ∀ g' : JFrame, ((T.setTop g).setVm vm₁).setTop g' = (T.setVm vm₁).setTop g' := fun g' => by
    show ((T.setVm vm₁).setTop g).setTop _ = _
    rw [State.setTop_setTop]
  have fin : ∀ (d' : Bool) (acts' : List Action), True := fun _ _ => trivial
  have hcl2 := hC.1
  jvm_step X.here [hexec, hdg]
  simp only [multianewarray.sem, wp_bind', W.resolveClassAt_links (State.method?_setTop g X.here.top) hg₁]
  rw [W.popN, if_neg (by omega)]
  refine ⟨g, State.topJava?_setTop' (s := T.setVm vm₁) g X.here.top, cs.map Value.int, rest, by simp [hcl2], hstack, ?_⟩
  have hmap : ∃ x1 x2 xs, cs = x1 :: x2 :: xs ∧ (xs = [] ∨ (∃ y, xs = [y]) ∨ ∃ y z, xs = [y, z]) := by
    rcases hk with h | h | h <;> rw [h] at hcl2
    · match cs, hcl2 with
      | [a, b], _ => exact ⟨a, b, [], rfl, Or.inl rfl⟩
    · match cs, hcl2 with
      | [a, b, d], _ => exact ⟨a, b, [d], rfl, Or.inr (Or.inl ⟨d, rfl⟩)⟩
    · match cs, hcl2 with
      | [a, b, d, f], _ => exact ⟨a, b, [d, f], rfl, Or.inr (Or.inr ⟨d, f, rfl⟩)⟩
  obtain ⟨x1, x2, xs, rfl, hxs⟩ := hmap
  rcases hxs with rfl | ⟨y, rfl⟩ | ⟨y, z, rfl⟩ <;>
    (simp only [List.map_cons, List.map_nil, List.mapM_cons, List.mapM_nil, wp_bind', wp_pure']
     rw [eS]
     refine wp_makeG (ty := ty) hlim hmax hdf hdd D _ _ _ _ _ hD (hAK1 _) hC (by show T.heap.size + _ ≤ _; omega) (by show T.slotsUsed + _ ≤ _; omega) (fun d' acts' => ?_)
     rw [(hF.1 (T.setVm vm₁)).2.2.2.2.1]
     simp only [wp_bind', W.mark, W.pushRef, State.topJava?_setTop' _ XF.here.top, Option.some.injEq, exists_eq_left', State.setTop_setTop, State.heap_setTop]
     intro acts
     simp [jvm, XF.here.top]
     exact hrest)
theorem gn_mna {H : Heap} {locs : List Loc} {cells slots : Nat} {Q : State → Prop} {cc : ByteArray} {pc : Nat} {ls : Array Slot} {rest : List Value} (hexec : p.tables.exec = Jvm.exec) (hb : c.code = cc) {own name : String} {index : Nat} {ty : FieldType} {D : Dm} {cs : List Int32} (hk : D.length = 2 ∨ D.length = 3 ∨ D.length = 4)
    (hown : s.vm.findClass own = some m.cls) (hclink : (Cond.classLink own index name).before args s = true) (hname : s.vm.findClass name = some ((D.head?.map (·.1)).getD 0)) (hAK : AKc s D ty) (hC : Cts cs D) (hdg : decode cc pc = .ok (.multianewarray index D.length, 4))
    (hdf : fits ty (defaultValue ty) = true) (hdd : (defaultValue ty).isDefault = true) (hcells : cells + gS D ≤ R.cells) (hslots : slots + gL D ≤ R.slots)
    (kk : ∀ H1 : Heap, H1.size = H.size + gS D → (∀ a : Nat, a < H.size → H1[a]? = H[a]?) → Bk (defaultValue ty) D H.size H1 → W p l e R s m args below meth c H1 locs (cells + gS D) (slots + gL D) Q (F0 m (pc + 4) ls (.ref H.size :: rest))) :
    W p l e R s m args below meth c H locs cells slots Q (F0 m pc ls ((cs.map Value.int).reverse ++ rest)) := by
  intro T hT X
  have hD : D ≠ [] := by intro h; subst h; simp at hk
  subst hT
  obtain ⟨vm₁, X', st⟩ := mna_row X hexec hk hown hclink hname hAK hC (g := F0 m pc ls ((cs.map Value.int).reverse ++ rest)) rfl (by rw [hb]; exact hdg) rfl hdf hdd hcells hslots
  obtain ⟨b1, b2, b3, b4, b5, b6⟩ := (gm_facts (defaultValue ty) D hD).1 (T.setVm vm₁)
  obtain ⟨t, a1, a2⟩ := kk _ b1 b4 b6 _ rfl X'
  exact ⟨t, st t a1, a2⟩
end
