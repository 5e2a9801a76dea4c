/-! LAYER 5, THE START: arrays of arrays, of any depth -/
abbrev Dm : Type := List (ClassId × Nat)
def gS : Dm → Nat
  | [] => 0
  | (_, n) :: r => 1 + n * gS r
def gL : Dm → Nat
  | [] => 0
  | (_, n) :: r => n + n * gL r
def ocell (c : ClassId) (N h0 S : Nat) : Nat → Cell
  | 0 => { cls := c, slots := Array.replicate N .null, vm := .none }
  | i + 1 => (ocell c N h0 S i).setSlot i (.ref (h0 + 1 + i * S))
def gfl (mk : State → State) (c : ClassId) (N S : Nat) (s : State) : Nat → State
  | 0 => s.pushCell (ocell c N s.heap.size S 0)
  | i + 1 => (mk (gfl mk c N S s i)).setCell s.heap.size (ocell c N s.heap.size S (i + 1))
def gm (dv : Value) : Dm → State → State
  | [] => fun s => s
  | [(c, n)] => fun s => s.pushCell (Jvm.Free.Multi.innerC c n dv)
  | (c, n) :: r :: rest => fun s => gfl (gm dv (r :: rest)) c n (gS (r :: rest)) s n
def Bk (dv : Value) : Dm → Nat → Heap → Prop
  | [], _, _ => True
  | [(c, n)], b, H => H[b]? = some (Jvm.Free.Multi.innerC c n dv)
  | (c, n) :: r :: rest, b, H => H[b]? = some (ocell c n b (gS (r :: rest)) n) ∧ ∀ i : Nat, i < n → Bk dv (r :: rest) (b + 1 + i * gS (r :: rest)) H
theorem gS_pos {c : ClassId} {n : Nat} {r : Dm} : 1 ≤ gS ((c, n) :: r) := by show 1 ≤ 1 + n * gS r; omega
theorem ocell_facts (c : ClassId) (N h0 S : Nat) : ∀ i, (ocell c N h0 S i).cls = c ∧ (ocell c N h0 S i).vm = .none ∧ (ocell c N h0 S i).slots.size = N
  | 0 => ⟨rfl, rfl, by simp [ocell]⟩
  | i + 1 => by
    obtain ⟨a, b, d⟩ := ocell_facts c N h0 S i
    exact ⟨by simp [ocell, Cell.setSlot, a], by simp [ocell, Cell.setSlot, b], by simp [ocell, Cell.setSlot, d]⟩
/-- what a maker of blocks does -/
def MkF (mk : State → State) (S L : Nat) (B : Nat → Heap → Prop) : Prop :=
  (∀ s : State, (mk s).heap.size = s.heap.size + S ∧ (mk s).vm = s.vm ∧ (mk s).slotsUsed = s.slotsUsed + L ∧ (∀ a : Nat, a < s.heap.size → (mk s).heap[a]? = s.heap[a]?) ∧ (∀ f : JFrame, mk (s.setTop f) = (mk s).setTop f) ∧ B s.heap.size (mk s).heap) ∧
  ∀ (b : Nat) (H H' : Heap), (∀ a : Nat, b ≤ a → a < b + S → H'[a]? = H[a]?) → B b H → B b H'
theorem gfl_facts {mk : State → State} {S L : Nat} {B : Nat → Heap → Prop} (h : MkF mk S L B) (c : ClassId) (N : Nat) (s : State) : ∀ i : Nat, (gfl mk c N S s i).heap.size = s.heap.size + 1 + i * S ∧ (gfl mk c N S s i).heap[s.heap.size]? = some (ocell c N s.heap.size S i) ∧ (gfl mk c N S s i).vm = s.vm ∧ (gfl mk c N S s i).slotsUsed = s.slotsUsed + N + i * L ∧
    (∀ a : Nat, a < s.heap.size → (gfl mk c N S s i).heap[a]? = s.heap[a]?) ∧ (∀ f : JFrame, gfl mk c N S (s.setTop f) i = (gfl mk c N S s i).setTop f) ∧ ∀ j : Nat, j < i → B (s.heap.size + 1 + j * S) (gfl mk c N S s i).heap
  | 0 => ⟨by simp [gfl], by simp [gfl], rfl, by simp [gfl, ocell], fun a ha => State.heap_pushCell_of_lt _ _ ha, fun f => rfl, fun j hj => absurd hj (Nat.not_lt_zero _)⟩
  | i + 1 => by
    obtain ⟨a1, a2, a3, a4, a5, a6, a7⟩ := gfl_facts h c N s i
    obtain ⟨b1, b2, b3, b4, b5, b6⟩ := h.1 (gfl mk c N S s i)
    have hlt : s.heap.size < (gfl mk c N S s i).heap.size := by rw [a1]; omega
    have hb' : (mk (gfl mk c N S s i)).heap[s.heap.size]? = some (ocell c N s.heap.size S i) := by rw [b4 _ hlt]; exact a2
    have em : (i + 1) * S = i * S + S := Nat.succ_mul i S
    have el : (i + 1) * L = i * L + L := Nat.succ_mul i L
    have hoth : ∀ a : Nat, a ≠ s.heap.size → (gfl mk c N S s (i + 1)).heap[a]? = (mk (gfl mk c N S s i)).heap[a]? := fun a ha => State.heap_setCell_other (Ne.symm ha)
    refine ⟨?_, State.heap_setCell_self hb', by simp [gfl, b2, a3], ?_, fun a ha => ?_, fun f => ?_, fun j hj => ?_⟩
    · have : (gfl mk c N S s (i + 1)).heap.size = (mk (gfl mk c N S s i)).heap.size := by simp [gfl, State.setCell]
      rw [this, b1, a1, em]; omega
    · have : (gfl mk c N S s (i + 1)).slotsUsed = (mk (gfl mk c N S s i)).slotsUsed := by simp [gfl]
      rw [this, b3, a4, el]; omega
    · rw [hoth a (by omega), b4 a (by omega)]; exact a5 a ha
    · show (mk (gfl mk c N S (s.setTop f) i)).setCell _ _ = _
      rw [a6 f, b5 f]
      simp only [gfl, State.heap_setTop, State.setCell_setTop]
    · by_cases e : j < i
      · have hm : j * S + S ≤ i * S := by rw [← Nat.succ_mul]; exact Nat.mul_le_mul_right S e
        refine h.2 _ _ _ (fun a ha1 ha2 => ?_) (a7 j e)
        rw [hoth a (by omega), b4 a (by rw [a1]; omega)]
      · have ej : j = i := by omega
        subst ej
        refine h.2 _ _ _ (fun a ha1 ha2 => hoth a (by omega)) ?_
        rw [← a1]; exact b6
theorem gm_facts (dv : Value) : ∀ D : Dm, D ≠ [] → MkF (gm dv D) (gS D) (gL D) (Bk dv D)
  | [], h => absurd rfl h
  | [(c, n)], _ => by
    refine ⟨fun s => ⟨by simp [gm, gS], rfl, by simp [gm, gL, Jvm.Free.Multi.innerC], fun a ha => State.heap_pushCell_of_lt _ _ ha, fun f => rfl, ?_⟩, fun b H H' hh hB => ?_⟩
    · show (s.pushCell _).heap[s.heap.size]? = _
      exact State.heap_pushCell_size _ _
    · show H'[b]? = _
      rw [hh b (Nat.le_refl _) (by simp [gS])]; exact hB
  | (c, n) :: r :: rest, _ => by
    have ih := gm_facts dv (r :: rest) (by simp)
    refine ⟨fun s => ?_, fun b H H' hh hB => ⟨?_, fun i hi => ?_⟩⟩
    · obtain ⟨a1, a2, a3, a4, a5, a6, a7⟩ := gfl_facts ih c n s n
      refine ⟨by show (gfl _ _ _ _ _ _).heap.size = _ + (1 + n * gS (r :: rest)); rw [a1]; omega, a3, by show (gfl _ _ _ _ _ _).slotsUsed = _ + (n + n * gL (r :: rest)); rw [a4]; omega, a5, a6, a2, a7⟩
    · rw [hh b (Nat.le_refl _) (by have := gS_pos (c := c) (n := n) (r := r :: rest); omega)]; exact hB.1
    · have hm : i * gS (r :: rest) + gS (r :: rest) ≤ n * gS (r :: rest) := by rw [← Nat.succ_mul]; exact Nat.mul_le_mul_right _ hi
      refine ih.2 _ _ _ (fun a ha1 ha2 => hh a (by omega) ?_) (hB.2 i hi)
      show a < b + (1 + n * gS (r :: rest))
      omega
/-- the classes of a block, level by level -/
def AKc (U : State) : Dm → FieldType → Prop
  | [], _ => False
  | [(c, _)], ty => ∃ k cc, U.vm.classes[c]? = some k ∧ k.kind = .array cc ty
  | (c, _) :: (c2, n2) :: rest, ty => (∃ k t0, U.vm.classes[c]? = some k ∧ k.kind = .array c2 t0 ∧ t0.isReference = true) ∧ AKc U ((c2, n2) :: rest) ty
theorem AKc.moved {u U : State} (hvm : u.vm.Alike U.vm) : ∀ (D : Dm) (ty : FieldType), AKc u D ty → AKc U D ty
  | [], _, h => h
  | [(c, _)], ty, ⟨k, cc, h1, h2⟩ => by
    obtain ⟨k', h3, h4⟩ := hvm.2.2 _ _ h1
    exact ⟨k', cc, h3, by rw [h4]; exact h2⟩
  | (c, _) :: (c2, n2) :: rest, ty, ⟨⟨k, t0, h1, h2, h5⟩, h⟩ => by
    obtain ⟨k', h3, h4⟩ := hvm.2.2 _ _ h1
    exact ⟨⟨k', t0, h3, by rw [h4]; exact h2, h5⟩, AKc.moved hvm _ ty h⟩
theorem cbytes (t : FieldType) : componentBytes t ≤ 8 := by cases t <;> simp [componentBytes]
def Cts (cs : List Int32) (D : Dm) : Prop := cs.length = D.length ∧ ∀ (j : Nat) (n : Int32) (q : ClassId × Nat), cs[j]? = some n → D[j]? = some q → ¬ n < 0 ∧ n.toNatClampNeg = q.2 ∧ q.2 ≤ 3000
section
variable {E : CtlPost} {e : Env}
theorem wp_makeG {ty : FieldType} (hpl : e.platform.arrayLengthLimit ≥ 3000) (hph : e.platform.maxHeapBytes ≥ 24000) (hdf : fits ty (defaultValue ty) = true) (hdd : (defaultValue ty).isDefault = true) : ∀ (D : Dm) (cs : List Int32) (s : State) (d : Bool) (acts : List Action) (Q : Addr → Pre), D ≠ [] → AKc s D ty → Cts cs D → s.heap.size + gS D ≤ e.platform.maxCells → s.slotsUsed + gL D ≤ e.platform.maxSlots → (∀ d' acts', Q s.heap.size d' acts' (gm (defaultValue ty) D s)) → wp (multianewarray.make ((D.head?.map (·.1)).getD 0) cs) Q E e d acts s
  | [], _, _, _, _, _, h, _, _, _, _, _ => absurd rfl h
  | [(c, n)], cs, s, d, acts, Q, _, hk, hc, h1, h2, hq => by
    obtain ⟨k, cc, hk1, hk2⟩ := hk
    obtain ⟨m, rfl⟩ : ∃ m, cs = [m] := by
      have := hc.1
      match cs, this with
      | [m], _ => exact ⟨m, rfl⟩
    obtain ⟨hm, hmn, h3⟩ := hc.2 0 m (c, n) rfl rfl
    have hmn : m.toNatClampNeg = n := hmn
    have h3 : n ≤ 3000 := h3
    have hcb := cbytes ty
    have hmb : n * componentBytes ty ≤ 24000 := Nat.le_trans (Nat.mul_le_mul h3 hcb) (by omega)
    have hgS : gS [(c, n)] = 1 := by simp [gS]
    have hgL : gL [(c, n)] = n := by simp [gL]
    rw [hgS] at h1
    rw [hgL] at h2
    subst hmn
    refine Jvm.Free.Multi.wp_make1 hk1 hk2 hm (by omega) (by omega) hdf hdd (by omega) (by omega) ?_
    exact hq d acts
  | (c, n) :: (c2, n2) :: rest, cs, s, d, acts, Q, _, hk, hc, h1, h2, hq => by
    obtain ⟨⟨k, t0, hk1, hk2, href⟩, hkr⟩ := hk
    obtain ⟨m, ms, rfl, hms⟩ : ∃ m ms, cs = m :: ms ∧ ms ≠ [] := by
      have := hc.1
      match cs, this with
      | m :: m2 :: ms, _ => exact ⟨m, m2 :: ms, rfl, by simp⟩
    obtain ⟨hm, hmn, h3⟩ := hc.2 0 m (c, n) rfl rfl
    have hmn : m.toNatClampNeg = n := hmn
    have h3 : n ≤ 3000 := h3
    have hcr : Cts ms ((c2, n2) :: rest) := ⟨Nat.succ.inj hc.1, fun j x q h4 h5 => hc.2 (j + 1) x q h4 h5⟩
    have hcb := cbytes t0
    have hmb : n * componentBytes t0 ≤ 24000 := Nat.le_trans (Nat.mul_le_mul h3 hcb) (by omega)
    have hgS : gS ((c, n) :: (c2, n2) :: rest) = 1 + n * gS ((c2, n2) :: rest) := rfl
    have hgL : gL ((c, n) :: (c2, n2) :: rest) = n + n * gL ((c2, n2) :: rest) := rfl
    rw [hgS] at h1
    rw [hgL] at h2
    have hF := gm_facts (defaultValue ty) ((c2, n2) :: rest) (by simp)
    have ih := wp_makeG hpl hph hdf hdd ((c2, n2) :: rest)
    generalize hSS : gS ((c2, n2) :: rest) = S at *
    generalize hLL : gL ((c2, n2) :: rest) = LL at *
    have hgm : ∀ s, gm (defaultValue ty) ((c, n) :: (c2, n2) :: rest) s = gfl (gm (defaultValue ty) ((c2, n2) :: rest)) c n S s n := fun s => by rw [← hSS]; rfl
    subst hmn
    show wp (multianewarray.make c (m :: ms)) Q E e d acts s
    have hfind : (ms.find? (· < 0)) = none := by
      rw [List.find?_eq_none]
      intro x hx
      obtain ⟨j, hj⟩ := List.mem_iff_getElem?.mp hx
      have hjl : j < ms.length := (List.getElem?_eq_some_iff.mp hj).1
      obtain ⟨q, hq2⟩ : ∃ q, ((c2, n2) :: rest)[j]? = some q := ⟨_, List.getElem?_eq_getElem (by rw [← hcr.1]; exact hjl)⟩
      simpa using (hcr.2 j x q hj hq2).1
    rw [multianewarray.make]
    have hne : ∀ (α : Type) (a b : α), (match ms with | [] => a | _ => b) = b := fun α a b => by
      cases ms with
      | nil => exact absurd rfl hms
      | cons _ _ => rfl
    simp only [wp_bind', W.ite, hm, if_false, wp_pure', W.theClass, hk1, hk2, Option.some.injEq, exists_eq_left']
    obtain ⟨m2, ms2, rfl⟩ : ∃ m2 ms2, ms = m2 :: ms2 := by
      cases ms with
      | nil => exact absurd rfl hms
      | cons a b => exact ⟨a, b, rfl⟩
    refine Jvm.Free.Multi.wp_newArray hk1 hk2 (by omega) (by omega) (Jvm.Free.Multi.refFits href _ (Or.inl rfl)) rfl (by omega) (by omega) ?_
    simp only [hfind]
    rw [ite_self, wp_bind', Std.Legacy.Range.forIn_eq_forIn_range']
    have hsz : ([:m.toNatClampNeg] : Std.Legacy.Range).size = m.toNatClampNeg := by simp [Std.Legacy.Range.size]
    rw [hsz]
    show wp (forIn (List.range' 0 m.toNatClampNeg 1) PUnit.unit _) _ E e d acts _
    refine wp_forIn_inv (fun rst s' => ∃ i, i ≤ m.toNatClampNeg ∧ rst = List.range' i (m.toNatClampNeg - i) ∧ s' = gfl (gm (defaultValue ty) ((c2, n2) :: rest)) c m.toNatClampNeg S s i) _ _ ⟨0, Nat.zero_le _, rfl, rfl⟩ ?_ ?_
    · rintro x rst s' d' acts' Q' ⟨i, hi, hl, rfl⟩ hnext
      have hlt : i < m.toNatClampNeg := by
        rcases Nat.lt_or_ge i m.toNatClampNeg with h | h
        · exact h
        · rw [show m.toNatClampNeg - i = 0 from by omega] at hl; simp at hl
      obtain ⟨rfl, hrest⟩ : x = i ∧ rst = List.range' (i + 1) (m.toNatClampNeg - (i + 1)) := by
        rw [show m.toNatClampNeg - i = (m.toNatClampNeg - (i + 1)) + 1 from by omega, List.range'_succ] at hl
        exact ⟨(List.cons.inj hl).1, (List.cons.inj hl).2⟩
      obtain ⟨f1, f2, f3, f4, f5, f6, f7⟩ := gfl_facts hF c m.toNatClampNeg s x
      obtain ⟨o1, o2, o3⟩ := ocell_facts c m.toNatClampNeg s.heap.size S x
      have hmul : x * S + S ≤ m.toNatClampNeg * S := by rw [← Nat.succ_mul]; exact Nat.mul_le_mul_right _ hlt
      have hmulL : x * LL + LL ≤ m.toNatClampNeg * LL := by rw [← Nat.succ_mul]; exact Nat.mul_le_mul_right _ hlt
      obtain ⟨g1, g2, g3, g4, g5, g6⟩ := hF.1 (gfl (gm (defaultValue ty) ((c2, n2) :: rest)) c m.toNatClampNeg S s x)
      have hlt0 : s.heap.size < (gfl (gm (defaultValue ty) ((c2, n2) :: rest)) c m.toNatClampNeg S s x).heap.size := by rw [f1]; omega
      simp only [wp_bind']
      refine ih (m2 :: ms2) _ d' acts' _ (by simp) (AKc.moved (by rw [f3]; exact Vm.Alike.refl _) _ _ hkr) hcr (by rw [f1]; omega) (by rw [f4]; omega) (fun d2 acts2 => ?_)
      simp only [wp_bind', W.writeLoc, wp_pure']
      refine ⟨ocell c m.toNatClampNeg s.heap.size S x, by rw [g4 _ hlt0]; exact f2, by rw [o2]; simp, by rw [o3]; exact hlt, ?_, hnext _ _ _ ⟨x + 1, hlt, hrest, ?_⟩⟩
      · rw [o1, o2]
        simp [State.fitsSlot, State.slotType?, g2, f3, hk1, hk2, Jvm.Free.Multi.refFits href _ (Or.inr ⟨_, rfl⟩)]
      · rw [f1]; rfl
    · rintro s' d' acts' ⟨i, hi, hl, rfl⟩
      have hiN : i = m.toNatClampNeg := by
        rcases Nat.lt_or_ge i m.toNatClampNeg with h | h
        · rw [show m.toNatClampNeg - i = (m.toNatClampNeg - (i + 1)) + 1 from by omega, List.range'_succ] at hl; cases hl
        · omega
      subst hiN
      simp only [wp_pure']
      rw [← hgm s]
      exact hq _ _
end
