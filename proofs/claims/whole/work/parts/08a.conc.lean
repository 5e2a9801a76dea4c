/-! WHAT THE ABSTRACT MACHINE STANDS FOR: values, locals -/
def inR (x : Int) : Prop := -2147483648 ≤ x ∧ x ≤ 2147483647
theorem inR_toInt (y : Int32) : inR y.toInt := by
  have h1 := Int32.le_toInt y
  have h2 := Int32.toInt_lt y
  constructor <;> omega
theorem ofInt_toInt32 (y : Int32) : Int32.ofInt y.toInt = y := Int32.ofInt_toInt y
theorem toInt_ofInt32 {x : Int} (h : inR x) : (Int32.ofInt x).toInt = x := by
  rw [Int32.toInt_ofInt]
  obtain ⟨h1, h2⟩ := h
  exact Int.bmod_eq_of_le (by simp [Int32.size]; omega) (by simp [Int32.size]; omega)
theorem w32_R (z : Int) : inR (w32 z) := inR_toInt _
theorem of_w32 (z : Int) : Int32.ofInt (w32 z) = Int32.ofInt z := ofInt_toInt32 _
theorem w32_of {z : Int} (h1 : -2147483648 ≤ z) (h2 : z ≤ 2147483647) : w32 z = z := toInt_ofInt32 ⟨h1, h2⟩
theorem ofInt_inj {x y : Int} (hx : inR x) (hy : inR y) : Int32.ofInt x = Int32.ofInt y ↔ x = y :=
  ⟨fun h => by rw [← toInt_ofInt32 hx, ← toInt_ofInt32 hy, h], fun h => by rw [h]⟩
theorem ofInt_lt {x y : Int} (hx : inR x) (hy : inR y) : Int32.ofInt x < Int32.ofInt y ↔ x < y := by
  rw [Int32.lt_iff_toInt_lt, toInt_ofInt32 hx, toInt_ofInt32 hy]
theorem ofInt_le {x y : Int} (hx : inR x) (hy : inR y) : Int32.ofInt x ≤ Int32.ofInt y ↔ x ≤ y := by
  rw [Int32.le_iff_toInt_le, toInt_ofInt32 hx, toInt_ofInt32 hy]
theorem R0 : inR 0 := by constructor <;> decide
theorem ofInt_0 : Int32.ofInt 0 = 0 := rfl
/-- where things lie: field tables, classes of arrays, addresses by tag and instance, the heap's size at the start -/
abbrev Gx : Type := va_G × (Nat → ClassId) × (Nat → Nat → Nat) × Nat
def cv (G : Gx) : AV → Value
  | .inl x => .int (Int32.ofInt x)
  | .inr (.inl x) => .long x
  | .inr (.inr (t, i)) => .ref (G.2.2.1 t i)
abbrev nI' (t : Nat) : Nat := niT.getD t 0
def okV : AV → Prop
  | .inl x => inR x
  | .inr (.inl _) => True
  | .inr (.inr (t, i)) => t = 1000 ∨ i < nI' t
def okL (l : List AV) : Prop := ∀ v ∈ l, okV v
theorem okL_nil : okL [] := fun v h => by cases h
theorem okL_cons {v : AV} {l : List AV} : okL (v :: l) ↔ okV v ∧ okL l := by
  constructor
  · intro h
    exact ⟨h v List.mem_cons_self, fun w hw => h w (List.mem_cons_of_mem _ hw)⟩
  · rintro ⟨h1, h2⟩ w hw
    rcases List.mem_cons.mp hw with rfl | hw
    · exact h1
    · exact h2 w hw
theorem okV_JK : okV JK := Or.inl rfl
theorem okV_kl {v : AV} (h : okV v) : okV (kl v) := by
  rcases v with x | x | ⟨t, i⟩
  · exact h
  · exact okV_JK
  · exact h
theorem okL_set {l : List AV} {i : Nat} {v : AV} (h : okL l) (hv : okV v) : okL (l.set i v) := fun w hw => (List.mem_or_eq_of_mem_set hw).elim (h w) (fun e => e ▸ hv)
theorem okL_modify {l : List AV} {i : Nat} (h : okL l) : okL (l.modify i kl) := by
  intro w hw
  obtain ⟨j, hj⟩ := List.getElem?_of_mem hw
  rw [List.getElem?_modify] at hj
  cases hl : l[j]? with
  | none => simp [hl] at hj
  | some u =>
    have hu := h u (List.mem_of_getElem? hl)
    simp only [hl, Option.map_eq_map, Option.map_some, Option.some.injEq] at hj
    split at hj
    · rw [← hj]; exact okV_kl hu
    · rw [← hj]; exact hu
theorem okL_stv {l : List AV} {i : Nat} {v : AV} (h : okL l) (hv : okV v) : okL (stv l i v) := by
  cases i with
  | zero => exact okL_set h hv
  | succ j => exact okL_set (okL_modify h) hv
theorem okL_stw {l : List AV} {i : Nat} {v : AV} (h : okL l) (hv : okV v) : okL (stw l i v) := okL_set (okL_stv h hv) okV_JK
theorem okL_at {l : List AV} {i : Nat} {v : AV} (h : okL l) (hv : l[i]? = some v) : okV v := h v (List.mem_of_getElem? hv)
/-- the locals as pairs -/
def lp (G : Gx) (l : List AV) : List (Nat × Value) := l.zipIdx.filterMap fun q => if q.1 = JK then none else some (q.2, cv G q.1)
theorem mem_lp {G : Gx} {l : List AV} {i : Nat} {w : Value} : (i, w) ∈ lp G l ↔ ∃ v, l[i]? = some v ∧ v ≠ JK ∧ w = cv G v := by
  unfold lp
  rw [List.mem_filterMap]
  constructor
  · rintro ⟨⟨v, j⟩, hm, h⟩
    rw [List.mem_zipIdx_iff_getElem?] at hm
    by_cases e : v = JK
    · simp [e] at h
    · rw [if_neg e] at h
      simp only [Option.some.injEq, Prod.mk.injEq] at h
      obtain ⟨rfl, rfl⟩ := h
      exact ⟨v, hm, e, rfl⟩
  · rintro ⟨v, h1, h2, rfl⟩
    exact ⟨(v, i), by rw [List.mem_zipIdx_iff_getElem?]; exact h1, by rw [if_neg h2]⟩
def LV (G : Gx) (ls : Array Slot) (nL : Nat) (l : List AV) : Prop := lv_has ls nL (lp G l) ∧ l.length = nL
theorem LV.get {G : Gx} {ls : Array Slot} {nL : Nat} {l : List AV} (h : LV G ls nL l) {i : Nat} {v : AV} (hv : l[i]? = some v) (hj : v ≠ JK) : ls[i]? = some (.val (cv G v)) := h.1.2.2 (i, cv G v) (mem_lp.mpr ⟨v, hv, hj, rfl⟩)
theorem cv_cat {G : Gx} {v : AV} : (cv G v).category = 2 ↔ ∃ x, v = vl x := by
  rcases v with x | x | ⟨t, i⟩ <;> simp [cv, Value.category]
theorem stv_len {l : List AV} {i : Nat} {v : AV} : (stv l i v).length = l.length := by
  cases i <;> simp [stv]
theorem stv_get {l : List AV} {i j : Nat} {v : AV} (hi : i < l.length) : (stv l i v)[j]? = if j = i then some v else if j + 1 = i then (l[j]?).map kl else l[j]? := by
  cases i with
  | zero =>
    simp only [stv]
    by_cases h : j = 0
    · subst h; simp [hi]
    · rw [if_neg h, if_neg (by omega), List.getElem?_set_ne (by omega)]
  | succ k =>
    simp only [stv]
    by_cases h : j = k + 1
    · subst h
      rw [if_pos rfl, List.getElem?_set_self (by simpa using hi)]
    · rw [if_neg h, List.getElem?_set_ne (by omega), List.getElem?_modify]
      by_cases h2 : j = k
      · subst h2; simp
      · rw [if_neg (by omega)]
        simp [Ne.symm h2]
theorem LV.st1 {G : Gx} {ls' : Array Slot} {nL : Nat} {l : List AV} {i : Nat} {v : AV} (hlen : l.length = nL) (hi : i < nL)
    (h : lv_has ls' nL ((i, cv G v) :: (lp G l).filter (fun q => !(q.1 == i) && !(q.1 + 1 == i && q.2.category == 2)))) : LV G ls' nL (stv l i v) := by
  refine ⟨⟨h.1, h.2.1, fun q hq => ?_⟩, by rw [stv_len]; exact hlen⟩
  obtain ⟨j, w⟩ := q
  obtain ⟨u, hu, hj, rfl⟩ := mem_lp.mp hq
  rw [stv_get (by omega)] at hu
  refine h.2.2 (j, cv G u) ?_
  by_cases e : j = i
  · rw [if_pos e] at hu
    cases hu
    subst e
    exact List.mem_cons_self
  · rw [if_neg e] at hu
    refine List.mem_cons_of_mem _ (List.mem_filter.mpr ?_)
    by_cases e2 : j + 1 = i
    · rw [if_pos e2] at hu
      cases hl : l[j]? with
      | none => simp [hl] at hu
      | some w =>
        simp only [hl, Option.map_some, Option.some.injEq] at hu
        rcases w with x | x | ⟨t, k⟩
        · subst hu
          exact ⟨mem_lp.mpr ⟨_, hl, hj, rfl⟩, by simp [e, kl, cv, Value.category]⟩
        · exact absurd hu.symm hj
        · subst hu
          exact ⟨mem_lp.mpr ⟨_, hl, hj, rfl⟩, by simp [e, kl, cv, Value.category]⟩
    · rw [if_neg e2] at hu
      exact ⟨mem_lp.mpr ⟨_, hu, hj, rfl⟩, by simp [e, e2]⟩
theorem LV.st2 {G : Gx} {ls' : Array Slot} {nL : Nat} {l : List AV} {i : Nat} {v : AV} (hlen : l.length = nL) (hi : i + 1 < nL)
    (h : lv_has ls' nL ((i, cv G v) :: (lp G l).filter (fun q => !(q.1 == i) && (!(q.1 == i + 1) && !(q.1 + 1 == i && q.2.category == 2))))) : LV G ls' nL (stw l i v) := by
  refine ⟨⟨h.1, h.2.1, fun q hq => ?_⟩, by simp [stw, stv_len]; exact hlen⟩
  obtain ⟨j, w⟩ := q
  obtain ⟨u, hu, hj, rfl⟩ := mem_lp.mp hq
  unfold stw at hu
  refine h.2.2 (j, cv G u) ?_
  by_cases e3 : j = i + 1
  · subst e3
    rw [List.getElem?_set_self (by rw [stv_len]; omega)] at hu
    exact absurd (Option.some.inj hu).symm hj
  · rw [List.getElem?_set_ne (by omega), stv_get (by omega)] at hu
    by_cases e : j = i
    · rw [if_pos e] at hu
      cases hu
      subst e
      exact List.mem_cons_self
    · rw [if_neg e] at hu
      refine List.mem_cons_of_mem _ (List.mem_filter.mpr ?_)
      by_cases e2 : j + 1 = i
      · rw [if_pos e2] at hu
        cases hl : l[j]? with
        | none => simp [hl] at hu
        | some w =>
          simp only [hl, Option.map_some, Option.some.injEq] at hu
          rcases w with x | x | ⟨t, k⟩
          · subst hu
            exact ⟨mem_lp.mpr ⟨_, hl, hj, rfl⟩, by simp [e, e3, kl, cv, Value.category]⟩
          · exact absurd hu.symm hj
          · subst hu
            exact ⟨mem_lp.mpr ⟨_, hl, hj, rfl⟩, by simp [e, e3, kl, cv, Value.category]⟩
      · rw [if_neg e2] at hu
        exact ⟨mem_lp.mpr ⟨_, hu, hj, rfl⟩, by simp [e, e2, e3]⟩
/-- a handler's catch: the local forgotten -/
theorem LV.forget {G : Gx} {ls' : Array Slot} {nL : Nat} {l : List AV} {i : Nat} {w : Value} (hlen : l.length = nL) (hi : i < nL)
    (h : lv_has ls' nL ((i, w) :: (lp G l).filter (fun q => !(q.1 == i) && !(q.1 + 1 == i && q.2.category == 2)))) : LV G ls' nL (stv l i JK) := by
  refine ⟨⟨h.1, h.2.1, fun q hq => ?_⟩, by rw [stv_len]; exact hlen⟩
  obtain ⟨j, w⟩ := q
  obtain ⟨u, hu, hj, rfl⟩ := mem_lp.mp hq
  rw [stv_get (by omega)] at hu
  refine h.2.2 (j, cv G u) ?_
  by_cases e : j = i
  · rw [if_pos e] at hu
    exact absurd (Option.some.inj hu).symm hj
  · rw [if_neg e] at hu
    refine List.mem_cons_of_mem _ (List.mem_filter.mpr ?_)
    by_cases e2 : j + 1 = i
    · rw [if_pos e2] at hu
      cases hl : l[j]? with
      | none => simp [hl] at hu
      | some w =>
        simp only [hl, Option.map_some, Option.some.injEq] at hu
        rcases w with x | x | ⟨t, k⟩
        · subst hu
          exact ⟨mem_lp.mpr ⟨_, hl, hj, rfl⟩, by simp [e, kl, cv, Value.category]⟩
        · exact absurd hu.symm hj
        · subst hu
          exact ⟨mem_lp.mpr ⟨_, hl, hj, rfl⟩, by simp [e, kl, cv, Value.category]⟩
    · rw [if_neg e2] at hu
      exact ⟨mem_lp.mpr ⟨_, hu, hj, rfl⟩, by simp [e, e2]⟩
