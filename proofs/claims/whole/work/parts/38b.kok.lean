/-! THE START'S FACTS: classes of arrays -/
def Kof (s : State) (ty : FieldType) : ClassId := (s.vm.findClass ("[" ++ ty.toString)).getD 0
section
variable {args : Array Value} {s : State}
theorem Kof_eq {ty : FieldType} {c : ClassId} (h : s.vm.findClass ("[" ++ ty.toString) = some c) : Kof s ty = c := by
  unfold Kof
  rw [h]
  rfl
theorem kp_prim {ty : FieldType} (h : (Cond.arrayClass ty).before args s = true) : s.vm.findClass ("[" ++ ty.toString) = some (Kof s ty) ∧ (∃ k cc, s.vm.classes[Kof s ty]? = some k ∧ k.kind = .array cc ty) ∧ ArrOfT s (Kof s ty) ty := by
  obtain ⟨c, k, comp, h1, h2, h3⟩ := Cond.arrayClass_spec h
  have e := Kof_eq h1
  rw [e]
  exact ⟨h1, ⟨k, comp, h2, h3⟩, fun n z => ⟨(fun k h => by cases h), k, h2, comp, h3⟩⟩
theorem kp_arr {t : FieldType} (h : (Cond.arrayOver (.array t)).before args s = true) : s.vm.findClass ("[" ++ (FieldType.array t).toString) = some (Kof s (.array t)) ∧ (∃ k, s.vm.classes[Kof s (.array t)]? = some k ∧ k.kind = .array (Kof s t) (.array t)) ∧ ArrOfT s (Kof s (.array t)) (.array t) := by
  obtain ⟨comp, c, k, h1, h2, h3, h4⟩ := Cond.arrayOver_specA h
  have e := Kof_eq h4
  have e2 : Kof s t = comp := Kof_eq h1
  rw [e, e2]
  exact ⟨h4, ⟨k, h2, h3⟩, fun n z => ⟨(fun k h => by cases h), k, h2, comp, h3⟩⟩
theorem kp_obj {n : String} (h : (Cond.arrayOver (.object n)).before args s = true) : ArrOfT s (Kof s (.object n)) (.object n) ∧ va_RA s (Kof s (.object n)) (.object n) := by
  obtain ⟨comp, c, k, h1, -, h2, h3, h4⟩ := Cond.arrayOver_spec h
  have e := Kof_eq h4
  rw [e]
  exact ⟨fun n z => ⟨(fun k h => by cases h), k, h2, comp, h3⟩, ⟨k, comp, h2, h3, h1, h4⟩⟩
def etL : List FieldType := [.int, .long, .boolean, .array .int, .array (.array .int), .array (.array (.array .int)), .array .long, .array (.array .long), .array (.array (.array .long)), .array .boolean, .object "PatentRaces$Desk"]
theorem eTy_in : ∀ t, t < 116 → 20 ≤ t → eTy t ∈ etL := by decide +kernel
theorem start_KK (hts : ∀ w ∈ lw_tbl, w.before args s = true) : KOK (Kof s) s := by
  have i0 := kp_prim (hts (.arrayClass .int) (tk1 (List.mem_of_getElem? (i := 124) rfl)))
  have z0 := kp_prim (hts (.arrayClass .boolean) (tk1 (List.mem_of_getElem? (i := 125) rfl)))
  have j0 := kp_prim (hts (.arrayClass .long) (tk2 (List.mem_of_getElem? (i := 9) rfl)))
  have i1 := kp_arr (hts (.arrayOver (.array .int)) (tk6 (List.mem_of_getElem? (i := 136) rfl)))
  have j3 := kp_arr (hts (.arrayOver (.array (.array (.array .long)))) (tk6 (List.mem_of_getElem? (i := 138) rfl)))
  have j2 := kp_arr (hts (.arrayOver (.array (.array .long))) (tk6 (List.mem_of_getElem? (i := 139) rfl)))
  have j1 := kp_arr (hts (.arrayOver (.array .long)) (tk6 (List.mem_of_getElem? (i := 140) rfl)))
  have i3 := kp_arr (hts (.arrayOver (.array (.array (.array .int)))) (tk6 (List.mem_of_getElem? (i := 142) rfl)))
  have i2 := kp_arr (hts (.arrayOver (.array (.array .int))) (tk6 (List.mem_of_getElem? (i := 143) rfl)))
  have z1 := kp_arr (hts (.arrayOver (.array .boolean)) (tk6 (List.mem_of_getElem? (i := 148) rfl)))
  have hd := hts (.arrayOver (.object "PatentRaces$Desk")) (tk1 (List.mem_of_getElem? (i := 203) rfl))
  have d0 := kp_obj hd
  refine ⟨fun t h1 h2 => ?_, va_AO.of hd, fun b hb => ?_, fun b j hb hj hz => ?_⟩
  · have hm := eTy_in t h2 h1
    generalize eTy t = ty at hm ⊢
    simp only [etL, List.mem_cons, List.not_mem_nil, or_false] at hm
    rcases hm with rfl | rfl | rfl | rfl | rfl | rfl | rfl | rfl | rfl | rfl | rfl
    · exact ⟨i0.2.2, i0.1⟩
    · exact ⟨j0.2.2, j0.1⟩
    · exact ⟨z0.2.2, z0.1⟩
    · exact ⟨i1.2.2, i1.1⟩
    · exact ⟨i2.2.2, i2.1⟩
    · exact ⟨i3.2.2, i3.1⟩
    · exact ⟨j1.2.2, j1.1⟩
    · exact ⟨j2.2.2, j2.1⟩
    · exact ⟨j3.2.2, j3.1⟩
    · exact ⟨z1.2.2, z1.1⟩
    · exact d0
  · match b, hb with
    | 0, _ => exact i0.2.1
    | 1, _ => exact j0.2.1
    | 2, _ => exact z0.2.1
  · match b, hb, j, hj with
    | 0, _, 0, _ => exact i1.2.1
    | 0, _, 1, _ => exact i2.2.1
    | 0, _, 2, _ => exact i3.2.1
    | 1, _, 0, _ => exact j1.2.1
    | 1, _, 1, _ => exact j2.2.1
    | 1, _, 2, _ => exact j3.2.1
    | 2, _, 0, _ => exact z1.2.1
    | 2, _, 1, _ => exact absurd (hz rfl) (by decide)
    | 2, _, 2, _ => exact absurd (hz rfl) (by decide)
end
