/-! THROWS: their words -/
def exS : List String := ["java/lang/RuntimeException", "java/lang/Exception"]
def exW (ik ic : Nat) (cls : String) : List Cond := Cond.classLink RX9 ik cls :: Cond.initialized cls :: vx_atS RX9 ic cls exS
def exOK (L : List Cond) : Prop := ∀ w ∈ L, w ∈ lw_tbl ∧ vx_ot w = true ∧ (goodWord w = true ∨ nwk w = true)
theorem exw_2o : ∀ w ∈ exW 84 88 "java/lang/IllegalArgumentException", vx_ot w = true ∧ (goodWord w = true ∨ nwk w = true) := by decide +kernel
theorem exw_0o : ∀ w ∈ exW 320 324 "java/lang/IllegalStateException", vx_ot w = true ∧ (goodWord w = true ∨ nwk w = true) := by decide +kernel
theorem exw_2m : ∀ w ∈ exW 84 88 "java/lang/IllegalArgumentException", w ∈ lw_tbl := by decide +kernel
theorem exw_0m : ∀ w ∈ exW 320 324 "java/lang/IllegalStateException", w ∈ lw_tbl := by decide +kernel
