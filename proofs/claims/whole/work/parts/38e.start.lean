/-! THE START'S FACTS: what lies below the new cells (by gen38e.py) -/
def zsO : List (String × Nat) := [("PatentRaces", 86), ("PatentRaces", 138), ("PatentRaces", 187), ("PatentRaces", 211), ("PatentRaces", 260), ("PatentRaces", 265), ("PatentRaces", 280), ("PatentRaces", 322), ("PatentRaces", 327), ("PatentRaces", 330), ("PatentRaces", 332), ("PatentRaces", 334), ("PatentRaces$Reader", 82), ("PatentRaces$Reader", 92), ("PatentRaces$Reader", 100), ("PatentRaces$Reader", 104), ("PatentRaces$Reader", 108), ("PatentRaces$Reader", 112), ("PatentRaces$Reader", 120), ("PatentRaces$Reader", 128), ("PatentRaces$Reader", 132), ("PatentRaces$Reader", 140), ("PatentRaces$Reader", 147), ("PatentRaces$Reader", 155), ("PatentRaces$Reader", 157), ("PatentRaces$Reader", 180), ("PatentRaces$Reader", 182), ("PatentRaces$Reader", 184)]
def zsm (i : Nat) : Term := Term.string (zsO.getD i ("", 0)).1 (zsO.getD i ("", 0)).2
def zfl : List Cond := flatC (Cond.and given_1 narrow_1)
def zsv (i : Nat) : Term := .field (zsm i) "java/lang/String" "value" "[B"
set_option maxRecDepth 100000 in
theorem n_str1 : ∀ i : Nat, i < 28 → Cond.exactly (zsm i) "java/lang/String" ∈ zfl := by decide +kernel
set_option maxRecDepth 100000 in
theorem n_str2 : ∀ i : Nat, i < 28 → Cond.eq (.field (zsm i) "java/lang/String" "coder" "B") (.int 0) ∈ zfl := by decide +kernel
set_option maxRecDepth 100000 in
theorem n_str3 : ∀ i : Nat, i < 28 → Cond.arrayOf (zsv i) .byte ∈ zfl := by decide +kernel
set_option maxRecDepth 100000 in
theorem n_str4 : ∀ i : Nat, i < 28 → Cond.eq (.length (zsv i)) (.int (Int32.ofNat (strT.getD i []).length)) ∈ zfl := by decide +kernel
def zat (i : Nat) : Nat := [66, 228, 297, 339, 372, 389, 405, 260, 244, 356, 280, 313, 99, 121, 130, 140, 149, 158, 168, 219, 107, 115, 213, 206, 176, 183, 190, 198].getD i 0
set_option maxRecDepth 100000 in
theorem n_str5_0 : ∀ i : Nat, i < 2 → ∀ j : Nat, j < (strT.getD (0 + i) []).length → zfl[zat (0 + i) + j]? = some (Cond.eq (.elem (zsv (0 + i)) (.int (Int32.ofNat j))) (.int (Int32.ofInt ((strT.getD (0 + i) []).getD j 0)))) := by decide +kernel
set_option maxRecDepth 100000 in
theorem n_str5_2 : ∀ i : Nat, i < 2 → ∀ j : Nat, j < (strT.getD (2 + i) []).length → zfl[zat (2 + i) + j]? = some (Cond.eq (.elem (zsv (2 + i)) (.int (Int32.ofNat j))) (.int (Int32.ofInt ((strT.getD (2 + i) []).getD j 0)))) := by decide +kernel
set_option maxRecDepth 100000 in
theorem n_str5_4 : ∀ i : Nat, i < 2 → ∀ j : Nat, j < (strT.getD (4 + i) []).length → zfl[zat (4 + i) + j]? = some (Cond.eq (.elem (zsv (4 + i)) (.int (Int32.ofNat j))) (.int (Int32.ofInt ((strT.getD (4 + i) []).getD j 0)))) := by decide +kernel
set_option maxRecDepth 100000 in
theorem n_str5_6 : ∀ i : Nat, i < 2 → ∀ j : Nat, j < (strT.getD (6 + i) []).length → zfl[zat (6 + i) + j]? = some (Cond.eq (.elem (zsv (6 + i)) (.int (Int32.ofNat j))) (.int (Int32.ofInt ((strT.getD (6 + i) []).getD j 0)))) := by decide +kernel
set_option maxRecDepth 100000 in
theorem n_str5_8 : ∀ i : Nat, i < 2 → ∀ j : Nat, j < (strT.getD (8 + i) []).length → zfl[zat (8 + i) + j]? = some (Cond.eq (.elem (zsv (8 + i)) (.int (Int32.ofNat j))) (.int (Int32.ofInt ((strT.getD (8 + i) []).getD j 0)))) := by decide +kernel
set_option maxRecDepth 100000 in
theorem n_str5_10 : ∀ i : Nat, i < 2 → ∀ j : Nat, j < (strT.getD (10 + i) []).length → zfl[zat (10 + i) + j]? = some (Cond.eq (.elem (zsv (10 + i)) (.int (Int32.ofNat j))) (.int (Int32.ofInt ((strT.getD (10 + i) []).getD j 0)))) := by decide +kernel
set_option maxRecDepth 100000 in
theorem n_str5_12 : ∀ i : Nat, i < 8 → ∀ j : Nat, j < (strT.getD (12 + i) []).length → zfl[zat (12 + i) + j]? = some (Cond.eq (.elem (zsv (12 + i)) (.int (Int32.ofNat j))) (.int (Int32.ofInt ((strT.getD (12 + i) []).getD j 0)))) := by decide +kernel
set_option maxRecDepth 100000 in
theorem n_str5_20 : ∀ i : Nat, i < 8 → ∀ j : Nat, j < (strT.getD (20 + i) []).length → zfl[zat (20 + i) + j]? = some (Cond.eq (.elem (zsv (20 + i)) (.int (Int32.ofNat j))) (.int (Int32.ofInt ((strT.getD (20 + i) []).getD j 0)))) := by decide +kernel
theorem n_str5 {i j : Nat} (hi : i < 28) (hj : j < (strT.getD i []).length) : Cond.eq (.elem (zsv i) (.int (Int32.ofNat j))) (.int (Int32.ofInt ((strT.getD i []).getD j 0))) ∈ zfl := by
  by_cases h0 : i < 2
  · have h := n_str5_0 (i - 0) (by omega) j
    rw [show 0 + (i - 0) = i by omega] at h
    exact List.mem_of_getElem? (h hj)
  by_cases h1 : i < 4
  · have h := n_str5_2 (i - 2) (by omega) j
    rw [show 2 + (i - 2) = i by omega] at h
    exact List.mem_of_getElem? (h hj)
  by_cases h2 : i < 6
  · have h := n_str5_4 (i - 4) (by omega) j
    rw [show 4 + (i - 4) = i by omega] at h
    exact List.mem_of_getElem? (h hj)
  by_cases h3 : i < 8
  · have h := n_str5_6 (i - 6) (by omega) j
    rw [show 6 + (i - 6) = i by omega] at h
    exact List.mem_of_getElem? (h hj)
  by_cases h4 : i < 10
  · have h := n_str5_8 (i - 8) (by omega) j
    rw [show 8 + (i - 8) = i by omega] at h
    exact List.mem_of_getElem? (h hj)
  by_cases h5 : i < 12
  · have h := n_str5_10 (i - 10) (by omega) j
    rw [show 10 + (i - 10) = i by omega] at h
    exact List.mem_of_getElem? (h hj)
  by_cases h6 : i < 20
  · have h := n_str5_12 (i - 12) (by omega) j
    rw [show 12 + (i - 12) = i by omega] at h
    exact List.mem_of_getElem? (h hj)
  by_cases h7 : i < 28
  · have h := n_str5_20 (i - 20) (by omega) j
    rw [show 20 + (i - 20) = i by omega] at h
    exact List.mem_of_getElem? (h hj)
  omega
theorem str_len : ∀ i : Nat, i < 28 → (strT.getD i []).length < 2 ^ 31 := by decide +kernel
def zsC (c : Cond) : Bool := match c with
  | .stringRef a b t => (List.range 28).all (fun i => strN.getD i "" != t || zsO.getD i ("", 0) == (a, b))
  | _ => true
set_option maxRecDepth 100000 in
theorem zsC_all : lw_tbl.all zsC = true := by decide +kernel
theorem zsC_in {a t : String} {k i : Nat} (hi : i < 28) (ht : strN.getD i "" = t) (h : Cond.stringRef a k t ∈ lw_tbl) : zsO.getD i ("", 0) = (a, k) := by
  have q : zsC (Cond.stringRef a k t) = true := List.all_eq_true.mp zsC_all _ h
  have q : ((List.range 28).all (fun i => strN.getD i "" != t || zsO.getD i ("", 0) == (a, k))) = true := q
  have q : (strN.getD i "" != t || zsO.getD i ("", 0) == (a, k)) = true := List.all_eq_true.mp q i (List.mem_range.mpr hi)
  rw [ht, bne_self_eq_false, Bool.false_or] at q
  exact beq_iff_eq.mp q
theorem zX_of {args : Array Value} {s : State} {tm : Term} {N : Nat} {f : Nat → Int32} (hN : N < 2 ^ 31) (harr : (Cond.arrayOf tm .int).before args s = true) (hle : (Cond.eq (.length tm) (.int (Int32.ofNat N))).before args s = true)
    (hel : ∀ j : Nat, j < N → (Cond.eq (.elem tm (.int (Int32.ofNat j))) (.int (f j))).before args s = true) : ∃ t : Nat, tm.eval args s none [] s = some (.ref t) ∧ va_X t N f s s.heap ∧ t < s.heap.size := by
  have hlen := va_eqt hle
  obtain ⟨t, ht, hT⟩ := va_Tof (f := fun j => .int (f j)) (A := fun _ => False) hN harr hlen (fun j hj => va_eqt (hel j hj)) (fun _ _ h => h)
  obtain ⟨cell, h1, h2, h3, h4, h5, h6, -⟩ := hT
  obtain ⟨b, c2, hb, hat, -⟩ := Term.length_spec hlen
  have hsz : c2.slots.size < 2 ^ 31 := by
    simp only [Term.eval, hb, hat, Option.bind_eq_bind, Option.bind_some] at hlen
    by_cases hlt : c2.slots.size < 2147483648
    · exact hlt
    · simp [hlt] at hlen
  cases ht.symm.trans hb
  obtain ⟨hcell, -⟩ := State.arrayAt?_spec hat
  cases h1.symm.trans hcell
  have e : cell.slots.size = N := by
    have q : Int32.ofNat cell.slots.size = Int32.ofNat N := h5
    have q := congrArg Int32.toInt q
    rw [Int32.toInt_ofNat_small hsz, Int32.toInt_ofNat_small hN] at q
    omega
  exact ⟨t, ht, ⟨cell, h1, h2, h3, e, h6⟩, (Array.getElem?_eq_some_iff.mp h1).1⟩
theorem n_su : Cond.arrayOf (.static "PatentRaces" "STATE_UNIT" "[I") .int ∈ zfl ∧ Cond.eq (.length (.static "PatentRaces" "STATE_UNIT" "[I")) (.int (Int32.ofNat 3)) ∈ zfl ∧ ∀ j : Nat, j < 3 → Cond.eq (.elem (.static "PatentRaces" "STATE_UNIT" "[I") (.int (Int32.ofNat j))) (.int (Int32.ofInt (roI 116 0 j))) ∈ zfl := by decide +kernel
theorem n_ru : Cond.arrayOf (.static "PatentRaces" "ROW_UNIT" "[I") .int ∈ zfl ∧ Cond.eq (.length (.static "PatentRaces" "ROW_UNIT" "[I")) (.int (Int32.ofNat 3)) ∈ zfl ∧ ∀ j : Nat, j < 3 → Cond.eq (.elem (.static "PatentRaces" "ROW_UNIT" "[I") (.int (Int32.ofNat j))) (.int (Int32.ofInt (roI 117 0 j))) ∈ zfl := by decide +kernel
theorem n_cs : Cond.eq (.static "java/lang/String" "COMPACT_STRINGS" "Z") (.int 1) ∈ zfl := by decide +kernel
theorem n_q1 : Cond.isRef (.static "java/lang/Throwable" "UNASSIGNED_STACK" "[Ljava/lang/StackTraceElement;") ∈ zfl := by decide +kernel
theorem n_q2 : Cond.isRef (.static "java/lang/Throwable" "SUPPRESSED_SENTINEL" "Ljava/util/List;") ∈ zfl := by decide +kernel
theorem n_q3 : Cond.isRef (.static "jdk/internal/util/Preconditions" "SIOOBE_FORMATTER" "Ljava/util/function/BiFunction;") ∈ zfl := by decide +kernel
def zexL : List String := ["java/lang/IllegalStateException", "java/util/NoSuchElementException", "java/lang/IllegalArgumentException"]
theorem n_nc : ∀ a ∈ zexL, ∀ b ∈ zexL, a ≠ b → Cond.not (.castable a b) ∈ zfl := by decide +kernel
theorem sysB_no : ∀ t ∈ [11, 116, 117, 118, 119], sysB t = false := by decide +kernel
theorem Gw_no {D : va_G} {K : FieldType → ClassId} {N0 : Nat} {X : Nat → Nat → Nat} {t i : Nat} (h : t ∈ [11, 116, 117, 118, 119]) : (Gw D K N0 X).2.2.1 t i = X t i := if_neg (by rw [sysB_no t h]; decide)
def zXs (b a1 a2 : Nat) (aK aV : Nat → Nat) (t i : Nat) : Nat := if t = 118 then b else if t = 116 then a1 else if t = 117 then a2 else if t = 11 then aK i else aV i
theorem start_RO {D : va_G} {s : State} {b L : Nat} {xs : Nat → Int} (hts : ∀ w ∈ lw_tbl, w.before #[Value.ref b] s = true) (hgv : (Jvm.Cond.and given_1 narrow_1).before #[Value.ref b] s = true) (hX : va_X b L (fun j => Int32.ofInt (xs j)) s s.heap) (hb : b < s.heap.size) :
    ∃ X : Nat → Nat → Nat, X 118 0 = b ∧ RO (Gw D (Kof s) s.heap.size X) (L, xs) s s.heap := by
  have hn : ∀ c ∈ zfl, c.before #[Value.ref b] s = true := flat_of_before _ hgv
  have hA : ∀ a : Nat, a < s.heap.size → ¬ s.heap.size ≤ a := fun a h => Nat.not_le_of_lt h
  obtain ⟨a1, e1, x1, l1⟩ := zX_of (N := 3) (f := fun j => Int32.ofInt (roI 116 0 j)) (by decide) (hn _ n_su.1) (hn _ n_su.2.1) (fun j hj => hn _ (n_su.2.2 j hj))
  obtain ⟨a2, e2, x2, l2⟩ := zX_of (N := 3) (f := fun j => Int32.ofInt (roI 117 0 j)) (by decide) (hn _ n_ru.1) (hn _ n_ru.2.1) (fun j hj => hn _ (n_ru.2.2 j hj))
  obtain ⟨aK, aV, hS⟩ := str_of (args := #[Value.ref b]) (s := s) (N := 28) (tm := zsm) (len := fun i => (strT.getD i []).length) (byt := fun i j => Int32.ofInt ((strT.getD i []).getD j 0)) (A := fun q => s.heap.size ≤ q) str_len
    (fun i hi => hn _ (n_str1 i hi)) (fun i hi => hn _ (n_str2 i hi)) (fun i hi => hn _ (n_str3 i hi)) (fun i hi => hn _ (n_str4 i hi)) (fun i hi j hj => hn _ (n_str5 hi hj)) hA
  refine ⟨zXs b a1 a2 aK aV, rfl, ?_⟩
  have g118 : (Gw D (Kof s) s.heap.size (zXs b a1 a2 aK aV)).2.2.1 118 0 = b := (Gw_no (by decide)).trans rfl
  have g116 : (Gw D (Kof s) s.heap.size (zXs b a1 a2 aK aV)).2.2.1 116 0 = a1 := (Gw_no (by decide)).trans rfl
  have g117 : (Gw D (Kof s) s.heap.size (zXs b a1 a2 aK aV)).2.2.1 117 0 = a2 := (Gw_no (by decide)).trans rfl
  have g11 : ∀ i, (Gw D (Kof s) s.heap.size (zXs b a1 a2 aK aV)).2.2.1 11 i = aK i := fun i => (Gw_no (by decide)).trans rfl
  have g119 : ∀ i, (Gw D (Kof s) s.heap.size (zXs b a1 a2 aK aV)).2.2.1 119 i = aV i := fun i => (Gw_no (by decide)).trans rfl
  have gA : (Gw D (Kof s) s.heap.size (zXs b a1 a2 aK aV)).2.2.2 = s.heap.size := rfl
  generalize Gw D (Kof s) s.heap.size (zXs b a1 a2 aK aV) = G at *
  have gAA : AA G = fun q => s.heap.size ≤ q := by
    show (fun q => G.2.2.2 ≤ q) = _
    rw [gA]
  unfold RO
  rw [gAA, g118, g116, g117]
  refine ⟨⟨hX, hA b hb⟩, ⟨x1, hA a1 l1⟩, ⟨x2, hA a2 l2⟩, ⟨?_, ?_, ?_⟩, fun i hi => ?_, fun o k i hi hm => ?_, ⟨?_, ?_⟩, ?_, start_N hts, fun a c ha hc hne => ?_⟩
  · exact va_Zref (hts _ (tk4 (List.mem_of_getElem? (i := 19) rfl))) (hts _ (tk1 (List.mem_of_getElem? (i := 1) rfl))) e1 hA
  · exact va_Zref (hts _ (tk4 (List.mem_of_getElem? (i := 143) rfl))) (hts _ (tk1 (List.mem_of_getElem? (i := 1) rfl))) e2 hA
  · exact va_Zof (hts _ (tk3 (List.mem_of_getElem? (i := 100) rfl))) (hts _ (tk1 (List.mem_of_getElem? (i := 16) rfl))) (va_eqi (hn _ n_cs)) hA
  · rw [g11, g119]
    exact (hS i hi).2
  · rw [g11]
    refine vk_R.of (hts _ hm) ?_
    have e := zsC_in hi rfl hm
    have h := (hS i hi).1
    unfold zsm at h
    rw [e] at h
    exact h
  · exact vx_Zqof (hts _ (tk3 (List.mem_of_getElem? (i := 10) rfl))) (hts _ (tk1 (List.mem_of_getElem? (i := 12) rfl))) (hn _ n_q1) hA
  · exact vx_Zqof (hts _ (tk3 (List.mem_of_getElem? (i := 12) rfl))) (hts _ (tk1 (List.mem_of_getElem? (i := 12) rfl))) (hn _ n_q2) hA
  · exact va_Zqof (hts _ (tk3 (List.mem_of_getElem? (i := 116) rfl))) (hts _ (tk1 (List.mem_of_getElem? (i := 18) rfl))) (hn _ n_q3) hA
  · exact va_Nc.of (hn _ (n_nc a ha c hc hne))
