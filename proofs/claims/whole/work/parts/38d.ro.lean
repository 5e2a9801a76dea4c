/-! THE START'S FACTS: texts -/
theorem str_of {args : Array Value} {s : State} {N : Nat} {tm : Nat → Term} {len : Nat → Nat} {byt : Nat → Nat → Int32} {A : Nat → Prop} (hN : ∀ i : Nat, i < N → len i < 2 ^ 31) (hex : ∀ i : Nat, i < N → (Cond.exactly (tm i) "java/lang/String").before args s = true) (hco : ∀ i : Nat, i < N → (Cond.eq (.field (tm i) "java/lang/String" "coder" "B") (.int 0)).before args s = true)
    (har : ∀ i : Nat, i < N → (Cond.arrayOf (.field (tm i) "java/lang/String" "value" "[B") .byte).before args s = true) (hle : ∀ i : Nat, i < N → (Cond.eq (.length (.field (tm i) "java/lang/String" "value" "[B")) (.int (Int32.ofNat (len i)))).before args s = true)
    (hel : ∀ i : Nat, i < N → ∀ j : Nat, j < len i → (Cond.eq (.elem (.field (tm i) "java/lang/String" "value" "[B") (.int (Int32.ofNat j))) (.int (byt i j))).before args s = true) (hA : ∀ a : Nat, a < s.heap.size → ¬ A a) :
    ∃ adK adV : Nat → Nat, ∀ i : Nat, i < N → (tm i).eval args s none [] s = some (.ref (adK i)) ∧ va_O "java/lang/String" (adK i) A s s.heap ∧ va_OF "java/lang/String" "coder" "B" (.int 0) (adK i) A s s.heap ∧ va_OF "java/lang/String" "value" "[B" (.ref (adV i)) (adK i) A s s.heap ∧ va_T .byte (adV i) (len i) (fun j => .int (byt i j)) A s s.heap := by
  have h0 : ∀ i : Nat, ∃ q : Nat × Nat, i < N → (tm i).eval args s none [] s = some (.ref q.1) ∧ va_O "java/lang/String" q.1 A s s.heap ∧ va_OF "java/lang/String" "coder" "B" (.int 0) q.1 A s s.heap ∧ va_OF "java/lang/String" "value" "[B" (.ref q.2) q.1 A s s.heap ∧ va_T .byte q.2 (len i) (fun j => .int (byt i j)) A s s.heap := by
    intro i
    by_cases hi : i < N
    · obtain ⟨a, c, cA, kA, q1, q2, q3, q4, q5, q6, -⟩ := Cond.exactly_spec (args := args) (first := s) (o := none) (s := s) (idx := []) (t := tm i) (cls := "java/lang/String") (hex i hi)
      obtain ⟨t, ht, hT⟩ := va_Tof (f := fun j => .int (byt i j)) (A := A) (hN i hi) (har i hi) (va_eqt (hle i hi)) (fun j hj => va_eqt (hel i hi j hj)) hA
      exact ⟨(a, t), fun _ => ⟨q1, va_Oof (hex i hi) q1 hA, vk_OFof q1 (va_eqt (hco i hi)) hA, vk_OFof q1 ht hA, hT⟩⟩
    · exact ⟨(0, 0), fun h => absurd h hi⟩
  obtain ⟨ad, had⟩ := Classical.axiomOfChoice h0
  exact ⟨fun i => (ad i).1, fun i => (ad i).2, had⟩
