/-! FROM THE LAW'S ENTRY TO ITS END, given what lies below the new cells -/
theorem ao_9 : aoff 9 0 = 0 ∧ aoff 10 0 = 119 ∧ aoff 115 0 = 25176 := by decide +kernel
set_option maxHeartbeats 1000000 in
theorem whole_of {p : Program} {l : Launch} {e : Env} {s : State} {m : MethodId} {below : List Frame} {meth : Method} {c : Code} {b L : Nat} {xs : Nat → Int} {D : va_G} {X : Nat → Nat → Nat} (hst : l.stackTraces = false) (hL : L ≤ 3072) (hxs : ∀ j, -2147483648 ≤ xs j ∧ xs j ≤ 2147483647)
    (hx : p.tables.exec = Jvm.exec) (hb : c.code = code) (hr : meth.sig.returnType = ret) (hml : c.maxLocals = 8) (hown : s.vm.findClass (own' 15) = some m.cls) (hts : ∀ w ∈ lw_tbl, w.before #[Value.ref b] s = true) (hlocks : meth.locks = false) (hte : c.exceptionTable.toList = tableOf (hhs qLa_law))
    (hK : va_K D cls11 [] s) (hX : X 118 0 = b) (hRO : RO (Gw D (Kof s) s.heap.size X) (L, xs) s s.heap) :
    W p l e room_1 s m #[Value.ref b] below meth c s.heap [] 0 0 (LZ below s) (entryFrame m ([Value.ref b] : List Value).toArray 8) := by
  have hg : ∀ w ∈ gtbl, w.before #[Value.ref b] s = true := fun w h => hts w (List.mem_filter.mp h).1
  have hKK := start_KK hts
  have hl := lv_entry ([.ref b]) (n := 8) (Nat.le_of_ble_eq_true rfl)
  rw [lg_entry_eq]
  generalize (lg_sl ([.ref b]) ++ List.replicate (8 - (lg_sl ([.ref b])).length) Slot.unset).toArray = ls0 at hl ⊢
  have hl : lv_has ls0 8 [(0, .ref b)] := hl
  refine law_head (D := D) (K := Kof s) (N0 := s.heap.size) ⟨hx, hb, hml, hown, hg, hK, hKK, start_N hts, hlocks, Or.inl rfl, Nat.le_refl _⟩ rfl (by decide) (by decide) (by decide) (by decide) hl fun H locs ls hP hl2 => ?_
  obtain ⟨a9, a10, a115⟩ := ao_9
  have hM : ∀ t i j : Nat, inR ((M0 L xs).1 t i j) := by
    intro t i j
    show inR (if t = 118 then (if i = 1 ∧ j = 0 then (L : Int) else if i = 0 then xs j else 0) else m0 t i j)
    by_cases h : t = 118
    · rw [if_pos h]
      split
      · constructor <;> omega
      · split
        · exact hxs j
        · exact R0
    · rw [if_neg h]
      unfold m0
      split
      · constructor <;> decide
      · exact R0
  refine law_loop (G := Gw D (Kof s) s.heap.size X) (xs := xs) hst ⟨hx, hb, hml, hown, hg, aok_all, hK, hKK.1, hRO, hlocks, hst⟩ rfl hL hxs hr hte ⟨⟨hM, ?_, ⟨rfl, fun j => rfl⟩, fun t i j h3 => ?_, hd_all hP.1, ?_⟩, ⟨⟨hl2.1, hl2.2.1, fun q hq => ?_⟩, rfl⟩, ?_, okL_nil, hP.2⟩
  · rw [M0_k (by decide)]; decide
  · left
    have hs := ak_sys (t := t) (Or.inr (Or.inr (Or.inl h3)))
    exact M0_arr hs.1 hs.2
  · show s.heap.size ≤ H.size
    rw [hP.1.1]; omega
  · obtain ⟨i, w⟩ := q
    obtain ⟨v, h1, h2, rfl⟩ := mem_lp.mp hq
    have e9 : cv (Gw D (Kof s) s.heap.size X) (vr 9 0) = .ref (s.heap.size + 0) := by
      show Value.ref ((Gw D (Kof s) s.heap.size X).2.2.1 9 0) = _
      rw [Gw_at rfl, a9]
    have e10 : cv (Gw D (Kof s) s.heap.size X) (vr 10 0) = .ref (s.heap.size + 119) := by
      show Value.ref ((Gw D (Kof s) s.heap.size X).2.2.1 10 0) = _
      rw [Gw_at rfl, a10]
    have e115 : cv (Gw D (Kof s) s.heap.size X) (vr 115 0) = .ref (s.heap.size + 25176) := by
      show Value.ref ((Gw D (Kof s) s.heap.size X).2.2.1 115 0) = _
      rw [Gw_at rfl, a115]
    have e118 : cv (Gw D (Kof s) s.heap.size X) (vr 118 0) = .ref b := by
      show Value.ref (X 118 0) = _
      rw [hX]
    match i, h1 with
    | 0, h1 => cases h1; rw [e118]; exact hl2.2.2 (0, .ref b) (by simp)
    | 1, h1 => cases h1; rw [e9]; exact hl2.2.2 (1, .ref (s.heap.size + 0)) (by simp)
    | 2, h1 => cases h1; rw [e10]; exact hl2.2.2 (2, .ref (s.heap.size + 119)) (by simp)
    | 3, h1 => cases h1; rw [e115]; exact hl2.2.2 (3, .ref (s.heap.size + 25176)) (by simp)
    | 4, h1 => cases h1; exact hl2.2.2 (4, .int 0) (by simp)
    | 5, h1 => cases h1; exact absurd rfl h2
    | 6, h1 => cases h1; exact absurd rfl h2
    | 7, h1 => cases h1; exact absurd rfl h2
    | n + 8, h1 => simp at h1
  · intro v hv
    simp only [List.mem_cons, List.not_mem_nil, or_false] at hv
    rcases hv with rfl | rfl | rfl | rfl | rfl | rfl | rfl | rfl
    · exact Or.inr (by decide)
    · exact Or.inr (by decide)
    · exact Or.inr (by decide)
    · exact Or.inr (by decide)
    · exact R0
    · exact okV_JK
    · exact okV_JK
    · exact okV_JK
