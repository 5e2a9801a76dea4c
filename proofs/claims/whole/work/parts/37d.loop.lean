/-! THE LAW'S LOOP, over the JVM -/
/-- the law's end -/
def LZ (below : List Frame) (s : State) : State → Prop := fun t => ∃ o, t.status = .running ∧ Ended t below o ∧ o = .returned (some (.int 1)) ∧ Framed s o t [] 764467 6802703
theorem ck_law13 : kLa_law[13]?.map (·.1) = some 23 := by decide +kernel
theorem law_hh : hhs qLa_law = [] := by decide +kernel
section SD
variable {p : Program} {l : Launch} {e : Env} {s : State} {m : MethodId} {below : List Frame} {meth : Method} {c : Code} {b L : Nat} {xs : Nat → Int} {G : Gx}
set_option maxHeartbeats 1000000 in
theorem law_loop (hst : l.stackTraces = false) (C : Cx G (L, xs) p l s m #[Value.ref b] meth c code 8 15) (hN : s.heap.size = G.2.2.2) (hL : L ≤ 3072) (hxs : ∀ j, -2147483648 ≤ xs j ∧ xs j ≤ 2147483647) (hr : meth.sig.returnType = ret) (hte : c.exceptionTable.toList = tableOf (hhs qLa_law))
    {H : Heap} {locs : List Loc} {ls : Array Slot} (hP : PT G (L, xs) s 8 H locs ls [vr 118 0, vr 9 0, vr 10 0, vr 115 0, vi 0, JK, JK, JK] [] (M0 L xs)) :
    W p l e room_1 s m #[Value.ref b] below meth c H locs 25177 122094 (LZ below s) (F0 m 23 ls []) := by
  obtain ⟨n, r, hev, hres⟩ := la_loop (d := 0) (Q := fun v M' => v = vi 1 ∧ 0 ≤ gC M' ∧ gC M' ≤ 512) (X := fun _ _ => False) hL hxs (L + 1) 0 (M0 L xs) JK JK JK li_0 (by omega) (by omega) (by omega) (fun M' h1 h2 => ⟨rfl, h1, h2⟩)
  obtain ⟨v | E, M1⟩ := r
  · obtain ⟨rfl, g1, g2⟩ := hres
    have hg0 : gC (M0 L xs) = 0 := by show (M0 L xs).1 900 0 0 = 0; rw [M0_k (by decide)]; decide
    have hMg : gC (sI (M0 L xs) 900 0 0 (-25177)) = -25177 := by
      unfold gC
      rw [sI_1, if_pos ⟨rfl, rfl, rfl⟩]
    have hk : kR (sI (M0 L xs) 900 0 0 (-25177)) (.inl (vi 1), M1) ≤ 25689 := by
      show (gC M1 - gC (sI (M0 L xs) 900 0 0 (-25177))).toNat + 0 ≤ 25689
      rw [hMg]; omega
    obtain ⟨e0, he0⟩ : ∃ e0, kLa_law[13]? = some e0 := by
      cases h : kLa_law[13]? with
      | none => have := ck_law13; rw [h] at this; cases this
      | some e0 => exact ⟨e0, rfl⟩
    have hpc : e0.1 = 23 := by have := ck_law13; rw [he0] at this; exact Option.some.inj this
    have hb := body (p := p) (e := e) (below := below) (R := room_1) (q := qLa_law) (tb := kLa_law) (d := 0 + 70) (n0 := n) (rr := (.inl (vi 1), M1)) (M0 := sI (M0 L xs) 900 0 0 (-25177)) C (by decide) (fun _ => rfl) (by decide) ck_lawE ck_law9 ck_lawH hte (fun h => by cases h) hr
      (fun q' as M r hq h => sound C.2.2.2.2.2.1 hst hq h) (by decide) (by decide) (by show _ ≤ 764467; omega) (by show _ ≤ 6802703; omega) n 13 _ _ (M0 L xs) 25177 e0 hev he0 (by rw [hg0, hMg]; rfl)
    rw [hpc] at hb
    have hW := hb H locs ls hP
    refine W.widen (k := 25177) (n := 6 * 25177) (Nat.le_refl _) (by decide) ?_
    intro T hT X
    obtain ⟨t, a1, hQ⟩ := hW T hT X
    refine ⟨t, a1, ?_⟩
    obtain ⟨o, q1, q2, hq⟩ := hQ
    rcases hq with ⟨hq, L', hF, hfr⟩ | ⟨q9, -, hx⟩
    · obtain ⟨ho, -, -, -⟩ := hq
      have hrv : rv G qLa_law (vi 1) = some (.int 1) := rfl
      rw [hrv] at ho
      refine ⟨o, q1, q2, ho, hF.1, hF.2.1, hF.2.2.weaken (fun y hy hlt => absurd hlt (Nat.not_lt.mpr ?_)) ?_ ?_⟩
      · have := hfr y hy
        rw [hN]; exact this
      · omega
      · omega
    · obtain ⟨E9, ce9, y⟩ := hx
      exact absurd y (fun y => by simp [XcM] at y)
  · exact hres.elim
end SD
