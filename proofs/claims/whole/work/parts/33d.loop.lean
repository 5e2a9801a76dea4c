/-! LAYER 4, THE LAW: what stands at its loop's head -/
def LI (L : Nat) (xs : Nat → Int) (i : Int) (M : Mem) : Prop := (M.1 118 1 0 = (L : Int) ∧ ∀ j, M.1 118 0 j = xs j) ∧ (0 ≤ M.1 900 0 0 ∧ M.1 900 0 0 * 6 ≤ i) ∧ ∃ U f B pl n P m I, IC U f B pl n P m I i M ∧ IR (rd M 0) U f B pl n P m I M ∧ IS U f n P m I
theorem IC.up {U : Nat → Int} {f n m : Nat} {B : BT} {pl g g' : Int} {P : Nat → Int} {I : Nat → IMG} {M : Mem} (h : IC U f B pl n P m I g M) (hg : g ≤ g') : IC U f B pl n P m I g' M := by
  obtain ⟨h1, h2, h3, h4, h5, h6, h7, h8, h9, h10⟩ := h
  exact ⟨h1, h2, h3, h4, h5, h6, h7, h8, ⟨h9.1, by omega⟩, h10⟩
/-- behind a call of the class and one of the reference -/
theorem LI.next {L : Nat} {xs : Nat → Int} {i : Int} {M M1 M2 : Mem} {U : Nat → Int} {f n m : Nat} {B : BT} {pl g : Int} {P : Nat → Int} {I : Nat → IMG} {R : RT} (hs : M.1 118 1 0 = (L : Int) ∧ ∀ j, M.1 118 0 j = xs j) (hg : M.1 900 0 0 * 6 ≤ i)
    (a1 : AfC M M1) (f2 : Fs pMd M1 M2) (ic : IC U f B pl n P m I g M1) (hgi : g ≤ i + 6) (ir : IR R U f B pl n P m I M2) (hR : rd M1 0 = R) (is : IS U f n P m I) : LI L xs (i + 6) M2 := by
  have r2 : rd M2 0 = R := (rd_fs f2 (fun t j ht z => by omega)).trans hR
  refine ⟨⟨?_, fun j => ?_⟩, ⟨?_, ?_⟩, U, f, B, pl, n, P, m, I, (ic.up hgi).kp is.2.2.2.1 f2 (fun t i j z => by omega), by rw [r2]; exact ir, is⟩
  · rw [f2.g1 118 1 0 (by omega), a1.1.g1 118 1 0 (by omega)]; exact hs.1
  · rw [f2.g1 118 0 j (by omega), a1.1.g1 118 0 j (by omega)]; exact hs.2 j
  · rw [f2.g1 900 0 0 (by omega)]; exact a1.2.1
  · rw [f2.g1 900 0 0 (by omega)]; have := a1.2.2; omega
