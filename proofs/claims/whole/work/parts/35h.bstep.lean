/-! THE BUILDER'S STEPS, ALL OF THEM -/
def mtag : Nat → Nat
  | 32 => 58
  | 52 => 68
  | 57 => 72
  | 62 => 69
  | 80 => 70
  | 85 => 73
  | _ => 110
section SD
variable {p : Program} {l : Launch} {e : Env} {R : Room} {s : State} {m : MethodId} {args : Array Value} {below : List Frame} {meth : Method} {c : Code} {H : Heap} {locs : List Loc} {cells slots : Nat} {Q : State → Prop}
variable {D : va_G} {K : FieldType → ClassId} {N0 : Nat} {cc : ByteArray} {nL o pc : Nat} {ls : Array Slot} {lv st lv' st' : List AV} {w w' : BW}
theorem kfind2 {U : State} (h : KOK K U) : ∀ q ∈ MLK, U.vm.findClass ("[" ++ (arrN (bty q.2.1) (q.2.2 - 1)).toString) = some (K (arrN (bty q.2.1) (q.2.2 - 1))) := by
  intro q hq
  simp only [MLK, List.mem_cons, List.not_mem_nil, or_false] at hq
  rcases hq with rfl | rfl | rfl | rfl | rfl | rfl | rfl
  · exact (h.1 58 (by decide) (by decide)).2
  · exact (h.1 68 (by decide) (by decide)).2
  · exact (h.1 72 (by decide) (by decide)).2
  · exact (h.1 69 (by decide) (by decide)).2
  · exact (h.1 70 (by decide) (by decide)).2
  · exact (h.1 73 (by decide) (by decide)).2
  · exact (h.1 110 (by decide) (by decide)).2
theorem mlk_ok : ∀ q ∈ MLK, q.2.1 < 3 ∧ 2 ≤ q.2.2 ∧ q.2.2 ≤ 4 ∧ (q.2.1 = 2 → q.2.2 ≤ 2) := by decide +kernel
theorem b_dv {b : Nat} (hb : b < 3) : fits (bty b) (defaultValue (bty b)) = true ∧ (defaultValue (bty b)).isDefault = true := by
  match b, hb with
  | 0, _ => exact ⟨rfl, rfl⟩
  | 1, _ => exact ⟨rfl, rfl⟩
  | 2, _ => exact ⟨rfl, rfl⟩
theorem dms_of : ∀ {vs : List AV} {ns : List Nat}, dms vs = some ns → ∃ cs : List Int32, vs.map (cv (Gb N0)) = cs.map Value.int ∧ ∀ (K : FieldType → ClassId) (ty : FieldType), Cts cs (Dms K ty ns)
  | [], ns, h => by
    cases h
    exact ⟨[], rfl, fun K ty => ⟨rfl, fun j n q h => by cases h⟩⟩
  | .inl x :: r, ns, h => by
    unfold dms at h
    split at h
    · next hx =>
      cases hr : dms r with
      | none => rw [hr] at h; cases h
      | some ns' =>
        rw [hr] at h
        cases h
        obtain ⟨cs, h1, h2⟩ := dms_of hr
        obtain ⟨s1, s2⟩ := sml_nat hx
        have s3 := sml_i hx
        refine ⟨Int32.ofInt x :: cs, by rw [List.map_cons, List.map_cons, h1]; rfl, fun K ty => ⟨by show cs.length + 1 = (Dms K ty ns').length + 1; rw [(h2 K ty).1], fun j n q hj hq => ?_⟩⟩
        cases j with
        | zero => cases hj; cases hq; exact ⟨s1, s2, by show x.toNat ≤ 3000; omega⟩
        | succ j => exact (h2 K ty).2 j n q hj hq
    · cases h
  | .inr x :: r, ns, h => by cases h
theorem b_mna {idx b k : Nat} {ns : List Nat} (C : BCx D K N0 p s m args meth c cc nL o) (hP : BPT D K N0 s nL H locs ls lv w) (ho : o = 10) (hm : (idx, b, k) ∈ MLK) (hn : dms (st.take k).reverse = some ns) (hl : ns.length = k) (hd : decode cc pc = .ok (.multianewarray idx k, 4)) (hcells : cells + nS ns ≤ R.cells) (hslots : slots + nSl ns ≤ R.slots)
    (kk : BGO p l e R s m args below meth c (cells + nS ns) (slots + nSl ns) Q D K N0 nL (pc + 4) lv (vr 0 w.1 :: st.drop k) (w.1 + nS ns, w.2.1 + nSl ns, w.2.2 ++ [(w.1, .inr (.inl (bty b, ns)))])) : W p l e R s m args below meth c H locs cells slots Q (F0 m pc ls (st.map (cv (Gb N0)))) := by
  obtain ⟨hx, hb, -, hown, hts, hK, hKK, -⟩ := C
  obtain ⟨m1, m2, m3, m4⟩ := mlk_ok _ hm
  dsimp only at m1 m2 m3 m4
  have hz := hP.1.1
  obtain ⟨cs, hcs, hC⟩ := dms_of (N0 := N0) hn
  have hne : ns ≠ [] := by intro h; subst h; simp at hl; omega
  obtain ⟨d1, d2, d3⟩ := Dms_S (K := K) (ty := bty b) ns
  have hst : st.map (cv (Gb N0)) = (cs.map Value.int).reverse ++ (st.drop k).map (cv (Gb N0)) := by
    have e1 : (cs.map Value.int).reverse = (st.take k).map (cv (Gb N0)) := by rw [← hcs, List.map_reverse, List.reverse_reverse]
    rw [e1, ← List.map_append, List.take_append_drop]
  rw [hst]
  have hhd : ((Dms K (bty b) ns).head?.map (·.1)).getD 0 = K (arrN (bty b) (k - 1)) := by
    cases ns with
    | nil => exact absurd rfl hne
    | cons n r => show K (arrN (bty b) r.length) = _; rw [← hl]; rfl
  refine gn_mna (name := "[" ++ (arrN (bty b) (k - 1)).toString) (ty := bty b) (D := Dms K (bty b) ns) (index := idx) hx hb (by rw [d3]; omega) (by rw [ho] at hown; exact hown) (hts _ (mkk_all _ hm)) (by rw [hhd]; exact kfind2 hKK _ hm) (hKK.chain m1 ns hne (by omega) (fun e => by have := m4 e; omega)) (hC K (bty b)) (by rw [d3, hl]; exact hd) (b_dv m1).1 (b_dv m1).2 (by rw [d1]; exact hcells) (by rw [d2]; exact hslots) fun H1 z1 o1 hB => ?_
  rw [d1, d2]
  rw [d1] at z1
  refine W.eq (g2 := F0 m (pc + 4) ls ((vr 0 w.1 :: st.drop k).map (cv (Gb N0)))) ?_ (kk H1 locs ls ⟨hP.1.push (x := .inr (.inl (bty b, ns))) z1 (fun a ha => o1 a ha) ⟨hne, ?_⟩, hP.2.1, ⟨Nat.le_trans hP.2.2.1 (by omega), fun y h1 h2 => (o1 y (Nat.lt_of_lt_of_le h1 hP.2.2.1)).trans (hP.2.2.2.1 y h1 h2), hP.2.2.2.2⟩⟩)
  · rw [hz]; rfl
  · rw [hz] at hB; exact hB
theorem b_ast (C : BCx D K N0 p s m args meth c cc nL o) (hP : BPT D K N0 s nL H locs ls lv w) (hs : baas lv w st = some (.inl (lv', st', w'))) (hd : decode cc pc = .ok (.aastore, 1))
    (kk : BGO p l e R s m args below meth c cells slots Q D K N0 nL (pc + 1) lv' st' w') : w'.1 = w.1 ∧ w'.2.1 = w.2.1 ∧ W p l e R s m args below meth c H locs cells slots Q (F0 m pc ls (st.map (cv (Gb N0)))) := by
  obtain ⟨hx, hb, -, hown, hts, hK, hKK, -⟩ := C
  unfold baas at hs
  split at hs
  · next t1 v i t2 a rest =>
    split at hs
    · next k xs k2 fs hfa hfv =>
      split at hs
      · next hc =>
        obtain ⟨hi, hix⟩ := hc
        cases hs
        refine ⟨rfl, rfl, ?_⟩
        obtain ⟨s1, s2⟩ := sml_nat hi
        have hat := bfind_at hfa
        have hav := bfind_at hfv
        obtain ⟨-, hBa⟩ := hP.1.2.1 k _ hat
        obtain ⟨-, hBv⟩ := hP.1.2.1 k2 _ hav
        have hBa : H[N0 + a]? = some (vp_cell (K (.object RX2)) (xs.length, .inr (.inr (.inr (.inr (fun j => (xs.getD j none).map (fun o => N0 + o))))))) := hBa
        obtain ⟨r', hr', cellV, g1, g2, g3, -⟩ := hBv
        cases hr'
        have hcls := (hK.1 2 _ rfl).2
        obtain ⟨-, ra⟩ := hKK.1 53 (by decide) (by decide)
        obtain ⟨kA, comp, k1, k2', k3, -⟩ := ra
        have hcomp : comp = D.1 2 := Option.some.inj (k3.symm.trans hcls.1)
        subst hcomp
        obtain ⟨kC, hkC, -⟩ := hcls.2
        have hsz : (vp_cell (K (.object RX2)) (xs.length, .inr (.inr (.inr (.inr (fun j => (xs.getD j none).map (fun o => N0 + o))))))).slots.size = xs.length := by rw [vp_cell_q, arrV_size]
        refine W.aast (comp := D.1 2) (t := .object RX2) hx hb hBa (fun q h => by cases h) (fun h => by cases h) k1 k2' rfl hkC ⟨s1, by rw [hsz, s2]; exact hix⟩ g1 (fun q h => by rw [g3] at h; cases h) (by rw [g2]; exact hkC) (by rw [g2]; exact va_assign hcls) rfl rfl hd fun H1 e z oq => ?_
        refine kk H1 _ ls ⟨hP.1.set hat rfl rfl ?_ z oq, hP.2.1, hP.2.2.put z oq (by show N0 ≤ N0 + a; omega)⟩
        show H1[N0 + a]? = some (vp_cell _ _)
        rw [e, vp_cell_q, vp_cell_q, arrV_store, s2, List.length_set]
        refine congrArg some (congrArg (arrV _ _) (funext fun j => ?_))
        by_cases hq : j = i.toNat
        · subst hq
          simp [updV, va_rf, List.getD_eq_getElem?_getD, hix]
        · simp [updV, va_rf, hq, List.getD_eq_getElem?_getD, List.getElem?_set_ne (Ne.symm hq)]
      · cases hs
    · cases hs
  · cases hs
end SD
