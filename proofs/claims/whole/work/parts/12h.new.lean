/-! THROWS -/
theorem nwt_in : ∀ x ∈ NWT, (x.1, x.2.2.2.1, x.2.1) ∈ [(84, 88, 2), (320, 324, 0), (325, 329, 1)] := by decide +kernel
theorem nwt_3 : ∀ x ∈ NWT, x.2.1 < 3 := by decide +kernel
theorem nwt_s : ∀ x ∈ NWT, ∃ j, j < 28 ∧ (x.2.2.1, j) ∈ KST.getD 9 [] := by decide +kernel
theorem exN_fit : Bundle.fit (exN 0) = true ∧ Bundle.fit (exN 1) = true ∧ Bundle.fit (exN 2) = true := by decide +kernel
theorem exS_fit : ∀ n ∈ exS, Bundle.fit n = true := by decide +kernel
section SD
variable {p : Program} {l : Launch} {e : Env} {R : Room} {s : State} {m : MethodId} {args : Array Value} {below : List Frame} {meth : Method} {c : Code} {H : Heap} {locs : List Loc} {cells slots mc ms : Nat}
variable {G : Gx} {sc : Nat × (Nat → Int)} {cc : ByteArray} {nL pc o : Nat} {ls : Array Slot} {lv st : List AV} {M : Mem}
theorem exw_of {L : List Cond} (C : Cx G sc p l s m args meth c cc nL o) (h1 : ∀ w ∈ L, w ∈ lw_tbl) (h2 : ∀ w ∈ L, vx_ot w = true ∧ (goodWord w = true ∨ nwk w = true)) : ∀ w ∈ L, w.before args s = true := by
  intro w hw
  rcases (h2 w hw).2 with h | h
  · exact C.2.2.2.2.1 w (gd (h1 w hw) h)
  · refine va_Nw.use ?_ (C.2.2.2.2.2.2.2.2.1.2.2.2.2.2.2.2.2.1 w (h1 w hw) h)
    cases w <;> first | rfl | (simp [nwk] at h)
theorem exw_all {ik E sx ic wd : Nat} (hE : E ≠ 1) (C : Cx G sc p l s m args meth c cc nL o) (hx : (ik, E, sx, ic, wd) ∈ NWT) : (∀ w ∈ exW ik ic (exN E), w.before args s = true ∧ vx_ot w = true) ∧ Bundle.fit (exN E) = true := by
  have h := nwt_in _ hx
  simp only [List.mem_cons, Prod.mk.injEq, List.not_mem_nil, or_false] at h
  rcases h with ⟨rfl, rfl, rfl⟩ | ⟨rfl, rfl, rfl⟩ | ⟨rfl, rfl, rfl⟩
  · exact ⟨fun w hw => ⟨exw_of C exw_2m exw_2o w hw, (exw_2o w hw).1⟩, exN_fit.2.2⟩
  · exact ⟨fun w hw => ⟨exw_of C exw_0m exw_0o w hw, (exw_0o w hw).1⟩, exN_fit.1⟩
  · exact absurd rfl hE
theorem sd_new {ik E sx ic wd : Nat} {Qc : Array Value → State → Outcome → State → Prop} (C : Cx G sc p l s m args meth c cc nL 9) (hP : PT G sc s nL H locs ls lv st M) (hx : (ik, E, sx, ic, wd) ∈ NWT) (hE : E ≠ 1) (hwd : wd = 0 ∨ wd = 1) (hte : ∀ x ∈ c.exceptionTable.toList, False)
    (hw : ¬ 8 < wds st) (d0 : decode cc pc = .ok (.new ik, 3)) (d3 : decode cc (pc + 3) = .ok (.dup, 1)) (d4 : wd = 0 → decode cc (pc + 4) = .ok (.ldc sx, 2) ∧ decode cc (pc + 6) = .ok (.invokespecial ic, 3) ∧ decode cc (pc + 9) = .ok (.athrow, 1))
    (d5 : wd = 1 → decode cc (pc + 4) = .ok (.ldc_w sx, 3) ∧ decode cc (pc + 7) = .ok (.invokespecial ic, 3) ∧ decode cc (pc + 10) = .ok (.athrow, 1))
    (hfr : 10 ≤ R.frames) (hlo : 200 ≤ R.locals) (hce : cells + 1 ≤ R.cells) (hsl : slots + 6 ≤ R.slots) (hc : cells + 1 ≤ mc) (hs : slots + 6 ≤ ms) :
    W p l e R s m args below meth c H locs cells slots (vx_MQ below Qc (XcM G sc (.inr E, M)) args s mc ms (AA G)) (F0 m pc ls (st.map (cv G))) := by
  obtain ⟨hwo, hfit⟩ := exw_all hE C hx
  obtain ⟨j, hj, hjm⟩ := nwt_s _ hx
  have hE3 : E < 3 := nwt_3 _ hx
  obtain ⟨hx0, hb, hml, hown, hts, -, -, -, hRO, hlk, hst⟩ := C
  have hown : s.vm.findClass RX9 = some m.cls := hown
  have hsr := hRO.2.2.2.2.2.1 9 sx j hj (ksk 9 (by decide) _ hjm).2
  have hcat : ((st.map (cv G)).map fun v => v.category).sum ≤ 8 := by rw [wds_cat]; omega
  have hX : ∀ t : State, s.vm.Alike t.vm → H.size ≤ t.heap.size → (∀ q : Nat, q < H.size → t.heap[q]? = H[q]?) → XcM G sc (.inr E, M) (exN E) s t := fun t _ h1 h2 =>
    ⟨rfl, hE3, hP.1.grown h1 h2, Nat.le_trans hP.2.2.2.2.1 h1, fun q hq hn => by rw [h2 q (Nat.lt_of_lt_of_le hq hP.2.2.2.2.1)]; exact hP.2.2.2.2.2.1 q hq hn⟩
  have hat : ∀ w ∈ vx_atS RX9 ic (exN E) exS, w.before args s = true := fun w hw => (hwo w (List.mem_cons_of_mem _ (List.mem_cons_of_mem _ hw))).1
  have hr1 : exS.length + 3 < R.frames := by show 2 + 3 < R.frames; omega
  have hr2 : ((st.map (cv G)).map fun v => v.category).sum + (13 * (exS.length + 1) + 43) ≤ R.locals := by show _ + (13 * (2 + 1) + 43) ≤ R.locals; omega
  rcases hwd with h | h
  · obtain ⟨e4, e6, e9⟩ := d4 h
    exact vx_throwS hx0 hb hst hown hfit exS_fit (hwo _ List.mem_cons_self).1 (hwo _ (List.mem_cons_of_mem _ List.mem_cons_self)).1 hsr hat (fun w hw => (hwo w hw).2) hRO.2.2.2.2.2.2.1.1 hRO.2.2.2.2.2.2.1.2 hP.2.2.2.2 (hP.2.1.1.1.trans hml.symm) d0 d3 e4 e6 e9 (fun x h => (hte x h).elim) hr1 hr2 hce hsl hlk hX hP.2.2.2.2.2.2 hc hs
  · obtain ⟨e4, e6, e9⟩ := d5 h
    exact vx_throwSW hx0 hb hst hown hfit exS_fit (hwo _ List.mem_cons_self).1 (hwo _ (List.mem_cons_of_mem _ List.mem_cons_self)).1 hsr hat (fun w hw => (hwo w hw).2) hRO.2.2.2.2.2.2.1.1 hRO.2.2.2.2.2.2.1.2 hP.2.2.2.2 (hP.2.1.1.1.trans hml.symm) d0 d3 e4 e6 e9 (fun x h => (hte x h).elim) hr1 hr2 hce hsl hlk hX hP.2.2.2.2.2.2 hc hs
end SD
