/-! NoSuchElementException thrown -/
def exW13 : List Cond := Cond.classLink RX9 325 (exN 1) :: Cond.initialized (exN 1) :: vx_at13 RX9 329 (exN 1) "java/lang/RuntimeException" ["java/lang/Exception"]
theorem exw13_o : ∀ w ∈ exW13, vx_ot w = true ∧ (goodWord w = true ∨ nwk w = true) := by decide +kernel
theorem exw13_m : ∀ w ∈ exW13, w ∈ lw_tbl := by decide +kernel
theorem exS1_fit : Bundle.fit "java/lang/RuntimeException" = true ∧ ∀ n ∈ ["java/lang/Exception"], Bundle.fit n = true := by decide +kernel
theorem nwt_1 : ∀ x ∈ NWT, x.2.1 = 1 → x.1 = 325 ∧ x.2.2.2.1 = 329 ∧ x.2.2.2.2 = 1 := by decide +kernel
section SD
variable {p : Program} {l : Launch} {e : Env} {R : Room} {s : State} {m : MethodId} {args : Array Value} {below : List Frame} {meth : Method} {c : Code} {H : Heap} {locs : List Loc} {cells slots mc ms : Nat}
variable {G : Gx} {sc : Nat × (Nat → Int)} {cc : ByteArray} {nL pc o : Nat} {ls : Array Slot} {lv st : List AV} {M : Mem}
theorem sd_newE {ik E sx ic wd : Nat} {Qc : Array Value → State → Outcome → State → Prop} (C : Cx G sc p l s m args meth c cc nL 9) (hP : PT G sc s nL H locs ls lv st M) (hx : (ik, E, sx, ic, wd) ∈ NWT) (hwd : wd = 0 ∨ wd = 1) (hte : ∀ x ∈ c.exceptionTable.toList, False)
    (hw : ¬ 8 < wds st) (d0 : decode cc pc = .ok (.new ik, 3)) (d3 : decode cc (pc + 3) = .ok (.dup, 1)) (d4 : wd = 0 → decode cc (pc + 4) = .ok (.ldc sx, 2) ∧ decode cc (pc + 6) = .ok (.invokespecial ic, 3) ∧ decode cc (pc + 9) = .ok (.athrow, 1))
    (d5 : wd = 1 → decode cc (pc + 4) = .ok (.ldc_w sx, 3) ∧ decode cc (pc + 7) = .ok (.invokespecial ic, 3) ∧ decode cc (pc + 10) = .ok (.athrow, 1))
    (hfr : 10 ≤ R.frames) (hlo : 200 ≤ R.locals) (hce : cells + 1 ≤ R.cells) (hsl : slots + 6 ≤ R.slots) (hc : cells + 1 ≤ mc) (hs : slots + 6 ≤ ms) :
    W p l e R s m args below meth c H locs cells slots (vx_MQ below Qc (XcM G sc (.inr E, M)) args s mc ms (AA G)) (F0 m pc ls (st.map (cv G))) := by
  by_cases hE : E = 1
  · obtain ⟨h1, h2, h3⟩ := nwt_1 _ hx hE
    dsimp only at h1 h2 h3
    subst hE h1 h2 h3
    have hwo := fun w hw => exw_of C exw13_m exw13_o w hw
    obtain ⟨j, hj, hjm⟩ := nwt_s _ hx
    obtain ⟨hx0, hb, hml, hown, hts, -, -, -, hRO, hlk, hst⟩ := C
    have hown : s.vm.findClass RX9 = some m.cls := hown
    have hsr := hRO.2.2.2.2.2.1 9 sx j hj (ksk 9 (by decide) _ hjm).2
    have hcat : ((st.map (cv G)).map fun v => v.category).sum ≤ 8 := by rw [wds_cat]; omega
    have hX : ∀ t : State, s.vm.Alike t.vm → H.size ≤ t.heap.size → (∀ q : Nat, q < H.size → t.heap[q]? = H[q]?) → XcM G sc (.inr 1, M) (exN 1) s t := fun t _ h1 h2 =>
      ⟨rfl, by decide, hP.1.grown h1 h2, Nat.le_trans hP.2.2.2.2.1 h1, fun q hq hn => by rw [h2 q (Nat.lt_of_lt_of_le hq hP.2.2.2.2.1)]; exact hP.2.2.2.2.2.1 q hq hn⟩
    have hat : ∀ w ∈ vx_at13 RX9 329 (exN 1) "java/lang/RuntimeException" ["java/lang/Exception"], w.before args s = true := fun w hw => hwo w (List.mem_cons_of_mem _ (List.mem_cons_of_mem _ hw))
    have hr1 : ["java/lang/Exception"].length + 1 + 3 < R.frames := by show 1 + 1 + 3 < R.frames; omega
    have hr2 : ((st.map (cv G)).map fun v => v.category).sum + (13 * (["java/lang/Exception"].length + 1 + 1) + 43) ≤ R.locals := by show _ + (13 * (1 + 1 + 1) + 43) ≤ R.locals; omega
    obtain ⟨e4, e6, e9⟩ := d5 rfl
    exact vx_throw13 hx0 hb hst hown exN_fit.2.1 exS1_fit.1 exS1_fit.2 (hwo _ List.mem_cons_self) (hwo _ (List.mem_cons_of_mem _ List.mem_cons_self)) hsr hat (fun w hw => (exw13_o w hw).1) hRO.2.2.2.2.2.2.1.1 hRO.2.2.2.2.2.2.1.2 hP.2.2.2.2 (hP.2.1.1.1.trans hml.symm) d0 d3 e4 e6 e9 (fun x h => (hte x h).elim) hr1 hr2 hce hsl hlk hX hP.2.2.2.2.2.2 hc hs
  · exact sd_new C hP hx hE hwd hte hw d0 d3 d4 d5 hfr hlo hce hsl hc hs
end SD
