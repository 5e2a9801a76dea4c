section SD
variable {p : Program} {l : Launch} {e : Env} {R : Room} {s : State} {m : MethodId} {args : Array Value} {below : List Frame} {meth : Method} {c : Code} {H : Heap} {locs : List Loc} {cells slots mc ms : Nat}
variable {G : Gx} {sc : Nat × (Nat → Int)} {cc : ByteArray} {nL pc o rt E : Nat} {ls : Array Slot} {lv rest : List AV} {M : Mem} {tb : List Ent} {hh : List (Nat × Nat × Nat × Nat)} {q9 : Addr} {ce : Cell}
theorem exc_pass (C : Cx G sc p l s m args meth c cc nL o) (ho : hh ≠ [] → own' o = RL) (h7 : ∀ r ∈ hh, hE r.2.2.2 ≠ 7) (hE3 : E < 3) {z : Nat × Nat × Nat × Nat} (hz : z ∈ hh) (h : ¬ (z.1 ≤ pc ∧ pc < z.2.1) ∨ hE z.2.2.2 ≠ E) :
    covers ⟨z.1, z.2.1, z.2.2.1, z.2.2.2⟩ pc = false ∨ (z.2.2.2 ≠ 0 ∧ ∃ nm : String, (Cond.classLink (own' o) z.2.2.2 nm).before args s = true ∧ va_Nc (exN E) nm s) := by
  rcases h with h | h
  · left
    simp only [covers, Bool.and_eq_false_iff, decide_eq_false_iff_not]
    omega
  · right
    have h1 := hE_ct (h7 z hz)
    have h2 := hE_lt (h7 z hz)
    have h3 : z.2.2.2 ∈ [13, 22, 28] := by rcases h1 with q | q | q <;> rw [q] <;> decide
    obtain ⟨w1, w2⟩ := cl_in _ h3
    refine ⟨by rcases h1 with q | q | q <;> rw [q] <;> decide, exN (hE z.2.2.2), ?_, ?_⟩
    · rw [ho (fun q => by rw [q] at hz; cases hz)]
      exact C.2.2.2.2.1 _ (gd w1 w2)
    · exact C.2.2.2.2.2.2.2.2.1.2.2.2.2.2.2.2.2.2 _ _ (ex_in E hE3) (ex_in _ h2) (ex_ne E hE3 _ h2 h)
theorem sd_out {Qc : Array Value → State → Outcome → State → Prop} (C : Cx G sc p l s m args meth c cc nL o) (ho : hh ≠ [] → own' o = RL) (h7 : ∀ r ∈ hh, hE r.2.2.2 ≠ 7) (hte : c.exceptionTable.toList = tableOf hh) (hE3 : E < 3) (hn : hnd E (hrow tb pc hh) = none)
    (hP : PT G sc s nL H locs ls lv rest M) (hcell : H[q9]? = some ce) (hv : ce.vm = .none) (hcl : s.vm.findClass (exN E) = some ce.cls) (hc : cells ≤ mc) (hs : slots ≤ ms) :
    vx_W p l e R s m args below meth c H locs cells slots (vx_MQ below Qc (XcM G sc (.inr E, M)) args s mc ms (AA G)) (F0 m pc ls (rest.map (cv G))) q9 := by
  refine vx_outP C.2.2.2.1 C.2.2.2.2.2.2.2.2.2.1 (fun z hz => ?_) hcell hv hcl (fun t ht _ => ⟨rfl, hE3, by rw [ht]; exact hP.1, va_S.F hP.2.2.2.2 ht⟩) hP.2.2.2.2.2.2 hc hs
  rw [hte] at hz
  obtain ⟨r, hr, rfl⟩ := List.mem_map.mp hz
  exact exc_pass C ho h7 hE3 hr (exc_none hh hn r hr)
theorem sd_catch {Q : State → Prop} {t k : Nat} (C : Cx G sc p l s m args meth c cc nL o) (ho : hh ≠ [] → own' o = RL) (h7 : ∀ r ∈ hh, hE r.2.2.2 ≠ 7 ∧ (hk tb r.2.2.1).2 < nL) (hnl : nL ≤ 45) (hte : c.exceptionTable.toList = tableOf hh) (hchk : ∀ i, chkE o rt nL cc tb i = true) (hE3 : E < 3) (hn : hnd E (hrow tb pc hh) = some (t, k))
    (hP : PT G sc s nL H locs ls lv rest M) (hcell : H[q9]? = some ce) (hv : ce.vm = .none) (hcl : s.vm.findClass (exN E) = some ce.cls)
    (kk : ∀ e', tb[t]? = some e' → GO p l e R s m args below meth c cells slots Q G sc nL e'.1 (stv lv k JK) [] M) (hex : ∃ e', tb[t]? = some e') :
    vx_W p l e R s m args below meth c H locs cells slots Q (F0 m pc ls (rest.map (cv G))) q9 := by
  obtain ⟨pre, r, suf, h1, h2, h3, h4, h5⟩ := exc_some hh hn
  have hr : r ∈ hh := by rw [h1]; simp
  obtain ⟨a7, ak⟩ := h7 r hr
  rw [h5] at ak
  obtain ⟨i, xs, v, rfl, hst⟩ := hk_at h5 ak hnl
  obtain ⟨e', he'⟩ := hex
  have c1 := hE_ct a7
  have h3' : r.2.2.2 ∈ [13, 22, 28] := by rcases c1 with q | q | q <;> rw [q] <;> decide
  obtain ⟨w1, w2⟩ := cl_in _ h3'
  have hown := C.2.2.2.1
  have hlk : (Cond.classLink (own' o) r.2.2.2 (exN E)).before args s = true := by
    rw [ho (fun q => by rw [q] at hr; cases hr), ← h4]
    exact C.2.2.2.2.1 _ (gd w1 w2)
  have hca : (Cond.castable (exN E) (exN E)).before args s = true := va_Nw.use rfl (C.2.2.2.2.2.2.2.2.1.2.2.2.2.2.2.2.2.1 _ (ca_in E hE3) rfl)
  refine vx_catch hown (tableOf pre) ⟨r.1, r.2.1, r.2.2.1, r.2.2.2⟩ (tableOf suf) (by rw [hte, h1]; simp [tableOf]) (fun z hz => ?_) ?_ (by rcases c1 with q | q | q <;> (show r.2.2.2 ≠ 0; rw [q]; decide)) hlk hca hcell hv hcl ?_
  · obtain ⟨z0, hz0, rfl⟩ := List.mem_map.mp hz
    exact exc_pass C ho (fun r hr => (h7 r hr).1) hE3 (by rw [h1]; exact List.mem_append_left _ hz0) (h2 z0 hz0)
  · simp only [covers, Bool.and_eq_true, decide_eq_true_eq]
    exact h3
  · have hjk : okL (stv lv k JK) := okL_stv hP.2.2.1 (Or.inl rfl)
    have go : ∀ (n : Nat) (ls' : Array Slot), e'.1 = n → lv_has ls' nL ((k, Value.ref q9) :: (lp G lv).filter (fun q => !(q.1 == k) && !(q.1 + 1 == k && q.2.category == 2))) → W p l e R s m args below meth c H locs cells slots Q (F0 m n ls' []) := by
      intro n ls' hn hl
      rw [← hn]
      exact kk e' he' H locs ls' ⟨hP.1, LV.forget hP.2.1.2 ak hl, hjk, okL_nil, hP.2.2.2.2⟩
    rcases hst with hst | ⟨f, rfl, hst⟩
    · obtain ⟨len, hd, hln, hnx, -⟩ := chk_of (hchk i) hst (by intro h; cases h)
      have hlen : len = 2 := hln.elim (fun h => by cases h) (fun h => h)
      subst hlen
      exact lv_astore C.1 C.2.1 hd hP.2.1.1 ak rfl (fun ls' hl => go _ ls' (hnx e' he') hl)
    · obtain ⟨len, hd, hln, hnx, -⟩ := chk_of (hchk i) hst (by intro h; cases h)
      have hlen : len = 1 := hln.elim (fun h => by cases h) (fun h => h)
      subst hlen
      exact lv_astore_n C.1 C.2.1 hd rfl hP.2.1.1 ak rfl (fun ls' hl => go _ ls' (hnx e' he') hl)
end SD
