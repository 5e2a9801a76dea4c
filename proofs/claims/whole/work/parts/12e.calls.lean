/-! STATIC CALLS -/
theorem arC_nx {l st : List AV} {M : Mem} {gs : List Prop} {a : AR} (h : arC l st M = some (gs, a)) : ∃ l' st' M', a = rNx l' st' M' := by
  unfold arC at h
  split at h
  · split at h
    · cases h
    · split at h
      · simp only [Option.some.injEq, Prod.mk.injEq] at h
        obtain ⟨-, rfl⟩ := h
        exact ⟨_, _, _, rfl⟩
      · split at h
        · simp only [Option.some.injEq, Prod.mk.injEq] at h
          obtain ⟨-, rfl⟩ := h
          exact ⟨_, _, _, rfl⟩
        · cases h
  · cases h
theorem nest_hh : ∀ o, o < 16 → ∀ x ∈ MLT.getD o [], x.2.2 = 2 → hhs x.2.1 = [] := by decide +kernel
section SD
variable {p : Program} {l : Launch} {e : Env} {R : Room} {s : State} {m : MethodId} {args : Array Value} {below : List Frame} {meth : Method} {c : Code} {H : Heap} {locs : List Loc} {cells slots : Nat} {Q : State → Prop}
variable {G : Gx} {sc : Nat × (Nat → Int)} {cc : ByteArray} {nL o pc q d : Nat} {ls : Array Slot} {lv lv' st as rest : List AV} {M M1 : Mem} {gs : List Prop} {r : RS}
theorem sd_callw (C : Cx G sc p l s m args meth c cc nL o) (hq : q < 288) (hl : q ≠ qLa_law) {r0 : Nat × Nat × Nat × Nat} {rs : List (Nat × Nat × Nat × Nat)} (hh : hhs q = r0 :: rs) {idx K : Nat} (hfr : d + 11 ≤ R.frames) (hlo : 64 * d + 264 ≤ R.locals) (hk : Cond.methodLink (own' o) idx (mi q).1 ∈ gtbl) (hst : Cond.static (mi q).1 ∈ gtbl) :
    vx_CSW R s args (own' o) idx (mi q).1 (mi q).2.1 (mi q).2.2.1 (mi q).2.2.2.1 (r0 :: rs) (mcode q :: gtbl) (rmD d K) K (6 * K) (npar q) := by
  have hts := C.2.2.2.2.1
  obtain ⟨w1, w2, -, w4⟩ := qka hq hl
  have hn := nl45 q hq hl
  have hc : Cond.codeWith (mi q).1 (mi q).2.1 (mi q).2.2.1 (mi q).2.2.2.1 (r0 :: rs) ∈ mcode q :: gtbl := by rw [← mcode_hh hh]; exact List.mem_cons_self
  refine ⟨⟨rfl, rfl, ?_, ?_, pay_in hts (gt_cons w1), hc⟩, ?_, hts _ w2, ?_, npar_eq q, hts _ hk, hts _ hst⟩
  · show d + 10 + 1 ≤ R.frames; omega
  · show 8 + ((mi q).2.2.1 + 11) + (64 * d + 200) ≤ R.locals; omega
  · rw [← mcode_hh hh]; exact hts _ w1
  · rw [← w4]; exact own_ne _
theorem sd_callS {tb : List Ent} {ix rt idx : Nat} {xs : List Nat} {v0 : Int} (C : Cx G sc p l s m args meth c cc nL o) (ho : o < 16) (hP : PT G sc s nL H locs ls lv st M) (hd : decode cc pc = .ok (.invokestatic idx, 3)) (hck : chkI o rt nL tb ix (pc, .invokestatic idx, xs, v0) = true)
    (hs : step (pc, .invokestatic idx, xs, v0) lv st M = some (gs, rCl q as lv' rest M1)) (hq8 : q < 288) (hct : Ct l G sc d q as M1 r) (hfr : d + 11 ≤ R.frames) (hlo : 64 * d + 264 ≤ R.locals) (hce : cells + kR M1 r ≤ R.cells) (hsl : slots + 6 * kR M1 r ≤ R.slots)
    (kk : ∀ v M', r = (.inl v, M') → GO p l e R s m args below meth c (cells + kR M1 r) (slots + 6 * kR M1 r) Q G sc nL (pc + 3) lv' (if retk (mi q).2.2.2.1 = 5 then rest else v :: rest) M')
    (kx : ∀ E M', r = (.inr E, M') → ∀ (H1 : Heap) (locs1 : List Loc) (q9 : Addr) (ce : Cell), PT G sc s nL H1 locs1 ls lv' rest M' → H1[q9]? = some ce → ce.vm = .none → s.vm.findClass (exN E) = some ce.cls → E < 3 → vx_W p l e R s m args below meth c H1 locs1 (cells + kR M1 r) (slots + 6 * kR M1 r) Q (F0 m pc ls (rest.map (cv G))) q9) :
    W p l e R s m args below meth c H locs cells slots Q (F0 m pc ls (st.map (cv G))) := by
  simp only [chkI, Bool.and_eq_true, Bool.or_eq_true, decide_eq_true_eq, beq_iff_eq] at hck
  simp only [step] at hs
  split at hs
  · obtain ⟨_, _, _, hz⟩ := arC_nx hs
    cases hz
  · split at hs
    · split at hs
      · cases hs
      · cases hs
    · cases hs
  · split at hs
    · cases hs
    · next hn1 hn2 hw =>
      simp only [Option.some.injEq, Prod.mk.injEq, Sum.inr.injEq, Sum.inl.injEq] at hs
      obtain ⟨-, rfl, rfl, rfl, rfl, rfl⟩ := hs
      generalize hq : xg (pc, Instr.invokestatic idx, xs, v0) 0 = q at *
      generalize hn : xg (pc, Instr.invokestatic idx, xs, v0) 1 = n at *
      rcases hck with ((⟨h, -⟩ | h) | ⟨⟨h, -⟩, -⟩) | ⟨⟨⟨⟨h1, h2⟩, h3⟩, h4⟩, h5⟩
      · omega
      · omega
      · omega
      · have hts := C.2.2.2.2.1
        have hoa : okL (st.take n).reverse := okL_take hP.2.2.2.1
        have hor : okL (st.drop n) := okL_drop hP.2.2.2.1
        have hlen : ((st.take n).reverse.map (cv G)).length = npar q := by rw [List.length_map, List.length_reverse, List.length_take]; omega
        have hst : st.map (cv G) = ((st.take n).reverse.map (cv G)).reverse ++ (st.drop n).map (cv G) := by
          rw [List.map_reverse, List.reverse_reverse, ← List.map_append, List.take_append_drop]
        have hP' : PT G sc s nL H locs ls lv (st.drop n) M := ⟨hP.1, hP.2.1, hP.2.2.1, hor, hP.2.2.2.2⟩
        have hwd : 2 * 0 + (((st.drop n).map (cv G)).map fun v => v.category).sum ≤ 8 := by rw [wds_cat]; omega
        have hl : q ≠ qLa_law := by
          rcases h2 with h2 | h2 <;> exact no_law o ho _ (List.contains_iff_mem.mp h2)
        obtain ⟨w1, w2, w3, w4⟩ := qka h1 hl
        rw [if_pos h5] at w3
        rw [hst]
        rcases h2 with h2 | h2
        · have hlink : Cond.methodLink (own' o) idx (mi q).1 ∈ gtbl := mlk o ho _ (List.contains_iff_mem.mp h2)
          cases hh : hhs q with
          | nil =>
            exact sd_after (a := ((st.take n).reverse.map (cv G)).toArray) (vx_runS (n := npar q) (As := (st.take n).reverse.map (cv G)) (rest := (st.drop n).map (cv G)) ⟨C.1, C.2.1, C.2.2.1, C.2.2.2.1, hts⟩ hct ⟨sd_callb C h1 hl hh hfr hlo hlink, hts _ w3⟩
              ⟨PcM_blind, PcM_at C hP hoa⟩ rfl hlen hP.2.1.1.1 rfl hwd hd ⟨hce, hsl⟩) hP' kk kx
          | cons r0 rs =>
            exact sd_after (a := ((st.take n).reverse.map (cv G)).toArray) (vx_runSX (n := npar q) (As := (st.take n).reverse.map (cv G)) (rest := (st.drop n).map (cv G)) ⟨C.1, C.2.1, C.2.2.1, C.2.2.2.1, hts⟩ hct (sd_callw C h1 hl hh hfr hlo hlink w3)
              ⟨PcM_blind, PcM_at C hP hoa⟩ rfl hlen hP.2.1.1.1 rfl hwd hd ⟨hce, hsl⟩) hP' kk kx
        · have hm := List.contains_iff_mem.mp h2
          have hh : hhs q = [] := nest_hh o ho _ hm rfl
          have hlink : Cond.methodLinkNest (own' o) idx (mi q).1 "PatentRaces" ∈ lw_tbl := mlk o ho _ hm
          have hlb : (Cond.methodLinkNest (own' o) idx (mi q).1 "PatentRaces").before args s = true := va_Nw.use rfl (C.2.2.2.2.2.2.2.2.1.2.2.2.2.2.2.2.2.1 _ hlink rfl)
          exact sd_after (a := ((st.take n).reverse.map (cv G)).toArray) (vx_runSN (n := npar q) (As := (st.take n).reverse.map (cv G)) (rest := (st.drop n).map (cv G)) ⟨C.1, C.2.1, C.2.2.1, C.2.2.2.1, hts⟩ hct ⟨sd_calln C h1 hl hh hfr hlo, hlb, hts _ w3⟩
            ⟨PcM_blind, PcM_at C hP hoa⟩ rfl hlen hP.2.1.1.1 rfl hwd hd ⟨hce, hsl⟩) hP' kk kx
end SD
