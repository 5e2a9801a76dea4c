/-! EVERY STRAIGHT STEP, together -/
def isN : Instr → Bool
  | .iconst _ | .bipush _ | .sipush _ | .lconst _ | .ldc _ | .ldc_w _ | .ldc2_w _ | .iload _ | .iload_n _ | .lload _ | .lload_n _ | .aload _ | .aload_n _ | .istore _ | .istore_n _ | .lstore _ | .lstore_n _ | .astore _ | .astore_n _ | .iinc _ _
  | .iadd | .isub | .imul | .iand | .ior | .ixor | .ishl | .ishr | .iushr | .idiv | .irem | .ineg | .ladd | .lsub | .lmul | .lneg | .lshl | .lshr | .lcmp | .i2l | .i2c | .dup | .dup2 | .pop | .getfield _ | .putfield _ | .getstatic _ | .iaload | .baload | .laload | .aaload | .iastore | .bastore | .lastore | .arraylength => true
  | _ => false
set_option maxHeartbeats 4000000 in
theorem step_nx {e : Ent} {l st : List AV} {M : Mem} {gs : List Prop} {a : AR} (hi : isN e.2.1 = true) (h : step e l st M = some (gs, a)) : ∃ l' st' M', a = rNx l' st' M' := by
  obtain ⟨pc, ins, xs, v⟩ := e
  cases ins <;> first
    | (exfalso; simp [isN] at hi; done)
    | (simp only [step, ldI, ldL, ldR, stI, stL, stR, bnI, bnL, shL, gtf, ptf, aldI, aldL, aldR, astI, astL] at h
       (repeat' split at h) <;> first
         | (cases h; done)
         | (simp only [Option.some.injEq, Prod.mk.injEq] at h; obtain ⟨-, rfl⟩ := h; exact ⟨_, _, _, rfl⟩))
section SD
variable {p : Program} {l : Launch} {e : Env} {R : Room} {s : State} {m : MethodId} {args : Array Value} {below : List Frame} {meth : Method} {c : Code} {H : Heap} {locs : List Loc} {cells slots : Nat} {Q : State → Prop}
variable {G : Gx} {sc : Nat × (Nat → Int)} {cc : ByteArray} {nL o pc : Nat} {ls : Array Slot} {lv st lv' st' : List AV} {M M' : Mem} {gs : List Prop}
set_option maxHeartbeats 8000000 in
theorem sd_nx {tb : List Ent} {ix rt : Nat} {ins : Instr} {xs : List Nat} {cv0 : Int} {len : Nat} (C : Cx G sc p l s m args meth c cc nL o) (ho : o < 16) (hP : PT G sc s nL H locs ls lv st M) (hi : isN ins = true) (hd : decode cc pc = .ok (ins, len)) (hln : len = iln ins) (hck : chkI o rt nL tb ix (pc, ins, xs, cv0) = true)
    (hs : step (pc, ins, xs, cv0) lv st M = some (gs, rNx lv' st' M')) (hg : allP gs) (kk : GO p l e R s m args below meth c cells slots Q G sc nL (pc + len) lv' st' M') : W p l e R s m args below meth c H locs cells slots Q (F0 m pc ls (st.map (cv G))) := by
  have hx := C.1
  have hb := C.2.1
  have hown := C.2.2.2.1
  have hts := C.2.2.2.2.1
  subst hln
  cases ins with
  | iconst k =>
    simp only [step, Option.some.injEq, Prod.mk.injEq, Sum.inl.injEq] at hs
    obtain ⟨-, rfl, rfl, rfl⟩ := hs
    simp only [chkI, Bool.and_eq_true, decide_eq_true_eq] at hck
    exact lv_iconst hx hb hd rfl (sd_const rfl hck hP kk)
  | bipush k =>
    simp only [step, Option.some.injEq, Prod.mk.injEq, Sum.inl.injEq] at hs
    obtain ⟨-, rfl, rfl, rfl⟩ := hs
    simp only [chkI, beq_iff_eq] at hck
    have hr := Int8.le_toInt (Int8.ofInt k)
    have hr2 := Int8.toInt_lt (Int8.ofInt k)
    refine lv_bipush hx hb hd rfl (sd_const ?_ ⟨by omega, by omega⟩ hP kk)
    exact Int32.toInt_inj.mp (by rw [Int8.toInt_toInt32, hck, toInt_ofInt32 ⟨by omega, by omega⟩])
  | sipush k =>
    simp only [step, Option.some.injEq, Prod.mk.injEq, Sum.inl.injEq] at hs
    obtain ⟨-, rfl, rfl, rfl⟩ := hs
    simp only [chkI, beq_iff_eq] at hck
    have hr := Int16.le_toInt (Int16.ofInt k)
    have hr2 := Int16.toInt_lt (Int16.ofInt k)
    refine lv_sipush hx hb hd rfl (sd_const ?_ ⟨by omega, by omega⟩ hP kk)
    exact Int32.toInt_inj.mp (by rw [Int16.toInt_toInt32, hck, toInt_ofInt32 ⟨by omega, by omega⟩])
  | lconst k =>
    simp only [step, Option.some.injEq, Prod.mk.injEq, Sum.inl.injEq] at hs
    obtain ⟨-, rfl, rfl, rfl⟩ := hs
    have e : ∀ k : Fin 2, Int64.ofNat k.val = (match k with | 0 => (0 : Int64) | 1 => 1) := fun k => match k with
      | 0 => rfl
      | 1 => rfl
    have hk := fun (H' : Heap) (L' : List Loc) (ls' : Array Slot) (h' : PT G sc s nL H' L' ls' _ _ _) => kk H' L' ls' h'
    refine lv_lconst hx hb hd rfl ?_
    rw [e k]
    exact hk _ _ _ (hP.push trivial)
  | ldc idx =>
    simp only [step] at hs
    split at hs
    · next h0 =>
      simp only [Option.some.injEq, Prod.mk.injEq, Sum.inl.injEq] at hs
      obtain ⟨-, rfl, rfl, rfl⟩ := hs
      simp only [chkI, h0, beq_self_eq_true, if_true] at hck
      obtain ⟨hr, hw⟩ := kik o ho _ (List.contains_iff_mem.mp hck)
      exact lv_ldc hx hb hown (hts _ hw) hd (kk _ _ _ (hP.push (v := vi cv0) hr))
    · next h0 =>
      simp only [Option.some.injEq, Prod.mk.injEq, Sum.inl.injEq] at hs
      obtain ⟨-, rfl, rfl, rfl⟩ := hs
      have h0' : (xg (pc, Instr.ldc idx, xs, cv0) 0 == 0) = false := by simpa using h0
      simp only [chkI, h0', Bool.false_eq_true, if_false] at hck
      obtain ⟨hr, hw⟩ := ksk o ho _ (List.contains_iff_mem.mp hck)
      exact va_ldcS hx hb hown (C.2.2.2.2.2.2.2.2.1.2.2.2.2.2.1 o idx _ hr hw) hd (kk _ _ _ (hP.push (v := vr 11 (xg (pc, Instr.ldc idx, xs, cv0) 1)) (Or.inr hr)))
  | ldc_w idx =>
    simp only [step] at hs
    split at hs
    · next h0 =>
      simp only [Option.some.injEq, Prod.mk.injEq, Sum.inl.injEq] at hs
      obtain ⟨-, rfl, rfl, rfl⟩ := hs
      simp only [chkI, h0, beq_self_eq_true, if_true] at hck
      obtain ⟨hr, hw⟩ := kik o ho _ (List.contains_iff_mem.mp hck)
      exact lv_ldcw hx hb hown (hts _ hw) hd (kk _ _ _ (hP.push (v := vi cv0) hr))
    · cases hs
  | ldc2_w idx =>
    simp only [step, Option.some.injEq, Prod.mk.injEq, Sum.inl.injEq] at hs
    obtain ⟨-, rfl, rfl, rfl⟩ := hs
    simp only [chkI] at hck
    exact lv_ldc2 hx hb hown (hts _ (klk o ho _ (List.contains_iff_mem.mp hck))) hd (kk _ _ _ (hP.push (v := vl (Int64.ofInt cv0)) trivial))
  | iload i => exact sd_ldI (ins := .nop) hP hs (fun x h k => lv_iload hx hb hd h k) kk
  | iload_n i => exact sd_ldI (ins := .nop) hP hs (fun x h k => lv_iload_n hx hb hd rfl h k) kk
  | lload i => exact sd_ldL (ins := .nop) hP hs (fun x h k => lv_lload hx hb hd h k) kk
  | lload_n i => exact sd_ldL (ins := .nop) hP hs (fun x h k => lv_lload_n hx hb hd rfl h k) kk
  | aload i => exact sd_ldR (ins := .nop) hP hs (fun x h k => lv_aload hx hb hd h k) kk
  | aload_n i => exact sd_ldR (ins := .nop) hP hs (fun x h k => lv_aload_n hx hb hd rfl h k) kk
  | istore i => exact sd_stI (by simpa [chkI] using hck) hP hs (fun x rest k => lv_istore hx hb hd hP.2.1.1 (by simpa [chkI] using hck) rfl k) kk
  | istore_n i => exact sd_stI (by simpa [chkI] using hck) hP hs (fun x rest k => lv_istore_n hx hb hd rfl hP.2.1.1 (by simpa [chkI] using hck) rfl k) kk
  | lstore i => exact sd_stL (by simpa [chkI] using hck) hP hs (fun x rest k => lv_lstore hx hb hd hP.2.1.1 (by simpa [chkI] using hck) rfl k) kk
  | lstore_n i => exact sd_stL (by simpa [chkI] using hck) hP hs (fun x rest k => lv_lstore_n hx hb hd rfl hP.2.1.1 (by simpa [chkI] using hck) rfl k) kk
  | astore i => exact sd_stR (by simpa [chkI] using hck) hP hs (fun x rest k => lv_astore hx hb hd hP.2.1.1 (by simpa [chkI] using hck) rfl k) kk
  | astore_n i => exact sd_stR (by simpa [chkI] using hck) hP hs (fun x rest k => lv_astore_n hx hb hd rfl hP.2.1.1 (by simpa [chkI] using hck) rfl k) kk
  | iinc i k => exact sd_iinc (n := 0) hP hs hx hb hd kk
  | iadd => exact sd_bnI hf_add hP hs (fun x y rest k => lv_iadd hx hb hd k) kk
  | isub => exact sd_bnI hf_sub hP hs (fun x y rest k => lv_isub hx hb hd k) kk
  | imul => exact sd_bnI hf_mul hP hs (fun x y rest k => lv_imul hx hb hd k) kk
  | iand => exact sd_bnI hf_and hP hs (fun x y rest k => lv_iand hx hb hd k) kk
  | ior => exact sd_bnI hf_or hP hs (fun x y rest k => lv_ior hx hb hd k) kk
  | ixor => exact sd_bnI hf_xor hP hs (fun x y rest k => lv_ixor hx hb hd k) kk
  | ishl => exact sd_bnI hf_shl hP hs (fun x y rest k => lv_ishl hx hb hd k) kk
  | ishr => exact sd_bnI hf_shr hP hs (fun x y rest k => lv_ishr hx hb hd k) kk
  | iushr => exact sd_bnI (g := fun x y => (x.toUInt32 >>> (y.toUInt32 &&& Int32.toUInt32 31)).toInt32) hf_ushr hP hs (fun x y rest k => lv_iushr hx hb hd rfl k) kk
  | idiv =>
    simp only [step] at hs
    split at hs
    · next y x rest =>
      simp only [Option.some.injEq, Prod.mk.injEq, Sum.inl.injEq] at hs
      obtain ⟨rfl, rfl, rfl, rfl⟩ := hs
      have hg : y ≠ 0 := hg
      obtain ⟨h1, hy⟩ := hP.pop
      obtain ⟨h2, hx2⟩ := h1.pop
      refine lv_idiv hx hb hd (fun q => hg ((ofInt_inj hy R0).mp (q.trans ofInt_0.symm))) ?_
      rw [ar_div hx2 hy]
      exact kk _ _ _ (h2.push (v := vi (w32 (x.tdiv y))) (w32_R _))
    · cases hs
  | irem =>
    simp only [step] at hs
    split at hs
    · next y x rest =>
      simp only [Option.some.injEq, Prod.mk.injEq, Sum.inl.injEq] at hs
      obtain ⟨rfl, rfl, rfl, rfl⟩ := hs
      have hg : y ≠ 0 := hg
      obtain ⟨h1, hy⟩ := hP.pop
      obtain ⟨h2, hx2⟩ := h1.pop
      refine lv_irem hx hb hd (fun q => hg ((ofInt_inj hy R0).mp (q.trans ofInt_0.symm))) ?_
      rw [ar_rem hx2 hy]
      exact kk _ _ _ (h2.push (v := vi (x.tmod y)) (tmod_R hx2))
    · cases hs
  | ineg =>
    simp only [step] at hs
    split at hs
    · next x rest =>
      simp only [Option.some.injEq, Prod.mk.injEq, Sum.inl.injEq] at hs
      obtain ⟨-, rfl, rfl, rfl⟩ := hs
      refine lv_ineg hx hb hd ?_
      rw [ar_neg]
      exact kk _ _ _ (hP.pop.1.push (v := vi (w32 (-x))) (w32_R _))
    · cases hs
  | ladd => exact sd_bnL hP hs (fun x y rest k => lv_ladd hx hb hd k) kk
  | lsub => exact sd_bnL hP hs (fun x y rest k => lv_lsub hx hb hd k) kk
  | lmul => exact sd_bnL hP hs (fun x y rest k => lv_lmul hx hb hd k) kk
  | lneg =>
    simp only [step] at hs
    split at hs
    · next x rest =>
      simp only [Option.some.injEq, Prod.mk.injEq, Sum.inl.injEq] at hs
      obtain ⟨-, rfl, rfl, rfl⟩ := hs
      exact lv_lneg hx hb hd (kk _ _ _ (hP.pop.1.push (v := vl (-x)) trivial))
    · cases hs
  | lshl => exact sd_shL (g := fun x y => x <<< (y.toInt64 &&& 63)) (fun _ _ => rfl) hP hs (fun x y rest k => lv_lshl hx hb hd rfl k) kk
  | lshr => exact sd_shL (g := fun x y => x >>> (y.toInt64 &&& 63)) (fun _ _ => rfl) hP hs (fun x y rest k => lv_lshr hx hb hd rfl k) kk
  | lcmp =>
    simp only [step] at hs
    split at hs
    · next y x rest =>
      simp only [Option.some.injEq, Prod.mk.injEq, Sum.inl.injEq] at hs
      obtain ⟨-, rfl, rfl, rfl⟩ := hs
      refine W.lcmp hx hb hd ?_
      rw [ar_cmp]
      exact kk _ _ _ (hP.pop.1.pop.1.push (v := vi (cmp64 x y)) (cmp64_R x y))
    · cases hs
  | i2l =>
    simp only [step] at hs
    split at hs
    · next x rest =>
      simp only [Option.some.injEq, Prod.mk.injEq, Sum.inl.injEq] at hs
      obtain ⟨-, rfl, rfl, rfl⟩ := hs
      exact lv_i2l hx hb hd (ar_i2l hP.pop.2) (kk _ _ _ (hP.pop.1.push (v := vl (Int64.ofInt x)) trivial))
    · cases hs
  | i2c =>
    simp only [step] at hs
    split at hs
    · next x rest =>
      simp only [Option.some.injEq, Prod.mk.injEq, Sum.inl.injEq] at hs
      obtain ⟨rfl, rfl, rfl, rfl⟩ := hs
      have hg : 0 ≤ x ∧ x < 65536 := hg
      refine lv_i2c hx hb hd (v := Int32.ofInt x) ?_ (kk _ _ _ hP)
      rw [pk_char, ofInt_nat]
      have e1 : ((x % 4294967296).toNat % 65536 : Nat) = x.toNat := by omega
      rw [e1]
      show Int32.ofNat x.toNat = Int32.ofInt x
      rw [← ofInt_natC]
      congr 1
      omega
    · cases hs
  | dup =>
    simp only [step] at hs
    split at hs
    · next x rest =>
      simp only [Option.some.injEq, Prod.mk.injEq, Sum.inl.injEq] at hs
      obtain ⟨-, rfl, rfl, rfl⟩ := hs
      exact lv_dup hx hb hd rfl (kk _ _ _ (hP.push hP.pop.2))
    · next t k rest =>
      simp only [Option.some.injEq, Prod.mk.injEq, Sum.inl.injEq] at hs
      obtain ⟨-, rfl, rfl, rfl⟩ := hs
      exact lv_dup hx hb hd rfl (kk _ _ _ (hP.push hP.pop.2))
    · cases hs
  | dup2 =>
    simp only [step] at hs
    split at hs
    · next x rest =>
      simp only [Option.some.injEq, Prod.mk.injEq, Sum.inl.injEq] at hs
      obtain ⟨-, rfl, rfl, rfl⟩ := hs
      exact lv_dup2_2 hx hb hd rfl (kk _ _ _ (hP.push hP.pop.2))
    · next x t k rest =>
      simp only [Option.some.injEq, Prod.mk.injEq, Sum.inl.injEq] at hs
      obtain ⟨-, rfl, rfl, rfl⟩ := hs
      exact lv_dup2_11 hx hb hd rfl rfl (kk _ _ _ ((hP.push hP.pop.1.pop.2).push hP.pop.2))
    · cases hs
  | pop =>
    simp only [step] at hs
    split at hs
    · next x rest =>
      simp only [Option.some.injEq, Prod.mk.injEq, Sum.inl.injEq] at hs
      obtain ⟨-, rfl, rfl, rfl⟩ := hs
      exact lv_pop hx hb hd rfl (kk _ _ _ hP.pop.1)
    · next q rest =>
      simp only [Option.some.injEq, Prod.mk.injEq, Sum.inl.injEq] at hs
      obtain ⟨-, rfl, rfl, rfl⟩ := hs
      exact lv_pop hx hb hd rfl (kk _ _ _ hP.pop.1)
    · cases hs
  | getfield idx =>
    simp only [step] at hs
    simp only [chkI] at hck
    by_cases h11 : xg (pc, Instr.getfield idx, xs, cv0) 0 = 11
    · rw [h11] at hs
      simp only [h11, beq_self_eq_true, if_true, Bool.and_eq_true, Bool.or_eq_true, beq_iff_eq] at hck
      obtain ⟨rfl, hck⟩ := hck
      refine sd_gts (n := 0) C hP ?_ hs hd kk
      rcases hck with ⟨⟨h1, h2⟩, h3⟩ | ⟨⟨h1, h2⟩, h3⟩
      · exact Or.inl ⟨h1, h2, h3⟩
      · exact Or.inr ⟨h1, h2, h3⟩
    · have h11' : (xg (pc, Instr.getfield idx, xs, cv0) 0 == 11) = false := by simpa using h11
      simp only [h11', Bool.false_eq_true, if_false, Bool.and_eq_true, Bool.or_eq_true, beq_iff_eq] at hck
      exact sd_gtf (n := 0) C hP (flk o ho _ (List.contains_iff_mem.mp hck.1)) hck.2 hs hd kk
  | putfield idx =>
    simp only [step] at hs
    simp only [chkI, Bool.and_eq_true, Bool.or_eq_true, beq_iff_eq] at hck
    exact sd_ptf C hP (flk o ho _ (List.contains_iff_mem.mp hck.1.1)) hck.1.2 hs hg hd kk
  | getstatic idx =>
    simp only [step] at hs
    simp only [chkI] at hck
    split at hs
    · next h0 =>
      simp only [Option.some.injEq, Prod.mk.injEq, Sum.inl.injEq] at hs
      obtain ⟨-, rfl, rfl, rfl⟩ := hs
      simp only [h0, beq_self_eq_true, if_true, Bool.and_eq_true, Bool.or_eq_true, beq_iff_eq] at hck
      obtain ⟨ha, hq⟩ := hck
      have ha' : xg (pc, Instr.getstatic idx, xs, cv0) 1 = 116 ∧ vr (xg (pc, Instr.getstatic idx, xs, cv0) 1) 0 = vr 116 0 ∨ xg (pc, Instr.getstatic idx, xs, cv0) 1 = 117 ∧ vr (xg (pc, Instr.getstatic idx, xs, cv0) 1) 0 = vr 117 0 ∨ xg (pc, Instr.getstatic idx, xs, cv0) 1 = 0 ∧ vr (xg (pc, Instr.getstatic idx, xs, cv0) 1) 0 = vi 1 := by
        rcases ha with ha | ha
        · exact Or.inl ⟨ha, by rw [ha]⟩
        · exact Or.inr (Or.inl ⟨ha, by rw [ha]⟩)
      rcases hq with hq | hq
      · exact sd_gst C hP (List.contains_iff_mem.mp hq) ho (Or.inl rfl) ha' hd kk
      · exact sd_gst C hP (List.contains_iff_mem.mp hq) ho (Or.inr rfl) ha' hd kk
    · next h0 =>
      simp only [Option.some.injEq, Prod.mk.injEq, Sum.inl.injEq] at hs
      obtain ⟨-, rfl, rfl, rfl⟩ := hs
      have h0' : (xg (pc, Instr.getstatic idx, xs, cv0) 0 == 0) = false := by simpa using h0
      simp only [h0', Bool.false_eq_true, if_false, Bool.and_eq_true, beq_iff_eq] at hck
      obtain ⟨hq, hv⟩ := hck
      exact sd_gst C hP (List.contains_iff_mem.mp hq) ho (Or.inl rfl) (Or.inr (Or.inr ⟨rfl, by rw [hv]⟩)) hd kk
  | iaload => exact sd_iald C hP hs hg hd kk
  | baload => exact sd_bald C hP hs hg hd kk
  | laload => exact sd_lald C hP hs hg hd kk
  | aaload => exact sd_aald C hP hs hg hd kk
  | iastore => exact sd_iast C hP hs hg hd kk
  | bastore => exact sd_bast C hP hs hg hd kk
  | lastore => exact sd_last C hP hs hg hd kk
  | arraylength =>
    simp only [step] at hs
    split at hs
    · next t i rest =>
      split at hs
      · cases hs
      · next hk =>
        simp only [Option.some.injEq, Prod.mk.injEq, Sum.inl.injEq] at hs
        obtain ⟨-, rfl, rfl, rfl⟩ := hs
        exact sd_alen C hP hk hd kk
    · cases hs
  | _ => simp [isN] at hi
end SD
