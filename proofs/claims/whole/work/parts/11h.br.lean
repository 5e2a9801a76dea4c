/-! BRANCHES -/
def isB : Instr → Bool
  | .ifCond _ _ | .if_icmp _ _ | .ifnonnull _ | .goto _ | .tableswitch _ _ _ _ => true
  | _ => false
theorem jt_at {c : List Ent} {j : Nat} {t : Int} (h : jt c j t = true) : ∃ e, c[j]? = some e ∧ t = (e.1 : Int) := by
  unfold jt at h
  split at h
  · next e he => exact ⟨e, he, ((beq_iff_eq).mp h).symm⟩
  · cases h
theorem jmp_pos {j : Nat} {c : Prop} {d : Decidable c} {l st : List AV} {M : Mem} (h : c) : jmp j c d l st M = rJp j l st M := if_pos h
theorem jmp_neg {j : Nat} {c : Prop} {d : Decidable c} {l st : List AV} {M : Mem} (h : ¬ c) : jmp j c d l st M = rNx l st M := if_neg h
section SD
variable {p : Program} {l : Launch} {e : Env} {R : Room} {s : State} {m : MethodId} {args : Array Value} {below : List Frame} {meth : Method} {c : Code} {H : Heap} {locs : List Loc} {cells slots : Nat} {Q : State → Prop}
variable {G : Gx} {sc : Nat × (Nat → Int)} {cc : ByteArray} {nL o pc : Nat} {ls : Array Slot} {lv st lv' st' : List AV} {M M' : Mem} {gs : List Prop}
set_option maxHeartbeats 4000000 in
theorem sd_br {tb : List Ent} {ix rt : Nat} {ins : Instr} {xs : List Nat} {cv0 : Int} {len : Nat} {a : AR} (C : Cx G sc p l s m args meth c cc nL o) (hP : PT G sc s nL H locs ls lv st M) (hi : isB ins = true) (hd : decode cc pc = .ok (ins, len)) (hln : iln ins = 0 ∨ len = iln ins) (hck : chkI o rt nL tb ix (pc, ins, xs, cv0) = true)
    (hs : step (pc, ins, xs, cv0) lv st M = some (gs, a))
    (k1 : ∀ l' st' M', a = rNx l' st' M' → GO p l e R s m args below meth c cells slots Q G sc nL (pc + len) l' st' M')
    (k2 : ∀ j l' st' M' e', a = rJp j l' st' M' → tb[j]? = some e' → GO p l e R s m args below meth c cells slots Q G sc nL e'.1 l' st' M') : W p l e R s m args below meth c H locs cells slots Q (F0 m pc ls (st.map (cv G))) := by
  have hx := C.1
  have hb := C.2.1
  cases ins with
  | ifCond k off =>
    have hck : jt tb (xg (pc, Instr.ifCond k off, xs, cv0) 0) ((pc : Int) + off) = true := hck
    obtain ⟨e', he', ht⟩ := jt_at hck
    have hln : len = 3 := hln.elim (fun h => by cases h) (fun h => h)
    subst hln
    have hs : if1 k (xg (pc, Instr.ifCond k off, xs, cv0) 0) lv st M = some (gs, a) := hs
    unfold if1 at hs
    split at hs
    · obtain ⟨hP1, hx0⟩ := hP.pop
      have e0 := ofInt_inj hx0 R0
      have e1 := ofInt_lt hx0 R0
      have e2 := ofInt_le R0 hx0
      have e3 := ofInt_lt R0 hx0
      have e4 := ofInt_le hx0 R0
      rw [ofInt_0] at e0 e1 e2 e3 e4
      cases k <;> (simp only [Option.some.injEq, Prod.mk.injEq] at hs; obtain ⟨-, rfl⟩ := hs)
      · exact lv_if_eq (tgt := e'.1) hx hb hd ht (fun q => k2 _ _ _ _ _ (jmp_pos (e0.mp q)) he' _ _ _ hP1) (fun q => k1 _ _ _ (jmp_neg (fun z => q (e0.mpr z))) _ _ _ hP1)
      · exact lv_if_ne (tgt := e'.1) hx hb hd ht (fun q => k2 _ _ _ _ _ (jmp_pos (fun z => q (e0.mpr z))) he' _ _ _ hP1) (fun q => k1 _ _ _ (jmp_neg (fun z => z (e0.mp q))) _ _ _ hP1)
      · exact lv_if_lt (tgt := e'.1) hx hb hd ht (fun q => k2 _ _ _ _ _ (jmp_pos (e1.mp q)) he' _ _ _ hP1) (fun q => k1 _ _ _ (jmp_neg (fun z => q (e1.mpr z))) _ _ _ hP1)
      · exact lv_if_ge (tgt := e'.1) hx hb hd ht (fun q => k2 _ _ _ _ _ (jmp_pos (e2.mp q)) he' _ _ _ hP1) (fun q => k1 _ _ _ (jmp_neg (fun z => q (e2.mpr z))) _ _ _ hP1)
      · exact lv_if_gt (tgt := e'.1) hx hb hd ht (fun q => k2 _ _ _ _ _ (jmp_pos (e3.mp q)) he' _ _ _ hP1) (fun q => k1 _ _ _ (jmp_neg (fun z => q (e3.mpr z))) _ _ _ hP1)
      · exact lv_if_le (tgt := e'.1) hx hb hd ht (fun q => k2 _ _ _ _ _ (jmp_pos (e4.mp q)) he' _ _ _ hP1) (fun q => k1 _ _ _ (jmp_neg (fun z => q (e4.mpr z))) _ _ _ hP1)
    · cases hs
  | if_icmp k off =>
    have hck : jt tb (xg (pc, Instr.if_icmp k off, xs, cv0) 0) ((pc : Int) + off) = true := hck
    obtain ⟨e', he', ht⟩ := jt_at hck
    have hln : len = 3 := hln.elim (fun h => by cases h) (fun h => h)
    subst hln
    have hs : if2 k (xg (pc, Instr.if_icmp k off, xs, cv0) 0) lv st M = some (gs, a) := hs
    unfold if2 at hs
    split at hs
    · obtain ⟨hP0, hy0⟩ := hP.pop
      obtain ⟨hP1, hx0⟩ := hP0.pop
      have e0 := ofInt_inj hx0 hy0
      have e1 := ofInt_lt hx0 hy0
      have e2 := ofInt_le hy0 hx0
      have e3 := ofInt_lt hy0 hx0
      have e4 := ofInt_le hx0 hy0
      cases k <;> (simp only [Option.some.injEq, Prod.mk.injEq] at hs; obtain ⟨-, rfl⟩ := hs)
      · exact lv_icmp_eq (tgt := e'.1) hx hb hd ht (fun q => k2 _ _ _ _ _ (jmp_pos (e0.mp q)) he' _ _ _ hP1) (fun q => k1 _ _ _ (jmp_neg (fun z => q (e0.mpr z))) _ _ _ hP1)
      · exact lv_icmp_ne (tgt := e'.1) hx hb hd ht (fun q => k2 _ _ _ _ _ (jmp_pos (fun z => q (e0.mpr z))) he' _ _ _ hP1) (fun q => k1 _ _ _ (jmp_neg (fun z => z (e0.mp q))) _ _ _ hP1)
      · exact lv_icmp_lt (tgt := e'.1) hx hb hd ht (fun q => k2 _ _ _ _ _ (jmp_pos (e1.mp q)) he' _ _ _ hP1) (fun q => k1 _ _ _ (jmp_neg (fun z => q (e1.mpr z))) _ _ _ hP1)
      · exact lv_icmp_ge (tgt := e'.1) hx hb hd ht (fun q => k2 _ _ _ _ _ (jmp_pos (e2.mp q)) he' _ _ _ hP1) (fun q => k1 _ _ _ (jmp_neg (fun z => q (e2.mpr z))) _ _ _ hP1)
      · exact lv_icmp_gt (tgt := e'.1) hx hb hd ht (fun q => k2 _ _ _ _ _ (jmp_pos (e3.mp q)) he' _ _ _ hP1) (fun q => k1 _ _ _ (jmp_neg (fun z => q (e3.mpr z))) _ _ _ hP1)
      · exact lv_icmp_le (tgt := e'.1) hx hb hd ht (fun q => k2 _ _ _ _ _ (jmp_pos (e4.mp q)) he' _ _ _ hP1) (fun q => k1 _ _ _ (jmp_neg (fun z => q (e4.mpr z))) _ _ _ hP1)
    · cases hs
  | goto off =>
    have hck : jt tb (xg (pc, Instr.goto off, xs, cv0) 0) ((pc : Int) + off) = true := hck
    obtain ⟨e', he', ht⟩ := jt_at hck
    have hln : len = 3 := hln.elim (fun h => by cases h) (fun h => h)
    subst hln
    simp only [step, Option.some.injEq, Prod.mk.injEq] at hs
    obtain ⟨-, rfl⟩ := hs
    exact lv_goto (tgt := e'.1) hx hb hd ht (k2 _ _ _ _ _ rfl he' _ _ _ hP)
  | ifnonnull off =>
    have hck : jt tb (xg (pc, Instr.ifnonnull off, xs, cv0) 0) ((pc : Int) + off) = true := hck
    obtain ⟨e', he', ht⟩ := jt_at hck
    have hln : len = 3 := hln.elim (fun h => by cases h) (fun h => h)
    subst hln
    simp only [step] at hs
    split at hs
    · next q rest =>
      simp only [Option.some.injEq, Prod.mk.injEq] at hs
      obtain ⟨-, rfl⟩ := hs
      exact lv_ifnonnull (tgt := e'.1) hx hb hd ht (k2 _ _ _ _ _ rfl he' _ _ _ hP.pop.1)
    · cases hs
  | tableswitch df lo hi' offs =>
    simp only [chkI, Bool.and_eq_true, decide_eq_true_eq, beq_iff_eq, List.all_eq_true, List.mem_range] at hck
    obtain ⟨⟨⟨⟨⟨⟨c1, c2⟩, c3⟩, c4⟩, c5⟩, c6⟩, c7⟩ := hck
    simp only [step] at hs
    split at hs
    · next x rest =>
      simp only [Option.some.injEq, Prod.mk.injEq] at hs
      obtain ⟨-, rfl⟩ := hs
      obtain ⟨hP1, hx0⟩ := hP.pop
      have hx0 : inR x := hx0
      have ex : (Int32.ofInt x).toInt = x := toInt_ofInt32 hx0
      by_cases hq : lo ≤ x ∧ x ≤ hi'
      · have hk : (x - lo).toNat < offs.size := by omega
        have c8 := c7 (x - lo).toNat hk
        obtain ⟨e', he', ht⟩ := jt_at c8
        have hof : offs[(x - lo).toNat]? = some (offs.toList.getD (x - lo).toNat 0) := by
          rw [List.getD_eq_getElem?_getD, Array.getElem?_toList, Array.getElem?_eq_getElem hk]; rfl
        refine lv_tableIn (tgt := e'.1) (off := offs.toList.getD (x - lo).toNat 0) hx hb hd (by rw [ex]; omega) (by rw [ex]; omega) (by rw [ex]; exact hof) ht ?_
        refine k2 (tsel lo hi' xs x) _ _ _ e' rfl ?_ _ _ _ hP1
        unfold tsel
        rw [if_pos hq]
        exact he'
      · obtain ⟨e', he', ht⟩ := jt_at c1
        refine lv_tableOut (tgt := e'.1) hx hb hd (by rw [ex]; omega) ht ?_
        refine k2 (tsel lo hi' xs x) _ _ _ e' rfl ?_ _ _ _ hP1
        unfold tsel
        rw [if_neg hq]
        exact he'
    · cases hs
  | _ => simp [isB] at hi
end SD
