/-! EVERY CONSTRUCTOR'S CONTRACT -/
section SD
variable {p : Program} {l : Launch} {e : Env} {R : Room} {s : State} {m : MethodId} {args : Array Value} {below : List Frame} {meth : Method} {c : Code} {H : Heap} {locs : List Loc} {cells slots : Nat} {Q : State → Prop}
variable {D : va_G} {K : FieldType → ClassId} {N0 : Nat} {cc : ByteArray} {nL o pc : Nat} {ls : Array Slot} {lv st lv' st' : List AV} {w w' : BW}
theorem BPT.sto {i : Nat} {v : AV} {ls' : Array Slot} (hP : BPT D K N0 s nL H locs ls lv w) (hi : i < nL) (h : lv_has ls' nL ((i, cv (Gb N0) v) :: (lp (Gb N0) lv).filter (fun q => !(q.1 == i) && !(q.1 + 1 == i && q.2.category == 2)))) : BPT D K N0 s nL H locs ls' (stv lv i v) w :=
  ⟨hP.1, LV.st1 hP.2.1.2 hi h, hP.2.2⟩
set_option maxHeartbeats 4000000 in
/-- a step that goes on -/
theorem b_nx {tb : List Ent} {ins : Instr} {xs : List Nat} {v0 : Int} (C : BCx D K N0 p s m args meth c cc nL o) (ho : o < 11 ∨ o = 15) (hP : BPT D K N0 s nL H locs ls lv w) (hd : decode cc pc = .ok (ins, bln ins)) (hck : bchkI o nL tb (pc, ins, xs, v0) = true) (hfr : 1 ≤ R.frames) (hlo : 64 ≤ R.locals)
    (hs : bstp (pc, ins, xs, v0) lv st w = some (.inl (lv', st', w'))) {c1 s1 : Nat} (hc1 : w'.1 + cells = w.1 + c1) (hs1 : w'.2.1 + slots = w.2.1 + s1) (hce : c1 ≤ R.cells) (hsl : s1 ≤ R.slots)
    (kk : BGO p l e R s m args below meth c c1 s1 Q D K N0 nL (pc + bln ins) lv' st' w') : W p l e R s m args below meth c H locs cells slots Q (F0 m pc ls (st.map (cv (Gb N0)))) := by
  have hx := C.1
  have hb := C.2.1
  have hml := C.2.2.1
  have hown := C.2.2.2.1
  have hts := C.2.2.2.2.1
  have same : w' = w → c1 = cells ∧ s1 = slots := fun h => by subst h; omega
  cases ins with
  | aload_n i =>
    simp only [bstp] at hs
    split at hs
    · next v hv =>
      split at hs
      · next hr =>
        cases hs
        obtain ⟨rfl, rfl⟩ := same rfl
        obtain ⟨a, rfl⟩ := isRef_of hr
        exact lv_aload_n hx hb hd rfl (hP.2.1.get hv (by intro h; cases h)) (kk _ _ _ hP)
      · cases hs
    · cases hs
  | iload_n i =>
    simp only [bstp] at hs
    split at hs
    · next x hv =>
      cases hs
      obtain ⟨rfl, rfl⟩ := same rfl
      exact lv_iload_n hx hb hd rfl (hP.2.1.get hv (by intro h; cases h)) (kk _ _ _ hP)
    · cases hs
  | iconst k =>
    cases hs
    obtain ⟨rfl, rfl⟩ := same rfl
    exact lv_iconst hx hb hd rfl (kk _ _ _ hP)
  | bipush k =>
    cases hs
    obtain ⟨rfl, rfl⟩ := same rfl
    simp only [bchkI, beq_iff_eq] at hck
    have hr := Int8.le_toInt (Int8.ofInt k)
    have hr2 := Int8.toInt_lt (Int8.ofInt k)
    have e9 : (Int8.ofInt k).toInt32 = Int32.ofInt k := Int32.toInt_inj.mp (by rw [Int8.toInt_toInt32, hck, toInt_ofInt32 ⟨by omega, by omega⟩])
    exact lv_bipush hx hb hd e9 (kk _ _ _ hP)
  | sipush k =>
    cases hs
    obtain ⟨rfl, rfl⟩ := same rfl
    simp only [bchkI, beq_iff_eq] at hck
    have hr := Int16.le_toInt (Int16.ofInt k)
    have hr2 := Int16.toInt_lt (Int16.ofInt k)
    have e9 : (Int16.ofInt k).toInt32 = Int32.ofInt k := Int32.toInt_inj.mp (by rw [Int16.toInt_toInt32, hck, toInt_ofInt32 ⟨by omega, by omega⟩])
    exact lv_sipush hx hb hd e9 (kk _ _ _ hP)
  | istore_n i =>
    have hi : i.val < nL := by simpa [bchkI] using hck
    simp only [bstp] at hs
    split at hs
    · next x r =>
      cases hs
      obtain ⟨rfl, rfl⟩ := same rfl
      exact lv_istore_n hx hb hd rfl hP.2.1.1 hi rfl fun ls' h => kk _ _ _ (hP.sto (v := vi x) hi h)
    · cases hs
  | iinc i k =>
    simp only [bstp] at hs
    split at hs
    · next x hl =>
      cases hs
      obtain ⟨rfl, rfl⟩ := same rfl
      have hi : i < nL := by
        have := (List.getElem?_eq_some_iff.mp hl).1
        have := hP.2.1.2
        omega
      obtain ⟨kx, hk⟩ := List.getElem?_of_mem (mem_lp (G := Gb N0).mpr ⟨_, hl, (by intro h; cases h), rfl⟩)
      exact lv_iinc hx hb hd hP.2.1.1 hk (v := Int32.ofInt (x + k)) (by rw [Int32.ofInt_add]) hi rfl fun ls' h => kk _ _ _ (hP.sto (v := vi (x + k)) hi h)
    · cases hs
  | if_icmp kd off =>
    cases kd with
    | ge =>
      have hck : jt tb (xg (pc, Instr.if_icmp .ge off, xs, v0) 0) ((pc : Int) + off) = true := hck
      obtain ⟨e', he', ht⟩ := jt_at hck
      simp only [bstp] at hs
      split at hs
      · next y x r =>
        split at hs
        · next hc =>
          obtain ⟨a1, a2⟩ := sml_i hc.1
          obtain ⟨b1, b2⟩ := sml_i hc.2
          split at hs
          · cases hs
          · next hlt =>
            cases hs
            obtain ⟨rfl, rfl⟩ := same rfl
            have e2 := ofInt_le (x := y) (y := x) ⟨by omega, by omega⟩ ⟨by omega, by omega⟩
            exact lv_icmp_ge (tgt := e'.1) hx hb hd ht (fun q => absurd (e2.mp q) hlt) (fun q => kk _ _ _ hP)
        · cases hs
      · cases hs
    | _ => cases hs
  | dup =>
    simp only [bstp] at hs
    split at hs
    · next v r =>
      split at hs
      · next hr =>
        cases hs
        obtain ⟨rfl, rfl⟩ := same rfl
        obtain ⟨a, rfl⟩ := isRef_of hr
        exact lv_dup hx hb hd rfl (kk _ _ _ hP)
      · cases hs
    · cases hs
  | new idx =>
    cases hs
    have h1 : c1 = cells + 1 := by have : w.1 + 1 + cells = w.1 + c1 := hc1; omega
    have h2 : s1 = slots + nfl (xg (pc, Instr.new idx, xs, v0) 0) := by have : w.2.1 + nfl (xg (pc, Instr.new idx, xs, v0) 0) + slots = w.2.1 + s1 := hs1; omega
    subst h1; subst h2
    exact b_new C hP (clk_all o ho _ (List.contains_iff_mem.mp hck)) hd hce hsl kk
  | invokespecial idx =>
    simp only [bstp] at hs
    simp only [bchkI] at hck
    split at hs
    · next h99 =>
      rw [if_pos h99] at hck
      split at hs
      · next v =>
        split at hs
        · next hr =>
          cases hs
          obtain ⟨rfl, rfl⟩ := same rfl
          obtain ⟨a, rfl⟩ := isRef_of hr
          refine W.objInit hx hb hown (hts _ (olk_all o ho _ (List.contains_iff_mem.mp hck))) (hts _ obj_w.1) (hts _ obj_w.2) rfl (by rw [hml]; exact hP.2.1.1.1) rfl hd hfr (by show 2 * 0 + 0 + 12 ≤ R.locals; omega) ?_
          exact kk _ _ _ hP
        · cases hs
      · cases hs
    · split at hs
      · cases hs
      · cases hs
  | putfield idx =>
    simp only [bchkI, Bool.and_eq_true, beq_iff_eq] at hck
    have hm := bput_mo hs
    have h9 : ∀ (c2 s2 : Nat), c2 = c1 → s2 = s1 → BGO p l e R s m args below meth c c2 s2 Q D K N0 nL (pc + 3) lv' st' w' := fun c2 s2 h1 h2 => by subst h1; subst h2; exact kk
    have hw : w'.1 = w.1 ∧ w'.2.1 = w.2.1 := by
      have hs' : bput (xg (pc, Instr.putfield idx, xs, v0) 0) (xg (pc, Instr.putfield idx, xs, v0) 1) lv w st = some (.inl (lv', st', w')) := hs
      unfold bput at hs'
      split at hs'
      · split at hs'
        · split at hs'
          · cases hs'; exact ⟨rfl, rfl⟩
          · cases hs'
        · cases hs'
      · cases hs'
    exact (b_put C hP (bfk_all o ho _ (List.contains_iff_mem.mp hck.1)) hck.2 hs hd (h9 cells slots (by omega) (by omega))).2.2
  | getfield idx =>
    simp only [bchkI] at hck
    have hw : w' = w := by
      have hs' : bget (xg (pc, Instr.getfield idx, xs, v0) 0) (xg (pc, Instr.getfield idx, xs, v0) 1) lv w st = some (.inl (lv', st', w')) := hs
      unfold bget at hs'
      split at hs'
      · split at hs'
        · split at hs'
          · split at hs'
            · split at hs'
              · cases hs'; rfl
              · cases hs'
            · cases hs'
          · cases hs'
        · cases hs'
      · cases hs'
    obtain ⟨rfl, rfl⟩ := same hw
    exact (b_get C hP (bfk_all o ho _ (List.contains_iff_mem.mp hck)) hs hd kk).2
  | newarray at' =>
    simp only [bchkI, Bool.and_eq_true, decide_eq_true_eq] at hck
    simp only [bstp] at hs
    split at hs
    · next x r =>
      split at hs
      · next hx0 =>
        have hbs : bsz (.inr (.inl (bty (xg (pc, Instr.newarray at', xs, v0) 0), [x.toNat])) : BE) = 1 := by show 1 + x.toNat * 0 = 1; omega
        unfold bnew at hs
        rw [hbs] at hs
        cases hs
        have h1 : c1 = cells + 1 := by have : w.1 + 1 + cells = w.1 + c1 := hc1; omega
        have h2 : s1 = slots + x.toNat := by have : w.2.1 + x.toNat + slots = w.2.1 + s1 := hs1; omega
        subst h1; subst h2
        exact b_newa C hP hck.2 hck.1 hx0 hd hce hsl kk
      · cases hs
    · cases hs
  | anewarray idx =>
    simp only [bchkI] at hck
    simp only [bstp] at hs
    split at hs
    · next x r =>
      split at hs
      · next hx0 =>
        cases hs
        have h1 : c1 = cells + 1 := by have : w.1 + 1 + cells = w.1 + c1 := hc1; omega
        have h2 : s1 = slots + x.toNat := by have : w.2.1 + x.toNat + slots = w.2.1 + s1 := hs1; omega
        subst h1; subst h2
        exact b_newq C hP (clk_all o ho _ (List.contains_iff_mem.mp hck)) hx0 hd hce hsl kk
      · cases hs
    · cases hs
  | aastore =>
    have h9 : ∀ (c2 s2 : Nat), c2 = c1 → s2 = s1 → BGO p l e R s m args below meth c c2 s2 Q D K N0 nL (pc + 1) lv' st' w' := fun c2 s2 h1 h2 => by subst h1; subst h2; exact kk
    have hw : w'.1 = w.1 ∧ w'.2.1 = w.2.1 := by
      have hs' : baas lv w st = some (.inl (lv', st', w')) := hs
      unfold baas at hs'
      split at hs'
      · split at hs'
        · split at hs'
          · cases hs'; exact ⟨rfl, rfl⟩
          · cases hs'
        · cases hs'
      · cases hs'
    exact (b_ast C hP hs hd (h9 cells slots (by omega) (by omega))).2.2
  | multianewarray idx k =>
    simp only [bchkI, Bool.and_eq_true, beq_iff_eq] at hck
    simp only [bstp] at hs
    split at hs
    · next ns hn =>
      split at hs
      · next hl =>
        cases hs
        have h1 : c1 = cells + nS ns := by have : w.1 + nS ns + cells = w.1 + c1 := hc1; omega
        have h2 : s1 = slots + nSl ns := by have : w.2.1 + nSl ns + slots = w.2.1 + s1 := hs1; omega
        subst h1; subst h2
        exact b_mna C hP hck.1 (List.contains_iff_mem.mp hck.2) hn hl hd hce hsl kk
      · cases hs
    · cases hs
  | return_ =>
    simp only [bstp] at hs
    split at hs <;> cases hs
  | goto off => cases hs
  | _ => cases hs
end SD
