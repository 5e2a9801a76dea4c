/-! String.checkIndex, walked by hand; the fields of Strings; statics; constants -/
theorem gt_good : GoodIn gtbl gtbl := fun w h => ⟨h, good_of_word (List.mem_filter.mp h).2⟩
theorem gt_cons {w : Cond} (h : w ∈ gtbl) : GoodIn gtbl (w :: gtbl) := fun v hv => (List.mem_cons.mp hv).elim (fun e => by rw [e]; exact gt_good w h) (gt_good v)
def cPc : Cond := Cond.code yJ3_checkIndex_8e157 cJ3_checkIndex_8e157 3 (some .int)
def cSc : Cond := Cond.code yJ0_checkIndex_df160 cJ0_checkIndex_df160 2 none
set_option maxRecDepth 50000 in
theorem cPc_in : cPc ∈ gtbl := (gd (tk3 (List.mem_of_getElem? (i := 119) rfl)) rfl)
set_option maxRecDepth 50000 in
theorem cSc_in : cSc ∈ gtbl := (gd (tk3 (List.mem_of_getElem? (i := 114) rfl)) rfl)
set_option maxRecDepth 50000 in
theorem w_Pst : Cond.static yJ3_checkIndex_8e157 ∈ gtbl := (gd (tk3 (List.mem_of_getElem? (i := 118) rfl)) rfl)
set_option maxRecDepth 50000 in
theorem w_Pin : Cond.initialized RJ3 ∈ gtbl := (gd (tk1 (List.mem_of_getElem? (i := 18) rfl)) rfl)
set_option maxRecDepth 50000 in
theorem w_Pln : Cond.methodLink RJ0 1059 yJ3_checkIndex_8e157 ∈ gtbl := (gd (tk3 (List.mem_of_getElem? (i := 117) rfl)) rfl)
set_option maxRecDepth 50000 in
theorem w_Sst : Cond.static yJ0_checkIndex_df160 ∈ gtbl := (gd (tk3 (List.mem_of_getElem? (i := 113) rfl)) rfl)
set_option maxRecDepth 50000 in
theorem w_Sin : Cond.initialized RJ0 ∈ gtbl := (gd (tk1 (List.mem_of_getElem? (i := 16) rfl)) rfl)
set_option maxRecDepth 50000 in
theorem w_Sln : Cond.methodLink RJ1 9 yJ0_checkIndex_df160 ∈ gtbl := (gd (tk3 (List.mem_of_getElem? (i := 112) rfl)) rfl)
set_option maxRecDepth 50000 in
theorem w_Sff : Cond.fieldLink RJ0 1053 "jdk/internal/util/Preconditions" "SIOOBE_FORMATTER" "Ljava/util/function/BiFunction;" ∈ gtbl := (gd (tk3 (List.mem_of_getElem? (i := 115) rfl)) rfl)
set_option maxRecDepth 50000 in
theorem w_Sva : Cond.fieldLink RJ0 9 "java/lang/String" "value" "[B" ∈ gtbl := (gd (tk9 (List.mem_of_getElem? (i := 68) rfl)) rfl)
set_option maxRecDepth 50000 in
theorem w_Sco : Cond.fieldLink RJ0 15 "java/lang/String" "coder" "B" ∈ gtbl := (gd (tk9 (List.mem_of_getElem? (i := 69) rfl)) rfl)
set_option maxRecDepth 50000 in
theorem w_An : Cond.native arraycopyName ∈ gtbl := (gd (tk2 (List.mem_of_getElem? (i := 201) rfl)) rfl)
set_option maxRecDepth 50000 in
theorem w_As : Cond.static arraycopyName ∈ gtbl := (gd (tk2 (List.mem_of_getElem? (i := 200) rfl)) rfl)
set_option maxRecDepth 50000 in
theorem w_Ai : Cond.initialized "java/lang/System" ∈ gtbl := (gd (tk1 (List.mem_of_getElem? (i := 21) rfl)) rfl)
set_option maxRecDepth 50000 in
theorem w_Al4 : Cond.methodLink (own' 4) 60 arraycopyName ∈ gtbl := (gd (tk2 (List.mem_of_getElem? (i := 199) rfl)) rfl)
set_option maxRecDepth 50000 in
theorem w_Al2 : Cond.methodLink (own' 2) 29 arraycopyName ∈ gtbl := (gd (tk2 (List.mem_of_getElem? (i := 202) rfl)) rfl)
set_option maxRecDepth 50000 in
theorem w_Al0 : Cond.methodLink (own' 0) 109 arraycopyName ∈ gtbl := (gd (tk4 (List.mem_of_getElem? (i := 222) rfl)) rfl)
theorem ac_ok : ∀ q ∈ ACT, Cond.methodLink (own' q.1) q.2 arraycopyName ∈ gtbl := List.forall_mem_cons.mpr ⟨w_Al4, List.forall_mem_cons.mpr ⟨w_Al2, List.forall_mem_cons.mpr ⟨w_Al0, fun _ h => nomatch h⟩⟩⟩
theorem dPc_0 : decode cJ3_checkIndex_8e157 0 = .ok (.iload_n 0, 1) := by decide +kernel
theorem dPc_1 : decode cJ3_checkIndex_8e157 1 = .ok (.ifCond .lt 8, 3) := by decide +kernel
theorem dPc_4 : decode cJ3_checkIndex_8e157 4 = .ok (.iload_n 0, 1) := by decide +kernel
theorem dPc_5 : decode cJ3_checkIndex_8e157 5 = .ok (.iload_n 1, 1) := by decide +kernel
theorem dPc_6 : decode cJ3_checkIndex_8e157 6 = .ok (.if_icmp .lt 10, 3) := by decide +kernel
theorem dPc_16 : decode cJ3_checkIndex_8e157 16 = .ok (.iload_n 0, 1) := by decide +kernel
theorem dPc_17 : decode cJ3_checkIndex_8e157 17 = .ok (.ireturn, 1) := by decide +kernel
theorem dSc_0 : decode cJ0_checkIndex_df160 0 = .ok (.iload_n 0, 1) := by decide +kernel
theorem dSc_1 : decode cJ0_checkIndex_df160 1 = .ok (.iload_n 1, 1) := by decide +kernel
theorem dSc_2 : decode cJ0_checkIndex_df160 2 = .ok (.getstatic 1053, 3) := by decide +kernel
theorem dSc_5 : decode cJ0_checkIndex_df160 5 = .ok (.invokestatic 1059, 3) := by decide +kernel
theorem dSc_8 : decode cJ0_checkIndex_df160 8 = .ok (.pop, 1) := by decide +kernel
theorem dSc_9 : decode cJ0_checkIndex_df160 9 = .ok (.return_, 1) := by decide +kernel
def rmP : Room := { frames := 1, cells := 0, slots := 0, locals := 20 }
def rmS : Room := { frames := 3, cells := 0, slots := 0, locals := 100 }
def QcV : Array Value → State → Outcome → State → Prop := fun _ st o t => o = .returned none ∧ t.heap = st.heap
theorem c_Pc (l : Launch) (i n : Int32) (v : Value) (h0 : ¬ i < 0) (h1 : i < n) (hv : v.category = 1) : Met l yJ3_checkIndex_8e157 (cPc :: gtbl) rmP (fun a _ => a = [Value.int i, .int n, v].toArray) (QcRead i) 0 0 (fun _ => False) := by
  refine Met.ofW (cc := cJ3_checkIndex_8e157) (maxL := 3) (ret := some .int) (by decide +kernel) rfl ?_
  intro p e s m args below meth c s₁ B hml hv2
  obtain rfl := hv2
  have hx := B.exec
  have hb := B.bytes
  have hr := B.returns
  have hl := lv_entry ([.int i, .int n, v]) (n := 3) (by have e1 : (Value.int i).category = 1 := rfl; have e2 : (Value.int n).category = 1 := rfl; simp [lg_sl, hv, e1, e2])
  rw [lg_entry_eq]
  generalize (lg_sl ([.int i, .int n, v]) ++ List.replicate (3 - (lg_sl ([.int i, .int n, v])).length) Slot.unset).toArray = ls at hl ⊢
  have e0 : ls[0]? = some (.val (.int i)) := hl.2.2 (0, .int i) (by simp [lv_args])
  have e1 : ls[1]? = some (.val (.int n)) := hl.2.2 (1, .int n) (by simp [lv_args, Value.category])
  refine lv_iload_n hx hb dPc_0 rfl e0 ?_
  refine lv_if_lt (tgt := 9) hx hb dPc_1 (by decide) (fun h => absurd h h0) (fun _ => ?_)
  refine lv_iload_n hx hb dPc_4 rfl e0 ?_
  refine lv_iload_n hx hb dPc_5 rfl e1 ?_
  refine lv_icmp_lt (tgt := 16) hx hb dPc_6 (by decide) (fun _ => ?_) (fun h => absurd h1 h)
  refine lv_iload_n hx hb dPc_16 rfl e0 ?_
  refine W.iret hx hb hr (fun t ht _ => ⟨rfl, ht⟩) (fun _ h => by cases h) dPc_17
section SD
variable {p : Program} {l : Launch} {e : Env} {R : Room} {s : State} {m : MethodId} {args : Array Value} {below : List Frame} {meth : Method} {c : Code} {H : Heap} {locs : List Loc} {cells slots : Nat} {Q : State → Prop}
variable {G : Gx} {sc : Nat × (Nat → Int)} {cc : ByteArray} {nL o pc : Nat} {ls : Array Slot} {lv st lv' st' : List AV} {M M' : Mem} {gs : List Prop}
theorem callV0 {g : JFrame} {rest : List Value} {a : Array Value} (hr : CallRun p l e R s m args below meth c H locs cells slots 0 0 g rest (QcV a) (fun _ => False)) (kk : W p l e R s m args below meth c H locs cells slots Q { g with pc := g.pc + 3, stack := rest }) : W p l e R s m args below meth c H locs cells slots Q g := by
  intro T hT X
  obtain ⟨v, st₀, t, T', L, h0, X', hL, e1, ⟨hv, hh⟩, st⟩ := hr T hT X
  cases hv
  obtain ⟨t2, a1, b1⟩ := kk T' (by rw [e1, hh, h0]) (Stand.forget X' (fun q h => (hL q h).elim))
  exact ⟨t2, st t2 a1, b1⟩
end SD
theorem c_Sc (l : Launch) (G : Gx) (i n : Int32) (h0 : ¬ i < 0) (h1 : i < n) : Met l yJ0_checkIndex_df160 (cSc :: gtbl) rmS (fun a U => a = [Value.int i, .int n].toArray ∧ va_Zq "jdk/internal/util/Preconditions" "SIOOBE_FORMATTER" "Ljava/util/function/BiFunction;" (AA G) U U.heap) QcV 0 0 (fun _ => False) := by
  refine Met.ofW (cc := cJ0_checkIndex_df160) (maxL := 2) (ret := none) (by decide +kernel) rfl ?_
  intro p e s m args below meth c s₁ B hml hv
  obtain ⟨rfl, hZ⟩ := hv
  have hx := B.exec
  have hb := B.bytes
  have hr := B.returns
  have hts0 := atoms_spec (ws := cSc :: gtbl) B.pre
  have hts : ∀ w ∈ gtbl, w.before _ s = true := fun w h => hts0 w (List.mem_cons_of_mem _ h)
  have hown : s.vm.findClass RJ0 = some m.cls := findClass_of_methodNamed B.named
  have hl := lv_entry ([.int i, .int n]) (n := 2) (Nat.le_of_ble_eq_true rfl)
  rw [lg_entry_eq]
  generalize (lg_sl ([.int i, .int n]) ++ List.replicate (2 - (lg_sl ([.int i, .int n])).length) Slot.unset).toArray = ls at hl ⊢
  have hl : lv_has ls 2 [(0, .int i), (1, .int n)] := hl
  have go : ∀ v : Value, v.category = 1 → va_Z "jdk/internal/util/Preconditions" "SIOOBE_FORMATTER" "Ljava/util/function/BiFunction;" v (AA G) s s.heap → W p l e (headSpec (cSc :: gtbl) rmS).room s m #[.int i, .int n] below meth c s.heap [] 0 0 (MQ below QcV #[.int i, .int n] s 0 0 (fun _ => False)) (F0 m 0 ls []) := by
    intro v hv hZ
    refine lv_iload_n hx hb dSc_0 rfl (lv_at hl 0 rfl) ?_
    refine lv_iload_n hx hb dSc_1 rfl (lv_at hl 1 rfl) ?_
    refine va_gets hx hb hZ va_S.rf hown (hts _ w_Sff) (fun _ h => h) dSc_2 ?_
    refine W.callR (r := i) (a := [Value.int i, .int n, v].toArray) (rest := []) (W.runS (As := [.int i, .int n, v]) (rest := []) ⟨hx, hb, hml, hown, hts⟩ (c_Pc l i n v h0 h1 hv) ⟨callB_of 3 hts (gt_cons cPc_in) rfl rfl rfl (hts _ w_Pin) (hts _ w_Pln) ⟨by decide +kernel, by decide +kernel, by decide +kernel⟩ ⟨Nat.le_of_ble_eq_true rfl, Nat.le_of_ble_eq_true rfl⟩, hts _ w_Pst⟩ preEq rfl rfl hl.1 rfl (room0 rfl) dSc_5 ⟨Nat.le_refl _, Nat.le_refl _⟩) ?_
    refine lv_pop hx hb dSc_8 rfl ?_
    exact W.vret hx hb hr (fun t ht _ => ⟨rfl, ht⟩) (fun _ h => by cases h) dSc_9
  rcases hZ with hZ | ⟨t, hZ⟩
  · exact go _ rfl hZ
  · exact go _ rfl hZ
section SD
variable {p : Program} {l : Launch} {e : Env} {R : Room} {s : State} {m : MethodId} {args : Array Value} {below : List Frame} {meth : Method} {c : Code} {H : Heap} {locs : List Loc} {cells slots : Nat} {Q : State → Prop}
variable {G : Gx} {sc : Nat × (Nat → Int)} {cc : ByteArray} {nL o pc : Nat} {ls : Array Slot} {lv st lv' st' : List AV} {M M' : Mem} {gs : List Prop}
theorem sd_ckx (C : Cx G sc p l s m args meth c cc nL 12) {n j : Int} {rest : List AV} (hP : PT G sc s nL H locs ls lv (vi n :: vi j :: rest) M) (hw : ¬ 8 < wds rest) (hg : 0 ≤ j ∧ j < n) (hf : 4 ≤ R.frames) (hlo : 200 ≤ R.locals) (hcl : cells ≤ R.cells) (hsl : slots ≤ R.slots) (hd : decode cc pc = .ok (.invokestatic 9, 3))
    (kk : GO p l e R s m args below meth c cells slots Q G sc nL (pc + 3) lv rest M) : W p l e R s m args below meth c H locs cells slots Q (F0 m pc ls ((vi n :: vi j :: rest).map (cv G))) := by
  obtain ⟨hx, hb, hml, hown, hts, hA, -, hAr, hRO, -⟩ := C
  have hown : s.vm.findClass RJ1 = some m.cls := hown
  obtain ⟨hP0, hn⟩ := hP.pop
  obtain ⟨hP1, hj⟩ := hP0.pop
  have h0 : ¬ Int32.ofInt j < 0 := by rw [← ofInt_0, ofInt_lt hj R0]; omega
  have h1 : Int32.ofInt j < Int32.ofInt n := by rw [ofInt_lt hj hn]; omega
  have hblind : FrameBlind (fun a U => a = [Value.int (Int32.ofInt j), .int (Int32.ofInt n)].toArray ∧ va_Zq "jdk/internal/util/Preconditions" "SIOOBE_FORMATTER" "Ljava/util/function/BiFunction;" (AA G) U U.heap) := fun a U g mk q => ⟨q.1, va_Zq.moved (u := U) (U := U.calling g mk a) (Vm.Alike.refl U.vm) q.2⟩
  refine callV0 (a := [Value.int (Int32.ofInt j), .int (Int32.ofInt n)].toArray) (rest := rest.map (cv G)) (W.runS (As := [.int (Int32.ofInt j), .int (Int32.ofInt n)]) (rest := rest.map (cv G)) ⟨hx, hb, hml, hown, hts⟩ (c_Sc l G (Int32.ofInt j) (Int32.ofInt n) h0 h1) ⟨callB_of 2 hts (gt_cons cSc_in) rfl rfl rfl (hts _ w_Sin) (hts _ w_Sln) ⟨by decide +kernel, by decide +kernel, by decide +kernel⟩ ⟨?_, ?_⟩, hts _ w_Sst⟩ ⟨hblind, fun U hU hW => ⟨rfl, ?_⟩⟩ rfl rfl hP.2.1.1.1 rfl ?_ hd ⟨hcl, hsl⟩) ?_
  · show 3 + 1 ≤ R.frames; omega
  · show 8 + (2 + 11) + 100 ≤ R.locals; omega
  · rw [hU]
    exact va_Zq.moved hW.alike (hRO.2.2.2.2.2.2.2.1.kept hP.2.2.2.2.2.1)
  · show 2 * 0 + ((rest.map (cv G)).map fun v => v.category).sum ≤ 8
    rw [wds_cat]; omega
  · exact kk _ _ _ hP1
/-- a String's two fields -/
theorem sd_gts {idx n j k : Nat} {v : Int} (C : Cx G sc p l s m args meth c cc nL 11) (hP : PT G sc s nL H locs ls lv st M) (hk : idx = 9 ∧ j = 0 ∧ k = 2 ∨ idx = 15 ∧ k = 5 ∧ v = 0) (hs : gtf 11 j k v lv st M = some (gs, rNx lv' st' M')) (hd : decode cc pc = .ok (.getfield idx, 3))
    (kk : GO p l e R s m args below meth c cells slots Q G sc nL (pc + 3) lv' st' M') : W p l e R s m args below meth c H locs cells slots Q (F0 m pc ls (st.map (cv G))) := by
  obtain ⟨hx, hb, -, hown, hts, hA, hK, -, hRO, -⟩ := C
  have hown : s.vm.findClass RJ0 = some m.cls := hown
  unfold gtf at hs
  split at hs
  · next t' i rest =>
    by_cases e : t' = 11
    · subst e
      rw [if_pos rfl] at hs
      have hi : i < 28 := ok_sys hP.pop.2 (by omega)
      obtain ⟨-, hco, hva, -⟩ := hRO.2.2.2.2.1 i hi
      rcases hk with ⟨rfl, rfl, rfl⟩ | ⟨rfl, rfl, rfl⟩
      · simp only [Option.some.injEq, Prod.mk.injEq, Sum.inl.injEq] at hs
        obtain ⟨-, rfl, rfl, rfl⟩ := hs
        refine vk_getf hx hb hva hP.2.2.2.2 hown (hts _ w_Sva) (fun _ h => h) hd ?_
        exact kk _ _ _ (hP.pop.1.push (v := vr 119 i) (Or.inr hi))
      · simp only [Option.some.injEq, Prod.mk.injEq, Sum.inl.injEq] at hs
        obtain ⟨-, rfl, rfl, rfl⟩ := hs
        refine vk_getf hx hb hco hP.2.2.2.2 hown (hts _ w_Sco) (fun _ h => h) hd ?_
        exact kk _ _ _ (hP.pop.1.push (v := vi 0) R0)
    · rw [if_neg e] at hs
      cases hs
  · cases hs
/-- statics -/
theorem sd_gst {idx a k : Nat} {v : AV} (C : Cx G sc p l s m args meth c cc nL o) (hP : PT G sc s nL H locs ls lv st M) (hq : (idx, a, k) ∈ SLT.getD o []) (ho : o < 16) (hk : k = 0 ∨ k = 1) (ha : a = 116 ∧ v = vr 116 0 ∨ a = 117 ∧ v = vr 117 0 ∨ a = 0 ∧ v = vi 1) (hd : decode cc pc = .ok (.getstatic idx, 3))
    (kk : GO p l e R s m args below meth c cells slots Q G sc nL (pc + 3) lv (v :: st) M) : W p l e R s m args below meth c H locs cells slots Q (F0 m pc ls (st.map (cv G))) := by
  obtain ⟨hx, hb, -, hown, hts, hA, hK, -, hRO, -⟩ := C
  obtain ⟨z1, z2, z3⟩ := hRO.2.2.2.1
  have hZ : va_Z (sfld a).1 (sfld a).2.1 (sfld a).2.2 (cv G v) (AA G) s s.heap := by
    rcases ha with ⟨rfl, rfl⟩ | ⟨rfl, rfl⟩ | ⟨rfl, rfl⟩
    · exact z1
    · exact z2
    · exact z3
  have hv : okV v := by
    rcases ha with ⟨rfl, rfl⟩ | ⟨rfl, rfl⟩ | ⟨rfl, rfl⟩
    · exact Or.inr (by decide)
    · exact Or.inr (by decide)
    · exact ⟨by decide, by decide⟩
  have h := slk o ho _ hq
  unfold SOK at h
  rcases hk with rfl | rfl
  · rw [if_neg (fun q : (0 : Nat) = 1 => by omega)] at h
    exact va_gets hx hb hZ hP.2.2.2.2 hown (hts _ h) (fun _ h => h) hd (kk _ _ _ (hP.push hv))
  · rw [if_pos rfl] at h
    exact va_getsN (ref := (sfld a).1) hx hb hZ hP.2.2.2.2 hown (va_Nw.use rfl (hRO.2.2.2.2.2.2.2.2.1 _ h rfl)) (fun _ h => h) hd (kk _ _ _ (hP.push hv))
end SD

