/-! A CONSTRUCTOR: what the builder answers, it does -/
def bchkI (o nl : Nat) (c : List Ent) (e : Ent) : Bool := match e.2.1 with
  | .bipush k => (Int8.ofInt k).toInt == k
  | .sipush k => (Int16.ofInt k).toInt == k
  | .istore_n i => decide (i.val < nl)
  | .if_icmp _ off => jt c (xg e 0) ((e.1 : Int) + off)
  | .goto off => jt c (xg e 0) ((e.1 : Int) + off)
  | .new idx => (CLT.getD o []).contains (idx, xg e 0)
  | .invokespecial idx => if xg e 0 = 99 then (OLT.getD o []).contains idx else ((BLT.getD o []).contains (idx, xg e 0, 0) || (BLT.getD o []).contains (idx, xg e 0, 1)) && xg e 1 == (bi (xg e 0)).2.2.2
  | .putfield idx => (BFT.getD o []).contains (idx, xg e 0, xg e 1) && xg e 0 == o
  | .getfield idx => (BFT.getD o []).contains (idx, xg e 0, xg e 1)
  | .newarray a => decide (newarray.typeOf a = bty (xg e 0)) && decide (xg e 0 < 3)
  | .anewarray idx => (CLT.getD o []).contains (idx, 2)
  | .multianewarray idx k => o == 10 && MLK.contains (idx, xg e 0, k)
  | _ => true
def bchkE (o nl : Nat) (by' : ByteArray) (c : List Ent) (i : Nat) : Bool := match c[i]? with
  | none => true
  | some e => match decode by' e.1 with
    | .ok (ins, len) => decide (ins = e.2.1) && len == bln ins && (match c[i + 1]? with | some e' => e'.1 == e.1 + len | none => true) && bchkI o nl c e
    | .error _ => false
theorem bchk_of {o nl : Nat} {cc : ByteArray} {tb : List Ent} {i pc : Nat} {ins : Instr} {xs : List Nat} {v0 : Int} (h : bchkE o nl cc tb i = true) (he : tb[i]? = some (pc, ins, xs, v0)) :
    decode cc pc = .ok (ins, bln ins) ∧ (∀ e', tb[i + 1]? = some e' → e'.1 = pc + bln ins) ∧ bchkI o nl tb (pc, ins, xs, v0) = true := by
  unfold bchkE at h
  rw [he] at h
  dsimp only at h
  split at h
  · next ins' len hd =>
    simp only [Bool.and_eq_true, decide_eq_true_eq, beq_iff_eq] at h
    obtain ⟨⟨⟨h1, h2⟩, h3⟩, h4⟩ := h
    subst h1
    subst h2
    refine ⟨hd, fun e' he' => ?_, h4⟩
    rw [he'] at h3
    exact beq_iff_eq.mp h3
  · cases h
def BPc (D : va_G) (K : FieldType → ClassId) (N0 : Nat) (as : List AV) (w : BW) : Array Value → State → Prop := fun a U => a = (as.map (cv (Gb N0))).toArray ∧ HB D K N0 w U.heap ∧ va_K D cls11 [] U ∧ KOK K U ∧ NwA U
def BQc (D : va_G) (K : FieldType → ClassId) (N0 : Nat) (w : BW) : Array Value → State → Outcome → State → Prop := fun _ st oc t => oc = .returned none ∧ HB D K N0 w t.heap ∧ va_F (fun q => N0 ≤ q) st t
def rmB (d mc ms : Nat) : Room := { frames := d + 10, cells := mc, slots := ms, locals := 64 * d + 200 }
def BCt (l : Launch) (D : va_G) (K : FieldType → ClassId) (N0 d q : Nat) (as : List AV) (w w' : BW) : Prop :=
  Met l (bi q).1 (bcode q :: gtbl) (rmB d (w'.1 - w.1) (w'.2.1 - w.2.1)) (BPc D K N0 as w) (BQc D K N0 w') (w'.1 - w.1) (w'.2.1 - w.2.1) (fun q => N0 ≤ q)
theorem NwA.warm {s U : State} (hW : s.WarmedH U.vm) (h : NwA s) : NwA U := fun w hw hk => nw_warm hk hW (h w hw hk)
theorem BPc_blind {D : va_G} {K : FieldType → ClassId} {N0 : Nat} {as : List AV} {w : BW} : FrameBlind (BPc D K N0 as w) := fun a U g mk h =>
  ⟨h.1, h.2.1, va_K.moved (u := U) (U := U.calling g mk a) (Vm.Alike.refl U.vm) h.2.2.1, KOK.moved (u := U) (U := U.calling g mk a) (Vm.Alike.refl U.vm) h.2.2.2.1, NwA.warm (s := U) (U := U.calling g mk a) (State.WarmedH.refl U) h.2.2.2.2⟩
def bmo (w w' : BW) : Prop := w.1 ≤ w'.1 ∧ w.2.1 ≤ w'.2.1
theorem bput_mo {t j : Nat} {lv st lv' st' : List AV} {w w' : BW} (h : bput t j lv w st = some (.inl (lv', st', w'))) : bmo w w' := by
  unfold bput at h
  split at h
  · split at h
    · split at h
      · cases h; exact ⟨Nat.le_refl _, Nat.le_refl _⟩
      · cases h
    · cases h
  · cases h
theorem bget_mo {t j : Nat} {lv st lv' st' : List AV} {w w' : BW} (h : bget t j lv w st = some (.inl (lv', st', w'))) : bmo w w' := by
  unfold bget at h
  split at h
  · split at h
    · split at h
      · split at h
        · split at h
          · cases h; exact ⟨Nat.le_refl _, Nat.le_refl _⟩
          · cases h
        · cases h
      · cases h
    · cases h
  · cases h
theorem baas_mo {lv st lv' st' : List AV} {w w' : BW} (h : baas lv w st = some (.inl (lv', st', w'))) : bmo w w' := by
  unfold baas at h
  split at h
  · split at h
    · split at h
      · cases h; exact ⟨Nat.le_refl _, Nat.le_refl _⟩
      · cases h
    · cases h
  · cases h
theorem bnew_mo {lv st lv' st' : List AV} {w w' : BW} {x : BE} {sl : Nat} (h : bnew lv st w x sl = some (.inl (lv', st', w'))) : bmo w w' := by
  cases h
  exact ⟨Nat.le_add_right _ _, Nat.le_add_right _ _⟩
section SD
variable {p : Program} {l : Launch} {e : Env} {R : Room} {s : State} {m : MethodId} {args : Array Value} {below : List Frame} {meth : Method} {c : Code} {H : Heap} {locs : List Loc} {cells slots : Nat} {Q : State → Prop}
variable {D : va_G} {K : FieldType → ClassId} {N0 : Nat} {cc : ByteArray} {nL o pc : Nat} {ls : Array Slot} {lv st : List AV} {w : BW}
/-- a constructor called -/
theorem b_call {d q idx n : Nat} {as : List AV} {w' : BW} (C : BCx D K N0 p s m args meth c cc nL o) (hP : BPT D K N0 s nL H locs ls lv w) (hB : BLK o (idx, q, 0) ∨ BLK o (idx, q, 1)) (hn : n = (bi q).2.2.2) (hl : n + 1 ≤ st.length ∧ st.length ≤ n + 4 ∧ st.all (fun v => isRef v || v.isLeft) = true) (has : (st.take (n + 1)).reverse = as) (hct : BCt l D K N0 d q as w w') (hd : decode cc pc = .ok (.invokespecial idx, 3))
    (h0 : ∃ b r, as = vr 0 b :: r) (hfr : d + 11 ≤ R.frames) (hlo : 64 * d + 264 ≤ R.locals) (hce : cells + (w'.1 - w.1) ≤ R.cells) (hsl : slots + (w'.2.1 - w.2.1) ≤ R.slots)
    (kk : BGO p l e R s m args below meth c (cells + (w'.1 - w.1)) (slots + (w'.2.1 - w.2.1)) Q D K N0 nL (pc + 3) lv (st.drop (n + 1)) w') : W p l e R s m args below meth c H locs cells slots Q (F0 m pc ls (st.map (cv (Gb N0)))) := by
  obtain ⟨hx, hb, hml, hown, hts, hK, hKK, hNw, -⟩ := C
  obtain ⟨b, r, rfl⟩ := h0
  have hq : q < 11 := by
    rcases hB with h | h
    · exact h.1
    · exact h.1
  obtain ⟨w1, w2, w3, w4⟩ := bok_all q hq
  have key : ∀ q, q < 11 → (bi q).1.name = "<init>" ∧ bcn q = (bi q).1.cls ∧ (bi q).1.cls ≠ "java/lang/invoke/MethodHandle" ∧ (bi q).1.cls ≠ "java/lang/invoke/VarHandle" ∧ (parseMethodDescriptor (bi q).1.desc).map (fun d => d.parameters.length) = some (bi q).2.2.2 ∧ (bi q).2.2.1 ≤ 2 := by decide +kernel
  obtain ⟨y1, y2, y3, y4, y5, y6⟩ := key q hq
  have hst : st.map (cv (Gb N0)) = (r.map (cv (Gb N0))).reverse ++ .ref (N0 + b) :: (st.drop (n + 1)).map (cv (Gb N0)) := by
    have e1 : st.take (n + 1) = (vr 0 b :: r).reverse := by rw [← has, List.reverse_reverse]
    have e2 : st = (vr 0 b :: r).reverse ++ st.drop (n + 1) := by rw [← e1, List.take_append_drop]
    conv => lhs; rw [e2]
    simp [cv]
  have hrl : r.length = n := by
    have := congrArg List.length has
    simp at this
    omega
  have hcat : ((st.drop (n + 1)).map (cv (Gb N0))).map (fun v => v.category) = (st.drop (n + 1)).map (fun _ => 1) := by
    rw [List.map_map]
    refine List.map_congr_left fun v hv => ?_
    have h2 := List.all_eq_true.mp hl.2.2 v (List.mem_of_mem_drop hv)
    rcases v with x | x | ⟨t, i⟩
    · rfl
    · cases h2
    · rfl
  have hsum : (((st.drop (n + 1)).map (cv (Gb N0))).map (fun v => v.category)).sum ≤ 8 := by
    rw [hcat]
    have : ∀ L : List AV, (L.map (fun _ => 1)).sum = L.length := fun L => by induction L with
      | nil => rfl
      | cons a L ih => rw [List.map_cons, List.sum_cons, ih, List.length_cons]; omega
    rw [this, List.length_drop]
    omega
  have hG : GoodIn gtbl (bcode q :: gtbl) := gt_cons w1
  have hpre : PreS s H (BPc D K N0 (vr 0 b :: r) w) (.ref (N0 + b) :: r.map (cv (Gb N0))) := ⟨BPc_blind, fun U hU hW => ⟨rfl, by rw [hU]; exact hP.1, va_K.moved hW.alike hK, hKK.moved hW.alike, hNw.warm hW⟩⟩
  have hr : va_Run p l e R s m args below meth c H locs cells slots (w'.1 - w.1) (w'.2.1 - w.2.1) (F0 m pc ls (st.map (cv (Gb N0)))) ((st.drop (n + 1)).map (cv (Gb N0))) (BQc D K N0 w' (Value.ref (N0 + b) :: r.map (cv (Gb N0))).toArray) (fun q => N0 ≤ q) := by
    have hR : (rmB d (w'.1 - w.1) (w'.2.1 - w.2.1)).frames + 1 ≤ R.frames ∧ 8 + ((bi q).2.2.1 + 11) + (rmB d (w'.1 - w.1) (w'.2.1 - w.2.1)).locals ≤ R.locals := ⟨by show d + 10 + 1 ≤ _; omega, by show 8 + ((bi q).2.2.1 + 11) + (64 * d + 200) ≤ _; omega⟩
    rcases hB with h | h
    · have hk : Cond.methodLink (own' o) idx (bi q).1 ∈ gtbl := by have := h.2; rwa [if_pos rfl] at this
      exact va_runI (As := r.map (cv (Gb N0))) ⟨hx, hb, hml, hown, hts⟩ hct (cwI n hts hG rfl rfl rfl (by rw [← y2]; exact hts _ w3) (hts _ hk) (hts _ w2) y1 ⟨y3, y4, by rw [hn]; exact y5⟩ hR) hpre rfl (by rw [List.length_map]; exact hrl) hP.2.1.1.1 hst (lv_room hsum) hd ⟨hce, hsl⟩
    · have hk : Cond.methodLinkNest (own' o) idx (bi q).1 "PatentRaces" ∈ lw_tbl := by have := h.2; rwa [if_neg (show ¬ (1 : Nat) = 0 by decide)] at this
      exact va_runIN (As := r.map (cv (Gb N0))) ⟨hx, hb, hml, hown, hts⟩ hct ⟨va_cnB n hts hG rfl rfl rfl (hNw _ hk rfl) (by rw [← y2]; exact hts _ w3) ⟨y3, y4, by rw [hn]; exact y5⟩ hR, y1, hts _ w2⟩ hpre rfl (by rw [List.length_map]; exact hrl) hP.2.1.1.1 hst (lv_room hsum) hd ⟨hce, hsl⟩
  intro T hT X
  obtain ⟨v, st₀, t, T', L, g0, X', hL, e1, e2, hQ, stp⟩ := hr T hT X
  obtain ⟨hv, hW, hF⟩ := hQ
  cases hv
  obtain ⟨k1, k2, k3⟩ := vx_keep (A0 := fun q => N0 ≤ q) (A1 := fun q => N0 ≤ q) (free := fun q => N0 ≤ q) g0 e1 hP.2.2 (fun _ _ h => h) (fun _ h => h) hL hF
  obtain ⟨t2, a1, b1⟩ := kk T'.heap (locs ++ L) ls ⟨by rw [e1]; exact hW, hP.2.1, k3⟩ T' rfl X'
  exact ⟨t2, stp t2 a1, b1⟩
end SD
