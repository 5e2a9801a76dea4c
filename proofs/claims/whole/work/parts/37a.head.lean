/-! THE LAW'S HEAD: the same rows, with the locals left alone -/
def LPh (D : va_G) (K : FieldType → ClassId) (N0 : Nat) (s : State) (H : Heap) (locs : List Loc) (w : BW) : Prop := HB D K N0 w H ∧ va_S (fun q => N0 ≤ q) s.heap H locs
section SD
variable {p : Program} {l : Launch} {e : Env} {R : Room} {s : State} {m : MethodId} {args : Array Value} {below : List Frame} {meth : Method} {c : Code} {H : Heap} {locs : List Loc} {cells slots : Nat} {Q : State → Prop}
variable {D : va_G} {K : FieldType → ClassId} {N0 : Nat} {cc : ByteArray} {nL o pc : Nat} {ls : Array Slot} {st : List AV} {w : BW}
theorem b_newL {idx t : Nat} (C : BCx D K N0 p s m args meth c cc nL o) (hP : LPh D K N0 s H locs w) (hC : CLK o (idx, t)) (hd : decode cc pc = .ok (.new idx, 3)) (hcells : cells + 1 ≤ R.cells) (hslots : slots + nfl t ≤ R.slots)
    (kk : ∀ (H1 : Heap) (locs1 : List Loc), LPh D K N0 s H1 locs1 (obN w t) → W p l e R s m args below meth c H1 locs1 (cells + 1) (slots + nfl t) Q (F0 m (pc + 3) ls ((vr 0 w.1 :: st).map (cv (Gb N0))))) : W p l e R s m args below meth c H locs cells slots Q (F0 m pc ls (st.map (cv (Gb N0)))) := by
  obtain ⟨ht, hcl⟩ := hC
  dsimp only at ht hcl
  obtain ⟨hx, hb, -, hown, hts, hK, -⟩ := C
  obtain ⟨-, -, w3, w4⟩ := bok_all t ht
  obtain ⟨r, hr⟩ : ∃ r, cls11[t]? = some r := ⟨_, List.getElem?_eq_getElem (show t < cls11.length from ht)⟩
  have hrT : r = cls11.getD t (RX0, TX0, 8) := by rw [List.getD_eq_getElem?_getD, hr]; rfl
  have hn := cls_n t ht r hr
  obtain ⟨hty, -⟩ := cls_t t ht r hr
  have hKn := hK.1 t _ hr
  have hz := hP.1.1
  have hbc : bcn t = r.1 := by rw [hrT]
  refine W.newcK (cC := D.1 t) hx hb hown (hts _ hcl) (hts _ w4) (hts _ w3) rfl hd hcells hslots (by rw [hbc]; exact hKn.2.1) rfl fun H1 kC hkC e1 z1 o1 => ?_
  refine W.eq (g2 := F0 m (pc + 3) ls ((vr 0 w.1 :: st).map (cv (Gb N0)))) ?_ (kk H1 locs ⟨hP.1.push (x := .inl (t, dflt t)) z1 (fun a ha => o1 a ha) ?_, ⟨Nat.le_trans hP.2.1 (by omega), fun x h1 h2 => (o1 x (Nat.lt_of_lt_of_le h1 hP.2.1)).trans (hP.2.2.1 x h1 h2), hP.2.2.2⟩⟩)
  · rw [hz]; rfl
  · rw [hz] at e1
    exact ⟨_, hr, (u_born (tyC t) hts (cls_in t ht r hr) hKn hkC e1 hty).to (fun j hj => b_dfl t ht j (by rw [← hn]; exact hj))⟩
theorem b_newaL {b : Nat} {x : Int} {at' : ArrayType} {r : List AV} (C : BCx D K N0 p s m args meth c cc nL o) (hP : LPh D K N0 s H locs w) (hb3 : b < 3) (hat : newarray.typeOf at' = bty b) (hx0 : sml x = true) (hd : decode cc pc = .ok (.newarray at', 2)) (hcells : cells + 1 ≤ R.cells) (hslots : slots + x.toNat ≤ R.slots)
    (kk : ∀ (H1 : Heap) (locs1 : List Loc), LPh D K N0 s H1 locs1 (w.1 + 1, w.2.1 + x.toNat, w.2.2 ++ [(w.1, .inr (.inl (bty b, [x.toNat])))]) → W p l e R s m args below meth c H1 locs1 (cells + 1) (slots + x.toNat) Q (F0 m (pc + 2) ls ((vr 0 w.1 :: r).map (cv (Gb N0))))) : W p l e R s m args below meth c H locs cells slots Q (F0 m pc ls ((vi x :: r).map (cv (Gb N0)))) := by
  obtain ⟨hx, hb, -, hown, hts, hK, hKK, -⟩ := C
  obtain ⟨s1, s2⟩ := sml_nat hx0
  have s3 := sml_i hx0
  have hz := hP.1.1
  have hcb := cbytes (bty b)
  have hmb : x.toNat * componentBytes (bty b) ≤ 536870912 := Nat.le_trans (Nat.mul_le_mul (show x.toNat ≤ 3000 by omega) hcb) (by decide)
  refine va_newaK hx hb (atype := at') (by rw [hat]; exact hts _ (ack_all b hb3)) rfl hd (n := Int32.ofInt x) rfl s1 s2 (by rw [hat]; exact hmb) hcells hslots rfl fun H1 cA e1 z1 o1 hAr hNm => ?_
  rw [hat] at e1 hNm
  have hcA : cA = K (bty b) := Option.some.inj (hNm.symm.trans (kfind hKK hb3))
  subst hcA
  have hbs : bsz (.inr (.inl (bty b, [x.toNat])) : BE) = 1 := by show 1 + x.toNat * 0 = 1; omega
  refine W.eq (g2 := F0 m (pc + 2) ls ((vr 0 w.1 :: r).map (cv (Gb N0)))) ?_ (kk H1 locs ⟨?_, ⟨Nat.le_trans hP.2.1 (by omega), fun y h1 h2 => (o1 y (Nat.lt_of_lt_of_le h1 hP.2.1)).trans (hP.2.2.1 y h1 h2), hP.2.2.2⟩⟩)
  · rw [hz]; rfl
  · have := hP.1.push (H1 := H1) (x := .inr (.inl (bty b, [x.toNat]))) (sl := w.2.1 + x.toNat) (by rw [hbs]; exact z1) (fun a ha => o1 a ha) ⟨by simp, ?_⟩
    · rw [hbs] at this; exact this
    · show H1[N0 + w.1]? = some _
      rw [← hz, e1, ← arrV_new]
      rfl
theorem b_callL {d q idx n : Nat} {as : List AV} {w' : BW} (C : BCx D K N0 p s m args meth c cc nL o) (hP : LPh D K N0 s H locs w) (hls : ls.size = nL) (hB : BLK o (idx, q, 0) ∨ BLK o (idx, q, 1)) (hn : n = (bi q).2.2.2) (hl : n + 1 ≤ st.length ∧ st.length ≤ n + 4 ∧ st.all (fun v => isRef v || v.isLeft) = true) (has : (st.take (n + 1)).reverse = as) (hct : BCt l D K N0 d q as w w') (hd : decode cc pc = .ok (.invokespecial idx, 3))
    (h0 : ∃ b r, as = vr 0 b :: r) (hfr : d + 11 ≤ R.frames) (hlo : 64 * d + 264 ≤ R.locals) (hce : cells + (w'.1 - w.1) ≤ R.cells) (hsl : slots + (w'.2.1 - w.2.1) ≤ R.slots)
    (kk : ∀ (H1 : Heap) (locs1 : List Loc), LPh D K N0 s H1 locs1 w' → W p l e R s m args below meth c H1 locs1 (cells + (w'.1 - w.1)) (slots + (w'.2.1 - w.2.1)) Q (F0 m (pc + 3) ls ((st.drop (n + 1)).map (cv (Gb N0))))) : W p l e R s m args below meth c H locs cells slots Q (F0 m pc ls (st.map (cv (Gb N0)))) := by
  obtain ⟨hx, hb, hml, hown, hts, hK, hKK, hNw, -⟩ := C
  obtain ⟨b, r, rfl⟩ := h0
  have hq : q < 11 := by
    rcases hB with h | h
    · exact h.1
    · exact h.1
  obtain ⟨w1, w2, w3, w4⟩ := bok_all q hq
  have key : ∀ q, q < 11 → (bi q).1.name = "<init>" ∧ bcn q = (bi q).1.cls ∧ (bi q).1.cls ≠ "java/lang/invoke/MethodHandle" ∧ (bi q).1.cls ≠ "java/lang/invoke/VarHandle" ∧ (parseMethodDescriptor (bi q).1.desc).map (fun d => d.parameters.length) = some (bi q).2.2.2 ∧ (bi q).2.2.1 ≤ 2 := by decide +kernel
  obtain ⟨y1, y2, y3, y4, y5, y6⟩ := key q hq
  have hst : st.map (cv (Gb N0)) = (r.map (cv (Gb N0))).reverse ++ .ref (N0 + b) :: (st.drop (n + 1)).map (cv (Gb N0)) := by
    have e1 : st.take (n + 1) = (vr 0 b :: r).reverse := by rw [← has, List.reverse_reverse]
    have e2 : st = (vr 0 b :: r).reverse ++ st.drop (n + 1) := by rw [← e1, List.take_append_drop]
    conv => lhs; rw [e2]
    simp [cv]
  have hrl : r.length = n := by
    have := congrArg List.length has
    simp at this
    omega
  have hcat : ((st.drop (n + 1)).map (cv (Gb N0))).map (fun v => v.category) = (st.drop (n + 1)).map (fun _ => 1) := by
    rw [List.map_map]
    refine List.map_congr_left fun v hv => ?_
    have h2 := List.all_eq_true.mp hl.2.2 v (List.mem_of_mem_drop hv)
    rcases v with x | x | ⟨t, i⟩
    · rfl
    · cases h2
    · rfl
  have hsum : (((st.drop (n + 1)).map (cv (Gb N0))).map (fun v => v.category)).sum ≤ 8 := by
    rw [hcat]
    have : ∀ L : List AV, (L.map (fun _ => 1)).sum = L.length := fun L => by induction L with
      | nil => rfl
      | cons a L ih => rw [List.map_cons, List.sum_cons, ih, List.length_cons]; omega
    rw [this, List.length_drop]
    omega
  have hG : GoodIn gtbl (bcode q :: gtbl) := gt_cons w1
  have hpre : PreS s H (BPc D K N0 (vr 0 b :: r) w) (.ref (N0 + b) :: r.map (cv (Gb N0))) := ⟨BPc_blind, fun U hU hW => ⟨rfl, by rw [hU]; exact hP.1, va_K.moved hW.alike hK, hKK.moved hW.alike, hNw.warm hW⟩⟩
  have hr : va_Run p l e R s m args below meth c H locs cells slots (w'.1 - w.1) (w'.2.1 - w.2.1) (F0 m pc ls (st.map (cv (Gb N0)))) ((st.drop (n + 1)).map (cv (Gb N0))) (BQc D K N0 w' (Value.ref (N0 + b) :: r.map (cv (Gb N0))).toArray) (fun q => N0 ≤ q) := by
    have hR : (rmB d (w'.1 - w.1) (w'.2.1 - w.2.1)).frames + 1 ≤ R.frames ∧ 8 + ((bi q).2.2.1 + 11) + (rmB d (w'.1 - w.1) (w'.2.1 - w.2.1)).locals ≤ R.locals := ⟨by show d + 10 + 1 ≤ _; omega, by show 8 + ((bi q).2.2.1 + 11) + (64 * d + 200) ≤ _; omega⟩
    rcases hB with h | h
    · have hk : Cond.methodLink (own' o) idx (bi q).1 ∈ gtbl := by have := h.2; rwa [if_pos rfl] at this
      exact va_runI (As := r.map (cv (Gb N0))) ⟨hx, hb, hml, hown, hts⟩ hct (cwI n hts hG rfl rfl rfl (by rw [← y2]; exact hts _ w3) (hts _ hk) (hts _ w2) y1 ⟨y3, y4, by rw [hn]; exact y5⟩ hR) hpre rfl (by rw [List.length_map]; exact hrl) hls hst (lv_room hsum) hd ⟨hce, hsl⟩
    · have hk : Cond.methodLinkNest (own' o) idx (bi q).1 "PatentRaces" ∈ lw_tbl := by have := h.2; rwa [if_neg (show ¬ (1 : Nat) = 0 by decide)] at this
      exact va_runIN (As := r.map (cv (Gb N0))) ⟨hx, hb, hml, hown, hts⟩ hct ⟨va_cnB n hts hG rfl rfl rfl (hNw _ hk rfl) (by rw [← y2]; exact hts _ w3) ⟨y3, y4, by rw [hn]; exact y5⟩ hR, y1, hts _ w2⟩ hpre rfl (by rw [List.length_map]; exact hrl) hls hst (lv_room hsum) hd ⟨hce, hsl⟩
  intro T hT X
  obtain ⟨v, st₀, t, T', L, g0, X', hL, e1, e2, hQ, stp⟩ := hr T hT X
  obtain ⟨hv, hW, hF⟩ := hQ
  cases hv
  obtain ⟨k1, k2, k3⟩ := vx_keep (A0 := fun q => N0 ≤ q) (A1 := fun q => N0 ≤ q) (free := fun q => N0 ≤ q) g0 e1 hP.2 (fun _ _ h => h) (fun _ h => h) hL hF
  obtain ⟨t2, a1, b1⟩ := kk T'.heap (locs ++ L) ⟨by rw [e1]; exact hW, k3⟩ T' rfl X'
  exact ⟨t2, stp t2 a1, b1⟩
end SD
