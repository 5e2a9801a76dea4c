/-! THE BUILDER'S STEPS: cells made and filled -/
def bln : Instr → Nat
  | .newarray _ => 2
  | .anewarray _ => 3
  | .multianewarray _ _ => 4
  | i => iln i
theorem b_decl : ∀ t, t < 11 → ∀ j, j < nfl t → ((cls11.getD t (RX0, TX0, 8)).2.1 j).1 = own' t := by decide +kernel
theorem b_ref : ∀ t, t < 11 → ∀ j, j < nfl t → (fty t j = 2 ∨ fty t j = 3) → (tyC t j).isReference = true := by decide +kernel
theorem b_fty : ∀ t, t < 11 → ∀ j, j < nfl t → fty t j < 5 := by decide +kernel
theorem tyf0 {t : FieldType} (h : tyf t = 0) : t = .int := by cases t <;> simp_all [tyf]
theorem tyf1 {t : FieldType} (h : tyf t = 1) : t = .long := by cases t <;> simp_all [tyf]
theorem tyf4 {t : FieldType} (h : tyf t = 4) : t = .boolean := by cases t <;> simp_all [tyf]
theorem ref_dv {t : FieldType} (h : t.isReference = true) : defaultValue t = .null ∧ ∀ a : Nat, narrow t (.ref a) = .ref a := by
  cases t <;> simp_all [FieldType.isReference, defaultValue, narrow]
theorem isRef_of {v : AV} (h : isRef v = true) : ∃ o, v = vr 0 o := by
  rcases v with x | x | ⟨t, o⟩
  · cases h
  · cases h
  · exact ⟨o, by rw [show t = 0 from beq_iff_eq.mp h]⟩
section SD
variable {p : Program} {l : Launch} {e : Env} {R : Room} {s : State} {m : MethodId} {args : Array Value} {below : List Frame} {meth : Method} {c : Code} {H : Heap} {locs : List Loc} {cells slots : Nat} {Q : State → Prop}
variable {D : va_G} {K : FieldType → ClassId} {N0 : Nat} {cc : ByteArray} {nL o pc : Nat} {ls : Array Slot} {lv st lv' st' : List AV} {w w' : BW}
theorem b_put {idx t j : Nat} (C : BCx D K N0 p s m args meth c cc nL o) (hP : BPT D K N0 s nL H locs ls lv w) (hF : FOK o (idx, t, j)) (hto : t = o) (hs : bput t j lv w st = some (.inl (lv', st', w'))) (hd : decode cc pc = .ok (.putfield idx, 3))
    (kk : BGO p l e R s m args below meth c cells slots Q D K N0 nL (pc + 3) lv' st' w') : w'.1 = w.1 ∧ w'.2.1 = w.2.1 ∧ W p l e R s m args below meth c H locs cells slots Q (F0 m pc ls (st.map (cv (Gb N0)))) := by
  obtain ⟨ht, hj, r, hr, hl⟩ := hF
  dsimp only at ht hj hr hl
  obtain ⟨hx, hb, -, hown, hts, hK, -, -, -, hin, -⟩ := C
  have hn := cls_n t ht r hr
  obtain ⟨hty, hnm⟩ := cls_t t ht r hr
  have hrT : r = cls11.getD t (RX0, TX0, 8) := by rw [List.getD_eq_getElem?_getD, hr]; rfl
  unfold bput at hs
  split at hs
  · next v t1 o1 rest =>
    split at hs
    · next k t' fs hf =>
      split at hs
      · next hc =>
        obtain ⟨rfl, hjl, hv⟩ := hc
        cases hs
        refine ⟨rfl, rfl, ?_⟩
        have hat := bfind_at hf
        obtain ⟨-, hB⟩ := hP.1.2.1 k _ hat
        have hap := va_apart (own := own' o) (s := s) hts (cls_in t' ht r hr) (tyC t') hty hnm hK hr
        obtain ⟨r', hr', cell, q1, q2, q3, q4⟩ := hB
        cases Option.some.inj (hr'.symm.trans hr)
        obtain ⟨hSl, hfc, kC, hkC, hkind⟩ := hK.1 t' _ hr
        have hjN : j < r.2.2 := by rw [hn]; exact hj
        obtain ⟨cf, kf, fi, f, hif, hsl⟩ := hSl j hjN
        have hlay := hts _ (cls_in t' ht _ hr _ (u_in_lay hjN))
        have hst := (u_facts hfc hkC (u_lays hts (cls_in t' ht _ hr) hjN) hif).1
        have hnf : narrow (tyC t' j) (cv (Gb N0) v) = cv (Gb N0) v ∧ fits (tyC t' j) (cv (Gb N0) v) = true := by
          rcases hv with ⟨h0, hv⟩ | ⟨h2, hv⟩
          · have ht0 := tyf0 ((cls_f0 t' ht j hj (by omega)).trans h0)
            rw [ht0]
            rcases v with x | x
            · exact ⟨rfl, rfl⟩
            · cases hv
          · obtain ⟨a, rfl⟩ := isRef_of hv
            have h3 := b_ref t' ht j hj h2
            exact ⟨(ref_dv h3).2 _, Jvm.Free.Multi.refFits h3 _ (Or.inr ⟨_, rfl⟩)⟩
        have fin : ∀ H' : Heap, H'[N0 + o1]? = some (cell.setSlot f.slot (cv (Gb N0) v)) → H'.size = H.size → (∀ q : Nat, q ≠ N0 + o1 → H'[q]? = H[q]?) → W p l e R s m args below meth c H' (locs ++ [⟨N0 + o1, f.slot⟩]) cells slots Q (F0 m (pc + 3) ls (st'.map (cv (Gb N0)))) := by
          intro H' e1 e2 e3
          rw [hsl] at e1
          refine kk H' _ ls ⟨hP.1.set hat rfl rfl ?_ e2 e3, hP.2.1, hP.2.2.put e2 e3 (by show N0 ≤ N0 + o1; omega)⟩
          refine ⟨_, hr, t_OB.to (V := updV (vp_V (fs.map (ov N0))) j (cv (Gb N0) v)) ⟨_, e1, q2, q3, t_set q4 hap hjN (cv (Gb N0) v)⟩ (fun i _ => ?_)⟩
          rw [vp_updV_set (by rw [List.length_map]; exact hjl) (cv (Gb N0) v) i, List.map_set]
          rfl
        by_cases hfl : (r.2.1 j).2.2.2 = true
        · unfold u_lay at hlay
          rw [if_pos hfl] at hlay
          have hdecl : (r.2.1 j).1 = own' o := by rw [hrT, ← hto]; exact b_decl t' ht j hj
          have hin2 : meth.name = "<init>" := by
            rcases hin with h | h
            · omega
            · exact h
          have hcf : m.cls = cf := by
            obtain ⟨_, _, c', _, _, _, -, -, hf', -, -, -, hown2, -⟩ := Cond.laysFinal_spec hlay
            have e1 : c' = cf := by have := hif.symm.trans hf'; simp at this; exact this.1.symm
            rw [hdecl] at hown2
            rw [← e1]; exact Option.some.inj (hown.symm.trans hown2)
          have h6 := u_fits hfc hkC hkind (Or.inr hlay) hif (hty j hjN) hnf.1 hnf.2
          exact W.putFinK hx hb hown (hts _ hl) hif hst hcf hin2 (by rw [q2]; exact h6) q1 q3 (by rw [hsl]; exact k2_hasslot (q4 j hjN)) rfl rfl hd fin
        · unfold u_lay at hlay
          rw [if_neg hfl] at hlay
          have h6 := u_store hfc hkC hkind hlay hif (hty j hjN) hnf.1 hnf.2
          exact W.putK hx hb (f := f) ⟨hown, hts _ hl, ⟨_, _, _, hif⟩, hst⟩ (by rw [q2]; exact h6) q1 q3 (by rw [hsl]; exact k2_hasslot (q4 j hjN)) rfl rfl hd fin
      · cases hs
    · cases hs
  · cases hs
theorem b_get {idx t j : Nat} (C : BCx D K N0 p s m args meth c cc nL o) (hP : BPT D K N0 s nL H locs ls lv w) (hF : FOK o (idx, t, j)) (hs : bget t j lv w st = some (.inl (lv', st', w'))) (hd : decode cc pc = .ok (.getfield idx, 3))
    (kk : BGO p l e R s m args below meth c cells slots Q D K N0 nL (pc + 3) lv' st' w') : w' = w ∧ W p l e R s m args below meth c H locs cells slots Q (F0 m pc ls (st.map (cv (Gb N0)))) := by
  obtain ⟨ht, hj, r, hr, hl⟩ := hF
  dsimp only at ht hj hr hl
  obtain ⟨hx, hb, -, hown, hts, hK, -⟩ := C
  have hn := cls_n t ht r hr
  unfold bget at hs
  split at hs
  · next t1 o1 rest =>
    split at hs
    · next k t' fs hf =>
      split at hs
      · next hc =>
        subst hc
        split at hs
        · next v hv =>
          split at hs
          · cases hs
            refine ⟨rfl, ?_⟩
            have hat := bfind_at hf
            obtain ⟨-, hB⟩ := hP.1.2.1 k _ hat
            have hB' : va_at D cls11 (N0 + o1, .inr (t', fs.map (ov N0))) H := hB
            exact va_get (C := r.1) (T := r.2.1) (N := r.2.2) hx hb hts (cls_in t' ht r hr) hown hK (single hB') 0 rfl hr j (by rw [hn]; exact hj) (hts _ hl) (fun _ h => h) (v := cv (Gb N0) v) (by rw [List.getElem?_map, hv]; rfl) hd (kk _ _ _ hP)
          · cases hs
        · cases hs
      · cases hs
    · cases hs
  · cases hs
theorem b_dfl {N0 : Nat} : ∀ t, t < 11 → ∀ j, j < nfl t → defaultValue (tyC t j) = vp_V ((dflt t).map (ov N0)) j := by
  intro t ht j hj
  have hg : ((dflt t).map (ov N0))[j]? = some (ov N0 (match fty t j with | 1 => some (vl 0) | 2 => none | 3 => none | _ => some (vi 0))) := by
    unfold dflt
    rw [List.getElem?_map, List.getElem?_map, List.getElem?_range hj]
    rfl
  have e : vp_V ((dflt t).map (ov N0)) j = ov N0 (match fty t j with | 1 => some (vl 0) | 2 => none | 3 => none | _ => some (vi 0)) := by
    simp [vp_V, hg]
  rw [e]
  have h5 := b_fty t ht j hj
  have tf := cls_f0 t ht j hj
  have hr := b_ref t ht j hj
  generalize fty t j = f at *
  match f, h5 with
  | 0, _ => rw [tyf0 (tf (by decide))]; rfl
  | 1, _ => rw [tyf1 (tf (by decide))]; rfl
  | 2, _ => exact (ref_dv (hr (Or.inl rfl))).1
  | 3, _ => exact (ref_dv (hr (Or.inr rfl))).1
  | 4, _ => rw [tyf4 (tf (by decide))]; rfl
theorem b_new {idx t : Nat} (C : BCx D K N0 p s m args meth c cc nL o) (hP : BPT D K N0 s nL H locs ls lv w) (hC : CLK o (idx, t)) (hd : decode cc pc = .ok (.new idx, 3)) (hcells : cells + 1 ≤ R.cells) (hslots : slots + nfl t ≤ R.slots)
    (kk : BGO p l e R s m args below meth c (cells + 1) (slots + nfl t) Q D K N0 nL (pc + 3) lv (vr 0 w.1 :: st) (obN w t)) : W p l e R s m args below meth c H locs cells slots Q (F0 m pc ls (st.map (cv (Gb N0)))) := by
  obtain ⟨ht, hcl⟩ := hC
  dsimp only at ht hcl
  obtain ⟨hx, hb, -, hown, hts, hK, -⟩ := C
  obtain ⟨-, -, w3, w4⟩ := bok_all t ht
  obtain ⟨r, hr⟩ : ∃ r, cls11[t]? = some r := ⟨_, List.getElem?_eq_getElem (show t < cls11.length from ht)⟩
  have hrT : r = cls11.getD t (RX0, TX0, 8) := by rw [List.getD_eq_getElem?_getD, hr]; rfl
  have hn := cls_n t ht r hr
  obtain ⟨hty, -⟩ := cls_t t ht r hr
  have hKn := hK.1 t _ hr
  have hz := hP.1.1
  have hbc : bcn t = r.1 := by rw [hrT]
  refine W.newcK (cC := D.1 t) hx hb hown (hts _ hcl) (hts _ w4) (hts _ w3) rfl hd hcells hslots (by rw [hbc]; exact hKn.2.1) rfl fun H1 kC hkC e1 z1 o1 => ?_
  refine W.eq (g2 := F0 m (pc + 3) ls ((vr 0 w.1 :: st).map (cv (Gb N0)))) ?_ (kk H1 locs ls ⟨hP.1.push (x := .inl (t, dflt t)) z1 (fun a ha => o1 a ha) ?_, hP.2.1, ⟨Nat.le_trans hP.2.2.1 (by omega), fun x h1 h2 => (o1 x (Nat.lt_of_lt_of_le h1 hP.2.2.1)).trans (hP.2.2.2.1 x h1 h2), hP.2.2.2.2⟩⟩)
  · rw [hz]; rfl
  · rw [hz] at e1
    exact ⟨_, hr, (u_born (tyC t) hts (cls_in t ht r hr) hKn hkC e1 hty).to (fun j hj => b_dfl t ht j (by rw [← hn]; exact hj))⟩
theorem sml_i {x : Int} (h : sml x = true) : 0 ≤ x ∧ x ≤ 3000 := by simpa [sml] using h
theorem sml_nat {x : Int} (h : sml x = true) : ¬ Int32.ofInt x < 0 ∧ (Int32.ofInt x).toNatClampNeg = x.toNat := by
  obtain ⟨h1, h2⟩ := sml_i h
  have ht : (Int32.ofInt x).toInt = x := toInt_ofInt32 ⟨by omega, by omega⟩
  refine ⟨fun q => ?_, ?_⟩
  · rw [Int32.lt_iff_toInt_lt, ht] at q
    have : (0 : Int32).toInt = 0 := rfl
    omega
  · show (Int32.ofInt x).toInt.toNat = _
    rw [ht]
theorem kfind {U : State} (h : KOK K U) {b : Nat} (hb : b < 3) : U.vm.findClass ("[" ++ (bty b).toString) = some (K (bty b)) := by
  match b, hb with
  | 0, _ => exact (h.1 20 (by decide) (by decide)).2
  | 1, _ => exact (h.1 21 (by decide) (by decide)).2
  | 2, _ => exact (h.1 37 (by decide) (by decide)).2
theorem b_newa {b : Nat} {x : Int} {at' : ArrayType} {r : List AV} (C : BCx D K N0 p s m args meth c cc nL o) (hP : BPT D K N0 s nL H locs ls lv w) (hb3 : b < 3) (hat : newarray.typeOf at' = bty b) (hx0 : sml x = true) (hd : decode cc pc = .ok (.newarray at', 2)) (hcells : cells + 1 ≤ R.cells) (hslots : slots + x.toNat ≤ R.slots)
    (kk : BGO p l e R s m args below meth c (cells + 1) (slots + x.toNat) Q D K N0 nL (pc + 2) lv (vr 0 w.1 :: r) (w.1 + 1, w.2.1 + x.toNat, w.2.2 ++ [(w.1, .inr (.inl (bty b, [x.toNat])))])) : W p l e R s m args below meth c H locs cells slots Q (F0 m pc ls ((vi x :: r).map (cv (Gb N0)))) := by
  obtain ⟨hx, hb, -, hown, hts, hK, hKK, -⟩ := C
  obtain ⟨s1, s2⟩ := sml_nat hx0
  have s3 := sml_i hx0
  have hz := hP.1.1
  have hcb := cbytes (bty b)
  have hmb : x.toNat * componentBytes (bty b) ≤ 536870912 := Nat.le_trans (Nat.mul_le_mul (show x.toNat ≤ 3000 by omega) hcb) (by decide)
  refine va_newaK hx hb (atype := at') (by rw [hat]; exact hts _ (ack_all b hb3)) rfl hd (n := Int32.ofInt x) rfl s1 s2 (by rw [hat]; exact hmb) hcells hslots rfl fun H1 cA e1 z1 o1 hAr hNm => ?_
  rw [hat] at e1 hNm
  have hcA : cA = K (bty b) := Option.some.inj (hNm.symm.trans (kfind hKK hb3))
  subst hcA
  have hbs : bsz (.inr (.inl (bty b, [x.toNat])) : BE) = 1 := by show 1 + x.toNat * 0 = 1; omega
  refine W.eq (g2 := F0 m (pc + 2) ls ((vr 0 w.1 :: r).map (cv (Gb N0)))) ?_ (kk H1 locs ls ⟨?_, hP.2.1, ⟨Nat.le_trans hP.2.2.1 (by omega), fun y h1 h2 => (o1 y (Nat.lt_of_lt_of_le h1 hP.2.2.1)).trans (hP.2.2.2.1 y h1 h2), hP.2.2.2.2⟩⟩)
  · rw [hz]; rfl
  · have := hP.1.push (H1 := H1) (x := .inr (.inl (bty b, [x.toNat]))) (sl := w.2.1 + x.toNat) (by rw [hbs]; exact z1) (fun a ha => o1 a ha) ⟨by simp, ?_⟩
    · rw [hbs] at this; exact this
    · show H1[N0 + w.1]? = some _
      rw [← hz, e1, ← arrV_new]
      rfl
theorem b_newq {idx : Nat} {x : Int} {r : List AV} (C : BCx D K N0 p s m args meth c cc nL o) (hP : BPT D K N0 s nL H locs ls lv w) (hC : CLK o (idx, 2)) (hx0 : sml x = true) (hd : decode cc pc = .ok (.anewarray idx, 3)) (hcells : cells + 1 ≤ R.cells) (hslots : slots + x.toNat ≤ R.slots)
    (kk : BGO p l e R s m args below meth c (cells + 1) (slots + x.toNat) Q D K N0 nL (pc + 3) lv (vr 0 w.1 :: r) (w.1 + 1, w.2.1 + x.toNat, w.2.2 ++ [(w.1, .inr (.inr (List.replicate x.toNat none)))])) : W p l e R s m args below meth c H locs cells slots Q (F0 m pc ls ((vi x :: r).map (cv (Gb N0)))) := by
  obtain ⟨hx, hb, -, hown, hts, hK, hKK, -⟩ := C
  obtain ⟨s1, s2⟩ := sml_nat hx0
  have s3 := sml_i hx0
  have hz := hP.1.1
  refine W.anew (C := RX2) hx hb hown (hts _ hC.2) (va_AO.use hKK.2.1) rfl hd (n := Int32.ofInt x) rfl s1 (by rw [s2]; omega) hcells (by rw [s2]; exact hslots) fun cA kA comp f1 f2 f3 f4 => ?_
  rw [s2]
  obtain ⟨-, ra⟩ := hKK.1 53 (by decide) (by decide)
  obtain ⟨kA', comp', -, -, -, g4⟩ := ra
  have hcA : cA = K (.object RX2) := Option.some.inj (f1.symm.trans g4)
  subst hcA
  generalize hH1 : H.push ({ cls := K (.object RX2), slots := Array.replicate x.toNat .null, vm := .none } : Cell) = H1
  have z1 : H1.size = H.size + 1 := by rw [← hH1, Array.size_push]
  have e1 : H1[H.size]? = some (arrV (K (.object RX2)) x.toNat (fun _ => .null)) := by rw [← hH1, Array.getElem?_push_size, ← arrV_new]
  have o1 : ∀ q : Nat, q < H.size → H1[q]? = H[q]? := fun q hq => by rw [← hH1, Array.getElem?_push, if_neg (Nat.ne_of_lt hq)]
  refine W.eq (g2 := F0 m (pc + 3) ls ((vr 0 w.1 :: r).map (cv (Gb N0)))) ?_ (kk H1 locs ls ⟨hP.1.push (x := .inr (.inr (List.replicate x.toNat none))) z1 (fun a ha => o1 a ha) ?_, hP.2.1, ⟨Nat.le_trans hP.2.2.1 (by omega), fun y h1 h2 => (o1 y (Nat.lt_of_lt_of_le h1 hP.2.2.1)).trans (hP.2.2.2.1 y h1 h2), hP.2.2.2.2⟩⟩)
  · rw [hz]; rfl
  · show H1[N0 + w.1]? = some (vp_cell _ _)
    rw [← hz, e1, vp_cell_q, List.length_replicate]
    refine congrArg some (congrArg (arrV _ _) (funext fun j => ?_))
    have h0 : (List.replicate x.toNat (none : Option Nat)).getD j none = none := by
      rw [List.getD_eq_getElem?_getD, List.getElem?_replicate]
      split <;> rfl
    rw [h0]
    rfl
end SD
