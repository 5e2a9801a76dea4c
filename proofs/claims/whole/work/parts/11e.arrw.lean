/-! STRAIGHT STEPS: arrays written, copied; lengths; statics; constants -/
section SD
variable {p : Program} {l : Launch} {e : Env} {R : Room} {s : State} {m : MethodId} {args : Array Value} {below : List Frame} {meth : Method} {c : Code} {H : Heap} {locs : List Loc} {cells slots : Nat} {Q : State → Prop}
variable {G : Gx} {sc : Nat × (Nat → Int)} {cc : ByteArray} {nL o pc : Nat} {ls : Array Slot} {lv st lv' st' : List AV} {M M' : Mem} {gs : List Prop}
theorem upd_arr {α : Type} (mk : α → Value) (cA : ClassId) (n k : Nat) (f g : Nat → α) (x : Value) (h : ∀ q, mk (g q) = if q = k then x else mk (f q)) : (arrV cA n (fun j => mk (f j))).setSlot k x = arrV cA n (fun j => mk (g j)) := by
  rw [arrV_store]
  congr 1
  funext q
  rw [h q]
  rfl
theorem sd_iast (C : Cx G sc p l s m args meth c cc nL o) (hP : PT G sc s nL H locs ls lv st M) (hs : astI 1 (fun x => x) lv st M = some (gs, rNx lv' st' M')) (hg : allP gs) (hd : decode cc pc = .ok (.iastore, 1))
    (kk : GO p l e R s m args below meth c cells slots Q G sc nL (pc + 1) lv' st' M') : W p l e R s m args below meth c H locs cells slots Q (F0 m pc ls (st.map (cv G))) := by
  obtain ⟨hx, hb, -, -, -, hA, -, hAr, hRO, -⟩ := C
  unfold astI at hs
  split at hs
  · next x j t i rest =>
    split at hs
    · next hk =>
      simp only [Option.some.injEq, Prod.mk.injEq, Sum.inl.injEq] at hs
      obtain ⟨rfl, rfl, rfl, rfl⟩ := hs
      have hg : 0 ≤ j ∧ j < aln M t i := hg
      obtain ⟨hP0, hxx⟩ := hP.pop
      obtain ⟨hP1, hj⟩ := hP0.pop
      obtain ⟨hP2, hr⟩ := hP1.pop
      have ht : t < 120 := ak_lt (by omega)
      have hi : i < nI' t := ok_sys hr ht
      have hsys := ak_sys (Or.inl hk)
      rw [aln_sys hsys] at hg
      have hc := ar_at hP hsys hi
      rw [cel_i hsys.1 (Or.inl hk)] at hc
      obtain ⟨h1, h2⟩ := ar_ix hj hg
      have ha := (hAr t hsys.1 hsys.2).1
      rw [eTyI hk] at ha
      refine W.iast hx hb hc (ha (asz t) (fun k => .int (Int32.ofInt (M.1 t i k)))) (fun q => by cases q) (by show ¬ (_ ∨ (arrV _ _ _).slots.size ≤ _); rw [arrV_size]; exact h1) rfl rfl hd fun H1 e1 z oq => ?_
      have hcel : va_at G.1 cls11 (G.2.2.1 t i, cel G (sI M t i j.toNat x) t i) H1 := by
        rw [cel_i hsys.1 (Or.inl hk)]
        show H1[G.2.2.1 t i]? = some (arrV (G.2.1 t) (asz t) (fun k => .int (Int32.ofInt ((sI M t i j.toNat x).1 t i k))))
        rw [e1, h2]
        refine congrArg some (upd_arr (fun y : Int => Value.int (Int32.ofInt y)) (G.2.1 t) (asz t) j.toNat (M.1 t i) (fun k => (sI M t i j.toNat x).1 t i k) (.int (Int32.ofInt x)) fun q => ?_)
        rw [sI_1]
        by_cases hq : q = j.toNat
        · rw [if_pos ⟨rfl, rfl, hq⟩, if_pos hq]
        · rw [if_neg (fun z => hq z.2.2), if_neg hq]
      refine kk _ _ _ (PT.wr (t := 0) (i := 0) hP2 (hP.1.wr hA (Or.inr hsys) hi hcel z oq (fun _ _ h => sI_off h) (fun k => ?_) (fun h3 => by omega) (fun h5 => by omega)) (hP.2.2.2.2.put z oq (hA.2 t i (Or.inr hsys) hi)))
      rw [sI_1]; split
      · exact hxx
      · exact hP.1.1 _ _ _
    · cases hs
  · cases hs
theorem sd_bast (C : Cx G sc p l s m args meth c cc nL o) (hP : PT G sc s nL H locs ls lv st M) (hs : astI 3 (fun x => x % 2) lv st M = some (gs, rNx lv' st' M')) (hg : allP gs) (hd : decode cc pc = .ok (.bastore, 1))
    (kk : GO p l e R s m args below meth c cells slots Q G sc nL (pc + 1) lv' st' M') : W p l e R s m args below meth c H locs cells slots Q (F0 m pc ls (st.map (cv G))) := by
  obtain ⟨hx, hb, -, -, -, hA, -, hAr, hRO, -⟩ := C
  unfold astI at hs
  split at hs
  · next x j t i rest =>
    split at hs
    · next hk =>
      simp only [Option.some.injEq, Prod.mk.injEq, Sum.inl.injEq] at hs
      obtain ⟨rfl, rfl, rfl, rfl⟩ := hs
      have hg : 0 ≤ j ∧ j < aln M t i := hg
      obtain ⟨hP0, hxx⟩ := hP.pop
      obtain ⟨hP1, hj⟩ := hP0.pop
      obtain ⟨hP2, hr⟩ := hP1.pop
      have ht : t < 120 := ak_lt (by omega)
      have hi : i < nI' t := ok_sys hr ht
      have hsys := ak_sys (Or.inr (Or.inr (Or.inl hk)))
      rw [aln_sys hsys] at hg
      have hc := ar_at hP hsys hi
      rw [cel_i hsys.1 (Or.inr hk)] at hc
      obtain ⟨h1, h2⟩ := ar_ix hj hg
      have ha := (hAr t hsys.1 hsys.2).1
      rw [eTyZ hk] at ha
      refine W.zast hx hb hc (ha (asz t) (fun k => .int (Int32.ofInt (M.1 t i k)))) (fun q => by cases q) (by show ¬ (_ ∨ (arrV _ _ _).slots.size ≤ _); rw [arrV_size]; exact h1) rfl rfl hd fun H1 e1 z oq => ?_
      have hcel : va_at G.1 cls11 (G.2.2.1 t i, cel G (sI M t i j.toNat (x % 2)) t i) H1 := by
        rw [cel_i hsys.1 (Or.inr hk)]
        show H1[G.2.2.1 t i]? = some (arrV (G.2.1 t) (asz t) (fun k => .int (Int32.ofInt ((sI M t i j.toNat (x % 2)).1 t i k))))
        rw [e1, h2]
        refine congrArg some (upd_arr (fun y : Int => Value.int (Int32.ofInt y)) (G.2.1 t) (asz t) j.toNat (M.1 t i) (fun k => (sI M t i j.toNat (x % 2)).1 t i k) _ fun q => ?_)
        rw [sI_1]
        by_cases hq : q = j.toNat
        · rw [if_pos ⟨rfl, rfl, hq⟩, if_pos hq, ← nar_z2]
        · rw [if_neg (fun z => hq z.2.2), if_neg hq]
      refine kk _ _ _ (PT.wr (t := 0) (i := 0) hP2 (hP.1.wr hA (Or.inr hsys) hi hcel z oq (fun _ _ h => sI_off h) (fun k => ?_) (fun _ k => ?_) (fun h5 => by omega)) (hP.2.2.2.2.put z oq (hA.2 t i (Or.inr hsys) hi)))
      · rw [sI_1]; split
        · exact mod2_R x
        · exact hP.1.1 _ _ _
      · rw [sI_1]; split
        · omega
        · exact hP.1.2.2.2.1 _ _ _ hk
    · cases hs
  · cases hs
theorem sd_last (C : Cx G sc p l s m args meth c cc nL o) (hP : PT G sc s nL H locs ls lv st M) (hs : astL lv st M = some (gs, rNx lv' st' M')) (hg : allP gs) (hd : decode cc pc = .ok (.lastore, 1))
    (kk : GO p l e R s m args below meth c cells slots Q G sc nL (pc + 1) lv' st' M') : W p l e R s m args below meth c H locs cells slots Q (F0 m pc ls (st.map (cv G))) := by
  obtain ⟨hx, hb, -, -, -, hA, -, hAr, hRO, -⟩ := C
  unfold astL at hs
  split at hs
  · next x j t i rest =>
    split at hs
    · next hk =>
      simp only [Option.some.injEq, Prod.mk.injEq, Sum.inl.injEq] at hs
      obtain ⟨rfl, rfl, rfl, rfl⟩ := hs
      have hg : 0 ≤ j ∧ j < aln M t i := hg
      obtain ⟨hP0, hxx⟩ := hP.pop
      obtain ⟨hP1, hj⟩ := hP0.pop
      obtain ⟨hP2, hr⟩ := hP1.pop
      have ht : t < 120 := ak_lt (by omega)
      have hi : i < nI' t := ok_sys hr ht
      have hsys := ak_sys (Or.inr (Or.inl hk))
      rw [aln_sys hsys] at hg
      have hc := ar_at hP hsys hi
      rw [cel_l hsys.1 hk] at hc
      obtain ⟨h1, h2⟩ := ar_ix hj hg
      have ha := (hAr t hsys.1 hsys.2).1
      rw [eTyL hk] at ha
      refine W.last hx hb hc (ha (asz t) (fun k => .long (M.2 t i k))) (fun q => by cases q) (by show ¬ (_ ∨ (arrV _ _ _).slots.size ≤ _); rw [arrV_size]; exact h1) rfl rfl hd fun H1 e1 z oq => ?_
      have hcel : va_at G.1 cls11 (G.2.2.1 t i, cel G (sL M t i j.toNat x) t i) H1 := by
        rw [cel_l hsys.1 hk]
        show H1[G.2.2.1 t i]? = some (arrV (G.2.1 t) (asz t) (fun k => .long ((sL M t i j.toNat x).2 t i k)))
        rw [e1, h2]
        refine congrArg some (upd_arr (fun y : Int64 => Value.long y) (G.2.1 t) (asz t) j.toNat (M.2 t i) (fun k => (sL M t i j.toNat x).2 t i k) (.long x) fun q => ?_)
        rw [sL_2]
        by_cases hq : q = j.toNat
        · rw [if_pos ⟨rfl, rfl, hq⟩, if_pos hq]
        · rw [if_neg (fun z => hq z.2.2), if_neg hq]
      exact kk _ _ _ (PT.wr (t := 0) (i := 0) hP2 (hP.1.wr hA (Or.inr hsys) hi hcel z oq (fun _ _ h => sL_off h) (fun k => hP.1.1 _ _ _) (fun h3 => by omega) (fun h5 => by omega)) (hP.2.2.2.2.put z oq (hA.2 t i (Or.inr hsys) hi)))
    · cases hs
  · cases hs
theorem wds_cat (st : List AV) : ((st.map (cv G)).map fun v => v.category).sum = wds st := by
  induction st with
  | nil => rfl
  | cons v r ih =>
    rcases v with x | x | ⟨t, i⟩ <;> simp [wds, cv, Value.category] at ih ⊢ <;> omega
/-- a row of an array copied onto another, or itself -/
theorem W_copy {ty : FieldType} {own : String} {index a0 a n0 n1 : Nat} {c0 c1 : ClassId} {u v : Nat → Value} {rest : List Value} (hexec : p.tables.exec = Jvm.exec) (hb : c.code = cc) (hml : c.maxLocals = ls.size) (hown : s.vm.findClass own = some m.cls) (hlink : (Cond.methodLink own index arraycopyName).before args s = true) (hnat : (Cond.native arraycopyName).before args s = true) (hstat : (Cond.static arraycopyName).before args s = true) (hini : (Cond.initialized "java/lang/System").before args s = true)
    (hc0 : H[a0]? = some (arrV c0 n0 u)) (hc1 : H[a]? = some (arrV c1 n1 v)) (h0 : ArrOfT s c0 ty) (h1' : ArrOfT s c1 ty) (hprim : refKind ty = false)
    {sp dp n : Int32} (h1 : ¬ sp < 0) (h2 : ¬ dp < 0) (h3 : ¬ n < 0) (h4 : sp.toNatClampNeg + n.toNatClampNeg ≤ n0) (h5 : dp.toNatClampNeg + n.toNatClampNeg ≤ n1) (hfit : ∀ i, i < n.toNatClampNeg → fits ty (u (sp.toNatClampNeg + i)) = true) (hpl : ∀ i, (∃ x, u i = .int x) ∨ ∃ x, u i = .long x)
    (hframes : 1 ≤ R.frames) (hlocals : (rest.map fun v => v.category).sum + (nativeFrameWords "java/lang/System" "arraycopy" 5 + 11) ≤ R.locals) (hdg : decode cc pc = .ok (.invokestatic index, 3))
    (kk : ∀ (H1 : Heap) (L : List Loc), (∀ z ∈ L, z.base = a) → H1[a]? = some (arrV c1 n1 (fun k => if dp.toNatClampNeg ≤ k ∧ k < dp.toNatClampNeg + n.toNatClampNeg then u (sp.toNatClampNeg + (k - dp.toNatClampNeg)) else v k)) → H1.size = H.size → (∀ q : Nat, q ≠ a → H1[q]? = H[q]?) → W p l e R s m args below meth c H1 (locs ++ L) cells slots Q (F0 m (pc + 3) ls rest)) :
    W p l e R s m args below meth c H locs cells slots Q (F0 m pc ls (.int n :: .int dp :: .ref a :: .int sp :: .ref a0 :: rest)) := by
  have nn : ∀ z : Int32, ¬ z < 0 → z.toInt = (z.toNatClampNeg : Int) := by
    intro z hz
    have hz0 : (0 : Int) ≤ z.toInt := by
      have := Int32.not_lt.mp hz
      simpa using Int32.le_iff_toInt_le.mp this
    show z.toInt = ((z.toInt.toNat : Nat) : Int)
    omega
  intro T hT X
  obtain ⟨-, k0, hk0, cm0, hkk0⟩ := h0 n0 u
  obtain ⟨-, k1, hk1, cm1, hkk1⟩ := h1' n1 v
  obtain ⟨vm', X', step⟩ := X.arraycopy hexec hown hlink hnat hstat hini (src := a0) (dst := a) (cs := arrV c0 n0 u) (cd := arrV c1 n1 v) (srcPos := sp) (destPos := dp) (n := n) (by rw [hT]; exact hc0) (by rw [hT]; exact hc1)
    (fun _ h => by cases h) (fun _ h => by cases h) (fun h => by cases h) (fun h => by cases h) hk0 hk1 hkk0 hkk1 (by simp [hprim]) h1 h2 h3
    (by rw [nn sp h1, nn n h3]; show ¬ _ > ((arrV c0 n0 u).slots.size : Int); rw [arrV_size]; omega)
    (by rw [nn dp h2, nn n h3]; show ¬ _ > ((arrV c1 n1 v).slots.size : Int); rw [arrV_size]; omega)
    (fun vm₁ _ i hi => by
      have e : (arrV c0 n0 u).slots.getD (sp.toNatClampNeg + i) .null = u (sp.toNatClampNeg + i) := by
        rw [Array.getD_eq_getD_getElem?, arrV_read _ _ (by omega)]
        rfl
      refine ⟨?_, ?_⟩
      · rw [e]
        exact hfit i hi
      · rw [e]
        rcases hpl (sp.toNatClampNeg + i) with ⟨x, hx⟩ | ⟨x, hx⟩ <;> rw [hx] <;> exact trivial)
    (g := F0 m pc ls (.int n :: .int dp :: .ref a :: .int sp :: .ref a0 :: rest)) rfl (by rw [hml]) (rest := rest) rfl (by rw [hb]; exact hdg) hframes (by show 2 * 0 + _ + _ ≤ _; omega)
  have e1 : copied (arrV c0 n0 u) (arrV c1 n1 v) sp dp n = arrV c1 n1 (fun k => if dp.toNatClampNeg ≤ k ∧ k < dp.toNatClampNeg + n.toNatClampNeg then u (sp.toNatClampNeg + (k - dp.toNatClampNeg)) else v k) := va_copied (fun z : Value => z) c0 c1 u v h4
  rw [e1] at X' step
  have hl : a < H.size := (Array.getElem?_eq_some_iff.mp hc1).1
  obtain ⟨t, a1, b1⟩ := kk (H.setIfInBounds a (arrV c1 n1 (fun k => if dp.toNatClampNeg ≤ k ∧ k < dp.toNatClampNeg + n.toNatClampNeg then u (sp.toNatClampNeg + (k - dp.toNatClampNeg)) else v k))) _ (fun z hz => by
      obtain ⟨w, -, hw⟩ := List.mem_map.mp hz
      rw [← hw]) (by simp [Array.getElem?_setIfInBounds, hl]) (by simp) (fun q hq => by simp [Array.getElem?_setIfInBounds, Ne.symm hq]) _ (by rw [← hT]; rfl) X'
  exact ⟨t, step t a1, b1⟩
theorem cpI_1 {M : Mem} {t i q t' i' q' n a b k : Nat} : (cpI M t i q t' i' q' n).1 a b k = if a = t' ∧ b = i' ∧ q' ≤ k ∧ k < q' + n then M.1 t i (q + (k - q')) else M.1 a b k := rfl
theorem cpL_2 {M : Mem} {t i q t' i' q' n a b k : Nat} : (cpL M t i q t' i' q' n).2 a b k = if a = t' ∧ b = i' ∧ q' ≤ k ∧ k < q' + n then M.2 t i (q + (k - q')) else M.2 a b k := rfl
theorem clampI {j : Int} (hj : inR j) (h0 : 0 ≤ j) : (Int32.ofInt j).toNatClampNeg = j.toNat ∧ ¬ Int32.ofInt j < 0 := by
  have e : (Int32.ofInt j).toInt = j := toInt_ofInt32 hj
  refine ⟨?_, fun h => ?_⟩
  · show (Int32.ofInt j).toInt.toNat = j.toNat
    rw [e]
  · rw [← ofInt_0, ofInt_lt hj R0] at h
    omega
theorem sd_arC {idx : Nat} (C : Cx G sc p l s m args meth c cc nL o) (hP : PT G sc s nL H locs ls lv st M) (hl : Cond.methodLink (own' o) idx arraycopyName ∈ gtbl) (hw : Cond.native arraycopyName ∈ gtbl ∧ Cond.static arraycopyName ∈ gtbl ∧ Cond.initialized "java/lang/System" ∈ gtbl) (hs : arC lv st M = some (gs, rNx lv' st' M')) (hg : allP gs) (hf : 1 ≤ R.frames) (hlo : 200 ≤ R.locals) (hd : decode cc pc = .ok (.invokestatic idx, 3))
    (kk : GO p l e R s m args below meth c cells slots Q G sc nL (pc + 3) lv' st' M') : W p l e R s m args below meth c H locs cells slots Q (F0 m pc ls (st.map (cv G))) := by
  obtain ⟨hx, hb, hml, hown, hts, hA, -, hAr, hRO, -⟩ := C
  have hnw : nativeFrameWords "java/lang/System" "arraycopy" 5 ≤ 100 := by decide +kernel
  have hls : ls.size = nL := hP.2.1.1.1
  unfold arC at hs
  split at hs
  · next n p' t' i' q t i rest =>
    split at hs
    · cases hs
    · next hwd =>
      obtain ⟨hP0, hn⟩ := hP.pop
      obtain ⟨hP1, hp'⟩ := hP0.pop
      obtain ⟨hP2, hr'⟩ := hP1.pop
      obtain ⟨hP3, hq⟩ := hP2.pop
      obtain ⟨hP4, hr⟩ := hP3.pop
      have hlc : (((rest.map (cv G))).map fun v => v.category).sum + (nativeFrameWords "java/lang/System" "arraycopy" 5 + 11) ≤ R.locals := by
        rw [wds_cat]; omega
      split at hs
      · next hk =>
        simp only [Option.some.injEq, Prod.mk.injEq, Sum.inl.injEq] at hs
        obtain ⟨rfl, rfl, rfl, rfl⟩ := hs
        obtain ⟨g1, g2, g3, g4, g5⟩ : 0 ≤ q ∧ 0 ≤ p' ∧ 0 ≤ n ∧ q + n ≤ aln M t i ∧ p' + n ≤ aln M t' i' := hg
        have ht : t < 120 := ak_lt (by omega)
        have ht' : t' < 120 := ak_lt (by omega)
        have hi : i < nI' t := ok_sys hr ht
        have hi' : i' < nI' t' := ok_sys hr' ht'
        have hsys := ak_sys (t := t) (by omega)
        have hsys' := ak_sys (t := t') (by omega)
        rw [aln_sys hsys] at g4
        rw [aln_sys hsys'] at g5
        have hc := ar_at hP hsys hi
        have hc' := ar_at hP hsys' hi'
        rw [cel_i hsys.1 (by omega)] at hc
        rw [cel_i hsys'.1 (by omega)] at hc'
        have hc : H[G.2.2.1 t i]? = some (arrV (G.2.1 t) (asz t) (fun k => .int (Int32.ofInt (M.1 t i k)))) := hc
        have hc' : H[G.2.2.1 t' i']? = some (arrV (G.2.1 t') (asz t') (fun k => .int (Int32.ofInt (M.1 t' i' k)))) := hc'
        obtain ⟨e1, n1⟩ := clampI hq g1
        obtain ⟨e2, n2⟩ := clampI hp' g2
        obtain ⟨e3, n3⟩ := clampI hn g3
        have ha := (hAr t hsys.1 hsys.2).1
        have ha' := (hAr t' hsys'.1 hsys'.2).1
        have hty : eTy t' = eTy t := by
          rcases hk.2 with h | h
          · rw [eTyI h, eTyI (by omega)]
          · rw [eTyZ h, eTyZ (by omega)]
        rw [hty] at ha'
        refine W_copy (ty := eTy t) (u := fun k => .int (Int32.ofInt (M.1 t i k))) (v := fun k => .int (Int32.ofInt (M.1 t' i' k))) hx hb (by rw [hml, hls]) hown (hts _ hl) (hts _ hw.1) (hts _ hw.2.1) (hts _ hw.2.2) hc hc' ha ha' ?_ n1 n2 n3 (by rw [e1, e3]; omega) (by rw [e2, e3]; omega) (fun k _ => ?_) (fun k => Or.inl ⟨_, rfl⟩) hf hlc hd fun H1 L hL h1 z oq => ?_
        · rcases hk.2 with h | h
          · rw [eTyI h]; rfl
          · rw [eTyZ h]; rfl
        · rcases hk.2 with h | h
          · rw [eTyI h]; rfl
          · rw [eTyZ h]
            rcases hP.1.2.2.2.1 t i ((Int32.ofInt q).toNatClampNeg + k) h with q1 | q1 <;> rw [q1] <;> rfl
        rw [e1, e2, e3] at h1
        have hcel : va_at G.1 cls11 (G.2.2.1 t' i', cel G (cpI M t i q.toNat t' i' p'.toNat n.toNat) t' i') H1 := by
          rw [cel_i hsys'.1 (by omega)]
          show H1[G.2.2.1 t' i']? = some (arrV (G.2.1 t') (asz t') (fun k => .int (Int32.ofInt ((cpI M t i q.toNat t' i' p'.toNat n.toNat).1 t' i' k))))
          rw [h1]
          congr 2
          funext k
          rw [cpI_1]
          by_cases hk9 : p'.toNat ≤ k ∧ k < p'.toNat + n.toNat
          · rw [if_pos hk9, if_pos ⟨rfl, rfl, hk9⟩]
          · rw [if_neg hk9, if_neg (fun z => hk9 z.2.2)]
        refine kk _ _ _ (PT.wr (t := 0) (i := 0) hP4 (hP.1.wr hA (Or.inr hsys') hi' hcel z oq (fun a b h => ⟨fun k => by rw [cpI_1, if_neg (fun z => h ⟨z.1, z.2.1⟩)], fun _ => rfl⟩) (fun k => ?_) (fun h3 k => ?_) (fun h5 => by omega)) ⟨by rw [z]; exact hP.2.2.2.2.1, fun q9 h1 h2 => ?_, fun w hw => ?_⟩)
        · rw [cpI_1]; split
          · exact hP.1.1 _ _ _
          · exact hP.1.1 _ _ _
        · rw [cpI_1]; split
          · exact hP.1.2.2.2.1 _ _ _ (by omega)
          · exact hP.1.2.2.2.1 _ _ _ h3
        · rw [oq q9 (fun e => h2 (by rw [e]; exact hA.2 t' i' (Or.inr hsys') hi'))]
          exact hP.2.2.2.2.2.1 q9 h1 h2
        · rcases List.mem_append.mp hw with h | h
          · exact hP.2.2.2.2.2.2 w h
          · show AA G w.base
            rw [hL w h]; exact hA.2 t' i' (Or.inr hsys') hi'
      · split at hs
        · next hk =>
          simp only [Option.some.injEq, Prod.mk.injEq, Sum.inl.injEq] at hs
          obtain ⟨rfl, rfl, rfl, rfl⟩ := hs
          obtain ⟨g1, g2, g3, g4, g5⟩ : 0 ≤ q ∧ 0 ≤ p' ∧ 0 ≤ n ∧ q + n ≤ aln M t i ∧ p' + n ≤ aln M t' i' := hg
          have ht : t < 120 := ak_lt (by omega)
          have ht' : t' < 120 := ak_lt (by omega)
          have hi : i < nI' t := ok_sys hr ht
          have hi' : i' < nI' t' := ok_sys hr' ht'
          have hsys := ak_sys (t := t) (by omega)
          have hsys' := ak_sys (t := t') (by omega)
          rw [aln_sys hsys] at g4
          rw [aln_sys hsys'] at g5
          have hc := ar_at hP hsys hi
          have hc' := ar_at hP hsys' hi'
          rw [cel_l hsys.1 hk.1] at hc
          rw [cel_l hsys'.1 hk.2] at hc'
          have hc : H[G.2.2.1 t i]? = some (arrV (G.2.1 t) (asz t) (fun k => .long (M.2 t i k))) := hc
          have hc' : H[G.2.2.1 t' i']? = some (arrV (G.2.1 t') (asz t') (fun k => .long (M.2 t' i' k))) := hc'
          obtain ⟨e1, n1⟩ := clampI hq g1
          obtain ⟨e2, n2⟩ := clampI hp' g2
          obtain ⟨e3, n3⟩ := clampI hn g3
          have ha := (hAr t hsys.1 hsys.2).1
          have ha' := (hAr t' hsys'.1 hsys'.2).1
          rw [eTyL hk.1] at ha
          rw [eTyL hk.2] at ha'
          refine W_copy (ty := .long) (u := fun k => .long (M.2 t i k)) (v := fun k => .long (M.2 t' i' k)) hx hb (by rw [hml, hls]) hown (hts _ hl) (hts _ hw.1) (hts _ hw.2.1) (hts _ hw.2.2) hc hc' ha ha' rfl n1 n2 n3 (by rw [e1, e3]; omega) (by rw [e2, e3]; omega) (fun k _ => rfl) (fun k => Or.inr ⟨_, rfl⟩) hf hlc hd fun H1 L hL h1 z oq => ?_
          rw [e1, e2, e3] at h1
          have hcel : va_at G.1 cls11 (G.2.2.1 t' i', cel G (cpL M t i q.toNat t' i' p'.toNat n.toNat) t' i') H1 := by
            rw [cel_l hsys'.1 hk.2]
            show H1[G.2.2.1 t' i']? = some (arrV (G.2.1 t') (asz t') (fun k => .long ((cpL M t i q.toNat t' i' p'.toNat n.toNat).2 t' i' k)))
            rw [h1]
            congr 2
            funext k
            rw [cpL_2]
            by_cases hk9 : p'.toNat ≤ k ∧ k < p'.toNat + n.toNat
            · rw [if_pos hk9, if_pos ⟨rfl, rfl, hk9⟩]
            · rw [if_neg hk9, if_neg (fun z => hk9 z.2.2)]
          refine kk _ _ _ (PT.wr (t := 0) (i := 0) hP4 (hP.1.wr hA (Or.inr hsys') hi' hcel z oq (fun a b h => ⟨fun _ => rfl, fun k => by rw [cpL_2, if_neg (fun z => h ⟨z.1, z.2.1⟩)]⟩) (fun k => hP.1.1 _ _ _) (fun h3 k => hP.1.2.2.2.1 _ _ _ h3) (fun h5 => by omega)) ⟨by rw [z]; exact hP.2.2.2.2.1, fun q9 h1 h2 => ?_, fun w hw => ?_⟩)
          · rw [oq q9 (fun e => h2 (by rw [e]; exact hA.2 t' i' (Or.inr hsys') hi'))]
            exact hP.2.2.2.2.2.1 q9 h1 h2
          · rcases List.mem_append.mp hw with h | h
            · exact hP.2.2.2.2.2.2 w h
            · show AA G w.base
              rw [hL w h]; exact hA.2 t' i' (Or.inr hsys') hi'
        · cases hs
  · cases hs
theorem ofInt_natC (n : Nat) : Int32.ofInt (n : Int) = Int32.ofNat n := by
  show (⟨⟨BitVec.ofInt 32 n⟩⟩ : Int32) = ⟨⟨BitVec.ofNat 32 n⟩⟩
  rw [BitVec.ofInt_natCast]
/-- lengths -/
theorem sd_alen (C : Cx G sc p l s m args meth c cc nL o) {t i : Nat} {rest : List AV} (hP : PT G sc s nL H locs ls lv (vr t i :: rest) M) (hk : ¬ akd t = 0) (hd : decode cc pc = .ok (.arraylength, 1))
    (kk : GO p l e R s m args below meth c cells slots Q G sc nL (pc + 1) lv (vi (aln M t i) :: rest) M) : W p l e R s m args below meth c H locs cells slots Q (F0 m pc ls ((vr t i :: rest).map (cv G))) := by
  obtain ⟨hx, hb, -, -, -, hA, -, hAr, hRO, -⟩ := C
  obtain ⟨hP1, hr⟩ := hP.pop
  have ht : t < 120 := ak_lt hk
  have hi : i < nI' t := ok_sys hr ht
  have nat : ∀ n : Nat, n < 4000 → Int32.ofInt (n : Int) = Int32.ofNat n := fun n _ => ofInt_natC n
  have sysroad : 20 ≤ t ∧ t < 116 → W p l e R s m args below meth c H locs cells slots Q (F0 m pc ls ((vr t i :: rest).map (cv G))) := by
    intro hsys
    have hc := ar_at hP hsys hi
    have ha := (hAr t hsys.1 hsys.2).1
    have hsz := asz_lt t ht
    rw [aln_sys hsys] at kk
    have cel0 : ∃ u : Nat → Value, H[G.2.2.1 t i]? = some (arrV (G.2.1 t) (asz t) u) := by
      rw [cel_arr hsys.1] at hc
      have hc : H[G.2.2.1 t i]? = some (vp_cell _ _) := hc
      revert hc
      split
      · intro hc; exact ⟨fun k => .long (M.2 t i k), hc⟩
      · intro hc; exact ⟨fun k => va_rf (some (adr G (pA t i k))), hc⟩
      · intro hc; exact ⟨fun k => .int (Int32.ofInt (M.1 t i k)), hc⟩
    obtain ⟨u, hu⟩ := cel0
    refine W.alen (n := Int32.ofInt (asz t : Int)) hx hb hu (ha (asz t) u) ?_ rfl rfl hd ?_
    · rw [arrV_size, nat _ (by omega)]
    · exact kk _ _ _ (hP1.push (v := vi (asz t : Int)) ⟨by omega, by omega⟩)
  by_cases h5 : akd t = 5
  · have road : ∀ (L : Nat) (xs : Nat → Int), va_X (G.2.2.1 t i) L (fun j => Int32.ofInt (xs j)) s s.heap → ¬ AA G (G.2.2.1 t i) → aln M t i = (L : Int) → inR (L : Int) → W p l e R s m args below meth c H locs cells slots Q (F0 m pc ls ((vr t i :: rest).map (cv G))) := by
      intro L xs hX hn hL hR
      rw [hL] at kk
      refine va_slen hx hb hX (by obtain ⟨_, q, _⟩ := hX; exact (Array.getElem?_eq_some_iff.mp q).1) hn hP.2.2.2.2 hd ?_
      have e : Int32.ofNat L = Int32.ofInt (L : Int) := (ofInt_natC L).symm
      rw [e]
      exact kk _ _ _ (hP1.push (v := vi (L : Int)) hR)
    obtain ⟨⟨a1, a2⟩, ⟨b1, b2⟩, ⟨c1, c2⟩, -⟩ := hRO
    rcases ak5 t ht h5 with rfl | rfl | rfl
    · have hi0 : i = 0 := by have : i < 1 := hi; omega
      subst hi0
      exact road 3 _ b1 b2 rfl ⟨by decide, by decide⟩
    · have hi0 : i = 0 := by have : i < 1 := hi; omega
      subst hi0
      exact road 3 _ c1 c2 rfl ⟨by decide, by decide⟩
    · have hi0 : i = 0 := by have : i < 1 := hi; omega
      subst hi0
      refine road sc.1 sc.2 a1 a2 hP.1.2.2.1.1 ?_
      rw [← hP.1.2.2.1.1]; exact hP.1.1 _ _ _
  · by_cases h6 : akd t = 6
    · obtain rfl := ak6 t ht h6
      have hi28 : i < 28 := hi
      obtain ⟨-, -, -, hT⟩ := hRO.2.2.2.2.1 i hi28
      obtain ⟨cell, q1, q2, q3, q4, q5, q6, q7⟩ := hT
      have hlen : ∀ i, i < 28 → (strT.getD i []).length < 1000 := by decide +kernel
      have hl28 := hlen i hi28
      refine W.alen (n := Int32.ofInt ((strT.getD i []).length : Int)) hx hb (by rw [hP.2.2.2.2.2.1 _ (Array.getElem?_eq_some_iff.mp q1).1 q7]; exact q1) q2 (by rw [q5]; exact (nat _ (by omega)).symm) rfl rfl hd ?_
      exact kk _ _ _ (hP1.push (v := vi ((strT.getD i []).length : Int)) ⟨by omega, by omega⟩)
    · refine sysroad ?_
      have key : ∀ t, t < 120 → akd t ≠ 0 → akd t ≠ 5 → akd t ≠ 6 → 20 ≤ t ∧ t < 116 := by decide +kernel
      exact key t ht hk h5 h6
end SD
