/-! STRAIGHT STEPS: fields and arrays -/
section SD
variable {p : Program} {l : Launch} {e : Env} {R : Room} {s : State} {m : MethodId} {args : Array Value} {below : List Frame} {meth : Method} {c : Code} {H : Heap} {locs : List Loc} {cells slots : Nat} {Q : State → Prop}
variable {G : Gx} {sc : Nat × (Nat → Int)} {cc : ByteArray} {nL o pc : Nat} {ls : Array Slot} {lv st lv' st' : List AV} {M M' : Mem} {gs : List Prop}
theorem single {D : va_G} {cl : List vw_C} {q : Nat × va_E} {H : Heap} (h : va_at D cl q H) : va_P D cl [q] H := by
  intro k r hk
  cases k with
  | zero => cases hk; exact h
  | succ n => simp at hk
theorem ok_sys {t i : Nat} (h : okV (vr t i)) (ht : t < 120) : i < nI' t := h.elim (fun e => by omega) id
theorem cls_in : ∀ t, t < 11 → ∀ r, cls11[t]? = some r → ∀ w ∈ u_ws r.1 r.2.1 r.2.2, w ∈ gtbl := fun t ht => match t, ht with
  | 0, _ => fun r h => by cases h; exact inG0
  | 1, _ => fun r h => by cases h; exact inG1
  | 2, _ => fun r h => by cases h; exact inG2
  | 3, _ => fun r h => by cases h; exact inG3
  | 4, _ => fun r h => by cases h; exact inG4
  | 5, _ => fun r h => by cases h; exact inG5
  | 6, _ => fun r h => by cases h; exact inG6
  | 7, _ => fun r h => by cases h; exact inG7
  | 8, _ => fun r h => by cases h; exact inG8
  | 9, _ => fun r h => by cases h; exact inG9
  | 10, _ => fun r h => by cases h; exact inG10
  | n + 11, h => absurd h (by omega)
theorem cls_n : ∀ t, t < 11 → ∀ r, cls11[t]? = some r → r.2.2 = nfl t := fun t ht => match t, ht with
  | 0, _ => fun r h => by cases h; rfl
  | 1, _ => fun r h => by cases h; rfl
  | 2, _ => fun r h => by cases h; rfl
  | 3, _ => fun r h => by cases h; rfl
  | 4, _ => fun r h => by cases h; rfl
  | 5, _ => fun r h => by cases h; rfl
  | 6, _ => fun r h => by cases h; rfl
  | 7, _ => fun r h => by cases h; rfl
  | 8, _ => fun r h => by cases h; rfl
  | 9, _ => fun r h => by cases h; rfl
  | 10, _ => fun r h => by cases h; rfl
  | n + 11, h => absurd h (by omega)
def tyC (t : Nat) : Nat → FieldType := match t with
  | 0 => tyX0
  | 1 => tyX1
  | 2 => tyX2
  | 3 => tyX3
  | 4 => tyX4
  | 5 => tyX5
  | 6 => tyX6
  | 7 => tyX7
  | 8 => tyX8
  | 9 => tyX9
  | _ => tyX10
theorem cls_t : ∀ t, t < 11 → ∀ r, cls11[t]? = some r → (∀ k, k < r.2.2 → parseFieldDescriptor (r.2.1 k).2.2.1 = some (tyC t k)) ∧ (∀ a, a < r.2.2 → ∀ b, b < r.2.2 → a ≠ b → (r.2.1 a).2.1 ≠ (r.2.1 b).2.1) := fun t ht => match t, ht with
  | 0, _ => fun r h => by cases h; exact ⟨tyX0_ok, nmX0⟩
  | 1, _ => fun r h => by cases h; exact ⟨tyX1_ok, nmX1⟩
  | 2, _ => fun r h => by cases h; exact ⟨tyX2_ok, nmX2⟩
  | 3, _ => fun r h => by cases h; exact ⟨tyX3_ok, nmX3⟩
  | 4, _ => fun r h => by cases h; exact ⟨tyX4_ok, nmX4⟩
  | 5, _ => fun r h => by cases h; exact ⟨tyX5_ok, nmX5⟩
  | 6, _ => fun r h => by cases h; exact ⟨tyX6_ok, nmX6⟩
  | 7, _ => fun r h => by cases h; exact ⟨tyX7_ok, nmX7⟩
  | 8, _ => fun r h => by cases h; exact ⟨tyX8_ok, nmX8⟩
  | 9, _ => fun r h => by cases h; exact ⟨tyX9_ok, nmX9⟩
  | 10, _ => fun r h => by cases h; exact ⟨tyX10_ok, nmX10⟩
  | n + 11, h => absurd h (by omega)
def tyf : FieldType → Nat
  | .int => 0
  | .long => 1
  | .boolean => 4
  | .object _ => 3
  | _ => 9
theorem cls_f0 : ∀ t, t < 11 → ∀ j, j < nfl t → fty t j ≠ 2 → tyf (tyC t j) = fty t j := by decide +kernel
theorem cls_fin0 : ∀ t, t < 11 → ∀ j, j < nfl t → fty t j ≠ 2 → ((cls11.getD t (RX0, TX0, 8)).2.1 j).2.2.2 = false := by decide +kernel
theorem fvl_ok {t i j : Nat} (hW : Wm G sc M H) : (fty t j = 0 ∨ fty t j = 4 → fvl G M t i j = cv G (vi (M.1 t i j))) ∧ (fty t j = 1 → fvl G M t i j = cv G (vl (M.2 t i j))) ∧ (fty t j = 2 → fvl G M t i j = cv G (vr (pF t j i).1 (pF t j i).2)) ∧ (fty t j = 3 → fvl G M t i j = cv G (vr 6 (M.1 t i j).toNat)) := by
  refine ⟨fun h => ?_, fun h => ?_, fun h => ?_, fun h => ?_⟩
  · unfold fvl
    rcases h with h | h <;> rw [h] <;> rfl
  · unfold fvl; rw [h]; rfl
  · unfold fvl; rw [h]; rfl
  · unfold fvl; rw [h]; rfl
theorem fty3 : ∀ t, t < 11 → ∀ j, j < nfl t → fty t j = 3 → t = 5 ∧ j = 6 := by decide +kernel
/-- a field read -/
theorem sd_gtf {idx n t j k : Nat} {v : Int} (C : Cx G sc p l s m args meth c cc nL o) (hP : PT G sc s nL H locs ls lv st M) (hF : FOK o (idx, t, j)) (hk : k = fty t j ∨ k = 0 ∧ fty t j = 4) (hs : gtf t j k v lv st M = some (gs, rNx lv' st' M')) (hd : decode cc pc = .ok (.getfield idx, 3))
    (kk : GO p l e R s m args below meth c cells slots Q G sc nL (pc + 3) lv' st' M') : W p l e R s m args below meth c H locs cells slots Q (F0 m pc ls (st.map (cv G))) := by
  obtain ⟨ht, hj, r, hr, hl⟩ := hF
  dsimp only at ht hj hr hl
  obtain ⟨hx, hb, -, hown, hts, hA, hK, -⟩ := C
  unfold gtf at hs
  split at hs
  · next t' i rest =>
    by_cases e : t' = t
    · subst e
      rw [if_pos rfl] at hs
      have hi : i < nI' t' := ok_sys hP.pop.2 (by omega)
      have hc := hP.1.2.2.2.2.1 t' i (Or.inl ht) hi
      rw [cel_o ht] at hc
      have hn := cls_n t' ht r hr
      have fin : ∀ v : AV, fvl G M t' i j = cv G v → okV v → lv' = lv ∧ st' = v :: rest ∧ M' = M → W p l e R s m args below meth c H locs cells slots Q (F0 m pc ls ((vr t' i :: rest).map (cv G))) := by
        rintro v hv ho ⟨rfl, rfl, rfl⟩
        refine va_get (C := r.1) (T := r.2.1) (N := r.2.2) hx hb hts (cls_in t' ht r hr) hown hK (single hc) 0 rfl hr j (by rw [hn]; exact hj) (hts _ hl) (fun _ h => h) (v := cv G v) (by rw [flds_get hj, hv]) hd ?_
        exact kk _ _ _ (hP.pop.1.push ho)
      obtain ⟨f0, f1, f2, f3⟩ := fvl_ok (t := t') (i := i) (j := j) hP.1
      split at hs
      · simp only [Option.some.injEq, Prod.mk.injEq, Sum.inl.injEq] at hs
        exact fin _ (f0 (by omega)) (hP.1.1 _ _ _) ⟨hs.2.1.symm, hs.2.2.1.symm, hs.2.2.2.symm⟩
      · simp only [Option.some.injEq, Prod.mk.injEq, Sum.inl.injEq] at hs
        exact fin _ (f1 (by omega)) trivial ⟨hs.2.1.symm, hs.2.2.1.symm, hs.2.2.2.symm⟩
      · simp only [Option.some.injEq, Prod.mk.injEq, Sum.inl.injEq] at hs
        exact fin _ (f2 (by omega)) (Or.inr (nI_pF t' ht j hj (by omega) i hi)) ⟨hs.2.1.symm, hs.2.2.1.symm, hs.2.2.2.symm⟩
      · simp only [Option.some.injEq, Prod.mk.injEq, Sum.inl.injEq] at hs
        obtain ⟨rfl, rfl⟩ := fty3 t' ht j hj (by omega)
        have hi0 : i = 0 := by have : i < 1 := hi; omega
        subst hi0
        refine fin _ (f3 (by omega)) (Or.inr ?_) ⟨hs.2.1.symm, hs.2.2.1.symm, hs.2.2.2.symm⟩
        show (M.1 5 0 6).toNat < 2
        have := hP.1.2.1
        omega
      · have : fty t' j = 5 := by omega
        have h5 : ∀ t, t < 11 → ∀ j, j < nfl t → fty t j ≠ 5 := by decide +kernel
        exact absurd this (h5 t' ht j hj)
      · cases hs
    · rw [if_neg e] at hs
      cases hs
  · cases hs
theorem ak_cl : ∀ t, t < 11 → akd t ≠ 3 := by decide +kernel
/-- the memory behind a write into one cell -/
theorem Wm.wr {M' : Mem} {H1 : Heap} {t i : Nat} (hA : AOK G) (h : Wm G sc M H) (ht : sys t) (hi : i < nI' t) (hn : va_at G.1 cls11 (G.2.2.1 t i, cel G M' t i) H1) (hz : H1.size = H.size) (ho : ∀ q : Nat, q ≠ G.2.2.1 t i → H1[q]? = H[q]?)
    (hm : ∀ t' i' : Nat, ¬ (t' = t ∧ i' = i) → (∀ c, M'.1 t' i' c = M.1 t' i' c) ∧ ∀ c, M'.2 t' i' c = M.2 t' i' c) (hr : ∀ c, inR (M'.1 t i c)) (h3 : akd t = 3 → ∀ c, M'.1 t i c = 0 ∨ M'.1 t i c = 1) (h5 : t = 5 → i = 0 → 0 ≤ M'.1 5 0 6 ∧ M'.1 5 0 6 < 2) : Wm G sc M' H1 := by
  have hns : ∀ i', ¬ (118 = t ∧ i' = i) := fun i' q => by rcases ht with h | h <;> omega
  refine ⟨fun a b k => ?_, ?_, ⟨?_, fun j => ?_⟩, fun a b k ha => ?_, h.2.2.2.2.1.set hA ht hi hn ho hm, by rw [hz]; exact h.2.2.2.2.2⟩
  · by_cases e : a = t ∧ b = i
    · obtain ⟨rfl, rfl⟩ := e
      exact hr k
    · rw [(hm a b e).1]; exact h.1 a b k
  · by_cases e : 5 = t ∧ 0 = i
    · exact h5 e.1.symm e.2.symm
    · rw [(hm 5 0 e).1]; exact h.2.1
  · rw [(hm 118 1 (hns 1)).1]; exact h.2.2.1.1
  · rw [(hm 118 0 (hns 0)).1]; exact h.2.2.1.2 j
  · by_cases e : a = t ∧ b = i
    · obtain ⟨rfl, rfl⟩ := e
      exact h3 ha k
    · rw [(hm a b e).1]; exact h.2.2.2.1 a b k ha
theorem PT.wr {M' : Mem} {H1 : Heap} {locs1 : List Loc} {t i : Nat} (hP : PT G sc s nL H locs ls lv st M) (hW : Wm G sc M' H1) (hS : va_S (AA G) s.heap H1 locs1) : PT G sc s nL H1 locs1 ls lv st M' := ⟨hW, hP.2.1, hP.2.2.1, hP.2.2.2.1, hS⟩
/-- a field written -/
theorem sd_ptf {idx t j k : Nat} (C : Cx G sc p l s m args meth c cc nL o) (hP : PT G sc s nL H locs ls lv st M) (hF : FOK o (idx, t, j)) (hk : k = fty t j) (hs : ptf t j k lv st M = some (gs, rNx lv' st' M')) (hg : allP gs) (hd : decode cc pc = .ok (.putfield idx, 3))
    (kk : GO p l e R s m args below meth c cells slots Q G sc nL (pc + 3) lv' st' M') : W p l e R s m args below meth c H locs cells slots Q (F0 m pc ls (st.map (cv G))) := by
  obtain ⟨ht, hj, r, hr, hl⟩ := hF
  dsimp only at ht hj hr hl
  obtain ⟨hx, hb, -, hown, hts, hA, hK, -⟩ := C
  have hn := cls_n t ht r hr
  obtain ⟨hty, hnm⟩ := cls_t t ht r hr
  have hrT : r = cls11.getD t (RX0, TX0, 8) := by rw [List.getD_eq_getElem?_getD, hr]; rfl
  -- one road for all kinds: the value, the memory behind it
  have road : ∀ (v : AV) (i : Nat) (rest : List AV), st = v :: vr t i :: rest → fty t j ≠ 2 → fvl G M' t i j = cv G v → (∀ k, k ≠ j → fvl G M' t i k = fvl G M t i k) →
      (∀ t' i' : Nat, ¬ (t' = t ∧ i' = i) → (∀ c, M'.1 t' i' c = M.1 t' i' c) ∧ ∀ c, M'.2 t' i' c = M.2 t' i' c) → (∀ c, inR (M'.1 t i c)) → (t = 5 → i = 0 → 0 ≤ M'.1 5 0 6 ∧ M'.1 5 0 6 < 2) →
      narrow (tyC t j) (cv G v) = cv G v → fits (tyC t j) (cv G v) = true → lv' = lv ∧ st' = rest → W p l e R s m args below meth c H locs cells slots Q (F0 m pc ls (st.map (cv G))) := by
    rintro v i rest rfl h2 hv hvo hm hrg h5 hna hfi ⟨rfl, rfl⟩
    have hi : i < nI' t := ok_sys hP.pop.1.pop.2 (by omega)
    have hc := hP.1.2.2.2.2.1 t i (Or.inl ht) hi
    rw [cel_o ht] at hc
    have hD : va_D (AA G) [(G.2.2.1 t i, (Sum.inr (t, flds G M t i) : va_E))] := ⟨fun a b p q ha hb _ => by
      cases a with
      | zero => cases b with
        | zero => rfl
        | succ b => simp at hb
      | succ a => simp at ha, fun k q hk => by
      cases k with
      | zero => cases hk; exact hA.2 t i (Or.inl ht) hi
      | succ k => simp at hk⟩
    have hap := va_apart (own := own' o) (s := s) hts (cls_in t ht r hr) (tyC t) hty hnm hK hr
    obtain ⟨r', hr', cell, q1, q2, q3, q4⟩ := hc
    cases Option.some.inj (hr'.symm.trans hr)
    obtain ⟨hSl, hfc, kC, hkC, hkind⟩ := hK.1 t _ hr
    obtain ⟨cf, kf, fi, f, hif, hsl⟩ := hSl j (by rw [hn]; exact hj)
    have hfin : (r.2.1 j).2.2.2 = false := by rw [hrT]; exact cls_fin0 t ht j hj h2
    have hlay := hts _ (cls_in t ht _ hr _ (u_in_lay (show j < r.2.2 by rw [hn]; exact hj)))
    unfold u_lay at hlay
    rw [if_neg (by rw [hfin]; decide)] at hlay
    have hst := (u_facts hfc hkC (u_lays hts (cls_in t ht _ hr) (show j < r.2.2 by rw [hn]; exact hj)) hif).1
    have h6 := u_store hfc hkC hkind hlay hif (hty j (by rw [hn]; exact hj)) hna hfi
    refine W.putK hx hb (f := f) ⟨hown, hts _ hl, ⟨_, _, _, hif⟩, hst⟩ (by rw [q2]; exact h6) q1 q3 (by rw [hsl]; exact k2_hasslot (q4 j (by rw [hn]; exact hj))) rfl rfl hd fun H' e1 e2 e3 => ?_
    rw [hsl] at e1 ⊢
    have hcel : va_at G.1 cls11 (G.2.2.1 t i, cel G M' t i) H' := by
      rw [cel_o ht]
      refine ⟨_, hr, t_OB.to (V := updV (vp_V (flds G M t i)) j (cv G v)) ⟨_, e1, q2, q3, t_set q4 hap (by rw [hn]; exact hj) (cv G v)⟩ (fun k _ => ?_)⟩
      rw [vp_updV_set (by rw [flds_len]; exact hj) (cv G v) k, flds_set hv hvo]
    exact kk _ _ _ (PT.wr (t := 0) (i := 0) hP.pop.1.pop.1 (hP.1.wr hA (Or.inl ht) hi hcel e2 e3 hm hrg (fun h => absurd h (ak_cl t ht)) h5) (hP.2.2.2.2.put e2 e3 (hA.2 t i (Or.inl ht) hi)))
  have tf := cls_f0 t ht j hj
  unfold ptf at hs
  split at hs
  · next x t' i rest =>
    by_cases e : t' = t
    · subst e
      rw [if_pos rfl] at hs
      simp only [Option.some.injEq, Prod.mk.injEq, Sum.inl.injEq] at hs
      obtain ⟨-, rfl, rfl, rfl⟩ := hs
      have hty0 : tyC t' j = .int := by
        have := tf (by omega)
        revert this
        rw [← hk]
        cases tyC t' j <;> simp [tyf]
      refine road (vi x) i rest rfl (by omega) ?_ (fun k hkj => ?_) (fun _ _ h => sI_off h) (fun k => ?_) (fun h5 h0 => ?_) (by rw [hty0]; rfl) (by rw [hty0]; rfl) ⟨rfl, rfl⟩
      · unfold fvl; rw [← hk]; show Value.int (Int32.ofInt ((sI M t' i j x).1 t' i j)) = _; rw [sI_1, if_pos ⟨rfl, rfl, rfl⟩]; rfl
      · unfold fvl; rw [sI_1, if_neg (fun q => hkj q.2.2)]; rfl
      · rw [sI_1]; split
        · exact hP.pop.2
        · exact hP.1.1 _ _ _
      · subst h5; subst h0
        rw [sI_1, if_neg (fun q => by have : fty 5 6 = 3 := rfl; rw [q.2.2] at this; omega)]
        exact hP.1.2.1
    · rw [if_neg e] at hs; cases hs
  · next x t' i rest =>
    by_cases e : t' = t
    · subst e
      rw [if_pos rfl] at hs
      simp only [Option.some.injEq, Prod.mk.injEq, Sum.inl.injEq] at hs
      obtain ⟨rfl, rfl, rfl, rfl⟩ := hs
      have hty0 : tyC t' j = .boolean := by
        have := tf (by omega)
        revert this
        rw [← hk]
        cases tyC t' j <;> simp [tyf]
      refine road (vi x) i rest rfl (by omega) ?_ (fun k hkj => ?_) (fun _ _ h => sI_off h) (fun k => ?_) (fun h5 h0 => ?_) (by rw [hty0]; exact nar_z01 hg) (by rw [hty0]; rcases hg with rfl | rfl <;> rfl) ⟨rfl, rfl⟩
      · unfold fvl; rw [← hk]; show Value.int (Int32.ofInt ((sI M t' i j x).1 t' i j)) = _; rw [sI_1, if_pos ⟨rfl, rfl, rfl⟩]; rfl
      · unfold fvl; rw [sI_1, if_neg (fun q => hkj q.2.2)]; rfl
      · rw [sI_1]; split
        · exact hP.pop.2
        · exact hP.1.1 _ _ _
      · subst h5; subst h0
        rw [sI_1, if_neg (fun q => by have : fty 5 6 = 3 := rfl; rw [q.2.2] at this; omega)]
        exact hP.1.2.1
    · rw [if_neg e] at hs; cases hs
  · next x t' i rest =>
    by_cases e : t' = t
    · subst e
      rw [if_pos rfl] at hs
      simp only [Option.some.injEq, Prod.mk.injEq, Sum.inl.injEq] at hs
      obtain ⟨-, rfl, rfl, rfl⟩ := hs
      have hty0 : tyC t' j = .long := by
        have := tf (by omega)
        revert this
        rw [← hk]
        cases tyC t' j <;> simp [tyf]
      refine road (vl x) i rest rfl (by omega) ?_ (fun k hkj => ?_) (fun _ _ h => sL_off h) (fun k => hP.1.1 _ _ _) (fun h5 h0 => hP.1.2.1) (by rw [hty0]; rfl) (by rw [hty0]; rfl) ⟨rfl, rfl⟩
      · unfold fvl; rw [← hk]; show Value.long ((sL M t' i j x).2 t' i j) = _; rw [sL_2, if_pos ⟨rfl, rfl, rfl⟩]; rfl
      · unfold fvl; rw [sL_2, if_neg (fun q => hkj q.2.2)]; rfl
    · rw [if_neg e] at hs; cases hs
  · next x t' i rest =>
    by_cases e : t' = t
    · subst e
      rw [if_pos rfl] at hs
      simp only [Option.some.injEq, Prod.mk.injEq, Sum.inl.injEq] at hs
      obtain ⟨rfl, rfl, rfl, rfl⟩ := hs
      obtain ⟨rfl, rfl⟩ := fty3 t' ht j hj (by omega)
      have hg : x < 2 := hg
      refine road (vr 6 x) i rest rfl (by omega) ?_ (fun k hkj => ?_) (fun _ _ h => sI_off h) (fun k => ?_) (fun h5 h0 => ?_) rfl rfl ⟨rfl, rfl⟩
      · show Value.ref (G.2.2.1 6 ((sI M 5 i 6 (x : Int)).1 5 i 6).toNat) = _; rw [sI_1, if_pos ⟨rfl, rfl, rfl⟩]; rfl
      · unfold fvl; rw [sI_1, if_neg (fun q => hkj q.2.2)]; rfl
      · rw [sI_1]; split
        · constructor <;> omega
        · exact hP.1.1 _ _ _
      · subst h0
        rw [sI_1, if_pos ⟨rfl, rfl, rfl⟩]
        omega
    · rw [if_neg e] at hs; cases hs
  · cases hs
end SD
