/-! STRAIGHT STEPS: arrays -/
section SD
variable {p : Program} {l : Launch} {e : Env} {R : Room} {s : State} {m : MethodId} {args : Array Value} {below : List Frame} {meth : Method} {c : Code} {H : Heap} {locs : List Loc} {cells slots : Nat} {Q : State → Prop}
variable {G : Gx} {sc : Nat × (Nat → Int)} {cc : ByteArray} {nL o pc : Nat} {ls : Array Slot} {lv st lv' st' : List AV} {M M' : Mem} {gs : List Prop}
theorem ak5 : ∀ t, t < 120 → akd t = 5 → t = 116 ∨ t = 117 ∨ t = 118 := by decide +kernel
theorem ak6 : ∀ t, t < 120 → akd t = 6 → t = 119 := by decide +kernel
theorem eTyI {t : Nat} (h : akd t = 1) : eTy t = .int := by
  have := ak_sys (Or.inl h)
  exact tyk_1 (by rw [eTy_k t (by omega) this.1 this.2]; exact h)
theorem eTyL {t : Nat} (h : akd t = 2) : eTy t = .long := by
  have := ak_sys (Or.inr (Or.inl h))
  exact tyk_2 (by rw [eTy_k t (by omega) this.1 this.2]; exact h)
theorem eTyZ {t : Nat} (h : akd t = 3) : eTy t = .boolean := by
  have := ak_sys (Or.inr (Or.inr (Or.inl h)))
  exact tyk_3 (by rw [eTy_k t (by omega) this.1 this.2]; exact h)
theorem eTyR {t : Nat} (h : akd t = 4) : (eTy t).isReference = true := by
  have := ak_sys (Or.inr (Or.inr (Or.inr h)))
  exact tyk_4 (by rw [eTy_k t (by omega) this.1 this.2]; exact h)
theorem roI_R (t i j : Nat) : inR (roI t i j) := by
  unfold roI
  have key : ∀ (L : List Int) (j : Nat), (∀ x ∈ L, inR x) → inR (L.getD j 0) := fun L j h => by
    rw [List.getD_eq_getElem?_getD]
    cases hj : L[j]? with
    | none => exact R0
    | some x => exact h x (List.mem_of_getElem? hj)
  split
  · exact key _ _ (by intro x hx; simp at hx; rcases hx with rfl | rfl | rfl <;> constructor <;> decide)
  · split
    · exact key _ _ (by intro x hx; simp at hx; rcases hx with rfl | rfl | rfl <;> constructor <;> decide)
    · refine key _ _ fun x hx => ?_
      have all : ∀ r ∈ strT, ∀ x ∈ r, -2147483648 ≤ x ∧ x ≤ 2147483647 := by decide +kernel
      cases hi : strT[i]? with
      | none => rw [List.getD_eq_getElem?_getD, hi] at hx; simp at hx
      | some r => rw [List.getD_eq_getElem?_getD, hi] at hx; exact all r (List.mem_of_getElem? hi) x hx
theorem ar_at {t i : Nat} (hP : PT G sc s nL H locs ls lv st M) (ht : 20 ≤ t ∧ t < 116) (hi : i < nI' t) : va_at G.1 cls11 (G.2.2.1 t i, cel G M t i) H := hP.1.2.2.2.2.1 t i (Or.inr ht) hi
theorem sd_iald (C : Cx G sc p l s m args meth c cc nL o) (hP : PT G sc s nL H locs ls lv st M) (hs : aldI (fun k => k == 1 || k == 5) lv st M = some (gs, rNx lv' st' M')) (hg : allP gs) (hd : decode cc pc = .ok (.iaload, 1))
    (kk : GO p l e R s m args below meth c cells slots Q G sc nL (pc + 1) lv' st' M') : W p l e R s m args below meth c H locs cells slots Q (F0 m pc ls (st.map (cv G))) := by
  obtain ⟨hx, hb, -, -, -, hA, -, hAr, hRO, -⟩ := C
  unfold aldI at hs
  split at hs
  · next j t i rest =>
    split at hs
    · next hk =>
      simp only [Option.some.injEq, Prod.mk.injEq, Sum.inl.injEq] at hs
      obtain ⟨rfl, rfl, rfl, rfl⟩ := hs
      have hg : 0 ≤ j ∧ j < aln M t i := hg
      obtain ⟨hP1, hj⟩ := hP.pop
      obtain ⟨hP2, hr⟩ := hP1.pop
      simp only [Bool.or_eq_true, beq_iff_eq] at hk
      have ht : t < 120 := ak_lt (by omega)
      have hi : i < nI' t := ok_sys hr ht
      rcases hk with hk | hk
      · have hsys := ak_sys (Or.inl hk)
        rw [aln_sys hsys] at hg
        rw [rdI_sys hsys] at kk
        have hc := ar_at hP hsys hi
        rw [cel_i hsys.1 (Or.inl hk)] at hc
        obtain ⟨h1, h2⟩ := ar_ix hj hg
        have ha := (hAr t hsys.1 hsys.2).1
        rw [eTyI hk] at ha
        have hlt : (Int32.ofInt j).toNatClampNeg < asz t := Nat.not_le.mp fun q => h1 (Or.inr q)
        refine W.iald (v := .int (Int32.ofInt (M.1 t i j.toNat))) hx hb hc (ha (asz t) (fun k => .int (Int32.ofInt (M.1 t i k)))) (fun q => by cases q) (by show ¬ (_ ∨ (arrV _ _ _).slots.size ≤ _); rw [arrV_size]; exact h1) (by show (arrV _ _ _).slots[_]? = _; rw [arrV_read _ _ hlt, h2]) rfl rfl hd ?_
        exact kk _ _ _ (hP2.push (v := vi (M.1 t i j.toNat)) (hP.1.1 _ _ _))
      · have road : ∀ (L : Nat) (xs : Nat → Int), va_X (G.2.2.1 t i) L (fun j => Int32.ofInt (xs j)) s s.heap → ¬ AA G (G.2.2.1 t i) → aln M t i = (L : Int) → (rdI M t i j.toNat = xs j.toNat) → inR (xs j.toNat) → W p l e R s m args below meth c H locs cells slots Q (F0 m pc ls ((vi j :: vr t i :: rest).map (cv G))) := by
          intro L xs hX hn hL hv hR
          rw [hL] at hg
          rw [hv] at kk
          obtain ⟨h1, h2⟩ := ar_ix hj hg
          refine va_sld hx hb hX (by obtain ⟨_, q, _⟩ := hX; exact (Array.getElem?_eq_some_iff.mp q).1) hn hP.2.2.2.2 h1 hd ?_
          rw [h2]
          exact kk _ _ _ (hP2.push (v := vi (xs j.toNat)) hR)
        obtain ⟨⟨a1, a2⟩, ⟨b1, b2⟩, ⟨c1, c2⟩, -⟩ := hRO
        rcases ak5 t ht hk with rfl | rfl | rfl
        · have hi0 : i = 0 := by have : i < 1 := hi; omega
          subst hi0
          exact road 3 _ b1 b2 rfl rfl (roI_R _ _ _)
        · have hi0 : i = 0 := by have : i < 1 := hi; omega
          subst hi0
          exact road 3 _ c1 c2 rfl rfl (roI_R _ _ _)
        · have hi0 : i = 0 := by have : i < 1 := hi; omega
          subst hi0
          refine road sc.1 sc.2 a1 a2 hP.1.2.2.1.1 ?_ ?_
          · show M.1 118 0 j.toNat = _
            exact hP.1.2.2.1.2 _
          · rw [← hP.1.2.2.1.2]; exact hP.1.1 _ _ _
    · cases hs
  · cases hs
theorem sd_bald (C : Cx G sc p l s m args meth c cc nL o) (hP : PT G sc s nL H locs ls lv st M) (hs : aldI (fun k => k == 3 || k == 6) lv st M = some (gs, rNx lv' st' M')) (hg : allP gs) (hd : decode cc pc = .ok (.baload, 1))
    (kk : GO p l e R s m args below meth c cells slots Q G sc nL (pc + 1) lv' st' M') : W p l e R s m args below meth c H locs cells slots Q (F0 m pc ls (st.map (cv G))) := by
  obtain ⟨hx, hb, -, -, -, hA, -, hAr, hRO, -⟩ := C
  unfold aldI at hs
  split at hs
  · next j t i rest =>
    split at hs
    · next hk =>
      simp only [Option.some.injEq, Prod.mk.injEq, Sum.inl.injEq] at hs
      obtain ⟨rfl, rfl, rfl, rfl⟩ := hs
      have hg : 0 ≤ j ∧ j < aln M t i := hg
      obtain ⟨hP1, hj⟩ := hP.pop
      obtain ⟨hP2, hr⟩ := hP1.pop
      simp only [Bool.or_eq_true, beq_iff_eq] at hk
      have ht : t < 120 := ak_lt (by omega)
      have hi : i < nI' t := ok_sys hr ht
      rcases hk with hk | hk
      · have hsys := ak_sys (Or.inr (Or.inr (Or.inl hk)))
        rw [aln_sys hsys] at hg
        rw [rdI_sys hsys] at kk
        have hc := ar_at hP hsys hi
        rw [cel_i hsys.1 (Or.inr hk)] at hc
        obtain ⟨h1, h2⟩ := ar_ix hj hg
        have ha := (hAr t hsys.1 hsys.2).1
        rw [eTyZ hk] at ha
        have hlt : (Int32.ofInt j).toNatClampNeg < asz t := Nat.not_le.mp fun q => h1 (Or.inr q)
        refine W.zald (v := .int (Int32.ofInt (M.1 t i j.toNat))) hx hb hc (ha (asz t) (fun k => .int (Int32.ofInt (M.1 t i k)))) (fun q => by cases q) (by show ¬ (_ ∨ (arrV _ _ _).slots.size ≤ _); rw [arrV_size]; exact h1) (by show (arrV _ _ _).slots[_]? = _; rw [arrV_read _ _ hlt, h2]) rfl rfl hd ?_
        exact kk _ _ _ (hP2.push (v := vi (M.1 t i j.toNat)) (hP.1.1 _ _ _))
      · obtain rfl := ak6 t ht hk
        have hi28 : i < 28 := hi
        obtain ⟨-, -, -, hT⟩ := hRO.2.2.2.2.1 i hi28
        have hl : aln M 119 i = ((strT.getD i []).length : Int) := rfl
        rw [hl] at hg
        obtain ⟨h1, h2⟩ := ar_ix hj hg
        refine va_tb hx hb hT hP.2.2.2.2 h1 (v := .int (Int32.ofInt ((strT.getD i []).getD j.toNat 0))) (by rw [h2]) hd ?_
        exact kk _ _ _ (hP2.push (v := vi (rdI M 119 i j.toNat)) (show inR (rdI M 119 i j.toNat) from roI_R 119 i j.toNat))
    · cases hs
  · cases hs
theorem sd_lald (C : Cx G sc p l s m args meth c cc nL o) (hP : PT G sc s nL H locs ls lv st M) (hs : aldL lv st M = some (gs, rNx lv' st' M')) (hg : allP gs) (hd : decode cc pc = .ok (.laload, 1))
    (kk : GO p l e R s m args below meth c cells slots Q G sc nL (pc + 1) lv' st' M') : W p l e R s m args below meth c H locs cells slots Q (F0 m pc ls (st.map (cv G))) := by
  obtain ⟨hx, hb, -, -, -, hA, -, hAr, hRO, -⟩ := C
  unfold aldL at hs
  split at hs
  · next j t i rest =>
    split at hs
    · next hk =>
      simp only [Option.some.injEq, Prod.mk.injEq, Sum.inl.injEq] at hs
      obtain ⟨rfl, rfl, rfl, rfl⟩ := hs
      have hg : 0 ≤ j ∧ j < aln M t i := hg
      obtain ⟨hP1, hj⟩ := hP.pop
      obtain ⟨hP2, hr⟩ := hP1.pop
      have ht : t < 120 := ak_lt (by omega)
      have hi : i < nI' t := ok_sys hr ht
      have hsys := ak_sys (Or.inr (Or.inl hk))
      rw [aln_sys hsys] at hg
      have hc := ar_at hP hsys hi
      rw [cel_l hsys.1 hk] at hc
      obtain ⟨h1, h2⟩ := ar_ix hj hg
      have ha := (hAr t hsys.1 hsys.2).1
      rw [eTyL hk] at ha
      have hlt : (Int32.ofInt j).toNatClampNeg < asz t := Nat.not_le.mp fun q => h1 (Or.inr q)
      refine W.lald (v := .long (M.2 t i j.toNat)) hx hb hc (ha (asz t) (fun k => .long (M.2 t i k))) (fun q => by cases q) (by show ¬ (_ ∨ (arrV _ _ _).slots.size ≤ _); rw [arrV_size]; exact h1) (by show (arrV _ _ _).slots[_]? = _; rw [arrV_read _ _ hlt, h2]) rfl rfl hd ?_
      exact kk _ _ _ (hP2.push (v := vl (M.2 t i j.toNat)) trivial)
    · cases hs
  · cases hs
theorem sd_aald (C : Cx G sc p l s m args meth c cc nL o) (hP : PT G sc s nL H locs ls lv st M) (hs : aldR lv st M = some (gs, rNx lv' st' M')) (hg : allP gs) (hd : decode cc pc = .ok (.aaload, 1))
    (kk : GO p l e R s m args below meth c cells slots Q G sc nL (pc + 1) lv' st' M') : W p l e R s m args below meth c H locs cells slots Q (F0 m pc ls (st.map (cv G))) := by
  obtain ⟨hx, hb, -, -, -, hA, -, hAr, hRO, -⟩ := C
  unfold aldR at hs
  split at hs
  · next j t i rest =>
    split at hs
    · next hk =>
      simp only [Option.some.injEq, Prod.mk.injEq, Sum.inl.injEq] at hs
      obtain ⟨rfl, rfl, rfl, rfl⟩ := hs
      have hg : 0 ≤ j ∧ j < aln M t i := hg
      obtain ⟨hP1, hj⟩ := hP.pop
      obtain ⟨hP2, hr⟩ := hP1.pop
      have ht : t < 120 := ak_lt (by omega)
      have hi : i < nI' t := ok_sys hr ht
      have hsys := ak_sys (Or.inr (Or.inr (Or.inr hk)))
      rw [aln_sys hsys] at hg
      have hc := ar_at hP hsys hi
      rw [cel_r hsys.1 hk] at hc
      obtain ⟨h1, h2⟩ := ar_ix hj hg
      have ha := (hAr t hsys.1 hsys.2).1
      have hlt : (Int32.ofInt j).toNatClampNeg < asz t := Nat.not_le.mp fun q => h1 (Or.inr q)
      have hj2 : j.toNat < asz t := by omega
      refine W.aald (v := .ref (adr G (pA t i j.toNat))) hx hb hc (ha (asz t) (fun k => va_rf (some (adr G (pA t i k))))) (eTyR hk) (fun q => by cases q) (by show ¬ (_ ∨ (arrV _ _ _).slots.size ≤ _); rw [arrV_size]; exact h1) (by show (arrV _ _ _).slots[_]? = _; rw [arrV_read _ _ hlt, h2]; rfl) rfl rfl hd ?_
      exact kk _ _ _ (hP2.push (v := vr (pA t i j.toNat).1 (pA t i j.toNat).2) (Or.inr (nI_pA ht hk hi hj2)))
    · cases hs
  · cases hs
end SD
