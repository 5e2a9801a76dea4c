/-! STRAIGHT STEPS: locals, numbers, the stack -/
section SD
variable {p : Program} {l : Launch} {e : Env} {R : Room} {s : State} {m : MethodId} {args : Array Value} {below : List Frame} {meth : Method} {c : Code} {H : Heap} {locs : List Loc} {cells slots : Nat} {Q : State → Prop}
variable {G : Gx} {sc : Nat × (Nat → Int)} {cc : ByteArray} {nL o pc : Nat} {ls : Array Slot} {lv st lv' st' : List AV} {M M' : Mem} {gs : List Prop}
theorem PT.store {i : Nat} {v : AV} {ls' : Array Slot} (hP : PT G sc s nL H locs ls lv (v :: st) M) (hi : i < nL)
    (h : lv_has ls' nL ((i, cv G v) :: (lp G lv).filter (fun q => !(q.1 == i) && !(q.1 + 1 == i && q.2.category == 2)))) : PT G sc s nL H locs ls' (stv lv i v) st M :=
  ⟨hP.1, LV.st1 hP.2.1.2 hi h, okL_stv hP.2.2.1 hP.pop.2, hP.pop.1.2.2.2.1, hP.2.2.2.2⟩
theorem PT.store2 {i : Nat} {v : AV} {ls' : Array Slot} (hP : PT G sc s nL H locs ls lv (v :: st) M) (hi : i + 1 < nL)
    (h : lv_has ls' nL ((i, cv G v) :: (lp G lv).filter (fun q => !(q.1 == i) && (!(q.1 == i + 1) && !(q.1 + 1 == i && q.2.category == 2))))) : PT G sc s nL H locs ls' (stw lv i v) st M :=
  ⟨hP.1, LV.st2 hP.2.1.2 hi h, okL_stw hP.2.2.1 hP.pop.2, hP.pop.1.2.2.2.1, hP.2.2.2.2⟩
theorem sd_stI {i n : Nat} (hi : i < nL) (hP : PT G sc s nL H locs ls lv st M) (hs : stI lv i st M = some (gs, rNx lv' st' M'))
    (row : ∀ (x : Int32) (rest : List Value), (∀ ls' : Array Slot, lv_has ls' nL ((i, Value.int x) :: (lp G lv).filter (fun q => !(q.1 == i) && !(q.1 + 1 == i && q.2.category == 2))) → W p l e R s m args below meth c H locs cells slots Q (F0 m n ls' rest)) → W p l e R s m args below meth c H locs cells slots Q (F0 m pc ls (.int x :: rest)))
    (kk : GO p l e R s m args below meth c cells slots Q G sc nL n lv' st' M') : W p l e R s m args below meth c H locs cells slots Q (F0 m pc ls (st.map (cv G))) := by
  unfold stI at hs
  split at hs
  · next x r =>
    simp only [Option.some.injEq, Prod.mk.injEq, Sum.inl.injEq] at hs
    obtain ⟨-, rfl, rfl, rfl⟩ := hs
    exact row _ _ fun ls' h => kk _ _ _ (hP.store hi h)
  · cases hs
theorem sd_stR {i n : Nat} (hi : i < nL) (hP : PT G sc s nL H locs ls lv st M) (hs : stR lv i st M = some (gs, rNx lv' st' M'))
    (row : ∀ (x : Nat) (rest : List Value), (∀ ls' : Array Slot, lv_has ls' nL ((i, Value.ref x) :: (lp G lv).filter (fun q => !(q.1 == i) && !(q.1 + 1 == i && q.2.category == 2))) → W p l e R s m args below meth c H locs cells slots Q (F0 m n ls' rest)) → W p l e R s m args below meth c H locs cells slots Q (F0 m pc ls (.ref x :: rest)))
    (kk : GO p l e R s m args below meth c cells slots Q G sc nL n lv' st' M') : W p l e R s m args below meth c H locs cells slots Q (F0 m pc ls (st.map (cv G))) := by
  unfold stR at hs
  split at hs
  · next t k r =>
    simp only [Option.some.injEq, Prod.mk.injEq, Sum.inl.injEq] at hs
    obtain ⟨-, rfl, rfl, rfl⟩ := hs
    exact row _ _ fun ls' h => kk _ _ _ (hP.store hi h)
  · cases hs
theorem sd_stL {i n : Nat} (hi : i + 1 < nL) (hP : PT G sc s nL H locs ls lv st M) (hs : stL lv i st M = some (gs, rNx lv' st' M'))
    (row : ∀ (x : Int64) (rest : List Value), (∀ ls' : Array Slot, lv_has ls' nL ((i, Value.long x) :: (lp G lv).filter (fun q => !(q.1 == i) && (!(q.1 == i + 1) && !(q.1 + 1 == i && q.2.category == 2)))) → W p l e R s m args below meth c H locs cells slots Q (F0 m n ls' rest)) → W p l e R s m args below meth c H locs cells slots Q (F0 m pc ls (.long x :: rest)))
    (kk : GO p l e R s m args below meth c cells slots Q G sc nL n lv' st' M') : W p l e R s m args below meth c H locs cells slots Q (F0 m pc ls (st.map (cv G))) := by
  unfold stL at hs
  split at hs
  · next x r =>
    simp only [Option.some.injEq, Prod.mk.injEq, Sum.inl.injEq] at hs
    obtain ⟨-, rfl, rfl, rfl⟩ := hs
    exact row _ _ fun ls' h => kk _ _ _ (hP.store2 hi h)
  · cases hs
theorem sd_bnI {f : Int → Int → Int} {g : Int32 → Int32 → Int32} {n : Nat} (hf : ∀ x y, inR x → inR y → Int32.ofInt (f x y) = g (Int32.ofInt x) (Int32.ofInt y) ∧ inR (f x y)) (hP : PT G sc s nL H locs ls lv st M) (hs : bnI f lv st M = some (gs, rNx lv' st' M'))
    (row : ∀ (x y : Int32) (rest : List Value), W p l e R s m args below meth c H locs cells slots Q (F0 m n ls (.int (g x y) :: rest)) → W p l e R s m args below meth c H locs cells slots Q (F0 m pc ls (.int y :: .int x :: rest)))
    (kk : GO p l e R s m args below meth c cells slots Q G sc nL n lv' st' M') : W p l e R s m args below meth c H locs cells slots Q (F0 m pc ls (st.map (cv G))) := by
  unfold bnI at hs
  split at hs
  · next y x r =>
    simp only [Option.some.injEq, Prod.mk.injEq, Sum.inl.injEq] at hs
    obtain ⟨-, rfl, rfl, rfl⟩ := hs
    obtain ⟨h1, hy⟩ := hP.pop
    obtain ⟨h2, hx⟩ := h1.pop
    obtain ⟨q1, q2⟩ := hf x y hx hy
    refine row _ _ _ ?_
    rw [← q1]
    exact kk _ _ _ (h2.push (v := vi (f x y)) q2)
  · cases hs
theorem sd_bnL {f : Int64 → Int64 → Int64} {n : Nat} (hP : PT G sc s nL H locs ls lv st M) (hs : bnL f lv st M = some (gs, rNx lv' st' M'))
    (row : ∀ (x y : Int64) (rest : List Value), W p l e R s m args below meth c H locs cells slots Q (F0 m n ls (.long (f x y) :: rest)) → W p l e R s m args below meth c H locs cells slots Q (F0 m pc ls (.long y :: .long x :: rest)))
    (kk : GO p l e R s m args below meth c cells slots Q G sc nL n lv' st' M') : W p l e R s m args below meth c H locs cells slots Q (F0 m pc ls (st.map (cv G))) := by
  unfold bnL at hs
  split at hs
  · next y x r =>
    simp only [Option.some.injEq, Prod.mk.injEq, Sum.inl.injEq] at hs
    obtain ⟨-, rfl, rfl, rfl⟩ := hs
    exact row _ _ _ (kk _ _ _ (hP.pop.1.pop.1.push (v := vl (f x y)) trivial))
  · cases hs
theorem sd_shL {f : Int64 → Int → Int64} {g : Int64 → Int32 → Int64} {n : Nat} (hf : ∀ x y, f x y = g x (Int32.ofInt y)) (hP : PT G sc s nL H locs ls lv st M) (hs : shL f lv st M = some (gs, rNx lv' st' M'))
    (row : ∀ (x : Int64) (y : Int32) (rest : List Value), W p l e R s m args below meth c H locs cells slots Q (F0 m n ls (.long (g x y) :: rest)) → W p l e R s m args below meth c H locs cells slots Q (F0 m pc ls (.int y :: .long x :: rest)))
    (kk : GO p l e R s m args below meth c cells slots Q G sc nL n lv' st' M') : W p l e R s m args below meth c H locs cells slots Q (F0 m pc ls (st.map (cv G))) := by
  unfold shL at hs
  split at hs
  · next y x r =>
    simp only [Option.some.injEq, Prod.mk.injEq, Sum.inl.injEq] at hs
    obtain ⟨-, rfl, rfl, rfl⟩ := hs
    refine row _ _ _ ?_
    rw [← hf]
    exact kk _ _ _ (hP.pop.1.pop.1.push (v := vl (f x y)) trivial)
  · cases hs
theorem hf_add : ∀ x y, inR x → inR y → Int32.ofInt (w32 (x + y)) = Int32.ofInt x + Int32.ofInt y ∧ inR (w32 (x + y)) := fun x y _ _ => ⟨(ar_add x y).symm, w32_R _⟩
theorem hf_sub : ∀ x y, inR x → inR y → Int32.ofInt (w32 (x - y)) = Int32.ofInt x - Int32.ofInt y ∧ inR (w32 (x - y)) := fun x y _ _ => ⟨(ar_sub x y).symm, w32_R _⟩
theorem hf_mul : ∀ x y, inR x → inR y → Int32.ofInt (w32 (x * y)) = Int32.ofInt x * Int32.ofInt y ∧ inR (w32 (x * y)) := fun x y _ _ => ⟨(ar_mul x y).symm, w32_R _⟩
theorem hf_and : ∀ x y, inR x → inR y → Int32.ofInt (band x y) = Int32.ofInt x &&& Int32.ofInt y ∧ inR (band x y) := fun x y _ _ => ⟨ofInt_toInt32 _, inR_toInt _⟩
theorem hf_or : ∀ x y, inR x → inR y → Int32.ofInt (bor x y) = Int32.ofInt x ||| Int32.ofInt y ∧ inR (bor x y) := fun x y _ _ => ⟨ofInt_toInt32 _, inR_toInt _⟩
theorem hf_xor : ∀ x y, inR x → inR y → Int32.ofInt (bxor x y) = Int32.ofInt x ^^^ Int32.ofInt y ∧ inR (bxor x y) := fun x y _ _ => ⟨ofInt_toInt32 _, inR_toInt _⟩
theorem hf_shl : ∀ x y, inR x → inR y → Int32.ofInt (bshl x y) = Int32.ofInt x <<< (Int32.ofInt y &&& 31) ∧ inR (bshl x y) := fun x y _ _ => ⟨ofInt_toInt32 _, inR_toInt _⟩
theorem hf_shr : ∀ x y, inR x → inR y → Int32.ofInt (bshr x y) = Int32.ofInt x >>> (Int32.ofInt y &&& 31) ∧ inR (bshr x y) := fun x y _ _ => ⟨ofInt_toInt32 _, inR_toInt _⟩
theorem hf_ushr : ∀ x y, inR x → inR y → Int32.ofInt (bushr x y) = ((Int32.ofInt x).toUInt32 >>> ((Int32.ofInt y).toUInt32 &&& Int32.toUInt32 31)).toInt32 ∧ inR (bushr x y) := fun x y _ _ => ⟨ofInt_toInt32 _, inR_toInt _⟩
theorem sd_const {n : Nat} {x : Int} {v : Int32} (hv : Int32.ofInt x = v) (hx : inR x) (hP : PT G sc s nL H locs ls lv st M) (kk : GO p l e R s m args below meth c cells slots Q G sc nL n lv (vi x :: st) M) : W p l e R s m args below meth c H locs cells slots Q (F0 m n ls (.int v :: st.map (cv G))) := by
  subst hv
  exact kk _ _ _ (hP.push (v := vi x) hx)
theorem sd_iinc {i n : Nat} {k : Int} (hP : PT G sc s nL H locs ls lv st M) (hs : (match lv[i]? with | some (.inl x) => some (([] : List Prop), rNx (stv lv i (vi (w32 (x + k)))) st M) | _ => none) = some (gs, rNx lv' st' M')) (hx : p.tables.exec = Jvm.exec) (hb : c.code = cc) (hd : decode cc pc = .ok (.iinc i k, 3))
    (kk : GO p l e R s m args below meth c cells slots Q G sc nL (pc + 3) lv' st' M') : W p l e R s m args below meth c H locs cells slots Q (F0 m pc ls (st.map (cv G))) := by
  split at hs
  · next x hl =>
    simp only [Option.some.injEq, Prod.mk.injEq, Sum.inl.injEq] at hs
    obtain ⟨-, rfl, rfl, rfl⟩ := hs
    have hi : i < nL := by
      have := (List.getElem?_eq_some_iff.mp hl).1
      have := hP.2.1.2
      omega
    obtain ⟨kx, hk⟩ := List.getElem?_of_mem (mem_lp (G := G).mpr ⟨_, hl, (by intro h; cases h), rfl⟩)
    refine lv_iinc hx hb hd hP.2.1.1 hk (v := Int32.ofInt (w32 (x + k))) (by rw [of_w32, Int32.ofInt_add]) hi rfl fun ls' h => ?_
    exact kk _ _ _ ((hP.push (v := vi (w32 (x + k))) (w32_R _)).store hi h)
  · cases hs
end SD
