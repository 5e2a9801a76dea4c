/-! THE CONTEXT OF A BODY: what stays while a method runs -/
abbrev AA (G : Gx) : Nat → Prop := fun q => G.2.2.2 ≤ q
/-- what lies below the system's own cells: the script, static rows, texts, and words that a link may wait for -/
def RO (G : Gx) (sc : Nat × (Nat → Int)) (U : State) (H : Heap) : Prop :=
  (va_X (G.2.2.1 118 0) sc.1 (fun j => Int32.ofInt (sc.2 j)) U H ∧ ¬ AA G (G.2.2.1 118 0)) ∧
  (va_X (G.2.2.1 116 0) 3 (fun j => Int32.ofInt (roI 116 0 j)) U H ∧ ¬ AA G (G.2.2.1 116 0)) ∧
  (va_X (G.2.2.1 117 0) 3 (fun j => Int32.ofInt (roI 117 0 j)) U H ∧ ¬ AA G (G.2.2.1 117 0)) ∧
  (va_Z "PatentRaces" "STATE_UNIT" "[I" (.ref (G.2.2.1 116 0)) (AA G) U H ∧ va_Z "PatentRaces" "ROW_UNIT" "[I" (.ref (G.2.2.1 117 0)) (AA G) U H ∧ va_Z "java/lang/String" "COMPACT_STRINGS" "Z" (.int 1) (AA G) U H) ∧
  (∀ i : Nat, i < 28 → va_O "java/lang/String" (G.2.2.1 11 i) (AA G) U H ∧ va_OF "java/lang/String" "coder" "B" (.int 0) (G.2.2.1 11 i) (AA G) U H ∧ va_OF "java/lang/String" "value" "[B" (.ref (G.2.2.1 119 i)) (G.2.2.1 11 i) (AA G) U H ∧ va_T .byte (G.2.2.1 119 i) (strT.getD i []).length (fun j => .int (Int32.ofInt ((strT.getD i []).getD j 0))) (AA G) U H) ∧
  (∀ o k i : Nat, i < 28 → Cond.stringRef (own' o) k (strN.getD i "") ∈ lw_tbl → vk_R (own' o) k (strN.getD i "") (G.2.2.1 11 i) U) ∧
  (vx_Zq Bundle.tN "UNASSIGNED_STACK" Bundle.steD (AA G) U H ∧ vx_Zq Bundle.tN "SUPPRESSED_SENTINEL" Bundle.listD (AA G) U H) ∧
  (va_Zq "jdk/internal/util/Preconditions" "SIOOBE_FORMATTER" "Ljava/util/function/BiFunction;" (AA G) U H) ∧
  (∀ w ∈ lw_tbl, nwk w = true → va_Nw w U) ∧
  (∀ a b : String, a ∈ ["java/lang/IllegalStateException", "java/util/NoSuchElementException", "java/lang/IllegalArgumentException"] → b ∈ ["java/lang/IllegalStateException", "java/util/NoSuchElementException", "java/lang/IllegalArgumentException"] → a ≠ b → va_Nc a b U)
theorem nw_warm {w : Cond} {s U : State} (hk : nwk w = true) (hW : s.WarmedH U.vm) (h : va_Nw w s) : va_Nw w U := by
  cases w with
  | methodLinkNest a b c d => exact va_Nw.warmM hW h
  | fieldLinkNest a b c d e f => exact va_Nw.warmF hW h
  | declares x => exact va_Nw.warmD hW h
  | castable a b => exact va_Nw.warmC hW h
  | _ => simp [nwk] at hk
theorem RO.warm {G : Gx} {sc : Nat × (Nat → Int)} {s U : State} {H H1 : Heap} (h : RO G sc s H) (hW : s.WarmedH U.vm) (hq : ∀ a : Nat, a < H.size → ¬ AA G a → H1[a]? = H[a]?) : RO G sc U H1 := by
  obtain ⟨⟨a1, a2⟩, ⟨b1, b2⟩, ⟨c1, c2⟩, ⟨d1, d2, d3⟩, e1, f1, ⟨g1, g2⟩, i1, j1, k1⟩ := h
  have lt : ∀ {b L : Nat} {xs : Nat → Int32}, va_X b L xs s H → b < H.size := fun ⟨_, h, _⟩ => (Array.getElem?_eq_some_iff.mp h).1
  refine ⟨⟨va_X.moved hW.alike (a1.kept (hq _ (lt a1) a2)), a2⟩, ⟨va_X.moved hW.alike (b1.kept (hq _ (lt b1) b2)), b2⟩, ⟨va_X.moved hW.alike (c1.kept (hq _ (lt c1) c2)), c2⟩,
    ⟨va_Z.moved hW.alike (d1.kept hq), va_Z.moved hW.alike (d2.kept hq), va_Z.moved hW.alike (d3.kept hq)⟩, fun i hi => ?_, fun o k i hi hm => vk_R.warm hW (f1 o k i hi hm), ⟨vx_Zq.moved hW.alike (g1.kept hq), vx_Zq.moved hW.alike (g2.kept hq)⟩,
    va_Zq.moved hW.alike (i1.kept hq), fun w hw hk => nw_warm hk hW (j1 w hw hk), fun a b ha hb hn => va_Nc.moved hW.alike (k1 a b ha hb hn)⟩
  obtain ⟨e1, e2, e3, e4⟩ := e1 i hi
  exact ⟨va_O.moved hW.alike (e1.kept hq), va_OF.moved hW.alike (e2.kept hq), va_OF.moved hW.alike (e3.kept hq), va_T.moved hW.alike (e4.kept hq)⟩
def ArK (G : Gx) (U : State) : Prop := ∀ t : Nat, 20 ≤ t → t < 116 → ArrOfT U (G.2.1 t) (eTy t) ∧ va_RA U (G.2.1 t) (eTy t)
def Cx (G : Gx) (sc : Nat × (Nat → Int)) (p : Program) (l : Launch) (s : State) (m : MethodId) (args : Array Value) (meth : Method) (c : Code) (cc : ByteArray) (nL o : Nat) : Prop :=
  p.tables.exec = Jvm.exec ∧ c.code = cc ∧ c.maxLocals = nL ∧ s.vm.findClass (own' o) = some m.cls ∧ (∀ w ∈ gtbl, w.before args s = true) ∧ AOK G ∧ va_K G.1 cls11 [] s ∧ ArK G s ∧ RO G sc s s.heap ∧ meth.locks = false ∧ l.stackTraces = false
/-- at a point of the body: the memory laid out, the locals, all values in their ranges, nothing old written -/
def PT (G : Gx) (sc : Nat × (Nat → Int)) (s : State) (nL : Nat) (H : Heap) (locs : List Loc) (ls : Array Slot) (lv st : List AV) (M : Mem) : Prop :=
  Wm G sc M H ∧ LV G ls nL lv ∧ okL lv ∧ okL st ∧ va_S (AA G) s.heap H locs
def GO (p : Program) (l : Launch) (e : Env) (R : Room) (s : State) (m : MethodId) (args : Array Value) (below : List Frame) (meth : Method) (c : Code) (cells slots : Nat) (Q : State → Prop) (G : Gx) (sc : Nat × (Nat → Int)) (nL n : Nat) (lv st : List AV) (M : Mem) : Prop :=
  ∀ (H : Heap) (locs : List Loc) (ls : Array Slot), PT G sc s nL H locs ls lv st M → W p l e R s m args below meth c H locs cells slots Q (F0 m n ls (st.map (cv G)))
section SD
variable {p : Program} {l : Launch} {e : Env} {R : Room} {s : State} {m : MethodId} {args : Array Value} {below : List Frame} {meth : Method} {c : Code} {H : Heap} {locs : List Loc} {cells slots : Nat} {Q : State → Prop}
variable {G : Gx} {sc : Nat × (Nat → Int)} {cc : ByteArray} {nL o pc : Nat} {ls : Array Slot} {lv st lv' st' : List AV} {M M' : Mem} {gs : List Prop}
theorem PT.push {v : AV} (h : PT G sc s nL H locs ls lv st M) (hv : okV v) : PT G sc s nL H locs ls lv (v :: st) M := ⟨h.1, h.2.1, h.2.2.1, okL_cons.mpr ⟨hv, h.2.2.2.1⟩, h.2.2.2.2⟩
theorem PT.pop {v : AV} (h : PT G sc s nL H locs ls lv (v :: st) M) : PT G sc s nL H locs ls lv st M ∧ okV v := ⟨⟨h.1, h.2.1, h.2.2.1, (okL_cons.mp h.2.2.2.1).2, h.2.2.2.2⟩, (okL_cons.mp h.2.2.2.1).1⟩
theorem sd_ldI {i n : Nat} {ins : Instr} (hP : PT G sc s nL H locs ls lv st M) (hs : ldI lv i st M = some (gs, rNx lv' st' M'))
    (row : ∀ x : Int32, ls[i]? = some (.val (.int x)) → W p l e R s m args below meth c H locs cells slots Q (F0 m n ls (.int x :: st.map (cv G))) → W p l e R s m args below meth c H locs cells slots Q (F0 m pc ls (st.map (cv G))))
    (kk : GO p l e R s m args below meth c cells slots Q G sc nL n lv' st' M') : W p l e R s m args below meth c H locs cells slots Q (F0 m pc ls (st.map (cv G))) := by
  unfold ldI at hs
  split at hs
  · next x hx =>
    simp only [Option.some.injEq, Prod.mk.injEq, Sum.inl.injEq] at hs
    obtain ⟨-, rfl, rfl, rfl⟩ := hs
    exact row _ (hP.2.1.get hx (by intro h; cases h)) (kk _ _ _ (hP.push (okL_at hP.2.2.1 hx)))
  · cases hs
theorem sd_ldL {i n : Nat} {ins : Instr} (hP : PT G sc s nL H locs ls lv st M) (hs : ldL lv i st M = some (gs, rNx lv' st' M'))
    (row : ∀ x : Int64, ls[i]? = some (.val (.long x)) → W p l e R s m args below meth c H locs cells slots Q (F0 m n ls (.long x :: st.map (cv G))) → W p l e R s m args below meth c H locs cells slots Q (F0 m pc ls (st.map (cv G))))
    (kk : GO p l e R s m args below meth c cells slots Q G sc nL n lv' st' M') : W p l e R s m args below meth c H locs cells slots Q (F0 m pc ls (st.map (cv G))) := by
  unfold ldL at hs
  split at hs
  · next x hx =>
    simp only [Option.some.injEq, Prod.mk.injEq, Sum.inl.injEq] at hs
    obtain ⟨-, rfl, rfl, rfl⟩ := hs
    exact row _ (hP.2.1.get hx (by intro h; cases h)) (kk _ _ _ (hP.push (okL_at hP.2.2.1 hx)))
  · cases hs
theorem sd_ldR {i n : Nat} {ins : Instr} (hP : PT G sc s nL H locs ls lv st M) (hs : ldR lv i st M = some (gs, rNx lv' st' M'))
    (row : ∀ x : Nat, ls[i]? = some (.val (.ref x)) → W p l e R s m args below meth c H locs cells slots Q (F0 m n ls (.ref x :: st.map (cv G))) → W p l e R s m args below meth c H locs cells slots Q (F0 m pc ls (st.map (cv G))))
    (kk : GO p l e R s m args below meth c cells slots Q G sc nL n lv' st' M') : W p l e R s m args below meth c H locs cells slots Q (F0 m pc ls (st.map (cv G))) := by
  unfold ldR at hs
  split at hs
  · next t k hx =>
    by_cases ht : t = 1000
    · simp [ht] at hs
    · rw [if_neg ht] at hs
      simp only [Option.some.injEq, Prod.mk.injEq, Sum.inl.injEq] at hs
      obtain ⟨-, rfl, rfl, rfl⟩ := hs
      exact row _ (hP.2.1.get hx (by intro h; simp only [Sum.inr.injEq, Prod.mk.injEq] at h; exact ht h.1)) (kk _ _ _ (hP.push (okL_at hP.2.2.1 hx)))
  · cases hs
end SD
