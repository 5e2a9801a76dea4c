/-! THE BUILDER IS SOUND: the world it speaks of, laid out in a heap -/
abbrev Gb (N0 : Nat) : Gx := ((fun _ => 0, fun _ _ => 0), fun _ => 0, fun _ i => N0 + i, N0)
def ov (N0 : Nat) : Option AV → Value
  | none => .null
  | some v => cv (Gb N0) v
def Ba (D : va_G) (K : FieldType → ClassId) (N0 : Nat) (q : Nat × BE) (H : Heap) : Prop := match q.2 with
  | .inl x => va_at D cls11 (N0 + q.1, .inr (x.1, x.2.map (ov N0))) H
  | .inr (.inl x) => x.2 ≠ [] ∧ Bk (defaultValue x.1) (Dms K x.1 x.2) (N0 + q.1) H
  | .inr (.inr xs) => va_at D cls11 (N0 + q.1, .inl (K (.object RX2), xs.length, .inr (.inr (.inr (.inr (fun j => (xs.getD j none).map (fun o => N0 + o))))))) H
def HB (D : va_G) (K : FieldType → ClassId) (N0 : Nat) (w : BW) (H : Heap) : Prop :=
  H.size = N0 + w.1 ∧ (∀ (k : Nat) (q : Nat × BE), w.2.2[k]? = some q → q.1 + bsz q.2 ≤ w.1 ∧ Ba D K N0 q H) ∧ ∀ (i j : Nat) (p q : Nat × BE), i < j → w.2.2[i]? = some p → w.2.2[j]? = some q → p.1 + bsz p.2 ≤ q.1
theorem Dms_S {K : FieldType → ClassId} {ty : FieldType} : ∀ ns : List Nat, gS (Dms K ty ns) = nS ns ∧ gL (Dms K ty ns) = nSl ns ∧ (Dms K ty ns).length = ns.length
  | [] => ⟨rfl, rfl, rfl⟩
  | n :: r => by
    obtain ⟨a, b, d⟩ := Dms_S (K := K) (ty := ty) r
    refine ⟨?_, ?_, ?_⟩
    · show 1 + n * gS (Dms K ty r) = 1 + n * nS r; rw [a]
    · show n + n * gL (Dms K ty r) = n + n * nSl r; rw [b]
    · show (Dms K ty r).length + 1 = r.length + 1; rw [d]
theorem Dms_ne {K : FieldType → ClassId} {ty : FieldType} {ns : List Nat} (h : ns ≠ []) : Dms K ty ns ≠ [] := by
  cases ns with
  | nil => exact absurd rfl h
  | cons n r => exact fun h => by cases h
theorem Ba.kept {D : va_G} {K : FieldType → ClassId} {N0 : Nat} {q : Nat × BE} {H H1 : Heap} (h : Ba D K N0 q H) (hk : ∀ a : Nat, N0 + q.1 ≤ a → a < N0 + q.1 + bsz q.2 → H1[a]? = H[a]?) : Ba D K N0 q H1 := by
  obtain ⟨o, x | x | x⟩ := q
  · exact va_at.kept (q := (N0 + o, .inr (x.1, x.2.map (ov N0)))) h (hk _ (Nat.le_refl _) (Nat.lt_succ_self _))
  · refine ⟨h.1, (gm_facts _ _ (Dms_ne h.1)).2 _ _ _ (fun a h1 h2 => hk a h1 ?_) h.2⟩
    rw [(Dms_S x.2).1] at h2
    exact h2
  · exact va_at.kept (D := D) (cl := cls11) (q := (N0 + o, .inl (K (.object RX2), x.length, .inr (.inr (.inr (.inr (fun j => (x.getD j none).map (fun o => N0 + o)))))))) h (hk _ (Nat.le_refl _) (Nat.lt_succ_self _))
theorem bsz_pos {D : va_G} {K : FieldType → ClassId} {N0 : Nat} {q : Nat × BE} {H : Heap} (h : Ba D K N0 q H) : 1 ≤ bsz q.2 := by
  obtain ⟨o, x | ⟨ty, ns⟩ | x⟩ := q
  · exact Nat.le_refl _
  · cases ns with
    | nil => exact absurd rfl h.1
    | cons n r => show 1 ≤ 1 + n * nS r; omega
  · exact Nat.le_refl _
theorem HB.push {D : va_G} {K : FieldType → ClassId} {N0 : Nat} {w : BW} {H H1 : Heap} {x : BE} {sl : Nat} (h : HB D K N0 w H) (hz : H1.size = H.size + bsz x) (ho : ∀ a : Nat, a < H.size → H1[a]? = H[a]?) (hx : Ba D K N0 (w.1, x) H1) : HB D K N0 (w.1 + bsz x, sl, w.2.2 ++ [(w.1, x)]) H1 := by
  obtain ⟨h1, h2, h3⟩ := h
  have at' : ∀ (k : Nat) (q : Nat × BE), (w.2.2 ++ [(w.1, x)])[k]? = some q → (k < w.2.2.length ∧ w.2.2[k]? = some q) ∨ (k = w.2.2.length ∧ q = (w.1, x)) := by
    intro k q hk
    by_cases hl : k < w.2.2.length
    · rw [List.getElem?_append_left hl] at hk; exact Or.inl ⟨hl, hk⟩
    · rw [List.getElem?_append_right (by omega)] at hk
      have h0 : k - w.2.2.length < 1 := (List.getElem?_eq_some_iff.mp hk).1
      have e0 : k - w.2.2.length = 0 := by omega
      rw [e0] at hk
      exact Or.inr ⟨by omega, (Option.some.inj hk).symm⟩
  refine ⟨by rw [hz, h1]; show N0 + w.1 + bsz x = N0 + (w.1 + bsz x); omega, fun k q hk => ?_, fun i j p q hij hi hj => ?_⟩
  · rcases at' k q hk with ⟨-, hq⟩ | ⟨-, rfl⟩
    · obtain ⟨a1, a2⟩ := h2 k q hq
      refine ⟨by show q.1 + bsz q.2 ≤ w.1 + bsz x; omega, a2.kept (fun a b1 b2 => ho a (by omega))⟩
    · exact ⟨Nat.le_refl _, hx⟩
  · rcases at' j q hj with ⟨hjl, hq⟩ | ⟨hjl, rfl⟩
    · rcases at' i p hi with ⟨-, hp⟩ | ⟨hil, -⟩
      · exact h3 i j p q hij hp hq
      · omega
    · rcases at' i p hi with ⟨-, hp⟩ | ⟨hil, -⟩
      · exact (h2 i p hp).1
      · omega
theorem HB.set {D : va_G} {K : FieldType → ClassId} {N0 : Nat} {w : BW} {H H1 : Heap} {k o : Nat} {x0 x : BE} (h : HB D K N0 w H) (hk : w.2.2[k]? = some (o, x0)) (e0 : bsz x0 = 1) (e1 : bsz x = 1) (hx : Ba D K N0 (o, x) H1) (hz : H1.size = H.size) (ho : ∀ a : Nat, a ≠ N0 + o → H1[a]? = H[a]?) : HB D K N0 (w.1, w.2.1, w.2.2.set k (o, x)) H1 := by
  obtain ⟨h1, h2, h3⟩ := h
  have hl : k < w.2.2.length := (List.getElem?_eq_some_iff.mp hk).1
  have at' : ∀ (j : Nat) (q : Nat × BE), (w.2.2.set k (o, x))[j]? = some q → (j ≠ k ∧ w.2.2[j]? = some q) ∨ (j = k ∧ q = (o, x)) := by
    intro j q hj
    by_cases e : j = k
    · subst e
      rw [List.getElem?_set_self hl] at hj
      exact Or.inr ⟨rfl, (Option.some.inj hj).symm⟩
    · rw [List.getElem?_set_ne (Ne.symm e)] at hj
      exact Or.inl ⟨e, hj⟩
  refine ⟨by rw [hz]; exact h1, fun j q hj => ?_, fun i j p q hij hi hj => ?_⟩
  · rcases at' j q hj with ⟨hne, hq⟩ | ⟨-, rfl⟩
    · obtain ⟨a1, a2⟩ := h2 j q hq
      refine ⟨a1, a2.kept (fun a b1 b2 => ho a (fun e => ?_))⟩
      rcases Nat.lt_or_gt_of_ne hne with g | g
      · have := h3 j k q (o, x0) g hq hk
        dsimp only at this
        omega
      · have := h3 k j (o, x0) q g hk hq
        dsimp only at this
        rw [e0] at this
        omega
    · have := (h2 k _ hk).1
      dsimp only at this
      rw [e0] at this
      exact ⟨by show o + bsz x ≤ w.1; rw [e1]; exact this, hx⟩
  · rcases at' i p hi with ⟨hi1, hp⟩ | ⟨hi1, rfl⟩
    · rcases at' j q hj with ⟨hj1, hq⟩ | ⟨hj1, rfl⟩
      · exact h3 i j p q hij hp hq
      · subst hj1; exact (h3 i j p (o, x0) hij hp hk : p.1 + bsz p.2 ≤ o)
    · rcases at' j q hj with ⟨hj1, hq⟩ | ⟨hj1, rfl⟩
      · subst hi1
        have := h3 i j _ q hij hk hq
        dsimp only at this ⊢
        rw [e1]; rw [e0] at this; exact this
      · omega
theorem bfind_at {o : Nat} : ∀ {es : List (Nat × BE)} {k : Nat} {x : BE}, bfind o es = some (k, x) → es[k]? = some (o, x)
  | [], _, _, h => by cases h
  | (a, y) :: r, k, x, h => by
    unfold bfind at h
    by_cases e : a = o
    · rw [if_pos e] at h
      cases h
      rw [e]; rfl
    · rw [if_neg e] at h
      cases hb : bfind o r with
      | none => rw [hb] at h; cases h
      | some q =>
        rw [hb] at h
        cases h
        exact bfind_at (k := q.1) (x := q.2) hb
/-- what stays while a constructor runs -/
def KOK (K : FieldType → ClassId) (U : State) : Prop :=
  (∀ t : Nat, 20 ≤ t → t < 116 → ArrOfT U (K (eTy t)) (eTy t) ∧ va_RA U (K (eTy t)) (eTy t)) ∧ va_AO RX2 U ∧ (∀ b : Nat, b < 3 → ∃ k cc, U.vm.classes[K (bty b)]? = some k ∧ k.kind = .array cc (bty b)) ∧
  ∀ b j : Nat, b < 3 → j < 3 → (b = 2 → j = 0) → ∃ k, U.vm.classes[K (arrN (bty b) (j + 1))]? = some k ∧ k.kind = .array (K (arrN (bty b) j)) (arrN (bty b) (j + 1))
theorem KOK.moved {K : FieldType → ClassId} {u U : State} (hvm : u.vm.Alike U.vm) (h : KOK K u) : KOK K U := by
  obtain ⟨h1, h2, h3, h4⟩ := h
  refine ⟨fun t a b => ⟨arrOfT_moved hvm (h1 t a b).1, (h1 t a b).2.moved hvm⟩, h2.moved hvm, fun b hb => ?_, fun b j hb hj hz => ?_⟩
  · obtain ⟨k, cc, q1, q2⟩ := h3 b hb
    obtain ⟨k', g1, g2⟩ := hvm.2.2 _ _ q1
    exact ⟨k', cc, g1, by rw [g2]; exact q2⟩
  · obtain ⟨k, q1, q2⟩ := h4 b j hb hj hz
    obtain ⟨k', g1, g2⟩ := hvm.2.2 _ _ q1
    exact ⟨k', g1, by rw [g2]; exact q2⟩
theorem KOK.chain {K : FieldType → ClassId} {U : State} (h : KOK K U) {b : Nat} (hb : b < 3) : ∀ ns : List Nat, ns ≠ [] → ns.length ≤ 4 → (b = 2 → ns.length ≤ 2) → AKc U (Dms K (bty b) ns) (bty b)
  | [], h0, _, _ => absurd rfl h0
  | [n], _, _, _ => h.2.2.1 b hb
  | n :: n2 :: r, _, hl, hz => by
    have hl' : r.length + 2 ≤ 4 := by simpa using hl
    have hz' : b = 2 → r.length + 2 ≤ 2 := fun e => by simpa using hz e
    obtain ⟨k, q1, q2⟩ := h.2.2.2 b r.length hb (by omega) (fun e => by have := hz' e; omega)
    exact ⟨⟨k, _, q1, q2, rfl⟩, KOK.chain h hb (n2 :: r) (by simp) (by simp; omega) (fun e => by have := hz' e; simp; omega)⟩
def NwA (U : State) : Prop := ∀ w ∈ lw_tbl, nwk w = true → va_Nw w U
def BCx (D : va_G) (K : FieldType → ClassId) (N0 : Nat) (p : Program) (s : State) (m : MethodId) (args : Array Value) (meth : Method) (c : Code) (cc : ByteArray) (nL o : Nat) : Prop :=
  p.tables.exec = Jvm.exec ∧ c.code = cc ∧ c.maxLocals = nL ∧ s.vm.findClass (own' o) = some m.cls ∧ (∀ w ∈ gtbl, w.before args s = true) ∧ va_K D cls11 [] s ∧ KOK K s ∧ NwA s ∧ meth.locks = false ∧ (o = 15 ∨ meth.name = "<init>") ∧ N0 ≤ s.heap.size
def BPT (D : va_G) (K : FieldType → ClassId) (N0 : Nat) (s : State) (nL : Nat) (H : Heap) (locs : List Loc) (ls : Array Slot) (lv : List AV) (w : BW) : Prop :=
  HB D K N0 w H ∧ LV (Gb N0) ls nL lv ∧ va_S (fun q => N0 ≤ q) s.heap H locs
def BGO (p : Program) (l : Launch) (e : Env) (R : Room) (s : State) (m : MethodId) (args : Array Value) (below : List Frame) (meth : Method) (c : Code) (cells slots : Nat) (Q : State → Prop) (D : va_G) (K : FieldType → ClassId) (N0 : Nat) (nL n : Nat) (lv st : List AV) (w : BW) : Prop :=
  ∀ (H : Heap) (locs : List Loc) (ls : Array Slot), BPT D K N0 s nL H locs ls lv w → W p l e R s m args below meth c H locs cells slots Q (F0 m n ls (st.map (cv (Gb N0))))
