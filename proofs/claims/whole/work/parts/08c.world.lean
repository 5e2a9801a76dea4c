/-! THE WORLD: the typed memory laid out in a heap -/
abbrev cls11 : List vw_C := [(RX0, TX0, 8), (RX1, TX1, 9), (RX2, TX2, 4), (RX3, TX3, 4), (RX4, TX4, 14), (RX5, TX5, 10), (RX6, TX6, 4), (RX7, TX7, 6), (RX8, TX8, 9), (RX9, TX9, 15), (RX10, TX10, 73)]
/-- kinds of fields: 0 int, 1 long, 2 a reference that stays, 3 the one that moves, 4 boolean -/
def ftT : List (List Nat) := [[2, 2, 0, 2, 2, 2, 2, 2], [2, 1, 1, 1, 0, 0, 0, 0, 2], [2, 2, 2, 0], [2, 2, 2, 2], [0, 0, 0, 0, 0, 0, 0, 0, 2, 2, 2, 2, 2, 2], [2, 0, 0, 2, 2, 2, 3, 0, 0, 0], [2, 0, 2, 0], [2, 2, 2, 2, 2, 0], [2, 2, 2, 2, 2, 2, 2, 2, 0], [2, 0, 2, 2, 0, 2, 2, 4, 2, 2, 2, 2, 2, 0, 0], [0, 0, 0, 0, 0, 0, 0, 0, 0, 2, 2, 0, 0, 0, 0, 0, 0, 0, 0, 0, 0, 2, 2, 2, 2, 0, 0, 0, 0, 0, 0, 0, 0, 0, 2, 2, 2, 2, 0, 0, 0, 2, 2, 2, 4, 2, 2, 2, 2, 2, 2, 2, 2, 2, 0, 0, 2, 2, 2, 2, 2, 1, 1, 1, 2, 2, 2, 2, 2, 2, 2, 2, 2]]
abbrev fty (t j : Nat) : Nat := (ftT.getD t []).getD j 0
abbrev nfl (t : Nat) : Nat := (ftT.getD t []).length
def etT : List FieldType := [.int, .int, .int, .int, .int, .int, .int, .int, .int, .int, .int, .int, .int, .int, .int, .int, .int, .int, .int, .int, .int, .long, .long, .long, .long, .long, .long, .int, .int, .long, .long, .int, .int, .int, .int, .int, .int, .boolean, .boolean, .int, .int, .int, .long, .int, .long, .long, .boolean, .int, .int, .int, .long, .int, .boolean, (.object "PatentRaces$Desk"), .int, .int, .int, .int, (.array .int), .int, (.array .int), .int, .int, .int, (.array .int), .int, (.array .int), .int, (.array (.array (.array .long))), (.array (.array .long)), (.array .long), .long, (.array (.array (.array .int))), (.array (.array .int)), (.array .int), .int, (.array (.array .long)), (.array .long), .long, .int, .int, .int, .long, (.array .long), .long, (.array (.array .int)), (.array .int), .int, (.array .long), .long, (.array .int), .int, .int, (.array .int), .int, (.array .int), .int, .int, (.array (.array (.array .int))), (.array (.array .int)), (.array .int), .int, .long, (.array .long), .long, (.array .long), .long, .long, .long, .boolean, (.array .boolean), .boolean, .int, (.array .long), .long, .long, .int, .int, .int, .int]
abbrev eTy (t : Nat) : FieldType := etT.getD t .int
abbrev adr (G : Gx) (q : Nat × Nat) : Nat := G.2.2.1 q.1 q.2
def fvl (G : Gx) (M : Mem) (t i j : Nat) : Value := match fty t j with
  | 1 => .long (M.2 t i j)
  | 2 => .ref (adr G (pF t j i))
  | 3 => .ref (G.2.2.1 6 (M.1 t i j).toNat)
  | _ => .int (Int32.ofInt (M.1 t i j))
def flds (G : Gx) (M : Mem) (t i : Nat) : List Value := (List.range (nfl t)).map (fvl G M t i)
def cel (G : Gx) (M : Mem) (t i : Nat) : va_E := if t < 11 then .inr (t, flds G M t i) else .inl (G.2.1 t, asz t, match akd t with
  | 2 => .inr (.inl (M.2 t i))
  | 4 => .inr (.inr (.inr (.inr (fun j => some (adr G (pA t i j))))))
  | _ => .inl (fun j => Int32.ofInt (M.1 t i j)))
def sys (t : Nat) : Prop := t < 11 ∨ 20 ≤ t ∧ t < 116
def Hd (G : Gx) (M : Mem) (H : Heap) : Prop := ∀ t i : Nat, sys t → i < nI' t → va_at G.1 cls11 (G.2.2.1 t i, cel G M t i) H
def AOK (G : Gx) : Prop := (∀ t i t' i' : Nat, sys t → sys t' → i < nI' t → i' < nI' t' → G.2.2.1 t i = G.2.2.1 t' i' → t = t' ∧ i = i') ∧ ∀ t i : Nat, sys t → i < nI' t → G.2.2.2 ≤ G.2.2.1 t i
/-- the part of the memory that a heap must hold -/
def Wm (G : Gx) (sc : Nat × (Nat → Int)) (M : Mem) (H : Heap) : Prop :=
  (∀ a b c : Nat, inR (M.1 a b c)) ∧ (0 ≤ M.1 5 0 6 ∧ M.1 5 0 6 < 2) ∧ (M.1 118 1 0 = (sc.1 : Int) ∧ ∀ j, M.1 118 0 j = sc.2 j) ∧ (∀ t i j : Nat, akd t = 3 → M.1 t i j = 0 ∨ M.1 t i j = 1) ∧ Hd G M H ∧ G.2.2.2 ≤ H.size
theorem cel_congr {G : Gx} {M M' : Mem} {t i : Nat} (h1 : ∀ c, M'.1 t i c = M.1 t i c) (h2 : ∀ c, M'.2 t i c = M.2 t i c) : cel G M' t i = cel G M t i := by
  have e1 : M'.1 t i = M.1 t i := funext h1
  have e2 : M'.2 t i = M.2 t i := funext h2
  have e3 : flds G M' t i = flds G M t i := by
    unfold flds
    refine List.map_congr_left fun j _ => ?_
    unfold fvl
    rw [h1, h2]
  unfold cel
  rw [e3, e1, e2]
theorem Hd.set {G : Gx} {M M' : Mem} {H H1 : Heap} {t i : Nat} (hA : AOK G) (h : Hd G M H) (ht : sys t) (hi : i < nI' t) (hn : va_at G.1 cls11 (G.2.2.1 t i, cel G M' t i) H1)
    (ho : ∀ q : Nat, q ≠ G.2.2.1 t i → H1[q]? = H[q]?) (hm : ∀ t' i' : Nat, ¬ (t' = t ∧ i' = i) → (∀ c, M'.1 t' i' c = M.1 t' i' c) ∧ ∀ c, M'.2 t' i' c = M.2 t' i' c) : Hd G M' H1 := by
  intro t' i' ht' hi'
  by_cases e : t' = t ∧ i' = i
  · obtain ⟨rfl, rfl⟩ := e
    exact hn
  · obtain ⟨m1, m2⟩ := hm t' i' e
    rw [cel_congr m1 m2]
    refine (h t' i' ht' hi').kept (ho _ fun q => e ?_)
    obtain ⟨a, b⟩ := hA.1 t' i' t i ht' ht hi' hi q
    exact ⟨a, b⟩
theorem Hd.kept {G : Gx} {M : Mem} {H H1 : Heap} (h : Hd G M H) (ho : ∀ q : Nat, q < H.size → H1[q]? = H[q]?) : Hd G M H1 := fun t i ht hi => (h t i ht hi).kept (ho _ (h t i ht hi).lt)
theorem Wm.grown {G : Gx} {sc : Nat × (Nat → Int)} {M : Mem} {H H1 : Heap} (h : Wm G sc M H) (hz : H.size ≤ H1.size) (ho : ∀ q : Nat, q < H.size → H1[q]? = H[q]?) : Wm G sc M H1 :=
  ⟨h.1, h.2.1, h.2.2.1, h.2.2.2.1, h.2.2.2.2.1.kept ho, Nat.le_trans h.2.2.2.2.2 hz⟩
theorem sI_1 {M : Mem} {t i j : Nat} {v : Int} {a b c : Nat} : (sI M t i j v).1 a b c = if a = t ∧ b = i ∧ c = j then v else M.1 a b c := rfl
theorem sI_2 {M : Mem} {t i j : Nat} {v : Int} : (sI M t i j v).2 = M.2 := rfl
theorem sL_1 {M : Mem} {t i j : Nat} {v : Int64} : (sL M t i j v).1 = M.1 := rfl
theorem sL_2 {M : Mem} {t i j : Nat} {v : Int64} {a b c : Nat} : (sL M t i j v).2 a b c = if a = t ∧ b = i ∧ c = j then v else M.2 a b c := rfl
theorem sI_off {M : Mem} {t i j : Nat} {v : Int} {t' i' : Nat} (h : ¬ (t' = t ∧ i' = i)) : (∀ c, (sI M t i j v).1 t' i' c = M.1 t' i' c) ∧ ∀ c, (sI M t i j v).2 t' i' c = M.2 t' i' c :=
  ⟨fun c => by rw [sI_1, if_neg (fun q => h ⟨q.1, q.2.1⟩)], fun _ => rfl⟩
theorem sL_off {M : Mem} {t i j : Nat} {v : Int64} {t' i' : Nat} (h : ¬ (t' = t ∧ i' = i)) : (∀ c, (sL M t i j v).1 t' i' c = M.1 t' i' c) ∧ ∀ c, (sL M t i j v).2 t' i' c = M.2 t' i' c :=
  ⟨fun _ => rfl, fun c => by rw [sL_2, if_neg (fun q => h ⟨q.1, q.2.1⟩)]⟩
theorem nI_pF : ∀ t, t < 11 → ∀ j, j < nfl t → fty t j = 2 → ∀ i, i < nI' t → (pF t j i).2 < nI' (pF t j i).1 := by decide +kernel
theorem nI_pA0 : ∀ t, t < 120 → akd t = 4 → t ≠ 53 → nI' (t + 1) = nI' t * asz t := by decide +kernel
theorem nI_pA {t i j : Nat} (ht : t < 120) (hk : akd t = 4) (hi : i < nI' t) (hj : j < asz t) : (pA t i j).2 < nI' (pA t i j).1 := by
  unfold pA
  by_cases e : t = 53
  · subst e
    have hj : j < 3 := hj
    rw [if_pos rfl]
    show j + 1 < 4
    omega
  · rw [if_neg e]
    show i * asz t + j < nI' (t + 1)
    rw [nI_pA0 t ht hk e]
    calc i * asz t + j < i * asz t + asz t := by omega
      _ = (i + 1) * asz t := by rw [Nat.add_mul, Nat.one_mul]
      _ ≤ nI' t * asz t := Nat.mul_le_mul_right _ hi
theorem sys_ak : ∀ t, t < 120 → (akd t = 1 ∨ akd t = 2 ∨ akd t = 3 ∨ akd t = 4) → 20 ≤ t ∧ t < 116 := by decide +kernel
theorem ak_lt {t : Nat} (h : akd t ≠ 0) : t < 120 := by
  by_cases q : t < 120
  · exact q
  · exact absurd (by show akT.getD t 0 = 0; rw [List.getD_eq_getElem?_getD, List.getElem?_eq_none (by have : akT.length = 120 := rfl; omega)]; rfl) h
theorem ak_sys {t : Nat} (h : akd t = 1 ∨ akd t = 2 ∨ akd t = 3 ∨ akd t = 4) : 20 ≤ t ∧ t < 116 := sys_ak t (ak_lt (by omega)) h
def tyk : FieldType → Nat
  | .int => 1
  | .long => 2
  | .boolean => 3
  | t => if t.isReference = true then 4 else 0
theorem tyk_1 {t : FieldType} (h : tyk t = 1) : t = .int := by
  cases t <;> simp_all [tyk, FieldType.isReference]
theorem tyk_2 {t : FieldType} (h : tyk t = 2) : t = .long := by
  cases t <;> simp_all [tyk, FieldType.isReference]
theorem tyk_3 {t : FieldType} (h : tyk t = 3) : t = .boolean := by
  cases t <;> simp_all [tyk, FieldType.isReference]
theorem tyk_4 {t : FieldType} (h : tyk t = 4) : t.isReference = true := by
  cases t <;> simp_all [tyk, FieldType.isReference]
theorem eTy_k : ∀ t, t < 120 → 20 ≤ t → t < 116 → tyk (eTy t) = akd t := by decide +kernel
theorem asz_lt : ∀ t, t < 120 → asz t < 3000 := by decide +kernel
theorem aln_sys {M : Mem} {t i : Nat} (h : 20 ≤ t ∧ t < 116) : aln M t i = (asz t : Int) := by
  unfold aln
  rw [if_neg (by omega), if_neg (by omega)]
theorem rdI_sys {M : Mem} {t i j : Nat} (h : 20 ≤ t ∧ t < 116) : rdI M t i j = M.1 t i j := by
  unfold rdI
  rw [if_neg (by omega)]
theorem cel_arr {G : Gx} {M : Mem} {t i : Nat} (h : 20 ≤ t) : cel G M t i = .inl (G.2.1 t, asz t, match akd t with
  | 2 => .inr (.inl (M.2 t i))
  | 4 => .inr (.inr (.inr (.inr (fun j => some (adr G (pA t i j))))))
  | _ => .inl (fun j => Int32.ofInt (M.1 t i j))) := by
  unfold cel
  rw [if_neg (by omega)]
theorem cel_i {G : Gx} {M : Mem} {t i : Nat} (h : 20 ≤ t) (hk : akd t = 1 ∨ akd t = 3) : cel G M t i = .inl (G.2.1 t, asz t, .inl (fun j => Int32.ofInt (M.1 t i j))) := by
  rw [cel_arr h]
  rcases hk with hk | hk <;> rw [hk] <;> rfl
theorem cel_l {G : Gx} {M : Mem} {t i : Nat} (h : 20 ≤ t) (hk : akd t = 2) : cel G M t i = .inl (G.2.1 t, asz t, .inr (.inl (M.2 t i))) := by
  rw [cel_arr h, hk]
  rfl
theorem cel_r {G : Gx} {M : Mem} {t i : Nat} (h : 20 ≤ t) (hk : akd t = 4) : cel G M t i = .inl (G.2.1 t, asz t, .inr (.inr (.inr (.inr (fun j => some (adr G (pA t i j))))))) := by
  rw [cel_arr h, hk]
  rfl
theorem cel_o {G : Gx} {M : Mem} {t i : Nat} (h : t < 11) : cel G M t i = .inr (t, flds G M t i) := by
  unfold cel
  rw [if_pos h]
theorem flds_get {G : Gx} {M : Mem} {t i j : Nat} (h : j < nfl t) : (flds G M t i)[j]? = some (fvl G M t i j) := by
  unfold flds
  rw [List.getElem?_map, List.getElem?_range h]
  rfl
theorem flds_len {G : Gx} {M : Mem} {t i : Nat} : (flds G M t i).length = nfl t := by simp [flds]
/-- a field written: the row of fields behind it -/
theorem flds_set {G : Gx} {M M' : Mem} {t i j : Nat} {v : Value} (hv : fvl G M' t i j = v) (hm : ∀ k, k ≠ j → fvl G M' t i k = fvl G M t i k) : (flds G M t i).set j v = flds G M' t i := by
  refine List.ext_getElem? fun k => ?_
  by_cases hk : k < nfl t
  · by_cases e : k = j
    · subst e
      rw [List.getElem?_set_self (by rw [flds_len]; exact hk), flds_get hk, hv]
    · rw [List.getElem?_set_ne (Ne.symm e), flds_get hk, flds_get hk, hm k e]
  · rw [List.getElem?_eq_none (by rw [List.length_set, flds_len]; omega), List.getElem?_eq_none (by rw [flds_len]; omega)]
