/-! LAYER 3, THE BASE: numbers, loops, memory -/
theorem w32_id {z : Int} (h : -2147483648 ≤ z ∧ z ≤ 2147483647) : w32 z = z := by
  unfold w32
  rw [Int32.toInt_ofInt]
  exact Int.bmod_eq_of_le (by simp [Int32.size]; omega) (by simp [Int32.size]; omega)
theorem w32_eq (z : Int) : w32 z = (z + 2147483648) % 4294967296 - 2147483648 := by
  unfold w32
  rw [Int32.toInt_ofInt]
  simp only [Int.bmod, Int32.size]
  split <;> omega
theorem w32_rg (z : Int) : -2147483648 ≤ w32 z ∧ w32 z ≤ 2147483647 := by rw [w32_eq]; omega
theorem w32_w32 (z : Int) : w32 (w32 z) = w32 z := w32_id (w32_rg z)
theorem tdiv_id {x y : Int} (h : 0 ≤ x) : x.tdiv y = x / y := Int.tdiv_eq_ediv_of_nonneg h
theorem tmod_id {x y : Int} (h : 0 ≤ x) : x.tmod y = x % y := Int.tmod_eq_emod_of_nonneg h
/-- a loop that counts up -/
theorem loop_up {α : Type} (P I : Int → α → Prop) (lo hi : Int) (hend : ∀ a, I hi a → P hi a) (hstep : ∀ x a, lo ≤ x → x < hi → I x a → (∀ a', I (x + 1) a' → P (x + 1) a') → P x a) : ∀ x a, lo ≤ x → x ≤ hi → I x a → P x a := by
  have key : ∀ (n : Nat) x a, lo ≤ x → x + n = hi → I x a → P x a := by
    intro n
    induction n with
    | zero => intro x a _ h2 h3; have : x = hi := by omega
              subst this; exact hend a h3
    | succ n ih =>
      intro x a h1 h2 h3
      exact hstep x a h1 (by omega) h3 (fun a' h => ih (x + 1) a' (by omega) (by omega) h)
  intro x a h1 h2 h3
  exact key (hi - x).toNat x a h1 (by omega) h3
/-- a loop that counts down -/
theorem loop_dn {α : Type} (P I : Int → α → Prop) (lo hi : Int) (hend : ∀ a, I lo a → P lo a) (hstep : ∀ x a, lo < x → x ≤ hi → I x a → (∀ a', I (x - 1) a' → P (x - 1) a') → P x a) : ∀ x a, lo ≤ x → x ≤ hi → I x a → P x a := by
  have key : ∀ (n : Nat) x a, x = lo + n → x ≤ hi → I x a → P x a := by
    intro n
    induction n with
    | zero => intro x a h1 _ h3; have : x = lo := by omega
              subst this; exact hend a h3
    | succ n ih =>
      intro x a h1 h2 h3
      exact hstep x a (by omega) h2 h3 (fun a' h => ih (x - 1) a' (by omega) (by omega) h)
  intro x a h1 h2 h3
  exact key (x - lo).toNat x a (by omega) h2 h3
/-- memory read over what was written -/
theorem sI1 {M : Mem} {t i j v a b c} : (sI M t i j v).1 a b c = if a = t ∧ b = i ∧ c = j then v else M.1 a b c := rfl
theorem sI2 {M : Mem} {t i j v} : (sI M t i j v).2 = M.2 := rfl
theorem sL1 {M : Mem} {t i j v} : (sL M t i j v).1 = M.1 := rfl
theorem sL2 {M : Mem} {t i j v a b c} : (sL M t i j v).2 a b c = if a = t ∧ b = i ∧ c = j then v else M.2 a b c := rfl
theorem cpI1 {M : Mem} {t i p t' i' p' n a b c} : (cpI M t i p t' i' p' n).1 a b c = if a = t' ∧ b = i' ∧ p' ≤ c ∧ c < p' + n then M.1 t i (p + (c - p')) else M.1 a b c := rfl
theorem cpI2 {M : Mem} {t i p t' i' p' n} : (cpI M t i p t' i' p' n).2 = M.2 := rfl
theorem cpL1 {M : Mem} {t i p t' i' p' n} : (cpL M t i p t' i' p' n).1 = M.1 := rfl
theorem cpL2 {M : Mem} {t i p t' i' p' n a b c} : (cpL M t i p t' i' p' n).2 a b c = if a = t' ∧ b = i' ∧ p' ≤ c ∧ c < p' + n then M.2 t i (p + (c - p')) else M.2 a b c := rfl
theorem sI_ne {M : Mem} {t i j v a b c} (h : ¬ (a = t ∧ b = i ∧ c = j)) : (sI M t i j v).1 a b c = M.1 a b c := if_neg h
theorem sI_eq {M : Mem} {t i j v} : (sI M t i j v).1 t i j = v := if_pos ⟨rfl, rfl, rfl⟩
theorem sL_eq {M : Mem} {t i j v} : (sL M t i j v).2 t i j = v := if_pos ⟨rfl, rfl, rfl⟩
/-- nothing has changed but where P says -/
def Fr (P : Nat → Nat → Prop) (M M' : Mem) : Prop := ∀ t i, ¬ P t i → M'.1 t i = M.1 t i ∧ M'.2 t i = M.2 t i
theorem Fr.rf {P M} : Fr P M M := fun _ _ _ => ⟨rfl, rfl⟩
theorem Fr.tr {P M M' M''} (h : Fr P M M') (h' : Fr P M' M'') : Fr P M M'' := fun t i q => ⟨(h' t i q).1.trans (h t i q).1, (h' t i q).2.trans (h t i q).2⟩
theorem Fr.mono {P P' : Nat → Nat → Prop} {M M'} (hs : ∀ t i, P t i → P' t i) (h : Fr P M M') : Fr P' M M' := fun t i q => h t i (fun z => q (hs t i z))
theorem Fr.g1 {P M M'} (h : Fr P M M') (t i : Nat) (q : ¬ P t i) (j : Nat) : M'.1 t i j = M.1 t i j := congrFun (h t i q).1 j
theorem Fr.g2 {P M M'} (h : Fr P M M') (t i : Nat) (q : ¬ P t i) (j : Nat) : M'.2 t i j = M.2 t i j := congrFun (h t i q).2 j
theorem Fr.sI {P : Nat → Nat → Prop} {M M' t i j v} (h : Fr P M M') (hp : P t i) : Fr P M (sI M' t i j v) := fun a b q => ⟨by
    funext c
    rw [sI_ne (fun z => q (by obtain ⟨rfl, rfl, -⟩ := z; exact hp)), (h a b q).1], (h a b q).2⟩
theorem Fr.sL {P : Nat → Nat → Prop} {M M' t i j v} (h : Fr P M M') (hp : P t i) : Fr P M (sL M' t i j v) := fun a b q => ⟨(h a b q).1, by
    funext c
    rw [sL2, if_neg (fun z => q (by obtain ⟨rfl, rfl, -⟩ := z; exact hp)), (h a b q).2]⟩
theorem Fr.cpI {P : Nat → Nat → Prop} {M M' t i p t' i' p' n} (h : Fr P M M') (hp : P t' i') : Fr P M (cpI M' t i p t' i' p' n) := fun a b q => ⟨by
    funext c
    rw [cpI1, if_neg (fun z => q (by obtain ⟨rfl, rfl, -⟩ := z; exact hp)), (h a b q).1], (h a b q).2⟩
theorem Fr.cpL {P : Nat → Nat → Prop} {M M' t i p t' i' p' n} (h : Fr P M M') (hp : P t' i') : Fr P M (cpL M' t i p t' i' p' n) := fun a b q => ⟨(h a b q).1, by
    funext c
    rw [cpL2, if_neg (fun z => q (by obtain ⟨rfl, rfl, -⟩ := z; exact hp)), (h a b q).2]⟩
/-- what a race tells, apart from where it lies -/
def rd (M : Mem) (i : Nat) : Nat → Nat → Int := fun t j => if t = 4 ∨ 33 ≤ t ∧ t ≤ 38 then M.1 t i j else 0
theorem rd_fr {P M M'} (h : Fr P M M') {i : Nat} (hp : ∀ t, t = 4 ∨ 33 ≤ t ∧ t ≤ 38 → ¬ P t i) : rd M' i = rd M i := by
  funext t j
  unfold rd
  by_cases ht : t = 4 ∨ 33 ≤ t ∧ t ≤ 38
  · rw [if_pos ht, if_pos ht, h.g1 t i (hp t ht)]
  · rw [if_neg ht, if_neg ht]
theorem rd_at {M i R} (h : rd M i = R) (t j : Nat) (ht : t = 4 ∨ 33 ≤ t ∧ t ≤ 38) : M.1 t i j = R t j := by rw [← h]; unfold rd; rw [if_pos ht]
