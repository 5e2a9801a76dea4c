/-! LAYER 3, STATES ARE COUNTED AND FOUND: harder, behind, leavers -/
/-- the first place that stands, from lo on, among m; -1 if there is none -/
def fs2 (f : Int → Bool) (lo : Int) : Nat → Int
  | 0 => -1
  | m + 1 => if f lo = true then lo else fs2 f (lo + 1) m
theorem find_eq {α : Type} {A : Int → α → Prop} {G : Int → Prop} {F : Prop} {f : Int → Bool} : ∀ (m : Nat) (lo : Int), 0 ≤ lo → (∀ k z, lo ≤ k → k < lo + m → ∃ z', A k z = if f k = true then G k else A (k + 1) z') → (∀ z, A (lo + m) z = F) → ∀ z, A lo z = if fs2 f lo m = -1 then F else G (fs2 f lo m) := by
  intro m
  induction m with
  | zero => intro lo _ _ he z; rw [show fs2 f lo 0 = -1 from rfl, if_pos rfl]; have := he z; rwa [show lo + ((0 : Nat) : Int) = lo by omega] at this
  | succ m ih =>
    intro lo h0 hs he z
    obtain ⟨z', e⟩ := hs lo z (by omega) (by omega)
    rw [e]
    unfold fs2
    by_cases hf : f lo = true
    · rw [if_pos hf, if_pos hf, if_neg (by omega)]
    · rw [if_neg hf, if_neg hf]
      exact ih (lo + 1) (by omega) (fun k z a b => hs k z (by omega) (by omega)) (fun z => by have := he z; rwa [show lo + ((m + 1 : Nat) : Int) = lo + 1 + (m : Int) by omega] at this) z'
theorem fs2_R {f : Int → Bool} : ∀ (m : Nat) (lo : Int), fs2 f lo m = -1 ∨ (lo ≤ fs2 f lo m ∧ fs2 f lo m < lo + m)
  | 0, _ => Or.inl rfl
  | m + 1, lo => by
    have := fs2_R (f := f) m (lo + 1)
    unfold fs2
    split <;> omega
theorem fs2_1 {f : Int → Bool} (h : f 0 = false) : fs2 f 0 125 = fs2 f 1 124 := by
  show (if f 0 = true then 0 else fs2 f (0 + 1) 124) = fs2 f 1 124
  rw [if_neg (by rw [h]; simp)]; rfl
theorem fs2_congr {f g : Int → Bool} : ∀ (m : Nat) (lo : Int), (∀ k : Int, lo ≤ k → k < lo + m → f k = g k) → fs2 f lo m = fs2 g lo m
  | 0, _, _ => rfl
  | m + 1, lo, h => by
    unfold fs2
    rw [h lo (by omega) (by omega), fs2_congr m (lo + 1) (fun k a b => h k (by omega) (by omega))]
def sum1 (f : Int → Int) : Nat → Int
  | 0 => 0
  | n + 1 => sum1 f n + f ((n : Int) + 1)
theorem sum1_s {f : Int → Int} {n : Nat} : sum1 f (n + 1) = sum1 f n + f ((n : Int) + 1) := rfl
theorem sum1_R {f : Int → Int} {c : Int} (hf : ∀ k, 0 ≤ f k ∧ f k ≤ c) : ∀ n : Nat, 0 ≤ sum1 f n ∧ sum1 f n ≤ c * n
  | 0 => by simp [sum1]
  | n + 1 => by
    have h1 := sum1_R hf n
    have h2 := hf ((n : Int) + 1)
    unfold sum1
    have e : c * ((n + 1 : Nat) : Int) = c * n + c := by rw [Int.natCast_add, Int.mul_add]; simp
    rw [e]; omega
theorem sum1_congr {f g : Int → Int} : ∀ n : Nat, (∀ k : Int, 1 ≤ k → k ≤ n → f k = g k) → sum1 f n = sum1 g n
  | 0, _ => rfl
  | n + 1, h => by
    unfold sum1
    rw [sum1_congr n (fun k a b => h k a (by omega)), h ((n : Int) + 1) (by omega) (by omega)]
theorem sum_up {α : Type} {A : Int → Int → α → Prop} {f : Int → Int} {c B : Int} (hf : ∀ k, 0 ≤ f k ∧ f k ≤ c) (n : Nat) (hs : ∀ (k acc : Int) z, 1 ≤ k → k ≤ n → 0 ≤ acc → acc ≤ B → ∃ z', A k acc z = A (k + 1) (acc + f k) z') (acc : Int) (z : α) (h0 : 0 ≤ acc) (h1 : acc + c * n ≤ B) : ∃ z', A 1 acc z = A ((n : Int) + 1) (acc + sum1 f n) z' := by
  have hc : 0 ≤ c := by have := hf 0; omega
  have key : ∀ m : Nat, m ≤ n → ∃ z', A 1 acc z = A ((m : Int) + 1) (acc + sum1 f m) z' := by
    intro m
    induction m with
    | zero => intro _; exact ⟨z, by unfold sum1; rw [Int.add_zero]; rfl⟩
    | succ m ih =>
      intro hm
      obtain ⟨z', e⟩ := ih (by omega)
      have hr := sum1_R hf m
      have hcm : c * (m : Int) ≤ c * n := Int.mul_le_mul_of_nonneg_left (by omega) hc
      obtain ⟨z'', e2⟩ := hs ((m : Int) + 1) (acc + sum1 f m) z' (by omega) (by omega) (by omega) (by omega)
      refine ⟨z'', ?_⟩
      rw [e, e2, sum1_s, show ((m + 1 : Nat) : Int) = (m : Int) + 1 by omega, show acc + (sum1 f m + f ((m : Int) + 1)) = acc + sum1 f m + f ((m : Int) + 1) by omega]
  exact key n (Nat.le_refl n)
theorem sum_dn {α : Type} {A : Int → Int → α → Prop} {f : Int → Int} {c B : Int} (hf : ∀ k, 0 ≤ f k ∧ f k ≤ c) : ∀ (n : Nat), (∀ (k acc : Int) z, 1 ≤ k → k ≤ n → 0 ≤ acc → acc ≤ B → ∃ z', A k acc z = A (k - 1) (acc + f k) z') → ∀ (acc : Int) (z : α), 0 ≤ acc → acc + c * n ≤ B → ∃ z', A n acc z = A 0 (acc + sum1 f n) z' := by
  intro n
  induction n with
  | zero => intro _ acc z _ _; exact ⟨z, by unfold sum1; rw [Int.add_zero]; rfl⟩
  | succ n ih =>
    intro hs acc z h0 h1
    have hc : 0 ≤ c := by have := hf 0; omega
    have h2 := hf ((n : Int) + 1)
    have e : c * ((n + 1 : Nat) : Int) = c * n + c := by rw [Int.natCast_add, Int.mul_add]; simp
    have hcn : 0 ≤ c * (n : Int) := Int.mul_nonneg hc (by omega)
    rw [e] at h1
    obtain ⟨z', e1⟩ := hs ((n + 1 : Nat) : Int) acc z (by omega) (by omega) h0 (by omega)
    rw [show ((n + 1 : Nat) : Int) - 1 = (n : Int) by omega, show ((n + 1 : Nat) : Int) = (n : Int) + 1 by omega] at e1
    obtain ⟨z'', e2⟩ := ih (fun k acc z a b => hs k acc z a (by omega)) (acc + f ((n : Int) + 1)) z' (by omega) (by omega)
    refine ⟨z'', ?_⟩
    rw [show ((n + 1 : Nat) : Int) = (n : Int) + 1 by omega, e1, e2, sum1_s]
    rw [show acc + f ((n : Int) + 1) + sum1 f n = acc + (sum1 f n + f ((n : Int) + 1)) by omega]
/-- sums from 0 on -/
theorem sum_up0 {α : Type} {A : Int → Int → α → Prop} {f : Int → Int} {c B : Int} (hf : ∀ k, 0 ≤ f k ∧ f k ≤ c) (f0 : f 0 = 0) (n : Nat) (hs : ∀ (k acc : Int) z, 0 ≤ k → k ≤ n → 0 ≤ acc → acc ≤ B → ∃ z', A k acc z = A (k + 1) (acc + f k) z') (acc : Int) (z : α) (h0 : 0 ≤ acc) (h1 : acc + c * n ≤ B) : ∃ z', A 0 acc z = A ((n : Int) + 1) (acc + sum1 f n) z' := by
  have hc : 0 ≤ c := by have := hf 0; omega
  have hcn : 0 ≤ c * (n : Int) := Int.mul_nonneg hc (by omega)
  obtain ⟨z', e⟩ := hs 0 acc z (by omega) (by omega) h0 (by omega)
  rw [f0, Int.add_zero] at e
  obtain ⟨z'', e2⟩ := sum_up hf n (fun k acc z a b => hs k acc z (by omega) b) acc z' h0 h1
  exact ⟨z'', by rw [e]; exact e2⟩
def b01 (b : Bool) : Int := if b = true then 1 else 0
theorem b01_t : b01 true = 1 := rfl
theorem b01_f : b01 false = 0 := rfl
theorem b01_R (b : Bool) : 0 ≤ b01 b ∧ b01 b ≤ 1 := by unfold b01; split <;> omega
/-- one that is behind and pays more -/
abbrev hr1 (R : RT) (w x i j : Int) : Prop := dg x j < dg x i ∧ cst R j (rwD R w x j) < cst R i (rwD R w x i)
def hrd (R : RT) (w x : Int) : Bool := decide (fs2 (fun i => decide (fs2 (fun j => decide (hr1 R w x i j)) 0 (R 4 1).toNat ≠ -1)) 0 (R 4 1).toNat ≠ -1)
def plB (R : RT) (x : Int) : Bool := decide (plainP R x)
theorem plB_0 {R : RT} (hn : 1 ≤ R 4 1) : plB R 0 = false := by
  unfold plB
  rw [decide_eq_false_iff_not]
  intro z
  exact z.1 (by omega) rfl
theorem rwD_R {R : RT} {w x s : Int} : 0 ≤ rwD R w x s ∧ rwD R w x s < 5 := by
  unfold rwD
  split
  · omega
  · have := dr_R (Rwf R w x) s; omega
def evb (R : RT) : Int := pw (R 4 1) - 1
theorem bit_evb {R : RT} (hn : 1 ≤ R 4 1 ∧ R 4 1 ≤ 3) {s : Int} (hs : 0 ≤ s ∧ s < 3) : bit (evb R) s = if s < R 4 1 then 1 else 0 := by
  unfold evb
  rcases (by omega : R 4 1 = 1 ∨ R 4 1 = 2 ∨ R 4 1 = 3) with h | h | h <;> rcases (by omega : s = 0 ∨ s = 1 ∨ s = 2) with rfl | rfl | rfl <;> rw [h] <;> decide
theorem cdo_evb {R : RT} (h : WR R) (hn : 1 ≤ R 4 1) {p : Int} (hp : 0 ≤ p ∧ p < 125) (hw : plainP R p) : cdo p (evb R) = p := by
  have hb := h.b
  obtain ⟨p0, p1, p2, f0, f1, f2⟩ := hw
  have e0 := bit_evb (R := R) (by omega) (s := 0) (by omega)
  have e1 := bit_evb (R := R) (by omega) (s := 1) (by omega)
  have e2 := bit_evb (R := R) (by omega) (s := 2) (by omega)
  have g0 := dg_R p 0
  have g1 := dg_R p 1
  have g2 := dg_R p 2
  have ep : p = dg p 0 + dg p 1 * 5 + dg p 2 * 25 := by
    show p = p % 5 + p / 5 % 5 * 5 + p / 25 % 5 * 25
    omega
  unfold cdo hfP cd lsp
  rw [e0, e1, e2]
  generalize dg p 0 = a at *
  generalize dg p 1 = b at *
  generalize dg p 2 = c at *
  rcases (by omega : R 4 1 = 1 ∨ R 4 1 = 2 ∨ R 4 1 = 3) with hh | hh | hh <;> rw [hh] at p0 p1 p2 hb ⊢
  · simp only [show (0 : Int) < 1 by omega, show ¬ (1 : Int) < 1 by omega, show ¬ (2 : Int) < 1 by omega, if_true, if_false]
    rw [if_neg (by omega), if_neg (by omega), if_neg (by omega)]; omega
  · simp only [show (0 : Int) < 2 by omega, show (1 : Int) < 2 by omega, show ¬ (2 : Int) < 2 by omega, if_true, if_false]
    rw [if_neg (by omega), if_neg (by omega)]; omega
  · simp only [show (0 : Int) < 3 by omega, show (1 : Int) < 3 by omega, show (2 : Int) < 3 by omega, if_true]
    rw [if_neg (by omega)]; omega
section
variable {d : Nat} {Q : AV → Mem → Prop} {X : Nat → Mem → Prop}
theorem m_everybody {M : Mem} {R : RT} (hM : MR R M) (h : WR R) : Call (d + 1) qMo_everybody [vr 10 0] M Q X = Q (vi (evb R)) M := by
  have hb := h.b
  rw [eMo_everybody, bMo_everybody_0, hM.1, bshl_pw (by omega)]
  have : pw (R 4 1) = 1 ∨ pw (R 4 1) = 2 ∨ pw (R 4 1) = 4 ∨ pw (R 4 1) = 8 := by unfold pw; repeat' split <;> omega
  rw [w32_id (by omega)]; rfl
theorem m_beginPlace {M : Mem} {R : RT} (hM : MR R M) (h : WR R) : Call (d + 1) qMo_beginPlace [vr 10 0] M Q X = Q (vi (bgn R)) M := by
  have hb := h.b
  have e0 : M.1 56 0 (0 : Int).toNat = R 33 0 := (hM.2.2.2.2.2.2.1 0 (by omega) (by omega)).1
  have e1 : M.1 56 0 (1 : Int).toNat = R 33 1 := (hM.2.2.2.2.2.2.1 1 (by omega) (by omega)).1
  have e2 : M.1 56 0 (2 : Int).toNat = R 33 2 := (hM.2.2.2.2.2.2.1 2 (by omega) (by omega)).1
  rw [eMo_beginPlace, bMo_beginPlace_0 (by omega), e0, e1, e2, w32_id (z := 5 * _) (by omega), w32_id (z := 25 * _) (by omega), w32_id (z := R 33 0 + _) (by omega), w32_id (by omega)]
  have : R 33 0 + 5 * R 33 1 + 25 * R 33 2 = bgn R := by
    unfold bgn bgo
    repeat' split
    all_goals omega
  rw [this]
theorem m_isWhole {M : Mem} {R : RT} {p : Int} (hM : MR R M) (h : WR R) (hp : 0 ≤ p ∧ p < 125) : Call (d + 2) qMo_isWhole [vr 10 0, vi p] M Q X = Q (vi (b01 (plB R p))) M := by
  have hb := h.b
  have key : ∀ k : Int, 0 ≤ k → k < 3 → At (d + 1) kMo_isWhole 2 [vr 10 0, vi p, vi k] [] M Q X = if (if k < R 4 1 then 1 ≤ dg p k ∧ dg p k ≤ R 33 k.toNat else dg p k ≤ 0) then At (d + 1) kMo_isWhole 2 [vr 10 0, vi p, vi (k + 1)] [] M Q X else Q (vi 0) M := by
    intro k k0 k3
    have e : M.1 56 0 k.toNat = R 33 k.toNat := (hM.2.2.2.2.2.2.1 k k0 k3).1
    have e2 : w32 (k + 1) = k + 1 := w32_id (by omega)
    rw [bMo_isWhole_2, if_neg (by omega), bMo_isWhole_5, hM.1]
    by_cases hk : k < R 4 1
    · rw [if_neg (by omega), bMo_isWhole_9, m_stepsOf hp, KV_eq, bMo_isWhole_12 (by omega), e, m_in, KV_eq, bMo_isWhole_18]
      simp only [hk, if_true]
      by_cases hc : 1 ≤ dg p k ∧ dg p k ≤ R 33 k.toNat
      · rw [if_pos (by rw [if_pos hc]; omega), if_pos hc, bMo_isWhole_26, e2]
      · rw [if_neg (by rw [if_neg hc]; omega), if_neg hc, bMo_isWhole_19, bMo_isWhole_24]; rfl
    · rw [if_pos (by omega), bMo_isWhole_20, m_stepsOf hp, KV_eq, bMo_isWhole_23]
      simp only [hk, if_false]
      by_cases hc : dg p k ≤ 0
      · rw [if_pos hc, if_pos hc, bMo_isWhole_26, e2]
      · rw [if_neg hc, if_neg hc, bMo_isWhole_24]; rfl
  rw [eMo_isWhole, bMo_isWhole_0, key 0 (by omega) (by omega), key _ (by omega) (by omega), key _ (by omega) (by omega), bMo_isWhole_2, if_pos (show (3 : Int) ≤ 0 + 1 + 1 + 1 by omega), bMo_isWhole_28]
  simp only [Int.zero_add, Int.reduceAdd, show (0 : Int).toNat = 0 from rfl, show (1 : Int).toNat = 1 from rfl, show (2 : Int).toNat = 2 from rfl]
  have g0 := dg_R p 0
  have g1 := dg_R p 1
  have g2 := dg_R p 2
  unfold plB b01 plainP fitsP
  simp only [decide_eq_true_eq]
  generalize dg p 0 = a at *
  generalize dg p 1 = b at *
  generalize dg p 2 = c at *
  by_cases n0 : 0 < R 4 1 <;> by_cases n1 : 1 < R 4 1 <;> by_cases n2 : 2 < R 4 1 <;> simp only [n0, n1, n2, if_true, if_false, true_implies, false_implies, true_and] <;> repeat' split
  all_goals first | rfl | omega
end
