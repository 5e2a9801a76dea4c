/-! LAYER 3, A WEEK'S FLOW, apart from who keeps it where -/
def flN (k : Int) (W V Y : Int → Int) (E : Int → Nat → Int) : Nat → GS → GS
  | 0, G => G
  | m + 1, G => fl (k * W (m : Int)) (V (m : Int)) (Y (m : Int)) (E (m : Int)) (flN k W V Y E m G)
theorem flN_s {k : Int} {W V Y : Int → Int} {E : Int → Nat → Int} {m : Int} {G : GS} (hm : 0 ≤ m) : flN k W V Y E (m + 1).toNat G = fl (k * W m) (V m) (Y m) (E m) (flN k W V Y E m.toNat G) := by
  obtain ⟨n, rfl⟩ : ∃ n : Nat, m = (n : Int) := ⟨m.toNat, by omega⟩
  rw [show ((n : Int) + 1).toNat = n + 1 by omega, show ((n : Int)).toNat = n by omega]
  rfl
theorem flN_pot {k : Int} {W V Y : Int → Int} {E : Int → Nat → Int} {G : GS} {g : Int → Int} {K : Nat} (q : Nat) : ∀ n : Nat, (∀ m : Int, 0 ≤ m → m < n → W m ≠ 0 → 0 ≤ Y m ∧ Y m < K) →
    (flN k W V Y E n G).1 q + sumN (fun x => (flN k W V Y E n G).2 x * g x) K = G.1 q + sumN (fun x => G.2 x * g x) K + k * sumN (fun m => W m * (if V m = 0 then g (Y m) else E m q)) n
  | 0, _ => by
    show G.1 q + _ = G.1 q + _ + k * 0
    rw [Int.mul_zero, Int.add_zero]; rfl
  | n + 1, h => by
    have ih := flN_pot (k := k) (V := V) (E := E) (G := G) (g := g) q n (fun m a b => h m a (by omega))
    have e : sumN (fun m => W m * (if V m = 0 then g (Y m) else E m q)) (n + 1) = sumN (fun m => W m * (if V m = 0 then g (Y m) else E m q)) n + W (n : Int) * (if V (n : Int) = 0 then g (Y (n : Int)) else E (n : Int) q) := rfl
    rw [e, Int.mul_add, ← Int.add_assoc, ← ih]
    show (fl (k * W (n : Int)) (V (n : Int)) (Y (n : Int)) (E (n : Int)) (flN k W V Y E n G)).1 q + sumN (fun x => (fl (k * W (n : Int)) (V (n : Int)) (Y (n : Int)) (E (n : Int)) (flN k W V Y E n G)).2 x * g x) K = _
    by_cases hw : W (n : Int) = 0
    · rw [hw, Int.mul_zero, fl_z, Int.zero_mul, Int.mul_zero, Int.add_zero]
    · obtain ⟨y0, y1⟩ := h (n : Int) (by omega) (by omega) hw
      rw [fl_pot q y0 y1, Int.mul_assoc]
theorem flN_nn {k : Int} {W V Y : Int → Int} {E : Int → Nat → Int} {G : GS} {K : Nat} (hk : 0 ≤ k) (hG : ∀ x : Int, 0 ≤ x → x < K → 0 ≤ G.2 x) : ∀ n : Nat, (∀ m : Int, 0 ≤ m → m < n → 0 ≤ W m) → (∀ m : Int, 0 ≤ m → m < n → W m ≠ 0 → 0 ≤ Y m ∧ Y m < K) →
    (∀ x : Int, 0 ≤ x → x < K → 0 ≤ (flN k W V Y E n G).2 x) ∧ sumN (flN k W V Y E n G).2 K ≤ sumN G.2 K + k * sumN W n
  | 0, _, _ => ⟨hG, by show sumN G.2 K ≤ _ + k * 0; omega⟩
  | n + 1, hW, h => by
    obtain ⟨i1, i2⟩ := flN_nn (V := V) (E := E) hk hG n (fun m a b => hW m a (by omega)) (fun m a b => h m a (by omega))
    have e : sumN W (n + 1) = sumN W n + W (n : Int) := rfl
    rw [e, Int.mul_add]
    show (∀ x : Int, 0 ≤ x → x < K → 0 ≤ (fl (k * W (n : Int)) (V (n : Int)) (Y (n : Int)) (E (n : Int)) (flN k W V Y E n G)).2 x) ∧ sumN (fl (k * W (n : Int)) (V (n : Int)) (Y (n : Int)) (E (n : Int)) (flN k W V Y E n G)).2 K ≤ _
    by_cases hw : W (n : Int) = 0
    · rw [hw, Int.mul_zero, fl_z]
      exact ⟨i1, by omega⟩
    · obtain ⟨y0, y1⟩ := h (n : Int) (by omega) (by omega) hw
      have hp : 0 ≤ k * W (n : Int) := Int.mul_nonneg hk (hW (n : Int) (by omega) (by omega))
      obtain ⟨j1, j2⟩ := fl_nn (v := V (n : Int)) (E := E (n : Int)) hp y0 y1 i1
      exact ⟨j1, by omega⟩
theorem flN_sup {k : Int} {W V Y : Int → Int} {E : Int → Nat → Int} {G : GS} {P : Int → Prop} (hG : ∀ x : Int, G.2 x ≠ 0 → P x) : ∀ n : Nat, (∀ m : Int, 0 ≤ m → m < n → W m ≠ 0 → V m = 0 → P (Y m)) → ∀ x : Int, (flN k W V Y E n G).2 x ≠ 0 → P x
  | 0, _ => hG
  | n + 1, h => by
    have ih := flN_sup (k := k) (V := V) (E := E) hG n (fun m a b => h m a (by omega))
    intro x hx
    change (fl (k * W (n : Int)) (V (n : Int)) (Y (n : Int)) (E (n : Int)) (flN k W V Y E n G)).2 x ≠ 0 at hx
    by_cases hw : W (n : Int) = 0
    · rw [hw, Int.mul_zero, fl_z] at hx; exact ih x hx
    · unfold fl at hx
      by_cases hv : V (n : Int) = 0
      · rw [if_pos hv] at hx
        change upf (flN k W V Y E n G).2 (Y (n : Int)) _ x ≠ 0 at hx
        unfold upf at hx
        by_cases hy : x = Y (n : Int)
        · rw [hy]; exact h (n : Int) (by omega) (by omega) hw hv
        · rw [if_neg hy] at hx; exact ih x hx
      · rw [if_neg hv] at hx; exact ih x hx
/-- what stands as the states of a week are gone through -/
def Wk (K : Nat) (f g : Nat → Int → Int) (S S' T : Int) (Z : Nat → Int) (u : Int → Int) (c : Int) (G : GS) : Prop :=
  (∀ q, G.1 q + (sumN (fun x => u x * f q x) K - sumN (fun x => u x * f q x) c.toNat) + sumN (fun x => G.2 x * g q x) K = Z q) ∧
  ((sumN u K - sumN u c.toNat) * S + sumN G.2 K * S' ≤ T) ∧ (∀ x : Int, 0 ≤ x → x < K → 0 ≤ G.2 x)
theorem Wk.skip {K f g S S' T Z u c G} (h : Wk K f g S S' T Z u c G) (hc : 0 ≤ c) (hS : 0 ≤ S) (hu : 0 ≤ u c) (hz : ∀ q, u c * f q c = 0) : Wk K f g S S' T Z u (c + 1) G := by
  obtain ⟨h1, h2, h3⟩ := h
  refine ⟨fun q => ?_, ?_, h3⟩
  · have := h1 q
    rw [sumN_s hc, hz q]; omega
  · rw [sumN_s hc]
    have e : (sumN u K - (sumN u c.toNat + u c)) * S = (sumN u K - sumN u c.toNat) * S - u c * S := by rw [← Int.sub_mul]; congr 1; omega
    have : 0 ≤ u c * S := Int.mul_nonneg hu hS
    omega
theorem Wk.step {K f g S S' T Z u c G} {k : Int} {W V Y : Int → Int} {C : Nat → Int} {E : Int → Nat → Int} {n : Nat} (h : Wk K f g S S' T Z u c G) (hc : 0 ≤ c) (hk : u c = k) (hk0 : 0 ≤ k) (hS' : 0 ≤ S')
    (hf : ∀ q, f q c = C q + sumN (fun m => W m * (if V m = 0 then g q (Y m) else E m q)) n) (hS : S = sumN W n * S') (hW : ∀ m : Int, 0 ≤ m → m < n → 0 ≤ W m) (hY : ∀ m : Int, 0 ≤ m → m < n → W m ≠ 0 → 0 ≤ Y m ∧ Y m < K) :
    Wk K f g S S' T Z u (c + 1) (flN k W V Y E n (fun q => G.1 q + k * C q, G.2)) := by
  obtain ⟨h1, h2, h3⟩ := h
  obtain ⟨j1, j2⟩ := flN_nn (V := V) (E := E) (G := (fun q => G.1 q + k * C q, G.2)) hk0 h3 n hW hY
  refine ⟨fun q => ?_, ?_, j1⟩
  · have a := h1 q
    have b := flN_pot (k := k) (V := V) (E := E) (G := (fun q => G.1 q + k * C q, G.2)) (g := g q) q n hY
    have b : _ = (G.1 q + k * C q) + sumN (fun x => G.2 x * g q x) K + k * sumN (fun m => W m * (if V m = 0 then g q (Y m) else E m q)) n := b
    rw [sumN_s hc, hk, hf q, Int.mul_add]
    omega
  · rw [sumN_s hc, hk]
    have e1 : (sumN u K - (sumN u c.toNat + k)) * S = (sumN u K - sumN u c.toNat) * S - k * S := by rw [← Int.sub_mul]; congr 1; omega
    have e2 : sumN (flN k W V Y E n (fun q => G.1 q + k * C q, G.2)).2 K * S' ≤ (sumN G.2 K + k * sumN W n) * S' := Int.mul_le_mul_of_nonneg_right j2 hS'
    rw [Int.add_mul, Int.mul_assoc, ← hS] at e2
    omega
theorem Wk.le {K f g S S' T Z u c G} (h : Wk K f g S S' T Z u c G) (hc : 0 ≤ c) (hcK : c ≤ K) (hS : 1 ≤ S) (hS' : 0 ≤ S') (hu : ∀ x : Int, 0 ≤ x → x < K → 0 ≤ u x) {x : Int} (h0 : c ≤ x) (h1 : x < K) : u x ≤ T := by
  have a := (sumN_tl (g := u) K c.toNat (by omega) hu).2 x (by omega) h1
  have b := hu x (by omega) h1
  have c1 : 0 ≤ sumN G.2 K * S' := Int.mul_nonneg (sumN_nn K h.2.2) hS'
  have d1 : (sumN u K - sumN u c.toNat) * 1 ≤ (sumN u K - sumN u c.toNat) * S := Int.mul_le_mul_of_nonneg_left hS (by omega)
  have := h.2.1
  omega
theorem ofI_add {a b : Int} : Int64.ofInt (a + b) = Int64.ofInt a + Int64.ofInt b := Int64.ofInt_add _ _
theorem ofI_mul {a b : Int} : Int64.ofInt (a * b) = Int64.ofInt a * Int64.ofInt b := Int64.ofInt_mul _ _
theorem ofI_sub {a b : Int} : Int64.ofInt (a - b) = Int64.ofInt a - Int64.ofInt b := Int64.ofInt_sub _ _
