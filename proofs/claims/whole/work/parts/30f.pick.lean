/-! LAYER 3, ONE THAT IS ALONE: the row that is chosen -/
theorem pick_mul {ok : Int → Bool} {g sm : Int → Int64} {u : Nat} (hu : 1 ≤ u) (hok : ∀ r : Int, 0 ≤ r → ok r = true → ∃ e : Int, r = e * u) : ∀ D : Nat, pick ok g sm (D * u) = pick (fun e => ok (e * u)) (fun e => g (e * u)) (fun e => sm (e * u)) D * u
  | 0 => by
    rw [Nat.zero_mul]
    show (0 : Int) = 0 * _
    omega
  | D + 1 => by
    have ih := pick_mul (g := g) (sm := sm) hu hok D
    have hsk : pick ok g sm (D * u + (u - 1)) = pick ok g sm (D * u) := pick_skip (D * u) (u - 1) (fun j j0 j1 => by
      cases hj : ok (j : Int) with
      | false => rfl
      | true =>
        exfalso
        obtain ⟨e, he⟩ := hok (j : Int) (by omega) hj
        have h1 : (D : Int) * u < e * u := by rw [← he]; have : ((D * u : Nat) : Int) = (D : Int) * u := by simp
                                              omega
        have h2 : e * u < ((D : Int) + 1) * u := by
          rw [← he, Int.add_mul, Int.one_mul]
          have : ((D * u : Nat) : Int) = (D : Int) * u := by simp
          omega
        have hu0 : (0 : Int) < u := by omega
        have a := Int.lt_of_mul_lt_mul_right h1 (by omega)
        have b := Int.lt_of_mul_lt_mul_right h2 (by omega)
        omega)
    have e1 : (D + 1) * u = (D * u + (u - 1)) + 1 := by rw [Nat.add_mul, Nat.one_mul]; omega
    have ec : (((D * u + (u - 1)) + 1 : Nat) : Int) = ((D + 1 : Nat) : Int) * u := by rw [← e1]; simp
    rw [e1]
    show (if (g (((D * u + (u - 1)) + 1 : Nat) : Int) < g (pick ok g sm (D * u + (u - 1))) ∨ g (((D * u + (u - 1)) + 1 : Nat) : Int) = g (pick ok g sm (D * u + (u - 1))) ∧ sm (pick ok g sm (D * u + (u - 1))) < sm (((D * u + (u - 1)) + 1 : Nat) : Int)) ∧ ok (((D * u + (u - 1)) + 1 : Nat) : Int) = true then (((D * u + (u - 1)) + 1 : Nat) : Int) else pick ok g sm (D * u + (u - 1))) = (if (g (((D + 1 : Nat) : Int) * u) < g (pick (fun e => ok (e * u)) (fun e => g (e * u)) (fun e => sm (e * u)) D * u) ∨ g (((D + 1 : Nat) : Int) * u) = g (pick (fun e => ok (e * u)) (fun e => g (e * u)) (fun e => sm (e * u)) D * u) ∧ sm (pick (fun e => ok (e * u)) (fun e => g (e * u)) (fun e => sm (e * u)) D * u) < sm (((D + 1 : Nat) : Int) * u)) ∧ ok (((D + 1 : Nat) : Int) * u) = true then ((D + 1 : Nat) : Int) else pick (fun e => ok (e * u)) (fun e => g (e * u)) (fun e => sm (e * u)) D) * u
    rw [hsk, ih, ec]
    split <;> rfl
/-- the first of the best -/
def fmx (c : Int → Bool) (v : Int → Int64) : Nat → Int
  | 0 => 0
  | n + 1 => if v (fmx c v n) < v ((n + 1 : Nat) : Int) ∧ c ((n + 1 : Nat) : Int) = true then ((n + 1 : Nat) : Int) else fmx c v n
theorem fmx_R {c : Int → Bool} {v : Int → Int64} : ∀ n : Nat, 0 ≤ fmx c v n ∧ fmx c v n ≤ n
  | 0 => by show (0 : Int) ≤ 0 ∧ (0 : Int) ≤ _; omega
  | n + 1 => by
    have := fmx_R (c := c) (v := v) n
    have e : fmx c v (n + 1) = if v (fmx c v n) < v ((n + 1 : Nat) : Int) ∧ c ((n + 1 : Nat) : Int) = true then ((n + 1 : Nat) : Int) else fmx c v n := rfl
    rw [e]
    split <;> omega
theorem fmx_ok {c : Int → Bool} {v : Int → Int64} (h0 : c 0 = true) : ∀ n : Nat, c (fmx c v n) = true
  | 0 => h0
  | n + 1 => by
    have := fmx_ok (v := v) h0 n
    have e : fmx c v (n + 1) = if v (fmx c v n) < v ((n + 1 : Nat) : Int) ∧ c ((n + 1 : Nat) : Int) = true then ((n + 1 : Nat) : Int) else fmx c v n := rfl
    rw [e]
    split
    · rename_i hh; exact hh.2
    · exact this
/-- least gain, then greatest sum, then the first: of one alone that is the first of the best -/
theorem pick_fmx {c : Int → Bool} {v g : Int → Int64} {X : Int64} (h0 : c 0 = true) (hg : ∀ e : Int, 0 ≤ e → c e = true → g e = X - v e) (hb : ∀ e : Int, 0 ≤ e → c e = true → Bd (v e) 800000000000000) (hX : Bd X 800000000000000) : ∀ n : Nat, pick c g v n = fmx c v n
  | 0 => rfl
  | n + 1 => by
    have ih := pick_fmx (v := v) (g := g) h0 hg hb hX n
    have hr := fmx_R (c := c) (v := v) n
    have ho := fmx_ok (v := v) h0 n
    have tI : ∀ e : Int, 0 ≤ e → c e = true → (g e).toInt = X.toInt - (v e).toInt := fun e e0 he => by
      have a := hb e e0 he
      unfold Bd at a hX
      rw [hg e e0 he, ← toI_of (z := X.toInt - (v e).toInt) (by omega), ofI_sub, Int64.ofInt_toInt, Int64.ofInt_toInt]
    show (if (g ((n + 1 : Nat) : Int) < g (pick c g v n) ∨ g ((n + 1 : Nat) : Int) = g (pick c g v n) ∧ v (pick c g v n) < v ((n + 1 : Nat) : Int)) ∧ c ((n + 1 : Nat) : Int) = true then ((n + 1 : Nat) : Int) else pick c g v n) = (if v (fmx c v n) < v ((n + 1 : Nat) : Int) ∧ c ((n + 1 : Nat) : Int) = true then ((n + 1 : Nat) : Int) else fmx c v n)
    rw [ih]
    by_cases hc : c ((n + 1 : Nat) : Int) = true
    · have t1 := tI _ (by omega) hc
      have t2 := tI _ hr.1 ho
      have hiff : (g ((n + 1 : Nat) : Int) < g (fmx c v n) ∨ g ((n + 1 : Nat) : Int) = g (fmx c v n) ∧ v (fmx c v n) < v ((n + 1 : Nat) : Int)) ↔ v (fmx c v n) < v ((n + 1 : Nat) : Int) := by
        rw [Int64.lt_iff_toInt_lt, Int64.lt_iff_toInt_lt, t1, t2]
        constructor
        · rintro (z | z)
          · omega
          · exact z.2
        · intro z; left; omega
      by_cases hv : v (fmx c v n) < v ((n + 1 : Nat) : Int)
      · rw [if_pos ⟨hiff.mpr hv, hc⟩, if_pos ⟨hv, hc⟩]
      · rw [if_neg (fun z => hv (hiff.mp z.1)), if_neg (fun z => hv z.1)]
    · rw [if_neg (fun z => hc z.2), if_neg (fun z => hc z.2)]
