/-! LAYER 3, THE ROWS: in words of our own, and that settle finds them -/
def rG (R : RT) (V : Int → Int → Int64) (w x r i : Int) : Int64 := G0 R V w x (dr r 0) (dr r 1) (dr r 2) i
def cB (R : RT) (w x s e : Int) : Bool := decide (canP R w x s e)
def mSR (R : RT) (V : Int → Int → Int64) (w x s p q : Int) : Int64 := mst (cB R w x s) (fun e => rG R V w x (ix s p q e) s) 4
def gnR (R : RT) (V : Int → Int → Int64) (w x r : Int) : Int64 := 0 + (mSR R V w x 0 (dr r 1) (dr r 2) - rG R V w x r 0) + (mSR R V w x 1 (dr r 0) (dr r 2) - rG R V w x r 1) + (mSR R V w x 2 (dr r 0) (dr r 1) - rG R V w x r 2)
def smR (R : RT) (V : Int → Int → Int64) (w x r : Int) : Int64 := 0 + rG R V w x r 0 + rG R V w x r 1 + rG R V w x r 2
def okR (R : RT) (w x r : Int) : Bool := decide (canP R w x 0 (dr r 0) ∧ canP R w x 1 (dr r 1) ∧ canP R w x 2 (dr r 2))
def rowS (R : RT) (V : Int → Int → Int64) (w x : Int) : Int := pick (okR R w x) (gnR R V w x) (smR R V w x) 124
/-- WORTH, from the last week back -/
def Wf (R : RT) : Nat → Int → Int → Int64
  | 0 => fun _ _ => 0
  | n + 1 => fun x i => if x = 0 then 0 else rG R (Wf R n) ((n + 1 : Nat) : Int) x (rowS R (Wf R n) ((n + 1 : Nat) : Int) x) i
/-- THE ROW and the GAIN of a state -/
def Rwf (R : RT) (w x : Int) : Int := rowS R (Wf R (w - 1).toNat) w x
def Gnf (R : RT) (w x : Int) : Int64 := gnR R (Wf R (w - 1).toNat) w x (Rwf R w x)
theorem Wf_at {R : RT} {w x i : Int} (hw : 1 ≤ w) (hx : x ≠ 0) : Wf R w.toNat x i = rG R (Wf R (w - 1).toNat) w x (Rwf R w x) i := by
  obtain ⟨n, hn⟩ : ∃ n : Nat, w = ((n + 1 : Nat) : Int) := ⟨(w - 1).toNat, by omega⟩
  subst hn
  have e1 : (((n + 1 : Nat) : Int)).toNat = n + 1 := by omega
  have e2 : (((n + 1 : Nat) : Int) - 1).toNat = n := by omega
  unfold Rwf
  rw [e1, e2]
  show (if x = 0 then (0 : Int64) else _) = _
  rw [if_neg hx]
theorem rowS_R {R V w x} : 0 ≤ rowS R V w x ∧ rowS R V w x ≤ 124 := pick_R 124
theorem ok0 {R w x} : okR R w x 0 = true := by
  have e0 : dr 0 0 = 0 := rfl
  have e1 : dr 0 1 = 0 := rfl
  have e2 : dr 0 2 = 0 := rfl
  unfold okR
  rw [e0, e1, e2]
  exact decide_eq_true ⟨Or.inl rfl, Or.inl rfl, Or.inl rfl⟩
theorem rowS_ok {R V w x} : okR R w x (rowS R V w x) = true := pick_ok ok0 124
/-- the digits of the state behind -/
def ad (x m s : Int) : Int := if dg x s = 1 ∧ dr m s = 1 then 0 else if 0 < dg x s ∧ dr m s ≠ 2 then dg x s - dr m s else 0
theorem ad_R {x m s : Int} (hm : dr m s ≤ 2) : 0 ≤ ad x m s ∨ dg x s < dr m s := by
  have := dr_R m s
  unfold ad; repeat' split
  all_goals omega
theorem ad_B {x m s : Int} (hm : dr m s ≤ 2) : 0 ≤ ad x m s ∧ ad x m s ≤ dg x s := by
  have h1 := dr_R m s
  have h2 := dg_R x s
  unfold ad
  by_cases ha : dg x s = 1 ∧ dr m s = 1
  · rw [if_pos ha]; omega
  · rw [if_neg ha]
    split
    · rename_i h
      have : dr m s = 0 ∨ dr m s = 1 := by omega
      omega
    · omega
theorem dg_aft {x m s : Int} (h0 : dr m 0 ≤ 2) (h1 : dr m 1 ≤ 2) (h2 : dr m 2 ≤ 2) (hs : 0 ≤ s ∧ s < 3) : dg (aft x m) s = ad x m s := by
  have g0 := dg_R x 0
  have g1 := dg_R x 1
  have g2 := dg_R x 2
  have a0 := ad_B (x := x) h0
  have a1 := ad_B (x := x) h1
  have a2 := ad_B (x := x) h2
  have e : aft x m = ad x m 0 + ad x m 1 * 5 + ad x m 2 * 25 := by
    have t : ∀ s : Int, af1 x m s = ad x m s * su s := by
      intro s
      unfold af1 ad
      repeat' split
      all_goals simp
    have u0 : su 0 = 1 := rfl
    have u1 : su 1 = 5 := rfl
    have u2 : su 2 = 25 := rfl
    unfold aft
    rw [t, t, t, u0, u1, u2]
    omega
  rcases (by omega : s = 0 ∨ s = 1 ∨ s = 2) with rfl | rfl | rfl
  · show aft x m % 5 = _; omega
  · show aft x m / 5 % 5 = _; omega
  · show aft x m / 25 % 5 = _; omega
theorem EE_congr {R V V' w x a b c i} (h : V (aft x (mm a b c)) i = V' (aft x (mm a b c)) i) : EE R V w x a b c i = EE R V' w x a b c i := by
  unfold EE; rw [h]
theorem G0_congr {R : RT} {V V' : Int → Int → Int64} {w x d p q i : Int} (h : ∀ a b c : Int, 0 ≤ a → a < 3 → 0 ≤ b → b < 3 → 0 ≤ c → c < 3 → V (aft x (mm a b c)) i = V' (aft x (mm a b c)) i)
    (hd : R 4 1 ≤ 0 → 0 ≤ d ∧ d < 3) (hp : R 4 1 ≤ 1 → 0 ≤ p ∧ p < 3) (hq : R 4 1 ≤ 2 → 0 ≤ q ∧ q < 3) : G0 R V w x d p q i = G0 R V' w x d p q i := by
  have k2 : ∀ a b : Int, 0 ≤ a → a < 3 → 0 ≤ b → b < 3 → G2 R V w x a b q i = G2 R V' w x a b q i := by
    intro a b a1 a2 b1 b2
    unfold G2
    by_cases hn : 2 < R 4 1
    · rw [if_pos hn, if_pos hn, EE_congr (h a b 0 a1 a2 b1 b2 (by omega) (by omega)), EE_congr (h a b 1 a1 a2 b1 b2 (by omega) (by omega)), EE_congr (h a b 2 a1 a2 b1 b2 (by omega) (by omega))]
    · have := hq (by omega)
      rw [if_neg hn, if_neg hn, EE_congr (h a b q a1 a2 b1 b2 this.1 this.2)]
  have k1 : ∀ a : Int, 0 ≤ a → a < 3 → G1 R V w x a p q i = G1 R V' w x a p q i := by
    intro a a1 a2
    unfold G1
    by_cases hn : 1 < R 4 1
    · rw [if_pos hn, if_pos hn, k2 a 0 a1 a2 (by omega) (by omega), k2 a 1 a1 a2 (by omega) (by omega), k2 a 2 a1 a2 (by omega) (by omega)]
    · have := hp (by omega)
      rw [if_neg hn, if_neg hn, k2 a p a1 a2 this.1 this.2]
  unfold G0
  by_cases hn : 0 < R 4 1
  · rw [if_pos hn, if_pos hn, k1 0 (by omega) (by omega), k1 1 (by omega) (by omega), k1 2 (by omega) (by omega)]
  · have := hd (by omega)
    rw [if_neg hn, if_neg hn, k1 d this.1 this.2]
theorem nin_of {R : RT} (h : WR R) {x : Int} (hf : fitsP R x) {s : Int} (a1 : 0 ≤ s) (a2 : s < 3) (a3 : R 4 1 ≤ s) : dg x s = 0 := by
  have hb := h.b
  obtain ⟨f0, f1, f2⟩ := hf
  have h0 := dg_R x s
  rcases (by omega : s = 0 ∨ s = 1 ∨ s = 2) with rfl | rfl | rfl <;> omega
theorem can_nin {R : RT} (h : WR R) {w x : Int} (hf : fitsP R x) {s e : Int} (a1 : 0 ≤ s) (a2 : s < 3) (a3 : R 4 1 ≤ s) (hc : canP R w x s e) : e = 0 := by
  have := nin_of h hf a1 a2 a3
  rcases hc with hc | hc
  · exact hc
  · omega
/-- worths that agree behind a state give it one row -/
def Agr (x : Int) (V V' : Int → Int → Int64) : Prop := ∀ a b c i : Int, 0 ≤ a → a < 3 → 0 ≤ b → b < 3 → 0 ≤ c → c < 3 → 0 ≤ i → i < 3 → V (aft x (mm a b c)) i = V' (aft x (mm a b c)) i
theorem rG_congr {R : RT} (h : WR R) {V V' w x} (hf : fitsP R x) (ha : Agr x V V') {d p q i : Int} (hi : 0 ≤ i ∧ i < 3) (c0 : canP R w x 0 d) (c1 : canP R w x 1 p) (c2 : canP R w x 2 q) : G0 R V w x d p q i = G0 R V' w x d p q i :=
  G0_congr (fun a b c a1 a2 a3 a4 a5 a6 => ha a b c i a1 a2 a3 a4 a5 a6 hi.1 hi.2) (fun hn => by have := can_nin h hf (by omega) (by omega) (by omega) c0; omega) (fun hn => by have := can_nin h hf (by omega) (by omega) (by omega) c1; omega) (fun hn => by have := can_nin h hf (by omega) (by omega) (by omega) c2; omega)
theorem dr_ix {s p q e : Int} (hp : 0 ≤ p ∧ p < 5) (hq : 0 ≤ q ∧ q < 5) (he : 0 ≤ e ∧ e < 5) (hs : 0 ≤ s ∧ s < 3) : (s = 0 → dr (ix s p q e) 0 = e ∧ dr (ix s p q e) 1 = p ∧ dr (ix s p q e) 2 = q) ∧ (s = 1 → dr (ix s p q e) 0 = p ∧ dr (ix s p q e) 1 = e ∧ dr (ix s p q e) 2 = q) ∧ (s = 2 → dr (ix s p q e) 0 = p ∧ dr (ix s p q e) 1 = q ∧ dr (ix s p q e) 2 = e) := by
  refine ⟨?_, ?_, ?_⟩
  · rintro rfl; exact dr_mm he hp hq
  · rintro rfl; exact dr_mm hp he hq
  · rintro rfl; exact dr_mm hp hq he
theorem ok_of {R w x r} (h : okR R w x r = true) : canP R w x 0 (dr r 0) ∧ canP R w x 1 (dr r 1) ∧ canP R w x 2 (dr r 2) := of_decide_eq_true h
theorem rGr_congr {R : RT} (h : WR R) {V V' w x} (hf : fitsP R x) (ha : Agr x V V') {r i : Int} (hi : 0 ≤ i ∧ i < 3) (hr : okR R w x r = true) : rG R V w x r i = rG R V' w x r i := by
  obtain ⟨c0, c1, c2⟩ := ok_of hr
  exact rG_congr h hf ha hi c0 c1 c2
theorem gnR_congr {R : RT} (h : WR R) {V V' w x} (hf : fitsP R x) (ha : Agr x V V') {r : Int} (hr : okR R w x r = true) : gnR R V w x r = gnR R V' w x r := by
  obtain ⟨c0, c1, c2⟩ := ok_of hr
  have d0 := dr_R r 0
  have d1 := dr_R r 1
  have d2 := dr_R r 2
  have k0 : mSR R V w x 0 (dr r 1) (dr r 2) = mSR R V' w x 0 (dr r 1) (dr r 2) := by
    have z : ∀ e : Int, 0 ≤ e → e ≤ 4 → canP R w x 0 e → rG R V w x (ix 0 (dr r 1) (dr r 2) e) 0 = rG R V' w x (ix 0 (dr r 1) (dr r 2) e) 0 := by
      intro e e1 e2 he
      obtain ⟨t0, t1, t2⟩ := (dr_ix (s := 0) (p := dr r 1) (q := dr r 2) (e := e) (by omega) (by omega) (by omega) (by omega)).1 rfl
      unfold rG
      rw [t0, t1, t2]
      exact rG_congr h hf ha (by omega) he c1 c2
    exact mst_congr 4 (fun _ _ _ => rfl) (z 0 (by omega) (by omega) (Or.inl rfl)) (fun e e1 e2 he => z e e1 e2 (of_decide_eq_true he))
  have k1 : mSR R V w x 1 (dr r 0) (dr r 2) = mSR R V' w x 1 (dr r 0) (dr r 2) := by
    have z : ∀ e : Int, 0 ≤ e → e ≤ 4 → canP R w x 1 e → rG R V w x (ix 1 (dr r 0) (dr r 2) e) 1 = rG R V' w x (ix 1 (dr r 0) (dr r 2) e) 1 := by
      intro e e1 e2 he
      obtain ⟨t0, t1, t2⟩ := (dr_ix (s := 1) (p := dr r 0) (q := dr r 2) (e := e) (by omega) (by omega) (by omega) (by omega)).2.1 rfl
      unfold rG
      rw [t0, t1, t2]
      exact rG_congr h hf ha (by omega) c0 he c2
    exact mst_congr 4 (fun _ _ _ => rfl) (z 0 (by omega) (by omega) (Or.inl rfl)) (fun e e1 e2 he => z e e1 e2 (of_decide_eq_true he))
  have k2 : mSR R V w x 2 (dr r 0) (dr r 1) = mSR R V' w x 2 (dr r 0) (dr r 1) := by
    have z : ∀ e : Int, 0 ≤ e → e ≤ 4 → canP R w x 2 e → rG R V w x (ix 2 (dr r 0) (dr r 1) e) 2 = rG R V' w x (ix 2 (dr r 0) (dr r 1) e) 2 := by
      intro e e1 e2 he
      obtain ⟨t0, t1, t2⟩ := (dr_ix (s := 2) (p := dr r 0) (q := dr r 1) (e := e) (by omega) (by omega) (by omega) (by omega)).2.2 rfl
      unfold rG
      rw [t0, t1, t2]
      exact rG_congr h hf ha (by omega) c0 c1 he
    exact mst_congr 4 (fun _ _ _ => rfl) (z 0 (by omega) (by omega) (Or.inl rfl)) (fun e e1 e2 he => z e e1 e2 (of_decide_eq_true he))
  unfold gnR
  rw [k0, k1, k2, rGr_congr h hf ha (by omega) hr, rGr_congr h hf ha (i := 1) (by omega) hr, rGr_congr h hf ha (i := 2) (by omega) hr]
theorem smR_congr {R : RT} (h : WR R) {V V' w x} (hf : fitsP R x) (ha : Agr x V V') {r : Int} (hr : okR R w x r = true) : smR R V w x r = smR R V' w x r := by
  unfold smR
  rw [rGr_congr h hf ha (by omega) hr, rGr_congr h hf ha (i := 1) (by omega) hr, rGr_congr h hf ha (i := 2) (by omega) hr]
theorem rowS_congr {R : RT} (h : WR R) {V V' w x} (hf : fitsP R x) (ha : Agr x V V') : rowS R V w x = rowS R V' w x :=
  pick_congr ok0 124 (fun _ _ _ => rfl) (fun r _ _ hr => ⟨gnR_congr h hf ha hr, smR_congr h hf ha hr⟩)
