/-! LAYER 3, ONE THAT IS ALONE: by whole numbers -/
def chA (R : RT) (s d : Int) : Int := if d = 0 then 0 else chc R s d
def mdA (R : RT) (w o : Int) (pv : Int → Int) : Int := if o = 1 then R 4 3 * scI 1 (w - 1) else pv (o - 1)
def aBy (R : RT) (s w o : Int) (pv : Int → Int) (e : Int) : Int := if e = 4 then 0 else -(cst R s e) * scI 1 w + chA R s e * mdA R w o pv + (4 - chA R s e) * pv o
def fmi (c : Int → Bool) (v : Int → Int) : Nat → Int
  | 0 => 0
  | n + 1 => if v (fmi c v n) < v ((n + 1 : Nat) : Int) ∧ c ((n + 1 : Nat) : Int) = true then ((n + 1 : Nat) : Int) else fmi c v n
def aI (R : RT) (s : Int) : Nat → Int → Int
  | 0 => fun _ => 0
  | n + 1 => fun o => if o ≤ 0 then 0 else aBy R s ((n + 1 : Nat) : Int) o (aI R s n) (fmi (cB R ((n + 1 : Nat) : Int) (o * su s) s) (aBy R s ((n + 1 : Nat) : Int) o (aI R s n)) 4)
def aD (R : RT) (s w o : Int) : Int := if w ≤ 0 ∨ o ≤ 0 then 0 else fmi (cB R w (o * su s) s) (aBy R s w o (aI R s (w - 1).toNat)) 4
theorem fmi_R {c : Int → Bool} {v : Int → Int} : ∀ n : Nat, 0 ≤ fmi c v n ∧ fmi c v n ≤ n
  | 0 => by show (0 : Int) ≤ 0 ∧ (0 : Int) ≤ _; omega
  | n + 1 => by
    have := fmi_R (c := c) (v := v) n
    show 0 ≤ (if v (fmi c v n) < v ((n + 1 : Nat) : Int) ∧ c ((n + 1 : Nat) : Int) = true then ((n + 1 : Nat) : Int) else fmi c v n) ∧ (if v (fmi c v n) < v ((n + 1 : Nat) : Int) ∧ c ((n + 1 : Nat) : Int) = true then ((n + 1 : Nat) : Int) else fmi c v n) ≤ _
    split <;> omega
theorem fmi_0 {c : Int → Bool} {v : Int → Int} : ∀ n : Nat, v 0 ≤ v (fmi c v n)
  | 0 => Int.le_refl _
  | n + 1 => by
    have := fmi_0 (c := c) (v := v) n
    show v 0 ≤ v (if v (fmi c v n) < v ((n + 1 : Nat) : Int) ∧ c ((n + 1 : Nat) : Int) = true then ((n + 1 : Nat) : Int) else fmi c v n)
    split
    · next h => omega
    · exact this
theorem fmi_ok {c : Int → Bool} {v : Int → Int} (h0 : c 0 = true) : ∀ n : Nat, c (fmi c v n) = true
  | 0 => h0
  | n + 1 => by
    show c (if v (fmi c v n) < v ((n + 1 : Nat) : Int) ∧ c ((n + 1 : Nat) : Int) = true then ((n + 1 : Nat) : Int) else fmi c v n) = true
    split
    · next h => exact h.2
    · exact fmi_ok h0 n
theorem lt_ofI {a b : Int} (ha : -9000000000000000000 ≤ a ∧ a ≤ 9000000000000000000) (hb : -9000000000000000000 ≤ b ∧ b ≤ 9000000000000000000) : Int64.ofInt a < Int64.ofInt b ↔ a < b := by
  rw [Int64.lt_iff_toInt_lt, toI_of ha, toI_of hb]
theorem fmx_fmi {c : Int → Bool} {v : Int → Int64} {u : Int → Int} {K : Int} (hK : 0 < K) (h0 : c 0 = true) (hv : ∀ e : Int, 0 ≤ e → c e = true → v e = Int64.ofInt (K * u e) ∧ -9000000000000000000 ≤ K * u e ∧ K * u e ≤ 9000000000000000000) : ∀ n : Nat, fmx c v n = fmi c u n
  | 0 => rfl
  | n + 1 => by
    have ih := fmx_fmi (v := v) (u := u) hK h0 hv n
    have hr := fmi_R (c := c) (v := u) n
    have ho := fmi_ok (v := u) h0 n
    show (if v (fmx c v n) < v ((n + 1 : Nat) : Int) ∧ c ((n + 1 : Nat) : Int) = true then ((n + 1 : Nat) : Int) else fmx c v n) = (if u (fmi c u n) < u ((n + 1 : Nat) : Int) ∧ c ((n + 1 : Nat) : Int) = true then ((n + 1 : Nat) : Int) else fmi c u n)
    rw [ih]
    by_cases hc : c ((n + 1 : Nat) : Int) = true
    · obtain ⟨e1, b1⟩ := hv _ (by omega) hc
      obtain ⟨e2, b2⟩ := hv _ hr.1 ho
      have hiff : v (fmi c u n) < v ((n + 1 : Nat) : Int) ↔ u (fmi c u n) < u ((n + 1 : Nat) : Int) := by
        rw [e1, e2, lt_ofI b2 b1]
        exact ⟨fun z => Int.lt_of_mul_lt_mul_left z (by omega), fun z => Int.mul_lt_mul_of_pos_left z hK⟩
      simp only [hiff]
    · rw [if_neg (fun z => hc z.2), if_neg (fun z => hc z.2)]
theorem scI1_0 : scI 1 0 = 1 := rfl
theorem scI1_s {w : Int} (hw : 1 ≤ w ∧ w ≤ 6) : scI 1 w = 4 * scI 1 (w - 1) := scI_s (by omega) hw
theorem scI1_R {w : Int} (hw : 0 ≤ w ∧ w ≤ 6) : 1 ≤ scI 1 w ∧ scI 1 w ≤ 4096 := by
  rcases (by omega : w = 0 ∨ w = 1 ∨ w = 2 ∨ w = 3 ∨ w = 4 ∨ w = 5 ∨ w = 6) with rfl | rfl | rfl | rfl | rfl | rfl | rfl <;> decide +kernel
theorem scI_split {n w : Int} (hn : 1 ≤ n ∧ n ≤ 3) (hw : 0 ≤ w ∧ w ≤ 6) : scI n w = scI (n - 1) w * scI 1 w := by
  rcases (by omega : n = 1 ∨ n = 2 ∨ n = 3) with rfl | rfl | rfl <;> rcases (by omega : w = 0 ∨ w = 1 ∨ w = 2 ∨ w = 3 ∨ w = 4 ∨ w = 5 ∨ w = 6) with rfl | rfl | rfl | rfl | rfl | rfl | rfl <;> rfl
theorem chA_R {R : RT} (h : WR R) {s e : Int} (hs : 0 ≤ s ∧ s < 3) (he : 0 ≤ e ∧ e < 5) : 0 ≤ chA R s e ∧ chA R s e ≤ 4 := by
  have := h.chc s e hs he
  unfold chA; split <;> omega
theorem aBy_b {R : RT} (h : WR R) {s w o e : Int} {pv : Int → Int} (hs : 0 ≤ s ∧ s < 3) (hw : 1 ≤ w ∧ w ≤ 6) (he : 0 ≤ e ∧ e < 5) (hp : ∀ u : Int, 0 ≤ pv u ∧ pv u ≤ scI 1 (w - 1) * 10009) : -(198 * scI 1 w) ≤ aBy R s w o pv e ∧ aBy R s w o pv e ≤ scI 1 w * 10009 := by
  have hb := h.b
  have hc := chA_R h hs he
  have hk := h.cst s e hs he
  have s1 := scI1_R (w := w) (by omega)
  have s0 := scI1_R (w := w - 1) (by omega)
  have ss := scI1_s hw
  have h1 : 0 ≤ mdA R w o pv ∧ mdA R w o pv ≤ scI 1 (w - 1) * 10009 := by
    unfold mdA
    split
    · have a := Int.mul_nonneg (a := R 4 3) (b := scI 1 (w - 1)) (by omega) (by omega)
      have b := Int.mul_le_mul_of_nonneg_right (c := scI 1 (w - 1)) hb.2.2.1.2 (by omega)
      omega
    · exact hp _
  have h2 := hp o
  have hk1 : 0 ≤ cst R s e * scI 1 w := Int.mul_nonneg (by omega) (by omega)
  have hk2 : cst R s e * scI 1 w ≤ 198 * scI 1 w := Int.mul_le_mul_of_nonneg_right hk.2 (by omega)
  unfold aBy
  split
  · omega
  · rw [Int.neg_mul]
    generalize cst R s e * scI 1 w = kk at *
    generalize mdA R w o pv = m at *
    generalize pv o = p at *
    generalize hcc : chA R s e = c at *
    rcases (by omega : c = 0 ∨ c = 1 ∨ c = 2 ∨ c = 3 ∨ c = 4) with rfl | rfl | rfl | rfl | rfl <;> omega
theorem aI_b {R : RT} (h : WR R) {s : Int} (hs : 0 ≤ s ∧ s < 3) : ∀ (k : Nat) (o : Int), k ≤ 6 → 0 ≤ aI R s k o ∧ aI R s k o ≤ scI 1 (k : Int) * 10009
  | 0, o, _ => by
    show (0 : Int) ≤ 0 ∧ (0 : Int) ≤ scI 1 0 * 10009
    rw [scI1_0]; omega
  | k + 1, o, hk => by
    have ih : ∀ u : Int, 0 ≤ aI R s k u ∧ aI R s k u ≤ scI 1 (((k + 1 : Nat) : Int) - 1) * 10009 := fun u => by
      have := aI_b h hs k u (by omega)
      rw [show ((k + 1 : Nat) : Int) - 1 = (k : Int) by omega]; exact this
    have s1 := scI1_R (w := ((k + 1 : Nat) : Int)) (by omega)
    show 0 ≤ (if o ≤ 0 then 0 else aBy R s ((k + 1 : Nat) : Int) o (aI R s k) (fmi (cB R ((k + 1 : Nat) : Int) (o * su s) s) (aBy R s ((k + 1 : Nat) : Int) o (aI R s k)) 4)) ∧ (if o ≤ 0 then 0 else aBy R s ((k + 1 : Nat) : Int) o (aI R s k) (fmi (cB R ((k + 1 : Nat) : Int) (o * su s) s) (aBy R s ((k + 1 : Nat) : Int) o (aI R s k)) 4)) ≤ _
    split
    · omega
    · have f := fmi_R (c := cB R ((k + 1 : Nat) : Int) (o * su s) s) (v := aBy R s ((k + 1 : Nat) : Int) o (aI R s k)) 4
      have f0 := fmi_0 (c := cB R ((k + 1 : Nat) : Int) (o * su s) s) (v := aBy R s ((k + 1 : Nat) : Int) o (aI R s k)) 4
      refine ⟨Int.le_trans ?_ f0, (aBy_b h hs (by omega) (by omega) ih).2⟩
      unfold aBy chA
      rw [if_neg (by omega), if_pos rfl, cst_z h hs (Or.inl rfl)]
      have := ih o
      omega
theorem aI_at {R : RT} {s w o : Int} (hw : 1 ≤ w) (ho : 1 ≤ o) : aI R s w.toNat o = aBy R s w o (aI R s (w - 1).toNat) (aD R s w o) := by
  obtain ⟨n, hn⟩ : ∃ n : Nat, w = ((n + 1 : Nat) : Int) := ⟨(w - 1).toNat, by omega⟩
  subst hn
  have e : (((n + 1 : Nat) : Int) - 1).toNat = n := by omega
  unfold aD
  rw [if_neg (by omega), e]
  show (if o ≤ 0 then 0 else _) = _
  rw [if_neg (by omega)]
theorem nxt_one {s o : Int} (hs : 0 ≤ s ∧ s < 3) (ho : 0 ≤ o ∧ o ≤ 4) : nxt (o * su s) s = 9 := by
  have k : ∀ (j n : Int), 0 ≤ j → j < 3 → nx1 (o * su s) s j n = n := fun j n j0 j3 => by
    unfold nx1
    rw [dg_one hs ho ⟨j0, j3⟩]
    by_cases hj : j = s
    · rw [if_neg (fun z => z.1 hj)]
    · rw [if_neg hj, if_neg (fun z => by omega)]
  unfold nxt
  rw [k _ _ (by omega) (by omega), k _ _ (by omega) (by omega), k _ _ (by omega) (by omega)]
theorem chn_one {R : RT} (h : WR R) {w s o e : Int} (hs : 0 ≤ s ∧ s < 3) (ho : 0 ≤ o ∧ o ≤ 4) (he : 0 ≤ e ∧ e < 4) (hc : canP R w (o * su s) s e) : chn R w (o * su s) s e = chA R s e := by
  have := h.chc s e hs (by omega)
  have hm : mre R (o * su s) s = 0 := by
    unfold mre
    rw [nxt_one hs ho, dg_one hs ho hs, if_pos rfl, if_neg (by omega)]
  unfold chn chA
  by_cases h0 : e = 0
  · rw [if_pos h0, if_neg (by omega)]
  · rw [if_neg h0, if_pos ⟨hc, by omega, by omega⟩, hm]
    split <;> omega
/-- digits of the week's outcome -/
def mo (s m : Int) : Int := mm (if s = 0 then m else 0) (if s = 1 then m else 0) (if s = 2 then m else 0)
theorem dr_mo {s m k : Int} (hs : 0 ≤ s ∧ s < 3) (hm : 0 ≤ m ∧ m < 5) (hk : 0 ≤ k ∧ k < 3) : dr (mo s m) k = if k = s then m else 0 := by
  obtain ⟨r0, r1, r2⟩ := dr_mm (a := if s = 0 then m else 0) (b := if s = 1 then m else 0) (c := if s = 2 then m else 0) (by split <;> omega) (by split <;> omega) (by split <;> omega)
  unfold mo
  rcases (by omega : k = 0 ∨ k = 1 ∨ k = 2) with rfl | rfl | rfl
  · rw [r0]; by_cases z : s = 0
    · rw [if_pos z, if_pos z.symm]
    · rw [if_neg z, if_neg (fun q => z q.symm)]
  · rw [r1]; by_cases z : s = 1
    · rw [if_pos z, if_pos z.symm]
    · rw [if_neg z, if_neg (fun q => z q.symm)]
  · rw [r2]; by_cases z : s = 2
    · rw [if_pos z, if_pos z.symm]
    · rw [if_neg z, if_neg (fun q => z q.symm)]
theorem won_mo {s o m : Int} (hs : 0 ≤ s ∧ s < 3) (ho : 0 ≤ o ∧ o ≤ 4) (hm : 0 ≤ m ∧ m < 5) : won (o * su s) (mo s m) = if o = 1 ∧ m = 1 then pw s else 0 := by
  have k : ∀ j : Int, 0 ≤ j → j < 3 → wn1 (o * su s) (mo s m) j = if j = s ∧ o = 1 ∧ m = 1 then pw j else 0 := fun j j0 j3 => by
    unfold wn1
    rw [dg_one hs ho ⟨j0, j3⟩, dr_mo hs hm ⟨j0, j3⟩]
    by_cases hj : j = s
    · rw [if_pos hj, if_pos hj]
      by_cases z : o = 1 ∧ m = 1
      · rw [if_pos z, if_pos ⟨hj, z⟩]
      · rw [if_neg z, if_neg (fun q => z q.2)]
    · rw [if_neg hj, if_neg hj, if_neg (by omega), if_neg (fun q => hj q.1)]
  unfold won
  rw [k 0 (by omega) (by omega), k 1 (by omega) (by omega), k 2 (by omega) (by omega)]
  by_cases z : o = 1 ∧ m = 1
  · rw [if_pos z]
    rcases (by omega : s = 0 ∨ s = 1 ∨ s = 2) with rfl | rfl | rfl
    · rw [if_pos ⟨rfl, z⟩, if_neg (by omega), if_neg (by omega)]; omega
    · rw [if_neg (by omega), if_pos ⟨rfl, z⟩, if_neg (by omega)]; omega
    · rw [if_neg (by omega), if_neg (by omega), if_pos ⟨rfl, z⟩]; omega
  · rw [if_neg z, if_neg (fun q => z q.2), if_neg (fun q => z q.2), if_neg (fun q => z q.2)]; rfl
theorem aft_mo {s o m : Int} (hs : 0 ≤ s ∧ s < 3) (ho : 1 ≤ o ∧ o ≤ 4) (hm : 0 ≤ m ∧ m < 3) : aft (o * su s) (mo s m) = if m = 2 then 0 else (o - m) * su s := by
  have k : ∀ j : Int, 0 ≤ j → j < 3 → af1 (o * su s) (mo s m) j = if j = s then (if m = 2 then 0 else (o - m) * su s) else 0 := fun j j0 j3 => by
    unfold af1
    rw [dg_one hs (by omega) ⟨j0, j3⟩, dr_mo hs (by omega) ⟨j0, j3⟩]
    by_cases hj : j = s
    · rw [if_pos hj, if_pos hj, if_pos hj, hj]
      by_cases z : o = 1 ∧ m = 1
      · rw [if_pos z, if_neg (by omega), z.1, z.2]; omega
      · rw [if_neg z]
        by_cases z2 : m = 2
        · rw [if_neg (by omega), if_pos z2]
        · rw [if_pos (by omega), if_neg z2]
    · rw [if_neg hj, if_neg hj, if_neg hj, if_neg (by omega), if_neg (by omega)]
  unfold aft
  rw [k 0 (by omega) (by omega), k 1 (by omega) (by omega), k 2 (by omega) (by omega)]
  rcases (by omega : s = 0 ∨ s = 1 ∨ s = 2) with rfl | rfl | rfl
  · rw [if_pos rfl, if_neg (by omega : ¬ (1 : Int) = 0), if_neg (by omega : ¬ (2 : Int) = 0)]; omega
  · rw [if_neg (by omega : ¬ (0 : Int) = 1), if_pos rfl, if_neg (by omega : ¬ (2 : Int) = 1)]; omega
  · rw [if_neg (by omega : ¬ (0 : Int) = 2), if_neg (by omega : ¬ (1 : Int) = 2), if_pos rfl]; omega
theorem em_0 {R : RT} {V : Int → Int → Int64} {w s o : Int} (hs : 0 ≤ s ∧ s < 3) (ho : 1 ≤ o ∧ o ≤ 4) : em R V w s o 0 = V (o * su s) s := by
  have hm : mm (if s = 0 then (0 : Int) else 0) (if s = 1 then 0 else 0) (if s = 2 then 0 else 0) = mo s 0 := rfl
  unfold em EE
  rw [hm, won_mo hs (by omega) (by omega), aft_mo hs ho (by omega), if_neg (by omega : ¬ (o = 1 ∧ (0 : Int) = 1)), if_pos rfl, if_neg (by omega : ¬ (0 : Int) = 2), Int.sub_zero]
theorem em_1 {R : RT} {V : Int → Int → Int64} {w s o : Int} (hs : 0 ≤ s ∧ s < 3) (ho : 1 ≤ o ∧ o ≤ 4) : em R V w s o 1 = if o = 1 then sc (R 4 1) (w - 1) * Int64.ofInt (R 4 3) else V ((o - 1) * su s) s := by
  have hm : mm (if s = 0 then (1 : Int) else 0) (if s = 1 then 1 else 0) (if s = 2 then 1 else 0) = mo s 1 := rfl
  unfold em EE
  rw [hm, won_mo hs (by omega) (by omega), aft_mo hs ho (by omega)]
  rw [if_neg (by omega : ¬ (1 : Int) = 2)]
  by_cases h1 : o = 1
  · have hp : ¬ pw s = 0 := by unfold pw; repeat' split
                               all_goals omega
    rw [if_pos h1, if_pos (⟨h1, rfl⟩ : o = 1 ∧ (1 : Int) = 1), if_neg hp]
    congr 2
    have e1 : bit (pw s) s = 1 := by rcases (by omega : s = 0 ∨ s = 1 ∨ s = 2) with rfl | rfl | rfl <;> rfl
    have e2 : bct (pw s) = 1 := by rcases (by omega : s = 0 ∨ s = 1 ∨ s = 2) with rfl | rfl | rfl <;> rfl
    unfold prt
    rw [if_pos e1, e2, Int.ediv_one]
  · rw [if_neg h1, if_neg (by omega : ¬ (o = 1 ∧ (1 : Int) = 1)), if_pos rfl]
theorem em_2 {R : RT} {V : Int → Int → Int64} {w s o : Int} (hs : 0 ≤ s ∧ s < 3) (ho : 1 ≤ o ∧ o ≤ 4) : em R V w s o 2 = V 0 s := by
  have hm : mm (if s = 0 then (2 : Int) else 0) (if s = 1 then 2 else 0) (if s = 2 then 2 else 0) = mo s 2 := rfl
  unfold em EE
  rw [hm, won_mo hs (by omega) (by omega), aft_mo hs ho (by omega), if_neg (by omega : ¬ (o = 1 ∧ (2 : Int) = 1)), if_pos rfl, if_pos rfl]
theorem vOne_I {R : RT} (h : WR R) {V : Int → Int → Int64} {w s o e : Int} {pv : Int → Int} (hs : 0 ≤ s ∧ s < R 4 1) (ho : 1 ≤ o ∧ o ≤ 4) (hw : 1 ≤ w ∧ w ≤ 6) (he : 0 ≤ e ∧ e < 5) (hc : canP R w (o * su s) s e) (hV0 : V 0 s = 0)
    (hV : ∀ u : Int, 0 ≤ u → u ≤ o → V (u * su s) s = Int64.ofInt (scI (R 4 1 - 1) (w - 1) * pv u)) : vOne R V w s o e = Int64.ofInt (scI (R 4 1 - 1) w * aBy R s w o pv e) := by
  have hb := h.b
  have s1 := scI_split (n := R 4 1) (w := w) (by omega) (by omega)
  have s2 := scI_split (n := R 4 1) (w := w - 1) (by omega) (by omega)
  have s3 := scI_s (n := R 4 1 - 1) (w := w) (by omega) hw
  unfold vOne aBy
  by_cases h4 : e = 4
  · subst h4
    rw [if_pos rfl, if_pos rfl, if_pos rfl, chn4, em_2 (by omega) ho, hV0, cst_z h (by omega) (Or.inr rfl)]
    rw [Int.mul_zero]
    rw [show Int64.ofInt 0 = 0 from rfl]
    grind
  · rw [if_neg h4, if_neg h4, if_neg h4, chn_one h (by omega) (by omega) (by omega) hc, em_0 (by omega) (by omega), em_1 (by omega) ho, hV o (by omega) (by omega)]
    have hm : (if o = 1 then sc (R 4 1) (w - 1) * Int64.ofInt (R 4 3) else V ((o - 1) * su s) s) = Int64.ofInt (scI (R 4 1 - 1) (w - 1) * mdA R w o pv) := by
      unfold mdA
      by_cases h1 : o = 1
      · rw [if_pos h1, if_pos h1, sc_I, s2, ← Int64.ofInt_mul]
        congr 1
        grind
      · rw [if_neg h1, if_neg h1, hV _ (by omega) (by omega)]
    rw [hm, sc_I, s1]
    generalize mdA R w o pv = m
    generalize pv o = p
    generalize chA R s e = c
    generalize cst R s e = k
    rw [s3]
    generalize scI (R 4 1 - 1) (w - 1) = K
    generalize p4 (R 4 1 - 1) = q
    generalize scI 1 w = S
    rw [← of4, ← ofI_sub, ← Int64.ofInt_mul, ← Int64.ofInt_mul, ← Int64.ofInt_add, ← Int64.ofInt_mul, ← Int64.ofInt_mul, ← ofI_sub]
    congr 1
    grind
/-- WHAT ONE ALONE HAS, by the whole rows -/
theorem Wf_one {R : RT} (h : WR R) {s : Int} (hs : 0 ≤ s ∧ s < R 4 1) : ∀ (k : Nat) (o : Int), k ≤ 6 → 0 ≤ o → o ≤ stp R s → Wf R k (o * su s) s = Int64.ofInt (scI (R 4 1 - 1) (k : Int) * aI R s k o) ∧ (1 ≤ k → 1 ≤ o → Rwf R (k : Int) (o * su s) = aD R s (k : Int) o * ru s)
  | 0, o, _, _, _ => by
    refine ⟨?_, fun z => by omega⟩
    show (0 : Int64) = Int64.ofInt (_ * 0)
    rw [Int.mul_zero]; rfl
  | k + 1, o, hk, h0, h1 => by
    have hb := h.b
    have hst := h.stp s (by omega)
    have ih := fun u a b => Wf_one h hs k u (by omega) a b
    by_cases ho : o = 0
    · subst ho
      refine ⟨?_, fun _ z => by omega⟩
      have e0 : aI R s (k + 1) 0 = 0 := by unfold aI; rw [if_pos (by omega)]
      rw [Int.zero_mul, Wf_0, e0, Int.mul_zero]; rfl
    have hw : 1 ≤ ((k + 1 : Nat) : Int) ∧ ((k + 1 : Nat) : Int) ≤ 6 := by omega
    have ek : (((k + 1 : Nat) : Int) - 1).toNat = k := by omega
    have ek2 : ((k + 1 : Nat) : Int) - 1 = (k : Int) := by omega
    have hx0 : o * su s ≠ 0 := by
      have hu : su s = 1 ∨ su s = 5 ∨ su s = 25 := by unfold su; repeat' split
                                                      all_goals simp
      rcases hu with q | q | q <;> rw [q] <;> omega
    have hV : ∀ y j : Int, 0 ≤ j → j < 3 → 0 ≤ y → y < 125 → fitsP R y → Bd (Wf R k y j) (bdW (R 4 1) (((k + 1 : Nat) : Int) - 1)) ∧ (dg y j = 0 → Wf R k y j = 0) := fun y j j0 j3 y0 y1 hf => by
      rw [ek2]
      exact ⟨Wf_b h (by omega) k y j (by omega) j0 j3 y0 y1 hf, fun hd => Wf_zero h k y j j0 j3 y0 y1 hf hd⟩
    have ro := row_one h (V := Wf R k) (w := ((k + 1 : Nat) : Int)) hs ⟨by omega, h1⟩ hw hV
    have hvI : ∀ e : Int, 0 ≤ e → cB R ((k + 1 : Nat) : Int) (o * su s) s e = true → vOne R (Wf R k) ((k + 1 : Nat) : Int) s o e = Int64.ofInt (scI (R 4 1 - 1) ((k + 1 : Nat) : Int) * aBy R s ((k + 1 : Nat) : Int) o (aI R s k) e) := fun e e0 he => by
      have hc : canP R ((k + 1 : Nat) : Int) (o * su s) s e := of_decide_eq_true he
      have := can5 h (by omega) hc
      exact vOne_I h hs ⟨by omega, by omega⟩ hw ⟨e0, by omega⟩ hc Wf_0 (fun u u0 u1 => by rw [ek2]; exact (ih u u0 (by omega)).1)
    have hK := scI_R (n := R 4 1 - 1) (w := ((k + 1 : Nat) : Int)) (by omega) (by omega)
    have hSp := scI_split (n := R 4 1) (w := ((k + 1 : Nat) : Int)) (by omega) (by omega)
    have hSR := scI_R (n := R 4 1) (w := ((k + 1 : Nat) : Int)) (by omega) (by omega)
    have hbd : ∀ e : Int, 0 ≤ e → cB R ((k + 1 : Nat) : Int) (o * su s) s e = true → -9000000000000000000 ≤ scI (R 4 1 - 1) ((k + 1 : Nat) : Int) * aBy R s ((k + 1 : Nat) : Int) o (aI R s k) e ∧ scI (R 4 1 - 1) ((k + 1 : Nat) : Int) * aBy R s ((k + 1 : Nat) : Int) o (aI R s k) e ≤ 9000000000000000000 := fun e e0 he => by
      have hc : canP R ((k + 1 : Nat) : Int) (o * su s) s e := of_decide_eq_true he
      have := can5 h (by omega) hc
      have b := aBy_b h (s := s) (w := ((k + 1 : Nat) : Int)) (o := o) (e := e) (pv := aI R s k) (by omega) hw (by omega) (fun u => by rw [ek2]; exact aI_b h (by omega) k u (by omega))
      have m1 := Int.mul_le_mul_of_nonneg_left b.1 (show 0 ≤ scI (R 4 1 - 1) ((k + 1 : Nat) : Int) by omega)
      have m2 := Int.mul_le_mul_of_nonneg_left b.2 (show 0 ≤ scI (R 4 1 - 1) ((k + 1 : Nat) : Int) by omega)
      have e1 : scI (R 4 1 - 1) ((k + 1 : Nat) : Int) * -(198 * scI 1 ((k + 1 : Nat) : Int)) = -(198 * scI (R 4 1) ((k + 1 : Nat) : Int)) := by rw [hSp]; grind
      have e2 : scI (R 4 1 - 1) ((k + 1 : Nat) : Int) * (scI 1 ((k + 1 : Nat) : Int) * 10009) = scI (R 4 1) ((k + 1 : Nat) : Int) * 10009 := by rw [hSp]; grind
      rw [e1] at m1; rw [e2] at m2
      omega
    have hfm : fmx (cB R ((k + 1 : Nat) : Int) (o * su s) s) (vOne R (Wf R k) ((k + 1 : Nat) : Int) s o) 4 = fmi (cB R ((k + 1 : Nat) : Int) (o * su s) s) (aBy R s ((k + 1 : Nat) : Int) o (aI R s k)) 4 := fmx_fmi (K := scI (R 4 1 - 1) ((k + 1 : Nat) : Int)) (by omega) (decide_eq_true (Or.inl rfl)) (fun e e0 he => ⟨hvI e e0 he, hbd e e0 he⟩) 4
    have hD : aD R s ((k + 1 : Nat) : Int) o = fmi (cB R ((k + 1 : Nat) : Int) (o * su s) s) (aBy R s ((k + 1 : Nat) : Int) o (aI R s k)) 4 := by
      unfold aD
      rw [if_neg (by omega), ek]
    constructor
    · show (if o * su s = 0 then 0 else rG R (Wf R k) ((k + 1 : Nat) : Int) (o * su s) (rowS R (Wf R k) ((k + 1 : Nat) : Int) (o * su s)) s) = Int64.ofInt (_ * (if o ≤ 0 then 0 else _))
      rw [if_neg hx0, if_neg (by omega), ro.2, hfm]
      exact hvI _ (fmi_R 4).1 (fmi_ok (decide_eq_true (Or.inl rfl)) 4)
    · intro _ _
      unfold Rwf
      rw [ek, ro.1, hfm, hD]
