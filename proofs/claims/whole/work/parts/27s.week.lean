/-! LAYER 3, A ROW IS TAKEN: what the class's week answers then -/
def Rtk (k : Nat) (r : Int) (M : Mem) : Prop := ∀ s : Int, 0 ≤ s → s < 3 → M.1 47 k s.toNat = dr r s
def bI1 (x s : Int) : Int := if 0 < dg x s then pw s else 0
def bI (x : Int) : Int := bI1 x 0 + bI1 x 1 + bI1 x 2
def cA (R : RT) (r : Int) : Int := cst R 0 (dr r 0) + cst R 1 (dr r 1) + cst R 2 (dr r 2)
def wI1 (R : RT) (w x r m s : Int) : Int := if s < R 4 1 then (if bit m s = 1 then chn R w x s (dr r s) else 4 - chn R w x s (dr r s)) else 1
def wI (R : RT) (w x r m : Int) : Int := wI1 R w x r m 0 * wI1 R w x r m 1 * wI1 R w x r m 2
theorem wI1_R {R : RT} (h : WR R) {w x r m s : Int} (hs : 0 ≤ s ∧ s < 3) : 0 ≤ wI1 R w x r m s ∧ wI1 R w x r m s ≤ 4 := by
  have hd := dr_R r s
  have := chn_R h w x s (dr r s) hs (by omega)
  unfold wI1
  repeat' split
  all_goals omega
section
variable {d : Nat} {Q : AV → Mem → Prop} {X : Nat → Mem → Prop}
theorem c_takeRow {M : Mem} {k : Nat} {r : Int} (hr : 0 ≤ r ∧ r < 125) (hq : ∀ M', Fs (fun t i j => t = 47 ∧ i = k ∧ j < 3) M M' → Rtk k r M' → Q (vi 0) M') : Call (d + 2) qWe_takeRow [vr 8 k, vi r] M Q X := by
  rw [eWe_takeRow, bWe_takeRow_0]
  refine loop_up (fun s M' => At (d + 1) kWe_takeRow 2 [vr 8 k, vi r, vi s] [] M' Q X) (fun s M' => Fs (fun t i j => t = 47 ∧ i = k ∧ j < 3) M M' ∧ ∀ e : Int, 0 ≤ e → e < s → M'.1 47 k e.toNat = dr r e) 0 3 ?_ ?_ 0 M (by omega) (by omega) ⟨Fs.rf, fun e a b => by omega⟩
  · intro M' h
    show At _ _ _ _ _ _ _ _
    rw [bWe_takeRow_2, if_pos (by omega), bWe_takeRow_14]
    exact hq M' h.1 h.2
  · intro s M' s0 s1 h hn
    show At _ _ _ _ _ _ _ _
    rw [bWe_takeRow_2, if_neg (by omega), bWe_takeRow_5, c_doingIn (by omega), KV_eq, bWe_takeRow_11 (by omega), w32_id (by omega)]
    refine hn _ ⟨h.1.sI (by omega), ?_⟩
    intro e e0 e1
    by_cases ee : e = s
    · subst ee; exact sI_eq
    · rw [sI_ne (by omega)]; exact h.2 e e0 (by omega)
theorem c_modesOf {M : Mem} {k : Nat} {r m : Int} (hT : Rtk k r M) (hm : 0 ≤ m ∧ m < 8) (hl : ∀ s : Int, 0 ≤ s → s < 3 → bit m s = 1 → dr r s ≠ 4) : Call (d + 1) qWe_modesOf [vr 8 k, vi m] M Q X = Q (vi (mm (md (dr r 0) (bit m 0)) (md (dr r 1) (bit m 1)) (md (dr r 2) (bit m 2)))) M := by
  have key : ∀ s c : Int, 0 ≤ s → s < 3 → 0 ≤ c → c ≤ 1000 → At d kWe_modesOf 4 [vr 8 k, vi m, vi c, vi s] [] M Q X = At d kWe_modesOf 4 [vr 8 k, vi m, vi (c + md (dr r s) (bit m s) * ru s), vi (s + 1)] [] M Q X := by
    intro s c s0 s1 c0 c1
    have e1 : w32 (s + 1) = s + 1 := w32_id (by omega)
    have hu : ru s = 25 ∨ ru s = 5 ∨ ru s = 1 := by
      unfold ru
      repeat' split
      all_goals omega
    rw [bWe_modesOf_4, if_neg (by omega), bWe_modesOf_7, band_bit hm ⟨s0, s1⟩]
    unfold md
    by_cases hb : bit m s = 1
    · rw [if_neg (fun z => z hb), if_neg (hl s s0 s1 hb), hb, bWe_modesOf_14 (by omega), ro_ru (by omega), bWe_modesOf_35, e1, Int.one_mul, w32_id (by omega)]
    · have hb0 : bit m s = 0 := by have := bit_R m s; omega
      rw [if_pos hb, bWe_modesOf_21 (by omega), hT s s0 s1]
      by_cases h4 : dr r s = 4
      · rw [if_neg (fun z => z h4), if_pos h4, bWe_modesOf_27 (by omega), ro_ru (by omega), bWe_modesOf_35, e1, w32_id (z := 2 * ru s) (by omega), w32_id (by omega)]
      · rw [if_pos h4, if_neg h4, hb0, bWe_modesOf_35, e1, Int.zero_mul, Int.add_zero]
  have hb : ∀ s, 0 ≤ md (dr r s) (bit m s) ∧ md (dr r s) (bit m s) ≤ 2 := fun s => md_R (bit_R m s)
  have b0 := hb 0
  have b1 := hb 1
  have r0 : ru 0 = 25 := rfl
  have r1 : ru 1 = 5 := rfl
  have r2 : ru 2 = 1 := rfl
  rw [eWe_modesOf, bWe_modesOf_0, key 0 0 (by omega) (by omega) (by omega) (by omega), r0, show (0 : Int) + 1 = 1 by omega, key 1 _ (by omega) (by omega) (by omega) (by omega), r1, show (1 : Int) + 1 = 2 by omega, key 2 _ (by omega) (by omega) (by omega) (by omega), r2, bWe_modesOf_4, if_pos (by omega), bWe_modesOf_37]
  unfold mm
  rw [Int.zero_add, Int.mul_one]
theorem c_chanceOfW {M : Mem} {k : Nat} {R : RT} {w x r s : Int} (hO : Opd R w x k M) (hT : Rtk k r M) (hs : 0 ≤ s ∧ s < 3) : Call (d + 1) qWe_chanceOf [vr 8 k, vi s] M Q X = Q (vi (chn R w x s (dr r s))) M := by
  have hd := dr_R r s
  have e0 := hT s hs.1 hs.2
  have e1 : w32 (w32 (s * 5) + dr r s) = s * 5 + dr r s := by rw [w32_id (z := s * 5) (by omega), w32_id (by omega)]
  rw [eWe_chanceOf, bWe_chanceOf_0 (by rw [e0, e1]; omega), e0, e1, (hO.2.1 s hs.1 hs.2 (dr r s) hd.1 (by omega)).2.1]
theorem c_costOfAll {M : Mem} {k : Nat} {R : RT} {r : Int} (hR : rd M (rcB k) = R) (h : WR R) (hT : Rtk k r M) : Call (d + 2) qWe_costOfAll [vr 8 k] M Q X = Q (vi (cA R r)) M := by
  have key : ∀ s c : Int, 0 ≤ s → s < 3 → 0 ≤ c → c ≤ 1000 → At (d + 1) kWe_costOfAll 4 [vr 8 k, vi c, vi s] [] M Q X = At (d + 1) kWe_costOfAll 4 [vr 8 k, vi (c + cst R s (dr r s)), vi (s + 1)] [] M Q X := by
    intro s c s0 s1 c0 c1
    have hd := dr_R r s
    have hc := h.cst s (dr r s) ⟨s0, s1⟩ (by omega)
    rw [bWe_costOfAll_4, if_neg (by omega), bWe_costOfAll_7 (by omega), hT s s0 s1, c_costOf ⟨s0, s1⟩ (by omega), KV_eq, bWe_costOfAll_16, hR, w32_id (by omega), w32_id (by omega)]
  have c0 := h.cst 0 (dr r 0) (by omega) (by have := dr_R r 0; omega)
  have c1 := h.cst 1 (dr r 1) (by omega) (by have := dr_R r 1; omega)
  rw [eWe_costOfAll, bWe_costOfAll_0, key 0 0 (by omega) (by omega) (by omega) (by omega), show (0 : Int) + 1 = 1 by omega, key 1 _ (by omega) (by omega) (by omega) (by omega), show (1 : Int) + 1 = 2 by omega, key 2 _ (by omega) (by omega) (by omega) (by omega), bWe_costOfAll_4, if_pos (by omega), bWe_costOfAll_20, Int.zero_add]
  rfl
theorem c_bitsIn {M : Mem} {x : Int} (hx : 0 ≤ x ∧ x < 125) : Call (d + 2) qCo_bitsIn [vi x] M Q X = Q (vi (bI x)) M := by
  have key : ∀ s c : Int, 0 ≤ s → s < 3 → 0 ≤ c → c < pw s → At (d + 1) kCo_bitsIn 4 [vi x, vi c, vi s] [] M Q X = At (d + 1) kCo_bitsIn 4 [vi x, vi (c + bI1 x s), vi (s + 1)] [] M Q X := by
    intro s c s0 s1 c0 c1
    have e1 : w32 (s + 1) = s + 1 := w32_id (by omega)
    rw [bCo_bitsIn_4, if_neg (by omega), bCo_bitsIn_7, c_stepsIn (by omega), KV_eq, bCo_bitsIn_10]
    unfold bI1
    by_cases hd : 0 < dg x s
    · rw [if_neg (by omega), if_pos hd, bCo_bitsIn_11, bCo_bitsIn_17, e1, bshl_pw (by omega), bor_add ⟨c0, c1⟩ ⟨s0, s1⟩]
    · rw [if_pos (by omega), if_neg hd, bCo_bitsIn_17, e1, Int.add_zero]
  have p0 : pw 0 = 1 := rfl
  have p1 : pw 1 = 2 := rfl
  have p2 : pw 2 = 4 := rfl
  have b0 : 0 ≤ bI1 x 0 ∧ bI1 x 0 ≤ 1 := by unfold bI1; rw [p0]; split <;> omega
  have b1 : 0 ≤ bI1 x 1 ∧ bI1 x 1 ≤ 2 := by unfold bI1; rw [p1]; split <;> omega
  rw [eCo_bitsIn, bCo_bitsIn_0, key 0 0 (by omega) (by omega) (by omega) (by omega), show (0 : Int) + 1 = 1 by omega, key 1 _ (by omega) (by omega) (by omega) (by rw [p1]; omega), show (1 : Int) + 1 = 2 by omega, key 2 _ (by omega) (by omega) (by omega) (by rw [p2]; omega), bCo_bitsIn_4, if_pos (by omega), bCo_bitsIn_19, Int.zero_add]
  rfl
theorem c_weightOf {M : Mem} {k : Nat} {R : RT} {w x r m : Int} (hR : rd M (rcB k) = R) (h : WR R) (hO : Opd R w x k M) (hT : Rtk k r M) (hm : 0 ≤ m ∧ m < 8) : Call (d + 2) qWe_weightOf [vr 8 k, vi m] M Q X = Q (vi (wI R w x r m)) M := by
  have hb := h.b
  have e41 : M.1 4 (rcB k) 1 = R 4 1 := by rw [← hR]; rfl
  have key : ∀ (s c : Int) (z : AV), 0 ≤ s → s < R 4 1 → 0 ≤ c → c ≤ 1000 → ∃ z', At (d + 1) kWe_weightOf 4 [vr 8 k, vi m, vi c, vi s, z] [] M Q X = At (d + 1) kWe_weightOf 4 [vr 8 k, vi m, vi (c * wI1 R w x r m s), vi (s + 1), z'] [] M Q X := by
    intro s c z s0 s1 c0 c1
    refine ⟨vi (chn R w x s (dr r s)), ?_⟩
    have hw := wI1_R h (w := w) (x := x) (r := r) (m := m) (s := s) (by omega)
    have hd := dr_R r s
    have hch := chn_R h w x s (dr r s) (by omega) (by omega)
    have e1 : w32 (s + 1) = s + 1 := w32_id (by omega)
    have hmul : w32 (c * wI1 R w x r m s) = c * wI1 R w x r m s := by
      rcases (by omega : wI1 R w x r m s = 0 ∨ wI1 R w x r m s = 1 ∨ wI1 R w x r m s = 2 ∨ wI1 R w x r m s = 3 ∨ wI1 R w x r m s = 4) with e | e | e | e | e <;> rw [e] <;> exact w32_id (by omega)
    rw [bWe_weightOf_4, e41, if_neg (by omega), bWe_weightOf_9, if_neg (by omega), bWe_weightOf_12, c_chanceOfW hO hT (by omega), KV_eq, bWe_weightOf_15, band_bit hm (by omega)]
    unfold wI1 at hmul ⊢
    rw [if_pos s1] at hmul ⊢
    by_cases hbb : bit m s = 1
    · rw [if_pos hbb] at hmul ⊢
      rw [if_neg (fun z => z hbb), bWe_weightOf_24, bWe_weightOf_29, hmul, e1]
    · rw [if_neg hbb] at hmul ⊢
      rw [if_pos hbb, bWe_weightOf_26, bWe_weightOf_29, w32_id (z := 4 - chn R w x s (dr r s)) (by omega), hmul, e1]
  have fin : ∀ (c s : Int) (z : AV), R 4 1 ≤ s → At (d + 1) kWe_weightOf 4 [vr 8 k, vi m, vi c, vi s, z] [] M Q X = Q (vi c) M := by
    intro c s z hs
    rw [bWe_weightOf_4, e41, if_pos hs, bWe_weightOf_33]
  have w0 := wI1_R h (w := w) (x := x) (r := r) (m := m) (s := 0) (by omega)
  have w1 := wI1_R h (w := w) (x := x) (r := r) (m := m) (s := 1) (by omega)
  have o : ∀ s : Int, R 4 1 ≤ s → wI1 R w x r m s = 1 := fun s hs => by unfold wI1; rw [if_neg (by omega)]
  rw [eWe_weightOf, bWe_weightOf_0]
  unfold wI
  rcases (by omega : R 4 1 = 0 ∨ R 4 1 = 1 ∨ R 4 1 = 2 ∨ R 4 1 = 3) with e | e | e | e
  · rw [fin _ _ _ (by omega), o 0 (by omega), o 1 (by omega), o 2 (by omega)]; rfl
  · obtain ⟨z1, q1⟩ := key 0 1 JK (by omega) (by omega) (by omega) (by omega)
    rw [q1, fin _ _ _ (by omega), o 1 (by omega), o 2 (by omega), Int.one_mul, Int.mul_one, Int.mul_one]
  · obtain ⟨z1, q1⟩ := key 0 1 JK (by omega) (by omega) (by omega) (by omega)
    obtain ⟨z2, q2⟩ := key (0 + 1) (1 * wI1 R w x r m 0) z1 (by omega) (by omega) (by omega) (by omega)
    rw [q1, q2, fin _ _ _ (by omega), o 2 (by omega), Int.one_mul, Int.mul_one]; rfl
  · obtain ⟨z1, q1⟩ := key 0 1 JK (by omega) (by omega) (by omega) (by omega)
    obtain ⟨z2, q2⟩ := key (0 + 1) (1 * wI1 R w x r m 0) z1 (by omega) (by omega) (by omega) (by omega)
    have h16 : 0 ≤ 1 * wI1 R w x r m 0 * wI1 R w x r m (0 + 1) ∧ 1 * wI1 R w x r m 0 * wI1 R w x r m (0 + 1) ≤ 1000 := by
      rw [Int.one_mul, show (0 : Int) + 1 = 1 by omega]
      refine ⟨Int.mul_nonneg w0.1 w1.1, ?_⟩
      have : wI1 R w x r m 0 * wI1 R w x r m 1 ≤ 4 * 4 := Int.mul_le_mul w0.2 w1.2 w1.1 (by omega)
      omega
    obtain ⟨z3, q3⟩ := key (0 + 1 + 1) (1 * wI1 R w x r m 0 * wI1 R w x r m (0 + 1)) z2 (by omega) (by omega) h16.1 h16.2
    rw [q1, q2, q3, fin _ _ _ (by omega), Int.one_mul]; rfl
end
