/-! LAYER 3, A RACE: what its readers answer -/
theorem rd4 {M : Mem} {i j} : M.1 4 i j = rd M i 4 j := rfl
theorem rd33 {M : Mem} {i j} : M.1 33 i j = rd M i 33 j := rfl
theorem rd34 {M : Mem} {i j} : M.1 34 i j = rd M i 34 j := rfl
theorem rd35 {M : Mem} {i j} : M.1 35 i j = rd M i 35 j := rfl
theorem rd36 {M : Mem} {i j} : M.1 36 i j = rd M i 36 j := rfl
theorem rd37 {M : Mem} {i j} : M.1 37 i j = rd M i 37 j := rfl
theorem rd38 {M : Mem} {i j} : M.1 38 i j = rd M i 38 j := rfl
theorem rd_sI {M : Mem} {t i' j v i} (h : ¬ (t = 4 ∨ 33 ≤ t ∧ t ≤ 38)) : rd (sI M t i' j v) i = rd M i := by
  funext a b
  unfold rd
  by_cases ha : a = 4 ∨ 33 ≤ a ∧ a ≤ 38
  · rw [if_pos ha, if_pos ha, sI_ne (fun z => by obtain ⟨rfl, -, -⟩ := z; exact h ha)]
  · rw [if_neg ha, if_neg ha]
theorem rd_sL {M : Mem} {t i' j v i} : rd (sL M t i' j v) i = rd M i := rfl
theorem rd_cpL {M : Mem} {t i' p t' j' p' n i} : rd (cpL M t i' p t' j' p' n) i = rd M i := rfl
abbrev RT : Type := Nat → Nat → Int
def stp (R : RT) (s : Int) : Int := R 33 s.toNat
def pcs (R : RT) (s : Int) : Int := R 34 s.toNat
def cst (R : RT) (s d : Int) : Int := R 35 (s * 5 + d).toNat
def chc (R : RT) (s d : Int) : Int := R 36 (s * 5 + d).toNat
def lvs (R : RT) (w p : Int) : Int := R 38 (w * 25 + p).toNat
/-- a race that can be told (or one that is joined, or has an offered prize) -/
def WR (R : RT) : Prop := (0 ≤ R 4 1 ∧ R 4 1 ≤ 3) ∧ (0 ≤ R 4 2 ∧ R 4 2 ≤ 6) ∧ (0 ≤ R 4 3 ∧ R 4 3 ≤ 10009) ∧ (0 ≤ R 4 4 ∧ R 4 4 ≤ 9999) ∧ (0 ≤ R 4 5 ∧ R 4 5 ≤ 4) ∧ (0 ≤ R 4 6 ∧ R 4 6 ≤ 3) ∧
  (∀ s : Nat, s < 3 → 0 ≤ R 33 s ∧ R 33 s ≤ 4) ∧ (∀ s : Nat, s < 3 → ((s : Int) < R 4 1 ↔ 1 ≤ R 33 s)) ∧ (∀ s : Nat, s < 3 → 0 ≤ R 34 s ∧ R 34 s ≤ 3) ∧ (∀ s : Nat, s < 3 → R 4 1 ≤ (s : Int) → R 34 s = 0) ∧
  (∀ k : Nat, k < 15 → 0 ≤ R 35 k ∧ R 35 k ≤ 198) ∧ (∀ k : Nat, k < 15 → 0 ≤ R 36 k ∧ R 36 k ≤ 4) ∧ (∀ k : Nat, k < 175 → R 38 k = 0 ∨ R 38 k = 1) ∧ (∀ s : Nat, s < 3 → R 37 s = 0 ∨ R 37 s = 1) ∧
  (∀ s : Nat, s < 3 → R 35 (s * 5) = 0 ∧ R 35 (s * 5 + 4) = 0) ∧ (R 4 6 = 0 → R 4 5 = 0)
/-- its bounds, laid flat for omega -/
theorem WR.b {R} (h : WR R) : (0 ≤ R 4 1 ∧ R 4 1 ≤ 3) ∧ (0 ≤ R 4 2 ∧ R 4 2 ≤ 6) ∧ (0 ≤ R 4 3 ∧ R 4 3 ≤ 10009) ∧ (0 ≤ R 4 4 ∧ R 4 4 ≤ 9999) ∧ (0 ≤ R 4 5 ∧ R 4 5 ≤ 4) ∧ (0 ≤ R 4 6 ∧ R 4 6 ≤ 3) ∧
    (0 ≤ R 33 0 ∧ R 33 0 ≤ 4) ∧ (0 ≤ R 33 1 ∧ R 33 1 ≤ 4) ∧ (0 ≤ R 33 2 ∧ R 33 2 ≤ 4) ∧ (0 < R 4 1 ↔ 1 ≤ R 33 0) ∧ (1 < R 4 1 ↔ 1 ≤ R 33 1) ∧ (2 < R 4 1 ↔ 1 ≤ R 33 2) := by
  obtain ⟨a1, a2, a3, a4, a5, a6, a7, a8, -⟩ := h
  exact ⟨a1, a2, a3, a4, a5, a6, a7 0 (by omega), a7 1 (by omega), a7 2 (by omega), a8 0 (by omega), a8 1 (by omega), a8 2 (by omega)⟩
theorem WR.stp {R} (h : WR R) (s : Int) (hs : 0 ≤ s ∧ s < 3) : 0 ≤ stp R s ∧ stp R s ≤ 4 := h.2.2.2.2.2.2.1 s.toNat (by omega)
theorem WR.pcs {R} (h : WR R) (s : Int) (hs : 0 ≤ s ∧ s < 3) : 0 ≤ pcs R s ∧ pcs R s ≤ 3 := h.2.2.2.2.2.2.2.2.1 s.toNat (by omega)
theorem WR.cst {R} (h : WR R) (s d : Int) (hs : 0 ≤ s ∧ s < 3) (hd : 0 ≤ d ∧ d < 5) : 0 ≤ cst R s d ∧ cst R s d ≤ 198 := h.2.2.2.2.2.2.2.2.2.2.1 _ (by omega)
theorem WR.chc {R} (h : WR R) (s d : Int) (hs : 0 ≤ s ∧ s < 3) (hd : 0 ≤ d ∧ d < 5) : 0 ≤ chc R s d ∧ chc R s d ≤ 4 := h.2.2.2.2.2.2.2.2.2.2.2.1 _ (by omega)
theorem WR.lvs {R} (h : WR R) (w p : Int) (hw : 0 ≤ w ∧ w ≤ 6) (hp : 0 ≤ p ∧ p < 25) : lvs R w p = 0 ∨ lvs R w p = 1 := h.2.2.2.2.2.2.2.2.2.2.2.2.1 _ (by omega)
theorem c_costOf {d : Nat} {M Q X} {i : Nat} {s k : Int} (hs : 0 ≤ s ∧ s < 3) (hk : 0 ≤ k ∧ k < 5) : Call (d + 1) qRa_costOf [vr 4 i, vi s, vi k] M Q X = Q (vi (cst (rd M i) s k)) M := by
  simp (disch := first | omega | (simp (disch := omega) only [w32_id]; omega)) only [bRa_costOf_0, bRa_costOf_2, bRa_costOf_5, bRa_costOf_7, bRa_costOf_10, bRa_costOf_12, bRa_costOf_13, bRa_costOf_16, bRa_costOf_25, bRa_costOf_26, eRa_costOf, if_neg, w32_id, rd35]
  rfl
theorem c_chanceOf {d : Nat} {M Q X} {i : Nat} {s k : Int} (hs : 0 ≤ s ∧ s < 3) (hk : 0 ≤ k ∧ k < 5) : Call (d + 1) qRa_chanceOf [vr 4 i, vi s, vi k] M Q X = Q (vi (chc (rd M i) s k)) M := by
  simp (disch := first | omega | (simp (disch := omega) only [w32_id]; omega)) only [bRa_chanceOf_0, bRa_chanceOf_2, bRa_chanceOf_5, bRa_chanceOf_7, bRa_chanceOf_10, bRa_chanceOf_12, bRa_chanceOf_13, bRa_chanceOf_16, bRa_chanceOf_25, bRa_chanceOf_26, eRa_chanceOf, if_neg, w32_id, rd36]
  rfl
/-- the scale -/
def sc (n w : Int) : Int64 := lsl 1 (2 * w * n)
theorem c_scale {d : Nat} {M Q X} {i : Nat} {w : Int} (hw : 0 ≤ w ∧ w ≤ 6) (hn : 0 ≤ rd M i 4 1 ∧ rd M i 4 1 ≤ 3) : Call (d + 1) qRa_scale [vr 4 i, vi w] M Q X = Q (vl (sc (rd M i 4 1) w)) M := by
  rw [eRa_scale, bRa_scale_0, rd4]
  have e1 : w32 (2 * w) = 2 * w := w32_id (by omega)
  have e2 : w32 (2 * w * rd M i 4 1) = 2 * w * rd M i 4 1 := by
    rcases (by omega : rd M i 4 1 = 0 ∨ rd M i 4 1 = 1 ∨ rd M i 4 1 = 2 ∨ rd M i 4 1 = 3) with h | h | h | h <;> rw [h] <;> exact w32_id (by omega)
  rw [e1, e2]
  rfl
/-- where a race begins, if the first n are in -/
def bgo (R : RT) (n : Int) : Int := (if 0 < n then R 33 0 else 0) + (if 1 < n then R 33 1 * 5 else 0) + (if 2 < n then R 33 2 * 25 else 0)
theorem c_beginningOf {d : Nat} {M Q X} {i : Nat} {n : Int} (h : WR (rd M i)) (hn : 0 ≤ n ∧ n ≤ 3) : Call (d + 1) qRa_beginningOf [vr 4 i, vi n] M Q X = Q (vi (bgo (rd M i) n)) M := by
  have hb := h.b
  have key : ∀ k c : Int, 0 ≤ k → k < 3 → k < n → 0 ≤ c → c ≤ 1000 → At d kRa_beginningOf 4 [vr 4 i, vi n, vi c, vi k] [] M Q X = At d kRa_beginningOf 4 [vr 4 i, vi n, vi (c + stp (rd M i) k * su k), vi (k + 1)] [] M Q X := by
    intro k c h1 h2 h3 h4 h5
    have hs := h.stp k (by omega)
    have e : rd M i 33 k.toNat = stp (rd M i) k := rfl
    rw [bRa_beginningOf_4, if_neg (by omega), bRa_beginningOf_7, if_neg (by omega), bRa_beginningOf_10 (by omega), rd33, ro_su (by omega), e]
    have hu : su k = 1 ∨ su k = 5 ∨ su k = 25 := by
      unfold su
      repeat' split
      all_goals simp
    rw [w32_id (z := k + 1) (by omega)]
    rcases hu with hu | hu | hu <;> rw [hu, w32_id (z := stp _ _ * _) (by omega), w32_id (by omega)]
  have fin : ∀ c k : Int, n ≤ k → At d kRa_beginningOf 4 [vr 4 i, vi n, vi c, vi k] [] M Q X = Q (vi c) M := by
    intro c k h1
    rw [bRa_beginningOf_4, if_pos h1, bRa_beginningOf_23]
  have e0 : stp (rd M i) 0 = rd M i 33 0 := rfl
  have e1 : stp (rd M i) 1 = rd M i 33 1 := rfl
  have e2 : stp (rd M i) 2 = rd M i 33 2 := rfl
  have f0 : su 0 = 1 := rfl
  have f1 : su 1 = 5 := rfl
  have f2 : su 2 = 25 := rfl
  rw [eRa_beginningOf, bRa_beginningOf_0]
  unfold bgo
  rcases (by omega : n = 0 ∨ n = 1 ∨ n = 2 ∨ n = 3) with rfl | rfl | rfl | rfl
  · rw [fin _ _ (by omega)]; rfl
  · rw [key 0 0 (by omega) (by omega) (by omega) (by omega) (by omega), fin _ _ (by omega)]
    simp [e0, f0]
  · rw [key 0 0 (by omega) (by omega) (by omega) (by omega) (by omega), key _ _ (by omega) (by omega) (by omega) (by rw [e0, f0]; omega) (by rw [e0, f0]; omega), fin _ _ (by omega)]
    simp [e0, f0, e1, f1]
  · rw [key 0 0 (by omega) (by omega) (by omega) (by omega) (by omega), key _ _ (by omega) (by omega) (by omega) (by rw [e0, f0]; omega) (by rw [e0, f0]; omega), key _ _ (by omega) (by omega) (by omega) (by simp only [Int.zero_add]; rw [e0, f0, e1, f1]; omega) (by simp only [Int.zero_add]; rw [e0, f0, e1, f1]; omega), fin _ _ (by omega)]
    simp [e0, f0, e1, f1, e2, f2]
abbrev bgn (R : RT) : Int := bgo R (R 4 1)
theorem bgo_R {R} (h : WR R) (n : Int) : 0 ≤ bgo R n ∧ bgo R n < 125 := by
  have hb := h.b
  unfold bgo
  repeat' split
  all_goals omega
theorem c_beginning {d : Nat} {M Q X} {i : Nat} (h : WR (rd M i)) : Call (d + 2) qRa_beginning [vr 4 i] M Q X = Q (vi (bgn (rd M i))) M := by
  have hb := h.b
  simp (disch := first | omega | (simp (disch := omega) only [w32_id]; omega)) only [bRa_beginning_0, bRa_beginning_4, eRa_beginning, rd4]
  rw [c_beginningOf h (by omega), KV_eq, bRa_beginning_4]
abbrev fitsP (R : RT) (x : Int) : Prop := dg x 0 ≤ R 33 0 ∧ dg x 1 ≤ R 33 1 ∧ dg x 2 ≤ R 33 2
theorem c_fits {d : Nat} {M Q X} {i : Nat} {x : Int} (hx : 0 ≤ x ∧ x ≤ 100000) : Call (d + 2) qRa_fits [vr 4 i, vi x] M Q X = Q (vi (if fitsP (rd M i) x then 1 else 0)) M := by
  have key : ∀ k : Int, 0 ≤ k → k < 3 → At (d + 1) kRa_fits 2 [vr 4 i, vi x, vi k] [] M Q X = if dg x k ≤ rd M i 33 k.toNat then At (d + 1) kRa_fits 2 [vr 4 i, vi x, vi (k + 1)] [] M Q X else Q (vi 0) M := by
    intro k h1 h2
    rw [bRa_fits_2, if_neg (by omega)]
    simp (disch := first | omega | (simp (disch := omega) only [w32_id]; omega)) only [bRa_fits_5, bRa_fits_8, bRa_fits_13, bRa_fits_15, c_stepsIn, KV_eq, w32_id, rd33]
    rfl
  rw [eRa_fits, bRa_fits_0, key 0 (by omega) (by omega), key _ (by omega) (by omega), key _ (by omega) (by omega), bRa_fits_2, if_pos (show (3 : Int) ≤ 0 + 1 + 1 + 1 by omega), bRa_fits_17]
  unfold fitsP
  have t0 : (0 : Int).toNat = 0 := rfl
  have t1 : (1 : Int).toNat = 1 := rfl
  have t2 : (2 : Int).toNat = 2 := rfl
  simp only [Int.zero_add, Int.reduceAdd, t0, t1, t2]
  repeat' split
  all_goals first | rfl | omega
abbrev plainP (R : RT) (x : Int) : Prop := (0 < R 4 1 → dg x 0 ≠ 0) ∧ (1 < R 4 1 → dg x 1 ≠ 0) ∧ (2 < R 4 1 → dg x 2 ≠ 0) ∧ fitsP R x
theorem c_isPlain {d : Nat} {M Q X} {i : Nat} {x : Int} (h : WR (rd M i)) (hx : 0 ≤ x ∧ x ≤ 100000) : Call (d + 3) qRa_isPlain [vr 4 i, vi x] M Q X = Q (vi (if plainP (rd M i) x then 1 else 0)) M := by
  have hb := h.b
  have key : ∀ k : Int, 0 ≤ k → k < rd M i 4 1 → At (d + 2) kRa_isPlain 2 [vr 4 i, vi x, vi k] [] M Q X = if dg x k = 0 then Q (vi 0) M else At (d + 2) kRa_isPlain 2 [vr 4 i, vi x, vi (k + 1)] [] M Q X := by
    intro k h1 h2
    rw [bRa_isPlain_2, rd4, if_neg (by omega)]
    simp (disch := first | omega | (simp (disch := omega) only [w32_id]; omega)) only [bRa_isPlain_6, bRa_isPlain_9, bRa_isPlain_10, bRa_isPlain_12, c_stepsIn, KV_eq, w32_id]
    by_cases h0 : dg x k = 0 <;> simp [h0]
  have fin : ∀ k : Int, rd M i 4 1 ≤ k → At (d + 2) kRa_isPlain 2 [vr 4 i, vi x, vi k] [] M Q X = Q (vi (if fitsP (rd M i) x then 1 else 0)) M := by
    intro k h1
    rw [bRa_isPlain_2, rd4, if_pos h1, bRa_isPlain_14, c_fits hx, KV_eq, bRa_isPlain_17]
    split <;> rfl
  rw [eRa_isPlain, bRa_isPlain_0]
  rcases (by omega : rd M i 4 1 = 0 ∨ rd M i 4 1 = 1 ∨ rd M i 4 1 = 2 ∨ rd M i 4 1 = 3) with h1 | h1 | h1 | h1
  · rw [fin 0 (by omega)]
    simp [plainP, h1]
  · rw [key 0 (by omega) (by omega), fin _ (by omega)]
    by_cases h0 : dg x 0 = 0 <;> simp [plainP, h1, h0]
  · rw [key 0 (by omega) (by omega), key _ (by omega) (by omega), fin _ (by omega)]
    by_cases h0 : dg x 0 = 0 <;> by_cases h2 : dg x 1 = 0 <;> simp [plainP, h1, h0, h2]
  · rw [key 0 (by omega) (by omega), key _ (by omega) (by omega), key _ (by omega) (by omega), fin _ (by omega)]
    by_cases h0 : dg x 0 = 0 <;> by_cases h2 : dg x 1 = 0 <;> by_cases h3 : dg x 2 = 0 <;> simp [plainP, h1, h0, h2, h3]
/-- whether a state can come up from the beginning -/
abbrev rch1 (R : RT) (w x s : Int) : Prop := dg x s = 0 ∨ stp R s - (R 4 2 - w) ≤ dg x s
abbrev rchP (R : RT) (w x : Int) : Prop := rch1 R w x 0 ∧ rch1 R w x 1 ∧ rch1 R w x 2
theorem c_reaches {d : Nat} {M Q X} {i : Nat} {w x : Int} (h : WR (rd M i)) (hw : 0 ≤ w ∧ w ≤ 6) (hx : 0 ≤ x ∧ x ≤ 100000) : Call (d + 2) qRa_reaches [vr 4 i, vi w, vi x] M Q X = Q (vi (if rchP (rd M i) w x then 1 else 0)) M := by
  have hb := h.b
  have key : ∀ (k : Int) (z : AV), 0 ≤ k → k < 3 → At (d + 1) kRa_reaches 2 [vr 4 i, vi w, vi x, vi k, z] [] M Q X = if rch1 (rd M i) w x k then At (d + 1) kRa_reaches 2 [vr 4 i, vi w, vi x, vi (k + 1), vi (dg x k)] [] M Q X else Q (vi 0) M := by
    intro k z h1 h2
    have hs := h.stp k (by omega)
    have hg := dg_R x k
    have es : rd M i 33 k.toNat = stp (rd M i) k := rfl
    rw [bRa_reaches_2, if_neg (by omega)]
    simp (disch := first | omega | (simp (disch := omega) only [w32_id]; omega)) only [bRa_reaches_5, bRa_reaches_8, bRa_reaches_11, bRa_reaches_22, bRa_reaches_24, c_stepsIn, KV_eq, w32_id, rd33, rd4, es]
    unfold rch1
    repeat' split
    all_goals first | rfl | omega
  rw [eRa_reaches, bRa_reaches_0, key 0 _ (by omega) (by omega), key _ _ (by omega) (by omega), key _ _ (by omega) (by omega), bRa_reaches_2, if_pos (show (3 : Int) ≤ 0 + 1 + 1 + 1 by omega), bRa_reaches_26]
  unfold rchP
  by_cases a0 : rch1 (rd M i) w x 0 <;> by_cases a1 : rch1 (rd M i) w x 1 <;> by_cases a2 : rch1 (rd M i) w x 2 <;> simp only [Int.zero_add, Int.reduceAdd, a0, a1, a2, if_true, if_false, and_true, and_false, true_and, false_and] <;> rfl
theorem c_allows {d : Nat} {M Q X} {i : Nat} {s k w p : Int} (hs : 0 ≤ s ∧ s < 3) (hk : 0 ≤ k ∧ k < 5) (hw : 0 ≤ w ∧ w ≤ 6) (hp : 0 ≤ p ∧ p < 25) : Call (d + 1) qRa_allows [vr 4 i, vi s, vi k, vi w, vi p] M Q X = Q (vi (if (if k = 4 then lvs (rd M i) w p ≠ 0 else k ≤ pcs (rd M i) s) then 1 else 0)) M := by
  simp (disch := first | omega | (simp (disch := omega) only [w32_id]; omega)) only [bRa_allows_0, bRa_allows_3, bRa_allows_5, bRa_allows_8, bRa_allows_17, bRa_allows_19, bRa_allows_20, bRa_allows_21, bRa_allows_27, bRa_allows_29, bRa_allows_30, eRa_allows, if_neg (show ¬ w < 0 by omega), if_neg (show ¬ 6 < w by omega), w32_id, rd38, rd34]
  have el : rd M i 38 (w * 25 + p).toNat = lvs (rd M i) w p := rfl
  have ep : rd M i 34 s.toNat = pcs (rd M i) s := rfl
  rw [el, ep]
  by_cases h4 : k = 4
  · subst h4
    simp only [ne_eq, not_true_eq_false, if_false, if_true]
    by_cases hl : lvs (rd M i) w p = 0 <;> simp [hl]
  · simp only [ne_eq, h4, not_false_eq_true, if_true, if_false]
    by_cases hl : pcs (rd M i) s < k
    · rw [if_pos hl, if_neg (by omega)]; rfl
    · rw [if_neg hl, if_pos (by omega)]; rfl
/-- what comes to a shop -/
abbrev lss (x i : Int) : Prop := (0 < dg x 0 ∧ dg x 0 < dg x i) ∨ (0 < dg x 1 ∧ dg x 1 < dg x i) ∨ (0 < dg x 2 ∧ dg x 2 < dg x i)
def sme (x i : Int) : Int := (if dg x 0 = dg x i then 1 else 0) + (if dg x 1 = dg x i then 1 else 0) + (if dg x 2 = dg x i then 1 else 0)
def prt (R : RT) (i v x : Int) : Int := if bit v i = 1 then R 4 3 / bct v else if dg x i = 0 ∨ lss x i then 0 else R 4 4 / sme x i
theorem bct_R (x : Int) : 0 ≤ bct x ∧ bct x ≤ 3 := by unfold bct; omega
theorem bct_bit {v i : Int} (hi : 0 ≤ i ∧ i < 3) (h : bit v i = 1) : 1 ≤ bct v := by
  unfold bit at h; unfold bct
  repeat' split at h
  all_goals omega
theorem c_partOf {d : Nat} {M Q X} {i : Nat} {s v x : Int} (h : WR (rd M i)) (hs : 0 ≤ s ∧ s < 3) (hv : 0 ≤ v ∧ v < 8) (hx : 0 ≤ x ∧ x ≤ 100000) : Call (d + 2) qRa_partOf [vr 4 i, vi s, vi v, vi x] M Q X = Q (vi (prt (rd M i) s v x)) M := by
  have hb := h.b
  have hc := bct_R v
  have hg := dg_R x s
  rw [eRa_partOf, bRa_partOf_0, band_bit hv hs]
  unfold prt
  by_cases h1 : bit v s = 1
  · have h2 := bct_bit hs h1
    rw [if_neg (by omega), if_pos h1]
    have e : (if 1 < bct v then bct v else 1) = bct v := by split <;> omega
    simp (disch := first | omega | (simp (disch := omega) only [w32_id]; omega)) only [bRa_partOf_7, bRa_partOf_12, bRa_partOf_13, c_bitCount, c_max, KV_eq, rd4, e]
    rw [tdiv_id (by omega), w32_id]
    have := Int.ediv_nonneg (a := rd M i 4 3) (b := bct v) (by omega) (by omega)
    have := Int.ediv_le_self (a := rd M i 4 3) (bct v) (by omega)
    omega
  · rw [if_pos h1, if_neg h1]
    have key : ∀ (k n : Int) (z z1 z2 : AV), 0 ≤ k → k < 3 → 0 ≤ n → n ≤ 10 → At (d + 1) kRa_partOf 23 [vr 4 i, z1, z2, vi x, vi (dg x s), vi n, vi k, z] [] M Q X = if 0 < dg x k ∧ dg x k < dg x s then Q (vi 0) M else At (d + 1) kRa_partOf 23 [vr 4 i, z1, z2, vi x, vi (dg x s), vi (n + if dg x k = dg x s then 1 else 0), vi (k + 1), vi (dg x k)] [] M Q X := by
      intro k n z z1 z2 h1 h2 h3 h4
      rw [bRa_partOf_23, if_neg (by omega)]
      simp (disch := first | omega | (simp (disch := omega) only [w32_id]; omega)) only [bRa_partOf_26, bRa_partOf_29, bRa_partOf_32, bRa_partOf_35, bRa_partOf_37, bRa_partOf_41, bRa_partOf_43, c_stepsIn, KV_eq, ite_At]
      simp (disch := first | omega | (simp (disch := omega) only [w32_id]; omega)) only [bRa_partOf_44, w32_id, ite_At]
      repeat' split
      all_goals first | rfl | omega | (simp (disch := first | omega | (simp (disch := omega) only [w32_id]; omega)) only [w32_id]; done)
    simp (disch := first | omega | (simp (disch := omega) only [w32_id]; omega)) only [bRa_partOf_15, bRa_partOf_18, c_stepsIn, KV_eq]
    rw [key 0 0 _ _ _ (by omega) (by omega) (by omega) (by omega), key _ _ _ _ _ (by omega) (by omega) (by split <;> omega) (by split <;> omega), key _ _ _ _ _ (by omega) (by omega) (by repeat' (first | omega | split)) (by repeat' (first | omega | split)), bRa_partOf_23, if_pos (show (3 : Int) ≤ 0 + 1 + 1 + 1 by omega)]
    have hm : 0 ≤ sme x s ∧ sme x s ≤ 3 := by
      unfold sme
      repeat' split
      all_goals omega
    have hm2 : 1 ≤ sme x s := by
      unfold sme
      rcases (by omega : s = 0 ∨ s = 1 ∨ s = 2) with rfl | rfl | rfl <;> rw [if_pos rfl] <;> repeat' split
      all_goals omega
    have es : (0 + if dg x 0 = dg x s then 1 else 0) + (if dg x (0 + 1) = dg x s then 1 else 0) + (if dg x (0 + 1 + 1) = dg x s then 1 else 0) = sme x s := by unfold sme; simp
    rw [es]
    simp only [Int.zero_add, Int.reduceAdd]
    unfold lss
    by_cases a0 : 0 < dg x 0 ∧ dg x 0 < dg x s
    · rw [if_pos a0, if_pos (Or.inr (Or.inl a0))]
    · rw [if_neg a0]
      by_cases a1 : 0 < dg x 1 ∧ dg x 1 < dg x s
      · rw [if_pos a1, if_pos (Or.inr (Or.inr (Or.inl a1)))]
      · rw [if_neg a1]
        by_cases a2 : 0 < dg x 2 ∧ dg x 2 < dg x s
        · rw [if_pos a2, if_pos (Or.inr (Or.inr (Or.inr a2)))]
        · rw [if_neg a2]
          by_cases a3 : dg x s = 0
          · rw [if_pos (Or.inl a3)]
            simp (disch := first | omega | (simp (disch := omega) only [w32_id]; omega)) only [bRa_partOf_48, bRa_partOf_50, bRa_partOf_52, bRa_partOf_57, bRa_partOf_58, if_neg (show ¬ dg x s ≠ 0 by omega)]
          · rw [if_neg (by simp [a0, a1, a2, a3])]
            rw [bRa_partOf_48, if_pos a3]
            have e : (if 1 < sme x s then sme x s else 1) = sme x s := by split <;> omega
            simp (disch := first | omega | (simp (disch := omega) only [w32_id]; omega)) only [bRa_partOf_50, bRa_partOf_52, c_max, KV_eq, rd4, e]
            rw [bRa_partOf_57 (by omega), tdiv_id (by omega), w32_id, bRa_partOf_58]
            have := Int.ediv_nonneg (a := rd M i 4 4) (b := sme x s) (by omega) (by omega)
            have := Int.ediv_le_self (a := rd M i 4 4) (sme x s) (by omega)
            omega
