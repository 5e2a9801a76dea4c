/-! LAYER 3, THE TEXT: bytes, runs of bytes, numbers, words -/
abbrev BT : Type := Nat → Int
def byt (B : BT) (n k : Nat) : Int := if k < n then B k else -1
def runE (p : Int → Bool) (B : BT) (n : Nat) : Nat → Nat → Nat
  | 0, k => k
  | f + 1, k => if p (byt B n k) = true then runE p B n f (k + 1) else k
/-- where a run of such bytes ends -/
def rnd (p : Int → Bool) (B : BT) (n k : Nat) : Nat := runE p B n (n + 1 - k) k
theorem byt_lt {p : Int → Bool} (hp : p (-1) = false) {B : BT} {n k : Nat} (h : p (byt B n k) = true) : k < n := by
  unfold byt at h
  by_cases hk : k < n
  · exact hk
  · rw [if_neg hk, hp] at h; cases h
theorem rnd_yes {p : Int → Bool} (hp : p (-1) = false) {B : BT} {n k : Nat} (h : p (byt B n k) = true) : rnd p B n k = rnd p B n (k + 1) := by
  have hk := byt_lt hp h
  unfold rnd
  rw [show n + 1 - k = (n + 1 - (k + 1)) + 1 by omega, runE, if_pos h]
theorem rnd_no {p : Int → Bool} {B : BT} {n k : Nat} (h : p (byt B n k) = false) : rnd p B n k = k := by
  unfold rnd
  cases n + 1 - k with
  | zero => rfl
  | succ f => rw [runE, if_neg (by rw [h]; simp)]
theorem rnd_ind {p : Int → Bool} (hp : p (-1) = false) {B : BT} {n : Nat} (P : Nat → Prop) (h0 : ∀ k, p (byt B n k) = false → P k) (h1 : ∀ k, k < n → p (byt B n k) = true → P (k + 1) → P k) : ∀ k, P k := by
  have key : ∀ m k, n + 1 - k ≤ m → P k := by
    intro m
    induction m with
    | zero =>
      intro k hk
      refine h0 k ?_
      unfold byt; rw [if_neg (by omega), hp]
    | succ m ih =>
      intro k hk
      by_cases h : p (byt B n k) = true
      · exact h1 k (byt_lt hp h) h (ih (k + 1) (by omega))
      · exact h0 k (by simpa using h)
  intro k
  exact key _ k (Nat.le_refl _)
theorem rnd_le {p : Int → Bool} (hp : p (-1) = false) {B : BT} {n : Nat} : ∀ k, k ≤ rnd p B n k ∧ (rnd p B n k ≤ n ∨ rnd p B n k = k) ∧ p (byt B n (rnd p B n k)) = false := by
  refine rnd_ind (B := B) (n := n) hp _ ?_ ?_
  · intro k h; rw [rnd_no h]; exact ⟨Nat.le_refl _, Or.inr rfl, h⟩
  · intro k hk h ih; rw [rnd_yes hp h]; exact ⟨by omega, by omega, ih.2.2⟩
def isBl (c : Int) : Bool := decide (c = 32)
def isLt (c : Int) : Bool := decide (97 ≤ c ∧ c ≤ 122)
def isDg (c : Int) : Bool := decide (48 ≤ c ∧ c ≤ 57)
theorem nB : isBl (-1) = false := rfl
theorem nL : isLt (-1) = false := rfl
theorem nD : isDg (-1) = false := rfl
def blk (B : BT) (n k : Nat) : Nat := rnd isBl B n k
def lte (B : BT) (n k : Nat) : Nat := rnd isLt B n k
def dge (B : BT) (n k : Nat) : Nat := rnd isDg B n k
theorem blk_le {B : BT} {n k : Nat} (h : k ≤ n) : k ≤ blk B n k ∧ blk B n k ≤ n := by have := rnd_le nB (B := B) (n := n) k; unfold blk; omega
theorem lte_le {B : BT} {n k : Nat} (h : k ≤ n) : k ≤ lte B n k ∧ lte B n k ≤ n := by have := rnd_le nL (B := B) (n := n) k; unfold lte; omega
theorem dge_le {B : BT} {n k : Nat} (h : k ≤ n) : k ≤ dge B n k ∧ dge B n k ≤ n := by have := rnd_le nD (B := B) (n := n) k; unfold dge; omega
theorem blk_ge {B : BT} {n k : Nat} : k ≤ blk B n k := (rnd_le nB k).1
theorem blk_mx {B : BT} {n k : Nat} : blk B n k ≤ n ∨ blk B n k = k := (rnd_le nB k).2.1
theorem blk_blk {B : BT} {n k : Nat} : blk B n (blk B n k) = blk B n k := rnd_no (rnd_le nB k).2.2
/-- a number as it is told, and as it is kept below a lid -/
def nvE (B : BT) (n : Nat) : Nat → Nat → Int → Int
  | 0, _, a => a
  | f + 1, k, a => if isDg (byt B n k) = true then nvE B n f (k + 1) (10 * a + byt B n k - 48) else a
def nvl (B : BT) (n k : Nat) (a : Int) : Int := nvE B n (n + 1 - k) k a
theorem nvl_yes {B : BT} {n k : Nat} {a : Int} (h : isDg (byt B n k) = true) : nvl B n k a = nvl B n (k + 1) (10 * a + byt B n k - 48) := by
  have hk := byt_lt nD h
  unfold nvl
  rw [show n + 1 - k = (n + 1 - (k + 1)) + 1 by omega, nvE, if_pos h]
theorem nvl_no {B : BT} {n k : Nat} {a : Int} (h : isDg (byt B n k) = false) : nvl B n k a = a := by
  unfold nvl
  cases n + 1 - k with
  | zero => rfl
  | succ f => rw [nvE, if_neg (by rw [h]; simp)]
def lid (c a : Int) : Int := if a < c then a else c
theorem nvl_ge {B : BT} {n : Nat} : ∀ (k : Nat) (a : Int), 0 ≤ a → a ≤ nvl B n k a := by
  refine rnd_ind (B := B) (n := n) nD (fun k => ∀ a : Int, 0 ≤ a → a ≤ nvl B n k a) ?_ ?_
  · intro k h a ha; rw [nvl_no h]; omega
  · intro k hk h ih a ha
    rw [nvl_yes h]
    have hd : 48 ≤ byt B n k ∧ byt B n k ≤ 57 := of_decide_eq_true h
    have := ih (10 * a + byt B n k - 48) (by omega)
    omega
/-- the class's reader holds this text -/
def TC (B : BT) (n : Nat) (M : Mem) : Prop := M.1 5 0 7 = (n : Int) ∧ n ≤ 500 ∧ ∀ j : Nat, j < n → M.1 39 0 j = B j
theorem sI_same {M : Mem} {t i j v} (h : M.1 t i j = v) : sI M t i j v = M := by
  unfold sI
  refine Prod.ext ?_ rfl
  funext a b c
  show (if a = t ∧ b = i ∧ c = j then v else M.1 a b c) = M.1 a b c
  split
  · rename_i hh; obtain ⟨rfl, rfl, rfl⟩ := hh; exact h.symm
  · rfl
theorem sI_sI {M : Mem} {t i j v v'} : sI (sI M t i j v) t i j v' = sI M t i j v' := by
  unfold sI
  refine Prod.ext ?_ rfl
  funext a b c
  show (if a = t ∧ b = i ∧ c = j then v' else if a = t ∧ b = i ∧ c = j then v else M.1 a b c) = (if a = t ∧ b = i ∧ c = j then v' else M.1 a b c)
  split <;> rfl
theorem TC.at {B n M} (h : TC B n M) {v} : TC B n (sI M 5 0 8 v) := ⟨by rw [sI_ne (by omega)]; exact h.1, h.2.1, fun j hj => by rw [sI_ne (by omega)]; exact h.2.2 j hj⟩
theorem c_signAt {d : Nat} {B n M Q X} {k : Nat} (h : TC B n M) : Call (d + 1) qRe_signAt [vr 5 0, vi (k : Int)] M Q X = Q (vi (byt B n k)) M := by
  have h2 := h.2.1
  rw [eRe_signAt, bRe_signAt_0, if_neg (by omega), bRe_signAt_2, h.1]
  unfold byt
  by_cases hk : k < n
  · rw [if_neg (by omega), bRe_signAt_6, if_neg (by omega), bRe_signAt_9 (by omega), bRe_signAt_15, show (k : Int).toNat = k by omega, h.2.2 k hk, if_pos hk]
  · rw [if_pos (by omega), bRe_signAt_14, bRe_signAt_15, if_neg hk]
theorem c_skipBlanks {d : Nat} {B n M Q X} {k : Nat} (h : TC B n M) (hk : M.1 5 0 8 = (k : Int)) (hn : k ≤ 1000) : Call (d + 2) qRe_skipBlanks [vr 5 0] M Q X = Q (vi 0) (sI M 5 0 8 (blk B n k)) := by
  have h2 := h.2.1
  rw [eRe_skipBlanks]
  have key : ∀ k : Nat, ∀ M : Mem, TC B n M → M.1 5 0 8 = (k : Int) → k ≤ 1000 → At (d + 1) kRe_skipBlanks 0 [vr 5 0] [] M Q X = Q (vi 0) (sI M 5 0 8 (blk B n k)) := by
    refine rnd_ind (B := B) (n := n) nB _ ?_ ?_
    · intro k hb M h hk hn
      have hb' : ¬ byt B n k = 32 := of_decide_eq_false hb
      have e : blk B n k = k := rnd_no hb
      rw [e, sI_same hk, bRe_skipBlanks_0, hk, if_neg (by omega), bRe_skipBlanks_3, h.1, hk]
      by_cases hkn : k < n
      · rw [byt, if_pos hkn] at hb'
        rw [if_neg (by omega), bRe_skipBlanks_8, hk, if_neg (by omega), bRe_skipBlanks_12 (by rw [hk]; omega), hk, show ((k : Int)).toNat = k by omega, h.2.2 k hkn, if_pos hb', bRe_skipBlanks_26]
      · rw [if_pos (by omega), bRe_skipBlanks_26]
    · intro k hkn hb ih M h hk hn
      have hb' : byt B n k = 32 := of_decide_eq_true hb
      have e : blk B n k = blk B n (k + 1) := rnd_yes nB hb
      rw [byt, if_pos hkn] at hb'
      rw [bRe_skipBlanks_0, hk, if_neg (by omega), bRe_skipBlanks_3, h.1, hk, if_neg (by omega), bRe_skipBlanks_8, hk, if_neg (by omega), bRe_skipBlanks_12 (by rw [hk]; omega), hk, show ((k : Int)).toNat = k by omega, h.2.2 k hkn, if_neg (fun z => z hb'), bRe_skipBlanks_19, hk, w32_id (by omega), ih _ h.at (by rw [sI_eq]; omega) (by omega), sI_sI, e]
  exact key k M h hk hn
theorem c_takeSign {d : Nat} {B n M Q X} {k : Nat} {c : Int} (h : TC B n M) (hk : M.1 5 0 8 = (k : Int)) (hn : k ≤ 1000) : Call (d + 3) qRe_takeSign [vr 5 0, vi c] M Q X = if M.1 5 0 9 = 0 ∧ byt B n (blk B n k) = c then Q (vi 1) (sI M 5 0 8 (blk B n k + 1 : Nat)) else Q (vi 0) (sI M 5 0 8 (blk B n k)) := by
  have hbm := blk_mx (B := B) (n := n) (k := k)
  have h2 := h.2.1
  rw [eRe_takeSign, bRe_takeSign_0, c_skipBlanks h hk hn, KU_eq, bRe_takeSign_2, sI_ne (by omega)]
  by_cases hf : M.1 5 0 9 = 0
  · rw [if_neg (by omega), bRe_takeSign_5, sI_eq, c_signAt h.at, KV_eq, bRe_takeSign_9]
    by_cases hc : byt B n (blk B n k) = c
    · rw [if_pos hc, if_pos ⟨hf, hc⟩, bRe_takeSign_13, sI_eq, sI_sI, w32_id (by omega)]; rfl
    · rw [if_neg hc, if_neg (fun z => hc z.2), bRe_takeSign_11]; rfl
  · rw [if_pos hf, if_neg (fun z => hf z.1), bRe_takeSign_11]; rfl
/-- the first fault stays -/
def rfs (M : Mem) (a b : Int) : Mem := if M.1 5 0 9 = 0 then sI (sI M 5 0 9 a) 5 0 1 b else M
theorem c_refuse {d : Nat} {M Q X} {a b : Int} : Call (d + 1) qRe_refuse [vr 5 0, vi a, vi b] M Q X = Q (vi 0) (rfs M a b) := by
  rw [eRe_refuse, bRe_refuse_0, bRe_refuse_3, bRe_refuse_9, bRe_refuse_9]
  unfold rfs
  by_cases h : M.1 5 0 9 = 0
  · rw [if_neg (by omega), if_pos h]
  · rw [if_pos h, if_neg h]
theorem c_isLetter {d : Nat} {M Q X} {c : Int} : Call (d + 1) qRe_isLetter [vi c] M Q X = Q (vi (if isLt c = true then 1 else 0)) M := by
  simp only [bRe_isLetter_0, bRe_isLetter_3, bRe_isLetter_6, bRe_isLetter_8, bRe_isLetter_9, eRe_isLetter]
  unfold isLt
  simp only [decide_eq_true_eq]
  repeat' split
  all_goals first | rfl | omega
theorem c_isDigit {d : Nat} {M Q X} {c : Int} : Call (d + 1) qRe_isDigit [vi c] M Q X = Q (vi (if isDg c = true then 1 else 0)) M := by
  simp only [bRe_isDigit_0, bRe_isDigit_3, bRe_isDigit_6, bRe_isDigit_8, bRe_isDigit_9, eRe_isDigit]
  unfold isDg
  simp only [decide_eq_true_eq]
  repeat' split
  all_goals first | rfl | omega
theorem c_number {d : Nat} {B n M Q X} {k : Nat} {lo hi : Int} (h : TC B n M) (hk : M.1 5 0 8 = (k : Int)) (hn : k ≤ 1000) : Call (d + 3) qRe_number [vr 5 0, vi lo, vi hi] M Q X =
    Q (vi (lid 10000 (nvl B n (blk B n k) 0))) (if dge B n (blk B n k) = blk B n k then rfs (sI M 5 0 8 (dge B n (blk B n k))) 1 (blk B n k) else if lo ≤ lid 10000 (nvl B n (blk B n k) 0) ∧ lid 10000 (nvl B n (blk B n k) 0) ≤ hi then sI M 5 0 8 (dge B n (blk B n k)) else rfs (sI M 5 0 8 (dge B n (blk B n k))) 2 (blk B n k)) := by
  have hbm := blk_mx (B := B) (n := n) (k := k)
  have h2 := h.2.1
  rw [eRe_number, bRe_number_0, c_skipBlanks h hk hn, KU_eq, bRe_number_2, sI_eq]
  generalize hk1 : blk B n k = k1 at *
  have key : ∀ k : Nat, ∀ (i a : Int) (M : Mem), TC B n M → M.1 5 0 8 = (k : Int) → k ≤ 1000 → 0 ≤ i → i + (n + 1 - k : Nat) ≤ 501 → 0 ≤ a → ∃ z, At (d + 2) kRe_number 9 [vr 5 0, vi lo, vi hi, vi (k1 : Int), vi (lid 10000 a), vi i] [] M Q X = At (d + 2) kRe_number 39 [vr 5 0, vi lo, vi hi, vi (k1 : Int), vi (lid 10000 (nvl B n k a)), z] [] (sI M 5 0 8 (dge B n k)) Q X := by
    refine rnd_ind (B := B) (n := n) nD _ ?_ ?_
    · intro k hb i a M h hk hn i1 i2 ha
      have e : dge B n k = k := rnd_no hb
      rw [e, sI_same hk, nvl_no hb, bRe_number_9]
      by_cases hi : 500 ≤ i
      · rw [if_pos hi]; exact ⟨_, rfl⟩
      · rw [if_neg hi, bRe_number_12, hk, c_signAt h, KV_eq, bRe_number_16, c_isDigit, KV_eq, bRe_number_17, hb]
        exact ⟨vi i, by rw [if_pos (by simp)]⟩
    · intro k hkn hb ih i a M h hk hn i1 i2 ha
      have hd : 48 ≤ byt B n k ∧ byt B n k ≤ 57 := of_decide_eq_true hb
      have e : dge B n k = dge B n (k + 1) := rnd_yes nD hb
      have hlR : 0 ≤ lid 10000 a ∧ lid 10000 a ≤ 10000 := by unfold lid; split <;> omega
      have hstep : (if w32 (w32 (w32 (lid 10000 a * 10) + byt B n k) - 48) < 10000 then w32 (w32 (w32 (lid 10000 a * 10) + byt B n k) - 48) else 10000) = lid 10000 (10 * a + byt B n k - 48) := by
        rw [w32_id (z := lid 10000 a * 10) (by omega), w32_id (z := lid 10000 a * 10 + byt B n k) (by omega), w32_id (by omega)]
        unfold lid
        repeat' split
        all_goals omega
      obtain ⟨z, hz⟩ := ih (i + 1) (10 * a + byt B n k - 48) (sI M 5 0 8 ((k + 1 : Nat) : Int)) h.at (by rw [sI_eq]) (by omega) (by omega) (by omega) (by omega)
      refine ⟨z, ?_⟩
      rw [nvl_yes hb, e]
      rw [sI_sI] at hz
      rw [← hz, bRe_number_9, if_neg (by omega), bRe_number_12, hk, c_signAt h, KV_eq, bRe_number_16, c_isDigit, KV_eq, bRe_number_17, hb, if_neg (by simp), bRe_number_18, hk, c_signAt h, KV_eq, bRe_number_26, c_min, KV_eq, bRe_number_30, hk, hstep, w32_id (z := i + 1) (by omega), w32_id (by omega)]
      rfl
  obtain ⟨z, hz⟩ := key k1 0 0 (sI M 5 0 8 (k1 : Int)) h.at (by rw [sI_eq]) (by omega) (by omega) (by omega) (by omega)
  have hl0 : lid 10000 0 = 0 := rfl
  rw [hl0] at hz
  rw [hz, sI_sI, bRe_number_39, sI_eq]
  by_cases h1 : dge B n k1 = k1
  · rw [if_neg (by omega), if_pos h1, bRe_number_43, c_refuse, KU_eq, bRe_number_47, bRe_number_58]
  · rw [if_pos (by omega), if_neg h1, bRe_number_48]
    by_cases h3 : lid 10000 (nvl B n k1 0) < lo
    · rw [if_pos h3, if_neg (by omega), bRe_number_54, c_refuse, KU_eq, bRe_number_58]
    · rw [if_neg h3, bRe_number_51]
      by_cases h4 : lid 10000 (nvl B n k1 0) ≤ hi
      · rw [if_pos h4, if_pos (by omega), bRe_number_58]
      · rw [if_neg h4, if_neg (by omega), bRe_number_54, c_refuse, KU_eq, bRe_number_58]
