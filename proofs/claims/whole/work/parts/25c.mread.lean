/-! LAYER 3, THE REFERENCE'S SMALL READERS -/
theorem m_number {d : Nat} {B n M Q X} {k : Nat} {lo hi : Int} (h : TM B n M) (hk : M.1 10 0 4 = (k : Int)) (hn : k ≤ 1000) : Call (d + 3) qMo_number [vr 10 0, vi lo, vi hi] M Q X =
    Q (vi (lid 100000 (nvl B n (blk B n k) 0))) (if lo ≤ lid 100000 (nvl B n (blk B n k) 0) ∧ lid 100000 (nvl B n (blk B n k) 0) ≤ hi then (sI (if dge B n (blk B n k) = blk B n k then wrs (sI M 10 0 4 (blk B n k)) 1 (blk B n k) else sI M 10 0 4 (blk B n k)) 10 0 4 (dge B n (blk B n k))) else wrs (sI (if dge B n (blk B n k) = blk B n k then wrs (sI M 10 0 4 (blk B n k)) 1 (blk B n k) else sI M 10 0 4 (blk B n k)) 10 0 4 (dge B n (blk B n k))) 2 (blk B n k)) := by
  have hbm := blk_mx (B := B) (n := n) (k := k)
  have h2 := h.2.1
  have TMw : ∀ {M : Mem} {a b : Int}, TM B n M → TM B n (wrs M a b) := by
    intro M a b h; unfold wrs; split
    · exact (h.at (by omega)).at (by omega)
    · exact h
  have atw : ∀ {M : Mem} {a b : Int}, (wrs M a b).1 10 0 4 = M.1 10 0 4 := by
    intro M a b; unfold wrs; split
    · rw [sI_ne (by omega), sI_ne (by omega)]
    · rfl
  rw [eMo_number, bMo_number_0, m_blanks h hk hn, KU_eq, bMo_number_2, sI_eq, m_byteAt (h.at (by omega)), KV_eq, bMo_number_11, m_isDigit, KV_eq, bMo_number_12]
  generalize hk1 : blk B n k = k1 at *
  have key : ∀ k : Nat, ∀ (a : Int) (M : Mem), TM B n M → M.1 10 0 4 = (k : Int) → k ≤ 1000 → 0 ≤ a → At (d + 2) kMo_number 18 [vr 10 0, vi lo, vi hi, vi (k1 : Int), vi (lid 100000 a)] [] M Q X = At (d + 2) kMo_number 49 [vr 10 0, vi lo, vi hi, vi (k1 : Int), vi (lid 100000 (nvl B n k a))] [] (sI M 10 0 4 (dge B n k)) Q X := by
    refine rnd_ind (B := B) (n := n) nD _ ?_ ?_
    · intro k hb a M h hk hn ha
      have e : dge B n k = k := rnd_no hb
      rw [e, sI_same hk, nvl_no hb, bMo_number_18, hk, m_byteAt h, KV_eq, bMo_number_22, m_isDigit, KV_eq, bMo_number_23, hb, if_pos (by simp)]
    · intro k hkn hb ih a M h hk hn ha
      have hd : 48 ≤ byt B n k ∧ byt B n k ≤ 57 := of_decide_eq_true hb
      have e : dge B n k = dge B n (k + 1) := rnd_yes nD hb
      have hlR : 0 ≤ lid 100000 a ∧ lid 100000 a ≤ 100000 := by unfold lid; split <;> omega
      have hw : w32 (w32 (w32 (10 * lid 100000 a) + byt B n k) - 48) = 10 * lid 100000 a + byt B n k - 48 := by
        rw [w32_id (z := 10 * lid 100000 a) (by omega), w32_id (z := 10 * lid 100000 a + byt B n k) (by omega), w32_id (by omega)]
      have hstep : (if 10 * lid 100000 a + byt B n k - 48 ≤ 100000 then 10 * lid 100000 a + byt B n k - 48 else 100000) = lid 100000 (10 * a + byt B n k - 48) := by
        unfold lid
        repeat' split
        all_goals omega
      have hz := ih (10 * a + byt B n k - 48) (sI M 10 0 4 ((k + 1 : Nat) : Int)) (h.at (by omega)) (by rw [sI_eq]) (by omega) (by omega)
      rw [sI_sI] at hz
      rw [nvl_yes hb, e, ← hz, bMo_number_18, hk, m_byteAt h, KV_eq, bMo_number_22, m_isDigit, KV_eq, bMo_number_23, hb, if_neg (by simp), bMo_number_24, hk, m_byteAt h, KV_eq, bMo_number_31, hw, bMo_number_38, bMo_number_40, ite_At, hstep, bMo_number_41, hk, w32_id (by omega)]
      rfl
  have hl0 : lid 100000 0 = 0 := rfl
  have main : ∀ M1 : Mem, TM B n M1 → M1.1 10 0 4 = (k1 : Int) → At (d + 2) kMo_number 18 [vr 10 0, vi lo, vi hi, vi (k1 : Int), vi 0] [] M1 Q X = Q (vi (lid 100000 (nvl B n k1 0))) (if lo ≤ lid 100000 (nvl B n k1 0) ∧ lid 100000 (nvl B n k1 0) ≤ hi then sI M1 10 0 4 (dge B n k1) else wrs (sI M1 10 0 4 (dge B n k1)) 2 k1) := by
    intro M1 h1 hk1
    have hz := key k1 0 M1 h1 hk1 (by omega) (by omega)
    rw [hl0] at hz
    rw [hz, bMo_number_49, m_in, KV_eq, bMo_number_53]
    by_cases hin : lo ≤ lid 100000 (nvl B n k1 0) ∧ lid 100000 (nvl B n k1 0) ≤ hi
    · rw [if_pos (by rw [if_pos hin]; omega), if_pos hin, bMo_number_58]
    · rw [if_neg (by rw [if_neg hin]; simp), if_neg hin, bMo_number_54, m_wrong, KU_eq, bMo_number_58]
  by_cases hdg : isDg (byt B n k1) = true
  · have e1 : dge B n k1 ≠ k1 := by
      have e : dge B n k1 = dge B n (k1 + 1) := rnd_yes nD hdg
      have := rnd_le nD (B := B) (n := n) (k1 + 1)
      have : k1 + 1 ≤ dge B n (k1 + 1) := this.1
      omega
    rw [if_pos (by rw [if_pos hdg]; omega), main _ (h.at (by omega)) sI_eq, if_neg e1]
  · have e1 : dge B n k1 = k1 := rnd_no (by simpa using hdg)
    rw [if_neg (by rw [if_neg hdg]; simp), bMo_number_13, sI_eq, m_wrong, KU_eq, main _ (TMw (h.at (by omega))) (by rw [atw, sI_eq]), if_pos e1]
theorem p27 : (27 : Int) ^ 5 = 14348907 := rfl
theorem m_wordHere {d : Nat} {B n M Q X} {k : Nat} (h : TM B n M) (hk : M.1 10 0 4 = (k : Int)) (hn : k ≤ 1000) : Call (d + 3) qMo_wordHere [vr 10 0] M Q X = Q (vi (if lte B n (blk B n k) - blk B n k ≤ 6 then encW (fun j => byt B n (blk B n k + j)) (lte B n (blk B n k) - blk B n k) else -1)) (sI M 10 0 4 (blk B n k)) := by
  have hbm := blk_mx (B := B) (n := n) (k := k)
  have h2 := h.2.1
  rw [eMo_wordHere, bMo_wordHere_0, m_blanks h hk hn, KU_eq, bMo_wordHere_2]
  generalize hk1 : blk B n k = k1 at *
  have hM1 : TM B n (sI M 10 0 4 (k1 : Int)) := h.at (by omega)
  have hat : (sI M 10 0 4 (k1 : Int)).1 10 0 4 = (k1 : Int) := sI_eq
  have lets := byt_run nL (B := B) (n := n) k1
  have key : ∀ k' : Nat, k1 ≤ k' → lte B n k' = lte B n k1 → At (d + 2) kMo_wordHere 6 [vr 10 0, vi (encW (fun j => byt B n (k1 + j)) (min (k' - k1) 6)), vi ((k' - k1 : Nat) : Int)] [] (sI M 10 0 4 (k1 : Int)) Q X = At (d + 2) kMo_wordHere 44 [vr 10 0, vi (encW (fun j => byt B n (k1 + j)) (min (lte B n k' - k1) 6)), vi ((lte B n k' - k1 : Nat) : Int)] [] (sI M 10 0 4 (k1 : Int)) Q X := by
    refine rnd_ind (B := B) (n := n) nL _ ?_ ?_
    · intro k' hb h1 h3
      have e : lte B n k' = k' := rnd_no hb
      have hb' : ¬ (97 ≤ byt B n k' ∧ byt B n k' ≤ 122) := of_decide_eq_false hb
      have hkk : k' ≤ 1000 := by
        have := rnd_le nL (B := B) (n := n) k1
        have : lte B n k1 ≤ n ∨ lte B n k1 = k1 := this.2.1
        omega
      rw [e, bMo_wordHere_6, hat, w32_id (by omega), show (k1 : Int) + ((k' - k1 : Nat) : Int) = ((k' : Nat) : Int) by omega, m_byteAt hM1, KV_eq, bMo_wordHere_12]
      by_cases hlo : byt B n k' < 97
      · rw [if_pos hlo]
      · rw [if_neg hlo, bMo_wordHere_14, hat, w32_id (by omega), show (k1 : Int) + ((k' - k1 : Nat) : Int) = ((k' : Nat) : Int) by omega, m_byteAt hM1, KV_eq, bMo_wordHere_20, if_pos (by omega)]
    · intro k' hkn hb ih h1 h3
      have e : lte B n k' = lte B n (k' + 1) := rnd_yes nL hb
      have hb' : 97 ≤ byt B n k' ∧ byt B n k' ≤ 122 := of_decide_eq_true hb
      rw [e, ← ih (by omega) (by rw [← e, h3]), bMo_wordHere_6, hat, w32_id (by omega), show (k1 : Int) + ((k' - k1 : Nat) : Int) = ((k' : Nat) : Int) by omega, m_byteAt hM1, KV_eq, bMo_wordHere_12, if_neg (by omega), bMo_wordHere_14, hat, w32_id (by omega), show (k1 : Int) + ((k' - k1 : Nat) : Int) = ((k' : Nat) : Int) by omega, m_byteAt hM1, KV_eq, bMo_wordHere_20, if_neg (by omega), bMo_wordHere_22]
      by_cases h6 : (6 : Int) ≤ ((k' - k1 : Nat) : Int)
      · rw [if_pos h6, bMo_wordHere_40, bMo_wordHere_41, w32_id (by omega), show ((k' - k1 : Nat) : Int) + 1 = ((k' + 1 - k1 : Nat) : Int) by omega, show min (k' - k1) 6 = 6 by omega, show min (k' + 1 - k1) 6 = 6 by omega]
      · have em : min (k' - k1) 6 = k' - k1 := by omega
        have em2 : min (k' + 1 - k1) 6 = (k' - k1) + 1 := by omega
        have hlt : k' < lte B n k1 := by
          have := rnd_le nL (B := B) (n := n) (k' + 1)
          have : k' + 1 ≤ lte B n (k' + 1) := this.1
          omega
        have hlets : ∀ j : Nat, j < k' - k1 → 97 ≤ byt B n (k1 + j) ∧ byt B n (k1 + j) ≤ 122 := fun j hj => of_decide_eq_true (lets (k1 + j) (by omega) (by unfold lte at hlt; omega))
        have r1 := encW_R (g := fun j => byt B n (k1 + j)) (k' - k1) hlets
        have r2 := encW_b (g := fun j => byt B n (k1 + j)) (k' - k1) hlets
        have r3 : encW (fun j => byt B n (k1 + j)) (k' - k1) < 14348907 := by
          have hp : ∀ m : Nat, m ≤ 5 → (27 : Int) ^ m ≤ 14348907 := by decide
          have := hp (k' - k1) (by omega)
          omega
        have ee : encW (fun j => byt B n (k1 + j)) ((k' - k1) + 1) = 27 * encW (fun j => byt B n (k1 + j)) (k' - k1) + byt B n k' - 96 := by
          show 27 * encW (fun j => byt B n (k1 + j)) (k' - k1) + byt B n (k1 + (k' - k1)) - 96 = _
          rw [show k1 + (k' - k1) = k' by omega]
        have ef : 27 * encW (fun j => byt B n (k1 + j)) (k' - k1) + byt B n k' - 97 + 1 = encW (fun j => byt B n (k1 + j)) ((k' - k1) + 1) := by rw [ee]; omega
        rw [if_neg h6, em, em2, bMo_wordHere_25, hat, w32_id (z := (k1 : Int) + _) (by omega), show (k1 : Int) + ((k' - k1 : Nat) : Int) = ((k' : Nat) : Int) by omega, m_byteAt hM1, KV_eq, bMo_wordHere_34, bMo_wordHere_41, w32_id (z := 27 * _) (by omega), w32_id (z := 27 * _ + _) (by omega), w32_id (z := 27 * _ + _ - 97) (by omega), w32_id (z := 27 * _ + _ - 97 + 1) (by omega), w32_id (by omega), ef, show ((k' - k1 : Nat) : Int) + 1 = ((k' + 1 - k1 : Nat) : Int) by omega]
  have hz := key k1 (Nat.le_refl _) rfl
  rw [show ((k1 - k1 : Nat) : Int) = 0 by omega, show min (k1 - k1) 6 = 0 by omega] at hz
  have e0 : encW (fun j => byt B n (k1 + j)) 0 = 0 := rfl
  rw [e0] at hz
  rw [hz, bMo_wordHere_44]
  by_cases h6 : lte B n k1 - k1 ≤ 6
  · rw [if_pos (by omega), if_pos h6, bMo_wordHere_49, bMo_wordHere_50, show min (lte B n k1 - k1) 6 = lte B n k1 - k1 by omega]
  · rw [if_neg (by omega), if_neg h6, bMo_wordHere_47, bMo_wordHere_50]
def mwd (a b c d e f : Int) : Int :=
  let v := w32 (w32 (27 * a) + b)
  let v := if c = 0 then v else w32 (w32 (27 * v) + c)
  let v := if d = 0 then v else w32 (w32 (27 * v) + d)
  let v := if e = 0 then v else w32 (w32 (27 * v) + e)
  if f = 0 then v else w32 (w32 (27 * v) + f)
theorem m_word {d : Nat} {M Q X} {a b c e f g : Int} : Call (d + 1) qMo_word [vi a, vi b, vi c, vi e, vi f, vi g] M Q X = Q (vi (mwd a b c e f g)) M := by
  unfold mwd
  rw [eMo_word, bMo_word_0]
  by_cases h2 : c = 0 <;> by_cases h3 : e = 0 <;> by_cases h4 : f = 0 <;> by_cases h5 : g = 0 <;> simp [h2, h3, h4, h5, bMo_word_8, bMo_word_10, bMo_word_15, bMo_word_18, bMo_word_20, bMo_word_25, bMo_word_28, bMo_word_30, bMo_word_35, bMo_word_38, bMo_word_40, bMo_word_45]
theorem m_isWord {d : Nat} {B n M Q X} {k r : Nat} {a b c e f g : Int} (hr : 12 ≤ r ∧ r < 28) (hw : mwd a b c e f g = encW (fun j => (wd r).getD j 0) (wd r).length) (h : TM B n M) (hk : M.1 10 0 4 = (k : Int)) (hn : k ≤ 1000) : Call (d + 4) qMo_isWord [vr 10 0, vi a, vi b, vi c, vi e, vi f, vi g] M Q X = Q (vi (if isW B n (blk B n k) (wd r) then 1 else 0)) (sI M 10 0 4 (blk B n k)) := by
  rw [eMo_isWord, bMo_isWord_0, m_wordHere h hk hn, KV_eq, bMo_isWord_2, m_word, KV_eq, bMo_isWord_9, bMo_isWord_10, bMo_isWord_12, bMo_isWord_13, bMo_isWord_13]
  generalize blk B n k = k1
  obtain ⟨hl, hc⟩ := wd_ok r hr.2 hr.1
  have lets := byt_run nL (B := B) (n := n) k1
  have hle := (rnd_le nL (B := B) (n := n) k1).1
  have hle : k1 ≤ lte B n k1 := hle
  have hch : ∀ j : Nat, j < (wd r).length → 97 ≤ (wd r).getD j 0 ∧ (wd r).getD j 0 ≤ 122 := fun j hj => (hc j hj).2
  have hpos := encW_R (g := fun j => (wd r).getD j 0) (wd r).length hch
  have hlets : ∀ j : Nat, j < lte B n k1 - k1 → 97 ≤ byt B n (k1 + j) ∧ byt B n (k1 + j) ≤ 122 := fun j hj => of_decide_eq_true (lets (k1 + j) (by omega) (by unfold lte at hj; omega))
  have hiff : (if lte B n k1 - k1 ≤ 6 then encW (fun j => byt B n (k1 + j)) (lte B n k1 - k1) else -1) = mwd a b c e f g ↔ isW B n k1 (wd r) := by
    rw [hw]
    constructor
    · intro he
      by_cases h6 : lte B n k1 - k1 ≤ 6
      · rw [if_pos h6] at he
        obtain ⟨e1, e2⟩ := encW_inj _ _ hlets hch he
        exact ⟨by omega, fun j hj => e2 j (by omega)⟩
      · rw [if_neg h6] at he; omega
    · rintro ⟨e1, e2⟩
      have e3 : lte B n k1 - k1 = (wd r).length := by omega
      rw [e3, if_pos (by omega)]
      exact encW_congr _ (fun j hj => e2 j hj)
  by_cases hiw : isW B n k1 (wd r)
  · rw [if_neg (fun z => z (hiff.mpr hiw)), if_pos hiw]; rfl
  · rw [if_pos (fun z => hiw (hiff.mp z)), if_neg hiw]; rfl
theorem m_skipWord {d : Nat} {B n M Q X} {k : Nat} (h : TM B n M) (hk : M.1 10 0 4 = (k : Int)) (hn : k ≤ 1000) : Call (d + 2) qMo_skipWord [vr 10 0] M Q X = Q (vi 0) (sI M 10 0 4 (lte B n k)) := by
  rw [eMo_skipWord]
  have key : ∀ k : Nat, ∀ (M : Mem), TM B n M → M.1 10 0 4 = (k : Int) → k ≤ 1000 → At (d + 1) kMo_skipWord 0 [vr 10 0] [] M Q X = Q (vi 0) (sI M 10 0 4 (lte B n k)) := by
    refine rnd_ind (B := B) (n := n) nL _ ?_ ?_
    · intro k hb M h hk hn
      have hb' : ¬ (97 ≤ byt B n k ∧ byt B n k ≤ 122) := of_decide_eq_false hb
      have e : lte B n k = k := rnd_no hb
      rw [e, sI_same hk, bMo_skipWord_0, hk, m_byteAt h, KV_eq, bMo_skipWord_4]
      by_cases hlo : byt B n k < 97
      · rw [if_pos hlo, bMo_skipWord_19]
      · rw [if_neg hlo, bMo_skipWord_6, hk, m_byteAt h, KV_eq, bMo_skipWord_10, if_pos (by omega), bMo_skipWord_19]
    · intro k hkn hb ih M h hk hn
      have h2 := h.2.1
      have hb' : 97 ≤ byt B n k ∧ byt B n k ≤ 122 := of_decide_eq_true hb
      have e : lte B n k = lte B n (k + 1) := rnd_yes nL hb
      rw [bMo_skipWord_0, hk, m_byteAt h, KV_eq, bMo_skipWord_4, if_neg (by omega), bMo_skipWord_6, hk, m_byteAt h, KV_eq, bMo_skipWord_10, if_neg (by omega), bMo_skipWord_12, hk, w32_id (by omega), ih _ (h.at (by omega)) (by rw [sI_eq]; omega) (by omega), sI_sI, e]
  exact key k M h hk hn
theorem m_sign {d : Nat} {B n M Q X} {k : Nat} {c : Int} (h : TM B n M) (hk : M.1 10 0 4 = (k : Int)) (hn : k ≤ 1000) : Call (d + 3) qMo_sign [vr 10 0, vi c] M Q X = if byt B n (blk B n k) = c then Q (vi 0) (sI M 10 0 4 (blk B n k + 1 : Nat)) else Q (vi 0) (wrs (sI M 10 0 4 (blk B n k)) 1 (blk B n k)) := by
  have hbm := blk_mx (B := B) (n := n) (k := k)
  have h2 := h.2.1
  rw [eMo_sign, bMo_sign_0, m_blanks h hk hn, KU_eq, bMo_sign_2, sI_eq, m_byteAt (h.at (by omega)), KV_eq, bMo_sign_6]
  by_cases hc : byt B n (blk B n k) = c
  · rw [if_neg (by omega), if_pos hc, bMo_sign_8, sI_eq, sI_sI, bMo_sign_20, w32_id (by omega)]; rfl
  · rw [if_pos hc, if_neg hc, bMo_sign_15, sI_eq, m_wrong, KU_eq, bMo_sign_20]
