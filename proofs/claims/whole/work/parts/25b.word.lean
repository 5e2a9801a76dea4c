/-! LAYER 3, WORDS, on both sides -/
def wd (r : Nat) : List Int := strT.getD r []
abbrev isW (B : BT) (n k : Nat) (w : List Int) : Prop := lte B n k = k + w.length ∧ ∀ j : Nat, j < w.length → byt B n (k + j) = w.getD j 0
theorem wd_ok : ∀ r : Nat, r < 28 → 12 ≤ r → (2 ≤ (wd r).length ∧ (wd r).length ≤ 6) ∧ ∀ j : Nat, j < (wd r).length → band (roI 119 r j) 255 = (wd r).getD j 0 ∧ 97 ≤ (wd r).getD j 0 ∧ (wd r).getD j 0 ≤ 122 := by decide
theorem c_length {d : Nat} {M Q X} {r : Nat} (hr : 12 ≤ r ∧ r < 28) : Call (d + 2) qJs_length [vr 11 r] M Q X = Q (vi ((wd r).length : Int)) M := by
  have h := (wd_ok r hr.2 hr.1).1
  have e : ∀ m : Nat, m ≤ 6 → bshr (m : Int) 0 = m := by decide
  rw [eJs_length, bJs_length_0, eJs_coder, bJs_coder_0, if_neg (by omega), bJs_coder_2, bJs_coder_6 (by omega), KV_eq, bJs_length_5]
  show Q (vi (bshr ((wd r).length : Int) 0)) M = _
  rw [e _ h.2]
theorem c_charAt {d : Nat} {M Q X} {r j : Nat} (hr : 12 ≤ r ∧ r < 28) (hj : j < (wd r).length) : Call (d + 2) qJs_charAt [vr 11 r, vi (j : Int)] M Q X = Q (vi ((wd r).getD j 0)) M := by
  obtain ⟨h1, h2, h3⟩ := (wd_ok r hr.2 hr.1).2 j hj
  have ej : (j : Int).toNat = j := by omega
  have hl : (strT.getD r []).length = (wd r).length := rfl
  rw [eJs_charAt, bJs_charAt_0, eJs_isLatin1, bJs_isLatin1_0, if_neg (by omega), bJs_isLatin1_2, if_neg (by omega), bJs_isLatin1_5, bJs_isLatin1_8, KV_eq, bJs_charAt_2, if_neg (by omega), bJs_charAt_3, eJl_charAt, bJl_charAt_0 (by rw [hl, ej, h1]; omega), KV_eq, ej, h1, bJs_charAt_7 (by omega)]
theorem byt_run {p : Int → Bool} (hp : p (-1) = false) {B : BT} {n : Nat} : ∀ k : Nat, ∀ j : Nat, k ≤ j → j < rnd p B n k → p (byt B n j) = true := by
  refine rnd_ind (B := B) (n := n) hp _ ?_ ?_
  · intro k h j j1 j2; rw [rnd_no h] at j2; omega
  · intro k hk h ih j j1 j2
    rw [rnd_yes hp h] at j2
    by_cases he : j = k
    · subst he; exact h
    · exact ih j (by omega) j2
theorem c_takeWord {d : Nat} {B n M Q X} {k r : Nat} (hr : 12 ≤ r ∧ r < 28) (h : TC B n M) (hk : M.1 5 0 8 = (k : Int)) (hn : k ≤ 1000) : Call (d + 3) qRe_takeWord [vr 5 0, vr 11 r] M Q X = if M.1 5 0 9 = 0 ∧ isW B n (blk B n k) (wd r) then Q (vi 1) (sI M 5 0 8 (blk B n k + (wd r).length : Nat)) else Q (vi 0) (sI M 5 0 8 (blk B n k)) := by
  have hbm := blk_mx (B := B) (n := n) (k := k)
  have h2 := h.2.1
  have hwl := (wd_ok r hr.2 hr.1).1
  rw [eRe_takeWord, bRe_takeWord_0, c_skipBlanks h hk hn, KU_eq, bRe_takeWord_2]
  generalize hk1 : blk B n k = k1 at *
  have hM1 : TC B n (sI M 5 0 8 (k1 : Int)) := h.at
  have hat : (sI M 5 0 8 (k1 : Int)).1 5 0 8 = (k1 : Int) := sI_eq
  have hf : (sI M 5 0 8 (k1 : Int)).1 5 0 9 = M.1 5 0 9 := sI_ne (by omega)
  have key : ∀ k' : Nat, k1 ≤ k' → (k' : Int) - k1 + (n + 1 - k' : Nat) ≤ 501 → ∃ z, At (d + 2) kRe_takeWord 6 [vr 5 0, vr 11 r, vi ((k' - k1 : Nat) : Int), vi ((k' - k1 : Nat) : Int)] [] (sI M 5 0 8 (k1 : Int)) Q X = At (d + 2) kRe_takeWord 20 [vr 5 0, vr 11 r, vi ((lte B n k' - k1 : Nat) : Int), z] [] (sI M 5 0 8 (k1 : Int)) Q X := by
    refine rnd_ind (B := B) (n := n) nL _ ?_ ?_
    · intro k' hb h1 h3
      have e : lte B n k' = k' := rnd_no hb
      rw [e, bRe_takeWord_6]
      by_cases hi : (500 : Int) ≤ ((k' - k1 : Nat) : Int)
      · rw [if_pos hi]; exact ⟨_, rfl⟩
      · rw [if_neg hi, bRe_takeWord_9, hat, w32_id (by omega), show (k1 : Int) + ((k' - k1 : Nat) : Int) = ((k' : Nat) : Int) by omega, c_signAt hM1, KV_eq, bRe_takeWord_15, c_isLetter, KV_eq, bRe_takeWord_16, hb]
        exact ⟨vi ((k' - k1 : Nat) : Int), by rw [if_pos (by simp)]⟩
    · intro k' hkn hb ih h1 h3
      have e : lte B n k' = lte B n (k' + 1) := rnd_yes nL hb
      obtain ⟨z, hz⟩ := ih (by omega) (by omega)
      refine ⟨z, ?_⟩
      rw [e, ← hz, bRe_takeWord_6, if_neg (by omega), bRe_takeWord_9, hat, w32_id (by omega), show (k1 : Int) + ((k' - k1 : Nat) : Int) = ((k' : Nat) : Int) by omega, c_signAt hM1, KV_eq, bRe_takeWord_15, c_isLetter, KV_eq, bRe_takeWord_16, hb, if_neg (by simp), bRe_takeWord_17, w32_id (by omega), show ((k' - k1 : Nat) : Int) + 1 = ((k' + 1 - k1 : Nat) : Int) by omega]
  obtain ⟨z, hz⟩ := key k1 (Nat.le_refl _) (by omega)
  rw [show ((k1 - k1 : Nat) : Int) = 0 by omega] at hz
  have hll := rnd_le nL (B := B) (n := n) k1
  have hll : k1 ≤ lte B n k1 ∧ (lte B n k1 ≤ n ∨ lte B n k1 = k1) := ⟨hll.1, hll.2.1⟩
  rw [hz, bRe_takeWord_20, hf]
  by_cases hf0 : M.1 5 0 9 = 0
  rotate_left
  · rw [if_pos hf0, if_neg (fun z => hf0 z.1), bRe_takeWord_27]; rfl
  rw [if_neg (by omega), bRe_takeWord_23, c_length hr, KV_eq, bRe_takeWord_26]
  by_cases hlen : lte B n k1 = k1 + (wd r).length
  rotate_left
  · rw [if_neg (by omega), if_neg (fun z => hlen z.2.1), bRe_takeWord_27]; rfl
  rw [if_pos (by omega), bRe_takeWord_29, show lte B n k1 - k1 = (wd r).length by omega]
  have key2 : ∀ m : Nat, m ≤ (wd r).length → (∀ j : Nat, j < (wd r).length - m → byt B n (k1 + j) = (wd r).getD j 0) → At (d + 2) kRe_takeWord 31 [vr 5 0, vr 11 r, vi ((wd r).length : Int), vi (((wd r).length - m : Nat) : Int)] [] (sI M 5 0 8 (k1 : Int)) Q X = if M.1 5 0 9 = 0 ∧ isW B n k1 (wd r) then Q (vi 1) (sI M 5 0 8 (k1 + (wd r).length : Nat)) else Q (vi 0) (sI M 5 0 8 k1) := by
    intro m
    induction m with
    | zero =>
      intro _ hall
      rw [bRe_takeWord_31, if_pos (by omega), bRe_takeWord_48, hat, sI_sI, w32_id (by omega), if_pos ⟨hf0, hlen, fun j hj => hall j (by omega)⟩]
      rfl
    | succ m ih =>
      intro hm hall
      rw [bRe_takeWord_31, if_neg (by omega), bRe_takeWord_34, hat, w32_id (by omega), show (k1 : Int) + (((wd r).length - (m + 1) : Nat) : Int) = ((k1 + ((wd r).length - (m + 1)) : Nat) : Int) by omega, c_signAt hM1, KV_eq, bRe_takeWord_40, c_charAt hr (by omega), KV_eq, bRe_takeWord_43]
      by_cases hc : byt B n (k1 + ((wd r).length - (m + 1))) = (wd r).getD ((wd r).length - (m + 1)) 0
      · rw [if_pos hc, bRe_takeWord_46, w32_id (by omega), show (((wd r).length - (m + 1) : Nat) : Int) + 1 = (((wd r).length - m : Nat) : Int) by omega]
        refine ih (by omega) ?_
        intro j hj
        by_cases he : j = (wd r).length - (m + 1)
        · rw [he]; exact hc
        · exact hall j (by omega)
      · rw [if_neg hc, if_neg (fun z => hc (z.2.2 _ (by omega))), bRe_takeWord_44]; rfl
  have := key2 (wd r).length (Nat.le_refl _) (by intro j hj; omega)
  rw [show ((wd r).length - (wd r).length : Nat) = 0 by omega] at this
  exact this
/-- a word as a number, by the reference -/
def encW (g : Nat → Int) : Nat → Int
  | 0 => 0
  | j + 1 => 27 * encW g j + g j - 96
theorem encW_R {g : Nat → Int} : ∀ a : Nat, (∀ j : Nat, j < a → 97 ≤ g j ∧ g j ≤ 122) → 0 ≤ encW g a ∧ (a = 0 ∨ 1 ≤ encW g a)
  | 0, _ => ⟨Int.le_refl _, Or.inl rfl⟩
  | a + 1, h => by
    have ih := encW_R a (fun j hj => h j (by omega))
    have := h a (by omega)
    unfold encW; omega
theorem encW_inj {g h : Nat → Int} : ∀ a b : Nat, (∀ j : Nat, j < a → 97 ≤ g j ∧ g j ≤ 122) → (∀ j : Nat, j < b → 97 ≤ h j ∧ h j ≤ 122) → encW g a = encW h b → a = b ∧ ∀ j : Nat, j < a → g j = h j
  | 0, b, _, h2, he => by
    have := encW_R b h2
    have he : (0 : Int) = encW h b := he
    exact ⟨by omega, by intros; omega⟩
  | a + 1, 0, h1, _, he => by
    have := encW_R (a + 1) h1
    have he : encW g (a + 1) = 0 := he
    omega
  | a + 1, b + 1, h1, h2, he => by
    have d1 := h1 a (by omega)
    have d2 := h2 b (by omega)
    have he' : 27 * encW g a + g a - 96 = 27 * encW h b + h b - 96 := he
    obtain ⟨e1, e2⟩ := encW_inj a b (fun j hj => h1 j (by omega)) (fun j hj => h2 j (by omega)) (by omega)
    subst e1
    refine ⟨rfl, fun j hj => ?_⟩
    by_cases hja : j = a
    · subst hja; omega
    · exact e2 j (by omega)
theorem encW_congr {g h : Nat → Int} : ∀ a : Nat, (∀ j : Nat, j < a → g j = h j) → encW g a = encW h a
  | 0, _ => rfl
  | a + 1, hh => by unfold encW; rw [encW_congr a (fun j hj => hh j (by omega)), hh a (by omega)]
theorem encW_b {g : Nat → Int} : ∀ a : Nat, (∀ j : Nat, j < a → 97 ≤ g j ∧ g j ≤ 122) → encW g a < 27 ^ a
  | 0, _ => by unfold encW; omega
  | a + 1, h => by
    have ih := encW_b a (fun j hj => h j (by omega))
    have := h a (by omega)
    unfold encW
    rw [Int.pow_succ]
    omega
/-- the reference has this text -/
def TM (B : BT) (n : Nat) (M : Mem) : Prop := M.1 10 0 2 = (n : Int) ∧ n ≤ 500 ∧ ∀ j : Nat, j < n → (if M.1 10 0 8 = 0 then M.1 54 0 j else M.1 55 0 j) = B j
theorem TM.at {B n M} (h : TM B n M) {j v} (hj : j ≠ 2 ∧ j ≠ 8) : TM B n (sI M 10 0 j v) := ⟨by rw [sI_ne (by omega)]; exact h.1, h.2.1, fun i hi => by rw [sI_ne (by omega), sI_ne (by omega), sI_ne (by omega)]; exact h.2.2 i hi⟩
theorem m_byteAt {d : Nat} {B n M Q X} {k : Nat} (h : TM B n M) : Call (d + 1) qMo_byteAt [vr 10 0, vi (k : Int)] M Q X = Q (vi (byt B n k)) M := by
  have h2 := h.2.1
  rw [eMo_byteAt, bMo_byteAt_0, h.1]
  unfold byt
  by_cases hk : k < n
  · have h3 := h.2.2 k hk
    rw [if_pos (by omega), bMo_byteAt_6, if_pos hk]
    by_cases h8 : M.1 10 0 8 = 0
    · rw [if_pos h8] at h3
      rw [if_neg (by omega), bMo_byteAt_9 (by omega), bMo_byteAt_18, show (k : Int).toNat = k by omega, h3]
    · rw [if_neg h8] at h3
      rw [if_pos h8, bMo_byteAt_14 (by omega), bMo_byteAt_18, show (k : Int).toNat = k by omega, h3]
  · rw [if_neg (by omega), bMo_byteAt_4, bMo_byteAt_18, if_neg hk]
theorem m_blanks {d : Nat} {B n M Q X} {k : Nat} (h : TM B n M) (hk : M.1 10 0 4 = (k : Int)) (hn : k ≤ 1000) : Call (d + 2) qMo_blanks [vr 10 0] M Q X = Q (vi 0) (sI M 10 0 4 (blk B n k)) := by
  rw [eMo_blanks]
  have key : ∀ k : Nat, ∀ (M : Mem), TM B n M → M.1 10 0 4 = (k : Int) → k ≤ 1000 → At (d + 1) kMo_blanks 0 [vr 10 0] [] M Q X = Q (vi 0) (sI M 10 0 4 (blk B n k)) := by
    refine rnd_ind (B := B) (n := n) nB _ ?_ ?_
    · intro k hb M h hk hn
      have hb' : ¬ byt B n k = 32 := of_decide_eq_false hb
      have e : blk B n k = k := rnd_no hb
      rw [e, sI_same hk, bMo_blanks_0, hk, m_byteAt h, KV_eq, bMo_blanks_4, if_pos hb', bMo_blanks_13]
    · intro k hkn hb ih M h hk hn
      have h2 := h.2.1
      have hb' : byt B n k = 32 := of_decide_eq_true hb
      have e : blk B n k = blk B n (k + 1) := rnd_yes nB hb
      rw [bMo_blanks_0, hk, m_byteAt h, KV_eq, bMo_blanks_4, if_neg (by omega), bMo_blanks_6, hk, w32_id (by omega), ih _ (h.at (by omega)) (by rw [sI_eq]; omega) (by omega), sI_sI, e]
  exact key k M h hk hn
def wrs (M : Mem) (a b : Int) : Mem := if M.1 10 0 6 = 0 then sI (sI M 10 0 6 a) 10 0 7 b else M
theorem m_wrong {d : Nat} {M Q X} {a b : Int} : Call (d + 1) qMo_wrong [vr 10 0, vi a, vi b] M Q X = Q (vi 0) (wrs M a b) := by
  rw [eMo_wrong, bMo_wrong_0, bMo_wrong_3, bMo_wrong_9, bMo_wrong_9]
  unfold wrs
  by_cases h : M.1 10 0 6 = 0
  · rw [if_neg (by omega), if_pos h]
  · rw [if_pos h, if_neg h]
theorem m_isDigit {d : Nat} {M Q X} {c : Int} : Call (d + 1) qMo_isDigit [vi c] M Q X = Q (vi (if isDg c = true then 1 else 0)) M := by
  simp only [bMo_isDigit_0, bMo_isDigit_3, bMo_isDigit_6, bMo_isDigit_8, bMo_isDigit_9, eMo_isDigit]
  unfold isDg
  simp only [decide_eq_true_eq]
  repeat' split
  all_goals first | rfl | omega
