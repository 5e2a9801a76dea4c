/-! LAYER 3, BYTES COME ON THE TAPE -/
def by8 (x : Int) (k : Nat) : Int := band (bshr x (24 - 8 * (k : Int))) 255
theorem b255 : ∀ j : Fin 32, 8 ≤ j.val → (255#32).getLsbD j.val = false := by decide
theorem ush_bits (v : BitVec 32) (k : Nat) (hk : k ≤ 24) : v >>> k &&& 255#32 = v.sshiftRight k &&& 255#32 := by
  ext i hi
  simp only [BitVec.getElem_and, BitVec.getElem_ushiftRight, BitVec.getElem_sshiftRight]
  by_cases h8 : i < 8
  · rw [dif_pos (by omega), BitVec.getLsbD_eq_getElem (by omega)]
  · have : (255#32)[i] = false := by
      rw [← BitVec.getLsbD_eq_getElem]; exact b255 ⟨i, hi⟩ (by show 8 ≤ i; omega)
    rw [this, Bool.and_false, Bool.and_false]
theorem by_ush {x : Int} {k : Nat} (hk : k < 4) : band (bushr x (24 - 8 * (k : Int))) 255 = by8 x k := by
  unfold by8 band bushr bshr
  rw [Int32.ofInt_toInt, Int32.ofInt_toInt]
  congr 1
  apply Int32.toBitVec_inj.mp
  have e := ush_bits (Int32.ofInt x).toBitVec
  rcases (by omega : k = 0 ∨ k = 1 ∨ k = 2 ∨ k = 3) with rfl | rfl | rfl | rfl
  · exact e 24 (by omega)
  · exact e 16 (by omega)
  · exact e 8 (by omega)
  · exact e 0 (by omega)
def FB (a b c d e : Int) (k : Nat) : Int := by8 (if k < 4 then a else if k < 8 then b else if k < 12 then c else if k < 16 then d else e) (k % 4)
section
variable {d : Nat} {Q : AV → Mem → Prop} {X : Nat → Mem → Prop}
abbrev pFe (t i j : Nat) : Prop := (t = 39 ∧ i = 0) ∨ (t = 5 ∧ i = 0 ∧ j = 2)
theorem c_takeIn {M : Mem} {f : Nat} {x : Int} (hf : M.1 5 0 2 = (f : Int)) (h5 : f + 4 ≤ 500)
    (hq : ∀ M', Fs pFe M M' → M'.1 5 0 2 = ((f + 4 : Nat) : Int) → (∀ j, M'.1 39 0 j = if f ≤ j ∧ j < f + 4 then by8 x (j - f) else M.1 39 0 j) → Q (vi 0) M') : Call (d + 1) qRe_takeIn [vr 5 0, vi x] M Q X := by
  have key : ∀ (k : Nat) (M1 : Mem), k < 4 → Fs pFe M M1 → M1.1 5 0 2 = ((f + k : Nat) : Int) → (∀ j, M1.1 39 0 j = if f ≤ j ∧ j < f + k then by8 x (j - f) else M.1 39 0 j) →
      (∀ M2, Fs pFe M M2 → M2.1 5 0 2 = ((f + (k + 1) : Nat) : Int) → (∀ j, M2.1 39 0 j = if f ≤ j ∧ j < f + (k + 1) then by8 x (j - f) else M.1 39 0 j) → At d kRe_takeIn 2 [vr 5 0, vi x, vi (24 - 8 * ((k + 1 : Nat) : Int))] [] M2 Q X) → At d kRe_takeIn 2 [vr 5 0, vi x, vi (24 - 8 * (k : Int))] [] M1 Q X := by
    intro k M1 hk f1 a1 a2 hn
    rw [bRe_takeIn_2, if_neg (by omega), bRe_takeIn_4, if_neg (by omega), bRe_takeIn_7, if_neg (by omega), bRe_takeIn_11 (by omega), a1, sI_ne (by omega), a1, by_ush hk, w32_id (by omega), w32_id (by omega), show (24 - 8 * (k : Int) + -8) = 24 - 8 * ((k + 1 : Nat) : Int) by omega, Int.toNat_natCast]
    refine hn _ ((f1.sI (by omega)).sI (by omega)) ?_ ?_
    · rw [sI_eq]; omega
    · intro j
      rw [sI_ne (by omega), sI1]
      by_cases e : j = f + k
      · subst e
        rw [if_pos ⟨rfl, rfl, rfl⟩, if_pos (by omega), show f + k - f = k by omega]
      · rw [if_neg (fun z => e z.2.2), a2 j]
        by_cases e2 : f ≤ j ∧ j < f + k
        · rw [if_pos e2, if_pos (by omega)]
        · rw [if_neg e2, if_neg (by omega)]
  rw [eRe_takeIn, bRe_takeIn_0]
  refine key 0 M (by omega) Fs.rf hf (fun j => by rw [if_neg (by omega)]) ?_
  intro M1 f1 a1 a2
  refine key 1 M1 (by omega) f1 a1 a2 ?_
  intro M2 f2 b1 b2
  refine key 2 M2 (by omega) f2 b1 b2 ?_
  intro M3 f3 c1 c2
  refine key 3 M3 (by omega) f3 c1 c2 ?_
  intro M4 f4 d1 d2
  rw [bRe_takeIn_2, if_pos (by omega), bRe_takeIn_29]
  exact hq M4 f4 d1 d2
theorem c_feed {M : Mem} {f : Nat} {a b c e g : Int} (hf : M.1 5 0 2 = (f : Int)) (h5 : f ≤ 500)
    (hq : f ≤ 480 → ∀ M', Fs pFe M M' → M'.1 5 0 2 = ((f + 20 : Nat) : Int) → (∀ j, M'.1 39 0 j = if f ≤ j ∧ j < f + 20 then FB a b c e g (j - f) else M.1 39 0 j) → Q (vi ((f + 20 : Nat) : Int)) M') (hq2 : 480 < f → Q (vi (-1)) M) : Call (d + 2) qPR_feed [vr 9 0, vi a, vi b, vi c, vi e, vi g] M Q X := by
  have h480 : (480 : Int) < (f : Int) ∨ (f : Int) ≤ 480 := by omega
  rw [ePR_feed]
  refine h480.elim (fun h => ?_) (fun h => ?_)
  · rw [bPR_feed_0, hf, w32_id (by omega), if_neg (by omega), bPR_feed_7]
    exact hq2 (by omega)
  · rw [bPR_feed_0, hf, w32_id (by omega), if_pos (by omega), bPR_feed_9]
    replace hq := hq (by omega)
    refine c_takeIn hf (by omega) ?_
    intro M1 f1 a1 a2
    rw [KU_eq, bPR_feed_13]
    refine c_takeIn a1 (by omega) ?_
    intro M2 f2 b1 b2
    rw [KU_eq, bPR_feed_17]
    refine c_takeIn b1 (by omega) ?_
    intro M3 f3 c1 c2
    rw [KU_eq, bPR_feed_21]
    refine c_takeIn c1 (by omega) ?_
    intro M4 f4 d1 d2
    rw [KU_eq, bPR_feed_25]
    refine c_takeIn d1 (by omega) ?_
    intro M5 f5 e1 e2
    rw [KU_eq, bPR_feed_29]
    have e1' : M5.1 5 0 2 = ((f + 20 : Nat) : Int) := by rw [e1]
    rw [e1']
    refine hq M5 (f1.tr (f2.tr (f3.tr (f4.tr f5)))) e1' ?_
    intro j
    rw [e2 j, d2 j, c2 j, b2 j, a2 j]
    unfold FB
    by_cases j0 : f ≤ j ∧ j < f + 20
    · rw [if_pos j0]
      by_cases j1 : j < f + 4
      · rw [if_neg (by omega), if_neg (by omega), if_neg (by omega), if_neg (by omega), if_pos (by omega), if_pos (by omega), Nat.mod_eq_of_lt (by omega)]
      by_cases j2 : j < f + 8
      · rw [if_neg (by omega), if_neg (by omega), if_neg (by omega), if_pos (by omega), if_neg (by omega), if_pos (by omega), show (j - f) % 4 = j - (f + 4) by omega]
      by_cases j3 : j < f + 12
      · rw [if_neg (by omega), if_neg (by omega), if_pos (by omega), if_neg (by omega), if_neg (by omega), if_pos (by omega), show (j - f) % 4 = j - (f + 4 + 4) by omega]
      by_cases j4 : j < f + 16
      · rw [if_neg (by omega), if_pos (by omega), if_neg (by omega), if_neg (by omega), if_neg (by omega), if_pos (by omega), show (j - f) % 4 = j - (f + 4 + 4 + 4) by omega]
      · rw [if_pos (by omega), if_neg (by omega), if_neg (by omega), if_neg (by omega), if_neg (by omega), show (j - f) % 4 = j - (f + 4 + 4 + 4 + 4) by omega]
    · rw [if_neg j0, if_neg (by omega), if_neg (by omega), if_neg (by omega), if_neg (by omega), if_neg (by omega)]
abbrev pMfe (t i j : Nat) : Prop := (t = 54 ∧ i = 0) ∨ (t = 10 ∧ i = 0 ∧ (j = 0 ∨ j = 1))
theorem m_feed {M : Mem} {f : Nat} {a b c e g : Int} (hf : M.1 10 0 1 = (f : Int)) (h5 : f ≤ 500)
    (hq : f ≤ 480 → ∀ M', Fs pMfe M M' → M'.1 10 0 0 = 0 → M'.1 10 0 1 = ((f + 20 : Nat) : Int) → (∀ j, M'.1 54 0 j = if f ≤ j ∧ j < f + 20 then FB a b c e g (j - f) else M.1 54 0 j) → Q (vi ((f + 20 : Nat) : Int)) M') (hq2 : 480 < f → Q (vi (-1)) (sI M 10 0 0 0)) : Call (d + 2) qMo_feed [vr 10 0, vi a, vi b, vi c, vi e, vi g] M Q X := by
  have h480 : (480 : Int) < (f : Int) ∨ (f : Int) ≤ 480 := by omega
  rw [eMo_feed]
  refine h480.elim (fun h => ?_) (fun h => ?_)
  · rw [bMo_feed_0, sI_ne (by omega), hf, w32_id (by omega), if_neg (by omega), bMo_feed_9]
    exact hq2 (by omega)
  · rw [bMo_feed_0, sI_ne (by omega), hf, w32_id (by omega), if_pos (by omega), bMo_feed_11]
    replace hq := hq (by omega)
    refine loop_up (fun x M' => ∀ z7, At (d + 1) kMo_feed 13 [vr 10 0, vi a, vi b, vi c, vi e, vi g, vi x, z7] [] M' Q X) (fun x M' => Fs pMfe M M' ∧ M'.1 10 0 0 = 0 ∧ M'.1 10 0 1 = (f : Int) + x ∧ ∀ j, M'.1 54 0 j = if f ≤ j ∧ (j : Int) < (f : Int) + x then FB a b c e g (j - f) else M.1 54 0 j) 0 20 ?_ ?_ 0 _ (by omega) (by omega) ?_ _
    · intro M1 h1 z7
      obtain ⟨f1, a0, a1, a2⟩ := h1
      rw [bMo_feed_13, if_pos (by omega), bMo_feed_62, a1]
      rw [show (f : Int) + 20 = ((f + 20 : Nat) : Int) by omega]
      refine hq M1 f1 a0 (by rw [a1]; omega) ?_
      intro j
      rw [a2 j]
      by_cases j0 : f ≤ j ∧ j < f + 20
      · rw [if_pos j0, if_pos (by omega)]
      · rw [if_neg j0, if_neg (by omega)]
    · intro x M1 x0 x1 h1 hn z7
      obtain ⟨f1, a0, a1, a2⟩ := h1
      obtain ⟨k, rfl⟩ : ∃ k : Nat, x = (k : Int) := ⟨x.toNat, by omega⟩
      have hfb : ∀ W, (if k < 4 then a else if k < 8 then b else if k < 12 then c else if k < 16 then e else g) = W → FB a b c e g k = band (bshr W (24 - 8 * ((k : Int) % 4))) 255 := by
        intro W hW
        unfold FB by8
        rw [hW, show (24 - 8 * ((k % 4 : Nat) : Int)) = 24 - 8 * ((k : Int) % 4) by omega]
      have fin : ∀ W, (if k < 4 then a else if k < 8 then b else if k < 12 then c else if k < 16 then e else g) = W → At (d + 1) kMo_feed 37 [vr 10 0, vi a, vi b, vi c, vi e, vi g, vi (k : Int), z7] [vi W] M1 Q X := by
        intro W hW
        have hFB := hfb W hW
        clear hW hfb
        rw [bMo_feed_37 (by omega), a1, sI_ne (by omega), a1, w32_id (by omega), tmod_id (by omega), w32_id (z := 8 * ((k : Int) % 4)) (by omega), w32_id (z := 24 - 8 * ((k : Int) % 4)) (by omega), w32_id (by omega), show (f : Int) + (k : Int) + 1 = (f : Int) + ((k : Int) + 1) by omega]
        refine hn _ ⟨(f1.sI (by omega)).sI (by omega), ?_, ?_, ?_⟩ _
        · rw [sI_ne (by omega), sI_ne (by omega)]; exact a0
        · rw [sI_eq]
        · intro j
          rw [sI_ne (by omega), sI1]
          by_cases ej : j = ((f : Int) + (k : Int)).toNat
          · rw [if_pos ⟨rfl, rfl, ej⟩, if_pos (by omega), show j - f = k by omega, hFB]
          · rw [if_neg (fun z => ej z.2.2), a2 j]
            by_cases e2 : f ≤ j ∧ (j : Int) < (f : Int) + (k : Int)
            · rw [if_pos e2, if_pos (by omega)]
            · rw [if_neg e2, if_neg (by omega)]
      replace fin := fin _ rfl
      clear hfb
      rw [bMo_feed_13, if_neg (by omega), bMo_feed_16]
      by_cases k1 : k < 4
      · rw [if_pos k1] at fin
        rw [if_neg (by omega), bMo_feed_19]; exact fin
      rw [if_neg k1] at fin
      rw [if_pos (by omega), bMo_feed_21]
      by_cases k2 : k < 8
      · rw [if_pos k2] at fin
        rw [if_neg (by omega), bMo_feed_24]; exact fin
      rw [if_neg k2] at fin
      rw [if_pos (by omega), bMo_feed_26]
      by_cases k3 : k < 12
      · rw [if_pos k3] at fin
        rw [if_neg (by omega), bMo_feed_29]; exact fin
      rw [if_neg k3] at fin
      rw [if_pos (by omega), bMo_feed_31]
      by_cases k4 : k < 16
      · rw [if_pos k4] at fin
        rw [if_neg (by omega), bMo_feed_34]; exact fin
      rw [if_neg k4] at fin
      rw [if_pos (by omega), bMo_feed_36]; exact fin
    · exact ⟨Fs.rf.sI (by omega), sI_eq, by rw [sI_ne (by omega), hf]; omega, fun j => by rw [if_neg (by omega), sI_ne (by omega)]⟩
end
