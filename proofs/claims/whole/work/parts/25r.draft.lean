/-! LAYER 3, WHAT A READ DRAFT IS: clauses -/
def TG (B : BT) (n : Nat) (T : TT) : Prop := ∀ i k0 r, T i = some (k0, r) → k0 ≤ n ∧ ∃ k', px B n (pxF n) 5 0 k0 rd0 = .inr (r, k')
theorem WD.set {D : RT} {j : Nat} {v : Int} (h : WD D) (hj : j ≠ 1)
    (hv : (j = 2 → 1 ≤ v ∧ v ≤ 6) ∧ (j = 3 → 0 ≤ v ∧ v ≤ 9999) ∧ (j = 4 → 0 ≤ v ∧ v ≤ 9999) ∧ j ≠ 5 ∧ j ≠ 6) : WD (sD D 4 j v) := by
  obtain ⟨⟨d1, d2, d3, d4, d5, d6, d7⟩, d8⟩ := h
  refine ⟨⟨?_, ?_, ?_, ?_, ?_, ?_, ?_⟩, fun s hs => (d8 s hs).of (sD_ne (by omega)) (fun t j _ _ => sD_ne (by omega))⟩
  · rw [sD_ne (by omega)]; exact d1
  · by_cases e : j = 2
    · subst e; rw [sD_eq]; exact hv.1 rfl
    · rw [sD_ne (by omega)]; exact d2
  · by_cases e : j = 3
    · subst e; rw [sD_eq]; exact hv.2.1 rfl
    · rw [sD_ne (by omega)]; exact d3
  · by_cases e : j = 4
    · subst e; rw [sD_eq]; exact hv.2.2.1 rfl
    · rw [sD_ne (by omega)]; exact d4
  · rw [sD_ne (by omega)]; exact d5
  · rw [sD_ne (by omega)]; exact d6
  · rw [sD_ne (by omega), sD_ne (by omega)]; exact d7
theorem cl1_wd {B : BT} {n : Nat} {D : RT} {T : TT} {k : Nat} {D' : RT} {T' : TT} {k1 : Nat} (hk : k ≤ n) (hD : WD D) (hT : TG B n T) (h : cl1 B n D T k = .inr ((D', T'), k1)) : WD D' ∧ TG B n T' := by
  unfold cl1 at h
  split at h
  · rename_i hw
    have hl := isW_le hk hw
    rw [show (wd 12).length = 4 from rfl] at hl
    split at h
    · cases h
    · rename_i D2 k2 hs
      cases h
      refine ⟨?_, hT⟩
      unfold scl at hs
      split at hs
      · cases hs
      · rename_i h3
        split at hs
        · cases hs
        · rename_i v k3 he
          have hn3 := nmb_le hl he
          have hb := blk_le (B := B) hn3.2.1
          obtain ⟨⟨d1, d2, d3, d4, d5, d6, d7⟩, d8⟩ := hD
          obtain ⟨s, hs'⟩ : ∃ s : Nat, (s : Int) = D 4 1 := ⟨(D 4 1).toNat, by omega⟩
          have hsn : (D 4 1).toNat = s := by omega
          rw [hsn] at hs
          have e1 : sD (sD D 4 1 (D 4 1 + 1)) 33 s v 4 1 = D 4 1 + 1 := by rw [sD_ne (by omega), sD_eq]
          have e2 : ∀ j, j ≠ 1 → sD (sD D 4 1 (D 4 1 + 1)) 33 s v 4 j = D 4 j := fun j hj => by rw [sD_ne (by omega), sD_ne (by omega)]
          have e3 : ∀ t j, t ≠ 4 → (t ≠ 33 ∨ j ≠ s) → sD (sD D 4 1 (D 4 1 + 1)) 33 s v t j = D t j := fun t j ht hj => by rw [sD_ne (by omega), sD_ne (by omega)]
          refine pcx_wd (by omega) 3 _ _ _ _ (by omega) hb.2 ⟨?_, ?_⟩ (by rw [e1]; omega) ?_ hs
          · rw [e1, e2 2 (by omega), e2 3 (by omega), e2 4 (by omega), e2 5 (by omega), e2 6 (by omega)]
            exact ⟨by omega, d2, d3, d4, d5, d6, d7⟩
          · intro s' hs2
            have w := d8 s' hs2
            unfold WS at w ⊢
            obtain ⟨w1, w2, w3, w4, w5⟩ := w
            rw [e1, e3 34 s' (by omega) (by omega)]
            by_cases e : s' = s
            · subst e
              rw [sD_eq]
              refine ⟨by omega, ⟨fun _ => by omega, fun _ => by omega⟩, w3, fun z => w4 (by omega), fun p hp => ?_⟩
              rw [e3 35 _ (by omega) (by omega), e3 36 _ (by omega) (by omega)]
              exact w5 p hp
            · rw [e3 33 s' (by omega) (by omega)]
              refine ⟨w1, ⟨fun z => w2.1 (by omega), fun z => by have := w2.2 z; omega⟩, w3, fun z => w4 (by omega), fun p hp => ?_⟩
              rw [e3 35 _ (by omega) (by omega), e3 36 _ (by omega) (by omega)]
              exact w5 p hp
          · rw [e3 34 s (by omega) (by omega)]
            exact (d8 s (by omega)).2.2.2.1 (by omega)
  split at h
  · rename_i hw
    have hl := isW_le hk hw
    rw [show (wd 13).length = 5 from rfl] at hl
    split at h
    · cases h
    · rename_i v k2 he
      have h2 := nmb_le hl he
      have hb := blk_le (B := B) h2.2.1
      split at h
      · rename_i hw2
        have hl2 := isW_le hb.2 hw2
        rw [show (wd 14).length = 6 from rfl] at hl2
        split at h
        · cases h
        · rename_i v2 k3 he3
          have h3 := nmb_le hl2 he3
          cases h
          exact ⟨(hD.set (by omega) (by omega)).set (by omega) (by omega), hT⟩
      · cases h
        exact ⟨(hD.set (by omega) (by omega)).set (by omega) (by omega), hT⟩
  split at h
  · rename_i hw
    have hl := isW_le hk hw
    rw [show (wd 15).length = 5 from rfl] at hl
    split at h
    · cases h
    · rename_i v k2 he
      have h2 := nmb_le hl he
      cases h
      exact ⟨hD.set (by omega) (by omega), hT⟩
  split at h
  · rename_i hw
    have hl := isW_le hk hw
    rw [show (wd 16).length = 5 from rfl] at hl
    split at h
    · cases h
    · rename_i v k2 he
      have h2 := nmb_le hl he
      have hb := blk_le (B := B) h2.2.1
      split at h
      · rename_i hw2
        have hl2 := isW_le hb.2 hw2
        rw [show (wd 17).length = 6 from rfl] at hl2
        split at h
        · cases h
        · rename_i v2 k3 he3
          have h3 := nmb_le hl2 he3
          cases h
          refine ⟨?_, hT⟩
          obtain ⟨⟨d1, d2, d3, d4, d5, d6, d7⟩, d8⟩ := hD
          have e : ∀ j, j ≠ 5 → j ≠ 6 → sD (sD D 4 5 v) 4 6 v2 4 j = D 4 j := fun j h1 h2 => by rw [sD_ne (by omega), sD_ne (by omega)]
          have e5 : sD (sD D 4 5 v) 4 6 v2 4 5 = v := by rw [sD_ne (by omega), sD_eq]
          refine ⟨?_, fun s hs => (d8 s hs).of (e 1 (by omega) (by omega)) (fun t j _ _ => by rw [sD_ne (by omega), sD_ne (by omega)])⟩
          rw [e 1 (by omega) (by omega), e 2 (by omega) (by omega), e 3 (by omega) (by omega), e 4 (by omega) (by omega), e5, sD_eq]
          exact ⟨d1, d2, d3, d4, by omega, by omega, by omega⟩
      · cases h
  have hset : ∀ (i k0 : Nat) (r : Rd) (k2 : Nat), k0 ≤ n → px B n (pxF n) 5 0 k0 rd0 = .inr (r, k2) → TG B n (sTt T i (some (k0, r))) := by
    intro i k0 r k2 hk0 hp i' k0' r' e
    unfold sTt at e
    split at e
    · cases e; exact ⟨hk0, k2, hp⟩
    · exact hT i' k0' r' e
  split at h
  · rename_i hw
    have hl := isW_le hk hw
    rw [show (wd 18).length = 4 from rfl] at hl
    split at h
    · cases h
    · rename_i r k2 he
      cases h
      exact ⟨hD, hset _ _ _ _ hl he⟩
  split at h
  · rename_i hw
    have hl := isW_le hk hw
    rw [show (wd 19).length = 5 from rfl] at hl
    split at h
    · cases h
    · rename_i r k2 he
      cases h
      exact ⟨hD, hset _ _ _ _ hl he⟩
  · cases h
theorem cls_wd {B : BT} {n : Nat} (hn : n ≤ 500) : ∀ (f : Nat) (D : RT) (T : TT) (k : Nat) (D' : RT) (T' : TT), k ≤ n → WD D → TG B n T → cls B n f D T k = .inr (D', T') → WD D' ∧ TG B n T' ∧ 1 ≤ D' 4 1 := by
  intro f
  induction f with
  | zero => intro D T k D' T' _ _ _ h; cases h
  | succ f ih =>
    intro D T k D' T' hk hD hT h
    rw [cls] at h
    split at h
    · split at h
      · cases h
      · rename_i D2 T2 k2 h2
        unfold cl2 at h2
        split at h2
        · cases h2
        · rename_i D3 T3 k3 h3
          have hw := cl1_wd hk hD hT h3
          have ho := cl1_ok hn hk hD.1.1.1 h3
          have hb := blk_le (B := B) ho.2.1
          split at h2
          · rename_i hs
            have hlt := byt_ne (B := B) (n := n) (k := blk B n k3) (by omega)
            cases h2
            have hb2 := blk_le (B := B) (show blk B n k3 + 1 ≤ n from hlt)
            exact ih _ _ _ _ _ hb2.2 (hw.1.set (by omega) (by omega)) hw.2 h
          · cases h2
    · split at h
      · cases h
      · rename_i h0
        cases h
        have := hD.1.1
        exact ⟨hD, hT, by omega⟩
theorem txt_wd {B : BT} {n : Nat} (hn : n ≤ 500) {D : RT} {T : TT} (h : txt B n = .inr (D, T)) : WD D ∧ TG B n T ∧ 1 ≤ D 4 1 :=
  cls_wd hn _ _ _ _ _ _ (blk_le (Nat.zero_le n)).2 WD0 (fun i k0 r e => by cases e) h
/-- the table of leaves and the answers to sell -/
def lvT (T : TT) (w o x : Int) : Int := match T 1 with | none => 1 | some (_, r) => if r.2 o x w ≠ 0 then 1 else 0
def slT (T : TT) (o x w : Int) : Int := match T 0 with | none => 0 | some (_, r) => if r.2 o x w ≠ 0 then 1 else 0
