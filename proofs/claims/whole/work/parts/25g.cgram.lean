/-! LAYER 3, THE CLASS READS A CONDITION: what it does is the reading -/
theorem At_mono {d d' c i l st M Q X} (hd : d ≤ d') (h : At d c i l st M Q X) : At d' c i l st M Q X := by
  obtain ⟨n, r, h, q⟩ := h
  exact ⟨n, r, ev_mono _ _ _ _ _ _ _ _ _ _ (callD_mono prg d d' n n hd (Nat.le_refl _)) (Nat.le_refl _) h, q⟩
theorem Out.tr {B n tp M0 M sz res M'} (h0 : Fs (pCr tp) M0 M) (h1 : M.1 5 0 1 = M0.1 5 0 1) (h2 : ∀ j : Nat, j < sz → M.1 40 tp j = M0.1 40 tp j) (h : Out B n tp M sz res M') : Out B n tp M0 sz res M' := by
  obtain ⟨a, b⟩ := h
  refine ⟨h0.tr a, ?_⟩
  rcases res with e | ⟨r, k'⟩
  · exact b
  · obtain ⟨b1, b2, b3, b4, b5, b6⟩ := b
    exact ⟨b1, b2, b3.trans h1, b4, b5, fun j hj => (b6 j hj).trans (h2 j hj)⟩
def dp (kd o : Nat) : Nat := 6 * (7 - o) + 6 + kd
def CgP (B : BT) (n tp : Nat) (q kd o k : Nat) (res : PRs) : Prop := ∀ (M : Mem) (Q : AV → Mem → Prop) (X : Nat → Mem → Prop) (sz : Nat), Inn B n tp M sz k [] → sz + (n - k) ≤ 500 → (∀ M', Out B n tp M sz res M' → Q (vi 0) M') → Call (dp kd o) q [vr 5 0, vi (o : Int)] M Q X
def LgP (B : BT) (n tp : Nat) (tb : List Ent) (kd o k : Nat) (r : Rd) (res : PRs) : Prop := ∀ (M : Mem) (Q : AV → Mem → Prop) (X : Nat → Mem → Prop) (sz k0 : Nat) (i : Int), Inn B n tp M sz k r.1 → Gd n kd o k0 k r → sz + (n - k0) ≤ 500 → 0 ≤ i → i < (k : Int) → (∀ M', Out B n tp M sz res M' → Q (vi 0) M') → At (dp kd o - 1) tb 5 [vr 5 0, vi (o : Int), vi i] [] M Q X
theorem out_ok {B n tp M sz r k'} {M' : Mem} (hf : Fs (pCr tp) M M') (hi : Inn B n tp M' sz k' r.1) (h1 : M'.1 5 0 1 = M.1 5 0 1) (h2 : ∀ j : Nat, j < sz → M'.1 40 tp j = M.1 40 tp j) : Out B n tp M sz (.inr (r, k')) M' := ⟨hf, hi.1, hi.2.1, h1, hi.2.2.1, hi.2.2.2, h2⟩
/-- from a reading to the next -/
theorem Out.inn {B n tp M sz r k' M'} (h : Out B n tp M sz (.inr (r, k')) M') : Fs (pCr tp) M M' ∧ Inn B n tp M' sz k' r.1 ∧ M'.1 5 0 1 = M.1 5 0 1 ∧ ∀ j : Nat, j < sz → M'.1 40 tp j = M.1 40 tp j := by
  obtain ⟨a, b1, b2, b3, b4, b5, b6⟩ := h
  exact ⟨a, ⟨b1, b2, b4, b5⟩, b3, b6⟩
/-- a reading begun behind codes that stand -/
theorem Inn.nil {B n tp M sz k cs} (h : Inn B n tp M sz k cs) : Inn B n tp M (sz + cs.length) k [] := ⟨h.1, h.2.1, by rw [h.2.2.1]; simp, fun j hj => by simp at hj⟩
theorem Inn.join {B n tp M M' sz k k' a b} (h : Inn B n tp M sz k a) (h' : Inn B n tp M' (sz + a.length) k' b) (hj : ∀ j : Nat, j < sz + a.length → M'.1 40 tp j = M.1 40 tp j) : Inn B n tp M' sz k' (a ++ b) :=
  ⟨h'.1, h'.2.1, by rw [h'.2.2.1, List.length_append]; omega, Hc.app (h.2.2.2.fr hj) h'.2.2.2⟩
theorem px_bl0 {B : BT} {n : Nat} : ∀ (f o k : Nat) (r : Rd), px B n f 0 o (blk B n k) r = px B n f 0 o k r
  | 0, _, _, _ => rfl
  | f + 1, o, k, r => by rw [px_0, px_0, blk_blk]
theorem px_bl1 {B : BT} {n : Nat} : ∀ (f o k : Nat) (r : Rd), px B n f 1 o (blk B n k) r = px B n f 1 o k r
  | 0, _, _, _ => rfl
  | f + 1, o, k, r => by rw [px_1, px_1, px_bl0]
theorem px_bl2 {B : BT} {n : Nat} : ∀ (f o k : Nat) (r : Rd), px B n f 2 o (blk B n k) r = px B n f 2 o k r
  | 0, _, _, _ => rfl
  | f + 1, o, k, r => by rw [px_2, px_2, px_bl1]
theorem g_rel {d : Nat} {B : BT} {n tp : Nat} {M : Mem} {Q : AV → Mem → Prop} {X : Nat → Mem → Prop} {sz k : Nat} {cs : List Int} (h : Inn B n tp M sz k cs)
    (hq : ∀ M' c, Fs (pCr tp) M M' → (if byt B n (blk B n k) = 60 ∨ byt B n (blk B n k) = 62 ∨ byt B n (blk B n k) = 61 then (blk B n k < n ∧ M' = sI M 5 0 8 ((blk B n k + 1 : Nat) : Int) ∧ c = rel (byt B n (blk B n k))) else FX B n tp 1 (blk B n k : Int) M') → Q (vi c) M') : Call (d + 5) qRe_takeRelation [vr 5 0] M Q X := by
  have hbd := h.1.bd
  have hb := blk_le (B := B) h.1.2.2.1
  have h1 := h.at hb.2
  rw [eRe_takeRelation, bRe_takeRelation_0, c_takeSign h.1.1 h.1.2.1 hbd.1]
  by_cases c1 : byt B n (blk B n k) = 60
  · have hlt := byt_ne (B := B) (n := n) (k := blk B n k) (by omega)
    rw [if_pos ⟨h.2.1, c1⟩, KV_eq, bRe_takeRelation_3, if_neg (by omega), bRe_takeRelation_4]
    refine hq _ _ (Fs.rf.sI (by omega)) ?_
    rw [if_pos (Or.inl c1), c1]
    exact ⟨hlt, rfl, rfl⟩
  · rw [if_neg (fun z => c1 z.2), KV_eq, bRe_takeRelation_3, if_pos rfl, bRe_takeRelation_6, c_takeSign h1.1.1 h1.1.2.1 (by omega), blk_blk]
    simp only [sI_sI]
    by_cases c2 : byt B n (blk B n k) = 62
    · have hlt := byt_ne (B := B) (n := n) (k := blk B n k) (by omega)
      rw [if_pos ⟨h1.2.1, c2⟩, KV_eq, bRe_takeRelation_9, if_neg (by omega), bRe_takeRelation_10]
      refine hq _ _ (Fs.rf.sI (by omega)) ?_
      rw [if_pos (Or.inr (Or.inl c2)), c2]
      exact ⟨hlt, rfl, rfl⟩
    · rw [if_neg (fun z => c2 z.2), KV_eq, bRe_takeRelation_9, if_pos rfl, bRe_takeRelation_12]
      refine g_demand h1 (by omega) ?_
      intro M' f' x'
      rw [blk_blk] at x'
      rw [KU_eq, bRe_takeRelation_15]
      refine hq _ _ ((Fs.rf.sI (by omega)).tr f') ?_
      by_cases c3 : byt B n (blk B n k) = 61
      · have hlt := byt_ne (B := B) (n := n) (k := blk B n k) (by omega)
        rw [if_pos c3] at x'
        rw [if_pos (Or.inr (Or.inr c3))]
        refine ⟨hlt, by rw [x'.2, sI_sI], ?_⟩
        rw [c3]; rfl
      · rw [if_neg c3] at x'
        rw [if_neg (by simp [c1, c2, c3])]
        exact x'
set_option maxHeartbeats 4000000 in
theorem cgr (B : BT) (n tp : Nat) (hn : n ≤ 500) : ∀ (f kd o k : Nat) (r : Rd), o ≤ 6 → k ≤ n → px B n f kd o k r ≠ .inl (9, 0) →
    (kd = 0 → CgP B n tp qRe_readUnit 0 o k (px B n f 0 o k r)) ∧ (kd = 1 → CgP B n tp qRe_readProduct 1 o k (px B n f 1 o k r)) ∧ (kd = 2 → CgP B n tp qRe_readSum 2 o k (px B n f 2 o k r)) ∧ (kd = 3 → CgP B n tp qRe_readCheck 3 o k (px B n f 3 o k r)) ∧ (kd = 4 → CgP B n tp qRe_readBoth 4 o k (px B n f 4 o k r)) ∧ (kd = 5 → CgP B n tp qRe_readChoice 5 o k (px B n f 5 o k r)) ∧
    (kd = 6 → LgP B n tp kRe_readProduct 1 o k r (px B n f 6 o k r)) ∧ (kd = 7 → LgP B n tp kRe_readSum 2 o k r (px B n f 7 o k r)) ∧ (kd = 8 → LgP B n tp kRe_readBoth 4 o k r (px B n f 8 o k r)) ∧ (kd = 9 → LgP B n tp kRe_readChoice 5 o k r (px B n f 9 o k r)) := by
  intro f
  induction f with
  | zero => intro kd o k r _ _ h; exact absurd rfl h
  | succ f ih =>
    intro kd o k r ho hk hno
    have hb := blk_le (B := B) hk
    obtain ⟨w22, w23, w24, w25, w26, w27⟩ := wl
    match kd, hno with
    | 0, hno =>
      refine ⟨fun _ => ?_, by omega, by omega, by omega, by omega, by omega, by omega, by omega, by omega, by omega⟩
      intro M Q X sz hI hcap hq
      have hbd := hI.1.bd
      obtain ⟨m, hm⟩ : ∃ m, dp 0 o = m + 12 := ⟨dp 0 o - 12, by unfold dp; omega⟩
      have hI1 := hI.at hb.2
      have hat1 : (sI M 5 0 8 ((blk B n k : Nat) : Int)).1 5 0 8 = ((blk B n k : Nat) : Int) := sI_eq
      rw [px_0] at hno hq
      rw [hm, eRe_readUnit, bRe_readUnit_0, c_skipBlanks hI.1.1 hI.1.2.1 hbd.1, KU_eq, bRe_readUnit_2, hat1, c_takeSign hI1.1.1 hI1.1.2.1 (by omega), blk_blk]
      simp only [sI_sI]
      by_cases h40 : byt B n (blk B n k) = 40
      · have hlt := byt_ne (B := B) (n := n) (k := blk B n k) (by omega)
        rw [if_pos h40] at hno hq
        rw [if_pos ⟨hI1.2.1, h40⟩, KV_eq, bRe_readUnit_8, if_neg (by omega), bRe_readUnit_9, eRe_mayOpen, bRe_mayOpen_0]
        have hI2 := hI.at (k' := blk B n k + 1) (by omega)
        by_cases ho6 : 6 ≤ o
        · rw [if_pos ho6] at hno hq
          rw [if_neg (by omega), bRe_mayOpen_3, c_refuse, KU_eq, bRe_mayOpen_7, if_pos (by omega), bRe_mayOpen_12, bRe_mayOpen_13, KV_eq, bRe_readUnit_13, if_pos (by rfl), bRe_readUnit_57]
          exact hq _ ⟨fs_rfs (Fs.rf.sI (by omega)), FX.of_rfs hI2.1 hI2.2.1⟩
        · rw [if_neg ho6] at hno hq
          rw [if_pos (by omega), bRe_mayOpen_7, if_neg (by omega), bRe_mayOpen_10, bRe_mayOpen_13, KV_eq, bRe_readUnit_13, if_neg (by decide), bRe_readUnit_14, w32_id (by omega), show ((o : Int) + 1) = ((o + 1 : Nat) : Int) by omega]
          cases hp : px B n f 2 (o + 1) (blk B n k + 1) r with
          | inl e =>
            rw [hp] at hno hq
            have he := px_f B n f _ _ _ _ _ hp
            refine Call_mono (show dp 2 (o + 1) ≤ m + 11 by unfold dp at hm ⊢; omega) ((ih 2 (o + 1) _ r (by omega) (by omega) (by rw [hp]; exact hno)).2.2.1 rfl _ _ _ sz hI2 (by omega) ?_)
            intro M1 h1
            rw [hp] at h1
            rw [KU_eq, bRe_readUnit_19]
            refine f_demand (by omega) h1.2 ?_
            intro M2 f2 x2
            rw [KU_eq, bRe_readUnit_22, bRe_readUnit_57]
            exact hq M2 ⟨((Fs.rf.sI (by omega)).tr h1.1).tr f2, x2⟩
          | inr x =>
            obtain ⟨r2, k2⟩ := x
            rw [hp] at hno hq
            dsimp only at hno hq
            have g := (px_gd B n hn f 2 (o + 1) _ r r2 k2 (by omega) (by omega) hp).1 (by omega)
            have hb2 := blk_le (B := B) g.1.2
            refine Call_mono (show dp 2 (o + 1) ≤ m + 11 by unfold dp at hm ⊢; omega) ((ih 2 (o + 1) _ r (by omega) (by omega) (by rw [hp]; simp)).2.2.1 rfl _ _ _ sz hI2 (by omega) ?_)
            intro M1 h1
            rw [hp] at h1
            obtain ⟨a1, a2, a3, a4⟩ := h1.inn
            rw [KU_eq, bRe_readUnit_19]
            refine g_demand a2 (by omega) ?_
            intro M2 f2 x2
            rw [KU_eq, bRe_readUnit_22, bRe_readUnit_57]
            by_cases h41 : byt B n (blk B n k2) = 41
            · rw [if_pos h41] at x2 hq
              refine hq M2 (out_ok (((Fs.rf.sI (by omega)).tr a1).tr f2) x2.1 ?_ ?_)
              · rw [x2.2, sI_ne (by omega), a3, sI_ne (by omega)]
              · intro j hj; rw [x2.2, sI_ne (by omega), a4 j hj, sI_ne (by omega)]
            · rw [if_neg h41] at x2 hq
              exact hq M2 ⟨((Fs.rf.sI (by omega)).tr a1).tr f2, x2⟩
      · rw [if_neg h40] at hno hq
        rw [if_neg (fun z => h40 z.2), KV_eq, bRe_readUnit_8, if_pos rfl, bRe_readUnit_23, c_takeWord (by omega) hI1.1.1 hI1.1.2.1 (by omega), blk_blk]
        simp only [sI_sI]
        have wput : ∀ (c : Int) (g : Int → Int → Int → Int) (k' : Nat), k' ≤ n → blk B n k < k' → (∀ M', Out B n tp M sz (.inr (([c], g), k')) M' → Q (vi 0) M') → ∀ (z1 z2 : AV) (u : Nat), Call (m + 11) qTe_put [vr 6 (((sI M 5 0 8 ((k' : Nat) : Int)).1 5 0 6).toNat), vi c] (sI M 5 0 8 ((k' : Nat) : Int)) (fun _ M' => Q (vi 0) M') X := by
          intro c g k' hk' hlt hq z1 z2 u
          have hI3 := hI.at hk'
          have hsz := hI.2.2.1
          obtain ⟨p1, p2⟩ := hI3.put (c := c) (by show sz + 0 < 500; omega)
          rw [hI3.tp, c_put ⟨hI3.1.2.2.2.2.2.1, hI3.1.2.2.2.2.2.2⟩, if_pos p1]
          refine hq _ (out_ok ?_ p2 ?_ ?_)
          · exact ((Fs.rf.sI (by omega)).sI (by omega)).sI (by omega)
          · rw [sI_ne (by omega), sI_ne (by omega), sI_ne (by omega)]
          · intro j hj
            rw [below_put (sz := sz) (by rw [hI3.2.2.1]; simp) hj, sI_ne (by omega)]
        by_cases h25 : isW B n (blk B n k) (wd 25)
        · have hwl := isW_len h25 hb.2
          rw [if_pos h25] at hno hq
          rw [if_pos ⟨hI1.2.1, h25⟩, w25, KV_eq, bRe_readUnit_26, if_neg (by omega), bRe_readUnit_27]
          have := wput (-1) _ _ (by omega) (by omega) hq JK JK 0
          refine Call_mono (Nat.le_refl _) (cast ?_ this)
          congr 1
          funext v M'
          rw [KU_eq, bRe_readUnit_31, bRe_readUnit_57]
        · rw [if_neg h25] at hno hq
          rw [if_neg (fun z => h25 z.2), KV_eq, bRe_readUnit_26, if_pos rfl, bRe_readUnit_32, c_takeWord (by omega) hI1.1.1 hI1.1.2.1 (by omega), blk_blk]
          simp only [sI_sI]
          by_cases h26 : isW B n (blk B n k) (wd 26)
          · have hwl := isW_len h26 hb.2
            rw [if_pos h26] at hno hq
            rw [if_pos ⟨hI1.2.1, h26⟩, w26, KV_eq, bRe_readUnit_35, if_neg (by omega), bRe_readUnit_36]
            have := wput (-2) _ _ (by omega) (by omega) hq JK JK 0
            refine Call_mono (Nat.le_refl _) (cast ?_ this)
            congr 1
            funext v M'
            rw [KU_eq, bRe_readUnit_40, bRe_readUnit_57]
          · rw [if_neg h26] at hno hq
            rw [if_neg (fun z => h26 z.2), KV_eq, bRe_readUnit_35, if_pos rfl, bRe_readUnit_41, c_takeWord (by omega) hI1.1.1 hI1.1.2.1 (by omega), blk_blk]
            simp only [sI_sI]
            by_cases h27 : isW B n (blk B n k) (wd 27)
            · have hwl := isW_len h27 hb.2
              rw [if_pos h27] at hno hq
              rw [if_pos ⟨hI1.2.1, h27⟩, w27, KV_eq, bRe_readUnit_44, if_neg (by omega), bRe_readUnit_45]
              have := wput (-3) _ _ (by omega) (by omega) hq JK JK 0
              refine Call_mono (Nat.le_refl _) (cast ?_ this)
              congr 1
              funext v M'
              rw [KU_eq, bRe_readUnit_49, bRe_readUnit_57]
            · rw [if_neg h27] at hno hq
              have hdl := dge_le (B := B) hb.2
              have hI4 := hI.at (k' := dge B n (blk B n k)) hdl.2
              rw [if_neg (fun z => h27 z.2), KV_eq, bRe_readUnit_44, if_pos rfl, bRe_readUnit_50, hI1.tp, c_number hI1.1.1 hI1.1.2.1 (by omega), blk_blk, sI_sI, KV_eq, bRe_readUnit_56]
              by_cases hd : dge B n (blk B n k) = blk B n k
              · rw [if_pos hd] at hno hq
                rw [if_pos hd]
                have x1 : FX B n tp 1 (blk B n k : Int) (rfs (sI M 5 0 8 ((dge B n (blk B n k) : Nat) : Int)) 1 (blk B n k : Int)) := FX.of_rfs hI4.1 hI4.2.1
                obtain ⟨k5, q5⟩ := x1.1
                rw [c_put ⟨q5.2.2.2.2.2.1, q5.2.2.2.2.2.2⟩, KU_eq, bRe_readUnit_57]
                exact hq _ ⟨fs_put (fs_rfs (Fs.rf.sI (by omega))), x1.put⟩
              · rw [if_neg hd] at hno hq
                have hv := nvl_ge (B := B) (n := n) (blk B n k) 0 (by omega)
                rw [if_neg hd]
                by_cases h9 : nvl B n (blk B n k) 0 ≤ 9999
                · rw [if_pos h9] at hno hq
                  have hl : lid 10000 (nvl B n (blk B n k) 0) = nvl B n (blk B n k) 0 := by unfold lid; rw [if_pos (by omega)]
                  rw [hl, if_pos (by omega)]
                  have := wput (nvl B n (blk B n k) 0) _ _ hdl.2 (by omega) hq JK JK 0
                  rw [hI4.tp] at this
                  refine Call_mono (Nat.le_refl _) (cast ?_ this)
                  congr 1
                  funext v M'
                  rw [KU_eq, bRe_readUnit_57]
                · rw [if_neg h9] at hno hq
                  have hl : lid 10000 (nvl B n (blk B n k) 0) = 10000 := by unfold lid; split <;> omega
                  rw [hl, if_neg (by omega)]
                  have x1 : FX B n tp 2 (blk B n k : Int) (rfs (sI M 5 0 8 ((dge B n (blk B n k) : Nat) : Int)) 2 (blk B n k : Int)) := FX.of_rfs hI4.1 hI4.2.1
                  obtain ⟨k5, q5⟩ := x1.1
                  rw [c_put ⟨q5.2.2.2.2.2.1, q5.2.2.2.2.2.2⟩, KU_eq, bRe_readUnit_57]
                  exact hq _ ⟨fs_put (fs_rfs (Fs.rf.sI (by omega))), x1.put⟩
    | 1, hno =>
      refine ⟨by omega, fun _ => ?_, by omega, by omega, by omega, by omega, by omega, by omega, by omega, by omega⟩
      rw [px_1] at hno ⊢
      intro M Q X sz hI hcap hq
      obtain ⟨m, hm⟩ : ∃ m, dp 1 o = m + 13 := ⟨dp 1 o - 13, by unfold dp; omega⟩
      rw [hm, eRe_readProduct, bRe_readProduct_0]
      cases hp : px B n f 0 o k r with
      | inl e =>
        rw [hp] at hno hq
        have he := px_f B n f _ _ _ _ _ hp
        refine Call_mono (show dp 0 o ≤ m + 12 by unfold dp at hm ⊢; omega) ((ih 0 o k r ho hk (by rw [hp]; exact hno)).1 rfl M _ _ sz hI hcap ?_)
        intro M1 h1
        rw [hp] at h1
        rw [KU_eq, bRe_readProduct_3]
        refine lf_product (by omega) h1.2 ?_
        intro M2 f2 x2
        exact hq M2 ⟨h1.1.tr f2, x2⟩
      | inr x =>
        obtain ⟨r2, k2⟩ := x
        rw [hp] at hno hq
        have g := (px_gd B n hn f 0 o k r r2 k2 ho hk hp).1 (by omega)
        have g1 := g.1
        refine Call_mono (show dp 0 o ≤ m + 12 by unfold dp at hm ⊢; omega) ((ih 0 o k r ho hk (by rw [hp]; simp)).1 rfl M _ _ sz hI hcap ?_)
        intro M1 h1
        rw [hp] at h1
        obtain ⟨a1, a2, a3, a4⟩ := h1.inn
        rw [KU_eq, bRe_readProduct_3]
        refine At_mono (show dp 1 o - 1 ≤ m + 12 by omega) ((ih 6 o k2 r2 ho g1.2 hno).2.2.2.2.2.2.1 rfl M1 Q X sz k 0 a2 (g.up (by omega) (by omega)) hcap (by omega) (by omega) ?_)
        intro M2 h2
        exact hq M2 (h2.tr a1 a3 a4)
    | 2, hno =>
      refine ⟨by omega, by omega, fun _ => ?_, by omega, by omega, by omega, by omega, by omega, by omega, by omega⟩
      rw [px_2] at hno ⊢
      intro M Q X sz hI hcap hq
      obtain ⟨m, hm⟩ : ∃ m, dp 2 o = m + 13 := ⟨dp 2 o - 13, by unfold dp; omega⟩
      rw [hm, eRe_readSum, bRe_readSum_0]
      cases hp : px B n f 1 o k r with
      | inl e =>
        rw [hp] at hno hq
        have he := px_f B n f _ _ _ _ _ hp
        refine Call_mono (show dp 1 o ≤ m + 12 by unfold dp at hm ⊢; omega) ((ih 1 o k r ho hk (by rw [hp]; exact hno)).2.1 rfl M _ _ sz hI hcap ?_)
        intro M1 h1
        rw [hp] at h1
        rw [KU_eq, bRe_readSum_3]
        refine lf_sum (by omega) h1.2 ?_
        intro M2 f2 x2
        exact hq M2 ⟨h1.1.tr f2, x2⟩
      | inr x =>
        obtain ⟨r2, k2⟩ := x
        rw [hp] at hno hq
        have g := (px_gd B n hn f 1 o k r r2 k2 ho hk hp).1 (by omega)
        have g1 := g.1
        refine Call_mono (show dp 1 o ≤ m + 12 by unfold dp at hm ⊢; omega) ((ih 1 o k r ho hk (by rw [hp]; simp)).2.1 rfl M _ _ sz hI hcap ?_)
        intro M1 h1
        rw [hp] at h1
        obtain ⟨a1, a2, a3, a4⟩ := h1.inn
        rw [KU_eq, bRe_readSum_3]
        refine At_mono (show dp 2 o - 1 ≤ m + 12 by omega) ((ih 7 o k2 r2 ho g1.2 hno).2.2.2.2.2.2.2.1 rfl M1 Q X sz k 0 a2 (g.up (by omega) (by omega)) hcap (by omega) (by omega) ?_)
        intro M2 h2
        exact hq M2 (h2.tr a1 a3 a4)
    | 3, hno =>
      refine ⟨by omega, by omega, by omega, fun _ => ?_, by omega, by omega, by omega, by omega, by omega, by omega⟩
      intro M Q X sz hI hcap hq
      have hbd := hI.1.bd
      obtain ⟨m, hm⟩ : ∃ m, dp 3 o = m + 15 := ⟨dp 3 o - 15, by unfold dp; omega⟩
      have hI1 := hI.at hb.2
      have hat1 : (sI M 5 0 8 ((blk B n k : Nat) : Int)).1 5 0 8 = ((blk B n k : Nat) : Int) := sI_eq
      rw [px_3] at hno hq
      rw [hm, eRe_readCheck, bRe_readCheck_0, c_skipBlanks hI.1.1 hI.1.2.1 hbd.1, KU_eq, bRe_readCheck_2, hat1, c_takeWord (by omega) hI1.1.1 hI1.1.2.1 (by omega), blk_blk]
      simp only [sI_sI]
      by_cases h24 : isW B n (blk B n k) (wd 24)
      · have hwl := isW_len h24 hb.2
        rw [if_pos h24] at hno hq
        have hI2 := hI.at (k' := blk B n k + 3) (by omega)
        rw [if_pos ⟨hI1.2.1, h24⟩, w24, KV_eq, bRe_readCheck_8, if_neg (by omega), bRe_readCheck_9, eRe_mayOpen, bRe_mayOpen_0]
        by_cases ho6 : 6 ≤ o
        · rw [if_pos ho6] at hno hq
          rw [if_neg (by omega), bRe_mayOpen_3, c_refuse, KU_eq, bRe_mayOpen_7, if_pos (by omega), bRe_mayOpen_12, bRe_mayOpen_13, KV_eq, bRe_readCheck_13, if_pos (by rfl), bRe_readCheck_55]
          exact hq _ ⟨fs_rfs (Fs.rf.sI (by omega)), FX.of_rfs hI2.1 hI2.2.1⟩
        · rw [if_neg ho6] at hno hq
          rw [if_pos (by omega), bRe_mayOpen_7, if_neg (by omega), bRe_mayOpen_10, bRe_mayOpen_13, KV_eq, bRe_readCheck_13, if_neg (by decide), bRe_readCheck_14, w32_id (by omega), show ((o : Int) + 1) = ((o + 1 : Nat) : Int) by omega]
          cases hp : px B n f 3 (o + 1) (blk B n k + 3) r with
          | inl e =>
            rw [hp] at hno hq
            have he := px_f B n f _ _ _ _ _ hp
            refine Call_mono (show dp 3 (o + 1) ≤ m + 14 by unfold dp at hm ⊢; omega) ((ih 3 (o + 1) _ r (by omega) (by omega) (by rw [hp]; exact hno)).2.2.2.1 rfl _ _ _ sz hI2 (by omega) ?_)
            intro M1 h1
            rw [hp] at h1
            obtain ⟨k5, q5⟩ := h1.2.1
            have htp : (M1.1 5 0 6).toNat = tp := by rw [q5.2.2.2.1]; omega
            rw [KU_eq, bRe_readCheck_19, htp, c_put ⟨q5.2.2.2.2.2.1, q5.2.2.2.2.2.2⟩, KU_eq, bRe_readCheck_23, bRe_readCheck_55]
            exact hq _ ⟨fs_put ((Fs.rf.sI (by omega)).tr h1.1), h1.2.put⟩
          | inr x =>
            obtain ⟨r2, k2⟩ := x
            rw [hp] at hno hq
            dsimp only at hno hq
            have g := (px_gd B n hn f 3 (o + 1) _ r r2 k2 (by omega) (by omega) hp).1 (by omega)
            have g1 := g.1
            have g2 := g.2.1
            refine Call_mono (show dp 3 (o + 1) ≤ m + 14 by unfold dp at hm ⊢; omega) ((ih 3 (o + 1) _ r (by omega) (by omega) (by rw [hp]; simp)).2.2.2.1 rfl _ _ _ sz hI2 (by omega) ?_)
            intro M1 h1
            rw [hp] at h1
            obtain ⟨a1, a2, a3, a4⟩ := h1.inn
            obtain ⟨p1, p2⟩ := a2.put (c := -12) (by omega)
            rw [KU_eq, bRe_readCheck_19, a2.tp, c_put ⟨a2.1.2.2.2.2.2.1, a2.1.2.2.2.2.2.2⟩, if_pos p1, KU_eq, bRe_readCheck_23, bRe_readCheck_55]
            refine hq _ (out_ok ?_ p2 ?_ ?_)
            · exact (((Fs.rf.sI (by omega)).tr a1).sI (by omega)).sI (by omega)
            · rw [sI_ne (by omega), sI_ne (by omega), a3, sI_ne (by omega)]
            · intro j hj
              rw [below_put (sz := sz) (by rw [a2.2.2.1]; omega) hj, a4 j hj, sI_ne (by omega)]
      · rw [if_neg h24] at hno hq
        rw [if_neg (fun z => h24 z.2), KV_eq, bRe_readCheck_8, if_pos rfl, bRe_readCheck_24, c_takeSign hI1.1.1 hI1.1.2.1 (by omega), blk_blk]
        simp only [sI_sI]
        by_cases h91 : byt B n (blk B n k) = 91
        · have hlt := byt_ne (B := B) (n := n) (k := blk B n k) (by omega)
          rw [if_pos h91] at hno hq
          have hI2 := hI.at (k' := blk B n k + 1) (by omega)
          rw [if_pos ⟨hI1.2.1, h91⟩, KV_eq, bRe_readCheck_27, if_neg (by omega), bRe_readCheck_28, eRe_mayOpen, bRe_mayOpen_0]
          by_cases ho6 : 6 ≤ o
          · rw [if_pos ho6] at hno hq
            rw [if_neg (by omega), bRe_mayOpen_3, c_refuse, KU_eq, bRe_mayOpen_7, if_pos (by omega), bRe_mayOpen_12, bRe_mayOpen_13, KV_eq, bRe_readCheck_32, if_pos (by rfl), bRe_readCheck_55]
            exact hq _ ⟨fs_rfs (Fs.rf.sI (by omega)), FX.of_rfs hI2.1 hI2.2.1⟩
          · rw [if_neg ho6] at hno hq
            rw [if_pos (by omega), bRe_mayOpen_7, if_neg (by omega), bRe_mayOpen_10, bRe_mayOpen_13, KV_eq, bRe_readCheck_32, if_neg (by decide), bRe_readCheck_33, w32_id (by omega), show ((o : Int) + 1) = ((o + 1 : Nat) : Int) by omega]
            cases hp : px B n f 5 (o + 1) (blk B n k + 1) r with
            | inl e =>
              rw [hp] at hno hq
              have he := px_f B n f _ _ _ _ _ hp
              refine Call_mono (show dp 5 (o + 1) ≤ m + 14 by unfold dp at hm ⊢; omega) ((ih 5 (o + 1) _ r (by omega) (by omega) (by rw [hp]; exact hno)).2.2.2.2.2.1 rfl _ _ _ sz hI2 (by omega) ?_)
              intro M1 h1
              rw [hp] at h1
              rw [KU_eq, bRe_readCheck_38]
              refine f_demand (by omega) h1.2 ?_
              intro M2 f2 x2
              rw [KU_eq, bRe_readCheck_41, bRe_readCheck_55]
              exact hq M2 ⟨((Fs.rf.sI (by omega)).tr h1.1).tr f2, x2⟩
            | inr x =>
              obtain ⟨r2, k2⟩ := x
              rw [hp] at hno hq
              dsimp only at hno hq
              have g := (px_gd B n hn f 5 (o + 1) _ r r2 k2 (by omega) (by omega) hp).1 (by omega)
              refine Call_mono (show dp 5 (o + 1) ≤ m + 14 by unfold dp at hm ⊢; omega) ((ih 5 (o + 1) _ r (by omega) (by omega) (by rw [hp]; simp)).2.2.2.2.2.1 rfl _ _ _ sz hI2 (by omega) ?_)
              intro M1 h1
              rw [hp] at h1
              obtain ⟨a1, a2, a3, a4⟩ := h1.inn
              rw [KU_eq, bRe_readCheck_38]
              refine g_demand a2 (by omega) ?_
              intro M2 f2 x2
              rw [KU_eq, bRe_readCheck_41, bRe_readCheck_55]
              by_cases h93 : byt B n (blk B n k2) = 93
              · rw [if_pos h93] at x2 hq
                refine hq M2 (out_ok (((Fs.rf.sI (by omega)).tr a1).tr f2) x2.1 ?_ ?_)
                · rw [x2.2, sI_ne (by omega), a3, sI_ne (by omega)]
                · intro j hj; rw [x2.2, sI_ne (by omega), a4 j hj, sI_ne (by omega)]
              · rw [if_neg h93] at x2 hq
                exact hq M2 ⟨((Fs.rf.sI (by omega)).tr a1).tr f2, x2⟩
        · rw [if_neg h91] at hno hq
          rw [if_neg (fun z => h91 z.2), KV_eq, bRe_readCheck_27, if_pos rfl, bRe_readCheck_42]
          have hbl : px B n f 2 o (blk B n k) r = px B n f 2 o k r := px_bl2 f o k r
          cases hp : px B n f 2 o k r with
          | inl e =>
            rw [hp] at hno hq
            have he := px_f B n f _ _ _ _ _ hp
            refine Call_mono (show dp 2 o ≤ m + 14 by unfold dp at hm ⊢; omega) ((ih 2 o (blk B n k) r ho hb.2 (by rw [hbl, hp]; exact hno)).2.2.1 rfl _ _ _ sz hI1 (by omega) ?_)
            intro M1 h1
            rw [hbl, hp] at h1
            rw [KU_eq, bRe_readCheck_45]
            refine f_rel (by omega) h1.2 ?_
            intro M2 f2 x2
            rw [KV_eq, bRe_readCheck_47]
            refine f_sum (by omega) x2 ?_
            intro M3 f3 x3
            obtain ⟨k5, q5⟩ := x3.1
            have htp : (M3.1 5 0 6).toNat = tp := by rw [q5.2.2.2.1]; omega
            rw [KU_eq, bRe_readCheck_51, htp, c_put ⟨q5.2.2.2.2.2.1, q5.2.2.2.2.2.2⟩, KU_eq, bRe_readCheck_55]
            exact hq _ ⟨fs_put ((((Fs.rf.sI (by omega)).tr h1.1).tr f2).tr f3), x3.put⟩
          | inr x =>
            obtain ⟨r2, k2⟩ := x
            rw [hp] at hno hq
            dsimp only at hno hq
            have g := (px_gd B n hn f 2 o k r r2 k2 ho hk hp).1 (by omega)
            have g1 := g.1
            have g2 := g.2.1
            have hb2 := blk_le (B := B) g1.2
            refine Call_mono (show dp 2 o ≤ m + 14 by unfold dp at hm ⊢; omega) ((ih 2 o (blk B n k) r ho hb.2 (by rw [hbl, hp]; simp)).2.2.1 rfl _ _ _ sz hI1 (by omega) ?_)
            intro M1 h1
            rw [hbl, hp] at h1
            obtain ⟨a1, a2, a3, a4⟩ := h1.inn
            rw [KU_eq, bRe_readCheck_45]
            refine g_rel a2 ?_
            intro M2 c f2 x2
            rw [KV_eq, bRe_readCheck_47]
            by_cases hrel : byt B n (blk B n k2) = 60 ∨ byt B n (blk B n k2) = 62 ∨ byt B n (blk B n k2) = 61
            · rw [if_pos hrel] at x2 hno hq
              obtain ⟨hlt2, e2, ec⟩ := x2
              have hI3 : Inn B n tp M2 sz (blk B n k2 + 1) r2.1 := by rw [e2]; exact a2.at hlt2
              cases hp2 : px B n f 2 o (blk B n k2 + 1) r with
              | inl e =>
                rw [hp2] at hno hq
                have he := px_f B n f _ _ _ _ _ hp2
                refine Call_mono (show dp 2 o ≤ m + 14 by unfold dp at hm ⊢; omega) ((ih 2 o _ r ho (by omega) (by rw [hp2]; exact hno)).2.2.1 rfl _ _ _ (sz + r2.1.length) hI3.nil (by omega) ?_)
                intro M3 h3
                rw [hp2] at h3
                obtain ⟨k5, q5⟩ := h3.2.1
                have htp : (M3.1 5 0 6).toNat = tp := by rw [q5.2.2.2.1]; omega
                rw [KU_eq, bRe_readCheck_51, htp, c_put ⟨q5.2.2.2.2.2.1, q5.2.2.2.2.2.2⟩, KU_eq, bRe_readCheck_55]
                exact hq _ ⟨fs_put ((((Fs.rf.sI (by omega)).tr a1).tr f2).tr h3.1), h3.2.put⟩
              | inr x =>
                obtain ⟨r3, k3⟩ := x
                rw [hp2] at hno hq
                dsimp only at hno hq
                have g3 := (px_gd B n hn f 2 o _ r r3 k3 ho (by omega) hp2).1 (by omega)
                have g31 := g3.1
                have g32 := g3.2.1
                refine Call_mono (show dp 2 o ≤ m + 14 by unfold dp at hm ⊢; omega) ((ih 2 o _ r ho (by omega) (by rw [hp2]; simp)).2.2.1 rfl _ _ _ (sz + r2.1.length) hI3.nil (by omega) ?_)
                intro M3 h3
                rw [hp2] at h3
                obtain ⟨b1, b2, b3, b4⟩ := h3.inn
                have hJ := hI3.join b2 b4
                obtain ⟨p1, p2⟩ := hJ.put (c := c) (by rw [List.length_append]; omega)
                rw [KU_eq, bRe_readCheck_51, hJ.tp, c_put ⟨hJ.1.2.2.2.2.2.1, hJ.1.2.2.2.2.2.2⟩, if_pos p1, KU_eq, bRe_readCheck_55]
                rw [ec] at p2 ⊢
                refine hq _ (out_ok ?_ p2 ?_ ?_)
                · exact (((((Fs.rf.sI (by omega)).tr a1).tr f2).tr b1).sI (by omega)).sI (by omega)
                · rw [sI_ne (by omega), sI_ne (by omega), b3, e2, sI_ne (by omega), a3, sI_ne (by omega)]
                · intro j hj
                  rw [below_put (sz := sz) (by rw [hJ.2.2.1]; omega) hj, b4 j (by omega), e2, sI_ne (by omega), a4 j hj, sI_ne (by omega)]
            · rw [if_neg hrel] at x2 hno hq
              refine f_sum (by omega) x2 ?_
              intro M3 f3 x3
              obtain ⟨k5, q5⟩ := x3.1
              have htp : (M3.1 5 0 6).toNat = tp := by rw [q5.2.2.2.1]; omega
              rw [KU_eq, bRe_readCheck_51, htp, c_put ⟨q5.2.2.2.2.2.1, q5.2.2.2.2.2.2⟩, KU_eq, bRe_readCheck_55]
              exact hq _ ⟨fs_put ((((Fs.rf.sI (by omega)).tr a1).tr f2).tr f3), x3.put⟩
    | 4, hno =>
      refine ⟨by omega, by omega, by omega, by omega, fun _ => ?_, by omega, by omega, by omega, by omega, by omega⟩
      rw [px_4] at hno ⊢
      intro M Q X sz hI hcap hq
      obtain ⟨m, hm⟩ : ∃ m, dp 4 o = m + 13 := ⟨dp 4 o - 13, by unfold dp; omega⟩
      rw [hm, eRe_readBoth, bRe_readBoth_0]
      cases hp : px B n f 3 o k r with
      | inl e =>
        rw [hp] at hno hq
        have he := px_f B n f _ _ _ _ _ hp
        refine Call_mono (show dp 3 o ≤ m + 12 by unfold dp at hm ⊢; omega) ((ih 3 o k r ho hk (by rw [hp]; exact hno)).2.2.2.1 rfl M _ _ sz hI hcap ?_)
        intro M1 h1
        rw [hp] at h1
        rw [KU_eq, bRe_readBoth_3]
        refine lf_both (by omega) h1.2 ?_
        intro M2 f2 x2
        exact hq M2 ⟨h1.1.tr f2, x2⟩
      | inr x =>
        obtain ⟨r2, k2⟩ := x
        rw [hp] at hno hq
        have g := (px_gd B n hn f 3 o k r r2 k2 ho hk hp).1 (by omega)
        have g1 := g.1
        refine Call_mono (show dp 3 o ≤ m + 12 by unfold dp at hm ⊢; omega) ((ih 3 o k r ho hk (by rw [hp]; simp)).2.2.2.1 rfl M _ _ sz hI hcap ?_)
        intro M1 h1
        rw [hp] at h1
        obtain ⟨a1, a2, a3, a4⟩ := h1.inn
        rw [KU_eq, bRe_readBoth_3]
        refine At_mono (show dp 4 o - 1 ≤ m + 12 by omega) ((ih 8 o k2 r2 ho g1.2 hno).2.2.2.2.2.2.2.2.1 rfl M1 Q X sz k 0 a2 (g.up (by omega) (by omega)) hcap (by omega) (by omega) ?_)
        intro M2 h2
        exact hq M2 (h2.tr a1 a3 a4)
    | 5, hno =>
      refine ⟨by omega, by omega, by omega, by omega, by omega, fun _ => ?_, by omega, by omega, by omega, by omega⟩
      rw [px_5] at hno ⊢
      intro M Q X sz hI hcap hq
      obtain ⟨m, hm⟩ : ∃ m, dp 5 o = m + 13 := ⟨dp 5 o - 13, by unfold dp; omega⟩
      rw [hm, eRe_readChoice, bRe_readChoice_0]
      cases hp : px B n f 4 o k r with
      | inl e =>
        rw [hp] at hno hq
        have he := px_f B n f _ _ _ _ _ hp
        refine Call_mono (show dp 4 o ≤ m + 12 by unfold dp at hm ⊢; omega) ((ih 4 o k r ho hk (by rw [hp]; exact hno)).2.2.2.2.1 rfl M _ _ sz hI hcap ?_)
        intro M1 h1
        rw [hp] at h1
        rw [KU_eq, bRe_readChoice_3]
        refine lf_choice (by omega) h1.2 ?_
        intro M2 f2 x2
        exact hq M2 ⟨h1.1.tr f2, x2⟩
      | inr x =>
        obtain ⟨r2, k2⟩ := x
        rw [hp] at hno hq
        have g := (px_gd B n hn f 4 o k r r2 k2 ho hk hp).1 (by omega)
        have g1 := g.1
        refine Call_mono (show dp 4 o ≤ m + 12 by unfold dp at hm ⊢; omega) ((ih 4 o k r ho hk (by rw [hp]; simp)).2.2.2.2.1 rfl M _ _ sz hI hcap ?_)
        intro M1 h1
        rw [hp] at h1
        obtain ⟨a1, a2, a3, a4⟩ := h1.inn
        rw [KU_eq, bRe_readChoice_3]
        refine At_mono (show dp 5 o - 1 ≤ m + 12 by omega) ((ih 9 o k2 r2 ho g1.2 hno).2.2.2.2.2.2.2.2.2 rfl M1 Q X sz k 0 a2 (g.up (by omega) (by omega)) hcap (by omega) (by omega) ?_)
        intro M2 h2
        exact hq M2 (h2.tr a1 a3 a4)
    | 6, hno =>
      refine ⟨by omega, by omega, by omega, by omega, by omega, by omega, fun _ => ?_, by omega, by omega, by omega⟩
      rw [px_6] at hno ⊢
      intro M Q X sz k0 i hI hG hcap hi0 hik hq
      have hbd := hI.1.bd
      have hI1 := hI.at hb.2
      obtain ⟨m, hm⟩ : ∃ m, dp 1 o = m + 13 := ⟨dp 1 o - 13, by unfold dp; omega⟩
      rw [show dp 1 o - 1 = m + 12 by omega, bRe_readProduct_5, if_neg (by omega), bRe_readProduct_8]
      rw [c_takeSign hI.1.1 hI.1.2.1 hbd.1]
      by_cases hc : byt B n (blk B n k) = 42
      · have hlt := byt_ne (B := B) (n := n) (k := blk B n k) (by omega)
        have hI2 := hI.at (k' := blk B n k + 1) (by omega)
        rw [if_pos hc] at hno hq
        rw [if_pos ⟨hI.2.1, hc⟩, KV_eq, bRe_readProduct_11, if_neg (by omega), bRe_readProduct_12]
        have gr1 := hG.2.1
        have gr0 := hG.1
        cases hp : px B n f 0 o (blk B n k + 1) r with
        | inl e =>
          rw [hp] at hno hq
          have he := px_f B n f _ _ _ _ _ hp
          refine Call_mono (show dp 0 o ≤ m + 12 by unfold dp at hm ⊢; omega) ((ih 0 o _ r ho (by omega) (by rw [hp]; exact hno)).1 rfl _ _ _ (sz + r.1.length) hI2.nil (by omega) ?_)
          intro M1 h1
          rw [hp] at h1
          obtain ⟨k5, q5⟩ := h1.2.1
          have htp : (M1.1 5 0 6).toNat = tp := by rw [q5.2.2.2.1]; omega
          rw [KU_eq, bRe_readProduct_15, htp, c_put ⟨q5.2.2.2.2.2.1, q5.2.2.2.2.2.2⟩, KU_eq, bRe_readProduct_19, w32_id (by omega)]
          refine lf_product (by omega) h1.2.put ?_
          intro M2 f2 x2
          exact hq M2 ⟨(fs_put ((Fs.rf.sI (by omega)).tr h1.1)).tr f2, x2⟩
        | inr x =>
          obtain ⟨r2, k2⟩ := x
          rw [hp] at hno hq
          have g := (px_gd B n hn f 0 o _ r r2 k2 ho (by omega) hp).1 (by omega)
          have g1 := g.1
          have g2 := g.2.1
          have gr1 := hG.2.1
          have gr0 := hG.1
          refine Call_mono (show dp 0 o ≤ m + 12 by unfold dp at hm ⊢; omega) ((ih 0 o _ r ho (by omega) (by rw [hp]; simp)).1 rfl _ _ _ (sz + r.1.length) hI2.nil (by omega) ?_)
          intro M1 h1
          rw [hp] at h1
          obtain ⟨a1, a2, a3, a4⟩ := h1.inn
          have hJ := hI2.join a2 a4
          obtain ⟨p1, p2⟩ := hJ.put (c := -6) (by rw [List.length_append]; omega)
          rw [KU_eq, bRe_readProduct_15, hJ.tp, c_put ⟨hJ.1.2.2.2.2.2.1, hJ.1.2.2.2.2.2.2⟩, if_pos p1, KU_eq, bRe_readProduct_19, w32_id (by omega)]
          refine At_mono (show dp 1 o - 1 ≤ m + 12 by omega) ((ih 6 o k2 (bn (wrk (-6)) (-6) r r2) ho g1.2 hno).2.2.2.2.2.2.1 rfl _ Q X sz k0 (i + 1) p2 (hG.bin g (by omega) (by omega) (by omega) (fun _ _ => rfl) (by omega)) hcap (by omega) (by omega) ?_)
          intro M2 h2
          refine hq M2 (h2.tr ?_ ?_ ?_)
          · exact (((Fs.rf.sI (by omega)).tr a1).sI (by omega)).sI (by omega)
          · rw [sI_ne (by omega), sI_ne (by omega), a3, sI_ne (by omega)]
          · intro j hj
            rw [below_put (sz := sz) (by rw [hJ.2.2.1]; omega) hj, a4 j (by omega), sI_ne (by omega)]
      · rw [if_neg hc] at hno hq
        rw [if_neg (fun z => hc z.2), KV_eq, bRe_readProduct_11, if_pos rfl, bRe_readProduct_21]
        exact hq _ (out_ok (Fs.rf.sI (by omega)) hI1 (sI_ne (by omega)) (fun j _ => sI_ne (by omega)))
    | 7, hno =>
      refine ⟨by omega, by omega, by omega, by omega, by omega, by omega, by omega, fun _ => ?_, by omega, by omega⟩
      rw [px_7] at hno ⊢
      intro M Q X sz k0 i hI hG hcap hi0 hik hq
      have hbd := hI.1.bd
      have hI1 := hI.at hb.2
      obtain ⟨m, hm⟩ : ∃ m, dp 2 o = m + 13 := ⟨dp 2 o - 13, by unfold dp; omega⟩
      rw [show dp 2 o - 1 = m + 12 by omega, bRe_readSum_5, if_neg (by omega), bRe_readSum_8]
      rw [c_takeSign hI.1.1 hI.1.2.1 hbd.1]
      by_cases hc : byt B n (blk B n k) = 43
      · have hlt := byt_ne (B := B) (n := n) (k := blk B n k) (by omega)
        have hI2 := hI.at (k' := blk B n k + 1) (by omega)
        rw [if_pos hc] at hno hq
        rw [if_pos ⟨hI.2.1, hc⟩, KV_eq, bRe_readSum_11, if_neg (by omega), bRe_readSum_12]
        have gr1 := hG.2.1
        have gr0 := hG.1
        cases hp : px B n f 1 o (blk B n k + 1) r with
        | inl e =>
          rw [hp] at hno hq
          have he := px_f B n f _ _ _ _ _ hp
          refine Call_mono (show dp 1 o ≤ m + 12 by unfold dp at hm ⊢; omega) ((ih 1 o _ r ho (by omega) (by rw [hp]; exact hno)).2.1 rfl _ _ _ (sz + r.1.length) hI2.nil (by omega) ?_)
          intro M1 h1
          rw [hp] at h1
          obtain ⟨k5, q5⟩ := h1.2.1
          have htp : (M1.1 5 0 6).toNat = tp := by rw [q5.2.2.2.1]; omega
          rw [KU_eq, bRe_readSum_15, htp, c_put ⟨q5.2.2.2.2.2.1, q5.2.2.2.2.2.2⟩, KU_eq, bRe_readSum_19, bRe_readSum_33, w32_id (by omega)]
          refine lf_sum (by omega) h1.2.put ?_
          intro M2 f2 x2
          exact hq M2 ⟨(fs_put ((Fs.rf.sI (by omega)).tr h1.1)).tr f2, x2⟩
        | inr x =>
          obtain ⟨r2, k2⟩ := x
          rw [hp] at hno hq
          have g := (px_gd B n hn f 1 o _ r r2 k2 ho (by omega) hp).1 (by omega)
          have g1 := g.1
          have g2 := g.2.1
          have gr1 := hG.2.1
          have gr0 := hG.1
          refine Call_mono (show dp 1 o ≤ m + 12 by unfold dp at hm ⊢; omega) ((ih 1 o _ r ho (by omega) (by rw [hp]; simp)).2.1 rfl _ _ _ (sz + r.1.length) hI2.nil (by omega) ?_)
          intro M1 h1
          rw [hp] at h1
          obtain ⟨a1, a2, a3, a4⟩ := h1.inn
          have hJ := hI2.join a2 a4
          obtain ⟨p1, p2⟩ := hJ.put (c := -4) (by rw [List.length_append]; omega)
          rw [KU_eq, bRe_readSum_15, hJ.tp, c_put ⟨hJ.1.2.2.2.2.2.1, hJ.1.2.2.2.2.2.2⟩, if_pos p1, KU_eq, bRe_readSum_19, bRe_readSum_33, w32_id (by omega)]
          refine At_mono (show dp 2 o - 1 ≤ m + 12 by omega) ((ih 7 o k2 (bn (wrk (-4)) (-4) r r2) ho g1.2 hno).2.2.2.2.2.2.2.1 rfl _ Q X sz k0 (i + 1) p2 (hG.bin g (by omega) (by omega) (by omega) (fun _ _ => rfl) (by omega)) hcap (by omega) (by omega) ?_)
          intro M2 h2
          refine hq M2 (h2.tr ?_ ?_ ?_)
          · exact (((Fs.rf.sI (by omega)).tr a1).sI (by omega)).sI (by omega)
          · rw [sI_ne (by omega), sI_ne (by omega), a3, sI_ne (by omega)]
          · intro j hj
            rw [below_put (sz := sz) (by rw [hJ.2.2.1]; omega) hj, a4 j (by omega), sI_ne (by omega)]
      · rw [if_neg hc] at hno hq
        rw [if_neg (fun z => hc z.2), KV_eq, bRe_readSum_11, if_pos rfl, bRe_readSum_20, c_takeSign hI1.1.1 hI1.1.2.1 (by omega), blk_blk]
        simp only [sI_sI]
        by_cases hc2 : byt B n (blk B n k) = 45
        · have hlt := byt_ne (B := B) (n := n) (k := blk B n k) (by omega)
          have hI2 := hI.at (k' := blk B n k + 1) (by omega)
          rw [if_pos hc2] at hno hq
          rw [if_pos ⟨hI1.2.1, hc2⟩, KV_eq, bRe_readSum_23, if_neg (by omega), bRe_readSum_24]
          have gr1 := hG.2.1
          have gr0 := hG.1
          cases hp : px B n f 1 o (blk B n k + 1) r with
          | inl e =>
            rw [hp] at hno hq
            have he := px_f B n f _ _ _ _ _ hp
            refine Call_mono (show dp 1 o ≤ m + 12 by unfold dp at hm ⊢; omega) ((ih 1 o _ r ho (by omega) (by rw [hp]; exact hno)).2.1 rfl _ _ _ (sz + r.1.length) hI2.nil (by omega) ?_)
            intro M1 h1
            rw [hp] at h1
            obtain ⟨k5, q5⟩ := h1.2.1
            have htp : (M1.1 5 0 6).toNat = tp := by rw [q5.2.2.2.1]; omega
            rw [KU_eq, bRe_readSum_27, htp, c_put ⟨q5.2.2.2.2.2.1, q5.2.2.2.2.2.2⟩, KU_eq, bRe_readSum_31, bRe_readSum_33, w32_id (by omega)]
            refine lf_sum (by omega) h1.2.put ?_
            intro M2 f2 x2
            exact hq M2 ⟨(fs_put ((Fs.rf.sI (by omega)).tr h1.1)).tr f2, x2⟩
          | inr x =>
            obtain ⟨r2, k2⟩ := x
            rw [hp] at hno hq
            have g := (px_gd B n hn f 1 o _ r r2 k2 ho (by omega) hp).1 (by omega)
            have g1 := g.1
            have g2 := g.2.1
            have gr1 := hG.2.1
            have gr0 := hG.1
            refine Call_mono (show dp 1 o ≤ m + 12 by unfold dp at hm ⊢; omega) ((ih 1 o _ r ho (by omega) (by rw [hp]; simp)).2.1 rfl _ _ _ (sz + r.1.length) hI2.nil (by omega) ?_)
            intro M1 h1
            rw [hp] at h1
            obtain ⟨a1, a2, a3, a4⟩ := h1.inn
            have hJ := hI2.join a2 a4
            obtain ⟨p1, p2⟩ := hJ.put (c := -5) (by rw [List.length_append]; omega)
            rw [KU_eq, bRe_readSum_27, hJ.tp, c_put ⟨hJ.1.2.2.2.2.2.1, hJ.1.2.2.2.2.2.2⟩, if_pos p1, KU_eq, bRe_readSum_31, bRe_readSum_33, w32_id (by omega)]
            refine At_mono (show dp 2 o - 1 ≤ m + 12 by omega) ((ih 7 o k2 (bn (wrk (-5)) (-5) r r2) ho g1.2 hno).2.2.2.2.2.2.2.1 rfl _ Q X sz k0 (i + 1) p2 (hG.bin g (by omega) (by omega) (by omega) (fun _ _ => rfl) (by omega)) hcap (by omega) (by omega) ?_)
            intro M2 h2
            refine hq M2 (h2.tr ?_ ?_ ?_)
            · exact (((Fs.rf.sI (by omega)).tr a1).sI (by omega)).sI (by omega)
            · rw [sI_ne (by omega), sI_ne (by omega), a3, sI_ne (by omega)]
            · intro j hj
              rw [below_put (sz := sz) (by rw [hJ.2.2.1]; omega) hj, a4 j (by omega), sI_ne (by omega)]
        · rw [if_neg hc2] at hno hq
          rw [if_neg (fun z => hc2 z.2), KV_eq, bRe_readSum_23, if_pos rfl, bRe_readSum_32]
          exact hq _ (out_ok (Fs.rf.sI (by omega)) hI1 (sI_ne (by omega)) (fun j _ => sI_ne (by omega)))
    | 8, hno =>
      refine ⟨by omega, by omega, by omega, by omega, by omega, by omega, by omega, by omega, fun _ => ?_, by omega⟩
      rw [px_8] at hno ⊢
      intro M Q X sz k0 i hI hG hcap hi0 hik hq
      have hbd := hI.1.bd
      have hI1 := hI.at hb.2
      obtain ⟨m, hm⟩ : ∃ m, dp 4 o = m + 13 := ⟨dp 4 o - 13, by unfold dp; omega⟩
      rw [show dp 4 o - 1 = m + 12 by omega, bRe_readBoth_5, if_neg (by omega), bRe_readBoth_8]
      rw [c_takeWord (by omega) hI.1.1 hI.1.2.1 hbd.1]
      by_cases hc : isW B n (blk B n k) (wd 23)
      · have hwl := isW_len hc hb.2
        have hI2 := hI.at (k' := blk B n k + 3) (by omega)
        rw [if_pos hc] at hno hq
        rw [if_pos ⟨hI.2.1, hc⟩, w23, KV_eq, bRe_readBoth_11, if_neg (by omega), bRe_readBoth_12]
        have gr1 := hG.2.1
        have gr0 := hG.1
        cases hp : px B n f 3 o (blk B n k + 3) r with
        | inl e =>
          rw [hp] at hno hq
          have he := px_f B n f _ _ _ _ _ hp
          refine Call_mono (show dp 3 o ≤ m + 12 by unfold dp at hm ⊢; omega) ((ih 3 o _ r ho (by omega) (by rw [hp]; exact hno)).2.2.2.1 rfl _ _ _ (sz + r.1.length) hI2.nil (by omega) ?_)
          intro M1 h1
          rw [hp] at h1
          obtain ⟨k5, q5⟩ := h1.2.1
          have htp : (M1.1 5 0 6).toNat = tp := by rw [q5.2.2.2.1]; omega
          rw [KU_eq, bRe_readBoth_15, htp, c_put ⟨q5.2.2.2.2.2.1, q5.2.2.2.2.2.2⟩, KU_eq, bRe_readBoth_19, w32_id (by omega)]
          refine lf_both (by omega) h1.2.put ?_
          intro M2 f2 x2
          exact hq M2 ⟨(fs_put ((Fs.rf.sI (by omega)).tr h1.1)).tr f2, x2⟩
        | inr x =>
          obtain ⟨r2, k2⟩ := x
          rw [hp] at hno hq
          have g := (px_gd B n hn f 3 o _ r r2 k2 ho (by omega) hp).1 (by omega)
          have g1 := g.1
          have g2 := g.2.1
          have gr1 := hG.2.1
          have gr0 := hG.1
          refine Call_mono (show dp 3 o ≤ m + 12 by unfold dp at hm ⊢; omega) ((ih 3 o _ r ho (by omega) (by rw [hp]; simp)).2.2.2.1 rfl _ _ _ (sz + r.1.length) hI2.nil (by omega) ?_)
          intro M1 h1
          rw [hp] at h1
          obtain ⟨a1, a2, a3, a4⟩ := h1.inn
          have hJ := hI2.join a2 a4
          obtain ⟨p1, p2⟩ := hJ.put (c := -10) (by rw [List.length_append]; omega)
          rw [KU_eq, bRe_readBoth_15, hJ.tp, c_put ⟨hJ.1.2.2.2.2.2.1, hJ.1.2.2.2.2.2.2⟩, if_pos p1, KU_eq, bRe_readBoth_19, w32_id (by omega)]
          refine At_mono (show dp 4 o - 1 ≤ m + 12 by omega) ((ih 8 o k2 (bn (wrk (-10)) (-10) r r2) ho g1.2 hno).2.2.2.2.2.2.2.2.1 rfl _ Q X sz k0 (i + 1) p2 (hG.bin g (by omega) (by omega) (by omega) (fun _ _ => rfl) (fun _ x y z => wrkb (Or.inl rfl) (hG.2.2.2.2.1 (by omega) x y z) (g.2.2.2.2.1 (by omega) x y z))) hcap (by omega) (by omega) ?_)
          intro M2 h2
          refine hq M2 (h2.tr ?_ ?_ ?_)
          · exact (((Fs.rf.sI (by omega)).tr a1).sI (by omega)).sI (by omega)
          · rw [sI_ne (by omega), sI_ne (by omega), a3, sI_ne (by omega)]
          · intro j hj
            rw [below_put (sz := sz) (by rw [hJ.2.2.1]; omega) hj, a4 j (by omega), sI_ne (by omega)]
      · rw [if_neg hc] at hno hq
        rw [if_neg (fun z => hc z.2), KV_eq, bRe_readBoth_11, if_pos rfl, bRe_readBoth_21]
        exact hq _ (out_ok (Fs.rf.sI (by omega)) hI1 (sI_ne (by omega)) (fun j _ => sI_ne (by omega)))
    | 9, hno =>
      refine ⟨by omega, by omega, by omega, by omega, by omega, by omega, by omega, by omega, by omega, fun _ => ?_⟩
      rw [px_9] at hno ⊢
      intro M Q X sz k0 i hI hG hcap hi0 hik hq
      have hbd := hI.1.bd
      have hI1 := hI.at hb.2
      obtain ⟨m, hm⟩ : ∃ m, dp 5 o = m + 13 := ⟨dp 5 o - 13, by unfold dp; omega⟩
      rw [show dp 5 o - 1 = m + 12 by omega, bRe_readChoice_5, if_neg (by omega), bRe_readChoice_8]
      rw [c_takeWord (by omega) hI.1.1 hI.1.2.1 hbd.1]
      by_cases hc : isW B n (blk B n k) (wd 22)
      · have hwl := isW_len hc hb.2
        have hI2 := hI.at (k' := blk B n k + 2) (by omega)
        rw [if_pos hc] at hno hq
        rw [if_pos ⟨hI.2.1, hc⟩, w22, KV_eq, bRe_readChoice_11, if_neg (by omega), bRe_readChoice_12]
        have gr1 := hG.2.1
        have gr0 := hG.1
        cases hp : px B n f 4 o (blk B n k + 2) r with
        | inl e =>
          rw [hp] at hno hq
          have he := px_f B n f _ _ _ _ _ hp
          refine Call_mono (show dp 4 o ≤ m + 12 by unfold dp at hm ⊢; omega) ((ih 4 o _ r ho (by omega) (by rw [hp]; exact hno)).2.2.2.2.1 rfl _ _ _ (sz + r.1.length) hI2.nil (by omega) ?_)
          intro M1 h1
          rw [hp] at h1
          obtain ⟨k5, q5⟩ := h1.2.1
          have htp : (M1.1 5 0 6).toNat = tp := by rw [q5.2.2.2.1]; omega
          rw [KU_eq, bRe_readChoice_15, htp, c_put ⟨q5.2.2.2.2.2.1, q5.2.2.2.2.2.2⟩, KU_eq, bRe_readChoice_19, w32_id (by omega)]
          refine lf_choice (by omega) h1.2.put ?_
          intro M2 f2 x2
          exact hq M2 ⟨(fs_put ((Fs.rf.sI (by omega)).tr h1.1)).tr f2, x2⟩
        | inr x =>
          obtain ⟨r2, k2⟩ := x
          rw [hp] at hno hq
          have g := (px_gd B n hn f 4 o _ r r2 k2 ho (by omega) hp).1 (by omega)
          have g1 := g.1
          have g2 := g.2.1
          have gr1 := hG.2.1
          have gr0 := hG.1
          refine Call_mono (show dp 4 o ≤ m + 12 by unfold dp at hm ⊢; omega) ((ih 4 o _ r ho (by omega) (by rw [hp]; simp)).2.2.2.2.1 rfl _ _ _ (sz + r.1.length) hI2.nil (by omega) ?_)
          intro M1 h1
          rw [hp] at h1
          obtain ⟨a1, a2, a3, a4⟩ := h1.inn
          have hJ := hI2.join a2 a4
          obtain ⟨p1, p2⟩ := hJ.put (c := -11) (by rw [List.length_append]; omega)
          rw [KU_eq, bRe_readChoice_15, hJ.tp, c_put ⟨hJ.1.2.2.2.2.2.1, hJ.1.2.2.2.2.2.2⟩, if_pos p1, KU_eq, bRe_readChoice_19, w32_id (by omega)]
          refine At_mono (show dp 5 o - 1 ≤ m + 12 by omega) ((ih 9 o k2 (bn (wrk (-11)) (-11) r r2) ho g1.2 hno).2.2.2.2.2.2.2.2.2 rfl _ Q X sz k0 (i + 1) p2 (hG.bin g (by omega) (by omega) (by omega) (fun _ _ => rfl) (fun _ x y z => wrkb (Or.inr rfl) (hG.2.2.2.2.1 (by omega) x y z) (g.2.2.2.2.1 (by omega) x y z))) hcap (by omega) (by omega) ?_)
          intro M2 h2
          refine hq M2 (h2.tr ?_ ?_ ?_)
          · exact (((Fs.rf.sI (by omega)).tr a1).sI (by omega)).sI (by omega)
          · rw [sI_ne (by omega), sI_ne (by omega), a3, sI_ne (by omega)]
          · intro j hj
            rw [below_put (sz := sz) (by rw [hJ.2.2.1]; omega) hj, a4 j (by omega), sI_ne (by omega)]
      · rw [if_neg hc] at hno hq
        rw [if_neg (fun z => hc z.2), KV_eq, bRe_readChoice_11, if_pos rfl, bRe_readChoice_21]
        exact hq _ (out_ok (Fs.rf.sI (by omega)) hI1 (sI_ne (by omega)) (fun j _ => sI_ne (by omega)))
    | kd + 10, hno => exact ⟨by omega, by omega, by omega, by omega, by omega, by omega, by omega, by omega, by omega, by omega⟩
