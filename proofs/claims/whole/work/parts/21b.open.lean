/-! LAYER 3, A WEEK IS LAID OPEN -/
theorem opn_eq {d own : Int} {A : Prop} [Decidable A] : (if d = 0 then (1 : Int) else if (if own ≤ 0 then (0 : Int) else 1) = 0 then 0 else if (if A then (1 : Int) else 0) = 0 then 0 else 1) = if d = 0 ∨ (0 < own ∧ A) then 1 else 0 := by
  by_cases h1 : d = 0 <;> by_cases h2 : own ≤ 0 <;> by_cases h3 : A <;> simp [h1, h2, h3] <;> omega
theorem ite_m2 {c : Prop} [Decidable c] : (if c then (1 : Int) else 0) % 2 = if c then 1 else 0 := by split <;> rfl
theorem kl_vi {a : Int} : kl (vi a) = vi a := rfl
abbrev pOS (k t i : Nat) : Prop := (t = 46 ∨ t = 51 ∨ t = 52) ∧ i = k
theorem c_openShop {d : Nat} {M Q X} {k : Nat} {s x w : Int} (h : WR (rd M (rcB k))) (hs : 0 ≤ s ∧ s < 3) (hx : 0 ≤ x ∧ x < 125) (hw : M.1 8 k 8 = w) (hw0 : 0 ≤ w ∧ w ≤ 6)
    (hq : ∀ M', Fr (pOS k) M M' → Op1 (rd M (rcB k)) w x k M' s → (∀ t j : Nat, ¬ (s.toNat * 5 ≤ j ∧ j < s.toNat * 5 + 5) → M'.1 t k j = M.1 t k j) → Q (vi 0) M') : Call (d + 3) qWe_openShop [vr 8 k, vi s, vi x] M Q X := by
  generalize hR : rd M (rcB k) = R at h hq
  have hb := h.b
  have hg := dg_R x s
  have hn := nxt_R x s
  have hm := mre_R h x s
  have hp := spl_R (dg x s) (nxt x s)
  rw [eWe_openShop]
  simp (disch := first | omega | (simp (disch := omega) only [w32_id]; omega)) only [bWe_openShop_0, bWe_openShop_3, bWe_openShop_7, bWe_openShop_10, bWe_openShop_12, eWe_openShop, c_stepsIn, c_nextIn, KV_eq, ite_At]
  simp (disch := first | omega | (simp (disch := omega) only [w32_id]; omega)) only [bWe_openShop_13, bWe_openShop_18, bWe_openShop_25, bWe_openShop_27, ite_At, rd4, hR, w32_id]
  simp (disch := first | omega | (simp (disch := omega) only [w32_id]; omega)) only [bWe_openShop_28, bWe_openShop_31, bWe_openShop_35, ite_At, rd4, hR]
  simp (disch := first | omega | (simp (disch := omega) only [w32_id]; omega)) only [bWe_openShop_36, bWe_openShop_40, c_stepsPlace, KV_eq, kl_vi]
  have em : (if (if R 4 6 ≤ 0 then (0 : Int) else if dg x s - nxt x s < R 4 6 then 0 else 1) = 0 then (0 : Int) else R 4 5) = mre R x s := by
    unfold mre
    repeat' split
    all_goals first | rfl | omega
  rw [em]
  generalize hz6 : vi (if R 4 6 ≤ 0 then (0 : Int) else if dg x s - nxt x s < R 4 6 then 0 else 1) = z6
  refine loop_up (α := AV × AV × Mem) (fun e a => At (d + 2) kWe_openShop 43 [vr 8 k, vi s, vi x, vi (dg x s), vi (nxt x s), vi (if dg x s ≤ 0 then 0 else 1), z6, vi (mre R x s), vi (spl (dg x s) (nxt x s)), vi e, a.1, a.2.1] [] a.2.2 Q X)
    (fun e a => Fr (pOS k) M a.2.2 ∧ (∀ f : Int, 0 ≤ f → f < e → a.2.2.1 46 k (s * 5 + f).toNat = (if canP R w x s f then 1 else 0) ∧ a.2.2.1 51 k (s * 5 + f).toNat = chn R w x s f ∧ a.2.2.1 52 k (s * 5 + f).toNat = (if lvP x s f then 1 else 0)) ∧ (∀ t j : Nat, ¬ (s.toNat * 5 ≤ j ∧ j < s.toNat * 5 + 5) → a.2.2.1 t k j = M.1 t k j)) 0 5 ?_ ?_ 0 (_, _, M) (by omega) (by omega) ⟨Fr.rf, by intro f h1 h2; omega, fun _ _ _ => rfl⟩
  · rintro ⟨a, b, M'⟩ ⟨h1, h2, h3⟩
    dsimp only at h1 h2 h3 ⊢
    rw [bWe_openShop_43, if_pos (by omega), bWe_openShop_125]
    exact hq M' h1 (fun e he1 he2 => h2 e he1 he2) h3
  · rintro e ⟨a, b, M'⟩ he1 he2 ⟨h1, h2, h3⟩ hk
    dsimp only at h1 h2 h3 hk ⊢
    have hR' : rd M' (rcB k) = R := by rw [rd_fr h1 (fun t ht z => by obtain ⟨z, -⟩ := z; omega), hR]
    have hw' : M'.1 8 k 8 = w := by rw [h1.g1 8 k (fun z => by obtain ⟨z, -⟩ := z; omega), hw]
    have hc := h.chc s e hs (by omega)
    rw [bWe_openShop_43, if_neg (by omega)]
    simp (disch := first | omega | (simp (disch := omega) only [w32_id]; omega)) only [bWe_openShop_46, bWe_openShop_48, bWe_openShop_50, bWe_openShop_58, bWe_openShop_59, bWe_openShop_61, hw', c_allows, KV_eq, ite_At, hR', opn_eq]
    rw [show (if e = 0 ∨ 0 < dg x s ∧ (if e = 4 then lvs R w (spl (dg x s) (nxt x s)) ≠ 0 else e ≤ pcs R s) then (1 : Int) else 0) = (if canP R w x s e then 1 else 0) from rfl]
    simp (disch := first | omega | (simp (disch := omega) only [w32_id]; omega)) only [bWe_openShop_62, bWe_openShop_65, bWe_openShop_68, bWe_openShop_71, bWe_openShop_73, ite_At]
    have e2 : (if (if canP R w x s e then (1 : Int) else 0) = 0 then (0 : Int) else if e < 1 then 0 else if 3 < e then 0 else 1) = if canP R w x s e ∧ 1 ≤ e ∧ e ≤ 3 then 1 else 0 := by
      by_cases hc : canP R w x s e
      · simp only [hc, if_true, true_and]
        repeat' split
        all_goals omega
      · simp only [hc, if_false, false_and, if_true]
    rw [e2]
    simp (disch := first | omega | (simp (disch := omega) only [w32_id]; omega)) only [bWe_openShop_74, bWe_openShop_93, bWe_openShop_99, bWe_openShop_102, bWe_openShop_103, c_chanceOf, c_min, KV_eq, w32_id, rd_sI, hR', ite_m2]
    have e3 : (if (if canP R w x s e ∧ 1 ≤ e ∧ e ≤ 3 then (1 : Int) else 0) = 0 then (0 : Int) else if chc R s e + mre R x s < 4 then chc R s e + mre R x s else 4) = chn R w x s e := by
      unfold chn
      by_cases hA : canP R w x s e ∧ 1 ≤ e ∧ e ≤ 3
      · rw [if_pos hA, if_pos hA, if_neg (by omega)]
      · rw [if_neg hA, if_neg hA, if_pos rfl]
    have e4 : (if e = 0 then (1 : Int) else if (if dg x s ≤ 0 then (0 : Int) else 1) = 0 then 0 else if 3 ≤ e then 0 else 1) = if lvP x s e then 1 else 0 := by
      unfold lvP
      repeat' split
      all_goals omega
    simp only [ite_At, e3]
    simp (disch := first | omega | (simp (disch := omega) only [w32_id]; omega)) only [bWe_openShop_104, bWe_openShop_114, bWe_openShop_116, bWe_openShop_119, bWe_openShop_121, w32_id, ite_At, e4]
    simp (disch := first | omega | (simp (disch := omega) only [w32_id]; omega)) only [bWe_openShop_122, w32_id, ite_m2]
    refine hk (_, _, _) ⟨?_, ?_, ?_⟩
    · exact ((h1.sI ⟨by omega, rfl⟩).sI ⟨by omega, rfl⟩).sI ⟨by omega, rfl⟩
    · intro f hf1 hf2
      by_cases hfe : f = e
      · subst hfe
        simp [sI1]
      · have h9 := h2 f hf1 (by omega)
        have hne : ¬ (s * 5 + f).toNat = (s * 5 + e).toNat := by omega
        simp [sI1, hne]
        exact h9
    · intro t j hj
      have hne : ¬ j = (s * 5 + e).toNat := by omega
      simp [sI1, hne]
      exact h3 t j hj
theorem bor_add {v s : Int} (hv : 0 ≤ v ∧ v < pw s) (hs : 0 ≤ s ∧ s < 3) : bor v (pw s) = v + pw s := by
  rcases (by omega : s = 0 ∨ s = 1 ∨ s = 2) with rfl | rfl | rfl
  · have : v = 0 := by have : pw 0 = 1 := rfl
                       omega
    subst this; rfl
  · have : pw 1 = 2 := rfl
    rcases (by omega : v = 0 ∨ v = 1) with rfl | rfl <;> rfl
  · have : pw 2 = 4 := rfl
    rcases (by omega : v = 0 ∨ v = 1 ∨ v = 2 ∨ v = 3) with rfl | rfl | rfl | rfl <;> rfl
theorem c_openEnd {d : Nat} {M Q X} {k : Nat} {m x : Int} (hx : 0 ≤ x ∧ x < 125) (hm : 0 ≤ m ∧ m < 125) (h0 : dr m 0 ≤ 2) (h1 : dr m 1 ≤ 2) (h2 : dr m 2 ≤ 2) : Call (d + 2) qWe_openEnd [vr 8 k, vi m, vi x] M Q X = Q (vi 0) (sI (sI M 48 k m.toNat (won x m)) 49 k m.toNat (aft x m)) := by
  have key : ∀ (s v a : Int) (z1 z2 : AV), 0 ≤ s → s < 3 → 0 ≤ v → v < pw s → 0 ≤ a → a ≤ 1000 → dr m s ≤ 2 → At (d + 1) kWe_openEnd 6 [vr 8 k, vi m, vi x, vi v, vi a, vi s, z1, z2] [] M Q X = At (d + 1) kWe_openEnd 6 [vr 8 k, vi m, vi x, vi (v + wn1 x m s), vi (a + af1 x m s), vi (s + 1), vi (dg x s), vi (dr m s)] [] M Q X := by
    intro s v a z1 z2 g1 g2 g3 g4 g5 g6 g7
    have hg := dg_R x s
    have hr := dr_R m s
    have hu : su s = 1 ∨ su s = 5 ∨ su s = 25 := by
      unfold su
      repeat' split
      all_goals simp
    have hz : w32 ((dg x s - dr m s) * su s) = (dg x s - dr m s) * su s := by
      rcases hu with hu | hu | hu <;> rw [hu] <;> exact w32_id (by omega)
    rw [bWe_openEnd_6, if_neg (by omega)]
    simp (disch := first | omega | (simp (disch := omega) only [w32_id]; omega)) only [bWe_openEnd_9, bWe_openEnd_12, bWe_openEnd_16, bWe_openEnd_20, bWe_openEnd_23, bWe_openEnd_30, bWe_openEnd_32, bWe_openEnd_35, bWe_openEnd_45, c_stepsIn, c_doingIn, KV_eq, w32_id, bshl_pw, bor_add, ro_su, hz]
    unfold wn1 af1
    have hv0 : v + 0 = v := by omega
    have ha0 : a + 0 = a := by omega
    by_cases a1 : dg x s = 1 ∧ dr m s = 1
    · obtain ⟨a1, a2⟩ := a1
      simp only [a1, a2, ne_eq, not_true_eq_false, if_false, if_true, and_self, ha0]
    · simp only [a1, if_false, hv0]
      by_cases a2 : 0 < dg x s ∧ dr m s ≠ 2
      · rw [if_pos a2]
        have hz2 : w32 (a + (dg x s - dr m s) * su s) = a + (dg x s - dr m s) * su s := by
          rcases hu with hu | hu | hu <;> rw [hu] <;> exact w32_id (by omega)
        simp only [hz2]
        repeat' split
        all_goals first | rfl | omega
      · rw [if_neg a2, ha0]
        repeat' split
        all_goals first | rfl | omega
  have p0 : pw 0 = 1 := rfl
  have p1 : pw 1 = 2 := rfl
  have p2 : pw 2 = 4 := rfl
  have s0 : su 0 = 1 := rfl
  have s1 : su 1 = 5 := rfl
  have w0 : wn1 x m 0 = 0 ∨ wn1 x m 0 = 1 := by unfold wn1; split <;> simp [p0]
  have w1 : wn1 x m 1 = 0 ∨ wn1 x m 1 = 2 := by unfold wn1; split <;> simp [p1]
  have a0 := af1_R (x := x) h0
  have a1 := af1_R (x := x) h1
  rw [eWe_openEnd, bWe_openEnd_0, key 0 0 0 _ _ (by omega) (by omega) (by omega) (by omega) (by omega) (by omega) h0, show (0 : Int) + 1 = 1 from rfl, key 1 _ _ _ _ (by omega) (by omega) (by omega) (by omega) (by omega) (by omega) h1, show (1 : Int) + 1 = 2 from rfl, key 2 _ _ _ _ (by omega) (by omega) (by omega) (by omega) (by omega) (by omega) h2, bWe_openEnd_6, if_pos (by omega), bWe_openEnd_47 (by omega)]
  unfold won aft
  simp
/-- two and three loops, one within the other -/
theorem loop2 {α : Type} (l1 n1 l2 n2 : Int) (hl1 : l1 ≤ n1) (hl2 : l2 ≤ n2) (P1 : Int → α → Prop) (P2 : Int → Int → α → Prop) (I : Int → Int → α → Prop)
    (e1 : ∀ m, I n1 l2 m → P1 n1 m) (i1 : ∀ a m, l1 ≤ a → a < n1 → P2 a l2 m → P1 a m) (e2 : ∀ a m, l1 ≤ a → a < n1 → P1 (a + 1) m → P2 a n2 m)
    (st : ∀ a b m, l1 ≤ a → a < n1 → l2 ≤ b → b < n2 → I a b m → (∀ m', I a (b + 1) m' → P2 a (b + 1) m') → P2 a b m) (j2 : ∀ a m, l1 ≤ a → a < n1 → I a n2 m → I (a + 1) l2 m) : ∀ m, I l1 l2 m → P1 l1 m := by
  intro m hm
  refine loop_up P1 (fun a m => I a l2 m) l1 n1 e1 ?_ l1 m (Int.le_refl _) hl1 hm
  intro a m h1 h2 h3 h4
  refine i1 a m h1 h2 ?_
  exact loop_up (P2 a) (I a) l2 n2 (fun m h => e2 a m h1 h2 (h4 m (j2 a m h1 h2 h))) (fun b m g1 g2 g3 g4 => st a b m h1 h2 g1 g2 g3 g4) l2 m (Int.le_refl _) hl2 h3
theorem loop3 {α : Type} (n : Int) (hn : 0 ≤ n) (P1 : Int → α → Prop) (P2 : Int → Int → α → Prop) (P3 : Int → Int → Int → α → Prop) (I : Int → Int → Int → α → Prop)
    (e1 : ∀ m, I n 0 0 m → P1 n m) (i1 : ∀ a m, 0 ≤ a → a < n → P2 a 0 m → P1 a m) (e2 : ∀ a m, 0 ≤ a → a < n → P1 (a + 1) m → P2 a n m)
    (i2 : ∀ a b m, 0 ≤ a → a < n → 0 ≤ b → b < n → P3 a b 0 m → P2 a b m) (e3 : ∀ a b m, 0 ≤ a → a < n → 0 ≤ b → b < n → P2 a (b + 1) m → P3 a b n m)
    (st : ∀ a b c m, 0 ≤ a → a < n → 0 ≤ b → b < n → 0 ≤ c → c < n → I a b c m → (∀ m', I a b (c + 1) m' → P3 a b (c + 1) m') → P3 a b c m)
    (j3 : ∀ a b m, 0 ≤ a → a < n → 0 ≤ b → b < n → I a b n m → I a (b + 1) 0 m) (j2 : ∀ a m, 0 ≤ a → a < n → I a n 0 m → I (a + 1) 0 0 m) : ∀ m, I 0 0 0 m → P1 0 m := by
  refine loop2 0 n 0 n hn hn P1 P2 (fun a b m => I a b 0 m) e1 i1 e2 ?_ j2
  intro a b m h1 h2 h3 h4 h5 h6
  refine i2 a b m h1 h2 h3 h4 ?_
  exact loop_up (P3 a b) (I a b) 0 n (fun m h => e3 a b m h1 h2 h3 h4 (h6 m (j3 a b m h1 h2 h3 h4 h))) (fun c m g1 g2 g3 g4 => st a b c m h1 h2 h3 h4 g1 g2 g3 g4) 0 m (Int.le_refl _) hn h5
/-- all before a b c -/
def Dn3 (n : Int) (D : Int → Int → Int → Prop) (a b c : Int) : Prop := ∀ x y z : Int, 0 ≤ x → x < n → 0 ≤ y → y < n → 0 ≤ z → z < n → (x < a ∨ x = a ∧ (y < b ∨ y = b ∧ z < c)) → D x y z
def Dn2 (n : Int) (D : Int → Int → Prop) (a b : Int) : Prop := ∀ x y : Int, 0 ≤ x → x < n → 0 ≤ y → y < n → (x < a ∨ x = a ∧ y < b) → D x y
abbrev pOp (k t i : Nat) : Prop := (t = 46 ∨ t = 51 ∨ t = 52 ∨ t = 48 ∨ t = 49 ∨ t = 8) ∧ i = k
theorem c_open {d : Nat} {M Q X} {k : Nat} {x w : Int} {R : RT} (hR : rd M (rcB k) = R) (h : WR R) (hx : 0 ≤ x ∧ x < 125) (hw : 0 ≤ w ∧ w ≤ 6)
    (hq : ∀ M', Fr (pOp k) M M' → Opd R w x k M' → Q (vi 0) M') : Call (d + 4) qWe_open [vr 8 k, vi w, vi x] M Q X := by
  rw [eWe_open, bWe_open_0]
  refine loop_up (fun s M' => At (d + 3) kWe_open 5 [vr 8 k, vi w, vi x, vi s, JK, JK] [] M' Q X) (fun s M' => Fr (pOp k) M M' ∧ M'.1 8 k 8 = w ∧ ∀ s' : Int, 0 ≤ s' → s' < s → Op1 R w x k M' s') 0 3 ?_ ?_ 0 _ (by omega) (by omega) ⟨Fr.rf.sI ⟨by omega, rfl⟩, by simp [sI1], by intros; omega⟩
  · rintro M1 ⟨h1, h2, h3⟩
    rw [bWe_open_5, if_pos (by omega), bWe_open_14]
    have hloop := loop3 3 (by omega) (fun a M' => ∀ z4 z5, At (d + 3) kWe_open 16 [vr 8 k, vi w, vi x, vi a, z4, z5] [] M' Q X) (fun a b M' => ∀ z5, At (d + 3) kWe_open 21 [vr 8 k, vi w, vi x, vi a, vi b, z5] [] M' Q X) (fun a b c M' => At (d + 3) kWe_open 26 [vr 8 k, vi w, vi x, vi a, vi b, vi c] [] M' Q X)
      (fun a b c M' => Fr (fun t i => (t = 48 ∨ t = 49) ∧ i = k) M1 M' ∧ Dn3 3 (fun a b c => Op2 x k M' a b c) a b c) ?_ ?_ ?_ ?_ ?_ ?_ ?_ ?_
    · exact hloop M1 ⟨Fr.rf, by intro a b c _ _ _ _ _ _ h; omega⟩ _ _
    · rintro M' ⟨g1, g2⟩ z4 z5
      rw [bWe_open_16, if_pos (by omega), bWe_open_55]
      refine hq M' (h1.tr (g1.mono (fun t i z => ⟨by omega, z.2⟩))) ⟨?_, ?_, ?_⟩
      · rw [g1.g1 8 k (fun z => by omega), h2]
      · intro s' a1 a2 d' b1 b2
        have := h3 s' a1 a2 d' b1 b2
        rw [g1.g1 46 k (fun z => by omega), g1.g1 51 k (fun z => by omega), g1.g1 52 k (fun z => by omega)]
        exact this
      · intro a b c a1 a2 a3 a4 a5 a6
        exact g2 a b c a1 a2 a3 a4 a5 a6 (by omega)
    · intro a M' a1 a2 g z4 z5
      rw [bWe_open_16, if_neg (by omega), bWe_open_19]
      exact g _
    · intro a M' a1 a2 g z5
      rw [bWe_open_21, if_pos (by omega), bWe_open_53, w32_id (by omega)]
      exact g _ _
    · intro a b M' a1 a2 b1 b2 g z5
      rw [bWe_open_21, if_neg (by omega), bWe_open_24]
      exact g
    · intro a b M' a1 a2 b1 b2 g
      rw [bWe_open_26, if_pos (by omega), bWe_open_51, w32_id (by omega)]
      exact g _
    · rintro a b c M' a1 a2 b1 b2 c1 c2 ⟨g1, g2⟩ g3
      rw [bWe_open_26, if_neg (by omega), bWe_open_29 (by omega)]
      have e0 : roI 117 0 (0 : Int).toNat = 25 := rfl
      have e1 : roI 117 0 (1 : Int).toNat = 5 := rfl
      have e2 : roI 117 0 (2 : Int).toNat = 1 := rfl
      rw [e0, e1, e2]
      have em : w32 (w32 (w32 (a * 25) + w32 (b * 5)) + w32 (c * 1)) = mm a b c := by
        unfold mm
        simp (disch := first | omega | (simp (disch := omega) only [w32_id]; omega)) only [w32_id, Int.mul_one]
      obtain ⟨m0, m1, m2⟩ := dr_mm (a := a) (b := b) (c := c) (by omega) (by omega) (by omega)
      rw [em, c_openEnd hx (by unfold mm; omega) (by omega) (by omega) (by omega), KU_eq, bWe_open_49, w32_id (by omega)]
      refine g3 _ ⟨(g1.sI ⟨by omega, rfl⟩).sI ⟨by omega, rfl⟩, ?_⟩
      intro p q r p1 p2 q1 q2 r1 r2 hh
      by_cases he : p = a ∧ q = b ∧ r = c
      · obtain ⟨rfl, rfl, rfl⟩ := he
        constructor <;> simp [sI1]
      · have hne : ¬ (mm p q r).toNat = (mm a b c).toNat := by unfold mm; omega
        have := g2 p q r p1 p2 q1 q2 r1 r2 (by omega)
        constructor
        · simp [sI1, hne]; exact this.1
        · simp [sI1, hne]; exact this.2
    · rintro a b M' a1 a2 b1 b2 ⟨g1, g2⟩
      exact ⟨g1, fun p q r p1 p2 q1 q2 r1 r2 hh => g2 p q r p1 p2 q1 q2 r1 r2 (by omega)⟩
    · rintro a M' a1 a2 ⟨g1, g2⟩
      exact ⟨g1, fun p q r p1 p2 q1 q2 r1 r2 hh => g2 p q r p1 p2 q1 q2 r1 r2 (by omega)⟩
  · rintro s M1 s1 s2 ⟨h1, h2, h3⟩ hk
    rw [bWe_open_5, if_neg (by omega), bWe_open_8]
    have hR1 : rd M1 (rcB k) = R := by rw [rd_fr h1 (fun t ht z => by omega), hR]
    refine c_openShop (by rw [hR1]; exact h) ⟨s1, s2⟩ hx h2 hw ?_
    intro M2 k1 k2 k3
    rw [hR1] at k2
    rw [KU_eq, bWe_open_12, w32_id (by omega)]
    refine hk M2 ⟨h1.tr (k1.mono (fun t i z => ⟨by omega, z.2⟩)), ?_, ?_⟩
    · rw [k1.g1 8 k (fun z => by omega), h2]
    · intro s' a1 a2
      by_cases he : s' = s
      · subst he; exact k2
      · intro d' b1 b2
        have := h3 s' a1 (by omega) d' b1 b2
        rw [k3 46 _ (by omega), k3 51 _ (by omega), k3 52 _ (by omega)]
        exact this
