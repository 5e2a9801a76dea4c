/-! LAYER 3, RULES OBEYED: the class -/
def byE (U : Nat → Int) (x s : Int) : Int := if dg x s = 0 then 0 else U (rqI s (dg x s) (nxt x s)).toNat
def byD (R : RT) (U : Nat → Int) (w x s : Int) : Int := if canP R w x s (byE U x s) then byE U x s else 0
def tdR (R : RT) (U : Nat → Int) (w x : Int) : Int := mm (byD R U w x 0) (byD R U w x 1) (byD R U w x 2)
/-- WORTH by rules -/
def Wr (R : RT) (U : Nat → Int) : Nat → Int → Int → Int64
  | 0 => fun _ _ => 0
  | n + 1 => fun x i => if x = 0 then 0 else rG R (Wr R U n) ((n + 1 : Nat) : Int) x (tdR R U ((n + 1 : Nat) : Int) x) i
theorem byE_R {U : Nat → Int} (h : WU U) {x s : Int} (hs : 0 ≤ s ∧ s < 3) : 0 ≤ byE U x s ∧ byE U x s < 5 := by
  unfold byE
  split
  · omega
  · have := rqI_R (o := dg x s) (n := nxt x s) hs
    have := (h (rqI s (dg x s) (nxt x s)).toNat (by omega)).1
    omega
theorem byD_R {R : RT} {U : Nat → Int} (h : WU U) {w x s : Int} (hs : 0 ≤ s ∧ s < 3) : 0 ≤ byD R U w x s ∧ byD R U w x s < 5 := by
  have := byE_R h (x := x) hs
  unfold byD
  split <;> omega
theorem byD_can {R : RT} {U : Nat → Int} {w x s : Int} : canP R w x s (byD R U w x s) := by
  unfold byD
  split
  · assumption
  · exact Or.inl rfl
theorem dr_tdR {R : RT} {U : Nat → Int} (h : WU U) {w x s : Int} (hs : 0 ≤ s ∧ s < 3) : dr (tdR R U w x) s = byD R U w x s := by
  have b0 := byD_R (R := R) h (w := w) (x := x) (s := 0) (by omega)
  have b1 := byD_R (R := R) h (w := w) (x := x) (s := 1) (by omega)
  have b2 := byD_R (R := R) h (w := w) (x := x) (s := 2) (by omega)
  obtain ⟨e0, e1, e2⟩ := dr_mm b0 b1 b2
  unfold tdR
  rcases (by omega : s = 0 ∨ s = 1 ∨ s = 2) with rfl | rfl | rfl
  · exact e0
  · exact e1
  · exact e2
theorem tdR_R {R : RT} {U : Nat → Int} (h : WU U) {w x : Int} : 0 ≤ tdR R U w x ∧ tdR R U w x < 125 := by
  have b0 := byD_R (R := R) h (w := w) (x := x) (s := 0) (by omega)
  have b1 := byD_R (R := R) h (w := w) (x := x) (s := 1) (by omega)
  have b2 := byD_R (R := R) h (w := w) (x := x) (s := 2) (by omega)
  unfold tdR mm; omega
theorem tdR_ok {R : RT} {U : Nat → Int} (h : WU U) {w x : Int} : okR R w x (tdR R U w x) = true := by
  unfold okR
  rw [dr_tdR h (by omega), dr_tdR h (by omega), dr_tdR h (by omega)]
  exact decide_eq_true ⟨byD_can, byD_can, byD_can⟩
theorem Wr_0 {R U n i} : Wr R U n 0 i = 0 := by
  cases n with
  | zero => rfl
  | succ n => unfold Wr; rw [if_pos rfl]
theorem Wr_at {R : RT} {U : Nat → Int} {w x i : Int} (hw : 1 ≤ w) (hx : x ≠ 0) : Wr R U w.toNat x i = rG R (Wr R U (w - 1).toNat) w x (tdR R U w x) i := by
  obtain ⟨n, hn⟩ : ∃ n : Nat, w = ((n + 1 : Nat) : Int) := ⟨(w - 1).toNat, by omega⟩
  subst hn
  rw [show ((n + 1 : Nat) : Int).toNat = n + 1 by omega, show (((n + 1 : Nat) : Int) - 1).toNat = n by omega]
  show (if x = 0 then 0 else _) = _
  rw [if_neg hx]
def CelU (R : RT) (U : Nat → Int) (b : Nat) (M : Mem) (w x : Int) : Prop := M.1 20 b (w * 125 + x).toNat = tdR R U w x ∧ ∀ i : Int, 0 ≤ i → i < 3 → bV M b w x i = Wr R U w.toNat x i
def FullU (R : RT) (U : Nat → Int) (b : Nat) (M : Mem) : Prop := ∀ w x : Int, 1 ≤ w → w ≤ R 4 2 → 0 < x → x < 125 → fitsP R x → CelU R U b M w x
section
variable {d : Nat} {Q : AV → Mem → Prop} {X : Nat → Mem → Prop}
theorem c_toldRow {M : Mem} {k : Nat} {R : RT} {U : Nat → Int} {w x : Int} (hO : Opd R w x k M) (hU : RuC U 0 M) (hW : WU U) (hx : 0 ≤ x ∧ x < 125) : Call (d + 3) qBo_toldRow [vr 0 k, vr 2 0, vi x] M Q X = Q (vi (tdR R U w x)) M := by
  have key : ∀ (s c : Int) (z5 z6 : AV), 0 ≤ s → s < 3 → 0 ≤ c → c ≤ 1000 → ∃ y5 y6, At (d + 2) kBo_toldRow 4 [vr 0 k, vr 2 0, vi x, vi c, vi s, z5, z6] [] M Q X = At (d + 2) kBo_toldRow 4 [vr 0 k, vr 2 0, vi x, vi (c + byD R U w x s * ru s), vi (s + 1), y5, y6] [] M Q X := by
    intro s c z5 z6 s0 s3 c0 c1
    have he := byE_R hW (x := x) (s := s) ⟨s0, s3⟩
    have e1 : w32 (s + 1) = s + 1 := w32_id (by omega)
    have hu : ru s = 25 ∨ ru s = 5 ∨ ru s = 1 := by
      unfold ru
      repeat' split
      all_goals omega
    have ei : w32 (w32 (s * 5) + byE U x s) = s * 5 + byE U x s := by rw [w32_id (z := s * 5) (by omega), w32_id (by omega)]
    have mid : At (d + 2) kBo_toldRow 4 [vr 0 k, vr 2 0, vi x, vi c, vi s, z5, z6] [] M Q X = At (d + 2) kBo_toldRow 22 [vr 0 k, vr 2 0, vi x, vi c, vi s, vi (dg x s), z6] [vi (byE U x s)] M Q X := by
      rw [bBo_toldRow_4, if_neg (by omega), bBo_toldRow_7, c_stepsIn (by omega), KV_eq, bBo_toldRow_10]
      unfold byE
      by_cases h0 : dg x s = 0
      · rw [if_neg (fun z => z h0), if_pos h0, bBo_toldRow_13]
      · rw [if_pos h0, if_neg h0, bBo_toldRow_15, c_nextIn (by omega), KV_eq, bBo_toldRow_21, c_ruleAt hU ⟨s0, s3⟩, KV_eq]
    have ho := (hO.2.1 s s0 s3 (byE U x s) he.1 he.2).1
    refine ⟨vi (dg x s), vi (byE U x s), ?_⟩
    rw [mid, bBo_toldRow_22 (by rw [ei]; omega), ei, ho, kl_vi]
    unfold byD
    by_cases hc : canP R w x s (byE U x s)
    · have hb : 0 ≤ byE U x s * ru s ∧ byE U x s * ru s ≤ 1000 := by rcases hu with e | e | e <;> rw [e] <;> omega
      rw [if_pos hc, if_pos hc, if_neg (by omega), bBo_toldRow_33 (by omega), ro_ru (by omega), bBo_toldRow_41, e1, w32_id (z := byE U x s * ru s) (by omega), w32_id (by omega)]
    · rw [if_neg hc, if_neg hc, if_pos rfl, bBo_toldRow_41, e1, Int.zero_mul, Int.add_zero]
  have r0 : ru 0 = 25 := rfl
  have r1 : ru 1 = 5 := rfl
  have r2 : ru 2 = 1 := rfl
  have b0 := byD_R (R := R) hW (w := w) (x := x) (s := 0) (by omega)
  have b1 := byD_R (R := R) hW (w := w) (x := x) (s := 1) (by omega)
  obtain ⟨y5, y6, k0⟩ := key 0 0 JK JK (by omega) (by omega) (by omega) (by omega)
  rw [r0] at k0
  obtain ⟨y5', y6', k1⟩ := key (0 + 1) (0 + byD R U w x 0 * 25) y5 y6 (by omega) (by omega) (by omega) (by omega)
  rw [show (0 : Int) + 1 = 1 by omega, r1] at k1
  obtain ⟨y5'', y6'', k2⟩ := key (1 + 1) (0 + byD R U w x 0 * 25 + byD R U w x 1 * 5) y5' y6' (by omega) (by omega) (by omega) (by omega)
  rw [show (1 : Int) + 1 = 2 by omega, r2] at k2
  rw [eBo_toldRow, bBo_toldRow_0, k0, show (0 : Int) + 1 = 1 by omega, k1, show (1 : Int) + 1 = 2 by omega, k2, bBo_toldRow_4, if_pos (by omega), bBo_toldRow_43]
  unfold tdR mm
  rw [Int.zero_add, Int.mul_one]
theorem c_narrow {M : Mem} {k : Nat} {r : Int} (hr : 0 ≤ r ∧ r < 125) (hq : ∀ M', Fs (fun t i j => t = 46 ∧ i = k ∧ j < 15) M M' → (∀ s e : Int, 0 ≤ s → s < 3 → 0 ≤ e → e < 5 → M'.1 46 k (s * 5 + e).toNat = if e = dr r s then 1 else 0) → Q (vi 0) M') : Call (d + 2) qWe_narrow [vr 8 k, vi r] M Q X := by
  rw [eWe_narrow, bWe_narrow_0]
  have hloop := loop2I 0 3 0 5 (by omega) (by omega) (fun s M' => ∀ z, At (d + 1) kWe_narrow 2 [vr 8 k, vi r, vi s, z] [] M' Q X) (fun s e M' => At (d + 1) kWe_narrow 7 [vr 8 k, vi r, vi s, vi e] [] M' Q X)
    (fun a b M' => Fs (fun t i j => t = 46 ∧ i = k ∧ j < 15) M M' ∧ ∀ s e : Int, 0 ≤ s → s < 3 → 0 ≤ e → e < 5 → (s < a ∨ s = a ∧ e < b) → M'.1 46 k (s * 5 + e).toNat = if e = dr r s then 1 else 0) ?_ ?_ ?_ ?_ ?_
  · exact hloop M ⟨Fs.rf, by intros; omega⟩ _
  · rintro M' ⟨g1, g2⟩ z
    rw [bWe_narrow_2, if_pos (by omega), bWe_narrow_30]
    exact hq M' g1 (fun s e a1 a2 a3 a4 => g2 s e a1 a2 a3 a4 (by omega))
  · rintro s M' s0 s3 - g z
    rw [bWe_narrow_2, if_neg (by omega), bWe_narrow_5]; exact g
  · intro s M' s0 s3 g
    rw [bWe_narrow_7, if_pos (by omega), bWe_narrow_28, w32_id (by omega)]; exact g _
  · rintro s e M' s0 s3 e0 e5 ⟨g1, g2⟩ gk
    have ei : w32 (w32 (s * 5) + e) = s * 5 + e := by rw [w32_id (z := s * 5) (by omega), w32_id (by omega)]
    have fin : ∀ v : Int, v = (if e = dr r s then 1 else 0) → Fs (fun t i j => t = 46 ∧ i = k ∧ j < 15) M (sI M' 46 k (s * 5 + e).toNat v) ∧ ∀ s' e' : Int, 0 ≤ s' → s' < 3 → 0 ≤ e' → e' < 5 → (s' < s ∨ s' = s ∧ e' < e + 1) → (sI M' 46 k (s * 5 + e).toNat v).1 46 k (s' * 5 + e').toNat = if e' = dr r s' then 1 else 0 := by
      intro v hv
      refine ⟨g1.sI ⟨rfl, rfl, by omega⟩, ?_⟩
      intro s' e' a1 a2 a3 a4 a5
      by_cases he : s' = s ∧ e' = e
      · obtain ⟨rfl, rfl⟩ := he; rw [sI_eq]; exact hv
      · rw [sI_ne (by omega)]; exact g2 s' e' a1 a2 a3 a4 (by omega)
    rw [bWe_narrow_7, if_neg (by omega), bWe_narrow_10, c_doingIn (by omega), KV_eq, ei, bWe_narrow_21]
    by_cases he : e = dr r s
    · rw [if_neg (fun z => z he), bWe_narrow_22, bWe_narrow_25 (by omega), w32_id (by omega)]
      exact gk _ (fin _ (by rw [if_pos he]; rfl))
    · rw [if_pos he, bWe_narrow_24, bWe_narrow_25 (by omega), w32_id (by omega)]
      exact gk _ (fin _ (by rw [if_neg he]; rfl))
  · rintro s M' s0 s3 ⟨g1, g2⟩
    exact ⟨g1, fun s' e' a1 a2 a3 a4 a5 => g2 s' e' a1 a2 a3 a4 (by omega)⟩
/-- one state by rules -/
theorem c_obeyCell {M : Mem} {b : Nat} {R : RT} {U : Nat → Int} {w x : Int} {z4 : AV} (hR : rd M (rcB b) = R) (h : WR R) (hU : RuC U 0 M) (hW : WU U) (hw : 1 ≤ w ∧ w ≤ 6) (hx : 0 < x ∧ x < 125) (hf : fitsP R x)
    (hq : ∀ M' z4, Fr (pCl b) M M' → M'.1 20 b (w * 125 + x).toNat = tdR R U w x → (∀ i : Int, 0 ≤ i → i < 3 → bV M' b w x i = rG R (bV M b (w - 1)) w x (tdR R U w x) i) → (∀ j : Nat, j ≠ (w * 125 + x).toNat → M'.1 20 b j = M.1 20 b j) → (∀ j : Nat, M'.2 21 b j = M.2 21 b j) → (∀ j : Nat, ¬ (((w * 125 + x) * 3).toNat ≤ j ∧ j < ((w * 125 + x) * 3).toNat + 3) → M'.2 22 b j = M.2 22 b j) → At (d + 5) kBo_obey 52 [vr 0 b, vr 2 0, vi w, vi x, z4] [] M' Q X) : At (d + 5) kBo_obey 17 [vr 0 b, vr 2 0, vi w, vi x, z4] [] M Q X := by
  have hr := tdR_R (R := R) hW (w := w) (x := x)
  rw [bBo_obey_17, c_placeOf (by omega) (by omega), KV_eq, bBo_obey_20]
  refine c_open hR h (by omega) (by omega) ?_
  intro M1 g1 g2
  have hU1 : RuC U 0 M1 := fun j hj => by rw [g1.g1 27 0 (fun z => by omega)]; exact hU j hj
  rw [KU_eq, bBo_obey_26, c_toldRow (d := d + 2) g2 hU1 hW (by omega), KV_eq, bBo_obey_33 (by omega), sI_eq]
  refine c_narrow (d := d + 3) hr ?_
  intro M3 f3 n3
  have f13 : ∀ t i j, ¬ (t = 46 ∧ i = b) → ¬ (t = 20 ∧ i = b) → M3.1 t i j = M1.1 t i j ∧ M3.2 t i j = M1.2 t i j := fun t i j h1 h2 => by
    refine ⟨?_, ?_⟩
    · rw [f3.g1 t i j (by omega), sI_ne (by omega)]
    · rw [f3.g2 t i j (by omega)]; rfl
  have hR3 : rd M3 (rcB b) = R := by
    rw [rd_fs f3 (fun t j ht z => by omega), rd_sI (by omega), rd_fr g1 (fun t ht z => by omega), hR]
  have hcn : ∀ s e : Int, 0 ≤ s → s < 3 → 0 ≤ e → e < 5 → (cnM M3 b s e ↔ e = byD R U w x s) := fun s e a1 a2 a3 a4 => by
    unfold cnM
    rw [n3 s e a1 a2 a3 a4, dr_tdR hW ⟨a1, a2⟩]
    split <;> omega
  have hP : Prcn R w x b M3 := by
    refine ⟨?_, ?_, ?_, ?_⟩
    · rw [(f13 8 b 8 (by omega) (by omega)).1]; exact g2.1
    · intro s e a1 a2 a3 a4
      obtain ⟨o1, o2, o3⟩ := g2.2.1 s a1 a2 e a3 a4
      refine ⟨by rw [(f13 51 b _ (by omega) (by omega)).1]; exact o2, ?_, ?_, ?_⟩
      · unfold lvM; rw [(f13 52 b _ (by omega) (by omega)).1, o3]; split <;> simp_all
      · rw [n3 s e a1 a2 a3 a4]; split <;> omega
      · intro hc
        have he := (hcn s e a1 a2 a3 a4).mp hc
        have := byD_can (R := R) (U := U) (w := w) (x := x) (s := s)
        rw [← he] at this
        rcases this with z | z
        · exact Or.inl z
        · exact Or.inr z.1
    · intro a b' c a1 a2 a3 a4 a5 a6
      have := g2.2.2 a b' c a1 a2 a3 a4 a5 a6
      unfold Op2 at this ⊢
      rw [(f13 48 b _ (by omega) (by omega)).1, (f13 49 b _ (by omega) (by omega)).1]
      exact this
    · intro s a1 a2 a3
      rw [hcn s 0 a1 a2 (by omega) (by omega)]
      exact (can_nin h hf a1 a2 a3 (byD_can (R := R) (U := U) (w := w) (x := x) (s := s))).symm
  rw [KU_eq, bBo_obey_41]
  refine c_pricen (b := b) hR3 h hw (by omega) hf hP ?_
  intro M4 k1 k2
  have hr4 : M4.1 20 b (w * 125 + x).toNat = tdR R U w x := by
    rw [k1.g1 20 b (fun z => by omega), f3.g1 20 b _ (by omega), sI_eq]
  have e3 : w32 (tdR R U w x * 3) = tdR R U w x * 3 := w32_id (by omega)
  have e4 : w32 ((w * 125 + x) * 3) = (w * 125 + x) * 3 := w32_id (by omega)
  rw [KU_eq, bBo_obey_45 (by omega), hr4, eBo_keepWorths, bBo_keepWorths_0 (by rw [e3, e4]; omega), e3, e4, KU_eq, show (3 : Int).toNat = 3 from rfl]
  have ebV : bV M3 b (w - 1) = bV M b (w - 1) := by
    funext y i; unfold bV; rw [(f13 22 b _ (by omega) (by omega)).2, g1.g2 22 b (fun z => by omega)]
  rw [ebV] at k2
  refine hq _ _ ?_ ?_ ?_ ?_ ?_ ?_
  · refine Fr.cpL ?_ ⟨by omega, rfl⟩
    refine (g1.mono (fun t i z => ⟨by omega, z.2⟩)).tr (Fr.tr (M' := M3) ?_ (k1.mono (fun t i z => ⟨by omega, z.2⟩)))
    intro t i hn
    have hne : ¬ (t = 46 ∧ i = b) ∧ ¬ (t = 20 ∧ i = b) := by unfold pCl at hn; omega
    exact ⟨funext fun j => (f13 t i j hne.1 hne.2).1, funext fun j => (f13 t i j hne.1 hne.2).2⟩
  · rw [cpL1]; exact hr4
  · intro i i1 i2
    have b0 := byD_R (R := R) hW (w := w) (x := x) (s := 0) (by omega)
    have b1 := byD_R (R := R) hW (w := w) (x := x) (s := 1) (by omega)
    have b2 := byD_R (R := R) hW (w := w) (x := x) (s := 2) (by omega)
    have v := k2 _ _ _ i b0.1 b0.2 b1.1 b1.2 b2.1 b2.2 i1 i2 ((hcn 0 _ (by omega) (by omega) b0.1 b0.2).mpr rfl) ((hcn 1 _ (by omega) (by omega) b1.1 b1.2).mpr rfl) ((hcn 2 _ (by omega) (by omega) b2.1 b2.2).mpr rfl)
    unfold rG
    rw [dr_tdR hW (by omega), dr_tdR hW (by omega), dr_tdR hW (by omega), ← v]
    unfold bV vv
    rw [cpL2, if_pos ⟨rfl, rfl, by omega, by omega⟩]
    show M4.2 50 b _ = M4.2 50 b (tdR R U w x * 3 + i).toNat
    rw [show (tdR R U w x * 3).toNat + (((w * 125 + x) * 3 + i).toNat - ((w * 125 + x) * 3).toNat) = (tdR R U w x * 3 + i).toNat by omega]
  · intro j hj
    rw [cpL1, k1.g1 20 b (fun z => by omega), f3.g1 20 b _ (by omega), sI_ne (by omega), g1.g1 20 b (fun z => by omega)]
  · intro j
    rw [cpL2, if_neg (by omega), k1.g2 21 b (fun z => by omega), (f13 21 b _ (by omega) (by omega)).2, g1.g2 21 b (fun z => by omega)]
  · intro j hj
    rw [cpL2, if_neg (by omega), k1.g2 22 b (fun z => by omega), (f13 22 b _ (by omega) (by omega)).2, g1.g2 22 b (fun z => by omega)]
theorem c_obey {M : Mem} {b : Nat} {R : RT} {U : Nat → Int} (hR : rd M (rcB b) = R) (h : WR R) (hz : Bz b M) (hU : RuC U 0 M) (hW : WU U)
    (hq : ∀ M', Fr (pCl b) M M' → Bz b M' → FullU R U b M' → Q (vi 0) M') : Call (d + 6) qBo_obey [vr 0 b, vr 2 0] M Q X := by
  have hb := h.b
  rw [eBo_obey, bBo_obey_0]
  have hloop := loop2I 1 (R 4 2 + 1) 1 125 (by omega) (by omega) (fun w M' => ∀ z3 z4, At (d + 5) kBo_obey 2 [vr 0 b, vr 2 0, vi w, z3, z4] [] M' Q X) (fun w x M' => ∀ z4, At (d + 5) kBo_obey 9 [vr 0 b, vr 2 0, vi w, vi x, z4] [] M' Q X)
    (fun w0 x0 M' => Fr (pCl b) M M' ∧ Bz b M' ∧ ∀ w x : Int, 1 ≤ w → w ≤ R 4 2 → 0 < x → x < 125 → fitsP R x → (w < w0 ∨ w = w0 ∧ x < x0) → CelU R U b M' w x) ?_ ?_ ?_ ?_ ?_
  · exact hloop M ⟨Fr.rf, hz, by intros; omega⟩ _ _
  · rintro M' ⟨g1, g2, g3⟩ z3 z4
    rw [bBo_obey_2, rd4, rd_fr g1 (fun t ht z => by omega), hR, if_pos (by omega), bBo_obey_56]
    exact hq M' g1 g2 (fun w x w1 w2 x1 x2 hs => g3 w x w1 w2 x1 x2 hs (by omega))
  · rintro w M' w1 w2 ⟨g1, -, -⟩ g z3 z4
    rw [bBo_obey_2, rd4, rd_fr g1 (fun t ht z => by omega), hR, if_neg (by omega), bBo_obey_7]
    exact g _
  · intro w M' w1 w2 g z4
    rw [bBo_obey_9, if_pos (by omega), bBo_obey_54, w32_id (by omega)]; exact g _ _
  · rintro w x M' w1 w2 x1 x2 ⟨g1, g2, g3⟩ gk z4
    have hR' : rd M' (rcB b) = R := by rw [rd_fr g1 (fun t ht z => by omega), hR]
    have hU' : RuC U 0 M' := fun j hj => by rw [g1.g1 27 0 (fun z => by omega)]; exact hU j hj
    rw [bBo_obey_9, if_neg (by omega), bBo_obey_12, c_fits (by omega), KV_eq, bBo_obey_16, hR']
    by_cases hf : fitsP R x
    · rw [if_pos hf, if_neg (by omega)]
      refine c_obeyCell hR' h hU' hW (by omega) (by omega) hf ?_
      intro M2 z4' k1 k2 k3 k4 k5 k6
      rw [bBo_obey_52, w32_id (by omega)]
      have hs : stlP R 1 w x := ⟨hf, Or.inl (by omega)⟩
      have hA : Agr x (bV M' b (w - 1)) (Wr R U (w - 1).toNat) := by
        intro a b' c i a1 a2 b1 b2 c1 c2 i1 i2
        obtain ⟨m0, m1, m2⟩ := dr_mm (a := a) (b := b') (c := c) (by omega) (by omega) (by omega)
        have hr := aft_R (x := x) (m := mm a b' c) (by omega) (by omega) (by omega)
        by_cases hw : w = 1
        · subst hw
          show bV M' b 0 _ i = 0
          exact g2.1 _ i hr.1 hr.2 i1 i2
        · by_cases hy : aft x (mm a b' c) = 0
          · rw [hy, Wr_0]; exact g2.2.1 (w - 1) i (by omega) (by omega) i1 i2
          · exact (g3 (w - 1) _ (by omega) (by omega) (by omega) (by omega) (stl_aft hs ⟨a1, a2⟩ ⟨b1, b2⟩ ⟨c1, c2⟩).1 (by omega)).2 i i1 i2
      refine gk M2 ⟨g1.tr k1, ?_, ?_⟩ _
      · refine ⟨?_, ?_, ?_, ?_⟩
        · intro x' i a1 a2 i1 i2
          unfold bV; rw [k6 _ (by omega)]; exact g2.1 x' i a1 a2 i1 i2
        · intro w' i a1 a2 i1 i2
          unfold bV; rw [k6 _ (by omega)]; exact g2.2.1 w' i a1 a2 i1 i2
        · intro w' a1 a2
          rw [k4 _ (by omega), k5]; exact g2.2.2.1 w' a1 a2
        · intro x' a1 a2
          rw [k4 _ (by omega), k5]; exact g2.2.2.2 x' a1 a2
      · intro w' x' a1 a2 a3 a4 a5 a6
        by_cases he : w' = w ∧ x' = x
        · obtain ⟨rfl, rfl⟩ := he
          refine ⟨k2, ?_⟩
          intro i i1 i2
          rw [k3 i i1 i2, rGr_congr h hf hA ⟨i1, i2⟩ (tdR_ok hW), Wr_at (by omega) (by omega)]
        · obtain ⟨c1, c3⟩ := g3 w' x' a1 a2 a3 a4 a5 (by omega)
          refine ⟨by rw [k4 _ (by omega), c1], ?_⟩
          intro i i1 i2
          rw [← c3 i i1 i2]
          unfold bV
          rw [k6 _ (by omega)]
    · rw [if_neg hf, if_pos rfl, bBo_obey_52, w32_id (by omega)]
      refine gk M' ⟨g1, g2, ?_⟩ _
      intro w' x' a1 a2 a3 a4 a5 a6
      by_cases he : w' = w ∧ x' = x
      · obtain ⟨rfl, rfl⟩ := he; exact absurd a5 hf
      · exact g3 w' x' a1 a2 a3 a4 a5 (by omega)
  · rintro w M' w1 w2 ⟨g1, g2, g3⟩
    exact ⟨g1, g2, fun w' x' a1 a2 a3 a4 a5 a6 => g3 w' x' a1 a2 a3 a4 a5 (by omega)⟩
end
