/-! LAYER 3, THE ANSWER: the class -/
def wnS (R : RT) (s x k y : Int) : Int := if k < R 4 1 ∧ k ≠ s ∧ dg x k = 0 then bor y (pw k) else y
theorem wnS_eq {R : RT} {s x : Int} : wnS R s x 2 (wnS R s x 1 (wnS R s x 0 0)) = wnO R s x := by
  unfold wnS wnO wnO1
  repeat' split
  all_goals decide +kernel
theorem wnP_R {R : RT} {s p o : Int} (hs : 0 ≤ s ∧ s < 3) : 0 ≤ wnP R s p o ∧ wnP R s p o < 8 := by
  have h1 := wnO_R (R := R) (s := s) (p := p)
  have h2 := bit_wnO (R := R) (s := s) (p := p) hs
  rw [if_neg (by omega)] at h2
  unfold wnP
  split
  · rcases (by omega : s = 0 ∨ s = 1 ∨ s = 2) with rfl | rfl | rfl
    · rw [show pw 0 = 1 from rfl]
      have h2 : wnO R 0 p % 2 = 0 := h2
      omega
    · rw [show pw 1 = 2 from rfl]
      have h2 : wnO R 1 p / 2 % 2 = 0 := h2
      omega
    · rw [show pw 2 = 4 from rfl]
      have h2 : wnO R 2 p / 4 % 2 = 0 := h2
      omega
  · omega
theorem le0_ofI {z : Int} (h : 0 ≤ z ∧ z ≤ 9000000000000000000) : cmp64 (Int64.ofInt z) 0 ≤ 0 ↔ z = 0 := by
  rw [cmp64_le, ofI_pos h]; omega
section
variable {d : Nat} {Q : AV → Mem → Prop} {X : Nat → Mem → Prop}
theorem c_winnersIn {M : Mem} {R : RT} {s x : Int} (hR : rd M 0 = R) (hn : 1 ≤ R 4 1 ∧ R 4 1 ≤ 3) (h5 : M.1 7 0 5 = s) (hx : 0 ≤ x ∧ x < 125) : Call (d + 2) qUn_winnersIn [vr 7 0, vi x] M Q X = Q (vi (wnO R s x)) M := by
  refine Call_eq (fun Q X hq => ?_) Q X
  have e41 : M.1 4 0 1 = R 4 1 := by rw [← hR]; rfl
  rw [eUn_winnersIn, bUn_winnersIn_0]
  refine loopN (R 4 1) (by omega) (fun k (y : Int) => At (d + 1) kUn_winnersIn 4 [vr 7 0, vi x, vi y, vi k] [] M Q X) (fun k y => wnS R s x k y) ?_ ?_ 0 ?_
  · intro k y k0 k1 hk
    rw [bUn_winnersIn_4, e41, if_neg (by omega), bUn_winnersIn_9, if_neg (by omega), bUn_winnersIn_12, h5]
    unfold wnS at hk
    by_cases hks : k = s
    · rw [if_neg (fun z => z.2.1 hks)] at hk
      rw [if_pos hks, bUn_winnersIn_26, w32_id (by omega)]; exact hk
    · rw [if_neg hks, bUn_winnersIn_16, c_stepsIn (by omega), KV_eq, bUn_winnersIn_19]
      by_cases hd : dg x k = 0
      · rw [if_pos ⟨k1, hks, hd⟩] at hk
        rw [if_neg (by omega), bUn_winnersIn_20, bUn_winnersIn_26, w32_id (by omega), bshl_pw (by omega)]; exact hk
      · rw [if_neg (fun z => hd z.2.2)] at hk
        rw [if_pos hd, bUn_winnersIn_26, w32_id (by omega)]; exact hk
  · intro k y k0 k1
    unfold wnS
    rw [if_neg (fun z => by omega)]
  · rw [bUn_winnersIn_4, e41, if_pos (by omega), bUn_winnersIn_28, wnS_eq]
    exact hq
/-- what stands while an answer is looked for -/
def UC (R : RT) (s dd : Int) (M : Mem) : Prop := rd M 0 = R ∧ M.1 7 0 5 = s ∧ ∀ i : Int, 0 ≤ i → i < 3 → M.1 43 0 i.toNat = chO R s dd i
theorem UC.fs {R s dd M M' P} (h : UC R s dd M) (hf : Fs P M M') (hp : ∀ t i j, P t i j → t = 42 ∨ t = 44 ∨ t = 45) : UC R s dd M' := by
  obtain ⟨h1, h2, h3⟩ := h
  refine ⟨(rd_fs hf (fun t j ht z => by have := hp _ _ _ z; omega)).trans h1, (hf.g1 7 0 5 (fun z => by have := hp _ _ _ z; omega)).trans h2, fun i i0 i3 => (hf.g1 43 0 _ (fun z => by have := hp _ _ _ z; omega)).trans (h3 i i0 i3)⟩
def spF (R : RT) (s dd m : Int) (k : Int) (y : Int64 × Int) : Int64 × Int := (y.1 * Int64.ofInt (wO1 R s dd m k), if k = s ∨ R 4 1 ≤ k then y.2 else w32 (y.2 - if bit m k = 1 then su k else 0))
theorem c_part {M : Mem} {R : RT} {s dd l p m z3 fp : Int} {z9 : AV} (hU : UC R s dd M) (h : WR R) (hs : 0 ≤ s ∧ s < R 4 1) (hdd : 0 ≤ dd ∧ dd < 5) (hm : 0 ≤ m ∧ m < pw (R 4 1))
    (hq : ∀ z9 : AV, At (d + 1) kUn_spreadFrom 82 [vr 7 0, vi l, vi p, vi z3, vi m, vl (spF R s dd m 2 (spF R s dd m 1 (spF R s dd m 0 (Int64.ofInt fp, p)))).1, JK, vi (spF R s dd m 2 (spF R s dd m 1 (spF R s dd m 0 (Int64.ofInt fp, p)))).2, vi (R 4 1), z9] [] M Q X) : At (d + 1) kUn_spreadFrom 24 [vr 7 0, vi l, vi p, vi z3, vi m, vl (Int64.ofInt fp), JK, vi p, vi 0, z9] [] M Q X := by
  obtain ⟨hR, h5, h43⟩ := hU
  have hb := h.b
  have e41 : M.1 4 0 1 = R 4 1 := by rw [← hR]; rfl
  have hpw := pw_n (n := R 4 1) (by omega)
  refine loopN (R 4 1) (by omega) (fun k (y : Int64 × Int) => ∀ z9, At (d + 1) kUn_spreadFrom 24 [vr 7 0, vi l, vi p, vi z3, vi m, vl y.1, JK, vi y.2, vi k, z9] [] M Q X) (fun k y => spF R s dd m k y) ?_ ?_ (Int64.ofInt fp, p) ?_ z9
  · intro k y k0 k1 hk z9
    have hbk := bit_R m k
    have hck := chO_R h (s := s) (d := dd) (i := k) hdd (by omega)
    have h43k := h43 k k0 (by omega)
    rw [bUn_spreadFrom_24, e41, if_neg (by omega), bUn_spreadFrom_29, if_neg (by omega), bUn_spreadFrom_32, band_bit (by omega) (by omega)]
    by_cases hks : k = s
    · have fin : ∀ v : Int64, v = y.1 * Int64.ofInt (wO1 R s dd m k) → ∀ z9, At (d + 1) kUn_spreadFrom 80 [vr 7 0, vi l, vi p, vi z3, vi m, vl v, JK, vi y.2, vi k, z9] [] M Q X := by
        intro v hv z9
        rw [bUn_spreadFrom_80, w32_id (by omega)]
        have := hk z9
        unfold spF at this
        rw [if_pos (Or.inl hks)] at this
        rw [hv]; exact this
      by_cases h1 : bit m k = 1
      · rw [if_neg (by omega), bUn_spreadFrom_39, bUn_spreadFrom_42, h5, if_pos hks, bUn_spreadFrom_76, if_neg (by omega), bUn_spreadFrom_78]
        refine fin _ ?_ _
        unfold wO1
        rw [if_pos k1, if_pos hks, if_pos h1]
        show (0 : Int64) = y.1 * 0
        grind
      · rw [if_pos h1, bUn_spreadFrom_41, bUn_spreadFrom_42, h5, if_pos hks, bUn_spreadFrom_76, if_pos rfl]
        refine fin _ ?_ _
        unfold wO1
        rw [if_pos k1, if_pos hks, if_neg h1]
        show y.1 = y.1 * 1
        grind
    · have fin : ∀ (v : Int64) (u : Int), v = Int64.ofInt (wO1 R s dd m k) → u = (if bit m k = 1 then su k else 0) → ∀ z9, At (d + 1) kUn_spreadFrom 73 [vr 7 0, vi l, vi p, vi z3, vi m, vl (y.1 * v), JK, vi y.2, vi k, z9] [vi u, vi y.2] M Q X := by
        intro v u hv hu z9
        rw [bUn_spreadFrom_73, bUn_spreadFrom_80, w32_id (z := k + 1) (by omega)]
        have := hk z9
        unfold spF at this
        rw [if_neg (by omega)] at this
        rw [hv, hu]; exact this
      by_cases h1 : bit m k = 1
      · rw [if_neg (by omega), bUn_spreadFrom_39, bUn_spreadFrom_42, h5, if_neg hks, bUn_spreadFrom_47, if_neg (by omega), bUn_spreadFrom_50 (by omega), bUn_spreadFrom_63, if_neg (by omega), bUn_spreadFrom_68 (by omega), h43k, ro_su (by omega)]
        refine fin _ _ ?_ ?_ _
        · unfold wO1; rw [if_pos k1, if_neg hks, if_pos h1]
        · rw [if_pos h1]
      · rw [if_pos h1, bUn_spreadFrom_41, bUn_spreadFrom_42, h5, if_neg hks, bUn_spreadFrom_47, if_pos rfl, bUn_spreadFrom_56 (by omega), bUn_spreadFrom_63, if_pos rfl, bUn_spreadFrom_72, h43k, w32_id (z := 4 - chO R s dd k) (by omega)]
        refine fin _ _ ?_ ?_ _
        · unfold wO1; rw [if_pos k1, if_neg hks, if_neg h1]
        · rw [if_neg h1]
  · intro k y k0 k1
    unfold spF wO1
    rw [if_neg (by omega), if_pos (Or.inr k0), show Int64.ofInt 1 = 1 from rfl, Int64.mul_one]
  · intro z9
    rw [bUn_spreadFrom_24, e41, if_pos (by omega)]
    exact hq z9
theorem spF_1 {R : RT} {s dd m fp p : Int} : (spF R s dd m 2 (spF R s dd m 1 (spF R s dd m 0 (Int64.ofInt fp, p)))).1 = Int64.ofInt (fp * wO R s dd m) := by
  unfold spF wO
  rw [← Int64.ofInt_mul, ← Int64.ofInt_mul, ← Int64.ofInt_mul]
  congr 1
  grind
theorem spF_2 {R : RT} (hn : 1 ≤ R 4 1 ∧ R 4 1 ≤ 3) {s dd m fp p : Int} (hs : 0 ≤ s ∧ s < R 4 1) (hp : 0 ≤ p ∧ p < 125) (hm : 0 ≤ m ∧ m < pw (R 4 1)) (hb : bit m s = 0) : (spF R s dd m 2 (spF R s dd m 1 (spF R s dd m 0 (Int64.ofInt fp, p)))).2 = ct p m := by
  have k : ∀ (j a : Int), 0 ≤ j → j < 3 → -1000 ≤ a → a ≤ 1000 → (if j = s ∨ R 4 1 ≤ j then a else w32 (a - if bit m j = 1 then su j else 0)) = a - bit m j * su j := fun j a j0 j3 a0 a1 => by
    have hbj := bit_R m j
    have hsu : 0 ≤ su j ∧ su j ≤ 25 := by unfold su; repeat' split
                                          all_goals omega
    by_cases hj : j = s ∨ R 4 1 ≤ j
    · have : bit m j = 0 := by
        rcases hj with z | z
        · rw [z]; exact hb
        · exact bit_ltn hn hm ⟨z, j3⟩
      rw [if_pos hj, this]; omega
    · rw [if_neg hj]
      by_cases h1 : bit m j = 1
      · rw [if_pos h1, h1, w32_id (by omega)]; omega
      · rw [if_neg h1, show bit m j = 0 by omega, w32_id (by omega)]; omega
  have b0 := bit_R m 0
  have b1 := bit_R m 1
  have b2 := bit_R m 2
  show (if (2 : Int) = s ∨ R 4 1 ≤ 2 then (if (1 : Int) = s ∨ R 4 1 ≤ 1 then (if (0 : Int) = s ∨ R 4 1 ≤ 0 then p else w32 (p - if bit m 0 = 1 then su 0 else 0)) else w32 ((if (0 : Int) = s ∨ R 4 1 ≤ 0 then p else w32 (p - if bit m 0 = 1 then su 0 else 0)) - if bit m 1 = 1 then su 1 else 0)) else w32 ((if (1 : Int) = s ∨ R 4 1 ≤ 1 then (if (0 : Int) = s ∨ R 4 1 ≤ 0 then p else w32 (p - if bit m 0 = 1 then su 0 else 0)) else w32 ((if (0 : Int) = s ∨ R 4 1 ≤ 0 then p else w32 (p - if bit m 0 = 1 then su 0 else 0)) - if bit m 1 = 1 then su 1 else 0)) - if bit m 2 = 1 then su 2 else 0)) = ct p m
  rw [k 0 p (by omega) (by omega) (by omega) (by omega)]
  have u0 : su 0 = 1 := rfl
  have u1 : su 1 = 5 := rfl
  have u2 : su 2 = 25 := rfl
  rw [u0]
  rw [k 1 _ (by omega) (by omega) (by omega) (by omega), u1]
  rw [k 2 _ (by omega) (by omega) (by omega) (by omega), u2]
  unfold ct
  omega
abbrev pCw (lo : Int) (t i j : Nat) : Prop := t = 42 ∧ i = 0 ∧ lo * 125 ≤ (j : Int) ∧ (j : Int) < lo * 125 + 125
theorem c_spreadFrom {M : Mem} {R : RT} {s dd l p fp : Int} {g : Int → Int} (hU : UC R s dd M) (h : WR R) (hs : 0 ≤ s ∧ s < R 4 1) (hdd : 0 ≤ dd ∧ dd < 5) (hl : 1 ≤ l ∧ l ≤ 6) (hP : Pl R s p) (hw : wnO R s p = 0) (hfp : 0 ≤ fp ∧ fp ≤ 16777216)
    (hm : M.2 42 0 (l * 125 + p).toNat = Int64.ofInt fp) (hg : ∀ y : Int, 0 ≤ y → y < 125 → M.2 42 0 ((l - 1) * 125 + y).toNat = Int64.ofInt (g y))
    (hq : ∀ M', Fs (pCw (l - 1)) M M' → (∀ y : Int, 0 ≤ y → y < 125 → M'.2 42 0 ((l - 1) * 125 + y).toNat = Int64.ofInt (g y + sumN (fun m => if ct p m = y then fp * wO R s dd m else 0) (pw (R 4 1)).toNat)) → Q (vi 0) M') : Call (d + 2) qUn_spreadFrom [vr 7 0, vi l, vi p] M Q X := by
  have hb := h.b
  have hpw := pw_n (n := R 4 1) (by omega)
  have hp := hP.1
  have e41 : M.1 4 0 1 = R 4 1 := by rw [← hU.1]; rfl
  have ei : w32 (w32 (l * 125) + p) = l * 125 + p := by rw [w32_id (z := l * 125) (by omega), w32_id (by omega)]
  rw [eUn_spreadFrom, bUn_spreadFrom_0, e41, bshl_pw (by omega)]
  refine loop_up (fun (m : Int) (A : Mem × AV × AV × AV × AV × AV) => At (d + 1) kUn_spreadFrom 8 [vr 7 0, vi l, vi p, vi (pw (R 4 1)), vi m, A.2.1, A.2.2.1, A.2.2.2.1, A.2.2.2.2.1, A.2.2.2.2.2] [] A.1 Q X) (fun (m : Int) (A : Mem × AV × AV × AV × AV × AV) => Fs (pCw (l - 1)) M A.1 ∧ ∀ y : Int, 0 ≤ y → y < 125 → A.1.2 42 0 ((l - 1) * 125 + y).toNat = Int64.ofInt (g y + sumN (fun m => if ct p m = y then fp * wO R s dd m else 0) m.toNat)) 0 (pw (R 4 1)) ?_ ?_ 0 (M, _, _, _, _, _) (by omega) (by omega) ⟨Fs.rf, fun y y0 y1 => ?_⟩
  · rintro ⟨M1, z5, z6, z7, z8, z9⟩ ⟨f1, g1⟩
    show At _ _ _ _ _ _ _ _
    rw [bUn_spreadFrom_8, if_pos (by omega), bUn_spreadFrom_102]
    exact hq M1 f1 g1
  · rintro m ⟨M1, z5, z6, z7, z8, z9⟩ m0 m1 ⟨f1, g1⟩ ih
    have hU1 : UC R s dd M1 := hU.fs f1 (fun t i j z => Or.inl z.1)
    have hm1 : M1.2 42 0 (l * 125 + p).toNat = Int64.ofInt fp := (f1.g2 42 0 _ (fun z => by omega)).trans hm
    have hwR := wO_R h (s := s) (m := m) hdd
    show At _ _ _ _ _ _ _ _
    rw [bUn_spreadFrom_8, if_neg (by omega), bUn_spreadFrom_11 (by rw [ei]; omega), ei, hm1]
    refine c_part hU1 h hs hdd ⟨m0, m1⟩ ?_
    intro z9
    rw [spF_1]
    have hbd : 0 ≤ fp * wO R s dd m ∧ fp * wO R s dd m ≤ 9000000000000000000 := by
      have a := Int.mul_nonneg hfp.1 hwR.1
      have b : fp * wO R s dd m ≤ 16777216 * 64 := Int.mul_le_mul hfp.2 hwR.2 hwR.1 (by omega)
      omega
    have hss : ∀ y : Int, sumN (fun m => if ct p m = y then fp * wO R s dd m else 0) (m + 1).toNat = sumN (fun m => if ct p m = y then fp * wO R s dd m else 0) m.toNat + (if ct p m = y then fp * wO R s dd m else 0) := fun y => sumN_s m0
    rw [bUn_spreadFrom_82]
    by_cases hz : fp * wO R s dd m = 0
    · rw [if_pos ((le0_ofI hbd).mpr hz), bUn_spreadFrom_100, w32_id (by omega)]
      refine ih (M1, _, _, _, _, _) ⟨f1, fun y y0 y1 => ?_⟩
      show M1.2 42 0 _ = _
      rw [g1 y y0 y1, hss, hz]
      congr 1
      split <;> omega
    · have hwz : wO R s dd m ≠ 0 := fun z => hz (by rw [z, Int.mul_zero])
      have hc := (hP.ctP (by omega) hs ⟨m0, m1⟩ hw hwz).1
      have hbit := (wO_le (by omega) hs ⟨m0, m1⟩ hw hwz).2
      have e2 := spF_2 (R := R) (by omega) (s := s) (dd := dd) (m := m) (fp := fp) (p := p) hs hp ⟨m0, m1⟩ hbit
      have ej : w32 (w32 (w32 (l - 1) * 125) + ct p m) = (l - 1) * 125 + ct p m := by rw [w32_id (z := l - 1) (by omega), w32_id (z := (l - 1) * 125) (by omega), w32_id (by omega)]
      rw [if_neg (fun z => hz ((le0_ofI hbd).mp z)), e2, bUn_spreadFrom_86 (by rw [ej]; omega), ej, bUn_spreadFrom_100, w32_id (by omega), g1 _ hc.1 hc.2, ← Int64.ofInt_add]
      refine ih (_, _, _, _, _, _) ⟨f1.sL (by omega), fun y y0 y1 => ?_⟩
      show (sL M1 _ _ _ _).2 42 0 _ = _
      rw [sL2, hss]
      by_cases hy : ct p m = y
      · rw [if_pos (by rw [hy]; exact ⟨rfl, rfl, rfl⟩), if_pos hy, hy]
        congr 1
        omega
      · rw [if_neg (by omega), if_neg hy, g1 y y0 y1]
        congr 1
        omega
  · show M.2 42 0 _ = _
    rw [hg y y0 y1]
    congr 1
    show g y = g y + 0
    omega
/-- the crowd by weeks -/
def Crd (R : RT) (s dd : Int) (l : Int) (M : Mem) : Prop := ∀ l' y : Int, 0 ≤ l' → l' ≤ R 4 2 → 0 ≤ y → y < 125 → M.2 42 0 (l' * 125 + y).toNat = if l ≤ l' then Int64.ofInt (mO R s dd (R 4 2 - l').toNat y) else 0
theorem c_spreadCrowd {M : Mem} {R : RT} {s dd : Int} (hU : UC R s dd M) (h : WR R) (hs : 0 ≤ s ∧ s < R 4 1) (hdd : 0 ≤ dd ∧ dd < 5)
    (hq : ∀ M', Fs (fun t i _ => t = 42 ∧ i = 0) M M' → Crd R s dd 0 M' → Q (vi 0) M') : Call (d + 4) qUn_spreadCrowd [vr 7 0] M Q X := by
  have hb := h.b
  have hsp := h.stp s (by omega)
  have hpw := pw_n (n := R 4 1) (by omega)
  have hbg : 0 ≤ bgn R ∧ bgn R < 125 := bgo_R h (R 4 1)
  have hst := (stU_Pl h (s := s) (by omega)).1.1
  rw [eUn_spreadCrowd, bUn_spreadCrowd_0]
  refine loop_up (fun (x : Int) (M1 : Mem) => At (d + 3) kUn_spreadCrowd 2 [vr 7 0, vi x, JK, JK] [] M1 Q X) (fun (x : Int) (M1 : Mem) => Fs (fun t i _ => t = 42 ∧ i = 0) M M1 ∧ ∀ j : Nat, (j : Int) < x → M1.2 42 0 j = 0) 0 875 ?_ ?_ 0 M (by omega) (by omega) ⟨Fs.rf, fun j hj => by omega⟩
  · rintro M1 ⟨f1, g1⟩
    have hU1 := hU.fs f1 (fun t i j z => Or.inl z.1)
    have e5 : M1.1 7 0 5 = s := hU1.2.1
    have e42 : M1.1 4 0 2 = R 4 2 := by rw [← hU1.1]; rfl
    have e33 : M1.1 33 0 s.toNat = stp R s := by rw [← hU1.1]; rfl
    have hsu : su s = 1 ∨ su s = 5 ∨ su s = 25 := by unfold su; repeat' split
                                                     all_goals simp
    have eu : w32 (stp R s * su s) = stp R s * su s := by rcases hsu with q | q | q <;> rw [q] <;> exact w32_id (by omega)
    have eu2 : w32 (bgn R - stp R s * su s) = stU R s := by
      unfold stU
      rcases hsu with q | q | q <;> rw [q] <;> exact w32_id (by omega)
    have ew : w32 (w32 (R 4 2 * 125) + stU R s) = R 4 2 * 125 + stU R s := by rw [w32_id (z := R 4 2 * 125) (by omega), w32_id (by omega)]
    show At _ _ _ _ _ _ _ _
    rw [bUn_spreadCrowd_2, if_pos (by omega), bUn_spreadCrowd_14, c_beginning (by rw [hU1.1]; exact h), KV_eq, hU1.1, bUn_spreadCrowd_17 (by rw [e5, e33, e42, ro_su (by omega), eu, eu2, ew]; omega), e5, e33, e42, ro_su (by omega), eu, eu2, ew, show (sL M1 42 0 (R 4 2 * 125 + stU R s).toNat 1).1 4 0 2 = R 4 2 from e42]
    refine loop_dn (fun (l : Int) (A : Mem × AV × AV) => At (d + 3) kUn_spreadCrowd 45 [vr 7 0, A.2.1, vi l, A.2.2] [] A.1 Q X) (fun (l : Int) (A : Mem × AV × AV) => Fs (fun t i _ => t = 42 ∧ i = 0) M A.1 ∧ Crd R s dd l A.1) 0 (R 4 2) ?_ ?_ (R 4 2) (_, _, _) (by omega) (by omega) ⟨f1.sL ⟨rfl, rfl⟩, ?_⟩
    · rintro ⟨M2, z1, z3⟩ ⟨f2, g2⟩
      show At _ _ _ _ _ _ _ _
      rw [bUn_spreadCrowd_45, if_pos (by omega), bUn_spreadCrowd_76]
      exact hq M2 f2 g2
    · rintro l ⟨M2, z1, z3⟩ l0 l1 ⟨f2, g2⟩ ih
      show At _ _ _ _ _ _ _ _
      rw [bUn_spreadCrowd_45, if_neg (by omega), bUn_spreadCrowd_48]
      have ek : (R 4 2 - (l - 1)).toNat = (R 4 2 - l).toNat + 1 := by omega
      refine loop_up (fun (c : Int) (M3 : Mem) => At (d + 3) kUn_spreadCrowd 50 [vr 7 0, z1, vi l, vi c] [] M3 Q X) (fun (c : Int) (M3 : Mem) => Fs (pCw (l - 1)) M2 M3 ∧ ∀ y : Int, 0 ≤ y → y < 125 → M3.2 42 0 ((l - 1) * 125 + y).toNat = Int64.ofInt (sumN (fun p => gvO R s dd (mO R s dd (R 4 2 - l).toNat) p y) c.toNat)) 0 125 ?_ ?_ 0 M2 (by omega) (by omega) ⟨Fs.rf, fun y y0 y1 => ?_⟩
      · rintro M3 ⟨f3, g3⟩
        show At _ _ _ _ _ _ _ _
        rw [bUn_spreadCrowd_50, if_pos (by omega), bUn_spreadCrowd_74, show l + -1 = l - 1 by omega, w32_id (by omega)]
        refine ih (M3, _, _) ⟨f2.tr (f3.mono (fun t i j z => ⟨z.1, z.2.1⟩)), fun l' y a b c e => ?_⟩
        show M3.2 42 0 _ = _
        by_cases hl' : l' = l - 1
        · subst hl'
          rw [g3 y c e, if_pos (by omega), ek, mO_s]
          rfl
        · rw [f3.g2 42 0 _ (fun z => by omega), g2 l' y a b c e]
          by_cases hge : l ≤ l'
          · rw [if_pos hge, if_pos (by omega)]
          · rw [if_neg hge, if_neg (by omega)]
      · rintro c M3 c0 c1 ⟨f3, g3⟩ ih3
        have hU3 : UC R s dd M3 := (hU.fs f2 (fun t i j z => Or.inl z.1)).fs f3 (fun t i j z => Or.inl z.1)
        have ec : w32 (w32 (l * 125) + c) = l * 125 + c := by rw [w32_id (z := l * 125) (by omega), w32_id (by omega)]
        have hcell : M3.2 42 0 (l * 125 + c).toNat = Int64.ofInt (mO R s dd (R 4 2 - l).toNat c) := by
          rw [f3.g2 42 0 _ (fun z => by omega), g2 l c (by omega) (by omega) c0 c1, if_pos (by omega)]
        have hmb := mO_b h hs hdd (k := (R 4 2 - l).toNat) (by omega) (y := c) ⟨c0, c1⟩
        have hss : ∀ y : Int, sumN (fun p => gvO R s dd (mO R s dd (R 4 2 - l).toNat) p y) (c + 1).toNat = sumN (fun p => gvO R s dd (mO R s dd (R 4 2 - l).toNat) p y) c.toNat + gvO R s dd (mO R s dd (R 4 2 - l).toNat) c y := fun y => sumN_s c0
        have skip : (∀ y : Int, gvO R s dd (mO R s dd (R 4 2 - l).toNat) c y = 0) → At (d + 3) kUn_spreadCrowd 72 [vr 7 0, z1, vi l, vi c] [] M3 Q X := by
          intro hz
          rw [bUn_spreadCrowd_72, w32_id (by omega)]
          refine ih3 M3 ⟨f3, fun y y0 y1 => ?_⟩
          rw [g3 y y0 y1, hss, hz, Int.add_zero]
        show At _ _ _ _ _ _ _ _
        rw [bUn_spreadCrowd_50, if_neg (by omega), bUn_spreadCrowd_53 (by rw [ec]; omega), ec, hcell]
        by_cases hm0 : mO R s dd (R 4 2 - l).toNat c = 0
        · rw [if_pos ((le0_ofI (by omega)).mpr hm0)]
          refine skip (fun y => ?_)
          unfold gvO
          split
          · exact sumN_z _ (fun m _ _ => by rw [hm0, Int.zero_mul]; split <;> rfl)
          · rfl
        · rw [if_neg (fun z => hm0 ((le0_ofI (by omega)).mp z)), bUn_spreadCrowd_64, c_winnersIn hU3.1 (by omega) hU3.2.1 ⟨c0, c1⟩, KV_eq, bUn_spreadCrowd_67]
          by_cases hw : wnO R s c = 0
          · rw [if_neg (by omega), bUn_spreadCrowd_68]
            refine c_spreadFrom (d := d + 1) hU3 h hs hdd (by omega) (mO_Pl h hs _ c hm0) hw (by omega) hcell g3 ?_
            intro M4 f4 g4
            rw [KU_eq, bUn_spreadCrowd_72, w32_id (by omega)]
            refine ih3 M4 ⟨f3.tr f4, fun y y0 y1 => ?_⟩
            rw [g4 y y0 y1, hss]
            congr 2
            unfold gvO
            rw [if_pos hw]
          · rw [if_pos hw]
            refine skip (fun y => ?_)
            unfold gvO
            rw [if_neg hw]
      · rw [g2 (l - 1) y (by omega) (by omega) y0 y1, if_neg (by omega)]; rfl
    · intro l' y a b c e
      show (sL M1 _ _ _ _).2 42 0 _ = _
      rw [sL2]
      by_cases hl' : l' = R 4 2
      · rw [if_pos (show R 4 2 ≤ l' by omega), hl', show (R 4 2 - R 4 2).toNat = 0 by omega]
        show _ = Int64.ofInt (if y = stU R s then 1 else 0)
        by_cases hy : y = stU R s
        · rw [if_pos (by rw [hy]; exact ⟨rfl, rfl, rfl⟩), if_pos hy]; rfl
        · rw [if_neg (by omega), if_neg hy, g1 _ (by omega)]; rfl
      · rw [if_neg (by omega), if_neg (by omega), g1 _ (by omega)]
  · rintro x M1 x0 x1 ⟨f1, g1⟩ ih
    show At _ _ _ _ _ _ _ _
    rw [bUn_spreadCrowd_2, if_neg (by omega), bUn_spreadCrowd_7 (by omega), w32_id (by omega)]
    refine ih _ ⟨f1.sL ⟨rfl, rfl⟩, fun j hj => ?_⟩
    rw [sL2]
    split
    · rfl
    · next z => exact g1 j (by omega)
theorem c_paidAfter {M : Mem} {R : RT} {s dd l o : Int} (hU : UC R s dd M) (h : WR R) (hs : 0 ≤ s ∧ s < R 4 1) (hdd : 0 ≤ dd ∧ dd < 5) (hl : 0 ≤ l ∧ l ≤ R 4 2) (ho : 0 ≤ o ∧ o ≤ 4) (hc : Crd R s dd 0 M) : Call (d + 3) qUn_paidAfter [vr 7 0, vi l, vi o] M Q X = Q (vl (Int64.ofInt (pdO R s dd (R 4 2 - l).toNat o) * sc (R 4 1) l)) M := by
  refine Call_eq (fun Q X hq => ?_) Q X
  have hb := h.b
  have hU' := hU
  obtain ⟨hR, h5, -⟩ := hU'
  have e41 : rd M 0 4 1 = R 4 1 := by rw [hR]
  have hsu : su s = 1 ∨ su s = 5 ∨ su s = 25 := by unfold su; repeat' split
                                                   all_goals simp
  have hbit : ∀ c : Int, bit (wnO R s c) s = 0 := fun c => by rw [bit_wnO (by omega), if_neg (by omega)]
  have hbor : ∀ c : Int, bor (wnO R s c) (if o = 0 then pw s else 0) = wnP R s c o := fun c => by
    unfold wnP
    by_cases z : o = 0
    · rw [if_pos z, bor_pw wnO_R (by omega) (hbit c)]
    · rw [if_neg z, bor_0 wnO_R]; omega
  have go : At (d + 2) kUn_paidAfter 10 [vr 7 0, vi l, vi o, vl 0, JK, JK, JK, JK, JK, JK] [vi (if o = 0 then pw s else 0)] M Q X := by
    rw [bUn_paidAfter_10]
    refine loop_up (fun (c : Int) (A : Int64 × AV × AV × AV) => At (d + 2) kUn_paidAfter 13 [vr 7 0, vi l, vi o, vl A.1, JK, vi (if o = 0 then pw s else 0), vi c, A.2.1, A.2.2.1, A.2.2.2] [] M Q X) (fun (c : Int) (A : Int64 × AV × AV × AV) => A.1 = Int64.ofInt (sumN (fun y => mO R s dd (R 4 2 - l).toNat y * eO R s o y) c.toNat)) 0 125 ?_ ?_ 0 (_, _, _, _) (by omega) (by omega) rfl
    · rintro ⟨y3, z7, z8, z9⟩ hy
      have hy : y3 = Int64.ofInt (sumN (fun y => mO R s dd (R 4 2 - l).toNat y * eO R s o y) 125) := hy
      show At _ _ _ _ _ _ _ _
      rw [bUn_paidAfter_13, if_pos (by omega), bUn_paidAfter_59, c_scale (by omega) (by rw [e41]; omega), KV_eq, bUn_paidAfter_64, e41, hy]
      exact hq
    · rintro c ⟨y3, z7, z8, z9⟩ c0 c1 hy ih
      have hy : y3 = Int64.ofInt (sumN (fun y => mO R s dd (R 4 2 - l).toNat y * eO R s o y) c.toNat) := hy
      have ec : w32 (w32 (l * 125) + c) = l * 125 + c := by rw [w32_id (z := l * 125) (by omega), w32_id (by omega)]
      have hcell : M.2 42 0 (l * 125 + c).toNat = Int64.ofInt (mO R s dd (R 4 2 - l).toNat c) := by
        rw [hc l c (by omega) (by omega) c0 c1, if_pos hl.1]
      have hmb := mO_b h hs hdd (k := (R 4 2 - l).toNat) (by omega) (y := c) ⟨c0, c1⟩
      have hss : sumN (fun y => mO R s dd (R 4 2 - l).toNat y * eO R s o y) (c + 1).toNat = sumN (fun y => mO R s dd (R 4 2 - l).toNat y * eO R s o y) c.toNat + mO R s dd (R 4 2 - l).toNat c * eO R s o c := sumN_s c0
      have fin : ∀ (v : Int64) (z7 z8 z9 : AV), v = y3 + Int64.ofInt (mO R s dd (R 4 2 - l).toNat c * eO R s o c) → At (d + 2) kUn_paidAfter 57 [vr 7 0, vi l, vi o, vl v, JK, vi (if o = 0 then pw s else 0), vi c, z7, z8, z9] [] M Q X := by
        intro v z7 z8 z9 hv
        rw [bUn_paidAfter_57, w32_id (by omega)]
        refine ih (v, _, _, _) ?_
        show v = _
        rw [hv, hy, hss, Int64.ofInt_add]
      show At _ _ _ _ _ _ _ _
      rw [bUn_paidAfter_13, if_neg (by omega), bUn_paidAfter_16, c_winnersIn hR (by omega) h5 ⟨c0, c1⟩, KV_eq, bUn_paidAfter_19 (by rw [ec]; omega), ec, hcell, hbor]
      by_cases hm0 : mO R s dd (R 4 2 - l).toNat c = 0
      · rw [if_pos ((le0_ofI (by omega)).mpr hm0)]
        refine fin _ _ _ _ ?_
        rw [hm0, Int.zero_mul]
        show y3 = y3 + 0
        grind
      · rw [if_neg (fun z => hm0 ((le0_ofI (by omega)).mp z)), bUn_paidAfter_35]
        by_cases hw : wnP R s c o = 0
        · rw [if_pos hw]
          refine fin _ _ _ _ ?_
          unfold eO
          rw [if_pos hw, Int.mul_zero]
          show y3 = y3 + 0
          grind
        · have eu : w32 (o * su s) = o * su s := by rcases hsu with q | q | q <;> rw [q] <;> exact w32_id (by omega)
          have eu2 : w32 (c + o * su s) = c + o * su s := by rcases hsu with q | q | q <;> rw [q] <;> exact w32_id (by omega)
          have eu3 : 0 ≤ c + o * su s ∧ c + o * su s ≤ 100000 := by rcases hsu with q | q | q <;> rw [q] <;> omega
          rw [if_neg hw, bUn_paidAfter_37 (by rw [h5]; omega), h5, ro_su (by omega), eu, eu2, c_partOf (by rw [hR]; exact h) (by omega) (wnP_R (by omega)) eu3, KV_eq, bUn_paidAfter_53, hR]
          refine fin _ _ _ _ ?_
          unfold eO
          rw [if_neg hw, Int64.ofInt_mul]
  rw [eUn_paidAfter, bUn_paidAfter_0]
  by_cases z : o = 0
  · rw [if_pos z] at go
    rw [if_neg (by omega), bUn_paidAfter_4, h5, bshl_pw (by omega)]; exact go
  · rw [if_neg z] at go
    rw [if_pos z, bUn_paidAfter_9]; exact go
theorem c_findBests {M : Mem} {R : RT} {s dd l : Int} {pv : Int → Int64} (hU : UC R s dd M) (h : WR R) (hs : 0 ≤ s ∧ s < R 4 1) (hdd : 0 ≤ dd ∧ dd < 5) (hl : 1 ≤ l ∧ l ≤ R 4 2) (hc : Crd R s dd 0 M) (he : ∀ o : Int, 0 ≤ o → o ≤ stp R s → M.2 45 0 o.toNat = enV R s dd pv (l - 1) o)
    (hq : ∀ M', Fs (fun t i j => t = 44 ∧ i = 0 ∧ 1 ≤ j) M M' → (∀ o : Int, 1 ≤ o → o ≤ stp R s → M'.2 44 0 o.toNat = mxe (blV R s dd pv l o) (pcs R s).toNat) → Q (vi 0) M') : Call (d + 3) qUn_findBests [vr 7 0, vi l] M Q X := by
  have hb := h.b
  have hsp := h.stp s (by omega)
  have hpc := h.pcs s (by omega)
  rw [eUn_findBests, bUn_findBests_0]
  refine loop_up (fun (c : Int) (y2 : Int64) => At (d + 2) kUn_findBests 4 [vr 7 0, vi l, vl y2, JK, vi c, JK, JK, JK, JK, JK, JK] [] M Q X) (fun (c : Int) (y2 : Int64) => y2 = Int64.ofInt (sumN (fun p => if wnO R s p = 0 then mO R s dd (R 4 2 - l).toNat p else 0) c.toNat)) 0 125 ?_ ?_ 0 0 (by omega) (by omega) rfl
  · intro y2 hy
    have hy : y2 = Int64.ofInt (goO R s dd (R 4 2 - l).toNat) := hy
    show At _ _ _ _ _ _ _ _
    rw [bUn_findBests_4, if_pos (by omega), bUn_findBests_24]
    refine loop_up (fun (o : Int) (A : Mem × AV × AV × AV × AV × AV × AV) => At (d + 2) kUn_findBests 26 [vr 7 0, vi l, vl y2, JK, vi o, A.2.1, A.2.2.1, A.2.2.2.1, A.2.2.2.2.1, A.2.2.2.2.2.1, A.2.2.2.2.2.2] [] A.1 Q X) (fun (o : Int) (A : Mem × AV × AV × AV × AV × AV × AV) => Fs (fun t i j => t = 44 ∧ i = 0 ∧ 1 ≤ j) M A.1 ∧ ∀ o' : Int, 1 ≤ o' → o' < o → A.1.2 44 0 o'.toNat = mxe (blV R s dd pv l o') (pcs R s).toNat) 1 (stp R s + 1) ?_ ?_ 1 (M, _, _, _, _, _, _) (by omega) (by omega) ⟨Fs.rf, fun o' a b => by omega⟩
    · rintro ⟨M1, z5, z6, z7, z8, z9, z10⟩ ⟨f1, g1⟩
      have hU1 : UC R s dd M1 := hU.fs f1 (fun t i j z => by omega)
      have e33 : M1.1 33 0 s.toNat = stp R s := by rw [← hU1.1]; rfl
      show At _ _ _ _ _ _ _ _
      rw [bUn_findBests_26 (by rw [hU1.2.1]; omega), hU1.2.1, e33, if_pos (by omega), bUn_findBests_106]
      exact hq M1 f1 (fun o a b => g1 o a (by omega))
    · rintro o ⟨M1, z5, z6, z7, z8, z9, z10⟩ o0 o1 ⟨f1, g1⟩ ih
      have hU1 : UC R s dd M1 := hU.fs f1 (fun t i j z => by omega)
      have e5 := hU1.2.1
      have hR := hU1.1
      have e33 : M1.1 33 0 s.toNat = stp R s := by rw [← hR]; rfl
      have e34 : M1.1 34 0 s.toNat = pcs R s := by rw [← hR]; rfl
      have e41 : rd M1 0 4 1 = R 4 1 := by rw [hR]
      have v0 : M1.2 45 0 o.toNat = enV R s dd pv (l - 1) o := (f1.g2 45 0 _ (by omega)).trans (he o (by omega) (by omega))
      have v1 : M1.2 45 0 (o - 1).toNat = enV R s dd pv (l - 1) (o - 1) := (f1.g2 45 0 _ (by omega)).trans (he (o - 1) (by omega) (by omega))
      have b0 : Int64.ofInt 4 * enV R s dd pv (l - 1) o = blV R s dd pv l o 0 := by
        unfold blV chA
        rw [if_pos rfl, cst_z h (by omega) (Or.inl rfl), of0, of4]
        grind
      show At _ _ _ _ _ _ _ _
      rw [bUn_findBests_26 (by rw [e5]; omega), e5, e33, if_neg (by omega), bUn_findBests_34 (by omega), v0, b0]
      refine loop_up (fun (e : Int) (A : Int64 × AV × AV × AV) => At (d + 2) kUn_findBests 43 [vr 7 0, vi l, vl y2, JK, vi o, vl A.1, JK, vi e, A.2.1, A.2.2.1, A.2.2.2] [] M1 Q X) (fun (e : Int) (A : Int64 × AV × AV × AV) => A.1 = mxe (blV R s dd pv l o) (e - 1).toNat) 1 (pcs R s + 1) ?_ ?_ 1 (_, _, _, _) (by omega) (by omega) rfl
      · rintro ⟨y5, z8, z9, z10⟩ hy5
        have hy5 : y5 = mxe (blV R s dd pv l o) (pcs R s + 1 - 1).toNat := hy5
        show At _ _ _ _ _ _ _ _
        rw [bUn_findBests_43 (by rw [e5]; omega), e5, e34, if_pos (by omega), bUn_findBests_99 (by omega), w32_id (by omega)]
        refine ih (_, _, _, _, _, _, _) ⟨f1.sL (by omega), fun o' a b => ?_⟩
        show (sL M1 _ _ _ _).2 _ _ _ = _
        by_cases z : o' = o
        · subst z
          rw [sL_eq, hy5, show pcs R s + 1 - 1 = pcs R s by omega]
        · rw [sL2, if_neg (by omega)]; exact g1 o' a (by omega)
      · rintro e ⟨y5, z8, z9, z10⟩ e0 e1 hy5 ih5
        have hy5 : y5 = mxe (blV R s dd pv l o) (e - 1).toNat := hy5
        have hch := h.chc s e (by omega) (by omega)
        have eo : w32 (o - 1) = o - 1 := w32_id (by omega)
        show At _ _ _ _ _ _ _ _
        rw [bUn_findBests_43 (by rw [e5]; omega), e5, e34, if_neg (by omega), bUn_findBests_51, e5, c_chanceOf (by omega) (by omega), KV_eq, hR, bUn_findBests_57 (by rw [eo]; omega), c_scale (by omega) (by rw [e41]; omega), KV_eq, e41, bUn_findBests_82, e5, c_costOf (by omega) (by omega), KV_eq, hR, bUn_findBests_89, c_maxJ, KV_eq, bUn_findBests_96, w32_id (z := e + 1) (by omega)]
        refine ih5 (_, _, _, _) ?_
        show (if y5 < _ then _ else y5) = _
        have hen : (e + 1 - 1).toNat = (e - 1).toNat + 1 := by omega
        have hec : (((e - 1).toNat + 1 : Nat) : Int) = e := by omega
        rw [hen]
        show _ = mxJ (mxe (blV R s dd pv l o) (e - 1).toNat) (blV R s dd pv l o (((e - 1).toNat + 1 : Nat) : Int))
        rw [hec, hy5]
        have hval : (Int64.ofInt (w32 (4 - chc R s e)) * M1.2 45 0 o.toNat + Int64.ofInt (chc R s e) * M1.2 45 0 (w32 (o - 1)).toNat) - y2 * sc (R 4 1) l * Int64.ofInt (cst R s e) = blV R s dd pv l o e := by
          rw [w32_id (by omega), eo, v0, v1, hy, of4s]
          unfold blV chA
          rw [if_neg (by omega)]
        rw [hval]
        rfl
  · intro c y2 c0 c1 hy ih
    have ec : w32 (w32 (l * 125) + c) = l * 125 + c := by rw [w32_id (z := l * 125) (by omega), w32_id (by omega)]
    have hcell : M.2 42 0 (l * 125 + c).toNat = Int64.ofInt (mO R s dd (R 4 2 - l).toNat c) := by
      rw [hc l c (by omega) (by omega) c0 c1, if_pos (by omega)]
    have hss : sumN (fun p => if wnO R s p = 0 then mO R s dd (R 4 2 - l).toNat p else 0) (c + 1).toNat = sumN (fun p => if wnO R s p = 0 then mO R s dd (R 4 2 - l).toNat p else 0) c.toNat + (if wnO R s c = 0 then mO R s dd (R 4 2 - l).toNat c else 0) := sumN_s c0
    show At _ _ _ _ _ _ _ _
    rw [bUn_findBests_4, if_neg (by omega), bUn_findBests_7, c_winnersIn hU.1 (by omega) hU.2.1 ⟨c0, c1⟩, KV_eq, bUn_findBests_10]
    by_cases hw : wnO R s c = 0
    · rw [if_neg (by omega), bUn_findBests_11 (by rw [ec]; omega), ec, hcell, bUn_findBests_22, w32_id (by omega)]
      refine ih _ ?_
      rw [hss, if_pos hw, Int64.ofInt_add, ← hy]
    · rw [if_pos hw, bUn_findBests_22, w32_id (by omega)]
      refine ih _ ?_
      rw [hss, if_neg hw, Int.add_zero]; exact hy
abbrev pUn (t i j : Nat) : Prop := i = 0 ∧ (42 ≤ t ∧ t ≤ 45 ∨ t = 7 ∧ j = 5)
theorem c_bestAnswer {M : Mem} {R : RT} {s dd : Int} (hR : rd M 0 = R) (h : WR R) (hs : 0 ≤ s ∧ s < R 4 1) (hdd : 0 ≤ dd ∧ dd ≤ 3) (h36 : ∀ i : Nat, i < 3 → R 36 (i * 5) = 0)
    (hq : ∀ M', Fs pUn M M' → Q (vl (bst R s dd (R 4 2).toNat (stp R s))) M') : Call (d + 5) qUn_bestAnswer [vr 7 0, vi s, vi dd] M Q X := by
  have hb := h.b
  have hsp := h.stp s (by omega)
  rw [eUn_bestAnswer, bUn_bestAnswer_0]
  have f0 : Fs pUn M (sI M 7 0 5 s) := Fs.rf.sI (by omega)
  refine loop_up (fun (x : Int) (A : Mem × AV) => At (d + 4) kUn_bestAnswer 5 [vr 7 0, vi s, vi dd, vi x, A.2] [] A.1 Q X) (fun (x : Int) (A : Mem × AV) => Fs pUn M A.1 ∧ A.1.1 7 0 5 = s ∧ ∀ i : Int, 0 ≤ i → i < x → A.1.1 43 0 i.toNat = chO R s dd i) 0 3 ?_ ?_ 0 (sI M 7 0 5 s, _) (by omega) (by omega) ⟨f0, sI_eq, fun i a b => by omega⟩
  · rintro ⟨M1, z4⟩ ⟨f1, g5, g43⟩
    have hU1 : UC R s dd M1 := ⟨(rd_fs f1 (fun t j ht z => by omega)).trans hR, g5, fun i a b => g43 i a b⟩
    show At _ _ _ _ _ _ _ _
    rw [bUn_bestAnswer_5, if_pos (by omega), bUn_bestAnswer_43]
    refine c_spreadCrowd hU1 h hs (by omega) ?_
    intro M2 f2 crd
    have hU2 := hU1.fs f2 (fun t i j z => Or.inl z.1)
    have f02 : Fs pUn M M2 := f1.tr (f2.mono (fun t i j z => by omega))
    rw [KU_eq, bUn_bestAnswer_45]
    refine loop_up (fun (x : Int) (A : Mem × AV) => At (d + 4) kUn_bestAnswer 47 [vr 7 0, vi s, A.2, vi x, z4] [] A.1 Q X) (fun (x : Int) (A : Mem × AV) => Fs (fun t i _ => t = 44 ∧ i = 0) M2 A.1 ∧ ∀ o : Int, 0 ≤ o → o < x → A.1.2 44 0 o.toNat = 0) 0 5 ?_ ?_ 0 (M2, _) (by omega) (by omega) ⟨Fs.rf, fun i a b => by omega⟩
    · rintro ⟨M3, z2⟩ ⟨f3, g3⟩
      show At _ _ _ _ _ _ _ _
      rw [bUn_bestAnswer_47, if_pos (by omega), bUn_bestAnswer_57]
      refine loop_up (fun (l : Int) (A : Mem × AV × AV) => At (d + 4) kUn_bestAnswer 59 [vr 7 0, vi s, A.2.1, vi l, A.2.2] [] A.1 Q X) (fun (l : Int) (A : Mem × AV × AV) => Fs (fun t i _ => (t = 44 ∨ t = 45) ∧ i = 0) M2 A.1 ∧ ∀ o : Int, 0 ≤ o → o ≤ stp R s → A.1.2 44 0 o.toNat = bst R s dd (l - 1).toNat o) 1 (R 4 2 + 1) ?_ ?_ 1 (M3, _, _) (by omega) (by omega) ⟨f3.mono (fun t i j z => by omega), fun o a b => ?_⟩
      · rintro ⟨M4, z2, z4⟩ ⟨f4, g4⟩
        have hU4 := hU2.fs f4 (fun t i j z => Or.inr z.1)
        have e42 : M4.1 4 0 2 = R 4 2 := by rw [← hU4.1]; rfl
        have e33 : M4.1 33 0 s.toNat = stp R s := by rw [← hU4.1]; rfl
        show At _ _ _ _ _ _ _ _
        rw [bUn_bestAnswer_59, e42, if_pos (by omega), bUn_bestAnswer_96 (by rw [hU4.2.1, e33]; omega), hU4.2.1, e33, g4 _ (by omega) (by omega), show R 4 2 + 1 - 1 = R 4 2 by omega]
        exact hq M4 (f02.tr (f4.mono (fun t i j z => by omega)))
      · rintro l ⟨M4, z2, z4⟩ l0 l1 ⟨f4, g4⟩ ih
        have hU4 := hU2.fs f4 (fun t i j z => Or.inr z.1)
        have e42 : M4.1 4 0 2 = R 4 2 := by rw [← hU4.1]; rfl
        show At _ _ _ _ _ _ _ _
        rw [bUn_bestAnswer_59, e42, if_neg (by omega), bUn_bestAnswer_64]
        refine loop_up (fun (o : Int) (M5 : Mem) => At (d + 4) kUn_bestAnswer 66 [vr 7 0, vi s, z2, vi l, vi o] [] M5 Q X) (fun (o : Int) (M5 : Mem) => Fs (fun t i _ => t = 45 ∧ i = 0) M4 M5 ∧ ∀ o' : Int, 0 ≤ o' → o' < o → M5.2 45 0 o'.toNat = enV R s dd (bst R s dd (l - 1).toNat) (l - 1) o') 0 (stp R s + 1) ?_ ?_ 0 M4 (by omega) (by omega) ⟨Fs.rf, fun i a b => by omega⟩
        · rintro M5 ⟨f5, g5⟩
          have hU5 := hU4.fs f5 (fun t i j z => Or.inr (Or.inr z.1))
          have e33 : M5.1 33 0 s.toNat = stp R s := by rw [← hU5.1]; rfl
          have crd5 : Crd R s dd 0 M5 := fun l' y a b c e => by rw [f5.g2 42 0 _ (by omega), f4.g2 42 0 _ (by omega)]; exact crd l' y a b c e
          show At _ _ _ _ _ _ _ _
          rw [bUn_bestAnswer_66 (by rw [hU5.2.1]; omega), hU5.2.1, e33, if_pos (by omega), bUn_bestAnswer_91]
          refine c_findBests (d := d + 1) hU5 h hs (by omega) (by omega) crd5 (fun o a b => g5 o a (by omega)) ?_
          intro M6 f6 g6
          rw [KU_eq, bUn_bestAnswer_94, w32_id (by omega)]
          refine ih (M6, _, _) ⟨f4.tr ((f5.mono (fun t i j z => by omega)).tr (f6.mono (fun t i j z => by omega))), fun o a b => ?_⟩
          show M6.2 44 0 _ = _
          rw [show l + 1 - 1 = l by omega]
          by_cases ho : o = 0
          · subst ho
            rw [f6.g2 44 0 _ (by omega), f5.g2 44 0 _ (by omega), g4 0 (by omega) (by omega), bst_0, bst_0]
          · rw [g6 o (by omega) b, bst_s (by omega) (by omega)]
        · rintro o M5 o0 o1 ⟨f5, g5⟩ ih5
          have hU5 := hU4.fs f5 (fun t i j z => Or.inr (Or.inr z.1))
          have e33 : M5.1 33 0 s.toNat = stp R s := by rw [← hU5.1]; rfl
          have crd5 : Crd R s dd 0 M5 := fun l' y a b c e => by rw [f5.g2 42 0 _ (by omega), f4.g2 42 0 _ (by omega)]; exact crd l' y a b c e
          show At _ _ _ _ _ _ _ _
          rw [bUn_bestAnswer_66 (by rw [hU5.2.1]; omega), hU5.2.1, e33, if_neg (by omega), bUn_bestAnswer_74 (by omega), w32_id (z := l - 1) (by omega), c_paidAfter (d := d + 1) hU5 h hs (by omega) (by omega) (by omega) crd5, KV_eq, bUn_bestAnswer_87 (by omega), w32_id (z := o + 1) (by omega), f5.g2 44 0 _ (by omega), g4 o (by omega) (by omega)]
          refine ih5 _ ⟨f5.sL ⟨rfl, rfl⟩, fun o' a b => ?_⟩
          by_cases z : o' = o
          · subst z; exact sL_eq
          · rw [sL2, if_neg (by omega)]; exact g5 o' a (by omega)
      · show M3.2 44 0 _ = _
        rw [g3 o a (by omega)]; rfl
    · rintro x ⟨M3, z2⟩ x0 x1 ⟨f3, g3⟩ ih
      show At _ _ _ _ _ _ _ _
      rw [bUn_bestAnswer_47, if_neg (by omega), bUn_bestAnswer_50 (by omega), w32_id (by omega)]
      refine ih (_, _) ⟨f3.sL ⟨rfl, rfl⟩, fun o a b => ?_⟩
      show (sL M3 _ _ _ _).2 _ _ _ = _
      by_cases z : o = x
      · subst z; exact sL_eq
      · rw [sL2, if_neg (by omega)]; exact g3 o a (by omega)
  · rintro x ⟨M1, z4⟩ x0 x1 ⟨f1, g5, g43⟩ ih
    have hR1 : rd M1 0 = R := (rd_fs f1 (fun t j ht z => by omega)).trans hR
    have e41 : M1.1 4 0 1 = R 4 1 := by rw [← hR1]; rfl
    have e34 : M1.1 34 0 x.toNat = pcs R x := by rw [← hR1]; rfl
    have fin : ∀ (v : Int) (z4 : AV), v = chO R s dd x → At (d + 4) kUn_bestAnswer 40 [vr 7 0, vi s, vi dd, vi x, z4] [vi v, vi x, vr 43 0] M1 Q X := by
      intro v z4 hv
      rw [bUn_bestAnswer_40 (by omega), w32_id (by omega)]
      refine ih (_, _) ⟨f1.sI (by omega), ?_, fun i a b => ?_⟩
      · show (sI M1 _ _ _ _).1 _ _ _ = _
        rw [sI_ne (by omega)]; exact g5
      · show (sI M1 _ _ _ _).1 _ _ _ = _
        by_cases z : i = x
        · subst z; rw [sI_eq]; exact hv
        · rw [sI_ne (by omega)]; exact g43 i a (by omega)
    have no : ¬ (x ≠ s ∧ x < R 4 1 ∧ dd ≤ pcs R x) → At (d + 4) kUn_bestAnswer 26 [vr 7 0, vi s, vi dd, vi x, z4] [] M1 Q X := by
      intro hno
      rw [bUn_bestAnswer_26, bUn_bestAnswer_27, if_pos rfl, bUn_bestAnswer_39]
      refine fin _ _ ?_
      unfold chO
      rw [if_neg (fun z => hno ⟨z.1, z.2.1, z.2.2.2⟩)]
    show At _ _ _ _ _ _ _ _
    rw [bUn_bestAnswer_5, if_neg (by omega), bUn_bestAnswer_8, g5]
    by_cases h1 : x = s
    · rw [if_pos h1]; exact no (fun z => z.1 h1)
    · rw [if_neg h1, bUn_bestAnswer_12, e41]
      by_cases h2 : R 4 1 ≤ x
      · rw [if_pos h2]; exact no (fun z => by omega)
      · rw [if_neg h2, bUn_bestAnswer_17 (by omega), e34]
        by_cases h3 : pcs R x < dd
        · rw [if_pos h3]; exact no (fun z => by omega)
        · rw [if_neg h3, bUn_bestAnswer_24, bUn_bestAnswer_27, if_neg (by omega), bUn_bestAnswer_33, c_chanceOf (by omega) (by omega), KV_eq, bUn_bestAnswer_38, hR1]
          refine fin _ _ ?_
          unfold chO
          by_cases h4 : 1 ≤ dd
          · rw [if_pos ⟨h1, by omega, h4, by omega⟩]
          · have hd0 : dd = 0 := by omega
            rw [if_neg (fun z => h4 z.2.2.1), hd0]
            unfold chc
            rw [show (x * 5 + 0).toNat = x.toNat * 5 by omega]
            exact h36 x.toNat (by omega)
def tAn (R : RT) (s k : Int) : Int := if R 4 1 = 0 then 1 else if 0 ≤ s ∧ s < R 4 1 then (if 0 ≤ k ∧ k ≤ 3 then 0 else 3) else 2
theorem c_answer {M : Mem} {s k : Int} (h0 : CI0 M) (hb : Cb M) (h36 : 1 ≤ rd M 0 4 1 → ∀ i : Nat, i < 3 → rd M 0 36 (i * 5) = 0) (hx : tAn (rd M 0) s k ≠ 0 → X (tAn (rd M 0) s k - 1).toNat M)
    (hq : ∀ M', tAn (rd M 0) s k = 0 → Fs pUn M M' → CI0 M' → Cb M' → Q (vl (bst (rd M 0) s k (rd M 0 4 2).toNat (stp (rd M 0) s))) M') : Call (d + 8) qPR_answer [vr 9 0, vi s, vi k] M Q X := by
  have hW := h0.2.2.1 0 (by omega)
  have hbb := hW.b
  unfold tAn at hx hq
  rw [ePR_answer, bPR_answer_0, c_needRace]
  by_cases hn : rd M 0 4 1 = 0
  · rw [if_pos hn] at hx; rw [if_pos hn]; exact hx (by omega)
  rw [if_neg hn] at hx hq
  rw [if_neg hn, KU_eq, bPR_answer_2, c_needShop (by omega)]
  by_cases hs : 0 ≤ s ∧ s < rd M 0 4 1
  · rw [if_pos hs] at hx hq
    rw [if_pos hs, KU_eq, bPR_answer_5]
    by_cases hk : 0 ≤ k ∧ k ≤ 3
    · rw [if_pos hk] at hq
      rw [if_neg (by omega), bPR_answer_7, if_pos hk.2, bPR_answer_15]
      refine c_bestAnswer (d := d + 2) rfl hW hs hk (h36 (by omega)) ?_
      intro M1 f1
      have hc := CI0.kp h0 hb f1 (fun t i j z => by omega)
      rw [KV_eq, bPR_answer_20]
      exact hq M1 rfl f1 hc.1 hc.2
    · rw [if_neg hk] at hx
      have hbad : At (d + 7) kPR_answer 10 [vr 9 0, vi s, vi k] [] M Q X := by rw [bPR_answer_10]; exact hx (by omega)
      by_cases hk0 : k < 0
      · rw [if_pos hk0]; exact hbad
      · rw [if_neg hk0, bPR_answer_7, if_neg (by omega)]; exact hbad
  · rw [if_neg hs] at hx ⊢
    exact hx (by omega)
end
