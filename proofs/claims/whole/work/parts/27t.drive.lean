/-! LAYER 3, A RUN BY A SEED: the class -/
def nd (y : Int) : Int := w32 (w32 (y * 1103515245) + 12345)
def rn (y : Int) : Int := band (bushr y 16) 3
def dv1 (R : RT) (w x r s : Int) (D : Int × Int) : Int × Int := if 1 ≤ dr r s ∧ dr r s ≤ 3 then (nd D.1, D.2 + (if rn (nd D.1) < chn R w x s (dr r s) then pw s else 0)) else D
def dvM (R : RT) (w x r g : Int) : Int × Int := dv1 R w x r 2 (dv1 R w x r 1 (dv1 R w x r 0 (g, 0)))
def dvm (r m : Int) : Int := mm (md (dr r 0) (bit m 0)) (md (dr r 1) (bit m 1)) (md (dr r 2) (bit m 2))
theorem dv1_R {R : RT} {w x r s : Int} {D : Int × Int} (hs : 0 ≤ s ∧ s < 3) (hD : 0 ≤ D.2 ∧ D.2 < pw s) : 0 ≤ (dv1 R w x r s D).2 ∧ (dv1 R w x r s D).2 < 2 * pw s ∧ (dv1 R w x r s D).2 % pw s = D.2 ∧ (pw s ≤ (dv1 R w x r s D).2 → 1 ≤ dr r s ∧ dr r s ≤ 3) := by
  have hp : pw s = 1 ∨ pw s = 2 ∨ pw s = 4 := by
    rcases (by omega : s = 0 ∨ s = 1 ∨ s = 2) with rfl | rfl | rfl <;> simp [pw]
  unfold dv1
  split
  · rename_i hh
    show 0 ≤ D.2 + _ ∧ D.2 + _ < _ ∧ (D.2 + _) % _ = D.2 ∧ _
    split
    · rcases hp with e | e | e <;> rw [e] at hD ⊢ <;> omega
    · rcases hp with e | e | e <;> rw [e] at hD ⊢ <;> omega
  · rcases hp with e | e | e <;> rw [e] at hD ⊢ <;> omega
theorem dvM_R {R : RT} {w x r g : Int} : (0 ≤ (dvM R w x r g).2 ∧ (dvM R w x r g).2 < 8) ∧ ∀ s : Int, 0 ≤ s → s < 3 → bit (dvM R w x r g).2 s = 1 → 1 ≤ dr r s ∧ dr r s ≤ 3 := by
  have p0 : pw 0 = 1 := rfl
  have p1 : pw 1 = 2 := rfl
  have p2 : pw 2 = 4 := rfl
  have h0 := dv1_R (R := R) (w := w) (x := x) (r := r) (s := 0) (D := (g, 0)) (by omega) (by rw [p0]; show (0 : Int) ≤ 0 ∧ (0 : Int) < 1; omega)
  rw [p0] at h0
  have h1 := dv1_R (R := R) (w := w) (x := x) (r := r) (s := 1) (D := dv1 R w x r 0 (g, 0)) (by omega) (by rw [p1]; omega)
  rw [p1] at h1
  have h2 := dv1_R (R := R) (w := w) (x := x) (r := r) (s := 2) (D := dv1 R w x r 1 (dv1 R w x r 0 (g, 0))) (by omega) (by rw [p2]; omega)
  rw [p2] at h2
  unfold dvM
  generalize (dv1 R w x r 2 (dv1 R w x r 1 (dv1 R w x r 0 (g, 0)))).2 = c at *
  generalize (dv1 R w x r 1 (dv1 R w x r 0 (g, 0))).2 = b at *
  generalize (dv1 R w x r 0 (g, 0)).2 = a at *
  refine ⟨by omega, ?_⟩
  intro s s0 s3 hb
  rcases (by omega : s = 0 ∨ s = 1 ∨ s = 2) with rfl | rfl | rfl
  · have : c % 2 = 1 := hb
    exact h0.2.2.2 (by omega)
  · have : c / 2 % 2 = 1 := hb
    exact h1.2.2.2 (by omega)
  · have : c / 4 % 2 = 1 := hb
    exact h2.2.2.2 (by omega)
/-- draw, state, winners, what was paid, weeks gone -/
abbrev DS : Type := Int × Int × Int × Int × Int
def dvS (R : RT) (w : Int) (S : DS) : DS := ((dvM R w S.2.1 (rwX R w S.2.1) S.1).1, aft S.2.1 (dvm (rwX R w S.2.1) (dvM R w S.2.1 (rwX R w S.2.1) S.1).2), won S.2.1 (dvm (rwX R w S.2.1) (dvM R w S.2.1 (rwX R w S.2.1) S.1).2), S.2.2.2.1 + cA R (rwX R w S.2.1), S.2.2.2.2 + 1)
def dvR (R : RT) : Nat → DS → DS
  | 0, S => S
  | n + 1, S => if S.2.1 ≤ 0 ∨ S.2.2.1 ≠ 0 then S else dvR R n (dvS R ((n : Int) + 1) S)
theorem dvm_d {r m : Int} (s : Int) (hs : 0 ≤ s ∧ s < 3) : 0 ≤ dr (dvm r m) s ∧ dr (dvm r m) s ≤ 2 ∧ 0 ≤ dvm r m ∧ dvm r m < 125 := by
  have b0 := md_R (d := dr r 0) (bit_R m 0)
  have b1 := md_R (d := dr r 1) (bit_R m 1)
  have b2 := md_R (d := dr r 2) (bit_R m 2)
  have e := dr_mm (a := md (dr r 0) (bit m 0)) (b := md (dr r 1) (bit m 1)) (c := md (dr r 2) (bit m 2)) (by omega) (by omega) (by omega)
  unfold dvm
  rcases (by omega : s = 0 ∨ s = 1 ∨ s = 2) with rfl | rfl | rfl
  · rw [e.1]; unfold mm; omega
  · rw [e.2.1]; unfold mm; omega
  · rw [e.2.2]; unfold mm; omega
theorem dvm_fits {R : RT} {x r m : Int} (hf : fitsP R x) : fitsP R (aft x (dvm r m)) ∧ 0 ≤ aft x (dvm r m) ∧ aft x (dvm r m) < 125 := by
  have b0 := md_R (d := dr r 0) (bit_R m 0)
  have b1 := md_R (d := dr r 1) (bit_R m 1)
  have b2 := md_R (d := dr r 2) (bit_R m 2)
  exact ⟨fits_aft hf (by omega) (by omega) (by omega), aft_R (dvm_d 0 (by omega)).2.1 (dvm_d 1 (by omega)).2.1 (dvm_d 2 (by omega)).2.1⟩
abbrev pDr (t i _ : Nat) : Prop := pOp 0 t i ∨ (t = 47 ∧ i = 0) ∨ (t = 1 ∧ i = 0)
theorem dr_no {t i j : Nat} (h : pDr t i j) : ¬ (t = 4 ∨ 33 ≤ t ∧ t ≤ 38) ∧ ¬ (20 ≤ t ∧ t ≤ 24) ∧ t ≠ 9 ∧ t ≠ 0 ∧ t ≠ 27 := by
  unfold pDr pOp at h; omega
section
variable {d : Nat} {Q : AV → Mem → Prop} {X : Nat → Mem → Prop}
theorem c_draws {M : Mem} {R : RT} {w x r g : Int} {z2 z3 z6 : AV} (h : WR R) (hO : Opd R w x 0 M) (hT : Rtk 0 r M)
    (hq : At (d + 4) kCo_drive 85 [vr 1 0, vr 0 0, z2, z3, vr 8 0, vi (dvM R w x r g).1, z6, vi w, vi (dvM R w x r g).2, vi 3] [] M Q X) : At (d + 4) kCo_drive 45 [vr 1 0, vr 0 0, z2, z3, vr 8 0, vi g, z6, vi w, vi 0, vi 0] [] M Q X := by
  have key : ∀ (s : Int) (D : Int × Int), 0 ≤ s → s < 3 → 0 ≤ D.2 → D.2 < pw s → At (d + 4) kCo_drive 45 [vr 1 0, vr 0 0, z2, z3, vr 8 0, vi D.1, z6, vi w, vi D.2, vi s] [] M Q X = At (d + 4) kCo_drive 45 [vr 1 0, vr 0 0, z2, z3, vr 8 0, vi (dv1 R w x r s D).1, z6, vi w, vi (dv1 R w x r s D).2, vi (s + 1)] [] M Q X := by
    intro s D s0 s3 h0 h1
    have e1 : w32 (s + 1) = s + 1 := w32_id (by omega)
    rw [bCo_drive_45, if_neg (by omega), bCo_drive_48 (by omega), hT s s0 s3]
    unfold dv1
    by_cases hc : 1 ≤ dr r s ∧ dr r s ≤ 3
    · rw [if_pos hc, if_neg (by omega), bCo_drive_54 (by omega), hT s s0 s3, if_neg (by omega), bCo_drive_60, c_chanceOfW hO hT ⟨s0, s3⟩, KV_eq, bCo_drive_75]
      show (if chn R w x s (dr r s) ≤ rn (nd D.1) then At (d + 4) kCo_drive 80 [vr 1 0, vr 0 0, z2, z3, vr 8 0, vi (nd D.1), z6, vi w, vi D.2, vi s] [vi D.2] M Q X else At (d + 4) kCo_drive 76 [vr 1 0, vr 0 0, z2, z3, vr 8 0, vi (nd D.1), z6, vi w, vi D.2, vi s] [vi D.2] M Q X) = At (d + 4) kCo_drive 45 [vr 1 0, vr 0 0, z2, z3, vr 8 0, vi (nd D.1), z6, vi w, vi (D.2 + (if rn (nd D.1) < chn R w x s (dr r s) then pw s else 0)), vi (s + 1)] [] M Q X
      by_cases hl : rn (nd D.1) < chn R w x s (dr r s)
      · rw [if_neg (by omega), if_pos hl, bCo_drive_76, bCo_drive_81, bCo_drive_83, e1, bshl_pw (by omega), bor_add ⟨h0, h1⟩ ⟨s0, s3⟩]
      · have hbz : bor D.2 0 = D.2 := by
          have hp : pw s = 1 ∨ pw s = 2 ∨ pw s = 4 := by rcases (by omega : s = 0 ∨ s = 1 ∨ s = 2) with rfl | rfl | rfl <;> simp [pw]
          rcases (by omega : D.2 = 0 ∨ D.2 = 1 ∨ D.2 = 2 ∨ D.2 = 3) with e | e | e | e <;> rw [e] <;> rfl
        rw [if_pos (by omega), if_neg hl, bCo_drive_80, bCo_drive_81, bCo_drive_83, e1, hbz, Int.add_zero]
    · rw [if_neg hc]
      by_cases h2 : dr r s < 1
      · rw [if_pos h2, bCo_drive_83, e1]
      · rw [if_neg h2, bCo_drive_54 (by omega), hT s s0 s3, if_pos (by omega), bCo_drive_83, e1]
  have p0 : pw 0 = 1 := rfl
  have p1 : pw 1 = 2 := rfl
  have p2 : pw 2 = 4 := rfl
  have h0 := dv1_R (R := R) (w := w) (x := x) (r := r) (s := 0) (D := (g, 0)) (by omega) (by rw [p0]; show (0 : Int) ≤ 0 ∧ (0 : Int) < 1; omega)
  rw [p0] at h0
  have h1 := dv1_R (R := R) (w := w) (x := x) (r := r) (s := 1) (D := dv1 R w x r 0 (g, 0)) (by omega) (by rw [p1]; omega)
  rw [p1] at h1
  have k0 := key 0 (g, 0) (by omega) (by omega) (by show (0 : Int) ≤ 0; omega) (by rw [p0]; show (0 : Int) < 1; omega)
  have k1 := key (0 + 1) (dv1 R w x r 0 (g, 0)) (by omega) (by omega) h0.1 (by show _ < pw 1; rw [p1]; omega)
  have k2 := key (0 + 1 + 1) (dv1 R w x r 1 (dv1 R w x r 0 (g, 0))) (by omega) (by omega) h1.1 (by show _ < pw 2; rw [p2]; omega)
  refine k0.mpr (k1.mpr (k2.mpr ?_))
  show At (d + 4) kCo_drive 45 [vr 1 0, vr 0 0, z2, z3, vr 8 0, vi (dvM R w x r g).1, z6, vi w, vi (dvM R w x r g).2, vi 3] [] M Q X
  rw [bCo_drive_45, if_pos (by omega)]
  exact hq
/-- what the course holds -/
def CoI (S : DS) (M : Mem) : Prop := M.1 1 0 5 = S.2.2.1 ∧ M.1 1 0 6 = S.2.2.2.1 ∧ M.1 1 0 4 = S.2.2.2.2
theorem c_driveLoop {R : RT} {M0 : Mem} {z2 z3 : AV} (hR : rd M0 0 = R) (h : WR R) (hf : Full R 0 M0) (hz : Bz 0 M0) : ∀ (n : Nat) (S : DS) (M : Mem) (z8 z9 : AV), (n : Int) ≤ R 4 2 → Fs pDr M0 M → CoI S M → (0 ≤ S.2.1 ∧ S.2.1 < 125) → fitsP R S.2.1 → (0 ≤ S.2.2.2.1 ∧ S.2.2.2.1 ≤ 600 * (R 4 2 - n)) → (0 ≤ S.2.2.2.2 ∧ S.2.2.2.2 ≤ R 4 2 - n) →
    (∀ M', Fs pDr M0 M' → CoI (dvR R n S) M' → ∀ z5 z7 z8 z9, At (d + 4) kCo_drive 115 [vr 1 0, vr 0 0, z2, z3, vr 8 0, z5, vi (dvR R n S).2.1, z7, z8, z9] [] M' Q X) → At (d + 4) kCo_drive 23 [vr 1 0, vr 0 0, z2, z3, vr 8 0, vi S.1, vi S.2.1, vi (n : Int), z8, z9] [] M Q X := by
  intro n
  have hb := h.b
  induction n with
  | zero =>
    intro S M z8 z9 _ f c _ _ _ _ hq
    rw [bCo_drive_23, if_pos (by omega)]
    exact hq M f c _ _ _ _
  | succ n ih =>
    intro S M z8 z9 hn f c hx hfx hpd hgn hq
    have hdv : dvR R (n + 1) S = if S.2.1 ≤ 0 ∨ S.2.2.1 ≠ 0 then S else dvR R n (dvS R ((n : Int) + 1) S) := rfl
    rw [hdv] at hq
    rw [bCo_drive_23, if_neg (by omega), bCo_drive_26]
    by_cases h1 : S.2.1 ≤ 0
    · rw [if_pos (Or.inl h1)] at hq
      rw [if_pos h1]; exact hq M f c _ _ _ _
    rw [if_neg h1, bCo_drive_28, c.1]
    by_cases h2 : S.2.2.1 = 0
    · rw [if_neg (by omega)] at hq
      rw [if_neg (fun z => z h2), bCo_drive_31, show ((n + 1 : Nat) : Int) = (n : Int) + 1 by omega]
      have r0 : ∀ M', Fs pDr M0 M' → rd M' 0 = R := fun M' f' => (rd_fs f' (fun t j ht z => (dr_no z).1 ht)).trans hR
      refine c_open (d := d) (k := 0) (R := R) (r0 M f) h hx (by omega) ?_
      intro M1 f1 o1
      have f1' : Fs pDr M0 M1 := f.tr (f1.fs (fun t i j z => Or.inl z))
      have er : M1.1 20 0 (((n : Int) + 1) * 125 + S.2.1).toNat = rwX R ((n : Int) + 1) S.2.1 := by
        rw [f1'.g1 20 0 _ (fun z => (dr_no z).2.1 (by omega))]
        exact hf.row hz (by omega) (by omega) hx hfx
      rw [KU_eq, bCo_drive_35, c_rowAt (by omega) hx, KV_eq, er, bCo_drive_40]
      refine c_takeRow (d := d + 2) rwX_R ?_
      intro M2 f2 t2
      have f2' : Fs pDr M0 M2 := f1'.tr (f2.mono (fun t i j z => Or.inr (Or.inl ⟨z.1, z.2.1⟩)))
      have o2 : Opd R ((n : Int) + 1) S.2.1 0 M2 := by
        obtain ⟨q1, q2, q3⟩ := o1
        have g : ∀ t i j, t ≠ 47 → M2.1 t i j = M1.1 t i j := fun t i j ht => f2.g1 t i j (by omega)
        refine ⟨by rw [g _ _ _ (by omega)]; exact q1, fun s a b e a' b' => ?_, fun a b e a0 a1 b0 b1 e0 e1 => ?_⟩
        · rw [g _ _ _ (by omega), g _ _ _ (by omega), g _ _ _ (by omega)]; exact q2 s a b e a' b'
        · unfold Op2; rw [g _ _ _ (by omega), g _ _ _ (by omega)]; exact q3 a b e a0 a1 b0 b1 e0 e1
      have c2 : CoI S M2 := by
        have g : ∀ j, M2.1 1 0 j = M.1 1 0 j := fun j => (f2.g1 1 0 j (by omega)).trans (f1.g1 1 0 (by omega) j)
        exact ⟨(g _).trans c.1, (g _).trans c.2.1, (g _).trans c.2.2⟩
      rw [KU_eq, bCo_drive_41]
      refine c_draws h o2 t2 ?_
      obtain ⟨hm8, hmb⟩ := dvM_R (R := R) (w := (n : Int) + 1) (x := S.2.1) (r := rwX R ((n : Int) + 1) S.2.1) (g := S.1)
      rw [bCo_drive_85, c_modesOf (d := d + 3) t2 hm8 (fun s s0 s3 hbit => by have := hmb s s0 s3 hbit; omega), KV_eq, bCo_drive_88, c_costOfAll (d := d + 2) (R := R) (r0 M2 f2') h t2, KV_eq]
      have hdm := dvm_d (r := rwX R ((n : Int) + 1) S.2.1) (m := (dvM R ((n : Int) + 1) S.2.1 (rwX R ((n : Int) + 1) S.2.1) S.1).2) 0 (by omega)
      have b0 := md_R (d := dr (rwX R ((n : Int) + 1) S.2.1) 0) (bit_R (dvM R ((n : Int) + 1) S.2.1 (rwX R ((n : Int) + 1) S.2.1) S.1).2 0)
      have b1 := md_R (d := dr (rwX R ((n : Int) + 1) S.2.1) 1) (bit_R (dvM R ((n : Int) + 1) S.2.1 (rwX R ((n : Int) + 1) S.2.1) S.1).2 1)
      have b2 := md_R (d := dr (rwX R ((n : Int) + 1) S.2.1) 2) (bit_R (dvM R ((n : Int) + 1) S.2.1 (rwX R ((n : Int) + 1) S.2.1) S.1).2 2)
      have oe := o2.2.2 _ _ _ b0.1 (by omega) b1.1 (by omega) b2.1 (by omega)
      have hca : 0 ≤ cA R (rwX R ((n : Int) + 1) S.2.1) ∧ cA R (rwX R ((n : Int) + 1) S.2.1) ≤ 600 := by
        have q0 := h.cst 0 (dr (rwX R ((n : Int) + 1) S.2.1) 0) (by omega) (by have := dr_R (rwX R ((n : Int) + 1) S.2.1) 0; omega)
        have q1 := h.cst 1 (dr (rwX R ((n : Int) + 1) S.2.1) 1) (by omega) (by have := dr_R (rwX R ((n : Int) + 1) S.2.1) 1; omega)
        have q2 := h.cst 2 (dr (rwX R ((n : Int) + 1) S.2.1) 2) (by omega) (by have := dr_R (rwX R ((n : Int) + 1) S.2.1) 2; omega)
        unfold cA; omega
      have hfa := dvm_fits (R := R) (r := rwX R ((n : Int) + 1) S.2.1) (m := (dvM R ((n : Int) + 1) S.2.1 (rwX R ((n : Int) + 1) S.2.1) S.1).2) hfx
      have e48 : M2.1 48 0 (dvm (rwX R ((n : Int) + 1) S.2.1) (dvM R ((n : Int) + 1) S.2.1 (rwX R ((n : Int) + 1) S.2.1) S.1).2).toNat = won S.2.1 (dvm (rwX R ((n : Int) + 1) S.2.1) (dvM R ((n : Int) + 1) S.2.1 (rwX R ((n : Int) + 1) S.2.1) S.1).2) := oe.1
      have e49 : M2.1 49 0 (dvm (rwX R ((n : Int) + 1) S.2.1) (dvM R ((n : Int) + 1) S.2.1 (rwX R ((n : Int) + 1) S.2.1) S.1).2).toNat = aft S.2.1 (dvm (rwX R ((n : Int) + 1) S.2.1) (dvM R ((n : Int) + 1) S.2.1 (rwX R ((n : Int) + 1) S.2.1) S.1).2) := oe.2
      show At (d + 4) kCo_drive 94 [vr 1 0, vr 0 0, z2, z3, vr 8 0, _, _, _, _, vi (dvm (rwX R ((n : Int) + 1) S.2.1) (dvM R ((n : Int) + 1) S.2.1 (rwX R ((n : Int) + 1) S.2.1) S.1).2)] [vi (cA R (rwX R ((n : Int) + 1) S.2.1)), vi (M2.1 1 0 6), vr 1 0] M2 Q X
      rw [bCo_drive_94 (by omega), c2.2.1]
      rw [w32_id (z := S.2.2.2.1 + cA R (rwX R ((n : Int) + 1) S.2.1)) (by omega), sI_ne (by omega), sI_ne (by omega), sI_ne (by omega), sI_ne (by omega), e48, e49, sI_ne (by omega), c2.2.2, w32_id (by omega), w32_id (by omega), show (n : Int) + 1 + -1 = (n : Int) by omega]
      refine ih (dvS R ((n : Int) + 1) S) _ _ _ (by omega) (((f2'.sI (Or.inr (Or.inr ⟨rfl, rfl⟩))).sI (Or.inr (Or.inr ⟨rfl, rfl⟩))).sI (Or.inr (Or.inr ⟨rfl, rfl⟩))) ⟨?_, ?_, ?_⟩ hfa.2 hfa.1 ?_ ?_ hq
      · rw [sI_ne (by omega), sI_eq]; rfl
      · rw [sI_ne (by omega), sI_ne (by omega), sI_eq]; rfl
      · rw [sI_eq]; rfl
      · show 0 ≤ S.2.2.2.1 + cA R (rwX R ((n : Int) + 1) S.2.1) ∧ S.2.2.2.1 + cA R (rwX R ((n : Int) + 1) S.2.1) ≤ _
        omega
      · show 0 ≤ S.2.2.2.2 + 1 ∧ S.2.2.2.2 + 1 ≤ _
        omega
    · rw [if_pos (Or.inr h2)] at hq
      rw [if_pos h2]; exact hq M f c _ _ _ _
theorem c_drive {M : Mem} {R : RT} {g : Int} (hR : rd M 0 = R) (h : WR R) (hf : Full R 0 M) (hz : Bz 0 M)
    (hq : ∀ M', Fs pDr M M' → CoI (dvR R (R 4 2).toNat (g, bgn R, 0, 0, 0)) M' → M'.1 1 0 7 = bor (dvR R (R 4 2).toNat (g, bgn R, 0, 0, 0)).2.2.1 (bI (dvR R (R 4 2).toNat (g, bgn R, 0, 0, 0)).2.1) → Q (vi 0) M') (hcd : 0 ≤ (dvR R (R 4 2).toNat (g, bgn R, 0, 0, 0)).2.1 ∧ (dvR R (R 4 2).toNat (g, bgn R, 0, 0, 0)).2.1 < 125) : Call (d + 5) qCo_drive [vr 1 0, vr 0 0, vi g] M Q X := by
  have hb := h.b
  have hx : 0 ≤ bgn R ∧ bgn R < 125 := bgo_R h (R 4 1)
  rw [eCo_drive, bCo_drive_0, rcB_0, c_beginning (d := d + 2) (by rw [hR]; exact h), KV_eq, bCo_drive_10, hR]
  have e2 : (sI (sI (sI M 1 0 4 0) 1 0 5 0) 1 0 6 0).1 4 0 2 = ((R 4 2).toNat : Int) := by
    rw [sI_ne (by omega), sI_ne (by omega), sI_ne (by omega)]
    have : M.1 4 0 2 = R 4 2 := by rw [← hR]; rfl
    omega
  rw [e2]
  have f0 : Fs pDr M (sI (sI (sI M 1 0 4 0) 1 0 5 0) 1 0 6 0) := ((Fs.rf.sI (Or.inr (Or.inr ⟨rfl, rfl⟩))).sI (Or.inr (Or.inr ⟨rfl, rfl⟩))).sI (Or.inr (Or.inr ⟨rfl, rfl⟩))
  refine c_driveLoop hR h hf hz (R 4 2).toNat (g, bgn R, 0, 0, 0) _ _ _ (by omega) f0 ⟨?_, ?_, ?_⟩ hx (bgn_plain h).2.2.2 ?_ ?_ ?_
  · rw [sI_ne (by omega), sI_eq]
  · rw [sI_eq]
  · rw [sI_ne (by omega), sI_ne (by omega), sI_eq]
  · show (0 : Int) ≤ 0 ∧ (0 : Int) ≤ _; omega
  · show (0 : Int) ≤ 0 ∧ (0 : Int) ≤ _; omega
  · intro M1 f1 c1 z5 z7 z8 z9
    rw [bCo_drive_115, c_bitsIn (d := d + 2) hcd, KV_eq, bCo_drive_120, c1.1]
    refine hq _ (f1.sI (Or.inr (Or.inr ⟨rfl, rfl⟩))) ⟨?_, ?_, ?_⟩ sI_eq
    · rw [sI_ne (by omega)]; exact c1.1
    · rw [sI_ne (by omega)]; exact c1.2.1
    · rw [sI_ne (by omega)]; exact c1.2.2
end
