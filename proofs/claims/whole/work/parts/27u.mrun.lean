/-! LAYER 3, A RUN BY A SEED: the reference -/
theorem dvR_R {R : RT} (h : WR R) : ∀ (n : Nat) (S : DS), (0 ≤ S.2.1 ∧ S.2.1 < 125) → fitsP R S.2.1 → 0 ≤ (dvR R n S).2.1 ∧ (dvR R n S).2.1 < 125
  | 0, _, hx, _ => hx
  | n + 1, S, hx, hf => by
    show 0 ≤ (if S.2.1 ≤ 0 ∨ S.2.2.1 ≠ 0 then S else dvR R n (dvS R ((n : Int) + 1) S)).2.1 ∧ (if S.2.1 ≤ 0 ∨ S.2.2.1 ≠ 0 then S else dvR R n (dvS R ((n : Int) + 1) S)).2.1 < 125
    split
    · exact hx
    · have hfa := dvm_fits (R := R) (r := rwX R ((n : Int) + 1) S.2.1) (m := (dvM R ((n : Int) + 1) S.2.1 (rwX R ((n : Int) + 1) S.2.1) S.1).2) hf
      exact dvR_R h n _ hfa.2 hfa.1
/-- the reference's state beside the class's -/
def RnI (R : RT) (S : DS) (p b : Int) : Prop := Sta R p b ∧ (∀ s : Int, 0 ≤ s → s < 3 → dg p s ≤ stp R s) ∧ wnb p b = S.2.2.1 ∧ cd p b = S.2.1
theorem wnb_0 {p b : Int} : wnb p b = 0 ↔ ¬ hfP p b := by
  have h0 := zj_R p b 0
  have h1 := zj_R p b 1
  have h2 := zj_R p b 2
  unfold wnb
  constructor
  · intro h hf
    have e : ∀ s, bit b s = 1 ∧ dg p s = 0 → zj p b s = 1 := fun s hs => by unfold zj; rw [if_pos hs]
    rcases hf with hf | hf | hf
    · have := e 0 hf; omega
    · have := e 1 hf; omega
    · have := e 2 hf; omega
  · intro hf
    have e : ∀ s, ¬ (bit b s = 1 ∧ dg p s = 0) → zj p b s = 0 := fun s hs => by unfold zj; rw [if_neg hs]
    rw [e 0 (fun z => hf (Or.inl z)), e 1 (fun z => hf (Or.inr (Or.inl z))), e 2 (fun z => hf (Or.inr (Or.inr z)))]
    rfl
theorem gng_of {p b : Int} (h : ¬ hfP p b) : Gng p b := by
  intro s s0 s3 hb
  have := dg_R p s
  rcases (by omega : s = 0 ∨ s = 1 ∨ s = 2) with rfl | rfl | rfl
  · have : dg p 0 ≠ 0 := fun z => h (Or.inl ⟨hb, z⟩)
    omega
  · have : dg p 1 ≠ 0 := fun z => h (Or.inr (Or.inl ⟨hb, z⟩))
    omega
  · have : dg p 2 ≠ 0 := fun z => h (Or.inr (Or.inr ⟨hb, z⟩))
    omega
theorem cd_0 {p b : Int} (hb : 0 ≤ b ∧ b < 8) (hg : Gng p b) : cd p b = 0 ↔ b = 0 := by
  have l0 := lsp_R p b 0
  have l1 := lsp_R p b 1
  have l2 := lsp_R p b 2
  have e : ∀ s : Int, 0 ≤ s → s < 3 → (lsp p b s = 0 ↔ bit b s = 0) := fun s s0 s3 => by
    have := bit_R b s
    unfold lsp
    by_cases hh : bit b s = 1
    · have := hg s s0 s3 hh
      rw [if_pos hh]; omega
    · rw [if_neg hh]; omega
  have e0 := e 0 (by omega) (by omega)
  have e1 := e 1 (by omega) (by omega)
  have e2 := e 2 (by omega) (by omega)
  have hbb : b = bit b 0 + bit b 1 * 2 + bit b 2 * 4 := by
    show b = b % 2 + b / 2 % 2 * 2 + b / 4 % 2 * 4
    omega
  unfold cd
  have b0 := bit_R b 0
  have b1 := bit_R b 1
  have b2 := bit_R b 2
  omega
/-- who is in: who has it, and who has steps to go -/
theorem bits_eq {p b : Int} (hb : 0 ≤ b ∧ b < 8) : bor (wnb p b) (bI (cd p b)) = b := by
  have e : ∀ s : Int, 0 ≤ s → s < 3 → bI1 (cd p b) s = (bit b s - zj p b s) * pw s ∧ zj p b s ≤ bit b s := by
    intro s s0 s3
    have hr := dg_R p s
    have hbr := bit_R b s
    have hz : zj p b s = if bit b s = 1 ∧ dg p s = 0 then 1 else 0 := rfl
    have hl : dg (cd p b) s = if bit b s = 1 then dg p s else 0 := dg_cd ⟨s0, s3⟩
    have hi : bI1 (cd p b) s = if 0 < dg (cd p b) s then pw s else 0 := rfl
    by_cases hh : bit b s = 1
    · rw [if_pos hh] at hl
      by_cases hd : dg p s = 0
      · rw [if_pos ⟨hh, hd⟩] at hz
        rw [if_neg (by omega)] at hi
        rw [hi, hz, hh]; omega
      · rw [if_neg (fun z => hd z.2)] at hz
        rw [if_pos (by omega)] at hi
        rw [hi, hz, hh]; omega
    · rw [if_neg hh] at hl
      rw [if_neg (fun z => hh z.1)] at hz
      rw [if_neg (by omega)] at hi
      rw [hi, hz, show bit b s = 0 by omega]; omega
  obtain ⟨e0, f0⟩ := e 0 (by omega) (by omega)
  obtain ⟨e1, f1⟩ := e 1 (by omega) (by omega)
  obtain ⟨e2, f2⟩ := e 2 (by omega) (by omega)
  have p0 : pw 0 = 1 := rfl
  have p1 : pw 1 = 2 := rfl
  have p2 : pw 2 = 4 := rfl
  rw [p0] at e0
  rw [p1] at e1
  rw [p2] at e2
  have z0 := zj_R p b 0
  have z1 := zj_R p b 1
  have z2 := zj_R p b 2
  have hbb : b = bit b 0 + bit b 1 * 2 + bit b 2 * 4 := by
    show b = b % 2 + b / 2 % 2 * 2 + b / 4 % 2 * 4
    omega
  have b0 := bit_R b 0
  have b1 := bit_R b 1
  have b2 := bit_R b 2
  have hI : bI (cd p b) = bI1 (cd p b) 0 + bI1 (cd p b) 1 + bI1 (cd p b) 2 := rfl
  have hw : wnb p b = zj p b 0 + zj p b 1 * 2 + zj p b 2 * 4 := rfl
  rw [hI, hw, e0, e1, e2]
  refine Eq.trans ?_ hbb.symm
  generalize zj p b 0 = y0 at *
  generalize zj p b 1 = y1 at *
  generalize zj p b 2 = y2 at *
  clear hI hw hbb hb e e0 e1 e2
  generalize bit b 0 = c0 at *
  generalize bit b 1 = c1 at *
  generalize bit b 2 = c2 at *
  rcases (by omega : y0 = 0 ∧ c0 = 0 ∨ y0 = 0 ∧ c0 = 1 ∨ y0 = 1 ∧ c0 = 1) with ⟨rfl, rfl⟩ | ⟨rfl, rfl⟩ | ⟨rfl, rfl⟩ <;> rcases (by omega : y1 = 0 ∧ c1 = 0 ∨ y1 = 0 ∧ c1 = 1 ∨ y1 = 1 ∧ c1 = 1) with ⟨rfl, rfl⟩ | ⟨rfl, rfl⟩ | ⟨rfl, rfl⟩ <;> rcases (by omega : y2 = 0 ∧ c2 = 0 ∨ y2 = 0 ∧ c2 = 1 ∨ y2 = 1 ∧ c2 = 1) with ⟨rfl, rfl⟩ | ⟨rfl, rfl⟩ | ⟨rfl, rfl⟩ <;> rfl
theorem can_rw {R : RT} {w x s : Int} (hs : 0 ≤ s ∧ s < 3) : canP R w x s (dr (rwX R w x) s) := by
  unfold rwX
  by_cases h : w = 0 ∨ x = 0
  · rw [if_pos h]
    have : dr 0 s = 0 := by unfold dr; split <;> (try split) <;> rfl
    rw [this]; exact Or.inl rfl
  · rw [if_neg h]
    have hk := ok_of (rowS_ok (R := R) (V := Wf R (w - 1).toNat) (w := w) (x := x))
    unfold Rwf
    rcases (by omega : s = 0 ∨ s = 1 ∨ s = 2) with rfl | rfl | rfl
    · exact hk.1
    · exact hk.2.1
    · exact hk.2.2
theorem ia_cg {b d0 d1 d2 e0 e1 e2 : Int} (h0 : bit b 0 = 1 → d0 = e0) (h1 : bit b 1 = 1 → d1 = e1) (h2 : bit b 2 = 1 → d2 = e2) : ia b d0 d1 d2 = ia b e0 e1 e2 := by
  have k : ∀ s d e : Int, (bit b s = 1 → d = e) → (if d = 4 then 0 else bit b s) = (if e = 4 then 0 else bit b s) := by
    intro s d e h
    have := bit_R b s
    by_cases hb : bit b s = 1
    · rw [h hb]
    · rw [show bit b s = 0 by omega]; split <;> split <;> rfl
  unfold ia
  rw [k 0 d0 e0 h0, k 1 d1 e1 h1, k 2 d2 e2 h2]
def tRn (R : RT) (k : Int) : Int := if R 4 1 = 0 then 1 else if 0 ≤ k ∧ k ≤ 3 then 0 else 2
def rnS (R : RT) (g : Int) : DS := dvR R (R 4 2).toNat (g, bgn R, 0, 0, 0)
def rnV (R : RT) (g k : Int) : Int := if k = 0 then (rnS R g).2.2.2.2 else if k = 1 then (rnS R g).2.2.1 else if k = 2 then (rnS R g).2.2.2.1 else bor (rnS R g).2.2.1 (bI (rnS R g).2.1)
theorem cst_z {R : RT} (h : WR R) {s e : Int} (hs : 0 ≤ s ∧ s < 3) (he : e = 0 ∨ e = 4) : cst R s e = 0 := by
  have := h.2.2.2.2.2.2.2.2.2.2.2.2.2.2.1 s.toNat (by omega)
  unfold cst
  rcases he with rfl | rfl
  · rw [show (s * 5 + 0).toNat = s.toNat * 5 by omega]; exact this.1
  · rw [show (s * 5 + 4).toNat = s.toNat * 5 + 4 by omega]; exact this.2
section
variable {d : Nat} {Q : AV → Mem → Prop} {X : Nat → Mem → Prop}
/-- one week of the reference's run -/
theorem m_runWeek {M : Mem} {R : RT} {w p b g gone cost k : Int} {z1 z8 z9 z10 : AV} (hM : MR R M) (h : WR R) (hn1 : 1 ≤ R 4 1) (sv : Solved R M) (hS : Sta R p b) (hfit : ∀ s : Int, 0 ≤ s → s < 3 → dg p s ≤ stp R s) (hno : ¬ ovP w p b) (hw : 1 ≤ w ∧ w ≤ R 4 2) (hgo : gone = R 4 2 - w) (hcost : 0 ≤ cost ∧ cost ≤ 10000)
    (hq : ∀ M' z8 z9 z10, Fs (fun t _ _ => t = 79) M M' → At (d + 3) kMo_run 41 [vr 10 0, z1, vi k, vi (dvM R w (cd p b) (rwX R w (cd p b)) g).1, vi (ct p (dvM R w (cd p b) (rwX R w (cd p b)) g).2), vi (ia b (dr (rwX R w (cd p b)) 0) (dr (rwX R w (cd p b)) 1) (dr (rwX R w (cd p b)) 2)), vi (gone + 1), vi (cost + cA R (rwX R w (cd p b))), z8, z9, z10] [] M' Q X) :
    At (d + 3) kMo_run 41 [vr 10 0, z1, vi k, vi g, vi p, vi b, vi gone, vi cost, z8, z9, z10] [] M Q X := by
  have hb := h.b
  obtain ⟨hg, hw0, hnf, hcd⟩ := ov_no hS.2.1 hno
  have hcdo : cdo p b = cd p b := by unfold cdo; rw [if_neg hnf]
  have hbl := bits_lt ⟨hn1, by omega⟩ hS
  have e13 : M.1 10 0 13 = R 4 2 := hM.2.1
  have e20 : M.1 10 0 20 = R 4 1 := hM.1
  have ew : w32 (M.1 10 0 13 - gone) = w := by rw [e13, hgo, w32_id (by omega)]; omega
  have hfp : fitsP R p := ⟨hfit 0 (by omega) (by omega), hfit 1 (by omega) (by omega), hfit 2 (by omega) (by omega)⟩
  have hent := sv w p b (by omega) (by omega) hS.1.1 hS.1.2 hfp hbl.1 hbl.2
  have hrow : ∀ s : Int, 0 ≤ s → s < R 4 1 → M.1 75 (tI 0 w p b) s.toNat = dr (rwX R w (cd p b)) s := fun s s0 s1 => by
    rw [rwX_D, ← hcdo]; exact hent.row s0 s1
  generalize hr : rwX R w (cd p b) = r at *
  have hcan : ∀ s : Int, 0 ≤ s → s < 3 → canP R w (cd p b) s (dr r s) := fun s s0 s3 => by rw [← hr]; exact can_rw ⟨s0, s3⟩
  have hfx : fitsP R (cd p b) := fits_cd hfit
  have hrn : ∀ s : Int, 0 ≤ s → s < 3 → R 4 1 ≤ s → dr r s = 0 := fun s s0 s3 hs => can_nin h hfx s0 s3 hs (hcan s s0 s3)
  rw [bMo_run_41, ew, m_isOver (d := d + 1) hM h hS, if_neg hno, KV_eq, bMo_run_49, if_neg (by omega), bMo_run_50, ew]
  refine loop_up (fun s M' => At (d + 3) kMo_run 59 [vr 10 0, z1, vi k, vi g, vi p, vi b, vi gone, vi cost, vi w, vi 0, vi s] [] M' Q X) (fun s M' => Fs (fun t _ _ => t = 79) M M' ∧ ∀ e : Int, 0 ≤ e → e < s → M'.1 79 0 e.toNat = dr r e) 0 (R 4 1) ?_ ?_ 0 M (by omega) (by omega) ⟨Fs.rf, fun e a b => by omega⟩
  · intro M1 h1
    obtain ⟨f1, r1⟩ := h1
    have hM1 : MR R M1 := hM.fs f1 (fun t i j z => by omega)
    have e20' : M1.1 10 0 20 = R 4 1 := hM1.1
    show At _ _ _ _ _ _ _ _
    rw [bMo_run_59, e20', if_pos (by omega), bMo_run_79]
    have hbase := loopN (α := (Int × Int) × Int) (R 4 1) ⟨by omega, by omega⟩ (fun s a => (0 ≤ a.1.2 ∧ a.1.2 < pw s ∧ 0 ≤ a.2 ∧ a.2 ≤ 10000 + 198 * s) → At (d + 3) kMo_run 81 [vr 10 0, z1, vi k, vi a.1.1, vi p, vi b, vi gone, vi a.2, vi w, vi a.1.2, vi s] [] M1 Q X) (fun s a => (dv1 R w (cd p b) r s a.1, a.2 + cst R s (dr r s))) ?_ ?_ ((g, 0), cost) ?_
    · refine hbase ?_
      show (0 : Int) ≤ 0 ∧ (0 : Int) < pw 0 ∧ 0 ≤ cost ∧ cost ≤ 10000 + 198 * 0
      have : pw 0 = 1 := rfl
      omega
    · intro s a s0 s1 hA hbd
      have hdr := dr_R r s
      have hc := h.cst s (dr r s) (by omega) (by omega)
      have e1 : w32 (s + 1) = s + 1 := w32_id (by omega)
      have hD := dv1_R (R := R) (w := w) (x := cd p b) (r := r) (s := s) (D := a.1) (by omega) ⟨hbd.1, hbd.2.1⟩
      have hpw : pw (s + 1) = 2 * pw s := by rcases (by omega : s = 0 ∨ s = 1 ∨ s = 2) with rfl | rfl | rfl <;> rfl
      have hA' := hA ⟨hD.1, by rw [hpw]; exact hD.2.1, by show 0 ≤ a.2 + _; omega, by show a.2 + _ ≤ _; omega⟩
      show At _ _ _ _ _ _ _ _
      rw [bMo_run_81, e20', if_neg (by omega), bMo_run_85 (by omega), r1 s s0 s1, m_in, KV_eq, bMo_run_92]
      change At (d + 3) kMo_run 81 [vr 10 0, z1, vi k, vi (dv1 R w (cd p b) r s a.1).1, vi p, vi b, vi gone, vi (a.2 + cst R s (dr r s)), vi w, vi (dv1 R w (cd p b) r s a.1).2, vi (s + 1)] [] M1 Q X at hA'
      unfold dv1 at hA'
      by_cases hin : 1 ≤ dr r s ∧ dr r s ≤ 3
      · rw [if_pos hin] at hA'
        rw [if_pos (by rw [if_pos hin]; omega), bMo_run_94 (by omega), r1 s s0 s1, m_costOf (d := d + 1) hM1 h (by omega) (by omega), KV_eq, bMo_run_102 (by omega), r1 s s0 s1, m_chanceOf (d := d + 1) (w := w) hM1 h hS hg (by omega) (by omega) (hcan s s0 (by omega)), KV_eq, bMo_run_125]
        have hsum : w32 (a.2 + cst R s (dr r s)) = a.2 + cst R s (dr r s) := w32_id (by omega)
        change At (d + 3) kMo_run 81 [vr 10 0, z1, vi k, vi (nd a.1.1), vi p, vi b, vi gone, vi (a.2 + cst R s (dr r s)), vi w, vi (a.1.2 + (if rn (nd a.1.1) < chn R w (cd p b) s (dr r s) then pw s else 0)), vi (s + 1)] [] M1 Q X at hA'
        by_cases hl : rn (nd a.1.1) < chn R w (cd p b) s (dr r s)
        · rw [if_pos hl] at hA'
          rw [if_neg (by unfold rn nd at hl; omega), bMo_run_126, bMo_run_131, kl_vi, bMo_run_133, e1, bshl_pw (by omega), bor_add ⟨hbd.1, hbd.2.1⟩ (by omega), hsum]
          exact hA'
        · rw [if_neg hl, Int.add_zero] at hA'
          have hbz : bor a.1.2 0 = a.1.2 := by
            have hp : pw s = 1 ∨ pw s = 2 ∨ pw s = 4 := by rcases (by omega : s = 0 ∨ s = 1 ∨ s = 2) with rfl | rfl | rfl <;> simp [pw]
            rcases (by omega : a.1.2 = 0 ∨ a.1.2 = 1 ∨ a.1.2 = 2 ∨ a.1.2 = 3) with e | e | e | e <;> rw [e] <;> rfl
          rw [if_pos (by unfold rn nd at hl; omega), bMo_run_130, bMo_run_131, kl_vi, bMo_run_133, e1, hbz, hsum]
          exact hA'
      · rw [if_neg hin] at hA'
        rw [if_neg (by rw [if_neg hin]; omega), bMo_run_93, bMo_run_133, e1]
        rw [cst_z h (by omega) (by omega), Int.add_zero] at hA'
        exact hA'
    · intro s a s0 s1
      have e := hrn s (by omega) s1 s0
      show (dv1 R w (cd p b) r s a.1, a.2 + cst R s (dr r s)) = a
      rw [e, cst_z h (by omega) (Or.inl rfl), Int.add_zero]
      unfold dv1
      rw [e, if_neg (by omega)]
    · intro _
      have hiz : ∀ s : Int, 0 ≤ s → s < 3 → bit b s = 1 → M1.1 79 0 s.toNat = dr r s := fun s s0 s3 hbs => by
        by_cases hsn : s < R 4 1
        · exact r1 s s0 hsn
        · have := (hS.2.2 s s0 s3 (by omega)).2; omega
      have hia := ia_cg (b := b) (hiz 0 (by omega) (by omega)) (hiz 1 (by omega) (by omega)) (hiz 2 (by omega) (by omega))
      have hcz : cost + cst R 0 (dr r 0) + cst R 1 (dr r 1) + cst R 2 (dr r 2) = cost + cA R r := by unfold cA; omega
      show At (d + 3) kMo_run 81 [vr 10 0, z1, vi k, vi (dvM R w (cd p b) r g).1, vi p, vi b, vi gone, vi (cost + cst R 0 (dr r 0) + cst R 1 (dr r 1) + cst R 2 (dr r 2)), vi w, vi (dvM R w (cd p b) r g).2, vi (R 4 1)] [] M1 Q X
      rw [bMo_run_81, e20', if_pos (by omega), bMo_run_135, m_inAfter (d := d + 2) hM1 h hS.2.1 (fun s s0 s3 hs => (hS.2.2 s s0 s3 hs).2), KV_eq, bMo_run_138]
      have hia' : ia b (M1.1 79 0 0) (M1.1 79 0 1) (M1.1 79 0 2) = ia b (dr r 0) (dr r 1) (dr r 2) := hia
      rw [hia', m_comesTo (d := d + 2) hS.1 (dvM_R (R := R) (w := w) (x := cd p b) (r := r) (g := g)).1, KV_eq, bMo_run_143, hcz, w32_id (by omega)]
      exact hq M1 _ _ _ f1
  · intro s M1 s0 s1 h1 hnx
    obtain ⟨f1, r1⟩ := h1
    have hM1 : MR R M1 := hM.fs f1 (fun t i j z => by omega)
    have e20' : M1.1 10 0 20 = R 4 1 := hM1.1
    have e75 : M1.1 75 (((0 * 7 + w.toNat) * 125 + p.toNat) * 8 + b.toNat) s.toNat = dr r s := by
      rw [f1.g1 75 _ _ (by omega)]; exact hrow s s0 s1
    show At _ _ _ _ _ _ _ _
    rw [bMo_run_59, e20', if_neg (by omega), bMo_run_63 ⟨by omega, hS.1, hS.2.1, by omega, by omega⟩, e75, w32_id (by omega)]
    refine hnx _ ⟨f1.sI rfl, ?_⟩
    intro e e0 e1
    by_cases ee : e = s
    · subst ee; exact sI_eq
    · rw [sI_ne (by omega)]; exact r1 e e0 (by omega)
theorem m_runLoop {M0 : Mem} {R : RT} {g0 k : Int} {z1 : AV} (h : WR R) (hn1 : 1 ≤ R 4 1) : ∀ (n : Nat) (S : DS) (p b : Int) (M : Mem) (z8 z9 z10 : AV), (n : Int) ≤ R 4 2 → Fs (fun t _ _ => t = 79) M0 M → MR R M → Solved R M → RnI R S p b → S.2.2.2.2 = R 4 2 - n → (0 ≤ S.2.2.2.1 ∧ S.2.2.2.1 ≤ 600 * (R 4 2 - n)) →
    (∀ M' p' b' g' z8 z9 z10, Fs (fun t _ _ => t = 79) M0 M' → MR R M' → Solved R M' → RnI R (dvR R n S) p' b' → At (d + 3) kMo_run 146 [vr 10 0, z1, vi k, vi g', vi p', vi b', vi (dvR R n S).2.2.2.2, vi (dvR R n S).2.2.2.1, z8, z9, z10] [] M' Q X) →
    At (d + 3) kMo_run 41 [vr 10 0, z1, vi k, vi S.1, vi p, vi b, vi S.2.2.2.2, vi S.2.2.2.1, z8, z9, z10] [] M Q X := by
  intro n
  have hb := h.b
  induction n with
  | zero =>
    intro S p b M z8 z9 z10 hn f hM sv hI hgo hc hq
    have ew : w32 (M.1 10 0 13 - S.2.2.2.2) = 0 := by rw [hM.2.1, hgo, w32_id (by omega)]; omega
    rw [bMo_run_41, ew, m_isOver (d := d + 1) hM h hI.1, if_pos (Or.inl rfl), KV_eq, bMo_run_49, if_pos (by omega)]
    exact hq M p b _ _ _ _ f hM sv hI
  | succ n ih =>
    intro S p b M z8 z9 z10 hn f hM sv hI hgo hc hq
    have hdv : dvR R (n + 1) S = if S.2.1 ≤ 0 ∨ S.2.2.1 ≠ 0 then S else dvR R n (dvS R ((n : Int) + 1) S) := rfl
    have ew : w32 (M.1 10 0 13 - S.2.2.2.2) = (n : Int) + 1 := by rw [hM.2.1, hgo, w32_id (by omega)]; omega
    by_cases ho : ovP ((n : Int) + 1) p b
    · have hst : S.2.1 ≤ 0 ∨ S.2.2.1 ≠ 0 := by
        by_cases hf : hfP p b
        · right; rw [← hI.2.2.1]; exact fun z => wnb_0.mp z hf
        · left
          have hb0 : b = 0 := by
            rcases ho with ho | ho | ho
            · omega
            · exact ho
            · exact absurd ho hf
          rw [← hI.2.2.2, (cd_0 hI.1.2.1 (gng_of hf)).mpr hb0]; omega
      rw [hdv, if_pos hst] at hq
      rw [bMo_run_41, ew, m_isOver (d := d + 1) hM h hI.1, if_pos ho, KV_eq, bMo_run_49, if_pos (by omega)]
      exact hq M p b _ _ _ _ f hM sv hI
    · obtain ⟨hg, hw0, hnf, hcd⟩ := ov_no hI.1.2.1 ho
      have hcr := cd_R p b
      have hst : ¬ (S.2.1 ≤ 0 ∨ S.2.2.1 ≠ 0) := by
        rw [← hI.2.2.1, ← hI.2.2.2]
        intro z
        rcases z with z | z
        · omega
        · exact z (wnb_0.mpr hnf)
      rw [hdv, if_neg hst] at hq
      have hx := hI.2.2.2
      have hca : 0 ≤ cA R (rwX R ((n : Int) + 1) (cd p b)) ∧ cA R (rwX R ((n : Int) + 1) (cd p b)) ≤ 600 := by
        have q0 := h.cst 0 (dr (rwX R ((n : Int) + 1) (cd p b)) 0) (by omega) (by have := dr_R (rwX R ((n : Int) + 1) (cd p b)) 0; omega)
        have q1 := h.cst 1 (dr (rwX R ((n : Int) + 1) (cd p b)) 1) (by omega) (by have := dr_R (rwX R ((n : Int) + 1) (cd p b)) 1; omega)
        have q2 := h.cst 2 (dr (rwX R ((n : Int) + 1) (cd p b)) 2) (by omega) (by have := dr_R (rwX R ((n : Int) + 1) (cd p b)) 2; omega)
        unfold cA; omega
      refine m_runWeek (w := (n : Int) + 1) hM h hn1 sv hI.1 hI.2.1 ho (by omega) (by omega) (by omega) ?_
      intro M1 y8 y9 y10 f1
      have hend := end_eq h (p := p) (b := b) (m := (dvM R ((n : Int) + 1) (cd p b) (rwX R ((n : Int) + 1) (cd p b)) S.1).2) (d0 := dr (rwX R ((n : Int) + 1) (cd p b)) 0) (d1 := dr (rwX R ((n : Int) + 1) (cd p b)) 1) (d2 := dr (rwX R ((n : Int) + 1) (cd p b)) 2) hI.1 hg (by
        intro j j0 j3 hbj
        have hr := (dvM_R (R := R) (w := (n : Int) + 1) (x := cd p b) (r := rwX R ((n : Int) + 1) (cd p b)) (g := S.1)).2 j j0 j3 hbj
        have hcn := can_rw (R := R) (w := (n : Int) + 1) (x := cd p b) (s := j) ⟨j0, j3⟩
        have e3 : d3 (dr (rwX R ((n : Int) + 1) (cd p b)) 0) (dr (rwX R ((n : Int) + 1) (cd p b)) 1) (dr (rwX R ((n : Int) + 1) (cd p b)) 2) j = dr (rwX R ((n : Int) + 1) (cd p b)) j := by
          rcases (by omega : j = 0 ∨ j = 1 ∨ j = 2) with rfl | rfl | rfl <;> rfl
        refine ⟨?_, by rw [e3]; omega⟩
        rcases hcn with hz | hz
        · omega
        · have hd := hz.1
          rw [dg_cd ⟨j0, j3⟩] at hd
          unfold lsp at hd
          by_cases hbb : bit b j = 1
          · exact hbb
          · rw [if_neg hbb] at hd; omega)
      have hI' : RnI R (dvS R ((n : Int) + 1) S) (ct p (dvM R ((n : Int) + 1) (cd p b) (rwX R ((n : Int) + 1) (cd p b)) S.1).2) (ia b (dr (rwX R ((n : Int) + 1) (cd p b)) 0) (dr (rwX R ((n : Int) + 1) (cd p b)) 1) (dr (rwX R ((n : Int) + 1) (cd p b)) 2)) := by
        refine ⟨hend.1, fun s s0 s3 => Int.le_trans (hend.2.1 s s0 s3) (hI.2.1 s s0 s3), ?_, ?_⟩
        · unfold dvS; rw [← hx]; exact hend.2.2.1
        · unfold dvS; rw [← hx]; exact hend.2.2.2.1
      have hM1 : MR R M1 := hM.fs f1 (fun t i j z => by omega)
      have sv1 : Solved R M1 := sv.fs (by omega) ⟨hn1, by omega⟩ f1 (fun t i j z => by omega)
      have e1 : (dvM R ((n : Int) + 1) (cd p b) (rwX R ((n : Int) + 1) (cd p b)) S.1).1 = (dvS R ((n : Int) + 1) S).1 := by unfold dvS; rw [← hx]
      have e2 : S.2.2.2.2 + 1 = (dvS R ((n : Int) + 1) S).2.2.2.2 := rfl
      have e3 : S.2.2.2.1 + cA R (rwX R ((n : Int) + 1) (cd p b)) = (dvS R ((n : Int) + 1) S).2.2.2.1 := by unfold dvS; rw [← hx]
      have b3 : 0 ≤ (dvS R ((n : Int) + 1) S).2.2.2.1 ∧ (dvS R ((n : Int) + 1) S).2.2.2.1 ≤ 600 * (R 4 2 - n) := by rw [← e3]; omega
      rw [e1, e2, e3]
      exact ih (dvS R ((n : Int) + 1) S) _ _ M1 _ _ _ (by omega) (f.tr f1) hM1 sv1 hI' (by rw [← e2]; omega) b3 hq
theorem m_runEnd {M : Mem} {R : RT} {p b gone cost k : Int} {z1 z3 z8 z9 z10 : AV} (hM : MR R M) (h : WR R) (hS : Sta R p b) (hq : Q (vi (if k = 0 then gone else if k = 1 then wnb p b else if k = 2 then cost else b)) M) :
    At (d + 3) kMo_run 146 [vr 10 0, z1, vi k, z3, vi p, vi b, vi gone, vi cost, z8, z9, z10] [] M Q X := by
  have hb := h.b
  have e20 : M.1 10 0 20 = R 4 1 := hM.1
  rw [bMo_run_146]
  have hbase := loopN (α := Int) (R 4 1) ⟨by omega, by omega⟩ (fun s a => (0 ≤ a ∧ a < pw s) → At (d + 3) kMo_run 150 [vr 10 0, z1, vi k, z3, vi p, vi b, vi gone, vi cost, vi a, vi s, z10] [] M Q X) (fun s a => a + zj p b s * pw s) ?_ ?_ 0 ?_
  · exact hbase (by show (0 : Int) ≤ 0 ∧ (0 : Int) < pw 0; have : pw 0 = 1 := rfl; omega)
  · intro s a s0 s1 hA hbd
    have hz := zj_R p b s
    have e1 : w32 (s + 1) = s + 1 := w32_id (by omega)
    have hpw : pw (s + 1) = 2 * pw s := by rcases (by omega : s = 0 ∨ s = 1 ∨ s = 2) with rfl | rfl | rfl <;> rfl
    have hA' := hA (by
      show 0 ≤ a + zj p b s * pw s ∧ a + zj p b s * pw s < pw (s + 1)
      rcases (by omega : zj p b s = 0 ∨ zj p b s = 1) with e | e <;> rw [e, hpw] <;> omega)
    change At (d + 3) kMo_run 150 [vr 10 0, z1, vi k, z3, vi p, vi b, vi gone, vi cost, vi (a + zj p b s * pw s), vi (s + 1), z10] [] M Q X at hA'
    have hbz : bor a 0 = a := by
      have hp : pw s = 1 ∨ pw s = 2 ∨ pw s = 4 := by rcases (by omega : s = 0 ∨ s = 1 ∨ s = 2) with rfl | rfl | rfl <;> simp [pw]
      rcases (by omega : a = 0 ∨ a = 1 ∨ a = 2 ∨ a = 3) with e | e | e | e <;> rw [e] <;> rfl
    show At _ _ _ _ _ _ _ _
    rw [bMo_run_150, e20, if_neg (by omega), bMo_run_154, m_isIn (d := d + 2) hS.2.1 (by omega), KV_eq, bMo_run_158]
    unfold zj at hA'
    have hbr := bit_R b s
    by_cases hbs : bit b s = 1
    · rw [if_neg (by omega), bMo_run_159, m_stepsOf (d := d + 2) hS.1, KV_eq, bMo_run_162]
      by_cases hds : dg p s = 0
      · rw [if_pos ⟨hbs, hds⟩, Int.one_mul] at hA'
        rw [if_neg (fun z => z hds), bMo_run_163, bMo_run_168, e1, bshl_pw (by omega), bor_add hbd (by omega)]
        exact hA'
      · rw [if_neg (fun z => hds z.2), Int.zero_mul, Int.add_zero] at hA'
        rw [if_pos hds, bMo_run_167, bMo_run_168, e1, hbz]
        exact hA'
    · rw [if_neg (fun z => hbs z.1), Int.zero_mul, Int.add_zero] at hA'
      rw [if_pos (by omega), bMo_run_167, bMo_run_168, e1, hbz]
      exact hA'
  · intro s a s0 s1
    have := (hS.2.2 s (by omega) s1 s0).2
    show a + zj p b s * pw s = a
    unfold zj
    rw [if_neg (by omega), Int.zero_mul, Int.add_zero]
  · intro _
    have e : 0 + zj p b 0 * pw 0 + zj p b 1 * pw 1 + zj p b 2 * pw 2 = wnb p b := by
      have p0 : pw 0 = 1 := rfl
      have p1 : pw 1 = 2 := rfl
      have p2 : pw 2 = 4 := rfl
      unfold wnb; rw [p0, p1, p2]; omega
    show At (d + 3) kMo_run 150 [vr 10 0, z1, vi k, z3, vi p, vi b, vi gone, vi cost, vi (0 + zj p b 0 * pw 0 + zj p b 1 * pw 1 + zj p b 2 * pw 2), vi (R 4 1), z10] [] M Q X
    rw [e, bMo_run_150, e20, if_pos (by omega), bMo_run_172]
    by_cases k0 : k = 0
    · rw [if_pos k0] at hq
      rw [if_neg (fun z => z k0), bMo_run_174, bMo_run_187]; exact hq
    rw [if_neg k0] at hq
    rw [if_pos k0, bMo_run_176]
    by_cases k1 : k = 1
    · rw [if_pos k1] at hq
      rw [if_neg (fun z => z k1), bMo_run_179, bMo_run_187]; exact hq
    rw [if_neg k1] at hq
    rw [if_pos k1, bMo_run_181]
    by_cases k2 : k = 2
    · rw [if_pos k2] at hq
      rw [if_neg (fun z => z k2), bMo_run_184, bMo_run_187]; exact hq
    rw [if_neg k2] at hq
    rw [if_pos k2, bMo_run_186, bMo_run_187]; exact hq
end
