/-! LAYER 3, WHAT GOES BY: the reference, all weeks -/
def csU (R : RT) (r s : Int) : Int := (if 0 < s then cst R 0 (dr r 0) else 0) + (if 1 < s then cst R 1 (dr r 1) else 0) + (if 2 < s then cst R 2 (dr r 2) else 0)
theorem csU_s {R : RT} {r s : Int} (hs : 0 ≤ s ∧ s < 3) : csU R r (s + 1) = csU R r s + cst R s (dr r s) := by
  unfold csU
  rcases (by omega : s = 0 ∨ s = 1 ∨ s = 2) with rfl | rfl | rfl
  · rw [if_pos (by omega), if_neg (by omega), if_neg (by omega), if_neg (by omega), if_neg (by omega), if_neg (by omega)]; omega
  · rw [if_pos (by omega), if_pos (by omega), if_neg (by omega), if_pos (by omega), if_neg (by omega), if_neg (by omega)]; omega
  · rw [if_pos (by omega), if_pos (by omega), if_pos (by omega), if_pos (by omega), if_pos (by omega), if_neg (by omega)]; omega
def cdI (i : Int) : Int := cd (i / 8) (i % 8)
/-- a state that may have mass -/
def OkS (R : RT) (i : Int) : Prop := (0 ≤ i ∧ i < 1000) ∧ Sta R (i / 8) (i % 8) ∧ (∀ s : Int, 0 ≤ s → s < 3 → dg (i / 8) s ≤ stp R s) ∧ ¬ hfP (i / 8) (i % 8)
section
variable {d : Nat} {Q : AV → Mem → Prop} {X : Nat → Mem → Prop}
theorem m_flows {M : Mem} {R : RT} {w p b k : Int} {G : GS} (hM : MR R M) (h : WR R) (hn1 : 1 ≤ R 4 1) (sv : Solved R M) (hS : Sta R p b) (hfit : ∀ s : Int, 0 ≤ s → s < 3 → dg p s ≤ stp R s) (hno : ¬ ovP w p b) (hw : 1 ≤ w ∧ w ≤ R 4 2) (hk : 0 < k ∧ k ≤ 68719476736) (hm : M.2 104 (0 * 125 + p.toNat) b.toNat = Int64.ofInt k) (hA : WAm G.1 M) (hr : Rm 106 G.2 M)
    (hq : ∀ M', Fs pFl M M' → WAm (mFl R w p b k (pw (R 4 1)).toNat (fun q => G.1 q + k * cQ R q w (cd p b), G.2)).1 M' → Rm 106 (mFl R w p b k (pw (R 4 1)).toNat (fun q => G.1 q + k * cQ R q w (cd p b), G.2)).2 M' → Q (vi 0) M') : Call (d + 4) qMo_flows [vr 10 0, vi w, vi p, vi b] M Q X := by
  have hb := h.b
  obtain ⟨hg, hw0, hnf, hcd⟩ := ov_no hS.2.1 hno
  have hcdo : cdo p b = cd p b := by unfold cdo; rw [if_neg hnf]
  have hbl := bits_lt ⟨hn1, by omega⟩ hS
  have hfp : fitsP R p := ⟨hfit 0 (by omega) (by omega), hfit 1 (by omega) (by omega), hfit 2 (by omega) (by omega)⟩
  have hent := sv w p b (by omega) (by omega) hS.1.1 hS.1.2 hfp hbl.1 hbl.2
  have hrow : ∀ s : Int, 0 ≤ s → s < R 4 1 → M.1 75 (((0 * 7 + w.toNat) * 125 + p.toNat) * 8 + b.toNat) s.toNat = dr (rwX R w (cd p b)) s := fun s s0 s1 => by
    rw [rwX_D, ← hcdo]; exact hent.row s0 s1
  have hcan : ∀ s : Int, 0 ≤ s → s < 3 → canP R w (cd p b) s (dr (rwX R w (cd p b)) s) := fun s s0 s3 => can_rw ⟨s0, s3⟩
  have hfx : fitsP R (cd p b) := fits_cd hfit
  obtain ⟨q1, q2, q3, q4⟩ := hA
  rw [eMo_flows, bMo_flows_0 ⟨hS.1, hS.2.1⟩, hm]
  refine loop_up (fun s M' => At (d + 3) kMo_flows 9 [vr 10 0, vi w, vi p, vi b, vl (Int64.ofInt k), JK, vi s, JK, JK, JK, JK, JK, JK, JK] [] M' Q X) (fun s M' => Fs (fun t i j => t = 79 ∨ t = 112 ∨ (t = 10 ∧ i = 0 ∧ j = 62)) M M' ∧ (∀ e : Int, 0 ≤ e → e < s → M'.1 79 0 e.toNat = dr (rwX R w (cd p b)) e ∧ M'.1 112 0 e.toNat = chn R w (cd p b) e (dr (rwX R w (cd p b)) e)) ∧ M'.2 10 0 62 = Int64.ofInt (G.1 1 + k * (scI (R 4 1) w * csU R (rwX R w (cd p b)) s))) 0 (R 4 1) ?_ ?_ 0 M (by omega) (by omega) ⟨Fs.rf, fun e a b => by omega, ?_⟩
  · rintro M1 ⟨f1, r1, w1⟩
    have hM1 : MR R M1 := hM.fs f1 (fun t i j z => by omega)
    have hcs : csU R (rwX R w (cd p b)) (R 4 1) = cA R (rwX R w (cd p b)) := by
      have hz : ∀ s : Int, 0 ≤ s → s < 3 → R 4 1 ≤ s → cst R s (dr (rwX R w (cd p b)) s) = 0 := fun s s0 s3 hs => by
        rw [can_nin h hfx s0 s3 hs (hcan s s0 s3)]; exact cst_z h ⟨s0, s3⟩ (Or.inl rfl)
      unfold csU cA
      rw [if_pos (by omega)]
      by_cases n2 : 1 < R 4 1
      · rw [if_pos n2]
        by_cases n3 : 2 < R 4 1
        · rw [if_pos n3]
        · rw [if_neg n3, hz 2 (by omega) (by omega) (by omega)]
      · rw [if_neg n2, if_neg (by omega), hz 1 (by omega) (by omega) (by omega), hz 2 (by omega) (by omega) (by omega)]
    rw [hcs] at w1
    have hiz : ∀ s : Int, 0 ≤ s → s < 3 → bit b s = 1 → M1.1 79 0 s.toNat = dr (rwX R w (cd p b)) s := fun s s0 s3 hbs => by
      by_cases hsn : s < R 4 1
      · exact (r1 s s0 hsn).1
      · have := (hS.2.2 s s0 s3 (by omega)).2; omega
    have hia : ia b (M1.1 79 0 0) (M1.1 79 0 1) (M1.1 79 0 2) = ia b (dr (rwX R w (cd p b)) 0) (dr (rwX R w (cd p b)) 1) (dr (rwX R w (cd p b)) 2) := ia_cg (b := b) (hiz 0 (by omega) (by omega)) (hiz 1 (by omega) (by omega)) (hiz 2 (by omega) (by omega))
    have hM2 : ∀ v, MR R (sL M1 10 0 61 v) := fun v => hM1.fs (P := fun t i j => t = 10 ∧ i = 0 ∧ j = 61) (Fs.rf.sL ⟨rfl, rfl, rfl⟩) (fun t i j z => by omega)
    show At _ _ _ _ _ _ _ _
    rw [bMo_flows_9, hM1.1, if_pos (by omega), bMo_flows_63, hM1.1, m_scale (by omega) (by omega), KV_eq, bMo_flows_72, m_inAfter (hM2 _) h hS.2.1 (fun s s0 s3 hs => (hS.2.2 s s0 s3 hs).2), KV_eq, bMo_flows_78]
    have hia' : ∀ v, ia b ((sL M1 10 0 61 v).1 79 0 0) ((sL M1 10 0 61 v).1 79 0 1) ((sL M1 10 0 61 v).1 79 0 2) = ia b (dr (rwX R w (cd p b)) 0) (dr (rwX R w (cd p b)) 1) (dr (rwX R w (cd p b)) 2) := fun v => hia
    rw [hia']
    refine m_flMade (G := (fun q => G.1 q + k * cQ R q w (cd p b), G.2)) (hM2 _) h hn1 hS hg hw hk (fun s s0 s1 => (r1 s s0 s1).2) ⟨?_, ?_, ?_, fun s s0 s3 => ?_⟩ ?_ ?_ _ _ _ _ _ _
    · show _ = Int64.ofInt (G.1 0 + k * scI (R 4 1) w)
      rw [sL_eq, f1.g2 10 0 61 (by omega), q1, ofI_add, ofI_mul, sc_I]
    · show _ = Int64.ofInt (G.1 1 + k * (scI (R 4 1) w * cA R (rwX R w (cd p b))))
      rw [sL2, if_neg (by omega)]; exact w1
    · show _ = Int64.ofInt (G.1 2 + k * 0)
      rw [sL2, if_neg (by omega), f1.g2 10 0 63 (by omega), q3, Int.mul_zero, Int.add_zero]
    · have e0 : cQ R (3 + s.toNat) w (cd p b) = 0 := by unfold cQ; rw [if_neg (by omega), if_neg (by omega)]
      show _ = Int64.ofInt (G.1 (3 + s.toNat) + k * cQ R (3 + s.toNat) w (cd p b))
      rw [sL2, if_neg (by omega), f1.g2 102 0 _ (by omega), q4 s s0 s3, e0, Int.mul_zero, Int.add_zero]
    · intro p2 b2 a1 a2 a3 a4
      rw [sL2, if_neg (by omega), f1.g2 106 _ _ (by omega)]; exact hr p2 b2 a1 a2 a3 a4
    · intro M3 f3 a3 r3
      exact hq M3 (((f1.mono (fun t i j z => by omega)).sL (by omega)).tr f3) a3 r3
  · rintro s M1 s0 s1 ⟨f1, r1, w1⟩ hn
    have hM1 : MR R M1 := hM.fs f1 (fun t i j z => by omega)
    have e75 : M1.1 75 (((0 * 7 + w.toNat) * 125 + p.toNat) * 8 + b.toNat) s.toNat = dr (rwX R w (cd p b)) s := by
      rw [f1.g1 75 _ _ (by omega)]; exact hrow s s0 s1
    have hdr := dr_R (rwX R w (cd p b)) s
    have hM2 : ∀ v, MR R (sI M1 79 0 s.toNat v) := fun v => hM1.fs (P := fun t i j => t = 79) (Fs.rf.sI rfl) (fun t i j z => by omega)
    have hM3 : ∀ v v', MR R (sI (sI M1 79 0 s.toNat v) 112 0 s.toNat v') := fun v v' => (hM2 v).fs (P := fun t i j => t = 112) (Fs.rf.sI rfl) (fun t i j z => by omega)
    show At _ _ _ _ _ _ _ _
    rw [bMo_flows_9, hM1.1, if_neg (by omega), bMo_flows_13 ⟨by omega, hS.1, hS.2.1, by omega, by omega, by omega⟩, e75, sI_eq, m_chanceOf (w := w) (hM2 _) h hS hg (by omega) (by omega) (hcan s s0 (by omega)), KV_eq, bMo_flows_39 (by omega), (hM3 _ _).1, m_scale (by omega) (by omega), KV_eq, bMo_flows_49 (by omega), sI_ne (by omega), sI_eq, m_costOf (hM3 _ _) h (by omega) (by omega), KV_eq, bMo_flows_57, w32_id (by omega)]
    refine hn _ ⟨((f1.sI (Or.inl rfl)).sI (Or.inr (Or.inl rfl))).sL (Or.inr (Or.inr ⟨rfl, rfl, rfl⟩)), fun e e0 e1 => ?_, ?_⟩
    · by_cases he : e = s
      · subst he
        refine ⟨?_, ?_⟩
        · rw [sL1, sI_ne (by omega), sI_eq]
        · rw [sL1, sI_eq]
      · rw [sL1, sI_ne (by omega), sI_ne (by omega), sI_ne (by omega), sI_ne (by omega)]
        exact r1 e e0 (by omega)
    · rw [sL_eq, csU_s (by omega), sI2, sI2, w1, sc_I, ← ofI_mul, ← ofI_mul, ← ofI_add]
      congr 1
      rw [Int.mul_add, Int.mul_add, Int.mul_assoc]; omega
  · show _ = Int64.ofInt (G.1 1 + k * (scI (R 4 1) w * 0))
    rw [q2, Int.mul_zero, Int.mul_zero, Int.add_zero]
abbrev pRt (t i j : Nat) : Prop := pFl t i j ∨ t = 104
/-- a week of the reference begins: what lies later is emptied -/
theorem m_rtClear {M : Mem} {w : Int} {z3 : AV} (hq : ∀ M' z2 z3, Fs (fun t _ _ => t = 106) M M' → Rm 106 (fun _ => 0) M' → At (d + 3) kMo_runsThrough 79 [vr 10 0, vi w, z2, z3] [] M' Q X) : At (d + 3) kMo_runsThrough 60 [vr 10 0, vi w, vi 0, z3] [] M Q X := by
  have hloop := loop2I 0 125 0 8 (by omega) (by omega) (fun p M' => ∀ z3, At (d + 3) kMo_runsThrough 60 [vr 10 0, vi w, vi p, z3] [] M' Q X) (fun p b M' => At (d + 3) kMo_runsThrough 65 [vr 10 0, vi w, vi p, vi b] [] M' Q X)
    (fun p b M' => Fs (fun t _ _ => t = 106) M M' ∧ ∀ p' b' : Int, 0 ≤ p' → p' < 125 → 0 ≤ b' → b' < 8 → (p' < p ∨ p' = p ∧ b' < b) → M'.2 106 (0 * 125 + p'.toNat) b'.toNat = 0) ?_ ?_ ?_ ?_ ?_
  · exact hloop M ⟨Fs.rf, by intros; omega⟩ _
  · rintro M' ⟨g1, g2⟩ z3
    rw [bMo_runsThrough_60, if_pos (by omega)]
    exact hq M' _ _ g1 (fun p b a1 a2 a3 a4 => by rw [of00]; exact g2 p b a1 a2 a3 a4 (by omega))
  · rintro p M' p0 p1 - g z3
    rw [bMo_runsThrough_60, if_neg (by omega), bMo_runsThrough_63]; exact g
  · intro p M' p0 p1 g
    rw [bMo_runsThrough_65, if_pos (by omega), bMo_runsThrough_77, w32_id (by omega)]; exact g _
  · rintro p b M' p0 p1 b0 b1 ⟨g1, g2⟩ gk
    rw [bMo_runsThrough_65, if_neg (by omega), bMo_runsThrough_68 (by omega), w32_id (by omega)]
    refine gk _ ⟨g1.sL rfl, fun p' b' a1 a2 a3 a4 a5 => ?_⟩
    by_cases he : p' = p ∧ b' = b
    · obtain ⟨rfl, rfl⟩ := he; exact sL_eq
    · rw [sL2, if_neg (by omega)]; exact g2 p' b' a1 a2 a3 a4 (by omega)
  · rintro p M' p0 p1 ⟨g1, g2⟩
    exact ⟨g1, fun p' b' a1 a2 a3 a4 a5 => g2 p' b' a1 a2 a3 a4 (by omega)⟩
theorem m_rtCopy {M : Mem} {w : Int} {u : Int → Int} {z3 : AV} (hu : Rm 106 u M) (hq : ∀ M' z2 z3, Fs (fun t _ _ => t = 104) M M' → Rm 104 u M' → At (d + 3) kMo_runsThrough 133 [vr 10 0, vi w, z2, z3] [] M' Q X) : At (d + 3) kMo_runsThrough 109 [vr 10 0, vi w, vi 0, z3] [] M Q X := by
  have hloop := loop2I 0 125 0 8 (by omega) (by omega) (fun p M' => ∀ z3, At (d + 3) kMo_runsThrough 109 [vr 10 0, vi w, vi p, z3] [] M' Q X) (fun p b M' => At (d + 3) kMo_runsThrough 114 [vr 10 0, vi w, vi p, vi b] [] M' Q X)
    (fun p b M' => Fs (fun t _ _ => t = 104) M M' ∧ ∀ p' b' : Int, 0 ≤ p' → p' < 125 → 0 ≤ b' → b' < 8 → (p' < p ∨ p' = p ∧ b' < b) → M'.2 104 (0 * 125 + p'.toNat) b'.toNat = Int64.ofInt (u (p' * 8 + b'))) ?_ ?_ ?_ ?_ ?_
  · exact hloop M ⟨Fs.rf, by intros; omega⟩ _
  · rintro M' ⟨g1, g2⟩ z3
    rw [bMo_runsThrough_109, if_pos (by omega)]
    exact hq M' _ _ g1 (fun p b a1 a2 a3 a4 => g2 p b a1 a2 a3 a4 (by omega))
  · rintro p M' p0 p1 - g z3
    rw [bMo_runsThrough_109, if_neg (by omega), bMo_runsThrough_112]; exact g
  · intro p M' p0 p1 g
    rw [bMo_runsThrough_114, if_pos (by omega), bMo_runsThrough_131, w32_id (by omega)]; exact g _
  · rintro p b M' p0 p1 b0 b1 ⟨g1, g2⟩ gk
    rw [bMo_runsThrough_114, if_neg (by omega), bMo_runsThrough_117 (by omega), w32_id (by omega)]
    refine gk _ ⟨g1.sL rfl, fun p' b' a1 a2 a3 a4 a5 => ?_⟩
    by_cases he : p' = p ∧ b' = b
    · obtain ⟨rfl, rfl⟩ := he
      rw [sL_eq, g1.g2 106 _ _ (by omega)]; exact hu p' b' a1 a2 a3 a4
    · rw [sL2, if_neg (by omega)]; exact g2 p' b' a1 a2 a3 a4 (by omega)
  · rintro p M' p0 p1 ⟨g1, g2⟩
    exact ⟨g1, fun p' b' a1 a2 a3 a4 a5 => g2 p' b' a1 a2 a3 a4 (by omega)⟩
theorem m_rtInit {M : Mem} {z2 z3 : AV} (hq : ∀ M' z1 z2 z3, Fs (fun t _ _ => t = 104 ∨ t = 102) M M' → Rm 104 (fun _ => 0) M' → (∀ s : Int, 0 ≤ s → s < 3 → M'.2 102 0 s.toNat = 0) → At (d + 3) kMo_runsThrough 44 [vr 10 0, z1, z2, z3] [] M' Q X) : At (d + 3) kMo_runsThrough 13 [vr 10 0, vi 0, z2, z3] [] M Q X := by
  refine loop_up (fun s M' => At (d + 3) kMo_runsThrough 13 [vr 10 0, vi s, z2, z3] [] M' Q X) (fun s M' => Fs (fun t _ _ => t = 104 ∨ t = 102) M M' ∧ ∀ e : Int, 0 ≤ e → e < s → M'.2 102 0 e.toNat = 0) 0 3 ?_ ?_ 0 M (by omega) (by omega) ⟨Fs.rf, fun e a b => by omega⟩
  · rintro M1 ⟨f1, r1⟩
    show At _ _ _ _ _ _ _ _
    rw [bMo_runsThrough_13, if_pos (by omega), bMo_runsThrough_23]
    have hloop := loop2I 0 125 0 8 (by omega) (by omega) (fun p M' => ∀ z2 z3, At (d + 3) kMo_runsThrough 25 [vr 10 0, vi p, z2, z3] [] M' Q X) (fun p b M' => ∀ z3, At (d + 3) kMo_runsThrough 30 [vr 10 0, vi p, vi b, z3] [] M' Q X)
      (fun p b M' => Fs (fun t _ _ => t = 104) M1 M' ∧ ∀ p' b' : Int, 0 ≤ p' → p' < 125 → 0 ≤ b' → b' < 8 → (p' < p ∨ p' = p ∧ b' < b) → M'.2 104 (0 * 125 + p'.toNat) b'.toNat = 0) ?_ ?_ ?_ ?_ ?_
    · exact hloop M1 ⟨Fs.rf, by intros; omega⟩ _ _
    · rintro M' ⟨g1, g2⟩ z2 z3
      rw [bMo_runsThrough_25, if_pos (by omega)]
      exact hq M' _ _ _ (f1.tr (g1.mono (fun t i j z => Or.inl z))) (fun p b a1 a2 a3 a4 => by rw [of00]; exact g2 p b a1 a2 a3 a4 (by omega)) (fun s s0 s3 => by rw [g1.g2 102 _ _ (by omega)]; exact r1 s s0 s3)
    · rintro p M' p0 p1 - g z2 z3
      rw [bMo_runsThrough_25, if_neg (by omega), bMo_runsThrough_28]; exact g _
    · intro p M' p0 p1 g z3
      rw [bMo_runsThrough_30, if_pos (by omega), bMo_runsThrough_42, w32_id (by omega)]; exact g _ _
    · rintro p b M' p0 p1 b0 b1 ⟨g1, g2⟩ gk z3
      rw [bMo_runsThrough_30, if_neg (by omega), bMo_runsThrough_33 (by omega), w32_id (by omega)]
      refine gk _ ⟨g1.sL rfl, fun p' b' a1 a2 a3 a4 a5 => ?_⟩ _
      by_cases he : p' = p ∧ b' = b
      · obtain ⟨rfl, rfl⟩ := he; exact sL_eq
      · rw [sL2, if_neg (by omega)]; exact g2 p' b' a1 a2 a3 a4 (by omega)
    · rintro p M' p0 p1 ⟨g1, g2⟩
      exact ⟨g1, fun p' b' a1 a2 a3 a4 a5 => g2 p' b' a1 a2 a3 a4 (by omega)⟩
  · rintro s M1 s0 s1 ⟨f1, r1⟩ hn
    show At _ _ _ _ _ _ _ _
    rw [bMo_runsThrough_13, if_neg (by omega), bMo_runsThrough_16 (by omega), w32_id (by omega)]
    refine hn _ ⟨f1.sL (Or.inr rfl), fun e e0 e1 => ?_⟩
    by_cases he : e = s
    · subst he; exact sL_eq
    · rw [sL2, if_neg (by omega)]; exact r1 e e0 (by omega)
end
