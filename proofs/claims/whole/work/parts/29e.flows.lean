/-! LAYER 3, WHAT GOES BY: the reference, from one state -/
def WAm (A : Nat → Int) (M : Mem) : Prop := M.2 10 0 61 = Int64.ofInt (A 0) ∧ M.2 10 0 62 = Int64.ofInt (A 1) ∧ M.2 10 0 63 = Int64.ofInt (A 2) ∧ ∀ s : Int, 0 ≤ s → s < 3 → M.2 102 0 s.toNat = Int64.ofInt (A (3 + s.toNat))
def Rm (t : Nat) (u : Int → Int) (M : Mem) : Prop := ∀ p b : Int, 0 ≤ p → p < 125 → 0 ≤ b → b < 8 → M.2 t (0 * 125 + p.toNat) b.toNat = Int64.ofInt (u (p * 8 + b))
abbrev pFl (t _ j : Nat) : Prop := t = 79 ∨ t = 112 ∨ (t = 10 ∧ 61 ≤ j ∧ j ≤ 63) ∨ t = 102 ∨ t = 106
def mFl (R : RT) (w p b k : Int) (n : Nat) (G : GS) : GS := flN k (wI R w (cd p b) (rwX R w (cd p b))) (fun m => won (cd p b) (dvm (rwX R w (cd p b)) m)) (fun m => ct p m * 8 + ia b (dr (rwX R w (cd p b)) 0) (dr (rwX R w (cd p b)) 1) (dr (rwX R w (cd p b)) 2)) (fun m q => eQ R q w (won (cd p b) (dvm (rwX R w (cd p b)) m))) n G
theorem wgt_I {R : RT} {w x r m : Int} : wgt (R 4 1) m (chn R w x 0 (dr r 0)) (chn R w x 1 (dr r 1)) (chn R w x 2 (dr r 2)) = Int64.ofInt (wI R w x r m) := by
  have k : ∀ s : Int, wf (R 4 1) m s (chn R w x s (dr r s)) = Int64.ofInt (wI1 R w x r m s) := by
    intro s
    unfold wf wI1
    by_cases hs : s < R 4 1
    · rw [if_pos hs, if_pos hs]
    · rw [if_neg hs, if_neg hs]; rfl
  unfold wgt wI
  rw [k 0, k 1, k 2, ofI_mul, ofI_mul, Int64.one_mul]
theorem eQ_s {R : RT} {w v s : Int} (hs : 0 ≤ s ∧ s < 3) : eQ R (3 + s.toNat) w v = bit v s * scI (R 4 1) (w - 1) := by
  rcases (by omega : s = 0 ∨ s = 1 ∨ s = 2) with rfl | rfl | rfl <;> rfl
/-- where it ends, if just those of m make a step, as the code tells it -/
theorem end_w {R : RT} (h : WR R) (hn1 : 1 ≤ R 4 1) {w p b m : Int} (hS : Sta R p b) (hg : Gng p b) (hm : 0 ≤ m ∧ m < pw (R 4 1)) (hW : wI R w (cd p b) (rwX R w (cd p b)) m ≠ 0) :
    Sta R (ct p m) (ia b (dr (rwX R w (cd p b)) 0) (dr (rwX R w (cd p b)) 1) (dr (rwX R w (cd p b)) 2)) ∧ (∀ k : Int, 0 ≤ k → k < 3 → dg (ct p m) k ≤ dg p k) ∧ wnb (ct p m) (ia b (dr (rwX R w (cd p b)) 0) (dr (rwX R w (cd p b)) 1) (dr (rwX R w (cd p b)) 2)) = won (cd p b) (dvm (rwX R w (cd p b)) m) ∧ cd (ct p m) (ia b (dr (rwX R w (cd p b)) 0) (dr (rwX R w (cd p b)) 1) (dr (rwX R w (cd p b)) 2)) = aft (cd p b) (dvm (rwX R w (cd p b)) m) ∧ (hfP (ct p m) (ia b (dr (rwX R w (cd p b)) 0) (dr (rwX R w (cd p b)) 1) (dr (rwX R w (cd p b)) 2)) ↔ won (cd p b) (dvm (rwX R w (cd p b)) m) ≠ 0) := by
  have hb := h.b
  refine end_eq h hS hg ?_
  intro j j0 j3 hbj
  obtain ⟨hc, h1, h3⟩ := wI_act ⟨hn1, by omega⟩ hm ⟨j0, j3⟩ hW hbj
  have e3 : d3 (dr (rwX R w (cd p b)) 0) (dr (rwX R w (cd p b)) 1) (dr (rwX R w (cd p b)) 2) j = dr (rwX R w (cd p b)) j := d3_f (f := fun k => dr (rwX R w (cd p b)) k) ⟨j0, j3⟩
  refine ⟨?_, by rw [e3]; omega⟩
  rcases hc with hz | hz
  · omega
  · have hd := hz.1
    rw [dg_cd ⟨j0, j3⟩] at hd
    unfold lsp at hd
    by_cases hbb : bit b j = 1
    · exact hbb
    · rw [if_neg hbb] at hd; omega
section
variable {d : Nat} {Q : AV → Mem → Prop} {X : Nat → Mem → Prop}
/-- who has it -/
theorem m_flFirst {M : Mem} {R : RT} {p' b' w z k : Int} {A : Nat → Int} {y4 : Int64} {z3 z8 z9 : AV} {x1 x2 x7 : Int} (hM : MR R M) (h : WR R) (hS : Sta R p' b') (hA : ∀ s : Int, 0 ≤ s → s < 3 → M.2 102 0 s.toNat = Int64.ofInt (A (3 + s.toNat)))
    (hq : ∀ M' z, Fs (fun t _ _ => t = 102) M M' → (∀ s : Int, 0 ≤ s → s < 3 → M'.2 102 0 s.toNat = Int64.ofInt (A (3 + s.toNat) + bit (wnb p' b') s * k)) → At (d + 3) kMo_flows 163 [vr 10 0, vi x1, vi x2, z3, vl y4, JK, vi b', vi x7, z8, z9, vi p', vl (Int64.ofInt k), JK, z] [] M' Q X) :
    At (d + 3) kMo_flows 139 [vr 10 0, vi x1, vi x2, z3, vl y4, JK, vi b', vi x7, z8, z9, vi p', vl (Int64.ofInt k), JK, vi 0] [] M Q X := by
  have hb := h.b
  refine loop_up (fun s M' => At (d + 3) kMo_flows 139 [vr 10 0, vi x1, vi x2, z3, vl y4, JK, vi b', vi x7, z8, z9, vi p', vl (Int64.ofInt k), JK, vi s] [] M' Q X) (fun s M' => Fs (fun t _ _ => t = 102) M M' ∧ ∀ e : Int, 0 ≤ e → e < 3 → M'.2 102 0 e.toNat = Int64.ofInt (A (3 + e.toNat) + (if e < s then bit (wnb p' b') e * k else 0))) 0 (R 4 1) ?_ ?_ 0 M (by omega) (by omega) ⟨Fs.rf, fun e e0 e3 => by rw [if_neg (by omega), Int.add_zero]; exact hA e e0 e3⟩
  · rintro M' ⟨f, r⟩
    have hM' : MR R M' := hM.fs f (fun t i j z => by omega)
    show At _ _ _ _ _ _ _ _
    rw [bMo_flows_139, hM'.1, if_pos (by omega)]
    refine hq M' _ f (fun s s0 s3 => ?_)
    rw [r s s0 s3]
    by_cases hs : s < R 4 1
    · rw [if_pos hs]
    · have hz := (hS.2.2 s s0 s3 (by omega)).2
      have : bit (wnb p' b') s = 0 := by rw [bit_wnb ⟨s0, s3⟩]; unfold zj; rw [if_neg (by omega)]
      rw [if_neg hs, this, Int.zero_mul]
  · rintro s M' s0 s1 ⟨f, r⟩ hn
    have hM' : MR R M' := hM.fs f (fun t i j z => by omega)
    have hbw : bit (wnb p' b') s = zj p' b' s := bit_wnb ⟨s0, by omega⟩
    have fin : ∀ v : Int, v = zj p' b' s * k → At (d + 3) kMo_flows 159 [vr 10 0, vi x1, vi x2, z3, vl y4, JK, vi b', vi x7, z8, z9, vi p', vl (Int64.ofInt k), JK, vi s] [vl (Int64.ofInt v), vl (M'.2 102 0 s.toNat), vi s, vr 102 0] M' Q X := by
      intro v hv
      rw [bMo_flows_159 (by omega), w32_id (by omega)]
      refine hn _ ⟨f.sL rfl, fun e e0 e3 => ?_⟩
      by_cases he : e = s
      · subst he
        rw [sL_eq, r e e0 e3, if_neg (by omega), if_pos (by omega), Int.add_zero, ← ofI_add, hbw, hv]
      · rw [sL2, if_neg (by omega), r e e0 e3]
        by_cases hc : e < s
        · rw [if_pos hc, if_pos (by omega)]
        · rw [if_neg hc, if_neg (by omega)]
    have hbr := bit_R b' s
    show At _ _ _ _ _ _ _ _
    rw [bMo_flows_139, hM'.1, if_neg (by omega), bMo_flows_143 (by omega), m_isIn hS.2.1 (by omega), KV_eq, bMo_flows_151]
    by_cases hbs : bit b' s = 1
    · rw [if_neg (by omega), bMo_flows_152, m_stepsOf hS.1, KV_eq, bMo_flows_155]
      by_cases hds : dg p' s = 0
      · rw [if_neg (fun z => z hds), bMo_flows_156]
        exact fin k (by unfold zj; rw [if_pos ⟨hbs, hds⟩, Int.one_mul])
      · rw [if_pos hds, bMo_flows_158]
        exact fin 0 (by unfold zj; rw [if_neg (fun z => hds z.2), Int.zero_mul])
    · rw [if_pos (by omega), bMo_flows_158]
      exact fin 0 (by unfold zj; rw [if_neg (fun z => hbs z.1), Int.zero_mul])
/-- all that can be made -/
theorem m_flMade {M0 : Mem} {R : RT} {w p b k : Int} {G : GS} {z3 : AV} (hM : MR R M0) (h : WR R) (hn1 : 1 ≤ R 4 1) (hS : Sta R p b) (hg : Gng p b) (hw : 1 ≤ w ∧ w ≤ R 4 2) (hk : 0 < k ∧ k ≤ 68719476736)
    (h112 : ∀ s : Int, 0 ≤ s → s < R 4 1 → M0.1 112 0 s.toNat = chn R w (cd p b) s (dr (rwX R w (cd p b)) s)) (hA : WAm G.1 M0) (hr : Rm 106 G.2 M0)
    (hq : ∀ M', Fs pFl M0 M' → WAm (mFl R w p b k (pw (R 4 1)).toNat G).1 M' → Rm 106 (mFl R w p b k (pw (R 4 1)).toNat G).2 M' → Q (vi 0) M') (z8 z9 z10 z11 z12 z13 : AV) :
    At (d + 3) kMo_flows 81 [vr 10 0, vi w, vi p, z3, vl (Int64.ofInt k), JK, vi (ia b (dr (rwX R w (cd p b)) 0) (dr (rwX R w (cd p b)) 1) (dr (rwX R w (cd p b)) 2)), vi 0, z8, z9, z10, z11, z12, z13] [] M0 Q X := by
  have hb := h.b
  have hpn := pw_n (n := R 4 1) ⟨hn1, by omega⟩
  refine loop_up (fun m M' => ∀ z8 z9 z10 z11 z12 z13, At (d + 3) kMo_flows 81 [vr 10 0, vi w, vi p, z3, vl (Int64.ofInt k), JK, vi (ia b (dr (rwX R w (cd p b)) 0) (dr (rwX R w (cd p b)) 1) (dr (rwX R w (cd p b)) 2)), vi m, z8, z9, z10, z11, z12, z13] [] M' Q X) (fun m M' => Fs (fun t i j => (t = 10 ∧ 61 ≤ j ∧ j ≤ 63) ∨ t = 102 ∨ t = 106) M0 M' ∧ WAm (mFl R w p b k m.toNat G).1 M' ∧ Rm 106 (mFl R w p b k m.toNat G).2 M') 0 (pw (R 4 1)) ?_ ?_ 0 M0 (by omega) (by omega) ⟨Fs.rf, hA, hr⟩ _ _ _ _ _ _
  · rintro M' ⟨f, a, r⟩ z8 z9 z10 z11 z12 z13
    have hM' : MR R M' := hM.fs f (fun t i j z => by omega)
    rw [bMo_flows_81, hM'.1, bshl_pw (by omega), if_pos (by omega), bMo_flows_165]
    exact hq M' (f.mono (fun t i j z => by omega)) a r
  · rintro m M' m0 m1 ⟨f, hA', hr'⟩ hn z8 z9 z10 z11 z12 z13
    have hM' : MR R M' := hM.fs f (fun t i j z => by omega)
    have hfl := flN_s (k := k) (W := wI R w (cd p b) (rwX R w (cd p b))) (V := fun m => won (cd p b) (dvm (rwX R w (cd p b)) m)) (Y := fun m => ct p m * 8 + ia b (dr (rwX R w (cd p b)) 0) (dr (rwX R w (cd p b)) 1) (dr (rwX R w (cd p b)) 2)) (E := fun m q => eQ R q w (won (cd p b) (dvm (rwX R w (cd p b)) m))) (G := G) m0
    change mFl R w p b k (m + 1).toNat G = fl (k * wI R w (cd p b) (rwX R w (cd p b)) m) (won (cd p b) (dvm (rwX R w (cd p b)) m)) (ct p m * 8 + ia b (dr (rwX R w (cd p b)) 0) (dr (rwX R w (cd p b)) 1) (dr (rwX R w (cd p b)) 2)) (fun q => eQ R q w (won (cd p b) (dvm (rwX R w (cd p b)) m))) (mFl R w p b k m.toNat G) at hfl
    have hn' : ∀ M2, Fs (fun t i j => (t = 10 ∧ 61 ≤ j ∧ j ≤ 63) ∨ t = 102 ∨ t = 106) M0 M2 → WAm (mFl R w p b k (m + 1).toNat G).1 M2 → Rm 106 (mFl R w p b k (m + 1).toNat G).2 M2 → ∀ z8 z9 z10 z11 z12 z13, At (d + 3) kMo_flows 163 [vr 10 0, vi w, vi p, z3, vl (Int64.ofInt k), JK, vi (ia b (dr (rwX R w (cd p b)) 0) (dr (rwX R w (cd p b)) 1) (dr (rwX R w (cd p b)) 2)), vi m, z8, z9, z10, z11, z12, z13] [] M2 Q X := by
      intro M2 f2 a2 r2 z8 z9 z10 z11 z12 z13
      rw [bMo_flows_163, w32_id (by omega)]
      exact hn M2 ⟨f2, a2, r2⟩ _ _ _ _ _ _
    rw [hfl] at hn'
    generalize mFl R w p b k m.toNat G = G' at *
    have hwI := wI_R h (w := w) (x := cd p b) (r := rwX R w (cd p b)) (m := m)
    have hch : ∀ s : Int, 0 ≤ s → s < R 4 1 → M'.1 112 0 s.toNat = chn R w (cd p b) s (dr (rwX R w (cd p b)) s) := fun s s0 s1 => by rw [f.g1 112 0 _ (by omega)]; exact h112 s s0 s1
    have hwt : wgt (R 4 1) m (M'.1 112 0 0) (M'.1 112 0 1) (M'.1 112 0 2) = Int64.ofInt (wI R w (cd p b) (rwX R w (cd p b)) m) := by
      rw [← wgt_I]
      exact wgt_congr (fun z => hch 0 (by omega) z) (fun z => hch 1 (by omega) z) (fun z => hch 2 (by omega) z)
    rw [bMo_flows_81, hM'.1, bshl_pw (by omega), if_neg (by omega), bMo_flows_87, m_weight hM' h ⟨m0, by omega⟩ (fun s s0 s1 => by rw [hch s s0 s1]; exact chn_R h w (cd p b) s _ (by omega) (by have := dr_R (rwX R w (cd p b)) s; omega)), KV_eq, hwt, bMo_flows_90]
    by_cases hz : wI R w (cd p b) (rwX R w (cd p b)) m = 0
    · rw [hz, Int.mul_zero, fl_z] at hn'
      rw [hz, if_neg (fun z => z (by rw [of00]; exact cmp64_eq.mpr rfl)), bMo_flows_95]
      exact hn' M' f hA' hr' _ _ _ _ _ _
    have hne : Int64.ofInt (wI R w (cd p b) (rwX R w (cd p b)) m) ≠ 0 := fun z => by
      have := (ofI_pos (z := wI R w (cd p b) (rwX R w (cd p b)) m) (by omega)).mpr (by omega)
      rw [z] at this; exact i64_irr this
    obtain ⟨t1, t2, t3, t4, t5⟩ := end_w h hn1 (w := w) hS hg ⟨m0, m1⟩ hz
    rw [if_pos (fun z => hne (cmp64_eq.mp z)), bMo_flows_96, m_comesTo hS.1 ⟨m0, by omega⟩, KV_eq, bMo_flows_100, m_hasFirst hM' h t1, KV_eq, bMo_flows_105]
    generalize ia b (dr (rwX R w (cd p b)) 0) (dr (rwX R w (cd p b)) 1) (dr (rwX R w (cd p b)) 2) = b' at *
    generalize ct p m = p' at *
    generalize won (cd p b) (dvm (rwX R w (cd p b)) m) = v at *
    by_cases hv : v = 0
    · have hnf : ¬ hfP p' b' := fun z => t5.mp z hv
      rw [if_neg (by rw [if_neg hnf]; omega), bMo_flows_106 ⟨t1.1, t1.2.1, t1.2.1⟩]
      unfold fl at hn'
      rw [if_pos hv] at hn'
      refine hn' _ (f.sL (by omega)) ?_ ?_ _ _ _ _ _ _
      · obtain ⟨q1, q2, q3, q4⟩ := hA'
        refine ⟨?_, ?_, ?_, fun s s0 s3 => ?_⟩
        · rw [sL2, if_neg (by omega)]; exact q1
        · rw [sL2, if_neg (by omega)]; exact q2
        · rw [sL2, if_neg (by omega)]; exact q3
        · rw [sL2, if_neg (by omega)]; exact q4 s s0 s3
      · intro p2 b2 a1 a2 a3 a4
        show _ = Int64.ofInt (upf G'.2 (p' * 8 + b') (k * wI R w (cd p b) (rwX R w (cd p b)) m) (p2 * 8 + b2))
        have hp' := t1.1
        have hb' := t1.2.1
        unfold upf
        by_cases he : p2 = p' ∧ b2 = b'
        · obtain ⟨rfl, rfl⟩ := he
          rw [if_pos rfl, sL_eq, hr' p2 b2 a1 a2 a3 a4, ofI_add, ofI_mul]
        · rw [if_neg (by omega), sL2, if_neg (by omega)]; exact hr' p2 b2 a1 a2 a3 a4
    · have hf : hfP p' b' := t5.mpr hv
      rw [if_pos (by rw [if_pos hf]; omega), bMo_flows_119, hM'.1, w32_id (z := w - 1) (by omega), m_scale (by omega) (by omega), KV_eq, bMo_flows_129, sc_I, ← ofI_mul, ← ofI_mul]
      unfold fl at hn'
      rw [if_neg hv] at hn'
      have hM2 : ∀ v, MR R (sL M' 10 0 63 v) := fun v => hM'.fs (P := fun t i j => t = 10 ∧ i = 0 ∧ j = 63) (Fs.rf.sL ⟨rfl, rfl, rfl⟩) (fun t i j z => by omega)
      obtain ⟨q1, q2, q3, q4⟩ := hA'
      refine m_flFirst (A := G'.1) (w := w) (z := 0) (hM2 _) h t1 (fun s s0 s3 => by rw [sL2, if_neg (by omega)]; exact q4 s s0 s3) ?_
      intro M3 z f3 r3
      refine hn' M3 ((f.sL (by omega)).tr (f3.mono (fun t i j z => by omega))) ⟨?_, ?_, ?_, fun s s0 s3 => ?_⟩ ?_ _ _ _ _ _ _
      · show _ = Int64.ofInt (G'.1 0 + _ * 0)
        rw [f3.g2 10 0 61 (by omega), sL2, if_neg (by omega), q1, Int.mul_zero, Int.add_zero]
      · show _ = Int64.ofInt (G'.1 1 + _ * 0)
        rw [f3.g2 10 0 62 (by omega), sL2, if_neg (by omega), q2, Int.mul_zero, Int.add_zero]
      · show _ = Int64.ofInt (G'.1 2 + k * wI R w (cd p b) (rwX R w (cd p b)) m * scI (R 4 1) (w - 1))
        rw [f3.g2 10 0 63 (by omega), sL_eq, q3, ← ofI_add]
      · show _ = Int64.ofInt (G'.1 (3 + s.toNat) + k * wI R w (cd p b) (rwX R w (cd p b)) m * eQ R (3 + s.toNat) w v)
        rw [r3 s s0 s3, eQ_s ⟨s0, s3⟩, t3]
        congr 2
        exact Int.mul_left_comm _ _ _
      · intro p2 b2 a1 a2 a3 a4
        rw [f3.g2 106 _ _ (by omega), sL2, if_neg (by omega)]; exact hr' p2 b2 a1 a2 a3 a4
end
