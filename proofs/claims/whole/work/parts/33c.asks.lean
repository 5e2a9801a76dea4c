/-! LAYER 4, THE LAW: the class asked through the law (by gen33.py) -/
theorem ite_r3 {a b c : Prop} [Decidable a] [Decidable b] [Decidable c] : (if a then (1 : Int) else if b then (if c then 0 else 3) else 2) = 0 ∨ (if a then (1 : Int) else if b then (if c then 0 else 3) else 2) = 1 ∨ (if a then (1 : Int) else if b then (if c then 0 else 3) else 2) = 2 ∨ (if a then (1 : Int) else if b then (if c then 0 else 3) else 2) = 3 := by
  by_cases ha : a <;> by_cases hb : b <;> by_cases hc : c <;> simp [ha, hb, hc]
abbrev Nq (t i j : Nat) : Prop := pQy t i j ∧ t ≠ 9 ∧ ¬ (29 ≤ t ∧ t ≤ 32) ∧ ¬ ((20 ≤ t ∧ t ≤ 22) ∧ i = 1) ∧ (t < 10 ∨ 20 ≤ t ∧ t ≤ 53)
theorem nq_sd {t i j : Nat} (h : pSd t i j) : Nq t i j := by unfold pSd pCl at h; unfold Nq pQy; omega
theorem nq_qa {t i j : Nat} (h : pQa t i j) : Nq t i j := by unfold pQa pSd pCl at h; unfold Nq pQy; omega
theorem nq_un {t i j : Nat} (h : pUn t i j) : Nq t i j := by unfold pUn at h; unfold Nq pQy; omega
theorem nq_ed {t i j : Nat} (h : pEd t i j) : Nq t i j := by unfold pEd pCl inRa at h; unfold Nq pQy; omega
theorem nq_ob {t i j : Nat} (h : pOb t i j) : pQy t i j ∧ ¬ (t = 9 ∧ j ≠ 7) ∧ ¬ (29 ≤ t ∧ t ≤ 32) ∧ ¬ ((t = 4 ∨ 33 ≤ t ∧ t ≤ 38) ∧ i < 4) ∧ (t < 10 ∨ 20 ≤ t ∧ t ≤ 53) := by unfold pOb pCl at h; unfold pQy; omega
theorem nq_wo {t i j : Nat} (h : pWo t i j) : pQy t i j ∧ t ≠ 9 ∧ ¬ ((20 ≤ t ∧ t ≤ 22) ∧ i = 1) ∧ ¬ ((t = 4 ∨ 33 ≤ t ∧ t ≤ 38) ∧ i < 4) ∧ (t < 10 ∨ 20 ≤ t ∧ t ≤ 53) := by unfold pWo pEd pCl inRa pWh pOp at h; unfold pQy; omega
theorem nq_eg {t i j : Nat} (h : pEg t i j) : pQy t i j ∧ ¬ (t = 9 ∧ j ≠ 13 ∧ j ≠ 14) ∧ ¬ (29 ≤ t ∧ t ≤ 32) ∧ ¬ ((20 ≤ t ∧ t ≤ 22) ∧ i = 1) ∧ ¬ ((t = 4 ∨ 33 ≤ t ∧ t ≤ 38) ∧ i < 4) ∧ (t < 10 ∨ 20 ≤ t ∧ t ≤ 53) := by unfold pEg pSd pEd pCl inRa at h; unfold pQy; omega
section
variable {U : Nat → Int} {f n m : Nat} {B : BT} {pl g0 : Int} {P : Nat → Int} {I : Nat → IMG} {M M' : Mem} {Pf : Nat → Nat → Nat → Prop} {d : Nat} {Q : AV → Mem → Prop} {X : Nat → Mem → Prop}
theorem IC.qn (h : IC U f B pl n P m I g0 M) (hm : m ≤ 3) (hf : Fs Pf M M') (c0 : CI0 M') (cb : Cb M') (hp : ∀ t i j, Pf t i j → Nq t i j) : IC U f B pl n P m I g0 M' :=
  h.q hm hf ⟨c0, cb, h.1.2.2.1.fs hf (fun t i j z => by have := hp t i j z; omega), h.1.2.2.2.1.fs hf (fun t i j z => by have := hp t i j z; omega), h.1.2.2.2.2.1.fs hf (fun t i j z => by have := hp t i j z; omega)⟩ (fun t i j z => (hp t i j z).1)
theorem h_told {k : Int} (hI : IC U f B pl n P m I g0 M) (hm : m ≤ 3) (hg : 0 ≤ M.1 900 0 0 ∧ M.1 900 0 0 < 1000) (hc : Cur (rd M 0) M) 
    (hq : ∀ M', IC U f B pl n P m I g0 M' → rd M' 0 = rd M 0 → AfC M M' → (tTo k = 0 → M'.2 115 0 0 = Int64.ofInt (toV (rd M 0) k)) → Q (vi (tTo k)) M') : Call (d + 2) qLa_told [vr 9 0, vi k, vr 115 0] M Q X := by
  have h0 := hI.1.1
  have hb := hI.1.2.1
  have th : ∀ t : Int, tTo k = t → t ≠ 0 → Q (vi t) (gh M) := fun t e hz => by
    have := hq _ (hI.ghost hm) (rd_sI (by omega)) (AfC.th hg.1) (fun z => absurd (e.symm.trans z) hz)
    rw [e] at this; exact this
  rw [show d + 2 = (d + 1) + 1 from rfl, eLa_told, bLa_told_0]
  refine c_toldC (d := d)  ?_ ?_
  · intro e
    show M.1 900 0 0 < 1000 ∧ At (d + 1) kLa_told 9 [vr 9 0, vi k, vr 115 0, JK] [] (gh M) Q X
    exact ⟨hg.2, by rw [bLa_told_9]; exact th 1 e (by omega)⟩
  · intro ez
    rw [KV_eq, bLa_told_5 (by omega), bLa_told_11, show ((0 : Int)).toNat = 0 from rfl]
    have := hq _ (hI.out (v := Int64.ofInt (toV (rd M 0) k)) hm) rfl (AfC.ok (M' := M) (v := Int64.ofInt (toV (rd M 0) k)) hg.1 (Pf := fun t _ _ => t = 9) Fs.rf (fun t i j z => by omega)) (fun _ => sL_eq)
    rw [ez] at this; exact this
theorem h_shop {s k : Int} (hI : IC U f B pl n P m I g0 M) (hm : m ≤ 3) (hg : 0 ≤ M.1 900 0 0 ∧ M.1 900 0 0 < 1000) (hc : Cur (rd M 0) M) 
    (hq : ∀ M', IC U f B pl n P m I g0 M' → rd M' 0 = rd M 0 → AfC M M' → (tSh (rd M 0) s k = 0 → M'.2 115 0 0 = Int64.ofInt (shV (rd M 0) s k)) → Q (vi (tSh (rd M 0) s k)) M') : Call (d + 3) qLa_shop [vr 9 0, vi s, vi k, vr 115 0] M Q X := by
  have h0 := hI.1.1
  have hb := hI.1.2.1
  have th : ∀ t : Int, tSh (rd M 0) s k = t → t ≠ 0 → Q (vi t) (gh M) := fun t e hz => by
    have := hq _ (hI.ghost hm) (rd_sI (by omega)) (AfC.th hg.1) (fun z => absurd (e.symm.trans z) hz)
    rw [e] at this; exact this
  rw [show d + 3 = (d + 2) + 1 from rfl, eLa_shop, bLa_shop_0]
  refine c_shopC (d := d) (by have := (hI.1.1.2.2.1 0 (by omega)).b; omega) ?_ ?_ ?_
  · intro e
    show M.1 900 0 0 < 1000 ∧ At (d + 2) kLa_shop 10 [vr 9 0, vi s, vi k, vr 115 0, JK] [] (gh M) Q X
    exact ⟨hg.2, by rw [bLa_shop_10]; exact th 1 e (by omega)⟩
  · intro e
    show M.1 900 0 0 < 1000 ∧ At (d + 2) kLa_shop 13 [vr 9 0, vi s, vi k, vr 115 0, JK] [] (gh M) Q X
    exact ⟨hg.2, by rw [bLa_shop_13]; exact th 2 e (by omega)⟩
  · intro ez
    rw [KV_eq, bLa_shop_6 (by omega), bLa_shop_15, show ((0 : Int)).toNat = 0 from rfl]
    have := hq _ (hI.out (v := Int64.ofInt (shV (rd M 0) s k)) hm) rfl (AfC.ok (M' := M) (v := Int64.ofInt (shV (rd M 0) s k)) hg.1 (Pf := fun t _ _ => t = 9) Fs.rf (fun t i j z => by omega)) (fun _ => sL_eq)
    rw [ez] at this; exact this
theorem h_worth {w g b s : Int} (hI : IC U f B pl n P m I g0 M) (hm : m ≤ 3) (hg : 0 ≤ M.1 900 0 0 ∧ M.1 900 0 0 < 1000) (hc : Cur (rd M 0) M) (hgx : g ≤ 2147483647)
    (hq : ∀ M', IC U f B pl n P m I g0 M' → rd M' 0 = rd M 0 → AfC M M' → (tW (rd M 0) w g b s = 0 → M'.2 115 0 0 = Wf (rd M 0) w.toNat (cdo (plc g) b) s) → Q (vi (tW (rd M 0) w g b s)) M') : Call (d + 9) qLa_worth [vr 9 0, vi w, vi g, vi b, vi s, vr 115 0] M Q X := by
  have h0 := hI.1.1
  have hb := hI.1.2.1
  have th : ∀ t : Int, tW (rd M 0) w g b s = t → t ≠ 0 → Q (vi t) (gh M) := fun t e hz => by
    have := hq _ (hI.ghost hm) (rd_sI (by omega)) (AfC.th hg.1) (fun z => absurd (e.symm.trans z) hz)
    rw [e] at this; exact this
  rw [show d + 9 = (d + 8) + 1 from rfl, eLa_worth, bLa_worth_0]
  refine c_worth (d := d) h0 hb hgx ?_ ?_
  · intro hz
    have hr : tW (rd M 0) w g b s = 0 ∨ tW (rd M 0) w g b s = 1 ∨ tW (rd M 0) w g b s = 2 ∨ tW (rd M 0) w g b s = 3 := ite_r3
    rcases hr with e | e | e | e
    · exact absurd e hz
    · rw [e]
      show M.1 900 0 0 < 1000 ∧ At (d + 8) kLa_worth 11 [vr 9 0, vi w, vi g, vi b, vi s, vr 115 0, JK] [] (gh M) Q X
      exact ⟨hg.2, by rw [bLa_worth_11]; exact th 1 e (by omega)⟩
    · rw [e]
      show M.1 900 0 0 < 1000 ∧ At (d + 8) kLa_worth 14 [vr 9 0, vi w, vi g, vi b, vi s, vr 115 0, JK] [] (gh M) Q X
      exact ⟨hg.2, by rw [bLa_worth_14]; exact th 2 e (by omega)⟩
    · rw [e]
      show M.1 900 0 0 < 1000 ∧ At (d + 8) kLa_worth 17 [vr 9 0, vi w, vi g, vi b, vi s, vr 115 0, JK] [] (gh M) Q X
      exact ⟨hg.2, by rw [bLa_worth_17]; exact th 3 e (by omega)⟩
  · intro M1 ez q0
    obtain ⟨q1, q2, q3⟩ := q0
    have ic1 : IC U f B pl n P m I g0 M1 := hI.qn hm q1 q2 q3 (fun t i j z => nq_sd z)
    have r1 : rd M1 0 = rd M 0 := rd_fs q1 (fun t j ht z => by have := nq_sd z; omega)
    rw [KV_eq, bLa_worth_8 (by omega), bLa_worth_19, show ((0 : Int)).toNat = 0 from rfl]
    have := hq _ (ic1.out hm) r1 (AfC.ok hg.1 q1 (fun t i j z => by have := nq_sd z; omega)) (fun _ => sL_eq)
    rw [ez] at this; exact this
theorem h_doing {w g b s : Int} (hI : IC U f B pl n P m I g0 M) (hm : m ≤ 3) (hg : 0 ≤ M.1 900 0 0 ∧ M.1 900 0 0 < 1000) (hc : Cur (rd M 0) M) (hgx : g ≤ 2147483647)
    (hq : ∀ M', IC U f B pl n P m I g0 M' → rd M' 0 = rd M 0 → AfC M M' → (tW (rd M 0) w g b s = 0 → M'.2 115 0 0 = Int64.ofInt (rwD (rd M 0) w (cdo (plc g) b) s)) → Q (vi (tW (rd M 0) w g b s)) M') : Call (d + 9) qLa_doing [vr 9 0, vi w, vi g, vi b, vi s, vr 115 0] M Q X := by
  have h0 := hI.1.1
  have hb := hI.1.2.1
  have th : ∀ t : Int, tW (rd M 0) w g b s = t → t ≠ 0 → Q (vi t) (gh M) := fun t e hz => by
    have := hq _ (hI.ghost hm) (rd_sI (by omega)) (AfC.th hg.1) (fun z => absurd (e.symm.trans z) hz)
    rw [e] at this; exact this
  rw [show d + 9 = (d + 8) + 1 from rfl, eLa_doing, bLa_doing_0]
  refine c_doing (d := d) h0 hb hgx ?_ ?_
  · intro hz
    have hr : tW (rd M 0) w g b s = 0 ∨ tW (rd M 0) w g b s = 1 ∨ tW (rd M 0) w g b s = 2 ∨ tW (rd M 0) w g b s = 3 := ite_r3
    rcases hr with e | e | e | e
    · exact absurd e hz
    · rw [e]
      show M.1 900 0 0 < 1000 ∧ At (d + 8) kLa_doing 12 [vr 9 0, vi w, vi g, vi b, vi s, vr 115 0, JK] [] (gh M) Q X
      exact ⟨hg.2, by rw [bLa_doing_12]; exact th 1 e (by omega)⟩
    · rw [e]
      show M.1 900 0 0 < 1000 ∧ At (d + 8) kLa_doing 15 [vr 9 0, vi w, vi g, vi b, vi s, vr 115 0, JK] [] (gh M) Q X
      exact ⟨hg.2, by rw [bLa_doing_15]; exact th 2 e (by omega)⟩
    · rw [e]
      show M.1 900 0 0 < 1000 ∧ At (d + 8) kLa_doing 18 [vr 9 0, vi w, vi g, vi b, vi s, vr 115 0, JK] [] (gh M) Q X
      exact ⟨hg.2, by rw [bLa_doing_18]; exact th 3 e (by omega)⟩
  · intro M1 ez q0
    obtain ⟨q1, q2, q3⟩ := q0
    have ic1 : IC U f B pl n P m I g0 M1 := hI.qn hm q1 q2 q3 (fun t i j z => nq_sd z)
    have r1 : rd M1 0 = rd M 0 := rd_fs q1 (fun t j ht z => by have := nq_sd z; omega)
    rw [KV_eq, bLa_doing_8 (by omega), bLa_doing_20, show ((0 : Int)).toNat = 0 from rfl]
    have := hq _ (ic1.out hm) r1 (AfC.ok hg.1 q1 (fun t i j z => by have := nq_sd z; omega)) (fun _ => sL_eq)
    rw [ez] at this; exact this
theorem h_gain {w g b : Int} (hI : IC U f B pl n P m I g0 M) (hm : m ≤ 3) (hg : 0 ≤ M.1 900 0 0 ∧ M.1 900 0 0 < 1000) (hc : Cur (rd M 0) M) (hgx : g ≤ 2147483647)
    (hq : ∀ M', IC U f B pl n P m I g0 M' → rd M' 0 = rd M 0 → AfC M M' → (tG (rd M 0) w g b = 0 → M'.2 115 0 0 = gnD (rd M 0) w (cdo (plc g) b)) → Q (vi (tG (rd M 0) w g b)) M') : Call (d + 9) qLa_gain [vr 9 0, vi w, vi g, vi b, vr 115 0] M Q X := by
  have h0 := hI.1.1
  have hb := hI.1.2.1
  have th : ∀ t : Int, tG (rd M 0) w g b = t → t ≠ 0 → Q (vi t) (gh M) := fun t e hz => by
    have := hq _ (hI.ghost hm) (rd_sI (by omega)) (AfC.th hg.1) (fun z => absurd (e.symm.trans z) hz)
    rw [e] at this; exact this
  rw [show d + 9 = (d + 8) + 1 from rfl, eLa_gain, bLa_gain_0]
  refine c_gainC (d := d) h0 hb hgx ?_ ?_ ?_
  · intro e
    show M.1 900 0 0 < 1000 ∧ At (d + 8) kLa_gain 10 [vr 9 0, vi w, vi g, vi b, vr 115 0, JK] [] (gh M) Q X
    exact ⟨hg.2, by rw [bLa_gain_10]; exact th 1 e (by omega)⟩
  · intro e
    show M.1 900 0 0 < 1000 ∧ At (d + 8) kLa_gain 13 [vr 9 0, vi w, vi g, vi b, vr 115 0, JK] [] (gh M) Q X
    exact ⟨hg.2, by rw [bLa_gain_13]; exact th 2 e (by omega)⟩
  · intro M1 ez q0
    obtain ⟨q1, q2, q3⟩ := q0
    have ic1 : IC U f B pl n P m I g0 M1 := hI.qn hm q1 q2 q3 (fun t i j z => nq_sd z)
    have r1 : rd M1 0 = rd M 0 := rd_fs q1 (fun t j ht z => by have := nq_sd z; omega)
    rw [KV_eq, bLa_gain_7 (by omega), bLa_gain_15, show ((0 : Int)).toNat = 0 from rfl]
    have := hq _ (ic1.out hm) r1 (AfC.ok hg.1 q1 (fun t i j z => by have := nq_sd z; omega)) (fun _ => sL_eq)
    rw [ez] at this; exact this
theorem h_unrest (hI : IC U f B pl n P m I g0 M) (hm : m ≤ 3) (hg : 0 ≤ M.1 900 0 0 ∧ M.1 900 0 0 < 1000) (hc : Cur (rd M 0) M) 
    (hq : ∀ M', IC U f B pl n P m I g0 M' → rd M' 0 = rd M 0 → AfC M M' → (tR (rd M 0) = 0 → M'.2 115 0 0 = Int64.ofInt (unV (rd M 0))) → Q (vi (tR (rd M 0))) M') : Call (d + 9) qLa_unrest [vr 9 0, vr 115 0] M Q X := by
  have h0 := hI.1.1
  have hb := hI.1.2.1
  have th : ∀ t : Int, tR (rd M 0) = t → t ≠ 0 → Q (vi t) (gh M) := fun t e hz => by
    have := hq _ (hI.ghost hm) (rd_sI (by omega)) (AfC.th hg.1) (fun z => absurd (e.symm.trans z) hz)
    rw [e] at this; exact this
  rw [show d + 9 = (d + 8) + 1 from rfl, eLa_unrest, bLa_unrest_0]
  refine c_unrest (d := d) h0 hb ?_ ?_
  · intro e
    show M.1 900 0 0 < 1000 ∧ At (d + 8) kLa_unrest 8 [vr 9 0, vr 115 0, JK] [] (gh M) Q X
    exact ⟨hg.2, by rw [bLa_unrest_8]; exact th 1 e (by omega)⟩
  · intro M1 ez q0
    obtain ⟨q1, q2, q3⟩ := q0
    have ic1 : IC U f B pl n P m I g0 M1 := hI.qn hm q1 q2 q3 (fun t i j z => nq_sd z)
    have r1 : rd M1 0 = rd M 0 := rd_fs q1 (fun t j ht z => by have := nq_sd z; omega)
    rw [KV_eq, bLa_unrest_4 (by omega), bLa_unrest_10, show ((0 : Int)).toNat = 0 from rfl]
    have := hq _ (ic1.out hm) r1 (AfC.ok hg.1 q1 (fun t i j z => by have := nq_sd z; omega)) (fun _ => sL_eq)
    rw [ez] at this; exact this
theorem h_judged {s : Int} (hI : IC U f B pl n P m I g0 M) (hm : m ≤ 3) (hg : 0 ≤ M.1 900 0 0 ∧ M.1 900 0 0 < 1000) (hc : Cur (rd M 0) M) (hWU : WU U)
    (hq : ∀ M', IC U f B pl n P m I g0 M' → rd M' 0 = rd M 0 → AfC M M' → (tS (rd M 0) s = 0 → M'.2 115 0 0 = Wr (rd M 0) U (rd M 0 4 2).toNat (bgn (rd M 0)) s) → Q (vi (tS (rd M 0) s)) M') : Call (d + 9) qLa_judged [vr 9 0, vi s, vr 115 0] M Q X := by
  have h0 := hI.1.1
  have hb := hI.1.2.1
  have th : ∀ t : Int, tS (rd M 0) s = t → t ≠ 0 → Q (vi t) (gh M) := fun t e hz => by
    have := hq _ (hI.ghost hm) (rd_sI (by omega)) (AfC.th hg.1) (fun z => absurd (e.symm.trans z) hz)
    rw [e] at this; exact this
  rw [show d + 9 = (d + 8) + 1 from rfl, eLa_judged, bLa_judged_0]
  refine c_judged (d := d) h0 hb hI.2.1 hWU hI.1.2.2.2.2.1 ?_ ?_ ?_
  · intro e
    show M.1 900 0 0 < 1000 ∧ At (d + 8) kLa_judged 8 [vr 9 0, vi s, vr 115 0, JK] [] (gh M) Q X
    exact ⟨hg.2, by rw [bLa_judged_8]; exact th 1 e (by omega)⟩
  · intro e
    show M.1 900 0 0 < 1000 ∧ At (d + 8) kLa_judged 11 [vr 9 0, vi s, vr 115 0, JK] [] (gh M) Q X
    exact ⟨hg.2, by rw [bLa_judged_11]; exact th 2 e (by omega)⟩
  · intro M1 ez q1 q2 q3 q4
    have ic1 : IC U f B pl n P m I g0 M1 := hI.q hm q1 ⟨q2, q3, hI.1.2.2.1.fs q1 (fun t i j z => by have := nq_ob z; omega), hI.1.2.2.2.1.fs q1 (fun t i j z => by have := nq_ob z; omega), q4⟩ (fun t i j z => (nq_ob z).1)
    have r1 : rd M1 0 = rd M 0 := rd_fs q1 (fun t j ht z => by have := nq_ob z; omega)
    rw [KV_eq, bLa_judged_5 (by omega), bLa_judged_13, show ((0 : Int)).toNat = 0 from rfl]
    have := hq _ (ic1.out hm) r1 (AfC.ok hg.1 q1 (fun t i j z => by have := nq_ob z; omega)) (fun _ => sL_eq)
    rw [ez] at this; exact this
theorem h_breaks (hI : IC U f B pl n P m I g0 M) (hm : m ≤ 3) (hg : 0 ≤ M.1 900 0 0 ∧ M.1 900 0 0 < 1000) (hc : Cur (rd M 0) M) (hWU : WU U)
    (hq : ∀ M', IC U f B pl n P m I g0 M' → rd M' 0 = rd M 0 → AfC M M' → (tR (rd M 0) = 0 → M'.2 115 0 0 = Int64.ofInt (cnA (rd M 0) (brB (rd M 0) U))) → Q (vi (tR (rd M 0))) M') : Call (d + 9) qLa_breaks [vr 9 0, vr 115 0] M Q X := by
  have h0 := hI.1.1
  have hb := hI.1.2.1
  have th : ∀ t : Int, tR (rd M 0) = t → t ≠ 0 → Q (vi t) (gh M) := fun t e hz => by
    have := hq _ (hI.ghost hm) (rd_sI (by omega)) (AfC.th hg.1) (fun z => absurd (e.symm.trans z) hz)
    rw [e] at this; exact this
  rw [show d + 9 = (d + 8) + 1 from rfl, eLa_breaks, bLa_breaks_0]
  refine c_breaks (d := d) h0 hb hI.2.1 hWU hI.1.2.2.2.2.1 ?_ ?_
  · intro e
    show M.1 900 0 0 < 1000 ∧ At (d + 8) kLa_breaks 8 [vr 9 0, vr 115 0, JK] [] (gh M) Q X
    exact ⟨hg.2, by rw [bLa_breaks_8]; exact th 1 e (by omega)⟩
  · intro M1 ez q1 q2 q3 q4
    have ic1 : IC U f B pl n P m I g0 M1 := hI.q hm q1 ⟨q2, q3, hI.1.2.2.1.fs q1 (fun t i j z => by have := nq_ob z; omega), hI.1.2.2.2.1.fs q1 (fun t i j z => by have := nq_ob z; omega), q4⟩ (fun t i j z => (nq_ob z).1)
    have r1 : rd M1 0 = rd M 0 := rd_fs q1 (fun t j ht z => by have := nq_ob z; omega)
    rw [KV_eq, bLa_breaks_4 (by omega), bLa_breaks_10, show ((0 : Int)).toNat = 0 from rfl]
    have := hq _ (ic1.out hm) r1 (AfC.ok hg.1 q1 (fun t i j z => by have := nq_ob z; omega)) (fun _ => sL_eq)
    rw [ez] at this; exact this
theorem h_alone {s w o : Int} (hI : IC U f B pl n P m I g0 M) (hm : m ≤ 3) (hg : 0 ≤ M.1 900 0 0 ∧ M.1 900 0 0 < 1000) (hc : Cur (rd M 0) M) 
    (hq : ∀ M', IC U f B pl n P m I g0 M' → rd M' 0 = rd M 0 → AfC M M' → (tAl (rd M 0) s w o = 0 → M'.2 115 0 0 = Int64.ofInt (aI (rd M 0) s w.toNat o)) → Q (vi (tAl (rd M 0) s w o)) M') : Call (d + 9) qLa_alone [vr 9 0, vi s, vi w, vi o, vr 115 0] M Q X := by
  have h0 := hI.1.1
  have hb := hI.1.2.1
  have th : ∀ t : Int, tAl (rd M 0) s w o = t → t ≠ 0 → Q (vi t) (gh M) := fun t e hz => by
    have := hq _ (hI.ghost hm) (rd_sI (by omega)) (AfC.th hg.1) (fun z => absurd (e.symm.trans z) hz)
    rw [e] at this; exact this
  rw [show d + 9 = (d + 8) + 1 from rfl, eLa_alone, bLa_alone_0]
  refine c_alone (d := d) h0 hb ?_ ?_
  · intro hz
    have hr : tAl (rd M 0) s w o = 0 ∨ tAl (rd M 0) s w o = 1 ∨ tAl (rd M 0) s w o = 2 ∨ tAl (rd M 0) s w o = 3 := ite_r3
    rcases hr with e | e | e | e
    · exact absurd e hz
    · rw [e]
      show M.1 900 0 0 < 1000 ∧ At (d + 8) kLa_alone 10 [vr 9 0, vi s, vi w, vi o, vr 115 0, JK] [] (gh M) Q X
      exact ⟨hg.2, by rw [bLa_alone_10]; exact th 1 e (by omega)⟩
    · rw [e]
      show M.1 900 0 0 < 1000 ∧ At (d + 8) kLa_alone 13 [vr 9 0, vi s, vi w, vi o, vr 115 0, JK] [] (gh M) Q X
      exact ⟨hg.2, by rw [bLa_alone_13]; exact th 2 e (by omega)⟩
    · rw [e]
      show M.1 900 0 0 < 1000 ∧ At (d + 8) kLa_alone 16 [vr 9 0, vi s, vi w, vi o, vr 115 0, JK] [] (gh M) Q X
      exact ⟨hg.2, by rw [bLa_alone_16]; exact th 3 e (by omega)⟩
  · intro M1 ez q0
    obtain ⟨q1, q2, q3⟩ := q0
    have ic1 : IC U f B pl n P m I g0 M1 := hI.qn hm q1 q2 q3 (fun t i j z => nq_sd z)
    have r1 : rd M1 0 = rd M 0 := rd_fs q1 (fun t j ht z => by have := nq_sd z; omega)
    rw [KV_eq, bLa_alone_7 (by omega), bLa_alone_18, show ((0 : Int)).toNat = 0 from rfl]
    have := hq _ (ic1.out hm) r1 (AfC.ok hg.1 q1 (fun t i j z => by have := nq_sd z; omega)) (fun _ => sL_eq)
    rw [ez] at this; exact this
theorem h_best {s w o : Int} (hI : IC U f B pl n P m I g0 M) (hm : m ≤ 3) (hg : 0 ≤ M.1 900 0 0 ∧ M.1 900 0 0 < 1000) (hc : Cur (rd M 0) M) 
    (hq : ∀ M', IC U f B pl n P m I g0 M' → rd M' 0 = rd M 0 → AfC M M' → (tAl (rd M 0) s w o = 0 → M'.2 115 0 0 = Int64.ofInt (aD (rd M 0) s w o)) → Q (vi (tAl (rd M 0) s w o)) M') : Call (d + 9) qLa_best [vr 9 0, vi s, vi w, vi o, vr 115 0] M Q X := by
  have h0 := hI.1.1
  have hb := hI.1.2.1
  have th : ∀ t : Int, tAl (rd M 0) s w o = t → t ≠ 0 → Q (vi t) (gh M) := fun t e hz => by
    have := hq _ (hI.ghost hm) (rd_sI (by omega)) (AfC.th hg.1) (fun z => absurd (e.symm.trans z) hz)
    rw [e] at this; exact this
  rw [show d + 9 = (d + 8) + 1 from rfl, eLa_best, bLa_best_0]
  refine c_best (d := d) h0 hb ?_ ?_
  · intro hz
    have hr : tAl (rd M 0) s w o = 0 ∨ tAl (rd M 0) s w o = 1 ∨ tAl (rd M 0) s w o = 2 ∨ tAl (rd M 0) s w o = 3 := ite_r3
    rcases hr with e | e | e | e
    · exact absurd e hz
    · rw [e]
      show M.1 900 0 0 < 1000 ∧ At (d + 8) kLa_best 11 [vr 9 0, vi s, vi w, vi o, vr 115 0, JK] [] (gh M) Q X
      exact ⟨hg.2, by rw [bLa_best_11]; exact th 1 e (by omega)⟩
    · rw [e]
      show M.1 900 0 0 < 1000 ∧ At (d + 8) kLa_best 14 [vr 9 0, vi s, vi w, vi o, vr 115 0, JK] [] (gh M) Q X
      exact ⟨hg.2, by rw [bLa_best_14]; exact th 2 e (by omega)⟩
    · rw [e]
      show M.1 900 0 0 < 1000 ∧ At (d + 8) kLa_best 17 [vr 9 0, vi s, vi w, vi o, vr 115 0, JK] [] (gh M) Q X
      exact ⟨hg.2, by rw [bLa_best_17]; exact th 3 e (by omega)⟩
  · intro M1 ez q0
    obtain ⟨q1, q2, q3⟩ := q0
    have ic1 : IC U f B pl n P m I g0 M1 := hI.qn hm q1 q2 q3 (fun t i j z => nq_sd z)
    have r1 : rd M1 0 = rd M 0 := rd_fs q1 (fun t j ht z => by have := nq_sd z; omega)
    rw [KV_eq, bLa_best_7 (by omega), bLa_best_19, show ((0 : Int)).toNat = 0 from rfl]
    have := hq _ (ic1.out hm) r1 (AfC.ok hg.1 q1 (fun t i j z => by have := nq_sd z; omega)) (fun _ => sL_eq)
    rw [ez] at this; exact this
theorem h_answer {s k : Int} (hI : IC U f B pl n P m I g0 M) (hm : m ≤ 3) (hg : 0 ≤ M.1 900 0 0 ∧ M.1 900 0 0 < 1000) (hc : Cur (rd M 0) M) 
    (hq : ∀ M', IC U f B pl n P m I g0 M' → rd M' 0 = rd M 0 → AfC M M' → (tAn (rd M 0) s k = 0 → M'.2 115 0 0 = bst (rd M 0) s k (rd M 0 4 2).toNat (stp (rd M 0) s)) → Q (vi (tAn (rd M 0) s k)) M') : Call (d + 9) qLa_answer [vr 9 0, vi s, vi k, vr 115 0] M Q X := by
  have h0 := hI.1.1
  have hb := hI.1.2.1
  have th : ∀ t : Int, tAn (rd M 0) s k = t → t ≠ 0 → Q (vi t) (gh M) := fun t e hz => by
    have := hq _ (hI.ghost hm) (rd_sI (by omega)) (AfC.th hg.1) (fun z => absurd (e.symm.trans z) hz)
    rw [e] at this; exact this
  rw [show d + 9 = (d + 8) + 1 from rfl, eLa_answer, bLa_answer_0]
  refine c_answer (d := d) h0 hb (fun z => (hc.px.2 z).2) ?_ ?_
  · intro hz
    have hr : tAn (rd M 0) s k = 0 ∨ tAn (rd M 0) s k = 1 ∨ tAn (rd M 0) s k = 2 ∨ tAn (rd M 0) s k = 3 := ite_r3
    rcases hr with e | e | e | e
    · exact absurd e hz
    · rw [e]
      show M.1 900 0 0 < 1000 ∧ At (d + 8) kLa_answer 9 [vr 9 0, vi s, vi k, vr 115 0, JK] [] (gh M) Q X
      exact ⟨hg.2, by rw [bLa_answer_9]; exact th 1 e (by omega)⟩
    · rw [e]
      show M.1 900 0 0 < 1000 ∧ At (d + 8) kLa_answer 12 [vr 9 0, vi s, vi k, vr 115 0, JK] [] (gh M) Q X
      exact ⟨hg.2, by rw [bLa_answer_12]; exact th 2 e (by omega)⟩
    · rw [e]
      show M.1 900 0 0 < 1000 ∧ At (d + 8) kLa_answer 15 [vr 9 0, vi s, vi k, vr 115 0, JK] [] (gh M) Q X
      exact ⟨hg.2, by rw [bLa_answer_15]; exact th 3 e (by omega)⟩
  · intro M1 ez q1 q2 q3
    have ic1 : IC U f B pl n P m I g0 M1 := hI.qn hm q1 q2 q3 (fun t i j z => nq_un z)
    have r1 : rd M1 0 = rd M 0 := rd_fs q1 (fun t j ht z => by have := nq_un z; omega)
    rw [KV_eq, bLa_answer_6 (by omega), bLa_answer_17, show ((0 : Int)).toNat = 0 from rfl]
    have := hq _ (ic1.out hm) r1 (AfC.ok hg.1 q1 (fun t i j z => by have := nq_un z; omega)) (fun _ => sL_eq)
    rw [ez] at this; exact this
theorem h_first {s : Int} (hI : IC U f B pl n P m I g0 M) (hm : m ≤ 3) (hg : 0 ≤ M.1 900 0 0 ∧ M.1 900 0 0 < 1000) (hc : Cur (rd M 0) M) 
    (hq : ∀ M', IC U f B pl n P m I g0 M' → rd M' 0 = rd M 0 → AfC M M' → (tFi (rd M 0) s = 0 → M'.2 115 0 0 = fiV (rd M 0) s) → Q (vi (tFi (rd M 0) s)) M') : Call (d + 9) qLa_first [vr 9 0, vi s, vr 115 0] M Q X := by
  have h0 := hI.1.1
  have hb := hI.1.2.1
  have th : ∀ t : Int, tFi (rd M 0) s = t → t ≠ 0 → Q (vi t) (gh M) := fun t e hz => by
    have := hq _ (hI.ghost hm) (rd_sI (by omega)) (AfC.th hg.1) (fun z => absurd (e.symm.trans z) hz)
    rw [e] at this; exact this
  rw [show d + 9 = (d + 8) + 1 from rfl, eLa_first, bLa_first_0]
  refine c_first (d := d) h0 hb ?_ ?_ ?_
  · intro e
    show M.1 900 0 0 < 1000 ∧ At (d + 8) kLa_first 8 [vr 9 0, vi s, vr 115 0, JK] [] (gh M) Q X
    exact ⟨hg.2, by rw [bLa_first_8]; exact th 1 e (by omega)⟩
  · intro e
    show M.1 900 0 0 < 1000 ∧ At (d + 8) kLa_first 11 [vr 9 0, vi s, vr 115 0, JK] [] (gh M) Q X
    exact ⟨hg.2, by rw [bLa_first_11]; exact th 2 e (by omega)⟩
  · intro M1 ez q0
    obtain ⟨q1, q2, q3⟩ := q0
    have ic1 : IC U f B pl n P m I g0 M1 := hI.qn hm q1 q2 q3 (fun t i j z => nq_qa z)
    have r1 : rd M1 0 = rd M 0 := rd_fs q1 (fun t j ht z => by have := nq_qa z; omega)
    rw [KV_eq, bLa_first_5 (by omega), bLa_first_13, show ((0 : Int)).toNat = 0 from rfl]
    have := hq _ (ic1.out hm) r1 (AfC.ok hg.1 q1 (fun t i j z => by have := nq_qa z; omega)) (fun _ => sL_eq)
    rw [ez] at this; exact this
theorem h_late (hI : IC U f B pl n P m I g0 M) (hm : m ≤ 3) (hg : 0 ≤ M.1 900 0 0 ∧ M.1 900 0 0 < 1000) (hc : Cur (rd M 0) M) 
    (hq : ∀ M', IC U f B pl n P m I g0 M' → rd M' 0 = rd M 0 → AfC M M' → (tR (rd M 0) = 0 → M'.2 115 0 0 = Int64.ofInt (phW (rd M 0) 0)) → Q (vi (tR (rd M 0))) M') : Call (d + 9) qLa_late [vr 9 0, vr 115 0] M Q X := by
  have h0 := hI.1.1
  have hb := hI.1.2.1
  have th : ∀ t : Int, tR (rd M 0) = t → t ≠ 0 → Q (vi t) (gh M) := fun t e hz => by
    have := hq _ (hI.ghost hm) (rd_sI (by omega)) (AfC.th hg.1) (fun z => absurd (e.symm.trans z) hz)
    rw [e] at this; exact this
  rw [show d + 9 = (d + 8) + 1 from rfl, eLa_late, bLa_late_0]
  refine c_late (d := d) h0 hb ?_ ?_
  · intro e
    show M.1 900 0 0 < 1000 ∧ At (d + 8) kLa_late 7 [vr 9 0, vr 115 0, JK] [] (gh M) Q X
    exact ⟨hg.2, by rw [bLa_late_7]; exact th 1 e (by omega)⟩
  · intro M1 ez q0
    obtain ⟨q1, q2, q3⟩ := q0
    have ic1 : IC U f B pl n P m I g0 M1 := hI.qn hm q1 q2 q3 (fun t i j z => nq_qa z)
    have r1 : rd M1 0 = rd M 0 := rd_fs q1 (fun t j ht z => by have := nq_qa z; omega)
    rw [KV_eq, bLa_late_4 (by omega), bLa_late_9, show ((0 : Int)).toNat = 0 from rfl]
    have := hq _ (ic1.out hm) r1 (AfC.ok hg.1 q1 (fun t i j z => by have := nq_qa z; omega)) (fun _ => sL_eq)
    rw [ez] at this; exact this
theorem h_waste (hI : IC U f B pl n P m I g0 M) (hm : m ≤ 3) (hg : 0 ≤ M.1 900 0 0 ∧ M.1 900 0 0 < 1000) (hc : Cur (rd M 0) M) 
    (hq : ∀ M', IC U f B pl n P m I g0 M' → rd M' 0 = rd M 0 → AfC M M' → (tR (rd M 0) = 0 → M'.2 115 0 0 = Int64.ofInt (phW (rd M 0) 1)) → Q (vi (tR (rd M 0))) M') : Call (d + 9) qLa_waste [vr 9 0, vr 115 0] M Q X := by
  have h0 := hI.1.1
  have hb := hI.1.2.1
  have th : ∀ t : Int, tR (rd M 0) = t → t ≠ 0 → Q (vi t) (gh M) := fun t e hz => by
    have := hq _ (hI.ghost hm) (rd_sI (by omega)) (AfC.th hg.1) (fun z => absurd (e.symm.trans z) hz)
    rw [e] at this; exact this
  rw [show d + 9 = (d + 8) + 1 from rfl, eLa_waste, bLa_waste_0]
  refine c_waste (d := d) h0 hb ?_ ?_
  · intro e
    show M.1 900 0 0 < 1000 ∧ At (d + 8) kLa_waste 7 [vr 9 0, vr 115 0, JK] [] (gh M) Q X
    exact ⟨hg.2, by rw [bLa_waste_7]; exact th 1 e (by omega)⟩
  · intro M1 ez q0
    obtain ⟨q1, q2, q3⟩ := q0
    have ic1 : IC U f B pl n P m I g0 M1 := hI.qn hm q1 q2 q3 (fun t i j z => nq_qa z)
    have r1 : rd M1 0 = rd M 0 := rd_fs q1 (fun t j ht z => by have := nq_qa z; omega)
    rw [KV_eq, bLa_waste_4 (by omega), bLa_waste_9, show ((0 : Int)).toNat = 0 from rfl]
    have := hq _ (ic1.out hm) r1 (AfC.ok hg.1 q1 (fun t i j z => by have := nq_qa z; omega)) (fun _ => sL_eq)
    rw [ez] at this; exact this
theorem h_harder (hI : IC U f B pl n P m I g0 M) (hm : m ≤ 3) (hg : 0 ≤ M.1 900 0 0 ∧ M.1 900 0 0 < 1000) (hc : Cur (rd M 0) M) 
    (hq : ∀ M', IC U f B pl n P m I g0 M' → rd M' 0 = rd M 0 → AfC M M' → (tR (rd M 0) = 0 → M'.2 115 0 0 = Int64.ofInt (cnA (rd M 0) (hrd (rd M 0)))) → Q (vi (tR (rd M 0))) M') : Call (d + 9) qLa_harder [vr 9 0, vr 115 0] M Q X := by
  have h0 := hI.1.1
  have hb := hI.1.2.1
  have th : ∀ t : Int, tR (rd M 0) = t → t ≠ 0 → Q (vi t) (gh M) := fun t e hz => by
    have := hq _ (hI.ghost hm) (rd_sI (by omega)) (AfC.th hg.1) (fun z => absurd (e.symm.trans z) hz)
    rw [e] at this; exact this
  rw [show d + 9 = (d + 8) + 1 from rfl, eLa_harder, bLa_harder_0]
  refine c_harder (d := d) h0 hb ?_ ?_
  · intro e
    show M.1 900 0 0 < 1000 ∧ At (d + 8) kLa_harder 8 [vr 9 0, vr 115 0, JK] [] (gh M) Q X
    exact ⟨hg.2, by rw [bLa_harder_8]; exact th 1 e (by omega)⟩
  · intro M1 ez q0
    obtain ⟨q1, q2, q3⟩ := q0
    have ic1 : IC U f B pl n P m I g0 M1 := hI.qn hm q1 q2 q3 (fun t i j z => nq_sd z)
    have r1 : rd M1 0 = rd M 0 := rd_fs q1 (fun t j ht z => by have := nq_sd z; omega)
    rw [KV_eq, bLa_harder_4 (by omega), bLa_harder_10, show ((0 : Int)).toNat = 0 from rfl]
    have := hq _ (ic1.out hm) r1 (AfC.ok hg.1 q1 (fun t i j z => by have := nq_sd z; omega)) (fun _ => sL_eq)
    rw [ez] at this; exact this
theorem h_behind (hI : IC U f B pl n P m I g0 M) (hm : m ≤ 3) (hg : 0 ≤ M.1 900 0 0 ∧ M.1 900 0 0 < 1000) (hc : Cur (rd M 0) M) 
    (hq : ∀ M', IC U f B pl n P m I g0 M' → rd M' 0 = rd M 0 → AfC M M' → (tR (rd M 0) = 0 → M'.2 115 0 0 = Int64.ofInt (bhF (rd M 0) (hrd (rd M 0)) (rd M 0 4 2).toNat)) → Q (vi (tR (rd M 0))) M') : Call (d + 9) qLa_behind [vr 9 0, vr 115 0] M Q X := by
  have h0 := hI.1.1
  have hb := hI.1.2.1
  have th : ∀ t : Int, tR (rd M 0) = t → t ≠ 0 → Q (vi t) (gh M) := fun t e hz => by
    have := hq _ (hI.ghost hm) (rd_sI (by omega)) (AfC.th hg.1) (fun z => absurd (e.symm.trans z) hz)
    rw [e] at this; exact this
  rw [show d + 9 = (d + 8) + 1 from rfl, eLa_behind, bLa_behind_0]
  refine c_behind (d := d) h0 hb ?_ ?_
  · intro e
    show M.1 900 0 0 < 1000 ∧ At (d + 8) kLa_behind 8 [vr 9 0, vr 115 0, JK] [] (gh M) Q X
    exact ⟨hg.2, by rw [bLa_behind_8]; exact th 1 e (by omega)⟩
  · intro M1 ez q0
    obtain ⟨q1, q2, q3⟩ := q0
    have ic1 : IC U f B pl n P m I g0 M1 := hI.qn hm q1 q2 q3 (fun t i j z => nq_sd z)
    have r1 : rd M1 0 = rd M 0 := rd_fs q1 (fun t j ht z => by have := nq_sd z; omega)
    rw [KV_eq, bLa_behind_4 (by omega), bLa_behind_10, show ((0 : Int)).toNat = 0 from rfl]
    have := hq _ (ic1.out hm) r1 (AfC.ok hg.1 q1 (fun t i j z => by have := nq_sd z; omega)) (fun _ => sL_eq)
    rw [ez] at this; exact this
theorem h_leavers {s : Int} (hI : IC U f B pl n P m I g0 M) (hm : m ≤ 3) (hg : 0 ≤ M.1 900 0 0 ∧ M.1 900 0 0 < 1000) (hc : Cur (rd M 0) M) 
    (hq : ∀ M', IC U f B pl n P m I g0 M' → rd M' 0 = rd M 0 → AfC M M' → (tS (rd M 0) s = 0 → M'.2 115 0 0 = Int64.ofInt (cnA (rd M 0) (lvB (rd M 0) s))) → Q (vi (tS (rd M 0) s)) M') : Call (d + 9) qLa_leavers [vr 9 0, vi s, vr 115 0] M Q X := by
  have h0 := hI.1.1
  have hb := hI.1.2.1
  have th : ∀ t : Int, tS (rd M 0) s = t → t ≠ 0 → Q (vi t) (gh M) := fun t e hz => by
    have := hq _ (hI.ghost hm) (rd_sI (by omega)) (AfC.th hg.1) (fun z => absurd (e.symm.trans z) hz)
    rw [e] at this; exact this
  rw [show d + 9 = (d + 8) + 1 from rfl, eLa_leavers, bLa_leavers_0]
  refine c_leavers (d := d) h0 hb ?_ ?_ ?_
  · intro e
    show M.1 900 0 0 < 1000 ∧ At (d + 8) kLa_leavers 9 [vr 9 0, vi s, vr 115 0, JK] [] (gh M) Q X
    exact ⟨hg.2, by rw [bLa_leavers_9]; exact th 1 e (by omega)⟩
  · intro e
    show M.1 900 0 0 < 1000 ∧ At (d + 8) kLa_leavers 12 [vr 9 0, vi s, vr 115 0, JK] [] (gh M) Q X
    exact ⟨hg.2, by rw [bLa_leavers_12]; exact th 2 e (by omega)⟩
  · intro M1 ez q0
    obtain ⟨q1, q2, q3⟩ := q0
    have ic1 : IC U f B pl n P m I g0 M1 := hI.qn hm q1 q2 q3 (fun t i j z => nq_sd z)
    have r1 : rd M1 0 = rd M 0 := rd_fs q1 (fun t j ht z => by have := nq_sd z; omega)
    rw [KV_eq, bLa_leavers_5 (by omega), bLa_leavers_14, show ((0 : Int)).toNat = 0 from rfl]
    have := hq _ (ic1.out hm) r1 (AfC.ok hg.1 q1 (fun t i j z => by have := nq_sd z; omega)) (fun _ => sL_eq)
    rw [ez] at this; exact this
theorem h_joined {a b : Int} (hI : IC U f B pl n P m I g0 M) (hm : m ≤ 3) (hg : 0 ≤ M.1 900 0 0 ∧ M.1 900 0 0 < 1000) (hc : Cur (rd M 0) M) 
    (hq : ∀ M', IC U f B pl n P m I g0 M' → rd M' 0 = rd M 0 → AfC M M' → (tT (rd M 0) a b = 0 → M'.2 115 0 0 = joV (rd M 0) a b) → Q (vi (tT (rd M 0) a b)) M') : Call (d + 9) qLa_joined [vr 9 0, vi a, vi b, vr 115 0] M Q X := by
  have h0 := hI.1.1
  have hb := hI.1.2.1
  have th : ∀ t : Int, tT (rd M 0) a b = t → t ≠ 0 → Q (vi t) (gh M) := fun t e hz => by
    have := hq _ (hI.ghost hm) (rd_sI (by omega)) (AfC.th hg.1) (fun z => absurd (e.symm.trans z) hz)
    rw [e] at this; exact this
  rw [show d + 9 = (d + 8) + 1 from rfl, eLa_joined, bLa_joined_0]
  refine c_joined (d := d) h0 hb (fun z => (hc.px.2 z).1) ?_ ?_ ?_ ?_
  · intro e
    show M.1 900 0 0 < 1000 ∧ At (d + 8) kLa_joined 9 [vr 9 0, vi a, vi b, vr 115 0, JK] [] (gh M) Q X
    exact ⟨hg.2, by rw [bLa_joined_9]; exact th 1 e (by omega)⟩
  · intro e
    show M.1 900 0 0 < 1000 ∧ At (d + 8) kLa_joined 12 [vr 9 0, vi a, vi b, vr 115 0, JK] [] (gh M) Q X
    exact ⟨hg.2, by rw [bLa_joined_12]; exact th 2 e (by omega)⟩
  · intro e
    show M.1 900 0 0 < 1000 ∧ At (d + 8) kLa_joined 15 [vr 9 0, vi a, vi b, vr 115 0, JK] [] (gh M) Q X
    exact ⟨hg.2, by rw [bLa_joined_15]; exact th 3 e (by omega)⟩
  · intro M1 ez q1 q2 q3
    have ic1 : IC U f B pl n P m I g0 M1 := hI.qn hm q1 q2 q3 (fun t i j z => nq_ed z)
    have r1 : rd M1 0 = rd M 0 := rd_fs q1 (fun t j ht z => by have := nq_ed z; omega)
    rw [KV_eq, bLa_joined_6 (by omega), bLa_joined_17, show ((0 : Int)).toNat = 0 from rfl]
    have := hq _ (ic1.out hm) r1 (AfC.ok hg.1 q1 (fun t i j z => by have := nq_ed z; omega)) (fun _ => sL_eq)
    rw [ez] at this; exact this
theorem h_sold {a b : Int} (hI : IC U f B pl n P m I g0 M) (hm : m ≤ 3) (hg : 0 ≤ M.1 900 0 0 ∧ M.1 900 0 0 < 1000) (hc : Cur (rd M 0) M) 
    (hq : ∀ M', IC U f B pl n P m I g0 M' → rd M' 0 = rd M 0 → AfC M M' → (tT (rd M 0) a b = 0 → M'.2 115 0 0 = soV (rd M 0) a b) → Q (vi (tT (rd M 0) a b)) M') : Call (d + 9) qLa_sold [vr 9 0, vi a, vi b, vr 115 0] M Q X := by
  have h0 := hI.1.1
  have hb := hI.1.2.1
  have th : ∀ t : Int, tT (rd M 0) a b = t → t ≠ 0 → Q (vi t) (gh M) := fun t e hz => by
    have := hq _ (hI.ghost hm) (rd_sI (by omega)) (AfC.th hg.1) (fun z => absurd (e.symm.trans z) hz)
    rw [e] at this; exact this
  rw [show d + 9 = (d + 8) + 1 from rfl, eLa_sold, bLa_sold_0]
  refine c_sold (d := d) h0 hb ?_ ?_ ?_ ?_
  · intro e
    show M.1 900 0 0 < 1000 ∧ At (d + 8) kLa_sold 9 [vr 9 0, vi a, vi b, vr 115 0, JK] [] (gh M) Q X
    exact ⟨hg.2, by rw [bLa_sold_9]; exact th 1 e (by omega)⟩
  · intro e
    show M.1 900 0 0 < 1000 ∧ At (d + 8) kLa_sold 12 [vr 9 0, vi a, vi b, vr 115 0, JK] [] (gh M) Q X
    exact ⟨hg.2, by rw [bLa_sold_12]; exact th 2 e (by omega)⟩
  · intro e
    show M.1 900 0 0 < 1000 ∧ At (d + 8) kLa_sold 15 [vr 9 0, vi a, vi b, vr 115 0, JK] [] (gh M) Q X
    exact ⟨hg.2, by rw [bLa_sold_15]; exact th 3 e (by omega)⟩
  · intro M1 ez q0
    obtain ⟨q1, q2, q3⟩ := q0
    have ic1 : IC U f B pl n P m I g0 M1 := hI.qn hm q1 q2 q3 (fun t i j z => nq_sd z)
    have r1 : rd M1 0 = rd M 0 := rd_fs q1 (fun t j ht z => by have := nq_sd z; omega)
    rw [KV_eq, bLa_sold_6 (by omega), bLa_sold_17, show ((0 : Int)).toNat = 0 from rfl]
    have := hq _ (ic1.out hm) r1 (AfC.ok hg.1 q1 (fun t i j z => by have := nq_sd z; omega)) (fun _ => sL_eq)
    rw [ez] at this; exact this
theorem h_king {k : Int} (hI : IC U f B pl n P m I g0 M) (hm : m ≤ 3) (hg : 0 ≤ M.1 900 0 0 ∧ M.1 900 0 0 < 1000) (hc : Cur (rd M 0) M) (hOf : Ofr P n)
    (hq : ∀ M', IC U f B pl n P m I g0 M' → rd M' 0 = rd M 0 → AfC M M' → (tKg (rd M 0) k = 0 → M'.2 115 0 0 = Int64.ofInt ((kgS (rd M 0) k P n).1)) → Q (vi (tKg (rd M 0) k)) M') : Call (d + 9) qLa_king [vr 9 0, vi k, vr 115 0] M Q X := by
  have h0 := hI.1.1
  have hb := hI.1.2.1
  have th : ∀ t : Int, tKg (rd M 0) k = t → t ≠ 0 → Q (vi t) (gh M) := fun t e hz => by
    have := hq _ (hI.ghost hm) (rd_sI (by omega)) (AfC.th hg.1) (fun z => absurd (e.symm.trans z) hz)
    rw [e] at this; exact this
  rw [show d + 9 = (d + 8) + 1 from rfl, eLa_king, bLa_king_0]
  refine c_king (d := d) h0 hb hI.1.2.2.2.1 hI.2.2.2.2.2.1 hOf.1 (fun j hj => ⟨hI.2.2.2.2.2.2.1 j hj, hOf.2 j hj⟩) ?_ ?_ ?_
  · intro e
    show M.1 900 0 0 < 1000 ∧ At (d + 8) kLa_king 9 [vr 9 0, vi k, vr 115 0, JK] [] (gh M) Q X
    exact ⟨hg.2, by rw [bLa_king_9]; exact th 1 e (by omega)⟩
  · intro e
    show M.1 900 0 0 < 1000 ∧ At (d + 8) kLa_king 12 [vr 9 0, vi k, vr 115 0, JK] [] (gh M) Q X
    exact ⟨hg.2, by rw [bLa_king_12]; exact th 2 e (by omega)⟩
  · intro M1 ez q1 q2 q3 q4
    have ic1 : IC U f B pl n P m I g0 M1 := hI.q hm q1 ⟨q2, q3, hI.1.2.2.1.fs q1 (fun t i j z => by have := nq_wo z; omega), q4, hI.1.2.2.2.2.1.fs q1 (fun t i j z => by have := nq_wo z; omega)⟩ (fun t i j z => (nq_wo z).1)
    have r1 : rd M1 0 = rd M 0 := rd_fs q1 (fun t j ht z => by have := nq_wo z; omega)
    rw [KV_eq, bLa_king_5 (by omega), bLa_king_14, show ((0 : Int)).toNat = 0 from rfl]
    have := hq _ (ic1.out hm) r1 (AfC.ok hg.1 q1 (fun t i j z => by have := nq_wo z; omega)) (fun _ => sL_eq)
    rw [ez] at this; exact this
theorem h_entry {k : Int} (hI : IC U f B pl n P m I g0 M) (hm : m ≤ 3) (hg : 0 ≤ M.1 900 0 0 ∧ M.1 900 0 0 < 1000) (hc : Cur (rd M 0) M) 
    (hq : ∀ M', IC U f B pl n P m I g0 M' → rd M' 0 = rd M 0 → AfC M M' → (tEn (rd M 0) k = 0 → M'.2 115 0 0 = Int64.ofInt (enF (rd M 0) k (rd M 0 4 1).toNat)) → Q (vi (tEn (rd M 0) k)) M') : Call (d + 9) qLa_entry [vr 9 0, vi k, vr 115 0] M Q X := by
  have h0 := hI.1.1
  have hb := hI.1.2.1
  have th : ∀ t : Int, tEn (rd M 0) k = t → t ≠ 0 → Q (vi t) (gh M) := fun t e hz => by
    have := hq _ (hI.ghost hm) (rd_sI (by omega)) (AfC.th hg.1) (fun z => absurd (e.symm.trans z) hz)
    rw [e] at this; exact this
  rw [show d + 9 = (d + 8) + 1 from rfl, eLa_entry, bLa_entry_0]
  refine c_entry (d := d) h0 hb ?_ ?_ ?_
  · intro e
    show M.1 900 0 0 < 1000 ∧ At (d + 8) kLa_entry 9 [vr 9 0, vi k, vr 115 0, JK] [] (gh M) Q X
    exact ⟨hg.2, by rw [bLa_entry_9]; exact th 1 e (by omega)⟩
  · intro e
    show M.1 900 0 0 < 1000 ∧ At (d + 8) kLa_entry 12 [vr 9 0, vi k, vr 115 0, JK] [] (gh M) Q X
    exact ⟨hg.2, by rw [bLa_entry_12]; exact th 2 e (by omega)⟩
  · intro M1 ez q0
    obtain ⟨q1, q2, q3⟩ := q0
    have ic1 : IC U f B pl n P m I g0 M1 := hI.qn hm q1 q2 q3 (fun t i j z => nq_sd z)
    have r1 : rd M1 0 = rd M 0 := rd_fs q1 (fun t j ht z => by have := nq_sd z; omega)
    rw [KV_eq, bLa_entry_5 (by omega), bLa_entry_14, show ((0 : Int)).toNat = 0 from rfl]
    have := hq _ (ic1.out hm) r1 (AfC.ok hg.1 q1 (fun t i j z => by have := nq_sd z; omega)) (fun _ => sL_eq)
    rw [ez] at this; exact this
theorem h_edge (hI : IC U f B pl n P m I g0 M) (hm : m ≤ 3) (hg : 0 ≤ M.1 900 0 0 ∧ M.1 900 0 0 < 1000) (hc : Cur (rd M 0) M) 
    (hq : ∀ M', IC U f B pl n P m I g0 M' → rd M' 0 = rd M 0 → AfC M M' → (tR (rd M 0) = 0 → M'.2 115 0 0 = Int64.ofInt (edF (rd M 0))) → Q (vi (tR (rd M 0))) M') : Call (d + 10) qLa_edge [vr 9 0, vr 115 0] M Q X := by
  have h0 := hI.1.1
  have hb := hI.1.2.1
  have th : ∀ t : Int, tR (rd M 0) = t → t ≠ 0 → Q (vi t) (gh M) := fun t e hz => by
    have := hq _ (hI.ghost hm) (rd_sI (by omega)) (AfC.th hg.1) (fun z => absurd (e.symm.trans z) hz)
    rw [e] at this; exact this
  rw [show d + 10 = (d + 9) + 1 from rfl, eLa_edge, bLa_edge_0]
  refine c_edge (d := d) h0 hb hI.1.2.2.1 hc.px.1 ?_ ?_
  · intro e
    show M.1 900 0 0 < 1000 ∧ At (d + 9) kLa_edge 8 [vr 9 0, vr 115 0, JK] [] (gh M) Q X
    exact ⟨hg.2, by rw [bLa_edge_8]; exact th 1 e (by omega)⟩
  · intro ez M1 q1 q2 q3 q4
    have ic1 : IC U f B pl n P m I g0 M1 := hI.q hm q1 ⟨q2, q3, q4, hI.1.2.2.2.1.fs q1 (fun t i j z => by have := nq_eg z; omega), hI.1.2.2.2.2.1.fs q1 (fun t i j z => by have := nq_eg z; omega)⟩ (fun t i j z => (nq_eg z).1)
    have r1 : rd M1 0 = rd M 0 := rd_fs q1 (fun t j ht z => by have := nq_eg z; omega)
    rw [KV_eq, bLa_edge_4 (by omega), bLa_edge_10, show ((0 : Int)).toNat = 0 from rfl]
    have := hq _ (ic1.out hm) r1 (AfC.ok hg.1 q1 (fun t i j z => by have := nq_eg z; omega)) (fun _ => sL_eq)
    rw [ez] at this; exact this
theorem h_run {x k : Int} (hI : IC U f B pl n P m I g0 M) (hm : m ≤ 3) (hg : 0 ≤ M.1 900 0 0 ∧ M.1 900 0 0 < 1000) (hc : Cur (rd M 0) M) 
    (hq : ∀ M', IC U f B pl n P m I g0 M' → rd M' 0 = rd M 0 → AfC M M' → (tRn (rd M 0) k = 0 → M'.2 115 0 0 = Int64.ofInt (rnV (rd M 0) x k)) → Q (vi (tRn (rd M 0) k)) M') : Call (d + 9) qLa_run [vr 9 0, vi x, vi k, vr 115 0] M Q X := by
  have h0 := hI.1.1
  have hb := hI.1.2.1
  have th : ∀ t : Int, tRn (rd M 0) k = t → t ≠ 0 → Q (vi t) (gh M) := fun t e hz => by
    have := hq _ (hI.ghost hm) (rd_sI (by omega)) (AfC.th hg.1) (fun z => absurd (e.symm.trans z) hz)
    rw [e] at this; exact this
  rw [show d + 9 = (d + 8) + 1 from rfl, eLa_run, bLa_run_0]
  refine c_run (d := d) h0 hb ?_ ?_ ?_
  · intro e
    show M.1 900 0 0 < 1000 ∧ At (d + 8) kLa_run 10 [vr 9 0, vi x, vi k, vr 115 0, JK] [] (gh M) Q X
    exact ⟨hg.2, by rw [bLa_run_10]; exact th 1 e (by omega)⟩
  · intro e
    show M.1 900 0 0 < 1000 ∧ At (d + 8) kLa_run 13 [vr 9 0, vi x, vi k, vr 115 0, JK] [] (gh M) Q X
    exact ⟨hg.2, by rw [bLa_run_13]; exact th 2 e (by omega)⟩
  · intro M1 ez q0
    obtain ⟨q1, q2, q3⟩ := q0
    have ic1 : IC U f B pl n P m I g0 M1 := hI.qn hm q1 q2 q3 (fun t i j z => nq_qa z)
    have r1 : rd M1 0 = rd M 0 := rd_fs q1 (fun t j ht z => by have := nq_qa z; omega)
    rw [KV_eq, bLa_run_6 (by omega), bLa_run_15, show ((0 : Int)).toNat = 0 from rfl]
    have := hq _ (ic1.out hm) r1 (AfC.ok hg.1 q1 (fun t i j z => by have := nq_qa z; omega)) (fun _ => sL_eq)
    rw [ez] at this; exact this
end
