/-! THE HEAP BEHIND THE CONSTRUCTORS IS THE TYPED MEMORY AT THE START -/
abbrev Gw (D : va_G) (K : FieldType → ClassId) (N0 : Nat) (X : Nat → Nat → Nat) : Gx := (D, fun t => K (eTy t), fun t i => if sysB t = true then N0 + aoff t i else X t i, N0)
def M0 (L : Nat) (xs : Nat → Int) : Mem := (fun t i j => if t = 118 then (if i = 1 ∧ j = 0 then (L : Int) else if i = 0 then xs j else 0) else m0 t i j, fun _ _ _ => 0)
theorem sys_B {t : Nat} (h : sys t) : sysB t = true ∧ t < 116 := by
  unfold sysB
  rcases h with h | h
  · exact ⟨by simp [h], by omega⟩
  · exact ⟨by simp [h.1, h.2], h.2⟩
theorem Gw_at {D : va_G} {K : FieldType → ClassId} {N0 : Nat} {X : Nat → Nat → Nat} {t i : Nat} (h : sysB t = true) : (Gw D K N0 X).2.2.1 t i = N0 + aoff t i := if_pos h
theorem aoff_in {t i : Nat} (h : inn (t + 1) = true) : aoff (t + 1) i = aoff t (i / asz t) + 1 + i % asz t * bSz (t + 1) := by
  show (if inn (t + 1) = true then _ else _) = _
  rw [if_pos h]
theorem arrV_cg {c : ClassId} {N : Nat} {f g : Nat → Value} (h : ∀ j, j < N → f j = g j) : arrV c N f = arrV c N g := by
  have e : (fun j : Fin N => f j.val) = fun j : Fin N => g j.val := funext fun j => h j.val j.isLt
  show ({ cls := c, slots := Array.ofFn (n := N) fun j => f j.val, vm := .none } : Cell) = _
  rw [e]
  rfl
theorem ocell_V (c : ClassId) (N b S : Nat) : ∀ i : Nat, ocell c N b S i = arrV c N (fun j => va_rf (if j < i then some (b + 1 + j * S) else none))
  | 0 => by
    show ({ cls := c, slots := Array.replicate N .null, vm := .none } : Cell) = _
    rw [arrV_new]
    exact arrV_cg fun j _ => by simp [va_rf]
  | i + 1 => by
    show (ocell c N b S i).setSlot i (.ref (b + 1 + i * S)) = _
    rw [ocell_V c N b S i, arrV_store]
    refine arrV_cg fun j _ => ?_
    by_cases e : j = i
    · subst e
      simp [updV, va_rf]
    · by_cases h : j < i
      · simp [updV, e, h, Nat.lt_succ_of_lt h]
      · simp [updV, e, h, show ¬ j < i + 1 by omega]
section
variable {D : va_G} {K : FieldType → ClassId} {N0 : Nat} {X : Nat → Nat → Nat} {H : Heap} {L : Nat} {xs : Nat → Int}
theorem bk_at (h : HB D K N0 wCv H) : ∀ t i : Nat, 20 ≤ t → t < 116 → t ≠ 53 → i < nI' t → Bk (defaultValue (bLf t)) (Dms K (bLf t) (bDm t)) (N0 + aoff t i) H := by
  intro t
  induction t with
  | zero => intro i h1; omega
  | succ t ih =>
    intro i h1 h2 h3 hi
    by_cases hin : inn (t + 1) = true
    · obtain ⟨d1, d2, d3, d4, d5, d6, d7, d8⟩ := inn_dm t (by omega) hin
      have hlt : i / asz t < nI' t := by
        rw [d3] at hi
        exact Nat.div_lt_of_lt_mul (by rw [Nat.mul_comm]; exact hi)
      have hp := ih (i / asz t) d4 (by omega) d5 hlt
      obtain ⟨s1, s2⟩ := dm_S1 (t + 1) h2 h1 h3
      rw [d1, d6] at hp
      cases hD : bDm (t + 1) with
      | nil => exact absurd hD d7
      | cons n r =>
        rw [hD] at hp s1
        have hq := hp.2 (i % asz t) (Nat.mod_lt _ d8)
        have eS : gS (Dms K (bLf (t + 1)) (n :: r)) = bSz (t + 1) := by rw [(Dms_S (n :: r)).1, s1]
        have hq : Bk (defaultValue (bLf (t + 1))) (Dms K (bLf (t + 1)) (n :: r)) (N0 + aoff t (i / asz t) + 1 + i % asz t * gS (Dms K (bLf (t + 1)) (n :: r))) H := hq
        rw [eS] at hq
        rw [aoff_in hin, show N0 + (aoff t (i / asz t) + 1 + i % asz t * bSz (t + 1)) = N0 + aoff t (i / asz t) + 1 + i % asz t * bSz (t + 1) by omega]
        exact hq
    · have hc := chkR_all (t + 1) h2 (sys_B (Or.inr ⟨h1, h2⟩)).1 (Bool.eq_false_iff.mpr hin) i hi
      unfold chkR at hc
      split at hc
      · simp only [Bool.and_eq_true, decide_eq_true_eq] at hc
        omega
      · next k ty ns hf =>
        simp only [Bool.and_eq_true, decide_eq_true_eq, beq_iff_eq] at hc
        obtain ⟨⟨-, rfl⟩, rfl⟩ := hc
        exact (h.2.1 k _ (bfind_at hf)).2.2
      · simp only [Bool.and_eq_true, beq_iff_eq] at hc
        omega
      · cases hc
theorem ak_sys4 : ∀ t, t < 116 → 20 ≤ t → akd t = 1 ∨ akd t = 2 ∨ akd t = 3 ∨ akd t = 4 := by decide +kernel
theorem m0_arr {t i j : Nat} (h : 20 ≤ t) : m0 t i j = 0 := if_neg (by omega)
theorem M0_arr {t i j : Nat} (h : 20 ≤ t) (h2 : t < 116) : (M0 L xs).1 t i j = 0 := by
  show (if t = 118 then _ else m0 t i j) = 0
  rw [if_neg (by omega), m0_arr h]
theorem M0_obj {t i j : Nat} (h : t < 11) : (M0 L xs).1 t i j = m0 t i j := by
  show (if t = 118 then _ else m0 t i j) = _
  rw [if_neg (by omega)]
theorem hd_arr (h : HB D K N0 wCv H) {t i : Nat} (h1 : 20 ≤ t) (h2 : t < 116) (h3 : t ≠ 53) (hi : i < nI' t) : va_at D cls11 (N0 + aoff t i, cel (Gw D K N0 X) (M0 L xs) t i) H := by
  have hB := bk_at h t i h1 h2 h3 hi
  by_cases h4 : akd t = 4
  · rw [cel_r h1 h4]
    have hin := dm_S3 t h2 h1 h3 h4
    have ht5 : t < 115 := by
      by_cases e : t < 115
      · exact e
      · exfalso
        have e : t = 115 := by omega
        subst e
        revert h4; decide
    obtain ⟨d1, d2, d3, d4, d5, d6, d7, d8⟩ := inn_dm t ht5 hin
    obtain ⟨s1, s2⟩ := dm_S1 (t + 1) (by omega) (by omega) (by
      intro e
      have e : t = 52 := by omega
      subst e
      revert h4; decide)
    have hty := dm_S2 t h2 h1 h3
    rw [d1] at hty hB
    cases hD : bDm (t + 1) with
    | nil => exact absurd hD d7
    | cons n r =>
      rw [hD] at hB hty s1
      have hc := hB.1
      have eS : gS (Dms K (bLf t) (n :: r)) = bSz (t + 1) := by rw [(Dms_S (n :: r)).1, s1]
      have hc : H[N0 + aoff t i]? = some (ocell (K (arrN (bLf t) (n :: r).length)) (asz t) (N0 + aoff t i) (gS (Dms K (bLf t) (n :: r))) (asz t)) := hc
      have hty : arrN (bLf t) (n :: r).length = eTy t := hty
      rw [eS, hty, ocell_V] at hc
      show H[N0 + aoff t i]? = some (vp_cell (K (eTy t)) (asz t, .inr (.inr (.inr (.inr (fun j => some (adr (Gw D K N0 X) (pA t i j))))))))
      rw [hc, vp_cell_q]
      refine congrArg some (arrV_cg fun j hj => ?_)
      rw [if_pos hj]
      have hpA : pA t i j = (t + 1, i * asz t + j) := by unfold pA; rw [if_neg h3]
      have hsb : sysB (t + 1) = true := (sys_B (Or.inr ⟨by omega, by omega⟩)).1
      have e1 : adr (Gw D K N0 X) (pA t i j) = N0 + aoff t i + 1 + j * bSz (t + 1) := by
        rw [hpA]
        show (Gw D K N0 X).2.2.1 (t + 1) (i * asz t + j) = _
        rw [Gw_at hsb, aoff_in hin]
        have q1 : (i * asz t + j) / asz t = i := by rw [Nat.mul_comm, Nat.mul_add_div d8, Nat.div_eq_of_lt hj, Nat.add_zero]
        have q2 : (i * asz t + j) % asz t = j := by rw [Nat.mul_comm, Nat.mul_add_mod, Nat.mod_eq_of_lt hj]
        rw [q1, q2]
        omega
      rw [e1]
  · obtain ⟨e1, e2⟩ := dm_S4 t h2 h1 h3 h4
    rw [e1, e2] at hB
    have hB : H[N0 + aoff t i]? = some (Jvm.Free.Multi.innerC (K (eTy t)) (asz t) (defaultValue (eTy t))) := hB
    have hin : ∀ v : Value, Jvm.Free.Multi.innerC (K (eTy t)) (asz t) v = arrV (K (eTy t)) (asz t) (fun _ => v) := fun v => by rw [← arrV_new]; rfl
    rw [hin] at hB
    have hk := eTy_k t (by omega) h1 h2
    rcases ak_sys4 t h2 h1 with h5 | h5 | h5 | h5
    · rw [h5] at hk
      have ht := tyk_1 hk
      rw [cel_i h1 (Or.inl h5)]
      show H[N0 + aoff t i]? = some (vp_cell (K (eTy t)) (asz t, .inl (fun j => Int32.ofInt ((M0 L xs).1 t i j))))
      rw [hB, vp_cell_i]
      refine congrArg some (arrV_cg fun j hj => ?_)
      rw [M0_arr h1 h2, ht]; rfl
    · rw [h5] at hk
      have ht := tyk_2 hk
      rw [cel_l h1 h5]
      show H[N0 + aoff t i]? = some (vp_cell (K (eTy t)) (asz t, .inr (.inl ((M0 L xs).2 t i))))
      rw [hB, vp_cell_l]
      refine congrArg some (arrV_cg fun j hj => ?_)
      rw [ht]; rfl
    · rw [h5] at hk
      have ht := tyk_3 hk
      rw [cel_i h1 (Or.inr h5)]
      show H[N0 + aoff t i]? = some (vp_cell (K (eTy t)) (asz t, .inl (fun j => Int32.ofInt ((M0 L xs).1 t i j))))
      rw [hB, vp_cell_i]
      refine congrArg some (arrV_cg fun j hj => ?_)
      rw [M0_arr h1 h2, ht]; rfl
    · exact absurd h5 h4
theorem hd_53 (h : HB D K N0 wCv H) : va_at D cls11 (N0 + aoff 53 0, cel (Gw D K N0 X) (M0 L xs) 53 0) H := by
  have hc := chkR_all 53 (by decide) rfl rfl 0 (by decide)
  unfold chkR at hc
  split at hc
  · simp at hc
  · simp at hc
  · next k ys hf =>
    simp only [Bool.and_eq_true, beq_iff_eq] at hc
    obtain ⟨-, rfl⟩ := hc
    have hB := (h.2.1 k _ (bfind_at hf)).2
    have hB : H[N0 + aoff 53 0]? = some (vp_cell (K (.object RX2)) (3, .inr (.inr (.inr (.inr (fun j => ([some (aoff 2 1), some (aoff 2 2), some (aoff 2 3)].getD j none).map (fun o => N0 + o))))))) := hB
    rw [cel_r (by decide) rfl]
    show H[N0 + aoff 53 0]? = some (vp_cell (K (eTy 53)) (3, _))
    rw [hB, vp_cell_q, vp_cell_q]
    refine congrArg some (arrV_cg fun j hj => ?_)
    have h3 : j = 0 ∨ j = 1 ∨ j = 2 := by omega
    rcases h3 with rfl | rfl | rfl <;> rfl
  · cases hc
theorem psys0 : ∀ t, t < 11 → ∀ j, j < nfl t → fty t j = 2 → ∀ i, i < nI' t → sysB (pF t j i).1 = true := by decide +kernel
theorem hd_obj (h : HB D K N0 wCv H) {t i : Nat} (h1 : t < 11) (hi : i < nI' t) : va_at D cls11 (N0 + aoff t i, cel (Gw D K N0 X) (M0 L xs) t i) H := by
  have hin : inn t = false := by
    unfold inn
    rw [decide_eq_false (show ¬ 21 ≤ t by omega)]
    rfl
  have hc := chkR_all t (by omega) (sys_B (Or.inl h1)).1 hin i hi
  rw [cel_o h1]
  unfold chkR at hc
  split at hc
  · next k t' fs hf =>
    simp only [Bool.and_eq_true, decide_eq_true_eq, beq_iff_eq, List.all_eq_true, List.mem_range] at hc
    obtain ⟨⟨⟨-, rfl⟩, hl⟩, ha⟩ := hc
    have hB := (h.2.1 k _ (bfind_at hf)).2
    have hB : va_at D cls11 (N0 + aoff t' i, .inr (t', fs.map (ov N0))) H := hB
    have e : fs.map (ov N0) = flds (Gw D K N0 X) (M0 L xs) t' i := by
      refine List.ext_getElem? fun j => ?_
      by_cases hj : j < nfl t'
      · rw [flds_get hj, List.getElem?_map]
        have hg : fs[j]? = some (fs.getD j none) := by
          rw [List.getD_eq_getElem?_getD, List.getElem?_eq_getElem (show j < fs.length by omega)]
          rfl
        rw [hg]
        refine congrArg some ?_
        have haj := ha j hj
        have hpF := nI_pF t' h1 j hj
        unfold fvl
        rw [M0_obj h1]
        generalize fs.getD j none = v at haj ⊢
        generalize hf5 : fty t' j = f at haj hpF ⊢
        split at haj
        · next x => rw [beq_iff_eq.mp haj]; rfl
        · next t9 o =>
          have hs : sysB (pF t' j i).1 = true := psys0 t' h1 j hj hf5 i hi
          show Value.ref (N0 + o) = Value.ref ((Gw D K N0 X).2.2.1 (pF t' j i).1 (pF t' j i).2)
          rw [Gw_at hs, beq_iff_eq.mp haj]
        · next t9 o =>
          simp only [Bool.and_eq_true, beq_iff_eq] at haj
          show Value.ref (N0 + o) = Value.ref ((Gw D K N0 X).2.2.1 6 (m0 t' i j).toNat)
          rw [Gw_at (show sysB 6 = true from rfl), haj.1, haj.2]
          rfl
        · next x => rw [beq_iff_eq.mp haj]; rfl
        · next x => rw [beq_iff_eq.mp haj]; rfl
        · cases haj
      · rw [List.getElem?_eq_none (by rw [List.length_map]; omega), List.getElem?_eq_none (by rw [flds_len]; omega)]
    rw [← e]
    exact hB
  · simp only [Bool.and_eq_true, decide_eq_true_eq] at hc
    omega
  · simp only [Bool.and_eq_true, beq_iff_eq] at hc
    omega
  · cases hc
theorem hd_all (h : HB D K N0 wCv H) : Hd (Gw D K N0 X) (M0 L xs) H := by
  intro t i ht hi
  rw [Gw_at (sys_B ht).1]
  rcases ht with h1 | ⟨h1, h2⟩
  · exact hd_obj h h1 hi
  · by_cases e : t = 53
    · subst e
      have : i = 0 := by have : i < 1 := hi; omega
      subst this
      exact hd_53 h
    · exact hd_arr h h1 h2 e hi
end
