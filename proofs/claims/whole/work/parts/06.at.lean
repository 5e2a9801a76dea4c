/-! RUNS BY EQUATIONS. 'At d c i l st M Q X': from instruction i of the table c on, with callees at most d deep, the run ends: it returns v and leaves M' with Q v M', or throws E with X E M'. -/
def ResP (Q : AV → Mem → Prop) (X : Nat → Mem → Prop) : RS → Prop
  | (.inl v, M) => Q v M
  | (.inr E, M) => X E M
def Call (d q : Nat) (as : List AV) (M : Mem) (Q : AV → Mem → Prop) (X : Nat → Mem → Prop) : Prop := ∃ n r, callD prg d n q as M = some r ∧ ResP Q X r
def At (d : Nat) (c : List Ent) (i : Nat) (l st : List AV) (M : Mem) (Q : AV → Mem → Prop) (X : Nat → Mem → Prop) : Prop := ∃ n r, ev n (callD prg d n) c (c.drop i) l st M = some r ∧ ResP Q X r
/-- what goes on behind a call that answers, or not -/
def KV (d : Nat) (c : List Ent) (i : Nat) (l st : List AV) (Q : AV → Mem → Prop) (X : Nat → Mem → Prop) : AV → Mem → Prop := fun v M => At d c i l (v :: st) M Q X
def KU (d : Nat) (c : List Ent) (i : Nat) (l st : List AV) (Q : AV → Mem → Prop) (X : Nat → Mem → Prop) : AV → Mem → Prop := fun _ M => At d c i l st M Q X
theorem KV_eq {d c i l st Q X v M} : KV d c i l st Q X v M = At d c i l (v :: st) M Q X := rfl
theorem KU_eq {d c i l st Q X v M} : KU d c i l st Q X v M = At d c i l st M Q X := rfl
def Sub (f g : Nat → List AV → Mem → Option RS) : Prop := ∀ q as M r, f q as M = some r → g q as M = some r
theorem ev_mono : ∀ (n : Nat) (f g : Nat → List AV → Mem → Option RS) (c is : List Ent) (l st : List AV) (M : Mem) (r : RS) (n' : Nat), Sub f g → n ≤ n' → ev n f c is l st M = some r → ev n' g c is l st M = some r := by
  intro n
  induction n with
  | zero => intro f g c is l st M r n' _ _ h; simp [ev] at h
  | succ n ih =>
    intro f g c is l st M r n' hs hn h
    obtain ⟨m, rfl⟩ : ∃ m, n' = m + 1 := ⟨n' - 1, by omega⟩
    have hm : n ≤ m := by omega
    cases is with
    | nil => simp [ev] at h
    | cons e is =>
      simp only [ev] at h ⊢
      cases hst : step e l st M with
      | none => simp [hst] at h
      | some q =>
        obtain ⟨gs, a⟩ := q
        simp only [hst] at h ⊢
        by_cases hg : allP gs
        · rw [if_pos hg] at h ⊢
          rcases a with ⟨l1, st1, M1⟩ | ⟨j, l1, st1, M1⟩ | ⟨q, as, l1, st1, M1⟩ | ⟨v, M1⟩ | ⟨E, M1⟩
          · exact ih _ _ _ _ _ _ _ _ _ hs hm h
          · exact ih _ _ _ _ _ _ _ _ _ hs hm h
          · cases hc : f q as M1 with
            | none => simp [hc] at h
            | some w =>
              have hc' := hs _ _ _ _ hc
              simp only [hc] at h
              simp only [hc']
              rcases w with ⟨v | E, M2⟩
              · exact ih _ _ _ _ _ _ _ _ _ hs hm h
              · dsimp only at h ⊢
                cases hh : hnd E (List.drop 3 e.2.2.1) with
                | none => simp only [hh] at h ⊢; exact h
                | some tk =>
                  obtain ⟨t, k⟩ := tk
                  simp only [hh] at h ⊢
                  by_cases hg9 : M2.1 900 0 0 < 1000
                  · rw [if_pos hg9] at h ⊢
                    exact ih _ _ _ _ _ _ _ _ _ hs hm h
                  · rw [if_neg hg9] at h
                    cases h
          · exact h
          · exact h
        · rw [if_neg hg] at h
          cases h
theorem callD_mono (P : Prg) : ∀ (d d' n n' : Nat), d ≤ d' → n ≤ n' → Sub (callD P d n) (callD P d' n') := by
  intro d
  induction d with
  | zero => intro d' n n' _ _ q as M r h; simp [callD] at h
  | succ d ih =>
    intro d' n n' hd hn q as M r h
    obtain ⟨m, rfl⟩ : ∃ m, d' = m + 1 := ⟨d' - 1, by omega⟩
    simp only [callD] at h ⊢
    cases hp : P q with
    | none => simp [hp] at h
    | some w =>
      simp only [hp] at h ⊢
      by_cases hle : (lay as).length ≤ w.2
      · rw [if_pos hle] at h ⊢
        exact ev_mono _ _ _ _ _ _ _ _ _ _ (ih m n n' (by omega) hn) hn h
      · rw [if_neg hle] at h
        cases h
theorem ev_det {n n' : Nat} {d : Nat} {c is : List Ent} {l st : List AV} {M : Mem} {r r' : RS} (h : ev n (callD prg d n) c is l st M = some r) (h' : ev n' (callD prg d n') c is l st M = some r') : r = r' := by
  have a := ev_mono _ _ _ _ _ _ _ _ _ (max n n') (callD_mono prg d d n (max n n') (Nat.le_refl _) (Nat.le_max_left _ _)) (Nat.le_max_left _ _) h
  have b := ev_mono _ _ _ _ _ _ _ _ _ (max n n') (callD_mono prg d d n' (max n n') (Nat.le_refl _) (Nat.le_max_right _ _)) (Nat.le_max_right _ _) h'
  exact Option.some.inj (a.symm.trans b)
/-- the state behind: whatever ends from there ends from here, and so -/
def Ev (d : Nat) (c is : List Ent) (l st : List AV) (M : Mem) (r : RS) : Prop := ∃ n, ev n (callD prg d n) c is l st M = some r
theorem At_Ev {d c i l st M Q X} : At d c i l st M Q X ↔ ∃ r, Ev d c (c.drop i) l st M r ∧ ResP Q X r :=
  ⟨fun ⟨n, r, h, q⟩ => ⟨r, ⟨n, h⟩, q⟩, fun ⟨r, ⟨n, h⟩, q⟩ => ⟨n, r, h, q⟩⟩
theorem Ev_step {d c e is l st M gs r} {a : AR} (hs : step e l st M = some (gs, a)) (hg : allP gs) : Ev d c (e :: is) l st M r ↔ (match a with
    | .inl (l, st, M) => Ev d c is l st M r
    | .inr (.inl (i, l, st, M)) => Ev d c (c.drop i) l st M r
    | .inr (.inr (.inl (q, as, l, st, M))) => ∃ w, (∃ n, callD prg d n q as M = some w) ∧ (match w with
      | (.inl v, M) => Ev d c is l (if xg e 2 = 0 then st else v :: st) M r
      | (.inr E, M) => match hnd E (e.2.2.1.drop 3) with
        | none => r = (.inr E, M)
        | some (t, k) => M.1 900 0 0 < 1000 ∧ Ev d c (c.drop t) (stv l k JK) [] (gh M) r)
    | .inr (.inr (.inr (.inl (v, M)))) => r = (.inl v, M)
    | .inr (.inr (.inr (.inr (E, M)))) => r = (.inr E, M)) := by
  have un : ∀ n f, ev (n + 1) f c (e :: is) l st M = (match (generalizing := false) a with
        | .inl (l, st, M) => ev n f c is l st M
        | .inr (.inl (i, l, st, M)) => ev n f c (c.drop i) l st M
        | .inr (.inr (.inl (q, as, l, st, M))) => match f q as M with
          | none => none
          | some (.inl v, M) => ev n f c is l (if xg e 2 = 0 then st else v :: st) M
          | some (.inr E, M) => match hnd E (e.2.2.1.drop 3) with
            | none => some (.inr E, M)
            | some (t, k) => if M.1 900 0 0 < 1000 then ev n f c (c.drop t) (stv l k JK) [] (gh M) else none
        | .inr (.inr (.inr (.inl (v, M)))) => some (.inl v, M)
        | .inr (.inr (.inr (.inr (E, M)))) => some (.inr E, M)) := by
    intro n f
    simp only [ev, hs]
    rw [if_pos hg]
    rcases a with ⟨l1, st1, M1⟩ | ⟨j, l1, st1, M1⟩ | ⟨q, as, l1, st1, M1⟩ | ⟨v, M1⟩ | ⟨E, M1⟩ <;> rfl
  have up : ∀ n (is' : List Ent) l st M, ev n (callD prg d (n + 1)) c is' l st M = some r → Ev d c is' l st M r := fun n is' l st M h =>
    ⟨n + 1, ev_mono _ _ _ _ _ _ _ _ _ _ (callD_mono prg d d _ _ (Nat.le_refl _) (Nat.le_refl _)) (Nat.le_succ n) h⟩
  have dn : ∀ n (is' : List Ent) l st M, ev n (callD prg d n) c is' l st M = some r → ev n (callD prg d (n + 1)) c is' l st M = some r := fun n is' l st M h =>
    ev_mono _ _ _ _ _ _ _ _ _ _ (callD_mono prg d d _ _ (Nat.le_refl _) (Nat.le_succ n)) (Nat.le_refl n) h
  constructor
  · rintro ⟨n, h⟩
    cases n with
    | zero => simp [ev] at h
    | succ n =>
      rw [un] at h
      rcases a with ⟨l1, st1, M1⟩ | ⟨j, l1, st1, M1⟩ | ⟨q, as, l1, st1, M1⟩ | ⟨v, M1⟩ | ⟨E, M1⟩
      · exact up _ _ _ _ _ h
      · exact up _ _ _ _ _ h
      · dsimp only at h ⊢
        cases hc : callD prg d (n + 1) q as M1 with
        | none => simp [hc] at h
        | some w =>
          refine ⟨w, ⟨n + 1, hc⟩, ?_⟩
          simp only [hc] at h
          rcases w with ⟨v | E, M2⟩
          · exact up _ _ _ _ _ h
          · dsimp only at h ⊢
            cases hh : hnd E (List.drop 3 e.2.2.1) with
            | none => simp only [hh] at h ⊢; exact (Option.some.inj h).symm
            | some tk =>
              obtain ⟨t, k⟩ := tk
              simp only [hh] at h ⊢
              by_cases hg9 : M2.1 900 0 0 < 1000
              · rw [if_pos hg9] at h
                exact ⟨hg9, up _ _ _ _ _ h⟩
              · rw [if_neg hg9] at h
                cases h
      · exact (Option.some.inj h).symm
      · exact (Option.some.inj h).symm
  · intro h
    rcases a with ⟨l1, st1, M1⟩ | ⟨j, l1, st1, M1⟩ | ⟨q, as, l1, st1, M1⟩ | ⟨v, M1⟩ | ⟨E, M1⟩
    · obtain ⟨n, h⟩ := h
      exact ⟨n + 1, by rw [un]; exact dn _ _ _ _ _ h⟩
    · obtain ⟨n, h⟩ := h
      exact ⟨n + 1, by rw [un]; exact dn _ _ _ _ _ h⟩
    · obtain ⟨w, ⟨k, hk⟩, h⟩ := h
      have key : ∀ n, k ≤ n + 1 → callD prg d (n + 1) q as M1 = some w := fun n hn => callD_mono prg d d _ _ (Nat.le_refl _) hn _ _ _ _ hk
      have big : ∀ n (is' : List Ent) l st M, ev n (callD prg d n) c is' l st M = some r → ev (max n k) (callD prg d (max n k + 1)) c is' l st M = some r := fun n is' l st M h =>
        ev_mono _ _ _ _ _ _ _ _ _ _ (callD_mono prg d d _ _ (Nat.le_refl _) (by omega)) (by omega) h
      rcases w with ⟨v | E, M2⟩
      · obtain ⟨n, h⟩ := h
        refine ⟨max n k + 1, ?_⟩
        rw [un]
        dsimp only
        rw [key _ (by omega)]
        exact big _ _ _ _ _ h
      · dsimp only at h
        cases hh : hnd E (List.drop 3 e.2.2.1) with
        | none =>
          simp only [hh] at h
          subst h
          refine ⟨k + 1, ?_⟩
          rw [un]
          dsimp only
          rw [key _ (by omega)]
          simp only [hh]
        | some tk =>
          obtain ⟨t, z⟩ := tk
          simp only [hh] at h
          obtain ⟨hg9, n, h⟩ := h
          refine ⟨max n k + 1, ?_⟩
          rw [un]
          dsimp only
          rw [key _ (by omega)]
          simp only [hh]
          rw [if_pos hg9]
          exact big _ _ _ _ _ h
    · subst h; exact ⟨1, by rw [un]⟩
    · subst h; exact ⟨1, by rw [un]⟩
theorem drop_cons {c : List Ent} {i : Nat} {e : Ent} (h : c[i]? = some e) : c.drop i = e :: c.drop (i + 1) := by
  obtain ⟨hi, rfl⟩ := List.getElem?_eq_some_iff.mp h
  exact List.drop_eq_getElem_cons hi
theorem At_nx {d c i l st M Q X e gs l' st' M'} (he : c[i]? = some e) (hs : step e l st M = some (gs, rNx l' st' M')) (hg : allP gs) : At d c i l st M Q X = At d c (i + 1) l' st' M' Q X := by
  refine propext ?_
  rw [At_Ev, At_Ev, drop_cons he]
  exact exists_congr fun r => and_congr_left fun _ => Ev_step hs hg
theorem At_jp {d c i l st M Q X e gs j l' st' M'} (he : c[i]? = some e) (hs : step e l st M = some (gs, rJp j l' st' M')) (hg : allP gs) : At d c i l st M Q X = At d c j l' st' M' Q X := by
  refine propext ?_
  rw [At_Ev, At_Ev, drop_cons he]
  exact exists_congr fun r => and_congr_left fun _ => Ev_step hs hg
theorem At_if {d c i l st M Q X e gs j l' st' M'} {C : Prop} {dc : Decidable C} (he : c[i]? = some e) (hs : step e l st M = some (gs, jmp j C dc l' st' M')) (hg : allP gs) : At d c i l st M Q X = if C then At d c j l' st' M' Q X else At d c (i + 1) l' st' M' Q X := by
  by_cases h : C
  · rw [if_pos h]
    exact At_jp he (by rw [hs, jmp, if_pos h]) hg
  · rw [if_neg h]
    exact At_nx he (by rw [hs, jmp, if_neg h]) hg
theorem At_rt {d c i l st M Q X e gs v M'} (he : c[i]? = some e) (hs : step e l st M = some (gs, rRt v M')) (hg : allP gs) : At d c i l st M Q X = Q v M' := by
  refine propext ?_
  rw [At_Ev, drop_cons he]
  constructor
  · rintro ⟨r, h, q⟩
    rw [Ev_step hs hg] at h
    subst h
    exact q
  · intro q
    exact ⟨_, (Ev_step hs hg).mpr rfl, q⟩
theorem At_th {d c i l st M Q X e gs E M'} (he : c[i]? = some e) (hs : step e l st M = some (gs, rTh E M')) (hg : allP gs) : At d c i l st M Q X = X E M' := by
  refine propext ?_
  rw [At_Ev, drop_cons he]
  constructor
  · rintro ⟨r, h, q⟩
    rw [Ev_step hs hg] at h
    subst h
    exact q
  · intro q
    exact ⟨_, (Ev_step hs hg).mpr rfl, q⟩
theorem Call_iff {d q as M Q X} : Call d q as M Q X ↔ ∃ w, (∃ n, callD prg d n q as M = some w) ∧ ResP Q X w :=
  ⟨fun ⟨n, r, h, q⟩ => ⟨r, ⟨n, h⟩, q⟩, fun ⟨r, ⟨n, h⟩, q⟩ => ⟨n, r, h, q⟩⟩
theorem At_cv {d c i l st M Q X e gs q as l' st' M'} (he : c[i]? = some e) (hs : step e l st M = some (gs, rCl q as l' st' M')) (hg : allP gs) (hv : xg e 2 = 1) (hx : e.2.2.1.drop 3 = []) : At d c i l st M Q X = Call d q as M' (KV d c (i + 1) l' st' Q X) X := by
  refine propext ?_
  rw [At_Ev, Call_iff, drop_cons he]
  constructor
  · rintro ⟨r, h, qq⟩
    rw [Ev_step hs hg] at h
    obtain ⟨w, hw, h⟩ := h
    refine ⟨w, hw, ?_⟩
    rcases w with ⟨v | E, M2⟩
    · simp only [hv, Nat.one_ne_zero, if_false] at h
      exact At_Ev.mpr ⟨r, h, qq⟩
    · simp only [hx, hnd] at h
      subst h
      exact qq
  · rintro ⟨w, hw, h⟩
    rcases w with ⟨v | E, M2⟩
    · obtain ⟨r, h1, h2⟩ := At_Ev.mp h
      refine ⟨r, (Ev_step hs hg).mpr ⟨_, hw, ?_⟩, h2⟩
      simp only [hv, Nat.one_ne_zero, if_false]
      exact h1
    · refine ⟨(.inr E, M2), (Ev_step hs hg).mpr ⟨_, hw, ?_⟩, h⟩
      simp only [hx, hnd]
def KX (d : Nat) (c : List Ent) (hs : List Nat) (l : List AV) (Q : AV → Mem → Prop) (X : Nat → Mem → Prop) : Nat → Mem → Prop := fun E M => match hnd E hs with
  | none => X E M
  | some (t, k) => M.1 900 0 0 < 1000 ∧ At d c t (stv l k JK) [] (gh M) Q X
theorem At_ch {d c i l st M Q X e gs q as l' st' M' hs'} (he : c[i]? = some e) (hs : step e l st M = some (gs, rCl q as l' st' M')) (hg : allP gs) (hv : xg e 2 = 1) (hx : e.2.2.1.drop 3 = hs') : At d c i l st M Q X = Call d q as M' (KV d c (i + 1) l' st' Q X) (KX d c hs' l' Q X) := by
  refine propext ?_
  rw [At_Ev, Call_iff, drop_cons he]
  constructor
  · rintro ⟨r, h, qq⟩
    rw [Ev_step hs hg] at h
    obtain ⟨w, hw, h⟩ := h
    refine ⟨w, hw, ?_⟩
    rcases w with ⟨v | E, M2⟩
    · simp only [hv, Nat.one_ne_zero, if_false] at h
      exact At_Ev.mpr ⟨r, h, qq⟩
    · simp only [hx] at h
      show KX d c hs' l' Q X E M2
      unfold KX
      cases hh : hnd E hs' with
      | none =>
        simp only [hh] at h ⊢
        subst h
        exact qq
      | some tk =>
        obtain ⟨t, k⟩ := tk
        simp only [hh] at h ⊢
        exact ⟨h.1, At_Ev.mpr ⟨r, h.2, qq⟩⟩
  · rintro ⟨w, hw, h⟩
    rcases w with ⟨v | E, M2⟩
    · obtain ⟨r, h1, h2⟩ := At_Ev.mp h
      refine ⟨r, (Ev_step hs hg).mpr ⟨_, hw, ?_⟩, h2⟩
      simp only [hv, Nat.one_ne_zero, if_false]
      exact h1
    · have h : KX d c hs' l' Q X E M2 := h
      unfold KX at h
      cases hh : hnd E hs' with
      | none =>
        simp only [hh] at h
        refine ⟨(.inr E, M2), (Ev_step hs hg).mpr ⟨_, hw, ?_⟩, h⟩
        simp only [hx, hh]
      | some tk =>
        obtain ⟨t, k⟩ := tk
        simp only [hh] at h
        obtain ⟨r, h1, h2⟩ := At_Ev.mp h.2
        refine ⟨r, (Ev_step hs hg).mpr ⟨_, hw, ?_⟩, h2⟩
        simp only [hx, hh]
        exact ⟨h.1, h1⟩
theorem At_cu {d c i l st M Q X e gs q as l' st' M'} (he : c[i]? = some e) (hs : step e l st M = some (gs, rCl q as l' st' M')) (hg : allP gs) (hv : xg e 2 = 0) (hx : e.2.2.1.drop 3 = []) : At d c i l st M Q X = Call d q as M' (KU d c (i + 1) l' st' Q X) X := by
  refine propext ?_
  rw [At_Ev, Call_iff, drop_cons he]
  constructor
  · rintro ⟨r, h, qq⟩
    rw [Ev_step hs hg] at h
    obtain ⟨w, hw, h⟩ := h
    refine ⟨w, hw, ?_⟩
    rcases w with ⟨v | E, M2⟩
    · simp only [hv, if_true] at h
      exact At_Ev.mpr ⟨r, h, qq⟩
    · simp only [hx, hnd] at h
      subst h
      exact qq
  · rintro ⟨w, hw, h⟩
    rcases w with ⟨v | E, M2⟩
    · obtain ⟨r, h1, h2⟩ := At_Ev.mp h
      refine ⟨r, (Ev_step hs hg).mpr ⟨_, hw, ?_⟩, h2⟩
      simp only [hv, if_true]
      exact h1
    · refine ⟨(.inr E, M2), (Ev_step hs hg).mpr ⟨_, hw, ?_⟩, h⟩
      simp only [hx, hnd]
theorem allP_cons {g : Prop} {gs : List Prop} : allP (g :: gs) ↔ g ∧ allP gs := by
  cases gs with
  | nil => simp [allP]
  | cons a l => rfl
theorem allP_app : ∀ (a b : List Prop), allP (a ++ b) ↔ allP a ∧ allP b
  | [], b => by simp [allP]
  | g :: a, b => by rw [List.cons_append, allP_cons, allP_cons, allP_app a b, and_assoc]
theorem Ev_run {d c r} : ∀ (k : Nat) (is : List Ent) (l st : List AV) (M : Mem) (gs : List Prop) (l' st' : List AV) (M' : Mem), run k is l st M = some (gs, l', st', M') → allP gs → (Ev d c is l st M r ↔ Ev d c (is.drop k) l' st' M' r) := by
  intro k
  induction k with
  | zero =>
    intro is l st M gs l' st' M' h _
    simp only [run, Option.some.injEq, Prod.mk.injEq] at h
    obtain ⟨-, rfl, rfl, rfl⟩ := h
    exact Iff.rfl
  | succ k ih =>
    intro is l st M gs l' st' M' h hg
    cases is with
    | nil => simp [run] at h
    | cons e is =>
      simp only [run] at h
      cases hs : step e l st M with
      | none => simp [hs] at h
      | some w =>
        obtain ⟨g1, a⟩ := w
        rcases a with ⟨l1, st1, M1⟩ | a
        · simp only [hs] at h
          cases hr : run k is l1 st1 M1 with
          | none => simp [hr] at h
          | some w =>
            obtain ⟨g2, l2, st2, M2⟩ := w
            simp only [hr, Option.some.injEq, Prod.mk.injEq] at h
            obtain ⟨rfl, rfl, rfl, rfl⟩ := h
            obtain ⟨ha, hb⟩ := (allP_app _ _).mp hg
            rw [Ev_step hs ha]
            exact ih _ _ _ _ _ _ _ _ hr hb
        · simp [hs] at h
theorem At_run {d c i l st M Q X} (k : Nat) {gs l' st' M'} (h : run k (c.drop i) l st M = some (gs, l', st', M')) (hg : allP gs) : At d c i l st M Q X = At d c (i + k) l' st' M' Q X := by
  refine propext ?_
  rw [At_Ev, At_Ev]
  refine exists_congr fun r => and_congr_left fun _ => ?_
  rw [Ev_run _ _ _ _ _ _ _ _ _ h hg, List.drop_drop]
theorem Call_to {d q as M Q X c nl l} (hp : prg q = some (c, nl)) (hl : lay as ++ List.replicate (nl - (lay as).length) JK = l) (hle : (lay as).length ≤ nl) : Call (d + 1) q as M Q X = At d c 0 l [] M Q X := by
  subst hl
  refine propext ?_
  simp only [Call, At, callD, hp, List.drop_zero, if_pos hle]
theorem Call_mono {d d' q as M Q X} (hd : d ≤ d') (h : Call d q as M Q X) : Call d' q as M Q X := by
  obtain ⟨n, r, h, q⟩ := h
  exact ⟨n, r, callD_mono prg d d' n n hd (Nat.le_refl _) _ _ _ _ h, q⟩
/-- a run has one end: so what holds of it by one pair of posts gives any other pair -/
theorem Call_det {d q as M Q X Q' X'} (h : Call d q as M Q X) (h' : Call d q as M Q' X') : Call d q as M (fun v M => Q v M ∧ Q' v M) (fun E M => X E M ∧ X' E M) := by
  obtain ⟨w, ⟨n, hn⟩, a⟩ := Call_iff.mp h
  obtain ⟨w', ⟨n', hn'⟩, b⟩ := Call_iff.mp h'
  have e : w = w' := Option.some.inj ((callD_mono prg d d n (max n n') (Nat.le_refl _) (Nat.le_max_left _ _) _ _ _ _ hn).symm.trans (callD_mono prg d d n' (max n n') (Nat.le_refl _) (Nat.le_max_right _ _) _ _ _ _ hn'))
  subst e
  refine Call_iff.mpr ⟨w, ⟨n, hn⟩, ?_⟩
  rcases w with ⟨v | E, M⟩
  · exact ⟨a, b⟩
  · exact ⟨a, b⟩
