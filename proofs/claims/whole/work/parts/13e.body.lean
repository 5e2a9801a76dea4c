/-! A BODY: what the abstract machine answers from an entry on, the method does -/
theorem kR_ret {M0 M : Mem} {v : AV} {cells : Nat} (h : gC M = gC M0 + cells) : kR M0 (.inl v, M) = cells := by
  show (gC M - gC M0).toNat + 0 = cells
  omega
theorem kR_thr {M0 M : Mem} {E cells : Nat} (h : gC M = gC M0 + cells) : kR M0 (.inr E, M) = cells + 1 := by
  show (gC M - gC M0).toNat + 1 = cells + 1
  omega
theorem kR_le {M0 M : Mem} {rr : RS} {cells : Nat} (h : gC M = gC M0 + cells) (h2 : gC M ≤ gC rr.2) : cells ≤ kR M0 rr := by
  unfold kR
  omega
theorem chkH_of {nl : Nat} {hh : List (Nat × Nat × Nat × Nat)} {c : List Ent} (h : chkH nl hh c = true) : (∀ {pc : Nat} {ins : Instr} {xs : List Nat} {v : Int}, (pc, ins, xs, v) ∈ c → ((∃ i, ins = .invokevirtual i) ∨ ∃ i, ins = .invokestatic i) → xs.drop 3 = hrow c pc hh) ∧ ∀ r ∈ hh, hE r.2.2.2 ≠ 7 ∧ (hk c r.2.2.1).2 < nl := by
  unfold chkH at h
  rw [Bool.and_eq_true] at h
  refine ⟨fun {pc ins xs v} hm hi => ?_, fun r hr => ?_⟩
  · have h1 := List.all_eq_true.mp h.1 _ hm
    rcases hi with ⟨i, rfl⟩ | ⟨i, rfl⟩
    · exact beq_iff_eq.mp h1
    · exact beq_iff_eq.mp h1
  · have h2 := List.all_eq_true.mp h.2 r hr
    simp only [Bool.and_eq_true, bne_iff_ne, ne_eq, decide_eq_true_eq] at h2
    exact h2
section SD
variable {p : Program} {l : Launch} {e : Env} {R : Room} {s : State} {m : MethodId} {args : Array Value} {below : List Frame} {meth : Method} {c : Code}
variable {G : Gx} {sc : Nat × (Nat → Int)} {cc : ByteArray} {nL o d n0 q : Nat} {tb : List Ent} {rr : RS} {M0 : Mem}
set_option maxHeartbeats 2000000 in
theorem body (C : Cx G sc p l s m args meth c cc nL o) (ho : o < 16) (hh15 : hhs q ≠ [] → own' o = RL) (hnl : nL ≤ 45) (hchk : ∀ i, chkE o (retk (mi q).2.2.2.1) nL cc tb i = true) (h9 : ∀ e ∈ tb, nine e = true) (hH : chkH nL (hhs q) tb = true) (hte : c.exceptionTable.toList = tableOf (hhs q))
    (h9o : o = 9 → hhs q = []) (hr : meth.sig.returnType = (mi q).2.2.2.1) (hct : ∀ q' as M r, q' ≠ qLa_law → callD prg d n0 q' as M = some r → Ct l G sc d q' as M r)
    (hfr : d + 11 ≤ R.frames) (hlo : 64 * d + 264 ≤ R.locals) (hce : kR M0 rr ≤ R.cells) (hsl : 6 * kR M0 rr ≤ R.slots) :
    ∀ (n i : Nat) (lv st : List AV) (M : Mem) (cells : Nat) (e0 : Ent), ev n (callD prg d n0) tb (tb.drop i) lv st M = some rr → tb[i]? = some e0 → gC M = gC M0 + cells →
      GO p l e R s m args below meth c cells (6 * cells) (vx_MQ below (QcM G sc q rr) (XcM G sc rr) args s (kR M0 rr) (6 * kR M0 rr) (AA G)) G sc nL e0.1 lv st M := by
  obtain ⟨hH1, hH2⟩ := chkH_of hH
  have mono : ∀ (n j : Nat) (lv st : List AV) (M : Mem), ev n (callD prg d n0) tb (tb.drop j) lv st M = some rr → gC M ≤ gC rr.2 := fun n j lv st M h => ev_gC h9 (fun q as M r M' h => callD_gC d n0 q as M r M' h) n j lv st M rr.1 rr.2 h
  intro n
  induction n with
  | zero => intro i lv st M cells e0 hev; cases hev
  | succ n ih =>
    intro i lv st M cells e0 hev he hg0 H locs ls hP
    have hcm : cells ≤ kR M0 rr := kR_le hg0 (mono _ _ _ _ _ hev)
    obtain ⟨pc, ins, xs, v0⟩ := e0
    rw [drop_cons he] at hev
    simp only [ev] at hev
    cases hs : step (pc, ins, xs, v0) lv st M with
    | none => rw [hs] at hev; cases hev
    | some x =>
      obtain ⟨gs, a⟩ := x
      rw [hs] at hev
      dsimp only at hev
      by_cases hg : allP gs
      · rw [if_pos hg] at hev
        have hnop : ins ≠ .nop := by intro h; subst h; cases hs
        obtain ⟨len, hd, hln, hnx, hck⟩ := chk_of (hchk i) he hnop
        have hgc := step_gC (h9 _ (List.mem_of_getElem? he)) hs
        have next : ∀ (l1 st1 : List AV) (M1 : Mem) (cells1 : Nat), ev n (callD prg d n0) tb (tb.drop (i + 1)) l1 st1 M1 = some rr → gC M1 = gC M0 + cells1 → GO p l e R s m args below meth c cells1 (6 * cells1) (vx_MQ below (QcM G sc q rr) (XcM G sc rr) args s (kR M0 rr) (6 * kR M0 rr) (AA G)) G sc nL (pc + len) l1 st1 M1 := by
          intro l1 st1 M1 cells1 h1 h2
          obtain ⟨e1, he1⟩ := ev_some h1
          have h3 := ih (i + 1) l1 st1 M1 cells1 e1 h1 he1 h2
          rw [hnx e1 he1] at h3
          exact h3
        /- behind a call -/
        have aft : ∀ (q' : Nat) (as rest : List AV), ((∃ i, ins = .invokevirtual i) ∨ ∃ i, ins = .invokestatic i) → len = 3 → ((xg (pc, ins, xs, v0) 2 == 0) = (retk (mi q').2.2.2.1 == 5)) → a = rCl q' as lv rest M →
            ∃ r, callD prg d n0 q' as M = some r ∧ cells + kR M r ≤ kR M0 rr ∧
            (∀ v M', r = (.inl v, M') → GO p l e R s m args below meth c (cells + kR M r) (6 * cells + 6 * kR M r) (vx_MQ below (QcM G sc q rr) (XcM G sc rr) args s (kR M0 rr) (6 * kR M0 rr) (AA G)) G sc nL (pc + 3) lv (if retk (mi q').2.2.2.1 = 5 then rest else v :: rest) M') ∧
            (∀ E M', r = (.inr E, M') → ∀ (H1 : Heap) (locs1 : List Loc) (q9 : Addr) (ce : Cell), PT G sc s nL H1 locs1 ls lv rest M' → H1[q9]? = some ce → ce.vm = .none → s.vm.findClass (exN E) = some ce.cls → E < 3 → vx_W p l e R s m args below meth c H1 locs1 (cells + kR M r) (6 * cells + 6 * kR M r) (vx_MQ below (QcM G sc q rr) (XcM G sc rr) args s (kR M0 rr) (6 * kR M0 rr) (AA G)) (F0 m pc ls (rest.map (cv G))) q9) := by
          intro q' as rest hins hl3 hret ha
          subst ha
          dsimp only at hev
          have hrow' := hH1 (List.mem_of_getElem? he) hins
          cases hq : callD prg d n0 q' as M with
          | none => rw [hq] at hev; cases hev
          | some r =>
            obtain ⟨r1, M2⟩ := r
            have hm := callD_gC d n0 q' as M r1 M2 hq
            rw [hq] at hev
            rcases r1 with v | E
            · dsimp only at hev
              have hk : kR M (.inl v, M2) = (gC M2 - gC M).toNat := rfl
              have hc2 : gC M2 = gC M0 + ((cells + kR M (.inl v, M2) : Nat) : Int) := by rw [hk]; omega
              refine ⟨_, rfl, kR_le hc2 (mono _ _ _ _ _ hev), ?_, fun E M' h => by cases h⟩
              intro v' M' h
              cases h
              have h4 := next _ _ _ _ hev hc2
              rw [hl3, Nat.mul_add] at h4
              have e5 : (if xg (pc, ins, xs, v0) 2 = 0 then rest else v :: rest) = (if retk (mi q').2.2.2.1 = 5 then rest else v :: rest) := by
                by_cases z : xg (pc, ins, xs, v0) 2 = 0
                · have z2 : retk (mi q').2.2.2.1 = 5 := by rw [z] at hret; exact beq_iff_eq.mp hret.symm
                  rw [if_pos z, if_pos z2]
                · have z2 : ¬ retk (mi q').2.2.2.1 = 5 := fun w => z (by rw [w] at hret; exact beq_iff_eq.mp hret)
                  rw [if_neg z, if_neg z2]
              rw [← e5]
              exact h4
            · dsimp only at hev
              have hk : kR M (.inr E, M2) = (gC M2 - gC M).toNat + 1 := rfl
              rw [hrow'] at hev
              cases hn : hnd E (hrow tb pc (hhs q)) with
              | none =>
                rw [hn] at hev
                obtain rfl := Option.some.inj hev
                have hk0 : kR M0 (.inr E, M2) = cells + kR M (.inr E, M2) := by
                  show (gC M2 - gC M0).toNat + 1 = _
                  rw [hk]; omega
                refine ⟨_, rfl, Nat.le_of_eq hk0.symm, fun v M' h => (by cases h), ?_⟩
                intro E' M' h H1 locs1 q9 ce hP1 h1 h2 h3 h4
                cases h
                exact sd_out C hh15 (fun r hr => (hH2 r hr).1) hte h4 hn hP1 h1 h2 h3 (Nat.le_of_eq hk0.symm) (by rw [hk0]; omega)
              | some tk =>
                obtain ⟨t, k⟩ := tk
                rw [hn] at hev
                dsimp only at hev
                by_cases hgd : M2.1 900 0 0 < 1000
                · rw [if_pos hgd] at hev
                  have hc2 : gC (gh M2) = gC M0 + ((cells + kR M (.inr E, M2) : Nat) : Int) := by rw [gC_gh, hk]; omega
                  refine ⟨_, rfl, kR_le hc2 (mono _ _ _ _ _ hev), fun v M' h => (by cases h), ?_⟩
                  intro E' M' h H1 locs1 q9 ce hP1 h1 h2 h3 h4
                  cases h
                  refine sd_catch C hh15 hH2 hnl hte hchk h4 hn hP1 h1 h2 h3 (fun e' he' H2 locs2 ls2 hP2 => ?_) (ev_some hev)
                  have h5 := ih t _ _ _ _ e' hev he' hc2 H2 locs2 ls2 ⟨hP2.1.caught hgd, hP2.2⟩
                  rw [Nat.mul_add] at h5
                  exact h5
                · rw [if_neg hgd] at hev
                  cases hev
        rcases step_cls hs with hi | hi | hi | ⟨idx, rfl⟩ | ⟨idx, rfl⟩ | ⟨idx, rfl⟩
        · obtain ⟨l1, st1, M1, rfl⟩ := step_nx hi hs
          exact sd_nx C ho hP hi hd (hln.elim (fun h => absurd h (iln_N hi)) (fun h => h)) hck hs hg (next _ _ _ _ hev (hgc.trans hg0))
        · exact sd_br C hP hi hd hln hck hs (fun l' st' M' h => by subst h; exact next _ _ _ _ hev (hgc.trans hg0)) (fun j l' st' M' e' h he' => by subst h; exact ih j l' st' M' cells e' hev he' (hgc.trans hg0))
        · obtain ⟨v, rfl⟩ := step_rt hi hs
          obtain rfl := Option.some.inj hev
          rw [kR_ret hg0]
          exact sd_rt C hP hi hd (hln.elim (fun h => absurd h (iln_R hi)) (fun h => h)) hck hs hg hr
        · obtain ⟨as, rest, rfl⟩ := step_cv hs
          have hl3 : len = 3 := hln.elim (fun h => by cases h) (fun h => h)
          subst hl3
          have hck2 := hck
          simp only [chkI, Bool.and_eq_true, decide_eq_true_eq, beq_iff_eq] at hck2
          obtain ⟨⟨⟨⟨⟨⟨-, hm⟩, -⟩, h4⟩, -⟩, -⟩, -⟩ := hck2
          obtain ⟨r, hq, hle, kk, kx⟩ := aft _ as rest (Or.inl ⟨idx, rfl⟩) rfl h4 rfl
          exact sd_callV C ho hP hd hck hs (hct _ _ _ _ (no_law o ho _ (List.contains_iff_mem.mp hm)) hq) hfr hlo (Nat.le_trans hle hce) (by omega) kk kx
        · have hl3 : len = 3 := hln.elim (fun h => by cases h) (fun h => h)
          subst hl3
          have hck2 := hck
          simp only [chkI, Bool.and_eq_true, Bool.or_eq_true, decide_eq_true_eq, beq_iff_eq] at hck2
          rcases step_cs hs with ⟨h0, hac⟩ | ⟨h0, n', j, rest, rfl, hw, rfl, rfl⟩ | ⟨as, rest, rfl⟩
          · obtain ⟨l1, st1, M1, rfl⟩ := arC_nx hac
            rcases hck2 with ((⟨-, h⟩ | h) | ⟨⟨h, -⟩, -⟩) | ⟨⟨⟨⟨h, -⟩, -⟩, -⟩, -⟩
            · exact sd_arC C hP (ac_ok (o, idx) (List.contains_iff_mem.mp h)) ⟨w_An, w_As, w_Ai⟩ hac hg (by omega) (by omega) hd (next _ _ _ _ hev (hgc.trans hg0))
            · omega
            · omega
            · omega
          · rcases hck2 with ((⟨h, -⟩ | h) | ⟨⟨-, h1⟩, h2⟩) | ⟨⟨⟨⟨h, -⟩, -⟩, -⟩, -⟩
            · omega
            · omega
            · subst h1 h2
              have hg' : 0 ≤ j ∧ j < n' := hg
              exact sd_ckx C hP hw hg' (by omega) (by omega) (Nat.le_trans hcm hce) (by omega) hd (next _ _ _ _ hev (hgc.trans hg0))
            · omega
          · have key : ∀ r, callD prg d n0 (xg (pc, Instr.invokestatic idx, xs, v0) 0) as M = some r → ((xg (pc, Instr.invokestatic idx, xs, v0) 2 == 0) = (retk (mi (xg (pc, Instr.invokestatic idx, xs, v0) 0)).2.2.2.1 == 5)) ∧ xg (pc, Instr.invokestatic idx, xs, v0) 0 ≠ qLa_law := by
              intro r hq
              have h8 := callD_q hq
              rcases hck2 with ((⟨h, -⟩ | h) | ⟨⟨h, -⟩, -⟩) | ⟨⟨⟨⟨-, hm⟩, -⟩, h4⟩, -⟩
              · omega
              · omega
              · omega
              · exact ⟨h4, by rcases hm with hm | hm <;> exact no_law o ho _ (List.contains_iff_mem.mp hm)⟩
            cases hq0 : callD prg d n0 (xg (pc, Instr.invokestatic idx, xs, v0) 0) as M with
            | none =>
              exfalso
              dsimp only at hev
              rw [hq0] at hev
              cases hev
            | some r0 =>
              obtain ⟨r, hq, hle, kk, kx⟩ := aft _ as rest (Or.inr ⟨idx, rfl⟩) rfl (key r0 hq0).1 rfl
              exact sd_callS C ho hP hd hck hs (callD_q hq) (hct _ _ _ _ (key r0 hq0).2 hq) hfr hlo (Nat.le_trans hle hce) (by omega) kk kx
        · obtain ⟨rfl, hw⟩ := step_th hs
          have hl3 : len = 3 := hln.elim (fun h => by cases h) (fun h => h)
          subst hl3
          obtain rfl := Option.some.inj hev
          simp only [chkI, Bool.and_eq_true, beq_iff_eq] at hck
          obtain ⟨h1, h2⟩ := hck
          subst h1
          obtain ⟨sx, ic, wd, hx, hwd, d3, d4, d5⟩ := thr_at hchk he h2
          have hkt : kR M0 (.inr (xg (pc, Instr.new idx, xs, v0) 0), M) = cells + 1 := kR_thr hg0
          rw [hkt] at hce hsl ⊢
          exact sd_newE C hP hx hwd (fun x hx => by rw [hte, h9o rfl] at hx; cases hx) hw hd d3 d4 d5 (by omega) (by omega) hce (by omega) (Nat.le_refl _) (by omega)
      · rw [if_neg hg] at hev
        cases hev
end SD
