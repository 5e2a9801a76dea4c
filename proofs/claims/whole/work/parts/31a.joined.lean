/-! LAYER 3, PARTNERS: the race that they run -/
/-- two races that are told apart by nothing that the rows ask for -/
def Ag (R R' : RT) : Prop := (∀ j : Nat, 1 ≤ j → j ≤ 6 → R' 4 j = R 4 j) ∧ (∀ s : Nat, s < 3 → R' 33 s = R 33 s ∧ R' 34 s = R 34 s) ∧ (∀ s e : Nat, s < 3 → (s : Int) < R 4 1 → e < 5 → R' 35 (s * 5 + e) = R 35 (s * 5 + e) ∧ R' 36 (s * 5 + e) = R 36 (s * 5 + e)) ∧ ∀ j : Nat, j < 175 → R' 38 j = R 38 j
theorem Ag.can {R R' : RT} (h : Ag R R') {w x s e : Int} (hw : 0 ≤ w ∧ w ≤ 6) (hs : 0 ≤ s ∧ s < 3) : canP R' w x s e ↔ canP R w x s e := by
  have e1 : lvs R' w (spl (dg x s) (nxt x s)) = lvs R w (spl (dg x s) (nxt x s)) := by
    have := spl_R (dg x s) (nxt x s)
    exact h.2.2.2 _ (by omega)
  have e2 : pcs R' s = pcs R s := (h.2.1 s.toNat (by omega)).2
  unfold canP
  rw [e1, e2]
theorem Ag.mreE {R R' : RT} (h : Ag R R') {x s : Int} : mre R' x s = mre R x s := by
  unfold mre
  rw [h.1 6 (by omega) (by omega), h.1 5 (by omega) (by omega)]
theorem Ag.chnE {R R' : RT} (h : Ag R R') {w x s e : Int} (hw : 0 ≤ w ∧ w ≤ 6) (hs : 0 ≤ s ∧ s < 3) (hn : s < R 4 1) : chn R' w x s e = chn R w x s e := by
  unfold chn
  rw [h.mreE]
  have hL : (canP R' w x s e ∧ 1 ≤ e ∧ e ≤ 3) ↔ (canP R w x s e ∧ 1 ≤ e ∧ e ≤ 3) := by rw [h.can hw hs]
  simp only [hL]
  by_cases he : 1 ≤ e ∧ e ≤ 3
  · have e1 : chc R' s e = chc R s e := by
      have := (h.2.2.1 s.toNat e.toNat (by omega) (by omega) (by omega)).2
      unfold chc
      rw [show (s * 5 + e).toNat = s.toNat * 5 + e.toNat by omega]; exact this
    rw [e1]
  · rw [if_neg (fun z => he z.2), if_neg (fun z => he z.2)]
theorem Ag.fvE {R R' : RT} (h : Ag R R') {w x s e i : Int} {st sp lv : Int64} (hw : 0 ≤ w ∧ w ≤ 6) (hs : 0 ≤ s ∧ s < 3) (hn : s < R 4 1) (he : 0 ≤ e ∧ e < 5) : fv R' w x s e i st sp lv = fv R w x s e i st sp lv := by
  have e1 : cst R' s e = cst R s e := by
    have := (h.2.2.1 s.toNat e.toNat (by omega) (by omega) (by omega)).1
    unfold cst
    rw [show (s * 5 + e).toNat = s.toNat * 5 + e.toNat by omega]; exact this
  unfold fv
  rw [h.chnE hw hs hn, e1, h.1 1 (by omega) (by omega)]
theorem Ag.EEE {R R' : RT} (h : Ag R R') {V : Int → Int → Int64} {w x a b c i : Int} : EE R' V w x a b c i = EE R V w x a b c i := by
  unfold EE prt
  rw [h.1 1 (by omega) (by omega), h.1 3 (by omega) (by omega), h.1 4 (by omega) (by omega)]
theorem Ag.G0E {R R' : RT} (h : Ag R R') {V : Int → Int → Int64} {w x d p q i : Int} (hw : 0 ≤ w ∧ w ≤ 6) (hd : 0 ≤ d ∧ d < 5) (hp : 0 ≤ p ∧ p < 5) (hq : 0 ≤ q ∧ q < 5) : G0 R' V w x d p q i = G0 R V w x d p q i := by
  have e2 : ∀ a b c : Int, 0 ≤ c → c < 5 → G2 R' V w x a b c i = G2 R V w x a b c i := fun a b c c0 c5 => by
    unfold G2
    rw [h.1 1 (by omega) (by omega), h.EEE, h.EEE, h.EEE, h.EEE]
    by_cases hn : 2 < R 4 1
    · rw [if_pos hn, if_pos hn, h.fvE hw (by omega) hn ⟨c0, c5⟩]
    · rw [if_neg hn, if_neg hn]
  have e1 : ∀ a b c : Int, 0 ≤ b → b < 5 → 0 ≤ c → c < 5 → G1 R' V w x a b c i = G1 R V w x a b c i := fun a b c b0 b5 c0 c5 => by
    unfold G1
    rw [h.1 1 (by omega) (by omega), e2 _ _ _ c0 c5, e2 _ _ _ c0 c5, e2 _ _ _ c0 c5, e2 _ _ _ c0 c5]
    by_cases hn : 1 < R 4 1
    · rw [if_pos hn, if_pos hn, h.fvE hw (by omega) hn ⟨b0, b5⟩]
    · rw [if_neg hn, if_neg hn]
  unfold G0
  rw [h.1 1 (by omega) (by omega), e1 _ _ _ hp.1 hp.2 hq.1 hq.2, e1 _ _ _ hp.1 hp.2 hq.1 hq.2, e1 _ _ _ hp.1 hp.2 hq.1 hq.2, e1 _ _ _ hp.1 hp.2 hq.1 hq.2]
  by_cases hn : 0 < R 4 1
  · rw [if_pos hn, if_pos hn, h.fvE hw (by omega) hn hd]
  · rw [if_neg hn, if_neg hn]
theorem Ag.rGE {R R' : RT} (h : Ag R R') {V : Int → Int → Int64} {w x r i : Int} (hw : 0 ≤ w ∧ w ≤ 6) : rG R' V w x r i = rG R V w x r i := by
  have a := dr_R r 0
  have b := dr_R r 1
  have c := dr_R r 2
  unfold rG
  exact h.G0E hw (by omega) (by omega) (by omega)
theorem Ag.mSRE {R R' : RT} (h : Ag R R') {V : Int → Int → Int64} {w x s p q : Int} (hw : 0 ≤ w ∧ w ≤ 6) (hs : 0 ≤ s ∧ s < 3) : mSR R' V w x s p q = mSR R V w x s p q := by
  have e1 : cB R' w x s = cB R w x s := funext (fun e => decide_eq_decide.mpr (h.can hw hs))
  have e2 : (fun e => rG R' V w x (ix s p q e) s) = fun e => rG R V w x (ix s p q e) s := funext (fun e => h.rGE hw)
  unfold mSR
  rw [e1, e2]
theorem Ag.row {R R' : RT} (h : Ag R R') {V : Int → Int → Int64} {w x : Int} (hw : 0 ≤ w ∧ w ≤ 6) : rowS R' V w x = rowS R V w x := by
  have e1 : okR R' w x = okR R w x := funext (fun r => decide_eq_decide.mpr (by rw [h.can hw (by omega), h.can hw (by omega), h.can hw (by omega)]))
  have e2 : gnR R' V w x = gnR R V w x := funext (fun r => by
    unfold gnR
    rw [h.mSRE hw (by omega), h.mSRE hw (by omega), h.mSRE hw (by omega), h.rGE hw, h.rGE hw, h.rGE hw])
  have e3 : smR R' V w x = smR R V w x := funext (fun r => by
    unfold smR
    rw [h.rGE hw, h.rGE hw, h.rGE hw])
  unfold rowS
  rw [e1, e2, e3]
theorem Ag.WfE {R R' : RT} (h : Ag R R') : ∀ k : Nat, k ≤ 6 → Wf R' k = Wf R k
  | 0, _ => rfl
  | k + 1, hk => by
    have ih := h.WfE k (by omega)
    funext x i
    show (if x = 0 then 0 else rG R' (Wf R' k) ((k + 1 : Nat) : Int) x (rowS R' (Wf R' k) ((k + 1 : Nat) : Int) x) i) = (if x = 0 then 0 else rG R (Wf R k) ((k + 1 : Nat) : Int) x (rowS R (Wf R k) ((k + 1 : Nat) : Int) x) i)
    rw [ih, h.row (by omega), h.rGE (by omega)]
theorem Ag.bgnE {R R' : RT} (h : Ag R R') : bgn R' = bgn R := by
  show bgo R' (R' 4 1) = bgo R (R 4 1)
  unfold bgo
  rw [h.1 1 (by omega) (by omega), (h.2.1 0 (by omega)).1, (h.2.1 1 (by omega)).1, (h.2.1 2 (by omega)).1]
/-- two of them made one -/
def m1 (R : RT) (a b i : Nat) : Int := if i = a then (if R 33 b < R 33 a then R 33 b else R 33 a) else R 33 i
def m2 (R : RT) (a b i : Nat) : Int := if i = a then (if R 34 a < R 34 b then R 34 b else R 34 a) else R 34 i
def m3 (R : RT) (a b i e : Nat) : Int := if i = a ∧ 1 ≤ e ∧ e ≤ 3 then R 35 (a * 5 + e) + R 35 (b * 5 + e) else R 35 (i * 5 + e)
def m4 (R : RT) (a b i e : Nat) : Int := if i = a ∧ 1 ≤ e ∧ e ≤ 3 then (if R 36 (a * 5 + e) < R 36 (b * 5 + e) then R 36 (b * 5 + e) else R 36 (a * 5 + e)) else R 36 (i * 5 + e)
def shf (b i : Nat) : Nat := if i < b then i else i + 1
def jn (R : RT) (a b : Nat) : RT := fun t j =>
  if t = 4 then (if j = 1 then R 4 1 - 1 else R 4 j)
  else if t = 33 then (if j < 2 then m1 R a b (shf b j) else 0)
  else if t = 34 then (if j < 2 then m2 R a b (shf b j) else 0)
  else if t = 35 then (if j < 10 then m3 R a b (shf b (j / 5)) (j % 5) else 0)
  else if t = 36 then (if j < 10 then m4 R a b (shf b (j / 5)) (j % 5) else 0)
  else if t = 37 then (if j < 2 then R 37 (shf b j) else 0)
  else R t j
theorem jn4 {R : RT} {a b j : Nat} : jn R a b 4 j = if j = 1 then R 4 1 - 1 else R 4 j := rfl
theorem jn33 {R : RT} {a b j : Nat} : jn R a b 33 j = if j < 2 then m1 R a b (shf b j) else 0 := rfl
theorem jn34 {R : RT} {a b j : Nat} : jn R a b 34 j = if j < 2 then m2 R a b (shf b j) else 0 := rfl
theorem jn35 {R : RT} {a b j : Nat} : jn R a b 35 j = if j < 10 then m3 R a b (shf b (j / 5)) (j % 5) else 0 := rfl
theorem jn36 {R : RT} {a b j : Nat} : jn R a b 36 j = if j < 10 then m4 R a b (shf b (j / 5)) (j % 5) else 0 := rfl
theorem jn37 {R : RT} {a b j : Nat} : jn R a b 37 j = if j < 2 then R 37 (shf b j) else 0 := rfl
theorem jn38 {R : RT} {a b j : Nat} : jn R a b 38 j = R 38 j := rfl
/-- partners that can be -/
def JP (R : RT) (a b : Nat) : Prop := (a : Int) < R 4 1 ∧ (b : Int) < R 4 1 ∧ a ≠ b ∧ ∀ k : Nat, k < 15 → R 35 k ≤ 99
theorem m1_R {R : RT} (h : WR R) {a b : Nat} (hj : JP R a b) {i : Nat} (hi : i < 3) : (0 ≤ m1 R a b i ∧ m1 R a b i ≤ 4) ∧ ((i : Int) < R 4 1 ↔ 1 ≤ m1 R a b i) := by
  obtain ⟨ja, jb, jab, j5⟩ := hj
  have hb := h.b
  have q := h.2.2.2.2.2.2.1
  have q8 := h.2.2.2.2.2.2.2.1
  have qa := q a (by omega)
  have qb := q b (by omega)
  have qi := q i hi
  have ra := q8 a (by omega)
  have rb := q8 b (by omega)
  have ri := q8 i hi
  unfold m1
  split
  · next e => subst e; split <;> omega
  · omega
theorem m2_R {R : RT} (h : WR R) {a b : Nat} (hj : JP R a b) {i : Nat} (hi : i < 3) : (0 ≤ m2 R a b i ∧ m2 R a b i ≤ 3) ∧ (R 4 1 ≤ (i : Int) → m2 R a b i = 0) := by
  obtain ⟨ja, jb, jab, j5⟩ := hj
  have hb := h.b
  have q := h.2.2.2.2.2.2.2.2.1
  have q8 := h.2.2.2.2.2.2.2.2.2.1
  have qa := q a (by omega)
  have qb := q b (by omega)
  have qi := q i hi
  have ri := q8 i hi
  unfold m2
  split
  · next e => subst e; split <;> omega
  · exact ⟨qi, ri⟩
theorem m3_R {R : RT} (h : WR R) {a b : Nat} (hj : JP R a b) {i e : Nat} (hi : i < 3) (he : e < 5) : (0 ≤ m3 R a b i e ∧ m3 R a b i e ≤ 198) ∧ (e = 0 ∨ e = 4 → m3 R a b i e = 0) := by
  obtain ⟨ja, jb, jab, j5⟩ := hj
  have hb := h.b
  have q := h.2.2.2.2.2.2.2.2.2.2.1
  have q0 := h.2.2.2.2.2.2.2.2.2.2.2.2.2.2.1
  unfold m3
  split
  · next z =>
    have a1 := q (a * 5 + e) (by omega)
    have a2 := q (b * 5 + e) (by omega)
    have a3 := j5 (a * 5 + e) (by omega)
    have a4 := j5 (b * 5 + e) (by omega)
    omega
  · have a1 := q (i * 5 + e) (by omega)
    have a2 := q0 i hi
    refine ⟨a1, fun z => ?_⟩
    rcases z with z | z
    · rw [z]; exact a2.1
    · rw [z]; exact a2.2
theorem m4_R {R : RT} (h : WR R) {a b : Nat} (hj : JP R a b) {i e : Nat} (hi : i < 3) (he : e < 5) : 0 ≤ m4 R a b i e ∧ m4 R a b i e ≤ 4 := by
  obtain ⟨ja, jb, jab, j5⟩ := hj
  have hb := h.b
  have q := h.2.2.2.2.2.2.2.2.2.2.2.1
  unfold m4
  split
  · next z =>
    have a1 := q (a * 5 + e) (by omega)
    have a2 := q (b * 5 + e) (by omega)
    split <;> omega
  · exact q (i * 5 + e) (by omega)
theorem shf_R {b i : Nat} (hi : i < 2) : shf b i < 3 := by unfold shf; split <;> omega
theorem WR.jnW {R : RT} (h : WR R) {a b : Nat} (hj : JP R a b) : WR (jn R a b) := by
  have hb := h.b
  have hj' := hj
  obtain ⟨ja, jb, jab, j5⟩ := hj'
  obtain ⟨h1, h2, h3, h4, h5, h6, h7, h8, h9, h10, h11, h12, h13, h14, h15, h16⟩ := h
  have h : WR R := ⟨h1, h2, h3, h4, h5, h6, h7, h8, h9, h10, h11, h12, h13, h14, h15, h16⟩
  have n2 : 2 ≤ R 4 1 := by omega
  have f4 : ∀ j : Nat, j ≠ 1 → jn R a b 4 j = R 4 j := fun j hj => by rw [jn4, if_neg hj]
  have f41 : jn R a b 4 1 = R 4 1 - 1 := by rw [jn4, if_pos rfl]
  refine ⟨by rw [f41]; omega, by rw [f4 _ (by omega)]; exact h2, by rw [f4 _ (by omega)]; exact h3, by rw [f4 _ (by omega)]; exact h4, by rw [f4 _ (by omega)]; exact h5, by rw [f4 _ (by omega)]; exact h6, ?_, ?_, ?_, ?_, ?_, ?_, ?_, ?_, ?_, ?_⟩
  · intro s hs
    rw [jn33]
    split
    · next z => exact (m1_R h hj (shf_R z)).1
    · omega
  · intro s hs
    rw [jn33, f41]
    split
    · next z =>
      have := (m1_R h hj (shf_R (b := b) z)).2
      rw [← this]
      unfold shf
      split <;> omega
    · omega
  · intro s hs
    rw [jn34]
    split
    · next z => exact (m2_R h hj (shf_R z)).1
    · omega
  · intro s hs hn
    rw [jn34]
    rw [f41] at hn
    split
    · next z =>
      refine (m2_R h hj (shf_R (b := b) z)).2 ?_
      unfold shf
      split <;> omega
    · rfl
  · intro k hk
    rw [jn35]
    split
    · next z => exact (m3_R h hj (shf_R (by omega)) (by omega)).1
    · omega
  · intro k hk
    rw [jn36]
    split
    · next z => exact m4_R h hj (shf_R (by omega)) (by omega)
    · omega
  · intro k hk
    rw [jn38]; exact h13 k hk
  · intro s hs
    rw [jn37]
    split
    · next z => exact h14 _ (shf_R z)
    · exact Or.inl rfl
  · intro s hs
    rw [jn35, jn35]
    by_cases z : s < 2
    · rw [if_pos (by omega), if_pos (by omega), show s * 5 % 5 = 0 by omega, show (s * 5 + 4) % 5 = 4 by omega]
      exact ⟨(m3_R h hj (shf_R (by omega)) (by omega)).2 (Or.inl rfl), (m3_R h hj (shf_R (by omega)) (by omega)).2 (Or.inr rfl)⟩
    · rw [if_neg (by omega), if_neg (by omega)]; exact ⟨rfl, rfl⟩
  · rw [f4 _ (by omega), f4 _ (by omega)]; exact h16
/-- the same race, where the third one's numbers stay as they were -/
def jm (R : RT) (a b : Nat) : RT := fun t j =>
  if t = 35 ∧ 10 ≤ j ∧ j < 15 then m3 R a b 2 (j - 10) else if t = 36 ∧ 10 ≤ j ∧ j < 15 then m4 R a b 2 (j - 10) else jn R a b t j
theorem jm_ne {R : RT} {a b t j : Nat} (h : ¬ ((t = 35 ∨ t = 36) ∧ 10 ≤ j ∧ j < 15)) : jm R a b t j = jn R a b t j := by
  unfold jm
  rw [if_neg (fun z => h ⟨Or.inl z.1, z.2⟩), if_neg (fun z => h ⟨Or.inr z.1, z.2⟩)]
theorem jm35 {R : RT} {a b j : Nat} (h : 10 ≤ j ∧ j < 15) : jm R a b 35 j = m3 R a b 2 (j - 10) := if_pos ⟨rfl, h⟩
theorem jm36 {R : RT} {a b j : Nat} (h : 10 ≤ j ∧ j < 15) : jm R a b 36 j = m4 R a b 2 (j - 10) := by
  unfold jm
  rw [if_neg (by omega), if_pos ⟨rfl, h⟩]
theorem jm_ag {R : RT} (h : WR R) {a b : Nat} : Ag (jn R a b) (jm R a b) := by
  have hb := h.b
  refine ⟨fun j _ _ => jm_ne (by omega), fun s _ => ⟨jm_ne (by omega), jm_ne (by omega)⟩, fun s e hs hn he => ?_, fun j _ => jm_ne (by omega)⟩
  rw [jn4, if_pos rfl] at hn
  exact ⟨jm_ne (by omega), jm_ne (by omega)⟩
theorem WR.jmW {R : RT} (h : WR R) {a b : Nat} (hj : JP R a b) : WR (jm R a b) := by
  have hw := h.jnW hj
  obtain ⟨h1, h2, h3, h4, h5, h6, h7, h8, h9, h10, h11, h12, h13, h14, h15, h16⟩ := hw
  have g : ∀ t j : Nat, t ≠ 35 → t ≠ 36 → jm R a b t j = jn R a b t j := fun t j a b => jm_ne (by omega)
  unfold WR
  simp only [g 4 _ (by omega) (by omega), g 33 _ (by omega) (by omega), g 34 _ (by omega) (by omega), g 37 _ (by omega) (by omega), g 38 _ (by omega) (by omega)]
  refine ⟨h1, h2, h3, h4, h5, h6, h7, h8, h9, h10, ?_, ?_, h13, h14, ?_, h16⟩
  · intro k hk
    by_cases z : 10 ≤ k
    · rw [jm35 ⟨z, hk⟩]; exact (m3_R h hj (by omega) (by omega)).1
    · rw [jm_ne (by omega)]; exact h11 k hk
  · intro k hk
    by_cases z : 10 ≤ k
    · rw [jm36 ⟨z, hk⟩]; exact m4_R h hj (by omega) (by omega)
    · rw [jm_ne (by omega)]; exact h12 k hk
  · intro s hs
    by_cases z : s = 2
    · subst z
      rw [jm35 (by omega), jm35 (by omega)]
      exact ⟨(m3_R h hj (by omega) (by omega)).2 (by omega), (m3_R h hj (by omega) (by omega)).2 (by omega)⟩
    · rw [jm_ne (by omega), jm_ne (by omega)]; exact h15 s hs
