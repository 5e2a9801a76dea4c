/-! LAYER 3, WHAT A WEEK IS: in words of our own -/
abbrev canP (R : RT) (w x s d : Int) : Prop := d = 0 ∨ (0 < dg x s ∧ (if d = 4 then lvs R w (spl (dg x s) (nxt x s)) ≠ 0 else d ≤ pcs R s))
def mre (R : RT) (x s : Int) : Int := if 0 < R 4 6 ∧ R 4 6 ≤ dg x s - nxt x s then R 4 5 else 0
def chn (R : RT) (w x s d : Int) : Int := if canP R w x s d ∧ 1 ≤ d ∧ d ≤ 3 then (if chc R s d + mre R x s < 4 then chc R s d + mre R x s else 4) else 0
abbrev lvP (x s d : Int) : Prop := d = 0 ∨ (0 < dg x s ∧ d < 3)
theorem mre_R {R} (h : WR R) (x s : Int) : 0 ≤ mre R x s ∧ mre R x s ≤ 4 := by
  have hb := h.b
  unfold mre; split <;> omega
theorem chn_R {R} (h : WR R) (w x s d : Int) (hs : 0 ≤ s ∧ s < 3) (hd : 0 ≤ d ∧ d < 5) : 0 ≤ chn R w x s d ∧ chn R w x s d ≤ 4 := by
  have h1 := mre_R h x s
  have h2 := h.chc s d hs hd
  unfold chn
  repeat' split
  all_goals omega
/-- how a week ends by modes: who has won, and the state behind -/
def wn1 (x m s : Int) : Int := if dg x s = 1 ∧ dr m s = 1 then pw s else 0
def won (x m : Int) : Int := wn1 x m 0 + wn1 x m 1 + wn1 x m 2
def af1 (x m s : Int) : Int := if dg x s = 1 ∧ dr m s = 1 then 0 else if 0 < dg x s ∧ dr m s ≠ 2 then (dg x s - dr m s) * su s else 0
def aft (x m : Int) : Int := af1 x m 0 + af1 x m 1 + af1 x m 2
theorem won_R (x m : Int) : 0 ≤ won x m ∧ won x m < 8 := by
  unfold won wn1 pw
  simp only [if_true, if_false, show ((1 : Int) = 0) = False by simp, show ((2 : Int) = 0) = False by simp, show ((2 : Int) = 1) = False by simp]
  repeat' split
  all_goals omega
theorem af1_R {x m s : Int} (hm : dr m s ≤ 2) : 0 ≤ af1 x m s ∧ af1 x m s ≤ 4 * su s := by
  have h1 := dg_R x s
  have h2 := dr_R m s
  have h3 : su s = 1 ∨ su s = 5 ∨ su s = 25 := by
    unfold su
    repeat' split
    all_goals simp
  unfold af1
  rcases h3 with h3 | h3 | h3 <;> rw [h3] <;> repeat' split
  all_goals omega
theorem aft_R {x m : Int} (h0 : dr m 0 ≤ 2) (h1 : dr m 1 ≤ 2) (h2 : dr m 2 ≤ 2) : 0 ≤ aft x m ∧ aft x m < 125 := by
  have a0 := af1_R (x := x) h0
  have a1 := af1_R (x := x) h1
  have a2 := af1_R (x := x) h2
  have e0 : su 0 = 1 := rfl
  have e1 : su 1 = 5 := rfl
  have e2 : su 2 = 25 := rfl
  unfold aft
  omega
/-- modes as a row -/
abbrev mm (a b c : Int) : Int := a * 25 + b * 5 + c
theorem dr_mm {a b c : Int} (ha : 0 ≤ a ∧ a < 5) (hb : 0 ≤ b ∧ b < 5) (hc : 0 ≤ c ∧ c < 5) : dr (mm a b c) 0 = a ∧ dr (mm a b c) 1 = b ∧ dr (mm a b c) 2 = c := by
  refine ⟨?_, ?_, ?_⟩
  · show mm a b c / 25 % 5 = a; unfold mm; omega
  · show mm a b c / 5 % 5 = b; unfold mm; omega
  · show mm a b c % 5 = c; unfold mm; omega
/-- a week laid open in memory -/
def Op1 (R : RT) (w x : Int) (k : Nat) (M : Mem) (s : Int) : Prop := ∀ d : Int, 0 ≤ d → d < 5 → M.1 46 k (s * 5 + d).toNat = (if canP R w x s d then 1 else 0) ∧ M.1 51 k (s * 5 + d).toNat = chn R w x s d ∧ M.1 52 k (s * 5 + d).toNat = (if lvP x s d then 1 else 0)
def Op2 (x : Int) (k : Nat) (M : Mem) (a b c : Int) : Prop := M.1 48 k (mm a b c).toNat = won x (mm a b c) ∧ M.1 49 k (mm a b c).toNat = aft x (mm a b c)
def Opd (R : RT) (w x : Int) (k : Nat) (M : Mem) : Prop := M.1 8 k 8 = w ∧ (∀ s : Int, 0 ≤ s → s < 3 → Op1 R w x k M s) ∧ (∀ a b c : Int, 0 ≤ a → a < 3 → 0 ≤ b → b < 3 → 0 ≤ c → c < 3 → Op2 x k M a b c)
