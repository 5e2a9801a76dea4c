/-! THE BUILDER RUN -/
def obN (w : BW) (t : Nat) : BW := (w.1 + 1, w.2.1 + nfl t, w.2.2 ++ [(w.1, .inl (t, dflt t))])
def wA : Option BW := bcall bprg 3 200 9 [vr 0 0] (obN (0, 0, []) 9)
def wB : Option BW := wA.bind (fun w => bcall bprg 3 300 10 [vr 0 w.1] (obN w 10))
def wC : Option BW := wB.map (fun w => (w.1 + 1, w.2.1 + 1, w.2.2 ++ [(w.1, .inr (.inl (.long, [1])))]))
theorem wA_some : (wA.map (fun w => (w.1, w.2.2.length))) = some (119, 119) := by decide +kernel
theorem wC_some : (wC.map (fun w => (w.1, w.2.1, w.2.2.length))) = some (25177, 122094, 157) := by decide +kernel
