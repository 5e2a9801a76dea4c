/-! THE START'S FACTS: classes, links -/
theorem start_K {args : Array Value} {s : State} (hts : ∀ w ∈ lw_tbl, w.before args s = true) : ∃ D : va_G, va_K D cls11 [] s := by
  have hg : ∀ w ∈ gtbl, w.before args s = true := fun w h => hts w (List.mem_filter.mp h).1
  have h : ∀ t : Nat, ∃ q : ClassId × (Nat → Nat), ∀ r, cls11[t]? = some r → u_Kn s r.1 r.2.1 r.2.2 q.1 q.2 := by
    intro t
    by_cases ht : t < 11
    · obtain ⟨r, hr⟩ : ∃ r, cls11[t]? = some r := ⟨_, List.getElem?_eq_getElem (show t < cls11.length from ht)⟩
      have hrT : r = cls11.getD t (RX0, TX0, 8) := by rw [List.getD_eq_getElem?_getD, hr]; rfl
      obtain ⟨-, -, -, w4⟩ := bok_all t ht
      have w4' : Cond.instantiable r.1 (nfl t) ∈ gtbl := by rw [hrT]; exact w4
      obtain ⟨cC, iS, hk⟩ := u_known (ws := gtbl) hg (cls_in t ht r hr) (hg _ w4')
      exact ⟨(cC, iS), fun r' hr' => by cases Option.some.inj (hr.symm.trans hr'); exact hk⟩
    · exact ⟨(0, fun _ => 0), fun r hr => absurd (List.getElem?_eq_some_iff.mp hr).1 ht⟩
  obtain ⟨f, hf⟩ := Classical.axiomOfChoice h
  exact ⟨(fun t => (f t).1, fun t => (f t).2), fun t r hr => hf t r hr, fun k q hk => by cases hk⟩
theorem start_N {args : Array Value} {s : State} (hts : ∀ w ∈ lw_tbl, w.before args s = true) : NwA s := by
  intro w hw hk
  refine va_Nw.of ?_ (hts w hw)
  cases w with
  | methodLinkNest a b c d => rfl
  | fieldLinkNest a b c d e f => rfl
  | declares x => rfl
  | castable a b => rfl
  | _ => simp [nwk] at hk
