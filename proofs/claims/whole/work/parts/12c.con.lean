/-! CONTRACTS: what a method does, as the abstract machine says it -/
def kR (M : Mem) (r : RS) : Nat := (gC r.2 - gC M).toNat + (match r.1 with | .inl _ => 0 | .inr _ => 1)
def rmD (d k : Nat) : Room := { frames := d + 10, cells := k, slots := 6 * k, locals := 64 * d + 200 }
def exN (E : Nat) : String := ["java/lang/IllegalStateException", "java/util/NoSuchElementException", "java/lang/IllegalArgumentException"].getD E ""
def rv (G : Gx) (q : Nat) (v : AV) : Option Value := if retk (mi q).2.2.2.1 = 5 then none else some (cv G v)
def PcM (G : Gx) (sc : Nat × (Nat → Int)) (as : List AV) (M : Mem) : Array Value → State → Prop := fun a U => a = (as.map (cv G)).toArray ∧ okL as ∧ Wm G sc M U.heap ∧ va_K G.1 cls11 [] U ∧ ArK G U ∧ RO G sc U U.heap
def QcM (G : Gx) (sc : Nat × (Nat → Int)) (q : Nat) (r : RS) : Array Value → State → Outcome → State → Prop := fun _ st o t => match r with
  | (.inl v, M) => o = .returned (rv G q v) ∧ okV v ∧ Wm G sc M t.heap ∧ va_F (AA G) st t
  | (.inr _, _) => False
def XcM (G : Gx) (sc : Nat × (Nat → Int)) (r : RS) : String → State → State → Prop := fun E st t => match r with
  | (.inl _, _) => False
  | (.inr E', M) => E = exN E' ∧ E' < 3 ∧ Wm G sc M t.heap ∧ va_F (AA G) st t
def Ct (l : Launch) (G : Gx) (sc : Nat × (Nat → Int)) (d q : Nat) (as : List AV) (M : Mem) (r : RS) : Prop :=
  vx_Met l (mi q).1 (mcode q :: gtbl) (rmD d (kR M r)) (PcM G sc as M) (QcM G sc q r) (XcM G sc r) (kR M r) (6 * kR M r) (AA G)
theorem ArK.moved {G : Gx} {u U : State} (hvm : u.vm.Alike U.vm) (h : ArK G u) : ArK G U := fun t h1 h2 => ⟨arrOfT_moved hvm (h t h1 h2).1, (h t h1 h2).2.moved hvm⟩
theorem PcM_blind {G : Gx} {sc : Nat × (Nat → Int)} {as : List AV} {M : Mem} : FrameBlind (PcM G sc as M) := fun a U g mk h =>
  ⟨h.1, h.2.1, h.2.2.1, va_K.moved (u := U) (U := U.calling g mk a) (Vm.Alike.refl U.vm) h.2.2.2.1, ArK.moved (u := U) (U := U.calling g mk a) (Vm.Alike.refl U.vm) h.2.2.2.2.1, RO.warm (s := U) (U := U.calling g mk a) h.2.2.2.2.2 (State.WarmedH.refl U) (fun _ _ _ => rfl)⟩
section SD
variable {p : Program} {l : Launch} {e : Env} {R : Room} {s : State} {m : MethodId} {args : Array Value} {below : List Frame} {meth : Method} {c : Code} {H : Heap} {locs : List Loc} {cells slots mc ms : Nat} {Q : State → Prop}
variable {G : Gx} {sc : Nat × (Nat → Int)} {cc : ByteArray} {nL o pc q d : Nat} {ls : Array Slot} {lv st as rest : List AV} {M M' : Mem} {gs : List Prop} {r : RS}
theorem PcM_at (C : Cx G sc p l s m args meth c cc nL o) (hP : PT G sc s nL H locs ls lv st M) (ha : okL as) : ∀ U : State, U.heap = H → s.WarmedH U.vm → PcM G sc as M (as.map (cv G)).toArray U := by
  intro U hU hW
  obtain ⟨-, -, -, -, -, -, hK, hAr, hRO, -⟩ := C
  exact ⟨rfl, ha, by rw [hU]; exact hP.1, va_K.moved hW.alike hK, ArK.moved hW.alike hAr, by rw [hU]; exact hRO.warm hW hP.2.2.2.2.2.1⟩
/-- behind a call: it goes on, or what was thrown goes its way -/
theorem sd_after {a : Array Value} {st0 : List Value} (hr : vx_Run p l e R s m args below meth c H locs cells slots mc ms (F0 m pc ls st0) (rest.map (cv G)) (QcM G sc q r a) (XcM G sc r) (AA G)) (hP : PT G sc s nL H locs ls lv rest M)
    (kk : ∀ v M', r = (.inl v, M') → GO p l e R s m args below meth c (cells + mc) (slots + ms) Q G sc nL (pc + 3) lv (if retk (mi q).2.2.2.1 = 5 then rest else v :: rest) M')
    (kx : ∀ E M', r = (.inr E, M') → ∀ (H1 : Heap) (locs1 : List Loc) (q9 : Addr) (ce : Cell), PT G sc s nL H1 locs1 ls lv rest M' → H1[q9]? = some ce → ce.vm = .none → s.vm.findClass (exN E) = some ce.cls → E < 3 → vx_W p l e R s m args below meth c H1 locs1 (cells + mc) (slots + ms) Q (F0 m pc ls (rest.map (cv G))) q9) :
    W p l e R s m args below meth c H locs cells slots Q (F0 m pc ls st0) := by
  intro T hT X
  rcases hr T hT X with ⟨v, st₀, t, T', L, h0, X', hL, e1, e2, hq, st⟩ | ⟨q9, st₀, t, T', L, E, ce, h0, X', hL, e1, e2, hx, hce, hcv, hcl, st⟩
  · rcases r with ⟨v9 | E9, M9⟩
    · obtain ⟨hv, hok, hW, hF⟩ := hq
      cases hv
      obtain ⟨k1, k2, k3⟩ := vx_keep (A0 := AA G) (A1 := AA G) (free := AA G) h0 e1 hP.2.2.2.2 (fun _ _ h => h) (fun _ h => h) hL hF
      have hP' : PT G sc s nL T'.heap (locs ++ L) ls lv (if retk (mi q).2.2.2.1 = 5 then rest else v9 :: rest) M9 := by
        refine ⟨by rw [e1]; exact hW, hP.2.1, hP.2.2.1, ?_, k3⟩
        split
        · exact hP.2.2.2.1
        · exact okL_cons.mpr ⟨hok, hP.2.2.2.1⟩
      obtain ⟨t2, a1, b1⟩ := kk v9 M9 rfl T'.heap (locs ++ L) ls hP' T' rfl X'
      refine ⟨t2, st t2 ?_, b1⟩
      have e9 : (rv G q v9).toList ++ rest.map (cv G) = (if retk (mi q).2.2.2.1 = 5 then rest else v9 :: rest).map (cv G) := by
        unfold rv
        split <;> rfl
      rw [e9]
      exact a1
    · exact hq.elim
  · rcases r with ⟨v9 | E9, M9⟩
    · exact hx.elim
    · obtain ⟨hE, hE3, hW, hF⟩ := hx
      subst hE
      obtain ⟨k1, k2, k3⟩ := vx_keep (A0 := AA G) (A1 := AA G) (free := AA G) h0 e1 hP.2.2.2.2 (fun _ _ h => h) (fun _ h => h) hL hF
      obtain ⟨t2, a1, b1⟩ := kx E9 M9 rfl T'.heap (locs ++ L) q9 ce ⟨by rw [e1]; exact hW, hP.2.1, hP.2.2.1, hP.2.2.2.1, k3⟩ (by rw [e1]; exact hce) hcv hcl hE3 T' rfl X'
      exact ⟨t2, st.trans a1, b1⟩
end SD
