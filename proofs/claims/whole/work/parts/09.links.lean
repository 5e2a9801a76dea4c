/-! LINKS (by program): of every class whose code runs, by the number of its pool's entry, what the entry names, and the word of the tables that says so -/
def gtbl : List Cond := lw_tbl.filter goodWord
theorem tk1 {w : Cond} (h : w ∈ tables_1_1) : w ∈ lw_tbl := List.mem_append_right _ (List.mem_append_left _ h)
theorem tk2 {w : Cond} (h : w ∈ tables_1_2) : w ∈ lw_tbl := List.mem_append_right _ (List.mem_append_right _ (List.mem_append_left _ h))
theorem tk3 {w : Cond} (h : w ∈ tables_1_3) : w ∈ lw_tbl := List.mem_append_right _ (List.mem_append_right _ (List.mem_append_right _ (List.mem_append_left _ h)))
theorem tk4 {w : Cond} (h : w ∈ tables_1_4) : w ∈ lw_tbl := List.mem_append_right _ (List.mem_append_right _ (List.mem_append_right _ (List.mem_append_right _ (List.mem_append_left _ h))))
theorem tk5 {w : Cond} (h : w ∈ tables_1_5) : w ∈ lw_tbl := List.mem_append_right _ (List.mem_append_right _ (List.mem_append_right _ (List.mem_append_right _ (List.mem_append_right _ (List.mem_append_left _ h)))))
theorem tk6 {w : Cond} (h : w ∈ tables_1_6) : w ∈ lw_tbl := List.mem_append_right _ (List.mem_append_right _ (List.mem_append_right _ (List.mem_append_right _ (List.mem_append_right _ (List.mem_append_right _ (List.mem_append_left _ h))))))
theorem tk7 {w : Cond} (h : w ∈ tables_1_7) : w ∈ lw_tbl := List.mem_append_right _ (List.mem_append_right _ (List.mem_append_right _ (List.mem_append_right _ (List.mem_append_right _ (List.mem_append_right _ (List.mem_append_right _ (List.mem_append_left _ h)))))))
theorem tk8 {w : Cond} (h : w ∈ tables_1_8) : w ∈ lw_tbl := List.mem_append_right _ (List.mem_append_right _ (List.mem_append_right _ (List.mem_append_right _ (List.mem_append_right _ (List.mem_append_right _ (List.mem_append_right _ (List.mem_append_right _ (List.mem_append_left _ h))))))))
theorem tk9 {w : Cond} (h : w ∈ tables_1_9) : w ∈ lw_tbl := List.mem_append_right _ (List.mem_append_right _ (List.mem_append_right _ (List.mem_append_right _ (List.mem_append_right _ (List.mem_append_right _ (List.mem_append_right _ (List.mem_append_right _ (List.mem_append_right _ (h)))))))))
theorem tp1 {q : MethodName × Nat} (h : q ∈ lw_privs_1) : Cond.selects q.1.cls q.1 q.1 ∈ lw_tbl := List.mem_append_left _ (List.mem_map.mpr ⟨q, List.mem_append_left _ h, rfl⟩)
theorem tp2 {q : MethodName × Nat} (h : q ∈ lw_privs_2) : Cond.selects q.1.cls q.1 q.1 ∈ lw_tbl := List.mem_append_left _ (List.mem_map.mpr ⟨q, List.mem_append_right _ (List.mem_append_left _ h), rfl⟩)
theorem tp3 {q : MethodName × Nat} (h : q ∈ lw_privs_3) : Cond.selects q.1.cls q.1 q.1 ∈ lw_tbl := List.mem_append_left _ (List.mem_map.mpr ⟨q, List.mem_append_right _ (List.mem_append_right _ (List.mem_append_left _ h)), rfl⟩)
theorem tp4 {q : MethodName × Nat} (h : q ∈ lw_privs_4) : Cond.selects q.1.cls q.1 q.1 ∈ lw_tbl := List.mem_append_left _ (List.mem_map.mpr ⟨q, List.mem_append_right _ (List.mem_append_right _ (List.mem_append_right _ (List.mem_append_left _ h))), rfl⟩)
theorem tp5 {q : MethodName × Nat} (h : q ∈ lw_privs_5) : Cond.selects q.1.cls q.1 q.1 ∈ lw_tbl := List.mem_append_left _ (List.mem_map.mpr ⟨q, List.mem_append_right _ (List.mem_append_right _ (List.mem_append_right _ (List.mem_append_right _ (List.mem_append_left _ h)))), rfl⟩)
theorem tp6 {q : MethodName × Nat} (h : q ∈ lw_privs_6) : Cond.selects q.1.cls q.1 q.1 ∈ lw_tbl := List.mem_append_left _ (List.mem_map.mpr ⟨q, List.mem_append_right _ (List.mem_append_right _ (List.mem_append_right _ (List.mem_append_right _ (List.mem_append_right _ (List.mem_append_left _ h))))), rfl⟩)
theorem tp7 {q : MethodName × Nat} (h : q ∈ lw_privs_7) : Cond.selects q.1.cls q.1 q.1 ∈ lw_tbl := List.mem_append_left _ (List.mem_map.mpr ⟨q, List.mem_append_right _ (List.mem_append_right _ (List.mem_append_right _ (List.mem_append_right _ (List.mem_append_right _ (List.mem_append_right _ (List.mem_append_left _ h)))))), rfl⟩)
theorem tp8 {q : MethodName × Nat} (h : q ∈ lw_privs_8) : Cond.selects q.1.cls q.1 q.1 ∈ lw_tbl := List.mem_append_left _ (List.mem_map.mpr ⟨q, List.mem_append_right _ (List.mem_append_right _ (List.mem_append_right _ (List.mem_append_right _ (List.mem_append_right _ (List.mem_append_right _ (List.mem_append_right _ (h))))))), rfl⟩)
theorem gd {w : Cond} (h : w ∈ lw_tbl) (hg : goodWord w = true) : w ∈ gtbl := List.mem_filter.mpr ⟨h, hg⟩
def ownN : List String := [RX0, RX1, RX2, RX3, RX4, RX5, RX6, RX7, RX8, RX9, RX10, RJ0, RJ1, RJ6, RJ9, RL]
abbrev own' (o : Nat) : String := ownN.getD o ""
theorem inG0 : ∀ w ∈ u_ws RX0 TX0 8, w ∈ gtbl := List.forall_mem_cons.mpr ⟨(gd (tk2 (List.mem_of_getElem? (i := 20) rfl)) rfl), List.forall_mem_cons.mpr ⟨(gd (tk2 (List.mem_of_getElem? (i := 22) rfl)) rfl), List.forall_mem_cons.mpr ⟨(gd (tk2 (List.mem_of_getElem? (i := 24) rfl)) rfl), List.forall_mem_cons.mpr ⟨(gd (tk2 (List.mem_of_getElem? (i := 26) rfl)) rfl), List.forall_mem_cons.mpr ⟨(gd (tk2 (List.mem_of_getElem? (i := 28) rfl)) rfl), List.forall_mem_cons.mpr ⟨(gd (tk2 (List.mem_of_getElem? (i := 30) rfl)) rfl), List.forall_mem_cons.mpr ⟨(gd (tk2 (List.mem_of_getElem? (i := 32) rfl)) rfl), List.forall_mem_cons.mpr ⟨(gd (tk2 (List.mem_of_getElem? (i := 34) rfl)) rfl), fun _ h => nomatch h⟩⟩⟩⟩⟩⟩⟩⟩
theorem inG1 : ∀ w ∈ u_ws RX1 TX1 9, w ∈ gtbl := List.forall_mem_cons.mpr ⟨(gd (tk2 (List.mem_of_getElem? (i := 64) rfl)) rfl), List.forall_mem_cons.mpr ⟨(gd (tk2 (List.mem_of_getElem? (i := 66) rfl)) rfl), List.forall_mem_cons.mpr ⟨(gd (tk2 (List.mem_of_getElem? (i := 68) rfl)) rfl), List.forall_mem_cons.mpr ⟨(gd (tk2 (List.mem_of_getElem? (i := 70) rfl)) rfl), List.forall_mem_cons.mpr ⟨(gd (tk2 (List.mem_of_getElem? (i := 72) rfl)) rfl), List.forall_mem_cons.mpr ⟨(gd (tk2 (List.mem_of_getElem? (i := 74) rfl)) rfl), List.forall_mem_cons.mpr ⟨(gd (tk2 (List.mem_of_getElem? (i := 76) rfl)) rfl), List.forall_mem_cons.mpr ⟨(gd (tk2 (List.mem_of_getElem? (i := 78) rfl)) rfl), List.forall_mem_cons.mpr ⟨(gd (tk2 (List.mem_of_getElem? (i := 80) rfl)) rfl), fun _ h => nomatch h⟩⟩⟩⟩⟩⟩⟩⟩⟩
theorem inG2 : ∀ w ∈ u_ws RX2 TX2 4, w ∈ gtbl := List.forall_mem_cons.mpr ⟨(gd (tk1 (List.mem_of_getElem? (i := 194) rfl)) rfl), List.forall_mem_cons.mpr ⟨(gd (tk1 (List.mem_of_getElem? (i := 196) rfl)) rfl), List.forall_mem_cons.mpr ⟨(gd (tk1 (List.mem_of_getElem? (i := 198) rfl)) rfl), List.forall_mem_cons.mpr ⟨(gd (tk1 (List.mem_of_getElem? (i := 200) rfl)) rfl), fun _ h => nomatch h⟩⟩⟩⟩
theorem inG3 : ∀ w ∈ u_ws RX3 TX3 4, w ∈ gtbl := List.forall_mem_cons.mpr ⟨(gd (tk2 (List.mem_of_getElem? (i := 120) rfl)) rfl), List.forall_mem_cons.mpr ⟨(gd (tk2 (List.mem_of_getElem? (i := 122) rfl)) rfl), List.forall_mem_cons.mpr ⟨(gd (tk2 (List.mem_of_getElem? (i := 124) rfl)) rfl), List.forall_mem_cons.mpr ⟨(gd (tk2 (List.mem_of_getElem? (i := 126) rfl)) rfl), fun _ h => nomatch h⟩⟩⟩⟩
theorem inG4 : ∀ w ∈ u_ws RX4 TX4 14, w ∈ gtbl := List.forall_mem_cons.mpr ⟨(gd (tk1 (List.mem_of_getElem? (i := 95) rfl)) rfl), List.forall_mem_cons.mpr ⟨(gd (tk1 (List.mem_of_getElem? (i := 97) rfl)) rfl), List.forall_mem_cons.mpr ⟨(gd (tk1 (List.mem_of_getElem? (i := 99) rfl)) rfl), List.forall_mem_cons.mpr ⟨(gd (tk1 (List.mem_of_getElem? (i := 101) rfl)) rfl), List.forall_mem_cons.mpr ⟨(gd (tk1 (List.mem_of_getElem? (i := 103) rfl)) rfl), List.forall_mem_cons.mpr ⟨(gd (tk1 (List.mem_of_getElem? (i := 105) rfl)) rfl), List.forall_mem_cons.mpr ⟨(gd (tk1 (List.mem_of_getElem? (i := 107) rfl)) rfl), List.forall_mem_cons.mpr ⟨(gd (tk1 (List.mem_of_getElem? (i := 109) rfl)) rfl), List.forall_mem_cons.mpr ⟨(gd (tk1 (List.mem_of_getElem? (i := 111) rfl)) rfl), List.forall_mem_cons.mpr ⟨(gd (tk1 (List.mem_of_getElem? (i := 113) rfl)) rfl), List.forall_mem_cons.mpr ⟨(gd (tk1 (List.mem_of_getElem? (i := 115) rfl)) rfl), List.forall_mem_cons.mpr ⟨(gd (tk1 (List.mem_of_getElem? (i := 117) rfl)) rfl), List.forall_mem_cons.mpr ⟨(gd (tk1 (List.mem_of_getElem? (i := 119) rfl)) rfl), List.forall_mem_cons.mpr ⟨(gd (tk1 (List.mem_of_getElem? (i := 121) rfl)) rfl), fun _ h => nomatch h⟩⟩⟩⟩⟩⟩⟩⟩⟩⟩⟩⟩⟩⟩
theorem inG5 : ∀ w ∈ u_ws RX5 TX5 10, w ∈ gtbl := List.forall_mem_cons.mpr ⟨(gd (tk1 (List.mem_of_getElem? (i := 158) rfl)) rfl), List.forall_mem_cons.mpr ⟨(gd (tk1 (List.mem_of_getElem? (i := 160) rfl)) rfl), List.forall_mem_cons.mpr ⟨(gd (tk1 (List.mem_of_getElem? (i := 162) rfl)) rfl), List.forall_mem_cons.mpr ⟨(gd (tk1 (List.mem_of_getElem? (i := 164) rfl)) rfl), List.forall_mem_cons.mpr ⟨(gd (tk1 (List.mem_of_getElem? (i := 166) rfl)) rfl), List.forall_mem_cons.mpr ⟨(gd (tk1 (List.mem_of_getElem? (i := 168) rfl)) rfl), List.forall_mem_cons.mpr ⟨(gd (tk1 (List.mem_of_getElem? (i := 170) rfl)) rfl), List.forall_mem_cons.mpr ⟨(gd (tk1 (List.mem_of_getElem? (i := 172) rfl)) rfl), List.forall_mem_cons.mpr ⟨(gd (tk1 (List.mem_of_getElem? (i := 174) rfl)) rfl), List.forall_mem_cons.mpr ⟨(gd (tk1 (List.mem_of_getElem? (i := 176) rfl)) rfl), fun _ h => nomatch h⟩⟩⟩⟩⟩⟩⟩⟩⟩⟩
theorem inG6 : ∀ w ∈ u_ws RX6 TX6 4, w ∈ gtbl := List.forall_mem_cons.mpr ⟨(gd (tk1 (List.mem_of_getElem? (i := 136) rfl)) rfl), List.forall_mem_cons.mpr ⟨(gd (tk1 (List.mem_of_getElem? (i := 138) rfl)) rfl), List.forall_mem_cons.mpr ⟨(gd (tk1 (List.mem_of_getElem? (i := 140) rfl)) rfl), List.forall_mem_cons.mpr ⟨(gd (tk1 (List.mem_of_getElem? (i := 142) rfl)) rfl), fun _ h => nomatch h⟩⟩⟩⟩
theorem inG7 : ∀ w ∈ u_ws RX7 TX7 6, w ∈ gtbl := List.forall_mem_cons.mpr ⟨(gd (tk2 (List.mem_of_getElem? (i := 95) rfl)) rfl), List.forall_mem_cons.mpr ⟨(gd (tk2 (List.mem_of_getElem? (i := 97) rfl)) rfl), List.forall_mem_cons.mpr ⟨(gd (tk2 (List.mem_of_getElem? (i := 99) rfl)) rfl), List.forall_mem_cons.mpr ⟨(gd (tk2 (List.mem_of_getElem? (i := 101) rfl)) rfl), List.forall_mem_cons.mpr ⟨(gd (tk2 (List.mem_of_getElem? (i := 103) rfl)) rfl), List.forall_mem_cons.mpr ⟨(gd (tk2 (List.mem_of_getElem? (i := 105) rfl)) rfl), fun _ h => nomatch h⟩⟩⟩⟩⟩⟩
theorem inG8 : ∀ w ∈ u_ws RX8 TX8 9, w ∈ gtbl := List.forall_mem_cons.mpr ⟨(gd (tk1 (List.mem_of_getElem? (i := 230) rfl)) rfl), List.forall_mem_cons.mpr ⟨(gd (tk1 (List.mem_of_getElem? (i := 232) rfl)) rfl), List.forall_mem_cons.mpr ⟨(gd (tk1 (List.mem_of_getElem? (i := 234) rfl)) rfl), List.forall_mem_cons.mpr ⟨(gd (tk1 (List.mem_of_getElem? (i := 236) rfl)) rfl), List.forall_mem_cons.mpr ⟨(gd (tk1 (List.mem_of_getElem? (i := 238) rfl)) rfl), List.forall_mem_cons.mpr ⟨(gd (tk2 (List.mem_of_getElem? (i := 0) rfl)) rfl), List.forall_mem_cons.mpr ⟨(gd (tk2 (List.mem_of_getElem? (i := 2) rfl)) rfl), List.forall_mem_cons.mpr ⟨(gd (tk2 (List.mem_of_getElem? (i := 4) rfl)) rfl), List.forall_mem_cons.mpr ⟨(gd (tk2 (List.mem_of_getElem? (i := 6) rfl)) rfl), fun _ h => nomatch h⟩⟩⟩⟩⟩⟩⟩⟩⟩
theorem inG9 : ∀ w ∈ u_ws RX9 TX9 15, w ∈ gtbl := List.forall_mem_cons.mpr ⟨(gd (tk2 (List.mem_of_getElem? (i := 144) rfl)) rfl), List.forall_mem_cons.mpr ⟨(gd (tk2 (List.mem_of_getElem? (i := 146) rfl)) rfl), List.forall_mem_cons.mpr ⟨(gd (tk2 (List.mem_of_getElem? (i := 148) rfl)) rfl), List.forall_mem_cons.mpr ⟨(gd (tk2 (List.mem_of_getElem? (i := 150) rfl)) rfl), List.forall_mem_cons.mpr ⟨(gd (tk2 (List.mem_of_getElem? (i := 152) rfl)) rfl), List.forall_mem_cons.mpr ⟨(gd (tk2 (List.mem_of_getElem? (i := 154) rfl)) rfl), List.forall_mem_cons.mpr ⟨(gd (tk2 (List.mem_of_getElem? (i := 156) rfl)) rfl), List.forall_mem_cons.mpr ⟨(gd (tk2 (List.mem_of_getElem? (i := 158) rfl)) rfl), List.forall_mem_cons.mpr ⟨(gd (tk2 (List.mem_of_getElem? (i := 160) rfl)) rfl), List.forall_mem_cons.mpr ⟨(gd (tk2 (List.mem_of_getElem? (i := 162) rfl)) rfl), List.forall_mem_cons.mpr ⟨(gd (tk2 (List.mem_of_getElem? (i := 164) rfl)) rfl), List.forall_mem_cons.mpr ⟨(gd (tk2 (List.mem_of_getElem? (i := 166) rfl)) rfl), List.forall_mem_cons.mpr ⟨(gd (tk2 (List.mem_of_getElem? (i := 168) rfl)) rfl), List.forall_mem_cons.mpr ⟨(gd (tk2 (List.mem_of_getElem? (i := 170) rfl)) rfl), List.forall_mem_cons.mpr ⟨(gd (tk2 (List.mem_of_getElem? (i := 172) rfl)) rfl), fun _ h => nomatch h⟩⟩⟩⟩⟩⟩⟩⟩⟩⟩⟩⟩⟩⟩⟩
theorem inG10 : ∀ w ∈ u_ws RX10 TX10 73, w ∈ gtbl := List.forall_mem_cons.mpr ⟨(gd (tk6 (List.mem_of_getElem? (i := 222) rfl)) rfl), List.forall_mem_cons.mpr ⟨(gd (tk6 (List.mem_of_getElem? (i := 224) rfl)) rfl), List.forall_mem_cons.mpr ⟨(gd (tk6 (List.mem_of_getElem? (i := 226) rfl)) rfl), List.forall_mem_cons.mpr ⟨(gd (tk6 (List.mem_of_getElem? (i := 228) rfl)) rfl), List.forall_mem_cons.mpr ⟨(gd (tk6 (List.mem_of_getElem? (i := 230) rfl)) rfl), List.forall_mem_cons.mpr ⟨(gd (tk6 (List.mem_of_getElem? (i := 232) rfl)) rfl), List.forall_mem_cons.mpr ⟨(gd (tk6 (List.mem_of_getElem? (i := 234) rfl)) rfl), List.forall_mem_cons.mpr ⟨(gd (tk6 (List.mem_of_getElem? (i := 236) rfl)) rfl), List.forall_mem_cons.mpr ⟨(gd (tk6 (List.mem_of_getElem? (i := 238) rfl)) rfl), List.forall_mem_cons.mpr ⟨(gd (tk7 (List.mem_of_getElem? (i := 0) rfl)) rfl), List.forall_mem_cons.mpr ⟨(gd (tk7 (List.mem_of_getElem? (i := 2) rfl)) rfl), List.forall_mem_cons.mpr ⟨(gd (tk7 (List.mem_of_getElem? (i := 4) rfl)) rfl), List.forall_mem_cons.mpr ⟨(gd (tk7 (List.mem_of_getElem? (i := 6) rfl)) rfl), List.forall_mem_cons.mpr ⟨(gd (tk7 (List.mem_of_getElem? (i := 8) rfl)) rfl), List.forall_mem_cons.mpr ⟨(gd (tk7 (List.mem_of_getElem? (i := 10) rfl)) rfl), List.forall_mem_cons.mpr ⟨(gd (tk7 (List.mem_of_getElem? (i := 12) rfl)) rfl), List.forall_mem_cons.mpr ⟨(gd (tk7 (List.mem_of_getElem? (i := 14) rfl)) rfl), List.forall_mem_cons.mpr ⟨(gd (tk7 (List.mem_of_getElem? (i := 16) rfl)) rfl), List.forall_mem_cons.mpr ⟨(gd (tk7 (List.mem_of_getElem? (i := 18) rfl)) rfl), List.forall_mem_cons.mpr ⟨(gd (tk7 (List.mem_of_getElem? (i := 20) rfl)) rfl), List.forall_mem_cons.mpr ⟨(gd (tk7 (List.mem_of_getElem? (i := 22) rfl)) rfl), List.forall_mem_cons.mpr ⟨(gd (tk7 (List.mem_of_getElem? (i := 24) rfl)) rfl), List.forall_mem_cons.mpr ⟨(gd (tk7 (List.mem_of_getElem? (i := 26) rfl)) rfl), List.forall_mem_cons.mpr ⟨(gd (tk7 (List.mem_of_getElem? (i := 28) rfl)) rfl), List.forall_mem_cons.mpr ⟨(gd (tk7 (List.mem_of_getElem? (i := 30) rfl)) rfl), List.forall_mem_cons.mpr ⟨(gd (tk7 (List.mem_of_getElem? (i := 32) rfl)) rfl), List.forall_mem_cons.mpr ⟨(gd (tk7 (List.mem_of_getElem? (i := 34) rfl)) rfl), List.forall_mem_cons.mpr ⟨(gd (tk7 (List.mem_of_getElem? (i := 36) rfl)) rfl), List.forall_mem_cons.mpr ⟨(gd (tk7 (List.mem_of_getElem? (i := 38) rfl)) rfl), List.forall_mem_cons.mpr ⟨(gd (tk7 (List.mem_of_getElem? (i := 40) rfl)) rfl), List.forall_mem_cons.mpr ⟨(gd (tk7 (List.mem_of_getElem? (i := 42) rfl)) rfl), List.forall_mem_cons.mpr ⟨(gd (tk7 (List.mem_of_getElem? (i := 44) rfl)) rfl), List.forall_mem_cons.mpr ⟨(gd (tk7 (List.mem_of_getElem? (i := 46) rfl)) rfl), List.forall_mem_cons.mpr ⟨(gd (tk7 (List.mem_of_getElem? (i := 48) rfl)) rfl), List.forall_mem_cons.mpr ⟨(gd (tk7 (List.mem_of_getElem? (i := 50) rfl)) rfl), List.forall_mem_cons.mpr ⟨(gd (tk7 (List.mem_of_getElem? (i := 52) rfl)) rfl), List.forall_mem_cons.mpr ⟨(gd (tk7 (List.mem_of_getElem? (i := 54) rfl)) rfl), List.forall_mem_cons.mpr ⟨(gd (tk7 (List.mem_of_getElem? (i := 56) rfl)) rfl), List.forall_mem_cons.mpr ⟨(gd (tk7 (List.mem_of_getElem? (i := 58) rfl)) rfl), List.forall_mem_cons.mpr ⟨(gd (tk7 (List.mem_of_getElem? (i := 60) rfl)) rfl), List.forall_mem_cons.mpr ⟨(gd (tk7 (List.mem_of_getElem? (i := 62) rfl)) rfl), List.forall_mem_cons.mpr ⟨(gd (tk7 (List.mem_of_getElem? (i := 64) rfl)) rfl), List.forall_mem_cons.mpr ⟨(gd (tk7 (List.mem_of_getElem? (i := 66) rfl)) rfl), List.forall_mem_cons.mpr ⟨(gd (tk7 (List.mem_of_getElem? (i := 68) rfl)) rfl), List.forall_mem_cons.mpr ⟨(gd (tk7 (List.mem_of_getElem? (i := 70) rfl)) rfl), List.forall_mem_cons.mpr ⟨(gd (tk7 (List.mem_of_getElem? (i := 72) rfl)) rfl), List.forall_mem_cons.mpr ⟨(gd (tk7 (List.mem_of_getElem? (i := 74) rfl)) rfl), List.forall_mem_cons.mpr ⟨(gd (tk7 (List.mem_of_getElem? (i := 76) rfl)) rfl), List.forall_mem_cons.mpr ⟨(gd (tk7 (List.mem_of_getElem? (i := 78) rfl)) rfl), List.forall_mem_cons.mpr ⟨(gd (tk7 (List.mem_of_getElem? (i := 80) rfl)) rfl), List.forall_mem_cons.mpr ⟨(gd (tk7 (List.mem_of_getElem? (i := 82) rfl)) rfl), List.forall_mem_cons.mpr ⟨(gd (tk7 (List.mem_of_getElem? (i := 84) rfl)) rfl), List.forall_mem_cons.mpr ⟨(gd (tk7 (List.mem_of_getElem? (i := 86) rfl)) rfl), List.forall_mem_cons.mpr ⟨(gd (tk7 (List.mem_of_getElem? (i := 88) rfl)) rfl), List.forall_mem_cons.mpr ⟨(gd (tk7 (List.mem_of_getElem? (i := 90) rfl)) rfl), List.forall_mem_cons.mpr ⟨(gd (tk7 (List.mem_of_getElem? (i := 92) rfl)) rfl), List.forall_mem_cons.mpr ⟨(gd (tk7 (List.mem_of_getElem? (i := 94) rfl)) rfl), List.forall_mem_cons.mpr ⟨(gd (tk7 (List.mem_of_getElem? (i := 96) rfl)) rfl), List.forall_mem_cons.mpr ⟨(gd (tk7 (List.mem_of_getElem? (i := 98) rfl)) rfl), List.forall_mem_cons.mpr ⟨(gd (tk7 (List.mem_of_getElem? (i := 100) rfl)) rfl), List.forall_mem_cons.mpr ⟨(gd (tk7 (List.mem_of_getElem? (i := 102) rfl)) rfl), List.forall_mem_cons.mpr ⟨(gd (tk7 (List.mem_of_getElem? (i := 104) rfl)) rfl), List.forall_mem_cons.mpr ⟨(gd (tk7 (List.mem_of_getElem? (i := 106) rfl)) rfl), List.forall_mem_cons.mpr ⟨(gd (tk7 (List.mem_of_getElem? (i := 108) rfl)) rfl), List.forall_mem_cons.mpr ⟨(gd (tk7 (List.mem_of_getElem? (i := 110) rfl)) rfl), List.forall_mem_cons.mpr ⟨(gd (tk7 (List.mem_of_getElem? (i := 112) rfl)) rfl), List.forall_mem_cons.mpr ⟨(gd (tk7 (List.mem_of_getElem? (i := 114) rfl)) rfl), List.forall_mem_cons.mpr ⟨(gd (tk7 (List.mem_of_getElem? (i := 116) rfl)) rfl), List.forall_mem_cons.mpr ⟨(gd (tk7 (List.mem_of_getElem? (i := 118) rfl)) rfl), List.forall_mem_cons.mpr ⟨(gd (tk7 (List.mem_of_getElem? (i := 120) rfl)) rfl), List.forall_mem_cons.mpr ⟨(gd (tk7 (List.mem_of_getElem? (i := 122) rfl)) rfl), List.forall_mem_cons.mpr ⟨(gd (tk7 (List.mem_of_getElem? (i := 124) rfl)) rfl), List.forall_mem_cons.mpr ⟨(gd (tk7 (List.mem_of_getElem? (i := 126) rfl)) rfl), fun _ h => nomatch h⟩⟩⟩⟩⟩⟩⟩⟩⟩⟩⟩⟩⟩⟩⟩⟩⟩⟩⟩⟩⟩⟩⟩⟩⟩⟩⟩⟩⟩⟩⟩⟩⟩⟩⟩⟩⟩⟩⟩⟩⟩⟩⟩⟩⟩⟩⟩⟩⟩⟩⟩⟩⟩⟩⟩⟩⟩⟩⟩⟩⟩⟩⟩⟩⟩⟩⟩⟩⟩⟩⟩⟩⟩
abbrev MI : Type := MethodName × ByteArray × Nat × Option FieldType × Nat × Nat
def miL : List MI := [(yX9_feed, cX9_feed, 6, (some .int), 9, 0),
  (yX9_race, cX9_race, 3, (some .int), 9, 0),
  (yX9_fault, cX9_fault, 1, (some .int), 9, 0),
  (yX9_told, cX9_told, 3, (some .int), 9, 0),
  (yX9_shop, cX9_shop, 3, (some .int), 9, 0),
  (yX9_worth, cX9_worth, 5, (some .long), 9, 0),
  (yX9_doing, cX9_doing, 5, (some .int), 9, 0),
  (yX9_gain, cX9_gain, 4, (some .long), 9, 0),
  (yX9_unrest, cX9_unrest, 1, (some .int), 9, 0),
  (yX9_rule, cX9_rule, 7, (some .int), 9, 0),
  (yX9_follow, cX9_follow, 7, (some .int), 9, 0),
  (yX9_judged, cX9_judged, 2, (some .long), 9, 0),
  (yX9_breaks, cX9_breaks, 1, (some .int), 9, 0),
  (yX9_alone, cX9_alone, 6, (some .long), 9, 0),
  (yX9_best, cX9_best, 4, (some .int), 9, 0),
  (yX9_answer, cX9_answer, 3, (some .long), 9, 0),
  (yX9_first, cX9_first, 2, (some .long), 9, 0),
  (yX9_late, cX9_late, 1, (some .long), 9, 0),
  (yX9_waste, cX9_waste, 1, (some .long), 9, 0),
  (yX9_harder, cX9_harder, 1, (some .int), 9, 0),
  (yX9_behind, cX9_behind, 1, (some .int), 9, 0),
  (yX9_leavers, cX9_leavers, 2, (some .int), 9, 0),
  (yX9_joined, cX9_joined, 4, (some .long), 9, 0),
  (yX9_sold, cX9_sold, 9, (some .long), 9, 0),
  (yX9_offer, cX9_offer, 2, (some .int), 9, 0),
  (yX9_king, cX9_king, 9, (some .int), 9, 0),
  (yX9_entry, cX9_entry, 5, (some .int), 9, 0),
  (yX9_edge, cX9_edge, 1, (some .int), 9, 0),
  (yX9_run, cX9_run, 3, (some .int), 9, 0),
  (yX9_image, cX9_image, 2, (some .int), 9, 0),
  (yX9_restore, cX9_restore, 2, (some .int), 9, 0),
  (yX9_count, cX9_count, 2, (some .int), 9, 0),
  (yX9_needRace, cX9_needRace, 1, none, 9, 0),
  (yX9_needShop, cX9_needShop, 2, none, 9, 0),
  (yX9_needTwo, cX9_needTwo, 3, none, 9, 0),
  (yX9_needState, cX9_needState, 8, none, 9, 0),
  (yX9_needAlone, cX9_needAlone, 5, none, 9, 0),
  (yX9_codeOf, cX9_codeOf, 7, (some .int), 9, 0),
  (yX9_settled, cX9_settled, 1, (some (.object "PatentRaces$Board")), 9, 0),
  (yX9_obeyed, cX9_obeyed, 1, (some (.object "PatentRaces$Board")), 9, 0),
  (yX9_weighOffer, cX9_weighOffer, 4, none, 9, 0),
  (yX9_allEarn, cX9_allEarn, 9, (some .boolean), 9, 0),
  (yX9_findEdge, cX9_findEdge, 5, (some .int), 9, 0),
  (yX9_stepsIn, cX9_stepsIn, 2, (some .int), 9, 1),
  (yX9_doingIn, cX9_doingIn, 2, (some .int), 9, 1),
  (yX9_nextIn, cX9_nextIn, 5, (some .int), 9, 1),
  (yX9_stepsPlace, cX9_stepsPlace, 3, (some .int), 9, 1),
  (yX10_thrown, cX10_thrown, 1, (some .int), 10, 0),
  (yX10_bad, cX10_bad, 3, (some .boolean), 10, 0),
  (yX10_in, cX10_in, 3, (some .boolean), 10, 1),
  (yX10_feed, cX10_feed, 8, (some .int), 10, 0),
  (yX10_byteAt, cX10_byteAt, 2, (some .int), 10, 0),
  (yX10_blanks, cX10_blanks, 1, none, 10, 0),
  (yX10_wrong, cX10_wrong, 3, none, 10, 0),
  (yX10_isDigit, cX10_isDigit, 1, (some .boolean), 10, 1),
  (yX10_number, cX10_number, 5, (some .int), 10, 0),
  (yX10_wordHere, cX10_wordHere, 3, (some .int), 10, 0),
  (yX10_word, cX10_word, 7, (some .int), 10, 1),
  (yX10_isWord, cX10_isWord, 7, (some .boolean), 10, 0),
  (yX10_skipWord, cX10_skipWord, 1, none, 10, 0),
  (yX10_sign, cX10_sign, 2, none, 10, 0),
  (yX10_must, cX10_must, 7, none, 10, 0),
  (yX10_opens, cX10_opens, 2, none, 10, 0),
  (yX10_unit, cX10_unit, 5, (some .int), 10, 0),
  (yX10_product, cX10_product, 2, (some .int), 10, 0),
  (yX10_sum, cX10_sum, 4, (some .int), 10, 0),
  (yX10_test, cX10_test, 4, (some .boolean), 10, 0),
  (yX10_ands, cX10_ands, 3, (some .boolean), 10, 0),
  (yX10_ors, cX10_ors, 3, (some .boolean), 10, 0),
  (yX10_shopHere, cX10_shopHere, 5, none, 10, 0),
  (yX10_clause, cX10_clause, 1, none, 10, 0),
  (yX10_readAll, cX10_readAll, 2, none, 10, 0),
  (yX10_takes, cX10_takes, 3, none, 10, 0),
  (yX10_race, cX10_race, 5, (some .int), 10, 0),
  (yX10_tellsAgain, cX10_tellsAgain, 1, none, 10, 0),
  (yX10_fault, cX10_fault, 1, (some .int), 10, 0),
  (yX10_told, cX10_told, 2, (some .int), 10, 0),
  (yX10_shop, cX10_shop, 3, (some .int), 10, 0),
  (yX10_stepsOf, cX10_stepsOf, 2, (some .int), 10, 1),
  (yX10_isIn, cX10_isIn, 2, (some .boolean), 10, 1),
  (yX10_isOver, cX10_isOver, 5, (some .boolean), 10, 0),
  (yX10_nextOf, cX10_nextOf, 6, (some .int), 10, 0),
  (yX10_holds, cX10_holds, 7, (some .boolean), 10, 0),
  (yX10_mayDo, cX10_mayDo, 6, (some .boolean), 10, 0),
  (yX10_chanceOf, cX10_chanceOf, 8, (some .int), 10, 0),
  (yX10_costOf, cX10_costOf, 3, (some .int), 10, 0),
  (yX10_inAfter, cX10_inAfter, 4, (some .int), 10, 0),
  (yX10_scale, cX10_scale, 1, (some .long), 10, 1),
  (yX10_share, cX10_share, 9, (some .int), 10, 0),
  (yX10_hasFirst, cX10_hasFirst, 4, (some .boolean), 10, 0),
  (yX10_comesTo, cX10_comesTo, 3, (some .int), 10, 0),
  (yX10_weight, cX10_weight, 5, (some .long), 10, 0),
  (yX10_weighs, cX10_weighs, 16, none, 10, 0),
  (yX10_digit, cX10_digit, 2, (some .int), 10, 1),
  (yX10_unitOf, cX10_unitOf, 1, (some .int), 10, 1),
  (yX10_mayAll, cX10_mayAll, 3, (some .boolean), 10, 0),
  (yX10_rows, cX10_rows, 1, (some .int), 10, 0),
  (yX10_settles, cX10_settles, 20, none, 10, 0),
  (yX10_turned, cX10_turned, 2, (some .int), 10, 0),
  (yX10_isPlace, cX10_isPlace, 3, (some .boolean), 10, 0),
  (yX10_solve, cX10_solve, 5, none, 10, 0),
  (yX10_placeOf, cX10_placeOf, 7, (some .int), 10, 0),
  (yX10_isState, cX10_isState, 4, (some .boolean), 10, 0),
  (yX10_worth, cX10_worth, 5, (some .long), 10, 0),
  (yX10_doing, cX10_doing, 5, (some .int), 10, 0),
  (yX10_gain, cX10_gain, 4, (some .long), 10, 0),
  (yX10_isWhole, cX10_isWhole, 3, (some .boolean), 10, 0),
  (yX10_unrest, cX10_unrest, 5, (some .int), 10, 0),
  (yX10_nextPlace, cX10_nextPlace, 1, (some .int), 10, 1),
  (yX10_rule, cX10_rule, 6, (some .int), 10, 0),
  (yX10_beginPlace, cX10_beginPlace, 1, (some .int), 10, 0),
  (yX10_everybody, cX10_everybody, 1, (some .int), 10, 0),
  (yX10_follow, cX10_follow, 4, (some .int), 10, 0),
  (yX10_follows, cX10_follows, 6, (some .int), 10, 0),
  (yX10_byRule, cX10_byRule, 6, (some .int), 10, 0),
  (yX10_solveRules, cX10_solveRules, 6, none, 10, 0),
  (yX10_judged, cX10_judged, 2, (some .long), 10, 0),
  (yX10_isBroken, cX10_isBroken, 7, (some .boolean), 10, 0),
  (yX10_breaks, cX10_breaks, 4, (some .int), 10, 0),
  (yX10_findAlone, cX10_findAlone, 9, none, 10, 0),
  (yX10_aloneBy, cX10_aloneBy, 8, (some .long), 10, 0),
  (yX10_alone, cX10_alone, 4, (some .long), 10, 0),
  (yX10_best, cX10_best, 4, (some .int), 10, 0),
  (yX10_othersWeight, cX10_othersWeight, 8, (some .long), 10, 0),
  (yX10_answer, cX10_answer, 9, (some .long), 10, 0),
  (yX10_goesOn, cX10_goesOn, 8, none, 10, 0),
  (yX10_isDone, cX10_isDone, 4, (some .boolean), 10, 0),
  (yX10_blindBy, cX10_blindBy, 19, (some .long), 10, 0),
  (yX10_endsBy, cX10_endsBy, 3, (some .long), 10, 0),
  (yX10_runsThrough, cX10_runsThrough, 4, none, 10, 0),
  (yX10_flows, cX10_flows, 14, none, 10, 0),
  (yX10_first, cX10_first, 2, (some .long), 10, 0),
  (yX10_late, cX10_late, 1, (some .long), 10, 0),
  (yX10_waste, cX10_waste, 1, (some .long), 10, 0),
  (yX10_isHarder, cX10_isHarder, 6, (some .boolean), 10, 0),
  (yX10_harder, cX10_harder, 4, (some .int), 10, 0),
  (yX10_behind, cX10_behind, 3, (some .int), 10, 0),
  (yX10_leavers, cX10_leavers, 5, (some .int), 10, 0),
  (yX10_joined, cX10_joined, 5, (some .long), 10, 0),
  (yX10_sold, cX10_sold, 6, (some .long), 10, 0),
  (yX10_offer, cX10_offer, 2, (some .int), 10, 0),
  (yX10_king, cX10_king, 8, (some .int), 10, 0),
  (yX10_entry, cX10_entry, 6, (some .int), 10, 0),
  (yX10_edge, cX10_edge, 7, (some .int), 10, 0),
  (yX10_run, cX10_run, 11, (some .int), 10, 0),
  (yX10_image, cX10_image, 4, (some .int), 10, 0),
  (yX10_restore, cX10_restore, 4, (some .int), 10, 0),
  (yX10_forgets, cX10_forgets, 1, none, 10, 0),
  (yX10_count, cX10_count, 6, (some .int), 10, 0),
  (yX0_placeOf, cX0_placeOf, 2, (some .int), 0, 1),
  (yX0_rowAt, cX0_rowAt, 3, (some .int), 0, 0),
  (yX0_doingAt, cX0_doingAt, 4, (some .int), 0, 0),
  (yX0_gainAt, cX0_gainAt, 3, (some .long), 0, 0),
  (yX0_worthAt, cX0_worthAt, 4, (some .long), 0, 0),
  (yX0_settle, cX0_settle, 4, none, 0, 0),
  (yX0_sumRows, cX0_sumRows, 2, none, 0, 0),
  (yX0_sumFor, cX0_sumFor, 6, none, 0, 0),
  (yX0_sumAt, cX0_sumAt, 9, none, 0, 0),
  (yX0_keepLeastGain, cX0_keepLeastGain, 5, none, 0, 0),
  (yX0_keepWorths, cX0_keepWorths, 3, none, 0, 0),
  (yX0_obey, cX0_obey, 5, none, 0, 0),
  (yX0_toldRow, cX0_toldRow, 7, (some .int), 0, 0),
  (yX0_statesThatBreak, cX0_statesThatBreak, 4, (some .int), 0, 0),
  (yX0_isBroken, cX0_isBroken, 9, (some .boolean), 0, 0),
  (yX0_statesWithoutRest, cX0_statesWithoutRest, 4, (some .int), 0, 0),
  (yX0_statesOf, cX0_statesOf, 4, (some .int), 0, 0),
  (yX0_statesRunHarder, cX0_statesRunHarder, 4, (some .int), 0, 0),
  (yX0_firstRunHarder, cX0_firstRunHarder, 3, (some .int), 0, 0),
  (yX0_isRunHarder, cX0_isRunHarder, 5, (some .boolean), 0, 0),
  (yX0_statesLeftBy, cX0_statesLeftBy, 5, (some .int), 0, 0),
  (yX1_walk, cX1_walk, 5, none, 1, 0),
  (yX1_clearWalk, cX1_clearWalk, 2, none, 1, 0),
  (yX1_walkFrom, cX1_walkFrom, 13, none, 1, 0),
  (yX1_noteWinners, cX1_noteWinners, 5, none, 1, 0),
  (yX1_drive, cX1_drive, 10, none, 1, 0),
  (yX1_bitsIn, cX1_bitsIn, 3, (some .int), 1, 1),
  (yX2_copyFrom, cX2_copyFrom, 2, none, 2, 0),
  (yX2_clearRules, cX2_clearRules, 2, none, 2, 0),
  (yX2_rulesNotRest, cX2_rulesNotRest, 3, (some .int), 2, 0),
  (yX2_ruleAt, cX2_ruleAt, 4, (some .int), 2, 0),
  (yX2_putRule, cX2_putRule, 5, (some .int), 2, 0),
  (yX2_addPrize, cX2_addPrize, 2, (some .int), 2, 0),
  (yX3_holds, cX3_holds, 4, (some .boolean), 3, 0),
  (yX3_keep, cX3_keep, 5, none, 3, 0),
  (yX4_clear, cX4_clear, 2, none, 4, 0),
  (yX4_clearShop, cX4_clearShop, 3, none, 4, 0),
  (yX4_copyFrom, cX4_copyFrom, 2, none, 4, 0),
  (yX4_costOf, cX4_costOf, 4, (some .int), 4, 0),
  (yX4_chanceOf, cX4_chanceOf, 4, (some .int), 4, 0),
  (yX4_scale, cX4_scale, 2, (some .long), 4, 0),
  (yX4_beginning, cX4_beginning, 1, (some .int), 4, 0),
  (yX4_beginningOf, cX4_beginningOf, 4, (some .int), 4, 0),
  (yX4_fits, cX4_fits, 3, (some .boolean), 4, 0),
  (yX4_isPlain, cX4_isPlain, 3, (some .boolean), 4, 0),
  (yX4_reaches, cX4_reaches, 5, (some .boolean), 4, 0),
  (yX4_allows, cX4_allows, 5, (some .boolean), 4, 0),
  (yX4_partOf, cX4_partOf, 8, (some .int), 4, 0),
  (yX4_joinShops, cX4_joinShops, 6, (some .int), 4, 0),
  (yX4_moveShop, cX4_moveShop, 3, none, 4, 0),
  (yX5_takeIn, cX5_takeIn, 3, none, 5, 0),
  (yX5_read, cX5_read, 3, (some .int), 5, 0),
  (yX5_hasMore, cX5_hasMore, 1, (some .boolean), 5, 0),
  (yX5_readClause, cX5_readClause, 2, none, 5, 0),
  (yX5_readShop, cX5_readShop, 5, none, 5, 0),
  (yX5_beginTerms, cX5_beginTerms, 2, none, 5, 0),
  (yX5_readChoice, cX5_readChoice, 3, none, 5, 0),
  (yX5_readBoth, cX5_readBoth, 3, none, 5, 0),
  (yX5_readCheck, cX5_readCheck, 4, none, 5, 0),
  (yX5_takeRelation, cX5_takeRelation, 1, (some .int), 5, 0),
  (yX5_readSum, cX5_readSum, 3, none, 5, 0),
  (yX5_readProduct, cX5_readProduct, 3, none, 5, 0),
  (yX5_readUnit, cX5_readUnit, 3, none, 5, 0),
  (yX5_mayOpen, cX5_mayOpen, 3, (some .boolean), 5, 0),
  (yX5_number, cX5_number, 6, (some .int), 5, 0),
  (yX5_takeWord, cX5_takeWord, 4, (some .boolean), 5, 0),
  (yX5_takeSign, cX5_takeSign, 2, (some .boolean), 5, 0),
  (yX5_demandWord, cX5_demandWord, 2, none, 5, 0),
  (yX5_demandSign, cX5_demandSign, 2, none, 5, 0),
  (yX5_skipBlanks, cX5_skipBlanks, 1, none, 5, 0),
  (yX5_refuse, cX5_refuse, 3, none, 5, 0),
  (yX5_signAt, cX5_signAt, 2, (some .int), 5, 0),
  (yX5_isDigit, cX5_isDigit, 1, (some .boolean), 5, 1),
  (yX5_isLetter, cX5_isLetter, 1, (some .boolean), 5, 1),
  (yX5_workConditions, cX5_workConditions, 5, none, 5, 0),
  (yX6_clear, cX6_clear, 1, none, 6, 0),
  (yX6_isTold, cX6_isTold, 1, (some .boolean), 6, 0),
  (yX6_put, cX6_put, 2, none, 6, 0),
  (yX6_holds, cX6_holds, 7, (some .boolean), 6, 0),
  (yX6_work, cX6_work, 3, (some .int), 6, 1),
  (yX6_push, cX6_push, 2, none, 6, 0),
  (yX6_pop, cX6_pop, 1, (some .int), 6, 0),
  (yX7_bestAnswer, cX7_bestAnswer, 5, (some .long), 7, 0),
  (yX7_spreadCrowd, cX7_spreadCrowd, 4, none, 7, 0),
  (yX7_spreadFrom, cX7_spreadFrom, 10, none, 7, 0),
  (yX7_winnersIn, cX7_winnersIn, 4, (some .int), 7, 0),
  (yX7_paidAfter, cX7_paidAfter, 10, (some .long), 7, 0),
  (yX7_findBests, cX7_findBests, 11, none, 7, 0),
  (yX8_open, cX8_open, 6, none, 8, 0),
  (yX8_openShop, cX8_openShop, 12, none, 8, 0),
  (yX8_openEnd, cX8_openEnd, 8, none, 8, 0),
  (yX8_narrow, cX8_narrow, 4, none, 8, 0),
  (yX8_price, cX8_price, 5, none, 8, 0),
  (yX8_priceEnd, cX8_priceEnd, 4, none, 8, 0),
  (yX8_fold, cX8_fold, 6, none, 8, 0),
  (yX8_foldAt, cX8_foldAt, 19, none, 8, 0),
  (yX8_takeRow, cX8_takeRow, 3, none, 8, 0),
  (yX8_weightOf, cX8_weightOf, 5, (some .int), 8, 0),
  (yX8_modesOf, cX8_modesOf, 4, (some .int), 8, 0),
  (yX8_chanceOf, cX8_chanceOf, 2, (some .int), 8, 0),
  (yX8_canRow, cX8_canRow, 3, (some .boolean), 8, 0),
  (yX8_costOfAll, cX8_costOfAll, 3, (some .int), 8, 0),
  (yL_race, cL_race, 4, (some .int), 15, 1),
  (yL_told, cL_told, 4, (some .int), 15, 1),
  (yL_shop, cL_shop, 5, (some .int), 15, 1),
  (yL_worth, cL_worth, 7, (some .int), 15, 1),
  (yL_doing, cL_doing, 7, (some .int), 15, 1),
  (yL_gain, cL_gain, 6, (some .int), 15, 1),
  (yL_unrest, cL_unrest, 3, (some .int), 15, 1),
  (yL_rule, cL_rule, 7, (some .int), 15, 1),
  (yL_follow, cL_follow, 3, (some .int), 15, 1),
  (yL_judged, cL_judged, 4, (some .int), 15, 1),
  (yL_breaks, cL_breaks, 3, (some .int), 15, 1),
  (yL_alone, cL_alone, 6, (some .int), 15, 1),
  (yL_best, cL_best, 6, (some .int), 15, 1),
  (yL_answer, cL_answer, 5, (some .int), 15, 1),
  (yL_first, cL_first, 4, (some .int), 15, 1),
  (yL_late, cL_late, 3, (some .int), 15, 1),
  (yL_waste, cL_waste, 3, (some .int), 15, 1),
  (yL_harder, cL_harder, 3, (some .int), 15, 1),
  (yL_behind, cL_behind, 3, (some .int), 15, 1),
  (yL_leavers, cL_leavers, 4, (some .int), 15, 1),
  (yL_joined, cL_joined, 5, (some .int), 15, 1),
  (yL_sold, cL_sold, 5, (some .int), 15, 1),
  (yL_offer, cL_offer, 4, (some .int), 15, 1),
  (yL_king, cL_king, 4, (some .int), 15, 1),
  (yL_entry, cL_entry, 4, (some .int), 15, 1),
  (yL_edge, cL_edge, 3, (some .int), 15, 1),
  (yL_run, cL_run, 5, (some .int), 15, 1),
  (x, code, 8, (some .boolean), 15, 1),
  (yJ6_bitCount_0f7a4, cJ6_bitCount_0f7a4, 1, (some .int), 13, 1),
  (yJ9_max_7cf53, cJ9_max_7cf53, 2, (some .int), 14, 1),
  (yJ9_max_f86c9, cJ9_max_f86c9, 4, (some .long), 14, 1),
  (yJ9_min_7cf53, cJ9_min_7cf53, 2, (some .int), 14, 1),
  (yJ0_length_8abf5, cJ0_length_8abf5, 1, (some .int), 11, 0),
  (yJ0_charAt_5068e, cJ0_charAt_5068e, 2, (some .char), 11, 0),
  (yJ0_coder_7d493, cJ0_coder_7d493, 1, (some .byte), 11, 0),
  (yJ0_isLatin1_aae02, cJ0_isLatin1_aae02, 1, (some .boolean), 11, 0),
  (yJ1_charAt_3b067, cJ1_charAt_3b067, 2, (some .char), 12, 1)]
abbrev mi0 : MI := (x, code, 0, none, 0, 0)
abbrev mi (q : Nat) : MI := miL.getD q mi0
def FLT : List (List (Nat × Nat × Nat)) := [[(9, 0, 3), (15, 0, 4), (19, 0, 5), (22, 0, 6), (25, 0, 7), (28, 0, 0), (37, 0, 1), (51, 4, 2), (84, 8, 0), (94, 8, 4), (152, 4, 1), (155, 4, 8)],
  [(9, 1, 0), (15, 1, 8), (18, 0, 0), (27, 4, 2), (37, 1, 1), (49, 1, 2), (52, 1, 3), (55, 0, 1), (76, 4, 1), (86, 8, 2), (90, 8, 3), (97, 1, 4), (100, 1, 5), (103, 1, 6), (106, 8, 1), (116, 1, 7)],
  [(12, 2, 0), (18, 2, 1), (22, 2, 2), (35, 2, 3)],
  [(9, 3, 0), (15, 3, 1), (18, 3, 2), (22, 3, 3), (25, 1, 3), (30, 1, 2)],
  [(9, 4, 8), (15, 4, 9), (18, 4, 10), (21, 4, 11), (24, 4, 12), (28, 4, 13), (31, 4, 1), (35, 4, 2), (38, 4, 3), (41, 4, 4), (44, 4, 5), (47, 4, 6), (50, 4, 7), (57, 4, 0)],
  [(12, 5, 0), (18, 5, 1), (22, 5, 3), (29, 5, 4), (33, 5, 5), (36, 5, 6), (39, 5, 2), (42, 5, 7), (45, 5, 8), (48, 5, 9), (66, 4, 7), (69, 4, 1), (98, 4, 3), (102, 4, 4), (106, 4, 2), (110, 4, 5), (118, 4, 6), (129, 4, 8), (134, 4, 9), (137, 4, 10), (141, 4, 11), (210, 4, 13), (227, 4, 12)],
  [(9, 6, 0), (15, 6, 2), (18, 6, 1), (22, 6, 3)],
  [(9, 7, 1), (15, 7, 2), (19, 7, 3), (22, 7, 4), (25, 7, 0), (29, 7, 5), (33, 4, 1), (38, 4, 9), (48, 4, 2), (51, 4, 8)],
  [(9, 8, 0), (15, 8, 1), (19, 8, 2), (22, 8, 3), (25, 8, 4), (29, 8, 6), (32, 8, 7), (35, 8, 5), (39, 8, 8), (60, 4, 6), (65, 4, 5), (111, 4, 1)],
  [(10, 9, 0), (19, 9, 2), (23, 9, 3), (29, 2, 0), (36, 9, 5), (40, 9, 6), (46, 9, 8), (49, 9, 9), (55, 9, 10), (62, 9, 11), (69, 9, 12), (73, 9, 14), (77, 5, 2), (95, 9, 1), (98, 5, 0), (101, 4, 0), (110, 9, 7), (114, 4, 1), (117, 5, 1), (120, 4, 2), (123, 4, 3), (126, 4, 4), (129, 4, 5), (132, 4, 6), (135, 4, 7), (143, 4, 8), (147, 4, 9), (220, 1, 1), (224, 1, 0), (228, 1, 2), (231, 1, 3), (254, 4, 12), (267, 2, 3), (270, 2, 2), (276, 3, 0), (278, 3, 1), (286, 9, 13), (299, 1, 4), (302, 1, 5), (305, 1, 6), (308, 1, 7), (311, 9, 4), (336, 0, 2)],
  [(9, 10, 3), (13, 10, 9), (17, 10, 10), (20, 10, 18), (23, 10, 19), (26, 10, 21), (29, 10, 22), (34, 10, 23), (37, 10, 24), (40, 10, 34), (43, 10, 35), (46, 10, 36), (49, 10, 37), (54, 10, 41), (59, 10, 42), (64, 10, 43), (67, 10, 45), (73, 10, 47), (76, 10, 48), (82, 10, 49), (87, 10, 50), (90, 10, 51), (93, 10, 52), (96, 10, 53), (99, 10, 56), (102, 10, 57), (105, 10, 58), (108, 10, 59), (111, 10, 60), (114, 10, 64), (117, 10, 65), (120, 10, 66), (123, 10, 67), (126, 10, 68), (129, 10, 69), (135, 10, 70), (138, 10, 71), (141, 10, 72), (144, 10, 0), (147, 10, 1), (150, 10, 2), (153, 10, 8), (156, 10, 4), (163, 10, 6), (166, 10, 7), (200, 10, 5), (207, 10, 38), (210, 10, 39), (213, 10, 40), (242, 10, 25), (252, 10, 27), (255, 10, 28), (258, 10, 26), (261, 10, 29), (264, 10, 30), (267, 10, 31), (270, 10, 32), (273, 10, 33), (279, 10, 20), (282, 10, 13), (285, 10, 14), (288, 10, 15), (291, 10, 16), (294, 10, 17), (297, 10, 12), (300, 10, 44), (311, 10, 11), (449, 10, 61), (453, 10, 62), (456, 10, 63), (473, 10, 54), (477, 10, 55)],
  [],
  [],
  [],
  [],
  []]
def FOK (o : Nat) (q : Nat × Nat × Nat) : Prop := q.2.1 < 11 ∧ q.2.2 < nfl q.2.1 ∧ ∃ r, cls11[q.2.1]? = some r ∧ Cond.fieldLink (own' o) q.1 (r.2.1 q.2.2).1 (r.2.1 q.2.2).2.1 (r.2.1 q.2.2).2.2.1 ∈ gtbl
set_option maxRecDepth 50000 in
theorem flk_0 : ∀ q ∈ FLT.getD 0 [], FOK 0 q := List.forall_mem_cons.mpr ⟨⟨by decide, by decide, (RX0, TX0, 8), rfl, (gd (tk2 (List.mem_of_getElem? (i := 15) rfl)) rfl)⟩, List.forall_mem_cons.mpr ⟨⟨by decide, by decide, (RX0, TX0, 8), rfl, (gd (tk2 (List.mem_of_getElem? (i := 16) rfl)) rfl)⟩, List.forall_mem_cons.mpr ⟨⟨by decide, by decide, (RX0, TX0, 8), rfl, (gd (tk2 (List.mem_of_getElem? (i := 17) rfl)) rfl)⟩, List.forall_mem_cons.mpr ⟨⟨by decide, by decide, (RX0, TX0, 8), rfl, (gd (tk2 (List.mem_of_getElem? (i := 18) rfl)) rfl)⟩, List.forall_mem_cons.mpr ⟨⟨by decide, by decide, (RX0, TX0, 8), rfl, (gd (tk2 (List.mem_of_getElem? (i := 19) rfl)) rfl)⟩, List.forall_mem_cons.mpr ⟨⟨by decide, by decide, (RX0, TX0, 8), rfl, (gd (tk2 (List.mem_of_getElem? (i := 10) rfl)) rfl)⟩, List.forall_mem_cons.mpr ⟨⟨by decide, by decide, (RX0, TX0, 8), rfl, (gd (tk2 (List.mem_of_getElem? (i := 12) rfl)) rfl)⟩, List.forall_mem_cons.mpr ⟨⟨by decide, by decide, (RX4, TX4, 14), rfl, (gd (tk1 (List.mem_of_getElem? (i := 59) rfl)) rfl)⟩, List.forall_mem_cons.mpr ⟨⟨by decide, by decide, (RX8, TX8, 9), rfl, (gd (tk1 (List.mem_of_getElem? (i := 217) rfl)) rfl)⟩, List.forall_mem_cons.mpr ⟨⟨by decide, by decide, (RX8, TX8, 9), rfl, (gd (tk1 (List.mem_of_getElem? (i := 225) rfl)) rfl)⟩, List.forall_mem_cons.mpr ⟨⟨by decide, by decide, (RX4, TX4, 14), rfl, (gd (tk1 (List.mem_of_getElem? (i := 53) rfl)) rfl)⟩, List.forall_mem_cons.mpr ⟨⟨by decide, by decide, (RX4, TX4, 14), rfl, (gd (tk1 (List.mem_of_getElem? (i := 81) rfl)) rfl)⟩, fun _ h => nomatch h⟩⟩⟩⟩⟩⟩⟩⟩⟩⟩⟩⟩
set_option maxRecDepth 50000 in
theorem flk_1 : ∀ q ∈ FLT.getD 1 [], FOK 1 q := List.forall_mem_cons.mpr ⟨⟨by decide, by decide, (RX1, TX1, 9), rfl, (gd (tk2 (List.mem_of_getElem? (i := 45) rfl)) rfl)⟩, List.forall_mem_cons.mpr ⟨⟨by decide, by decide, (RX1, TX1, 9), rfl, (gd (tk2 (List.mem_of_getElem? (i := 63) rfl)) rfl)⟩, List.forall_mem_cons.mpr ⟨⟨by decide, by decide, (RX0, TX0, 8), rfl, (gd (tk2 (List.mem_of_getElem? (i := 11) rfl)) rfl)⟩, List.forall_mem_cons.mpr ⟨⟨by decide, by decide, (RX4, TX4, 14), rfl, (gd (tk1 (List.mem_of_getElem? (i := 55) rfl)) rfl)⟩, List.forall_mem_cons.mpr ⟨⟨by decide, by decide, (RX1, TX1, 9), rfl, (gd (tk2 (List.mem_of_getElem? (i := 47) rfl)) rfl)⟩, List.forall_mem_cons.mpr ⟨⟨by decide, by decide, (RX1, TX1, 9), rfl, (gd (tk2 (List.mem_of_getElem? (i := 50) rfl)) rfl)⟩, List.forall_mem_cons.mpr ⟨⟨by decide, by decide, (RX1, TX1, 9), rfl, (gd (tk2 (List.mem_of_getElem? (i := 53) rfl)) rfl)⟩, List.forall_mem_cons.mpr ⟨⟨by decide, by decide, (RX0, TX0, 8), rfl, (gd (tk2 (List.mem_of_getElem? (i := 13) rfl)) rfl)⟩, List.forall_mem_cons.mpr ⟨⟨by decide, by decide, (RX4, TX4, 14), rfl, (gd (tk1 (List.mem_of_getElem? (i := 51) rfl)) rfl)⟩, List.forall_mem_cons.mpr ⟨⟨by decide, by decide, (RX8, TX8, 9), rfl, (gd (tk1 (List.mem_of_getElem? (i := 221) rfl)) rfl)⟩, List.forall_mem_cons.mpr ⟨⟨by decide, by decide, (RX8, TX8, 9), rfl, (gd (tk1 (List.mem_of_getElem? (i := 223) rfl)) rfl)⟩, List.forall_mem_cons.mpr ⟨⟨by decide, by decide, (RX1, TX1, 9), rfl, (gd (tk2 (List.mem_of_getElem? (i := 55) rfl)) rfl)⟩, List.forall_mem_cons.mpr ⟨⟨by decide, by decide, (RX1, TX1, 9), rfl, (gd (tk2 (List.mem_of_getElem? (i := 57) rfl)) rfl)⟩, List.forall_mem_cons.mpr ⟨⟨by decide, by decide, (RX1, TX1, 9), rfl, (gd (tk2 (List.mem_of_getElem? (i := 59) rfl)) rfl)⟩, List.forall_mem_cons.mpr ⟨⟨by decide, by decide, (RX8, TX8, 9), rfl, (gd (tk1 (List.mem_of_getElem? (i := 219) rfl)) rfl)⟩, List.forall_mem_cons.mpr ⟨⟨by decide, by decide, (RX1, TX1, 9), rfl, (gd (tk2 (List.mem_of_getElem? (i := 61) rfl)) rfl)⟩, fun _ h => nomatch h⟩⟩⟩⟩⟩⟩⟩⟩⟩⟩⟩⟩⟩⟩⟩⟩
set_option maxRecDepth 50000 in
theorem flk_2 : ∀ q ∈ FLT.getD 2 [], FOK 2 q := List.forall_mem_cons.mpr ⟨⟨by decide, by decide, (RX2, TX2, 4), rfl, (gd (tk1 (List.mem_of_getElem? (i := 187) rfl)) rfl)⟩, List.forall_mem_cons.mpr ⟨⟨by decide, by decide, (RX2, TX2, 4), rfl, (gd (tk1 (List.mem_of_getElem? (i := 189) rfl)) rfl)⟩, List.forall_mem_cons.mpr ⟨⟨by decide, by decide, (RX2, TX2, 4), rfl, (gd (tk1 (List.mem_of_getElem? (i := 190) rfl)) rfl)⟩, List.forall_mem_cons.mpr ⟨⟨by decide, by decide, (RX2, TX2, 4), rfl, (gd (tk1 (List.mem_of_getElem? (i := 192) rfl)) rfl)⟩, fun _ h => nomatch h⟩⟩⟩⟩
set_option maxRecDepth 50000 in
theorem flk_3 : ∀ q ∈ FLT.getD 3 [], FOK 3 q := List.forall_mem_cons.mpr ⟨⟨by decide, by decide, (RX3, TX3, 4), rfl, (gd (tk2 (List.mem_of_getElem? (i := 114) rfl)) rfl)⟩, List.forall_mem_cons.mpr ⟨⟨by decide, by decide, (RX3, TX3, 4), rfl, (gd (tk2 (List.mem_of_getElem? (i := 116) rfl)) rfl)⟩, List.forall_mem_cons.mpr ⟨⟨by decide, by decide, (RX3, TX3, 4), rfl, (gd (tk2 (List.mem_of_getElem? (i := 118) rfl)) rfl)⟩, List.forall_mem_cons.mpr ⟨⟨by decide, by decide, (RX3, TX3, 4), rfl, (gd (tk2 (List.mem_of_getElem? (i := 119) rfl)) rfl)⟩, List.forall_mem_cons.mpr ⟨⟨by decide, by decide, (RX1, TX1, 9), rfl, (gd (tk2 (List.mem_of_getElem? (i := 52) rfl)) rfl)⟩, List.forall_mem_cons.mpr ⟨⟨by decide, by decide, (RX1, TX1, 9), rfl, (gd (tk2 (List.mem_of_getElem? (i := 49) rfl)) rfl)⟩, fun _ h => nomatch h⟩⟩⟩⟩⟩⟩
set_option maxRecDepth 50000 in
theorem flk_4 : ∀ q ∈ FLT.getD 4 [], FOK 4 q := List.forall_mem_cons.mpr ⟨⟨by decide, by decide, (RX4, TX4, 14), rfl, (gd (tk1 (List.mem_of_getElem? (i := 77) rfl)) rfl)⟩, List.forall_mem_cons.mpr ⟨⟨by decide, by decide, (RX4, TX4, 14), rfl, (gd (tk1 (List.mem_of_getElem? (i := 82) rfl)) rfl)⟩, List.forall_mem_cons.mpr ⟨⟨by decide, by decide, (RX4, TX4, 14), rfl, (gd (tk1 (List.mem_of_getElem? (i := 86) rfl)) rfl)⟩, List.forall_mem_cons.mpr ⟨⟨by decide, by decide, (RX4, TX4, 14), rfl, (gd (tk1 (List.mem_of_getElem? (i := 88) rfl)) rfl)⟩, List.forall_mem_cons.mpr ⟨⟨by decide, by decide, (RX4, TX4, 14), rfl, (gd (tk1 (List.mem_of_getElem? (i := 90) rfl)) rfl)⟩, List.forall_mem_cons.mpr ⟨⟨by decide, by decide, (RX4, TX4, 14), rfl, (gd (tk1 (List.mem_of_getElem? (i := 93) rfl)) rfl)⟩, List.forall_mem_cons.mpr ⟨⟨by decide, by decide, (RX4, TX4, 14), rfl, (gd (tk1 (List.mem_of_getElem? (i := 47) rfl)) rfl)⟩, List.forall_mem_cons.mpr ⟨⟨by decide, by decide, (RX4, TX4, 14), rfl, (gd (tk1 (List.mem_of_getElem? (i := 54) rfl)) rfl)⟩, List.forall_mem_cons.mpr ⟨⟨by decide, by decide, (RX4, TX4, 14), rfl, (gd (tk1 (List.mem_of_getElem? (i := 60) rfl)) rfl)⟩, List.forall_mem_cons.mpr ⟨⟨by decide, by decide, (RX4, TX4, 14), rfl, (gd (tk1 (List.mem_of_getElem? (i := 63) rfl)) rfl)⟩, List.forall_mem_cons.mpr ⟨⟨by decide, by decide, (RX4, TX4, 14), rfl, (gd (tk1 (List.mem_of_getElem? (i := 66) rfl)) rfl)⟩, List.forall_mem_cons.mpr ⟨⟨by decide, by decide, (RX4, TX4, 14), rfl, (gd (tk1 (List.mem_of_getElem? (i := 70) rfl)) rfl)⟩, List.forall_mem_cons.mpr ⟨⟨by decide, by decide, (RX4, TX4, 14), rfl, (gd (tk1 (List.mem_of_getElem? (i := 74) rfl)) rfl)⟩, List.forall_mem_cons.mpr ⟨⟨by decide, by decide, (RX4, TX4, 14), rfl, (gd (tk1 (List.mem_of_getElem? (i := 46) rfl)) rfl)⟩, fun _ h => nomatch h⟩⟩⟩⟩⟩⟩⟩⟩⟩⟩⟩⟩⟩⟩
set_option maxRecDepth 50000 in
theorem flk_5 : ∀ q ∈ FLT.getD 5 [], FOK 5 q := List.forall_mem_cons.mpr ⟨⟨by decide, by decide, (RX5, TX5, 10), rfl, (gd (tk1 (List.mem_of_getElem? (i := 145) rfl)) rfl)⟩, List.forall_mem_cons.mpr ⟨⟨by decide, by decide, (RX5, TX5, 10), rfl, (gd (tk1 (List.mem_of_getElem? (i := 147) rfl)) rfl)⟩, List.forall_mem_cons.mpr ⟨⟨by decide, by decide, (RX5, TX5, 10), rfl, (gd (tk1 (List.mem_of_getElem? (i := 151) rfl)) rfl)⟩, List.forall_mem_cons.mpr ⟨⟨by decide, by decide, (RX5, TX5, 10), rfl, (gd (tk1 (List.mem_of_getElem? (i := 152) rfl)) rfl)⟩, List.forall_mem_cons.mpr ⟨⟨by decide, by decide, (RX5, TX5, 10), rfl, (gd (tk1 (List.mem_of_getElem? (i := 153) rfl)) rfl)⟩, List.forall_mem_cons.mpr ⟨⟨by decide, by decide, (RX5, TX5, 10), rfl, (gd (tk1 (List.mem_of_getElem? (i := 154) rfl)) rfl)⟩, List.forall_mem_cons.mpr ⟨⟨by decide, by decide, (RX5, TX5, 10), rfl, (gd (tk1 (List.mem_of_getElem? (i := 150) rfl)) rfl)⟩, List.forall_mem_cons.mpr ⟨⟨by decide, by decide, (RX5, TX5, 10), rfl, (gd (tk1 (List.mem_of_getElem? (i := 155) rfl)) rfl)⟩, List.forall_mem_cons.mpr ⟨⟨by decide, by decide, (RX5, TX5, 10), rfl, (gd (tk1 (List.mem_of_getElem? (i := 156) rfl)) rfl)⟩, List.forall_mem_cons.mpr ⟨⟨by decide, by decide, (RX5, TX5, 10), rfl, (gd (tk1 (List.mem_of_getElem? (i := 157) rfl)) rfl)⟩, List.forall_mem_cons.mpr ⟨⟨by decide, by decide, (RX4, TX4, 14), rfl, (gd (tk1 (List.mem_of_getElem? (i := 75) rfl)) rfl)⟩, List.forall_mem_cons.mpr ⟨⟨by decide, by decide, (RX4, TX4, 14), rfl, (gd (tk1 (List.mem_of_getElem? (i := 49) rfl)) rfl)⟩, List.forall_mem_cons.mpr ⟨⟨by decide, by decide, (RX4, TX4, 14), rfl, (gd (tk1 (List.mem_of_getElem? (i := 61) rfl)) rfl)⟩, List.forall_mem_cons.mpr ⟨⟨by decide, by decide, (RX4, TX4, 14), rfl, (gd (tk1 (List.mem_of_getElem? (i := 65) rfl)) rfl)⟩, List.forall_mem_cons.mpr ⟨⟨by decide, by decide, (RX4, TX4, 14), rfl, (gd (tk1 (List.mem_of_getElem? (i := 58) rfl)) rfl)⟩, List.forall_mem_cons.mpr ⟨⟨by decide, by decide, (RX4, TX4, 14), rfl, (gd (tk1 (List.mem_of_getElem? (i := 69) rfl)) rfl)⟩, List.forall_mem_cons.mpr ⟨⟨by decide, by decide, (RX4, TX4, 14), rfl, (gd (tk1 (List.mem_of_getElem? (i := 73) rfl)) rfl)⟩, List.forall_mem_cons.mpr ⟨⟨by decide, by decide, (RX4, TX4, 14), rfl, (gd (tk1 (List.mem_of_getElem? (i := 79) rfl)) rfl)⟩, List.forall_mem_cons.mpr ⟨⟨by decide, by decide, (RX4, TX4, 14), rfl, (gd (tk1 (List.mem_of_getElem? (i := 85) rfl)) rfl)⟩, List.forall_mem_cons.mpr ⟨⟨by decide, by decide, (RX4, TX4, 14), rfl, (gd (tk1 (List.mem_of_getElem? (i := 87) rfl)) rfl)⟩, List.forall_mem_cons.mpr ⟨⟨by decide, by decide, (RX4, TX4, 14), rfl, (gd (tk1 (List.mem_of_getElem? (i := 89) rfl)) rfl)⟩, List.forall_mem_cons.mpr ⟨⟨by decide, by decide, (RX4, TX4, 14), rfl, (gd (tk1 (List.mem_of_getElem? (i := 94) rfl)) rfl)⟩, List.forall_mem_cons.mpr ⟨⟨by decide, by decide, (RX4, TX4, 14), rfl, (gd (tk1 (List.mem_of_getElem? (i := 92) rfl)) rfl)⟩, fun _ h => nomatch h⟩⟩⟩⟩⟩⟩⟩⟩⟩⟩⟩⟩⟩⟩⟩⟩⟩⟩⟩⟩⟩⟩⟩
set_option maxRecDepth 50000 in
theorem flk_6 : ∀ q ∈ FLT.getD 6 [], FOK 6 q := List.forall_mem_cons.mpr ⟨⟨by decide, by decide, (RX6, TX6, 4), rfl, (gd (tk1 (List.mem_of_getElem? (i := 132) rfl)) rfl)⟩, List.forall_mem_cons.mpr ⟨⟨by decide, by decide, (RX6, TX6, 4), rfl, (gd (tk1 (List.mem_of_getElem? (i := 134) rfl)) rfl)⟩, List.forall_mem_cons.mpr ⟨⟨by decide, by decide, (RX6, TX6, 4), rfl, (gd (tk1 (List.mem_of_getElem? (i := 133) rfl)) rfl)⟩, List.forall_mem_cons.mpr ⟨⟨by decide, by decide, (RX6, TX6, 4), rfl, (gd (tk1 (List.mem_of_getElem? (i := 135) rfl)) rfl)⟩, fun _ h => nomatch h⟩⟩⟩⟩
set_option maxRecDepth 50000 in
theorem flk_7 : ∀ q ∈ FLT.getD 7 [], FOK 7 q := List.forall_mem_cons.mpr ⟨⟨by decide, by decide, (RX7, TX7, 6), rfl, (gd (tk2 (List.mem_of_getElem? (i := 90) rfl)) rfl)⟩, List.forall_mem_cons.mpr ⟨⟨by decide, by decide, (RX7, TX7, 6), rfl, (gd (tk2 (List.mem_of_getElem? (i := 91) rfl)) rfl)⟩, List.forall_mem_cons.mpr ⟨⟨by decide, by decide, (RX7, TX7, 6), rfl, (gd (tk2 (List.mem_of_getElem? (i := 92) rfl)) rfl)⟩, List.forall_mem_cons.mpr ⟨⟨by decide, by decide, (RX7, TX7, 6), rfl, (gd (tk2 (List.mem_of_getElem? (i := 93) rfl)) rfl)⟩, List.forall_mem_cons.mpr ⟨⟨by decide, by decide, (RX7, TX7, 6), rfl, (gd (tk2 (List.mem_of_getElem? (i := 89) rfl)) rfl)⟩, List.forall_mem_cons.mpr ⟨⟨by decide, by decide, (RX7, TX7, 6), rfl, (gd (tk2 (List.mem_of_getElem? (i := 94) rfl)) rfl)⟩, List.forall_mem_cons.mpr ⟨⟨by decide, by decide, (RX4, TX4, 14), rfl, (gd (tk1 (List.mem_of_getElem? (i := 48) rfl)) rfl)⟩, List.forall_mem_cons.mpr ⟨⟨by decide, by decide, (RX4, TX4, 14), rfl, (gd (tk1 (List.mem_of_getElem? (i := 83) rfl)) rfl)⟩, List.forall_mem_cons.mpr ⟨⟨by decide, by decide, (RX4, TX4, 14), rfl, (gd (tk1 (List.mem_of_getElem? (i := 56) rfl)) rfl)⟩, List.forall_mem_cons.mpr ⟨⟨by decide, by decide, (RX4, TX4, 14), rfl, (gd (tk1 (List.mem_of_getElem? (i := 78) rfl)) rfl)⟩, fun _ h => nomatch h⟩⟩⟩⟩⟩⟩⟩⟩⟩⟩
set_option maxRecDepth 50000 in
theorem flk_8 : ∀ q ∈ FLT.getD 8 [], FOK 8 q := List.forall_mem_cons.mpr ⟨⟨by decide, by decide, (RX8, TX8, 9), rfl, (gd (tk1 (List.mem_of_getElem? (i := 216) rfl)) rfl)⟩, List.forall_mem_cons.mpr ⟨⟨by decide, by decide, (RX8, TX8, 9), rfl, (gd (tk1 (List.mem_of_getElem? (i := 218) rfl)) rfl)⟩, List.forall_mem_cons.mpr ⟨⟨by decide, by decide, (RX8, TX8, 9), rfl, (gd (tk1 (List.mem_of_getElem? (i := 220) rfl)) rfl)⟩, List.forall_mem_cons.mpr ⟨⟨by decide, by decide, (RX8, TX8, 9), rfl, (gd (tk1 (List.mem_of_getElem? (i := 222) rfl)) rfl)⟩, List.forall_mem_cons.mpr ⟨⟨by decide, by decide, (RX8, TX8, 9), rfl, (gd (tk1 (List.mem_of_getElem? (i := 224) rfl)) rfl)⟩, List.forall_mem_cons.mpr ⟨⟨by decide, by decide, (RX8, TX8, 9), rfl, (gd (tk1 (List.mem_of_getElem? (i := 227) rfl)) rfl)⟩, List.forall_mem_cons.mpr ⟨⟨by decide, by decide, (RX8, TX8, 9), rfl, (gd (tk1 (List.mem_of_getElem? (i := 228) rfl)) rfl)⟩, List.forall_mem_cons.mpr ⟨⟨by decide, by decide, (RX8, TX8, 9), rfl, (gd (tk1 (List.mem_of_getElem? (i := 226) rfl)) rfl)⟩, List.forall_mem_cons.mpr ⟨⟨by decide, by decide, (RX8, TX8, 9), rfl, (gd (tk1 (List.mem_of_getElem? (i := 229) rfl)) rfl)⟩, List.forall_mem_cons.mpr ⟨⟨by decide, by decide, (RX4, TX4, 14), rfl, (gd (tk1 (List.mem_of_getElem? (i := 71) rfl)) rfl)⟩, List.forall_mem_cons.mpr ⟨⟨by decide, by decide, (RX4, TX4, 14), rfl, (gd (tk1 (List.mem_of_getElem? (i := 67) rfl)) rfl)⟩, List.forall_mem_cons.mpr ⟨⟨by decide, by decide, (RX4, TX4, 14), rfl, (gd (tk1 (List.mem_of_getElem? (i := 52) rfl)) rfl)⟩, fun _ h => nomatch h⟩⟩⟩⟩⟩⟩⟩⟩⟩⟩⟩⟩
set_option maxRecDepth 50000 in
theorem flk_9 : ∀ q ∈ FLT.getD 9 [], FOK 9 q := List.forall_mem_cons.mpr ⟨⟨by decide, by decide, (RX9, TX9, 15), rfl, (gd (tk2 (List.mem_of_getElem? (i := 129) rfl)) rfl)⟩, List.forall_mem_cons.mpr ⟨⟨by decide, by decide, (RX9, TX9, 15), rfl, (gd (tk2 (List.mem_of_getElem? (i := 131) rfl)) rfl)⟩, List.forall_mem_cons.mpr ⟨⟨by decide, by decide, (RX9, TX9, 15), rfl, (gd (tk2 (List.mem_of_getElem? (i := 132) rfl)) rfl)⟩, List.forall_mem_cons.mpr ⟨⟨by decide, by decide, (RX2, TX2, 4), rfl, (gd (tk1 (List.mem_of_getElem? (i := 188) rfl)) rfl)⟩, List.forall_mem_cons.mpr ⟨⟨by decide, by decide, (RX9, TX9, 15), rfl, (gd (tk2 (List.mem_of_getElem? (i := 134) rfl)) rfl)⟩, List.forall_mem_cons.mpr ⟨⟨by decide, by decide, (RX9, TX9, 15), rfl, (gd (tk2 (List.mem_of_getElem? (i := 135) rfl)) rfl)⟩, List.forall_mem_cons.mpr ⟨⟨by decide, by decide, (RX9, TX9, 15), rfl, (gd (tk2 (List.mem_of_getElem? (i := 137) rfl)) rfl)⟩, List.forall_mem_cons.mpr ⟨⟨by decide, by decide, (RX9, TX9, 15), rfl, (gd (tk2 (List.mem_of_getElem? (i := 138) rfl)) rfl)⟩, List.forall_mem_cons.mpr ⟨⟨by decide, by decide, (RX9, TX9, 15), rfl, (gd (tk2 (List.mem_of_getElem? (i := 139) rfl)) rfl)⟩, List.forall_mem_cons.mpr ⟨⟨by decide, by decide, (RX9, TX9, 15), rfl, (gd (tk2 (List.mem_of_getElem? (i := 140) rfl)) rfl)⟩, List.forall_mem_cons.mpr ⟨⟨by decide, by decide, (RX9, TX9, 15), rfl, (gd (tk2 (List.mem_of_getElem? (i := 141) rfl)) rfl)⟩, List.forall_mem_cons.mpr ⟨⟨by decide, by decide, (RX9, TX9, 15), rfl, (gd (tk2 (List.mem_of_getElem? (i := 143) rfl)) rfl)⟩, List.forall_mem_cons.mpr ⟨⟨by decide, by decide, (RX5, TX5, 10), rfl, (gd (tk1 (List.mem_of_getElem? (i := 149) rfl)) rfl)⟩, List.forall_mem_cons.mpr ⟨⟨by decide, by decide, (RX9, TX9, 15), rfl, (gd (tk2 (List.mem_of_getElem? (i := 130) rfl)) rfl)⟩, List.forall_mem_cons.mpr ⟨⟨by decide, by decide, (RX5, TX5, 10), rfl, (gd (tk1 (List.mem_of_getElem? (i := 146) rfl)) rfl)⟩, List.forall_mem_cons.mpr ⟨⟨by decide, by decide, (RX4, TX4, 14), rfl, (gd (tk1 (List.mem_of_getElem? (i := 45) rfl)) rfl)⟩, List.forall_mem_cons.mpr ⟨⟨by decide, by decide, (RX9, TX9, 15), rfl, (gd (tk2 (List.mem_of_getElem? (i := 136) rfl)) rfl)⟩, List.forall_mem_cons.mpr ⟨⟨by decide, by decide, (RX4, TX4, 14), rfl, (gd (tk1 (List.mem_of_getElem? (i := 50) rfl)) rfl)⟩, List.forall_mem_cons.mpr ⟨⟨by decide, by decide, (RX5, TX5, 10), rfl, (gd (tk1 (List.mem_of_getElem? (i := 148) rfl)) rfl)⟩, List.forall_mem_cons.mpr ⟨⟨by decide, by decide, (RX4, TX4, 14), rfl, (gd (tk1 (List.mem_of_getElem? (i := 57) rfl)) rfl)⟩, List.forall_mem_cons.mpr ⟨⟨by decide, by decide, (RX4, TX4, 14), rfl, (gd (tk1 (List.mem_of_getElem? (i := 62) rfl)) rfl)⟩, List.forall_mem_cons.mpr ⟨⟨by decide, by decide, (RX4, TX4, 14), rfl, (gd (tk1 (List.mem_of_getElem? (i := 64) rfl)) rfl)⟩, List.forall_mem_cons.mpr ⟨⟨by decide, by decide, (RX4, TX4, 14), rfl, (gd (tk1 (List.mem_of_getElem? (i := 68) rfl)) rfl)⟩, List.forall_mem_cons.mpr ⟨⟨by decide, by decide, (RX4, TX4, 14), rfl, (gd (tk1 (List.mem_of_getElem? (i := 72) rfl)) rfl)⟩, List.forall_mem_cons.mpr ⟨⟨by decide, by decide, (RX4, TX4, 14), rfl, (gd (tk1 (List.mem_of_getElem? (i := 76) rfl)) rfl)⟩, List.forall_mem_cons.mpr ⟨⟨by decide, by decide, (RX4, TX4, 14), rfl, (gd (tk1 (List.mem_of_getElem? (i := 80) rfl)) rfl)⟩, List.forall_mem_cons.mpr ⟨⟨by decide, by decide, (RX4, TX4, 14), rfl, (gd (tk1 (List.mem_of_getElem? (i := 84) rfl)) rfl)⟩, List.forall_mem_cons.mpr ⟨⟨by decide, by decide, (RX1, TX1, 9), rfl, (gd (tk2 (List.mem_of_getElem? (i := 48) rfl)) rfl)⟩, List.forall_mem_cons.mpr ⟨⟨by decide, by decide, (RX1, TX1, 9), rfl, (gd (tk2 (List.mem_of_getElem? (i := 46) rfl)) rfl)⟩, List.forall_mem_cons.mpr ⟨⟨by decide, by decide, (RX1, TX1, 9), rfl, (gd (tk2 (List.mem_of_getElem? (i := 51) rfl)) rfl)⟩, List.forall_mem_cons.mpr ⟨⟨by decide, by decide, (RX1, TX1, 9), rfl, (gd (tk2 (List.mem_of_getElem? (i := 54) rfl)) rfl)⟩, List.forall_mem_cons.mpr ⟨⟨by decide, by decide, (RX4, TX4, 14), rfl, (gd (tk1 (List.mem_of_getElem? (i := 91) rfl)) rfl)⟩, List.forall_mem_cons.mpr ⟨⟨by decide, by decide, (RX2, TX2, 4), rfl, (gd (tk1 (List.mem_of_getElem? (i := 193) rfl)) rfl)⟩, List.forall_mem_cons.mpr ⟨⟨by decide, by decide, (RX2, TX2, 4), rfl, (gd (tk1 (List.mem_of_getElem? (i := 191) rfl)) rfl)⟩, List.forall_mem_cons.mpr ⟨⟨by decide, by decide, (RX3, TX3, 4), rfl, (gd (tk2 (List.mem_of_getElem? (i := 115) rfl)) rfl)⟩, List.forall_mem_cons.mpr ⟨⟨by decide, by decide, (RX3, TX3, 4), rfl, (gd (tk2 (List.mem_of_getElem? (i := 117) rfl)) rfl)⟩, List.forall_mem_cons.mpr ⟨⟨by decide, by decide, (RX9, TX9, 15), rfl, (gd (tk2 (List.mem_of_getElem? (i := 142) rfl)) rfl)⟩, List.forall_mem_cons.mpr ⟨⟨by decide, by decide, (RX1, TX1, 9), rfl, (gd (tk2 (List.mem_of_getElem? (i := 56) rfl)) rfl)⟩, List.forall_mem_cons.mpr ⟨⟨by decide, by decide, (RX1, TX1, 9), rfl, (gd (tk2 (List.mem_of_getElem? (i := 58) rfl)) rfl)⟩, List.forall_mem_cons.mpr ⟨⟨by decide, by decide, (RX1, TX1, 9), rfl, (gd (tk2 (List.mem_of_getElem? (i := 60) rfl)) rfl)⟩, List.forall_mem_cons.mpr ⟨⟨by decide, by decide, (RX1, TX1, 9), rfl, (gd (tk2 (List.mem_of_getElem? (i := 62) rfl)) rfl)⟩, List.forall_mem_cons.mpr ⟨⟨by decide, by decide, (RX9, TX9, 15), rfl, (gd (tk2 (List.mem_of_getElem? (i := 133) rfl)) rfl)⟩, List.forall_mem_cons.mpr ⟨⟨by decide, by decide, (RX0, TX0, 8), rfl, (gd (tk2 (List.mem_of_getElem? (i := 14) rfl)) rfl)⟩, fun _ h => nomatch h⟩⟩⟩⟩⟩⟩⟩⟩⟩⟩⟩⟩⟩⟩⟩⟩⟩⟩⟩⟩⟩⟩⟩⟩⟩⟩⟩⟩⟩⟩⟩⟩⟩⟩⟩⟩⟩⟩⟩⟩⟩⟩⟩
set_option maxRecDepth 50000 in
theorem flk_10 : ∀ q ∈ FLT.getD 10 [], FOK 10 q := List.forall_mem_cons.mpr ⟨⟨by decide, by decide, (RX10, TX10, 73), rfl, (gd (tk6 (List.mem_of_getElem? (i := 152) rfl)) rfl)⟩, List.forall_mem_cons.mpr ⟨⟨by decide, by decide, (RX10, TX10, 73), rfl, (gd (tk6 (List.mem_of_getElem? (i := 158) rfl)) rfl)⟩, List.forall_mem_cons.mpr ⟨⟨by decide, by decide, (RX10, TX10, 73), rfl, (gd (tk6 (List.mem_of_getElem? (i := 159) rfl)) rfl)⟩, List.forall_mem_cons.mpr ⟨⟨by decide, by decide, (RX10, TX10, 73), rfl, (gd (tk6 (List.mem_of_getElem? (i := 167) rfl)) rfl)⟩, List.forall_mem_cons.mpr ⟨⟨by decide, by decide, (RX10, TX10, 73), rfl, (gd (tk6 (List.mem_of_getElem? (i := 168) rfl)) rfl)⟩, List.forall_mem_cons.mpr ⟨⟨by decide, by decide, (RX10, TX10, 73), rfl, (gd (tk6 (List.mem_of_getElem? (i := 170) rfl)) rfl)⟩, List.forall_mem_cons.mpr ⟨⟨by decide, by decide, (RX10, TX10, 73), rfl, (gd (tk6 (List.mem_of_getElem? (i := 171) rfl)) rfl)⟩, List.forall_mem_cons.mpr ⟨⟨by decide, by decide, (RX10, TX10, 73), rfl, (gd (tk6 (List.mem_of_getElem? (i := 172) rfl)) rfl)⟩, List.forall_mem_cons.mpr ⟨⟨by decide, by decide, (RX10, TX10, 73), rfl, (gd (tk6 (List.mem_of_getElem? (i := 173) rfl)) rfl)⟩, List.forall_mem_cons.mpr ⟨⟨by decide, by decide, (RX10, TX10, 73), rfl, (gd (tk6 (List.mem_of_getElem? (i := 183) rfl)) rfl)⟩, List.forall_mem_cons.mpr ⟨⟨by decide, by decide, (RX10, TX10, 73), rfl, (gd (tk6 (List.mem_of_getElem? (i := 184) rfl)) rfl)⟩, List.forall_mem_cons.mpr ⟨⟨by decide, by decide, (RX10, TX10, 73), rfl, (gd (tk6 (List.mem_of_getElem? (i := 185) rfl)) rfl)⟩, List.forall_mem_cons.mpr ⟨⟨by decide, by decide, (RX10, TX10, 73), rfl, (gd (tk6 (List.mem_of_getElem? (i := 186) rfl)) rfl)⟩, List.forall_mem_cons.mpr ⟨⟨by decide, by decide, (RX10, TX10, 73), rfl, (gd (tk6 (List.mem_of_getElem? (i := 190) rfl)) rfl)⟩, List.forall_mem_cons.mpr ⟨⟨by decide, by decide, (RX10, TX10, 73), rfl, (gd (tk6 (List.mem_of_getElem? (i := 191) rfl)) rfl)⟩, List.forall_mem_cons.mpr ⟨⟨by decide, by decide, (RX10, TX10, 73), rfl, (gd (tk6 (List.mem_of_getElem? (i := 192) rfl)) rfl)⟩, List.forall_mem_cons.mpr ⟨⟨by decide, by decide, (RX10, TX10, 73), rfl, (gd (tk6 (List.mem_of_getElem? (i := 194) rfl)) rfl)⟩, List.forall_mem_cons.mpr ⟨⟨by decide, by decide, (RX10, TX10, 73), rfl, (gd (tk6 (List.mem_of_getElem? (i := 196) rfl)) rfl)⟩, List.forall_mem_cons.mpr ⟨⟨by decide, by decide, (RX10, TX10, 73), rfl, (gd (tk6 (List.mem_of_getElem? (i := 197) rfl)) rfl)⟩, List.forall_mem_cons.mpr ⟨⟨by decide, by decide, (RX10, TX10, 73), rfl, (gd (tk6 (List.mem_of_getElem? (i := 198) rfl)) rfl)⟩, List.forall_mem_cons.mpr ⟨⟨by decide, by decide, (RX10, TX10, 73), rfl, (gd (tk6 (List.mem_of_getElem? (i := 199) rfl)) rfl)⟩, List.forall_mem_cons.mpr ⟨⟨by decide, by decide, (RX10, TX10, 73), rfl, (gd (tk6 (List.mem_of_getElem? (i := 200) rfl)) rfl)⟩, List.forall_mem_cons.mpr ⟨⟨by decide, by decide, (RX10, TX10, 73), rfl, (gd (tk6 (List.mem_of_getElem? (i := 201) rfl)) rfl)⟩, List.forall_mem_cons.mpr ⟨⟨by decide, by decide, (RX10, TX10, 73), rfl, (gd (tk6 (List.mem_of_getElem? (i := 202) rfl)) rfl)⟩, List.forall_mem_cons.mpr ⟨⟨by decide, by decide, (RX10, TX10, 73), rfl, (gd (tk6 (List.mem_of_getElem? (i := 205) rfl)) rfl)⟩, List.forall_mem_cons.mpr ⟨⟨by decide, by decide, (RX10, TX10, 73), rfl, (gd (tk6 (List.mem_of_getElem? (i := 206) rfl)) rfl)⟩, List.forall_mem_cons.mpr ⟨⟨by decide, by decide, (RX10, TX10, 73), rfl, (gd (tk6 (List.mem_of_getElem? (i := 207) rfl)) rfl)⟩, List.forall_mem_cons.mpr ⟨⟨by decide, by decide, (RX10, TX10, 73), rfl, (gd (tk6 (List.mem_of_getElem? (i := 208) rfl)) rfl)⟩, List.forall_mem_cons.mpr ⟨⟨by decide, by decide, (RX10, TX10, 73), rfl, (gd (tk6 (List.mem_of_getElem? (i := 209) rfl)) rfl)⟩, List.forall_mem_cons.mpr ⟨⟨by decide, by decide, (RX10, TX10, 73), rfl, (gd (tk6 (List.mem_of_getElem? (i := 213) rfl)) rfl)⟩, List.forall_mem_cons.mpr ⟨⟨by decide, by decide, (RX10, TX10, 73), rfl, (gd (tk6 (List.mem_of_getElem? (i := 214) rfl)) rfl)⟩, List.forall_mem_cons.mpr ⟨⟨by decide, by decide, (RX10, TX10, 73), rfl, (gd (tk6 (List.mem_of_getElem? (i := 215) rfl)) rfl)⟩, List.forall_mem_cons.mpr ⟨⟨by decide, by decide, (RX10, TX10, 73), rfl, (gd (tk6 (List.mem_of_getElem? (i := 216) rfl)) rfl)⟩, List.forall_mem_cons.mpr ⟨⟨by decide, by decide, (RX10, TX10, 73), rfl, (gd (tk6 (List.mem_of_getElem? (i := 217) rfl)) rfl)⟩, List.forall_mem_cons.mpr ⟨⟨by decide, by decide, (RX10, TX10, 73), rfl, (gd (tk6 (List.mem_of_getElem? (i := 218) rfl)) rfl)⟩, List.forall_mem_cons.mpr ⟨⟨by decide, by decide, (RX10, TX10, 73), rfl, (gd (tk6 (List.mem_of_getElem? (i := 219) rfl)) rfl)⟩, List.forall_mem_cons.mpr ⟨⟨by decide, by decide, (RX10, TX10, 73), rfl, (gd (tk6 (List.mem_of_getElem? (i := 220) rfl)) rfl)⟩, List.forall_mem_cons.mpr ⟨⟨by decide, by decide, (RX10, TX10, 73), rfl, (gd (tk6 (List.mem_of_getElem? (i := 221) rfl)) rfl)⟩, List.forall_mem_cons.mpr ⟨⟨by decide, by decide, (RX10, TX10, 73), rfl, (gd (tk6 (List.mem_of_getElem? (i := 149) rfl)) rfl)⟩, List.forall_mem_cons.mpr ⟨⟨by decide, by decide, (RX10, TX10, 73), rfl, (gd (tk6 (List.mem_of_getElem? (i := 150) rfl)) rfl)⟩, List.forall_mem_cons.mpr ⟨⟨by decide, by decide, (RX10, TX10, 73), rfl, (gd (tk6 (List.mem_of_getElem? (i := 151) rfl)) rfl)⟩, List.forall_mem_cons.mpr ⟨⟨by decide, by decide, (RX10, TX10, 73), rfl, (gd (tk6 (List.mem_of_getElem? (i := 157) rfl)) rfl)⟩, List.forall_mem_cons.mpr ⟨⟨by decide, by decide, (RX10, TX10, 73), rfl, (gd (tk6 (List.mem_of_getElem? (i := 153) rfl)) rfl)⟩, List.forall_mem_cons.mpr ⟨⟨by decide, by decide, (RX10, TX10, 73), rfl, (gd (tk6 (List.mem_of_getElem? (i := 155) rfl)) rfl)⟩, List.forall_mem_cons.mpr ⟨⟨by decide, by decide, (RX10, TX10, 73), rfl, (gd (tk6 (List.mem_of_getElem? (i := 156) rfl)) rfl)⟩, List.forall_mem_cons.mpr ⟨⟨by decide, by decide, (RX10, TX10, 73), rfl, (gd (tk6 (List.mem_of_getElem? (i := 154) rfl)) rfl)⟩, List.forall_mem_cons.mpr ⟨⟨by decide, by decide, (RX10, TX10, 73), rfl, (gd (tk6 (List.mem_of_getElem? (i := 187) rfl)) rfl)⟩, List.forall_mem_cons.mpr ⟨⟨by decide, by decide, (RX10, TX10, 73), rfl, (gd (tk6 (List.mem_of_getElem? (i := 188) rfl)) rfl)⟩, List.forall_mem_cons.mpr ⟨⟨by decide, by decide, (RX10, TX10, 73), rfl, (gd (tk6 (List.mem_of_getElem? (i := 189) rfl)) rfl)⟩, List.forall_mem_cons.mpr ⟨⟨by decide, by decide, (RX10, TX10, 73), rfl, (gd (tk6 (List.mem_of_getElem? (i := 174) rfl)) rfl)⟩, List.forall_mem_cons.mpr ⟨⟨by decide, by decide, (RX10, TX10, 73), rfl, (gd (tk6 (List.mem_of_getElem? (i := 176) rfl)) rfl)⟩, List.forall_mem_cons.mpr ⟨⟨by decide, by decide, (RX10, TX10, 73), rfl, (gd (tk6 (List.mem_of_getElem? (i := 177) rfl)) rfl)⟩, List.forall_mem_cons.mpr ⟨⟨by decide, by decide, (RX10, TX10, 73), rfl, (gd (tk6 (List.mem_of_getElem? (i := 175) rfl)) rfl)⟩, List.forall_mem_cons.mpr ⟨⟨by decide, by decide, (RX10, TX10, 73), rfl, (gd (tk6 (List.mem_of_getElem? (i := 178) rfl)) rfl)⟩, List.forall_mem_cons.mpr ⟨⟨by decide, by decide, (RX10, TX10, 73), rfl, (gd (tk6 (List.mem_of_getElem? (i := 179) rfl)) rfl)⟩, List.forall_mem_cons.mpr ⟨⟨by decide, by decide, (RX10, TX10, 73), rfl, (gd (tk6 (List.mem_of_getElem? (i := 180) rfl)) rfl)⟩, List.forall_mem_cons.mpr ⟨⟨by decide, by decide, (RX10, TX10, 73), rfl, (gd (tk6 (List.mem_of_getElem? (i := 181) rfl)) rfl)⟩, List.forall_mem_cons.mpr ⟨⟨by decide, by decide, (RX10, TX10, 73), rfl, (gd (tk6 (List.mem_of_getElem? (i := 182) rfl)) rfl)⟩, List.forall_mem_cons.mpr ⟨⟨by decide, by decide, (RX10, TX10, 73), rfl, (gd (tk6 (List.mem_of_getElem? (i := 169) rfl)) rfl)⟩, List.forall_mem_cons.mpr ⟨⟨by decide, by decide, (RX10, TX10, 73), rfl, (gd (tk6 (List.mem_of_getElem? (i := 162) rfl)) rfl)⟩, List.forall_mem_cons.mpr ⟨⟨by decide, by decide, (RX10, TX10, 73), rfl, (gd (tk6 (List.mem_of_getElem? (i := 163) rfl)) rfl)⟩, List.forall_mem_cons.mpr ⟨⟨by decide, by decide, (RX10, TX10, 73), rfl, (gd (tk6 (List.mem_of_getElem? (i := 164) rfl)) rfl)⟩, List.forall_mem_cons.mpr ⟨⟨by decide, by decide, (RX10, TX10, 73), rfl, (gd (tk6 (List.mem_of_getElem? (i := 165) rfl)) rfl)⟩, List.forall_mem_cons.mpr ⟨⟨by decide, by decide, (RX10, TX10, 73), rfl, (gd (tk6 (List.mem_of_getElem? (i := 166) rfl)) rfl)⟩, List.forall_mem_cons.mpr ⟨⟨by decide, by decide, (RX10, TX10, 73), rfl, (gd (tk6 (List.mem_of_getElem? (i := 161) rfl)) rfl)⟩, List.forall_mem_cons.mpr ⟨⟨by decide, by decide, (RX10, TX10, 73), rfl, (gd (tk6 (List.mem_of_getElem? (i := 193) rfl)) rfl)⟩, List.forall_mem_cons.mpr ⟨⟨by decide, by decide, (RX10, TX10, 73), rfl, (gd (tk6 (List.mem_of_getElem? (i := 160) rfl)) rfl)⟩, List.forall_mem_cons.mpr ⟨⟨by decide, by decide, (RX10, TX10, 73), rfl, (gd (tk6 (List.mem_of_getElem? (i := 210) rfl)) rfl)⟩, List.forall_mem_cons.mpr ⟨⟨by decide, by decide, (RX10, TX10, 73), rfl, (gd (tk6 (List.mem_of_getElem? (i := 211) rfl)) rfl)⟩, List.forall_mem_cons.mpr ⟨⟨by decide, by decide, (RX10, TX10, 73), rfl, (gd (tk6 (List.mem_of_getElem? (i := 212) rfl)) rfl)⟩, List.forall_mem_cons.mpr ⟨⟨by decide, by decide, (RX10, TX10, 73), rfl, (gd (tk6 (List.mem_of_getElem? (i := 203) rfl)) rfl)⟩, List.forall_mem_cons.mpr ⟨⟨by decide, by decide, (RX10, TX10, 73), rfl, (gd (tk6 (List.mem_of_getElem? (i := 204) rfl)) rfl)⟩, fun _ h => nomatch h⟩⟩⟩⟩⟩⟩⟩⟩⟩⟩⟩⟩⟩⟩⟩⟩⟩⟩⟩⟩⟩⟩⟩⟩⟩⟩⟩⟩⟩⟩⟩⟩⟩⟩⟩⟩⟩⟩⟩⟩⟩⟩⟩⟩⟩⟩⟩⟩⟩⟩⟩⟩⟩⟩⟩⟩⟩⟩⟩⟩⟩⟩⟩⟩⟩⟩⟩⟩⟩⟩⟩⟩
set_option maxRecDepth 50000 in
theorem flk_11 : ∀ q ∈ FLT.getD 11 [], FOK 11 q := fun _ h => nomatch h
set_option maxRecDepth 50000 in
theorem flk_12 : ∀ q ∈ FLT.getD 12 [], FOK 12 q := fun _ h => nomatch h
set_option maxRecDepth 50000 in
theorem flk_13 : ∀ q ∈ FLT.getD 13 [], FOK 13 q := fun _ h => nomatch h
set_option maxRecDepth 50000 in
theorem flk_14 : ∀ q ∈ FLT.getD 14 [], FOK 14 q := fun _ h => nomatch h
set_option maxRecDepth 50000 in
theorem flk_15 : ∀ q ∈ FLT.getD 15 [], FOK 15 q := fun _ h => nomatch h
theorem flk : ∀ o, o < 16 → ∀ q ∈ FLT.getD o [], FOK o q := fun o ho => match o, ho with
  | 0, _ => flk_0
  | 1, _ => flk_1
  | 2, _ => flk_2
  | 3, _ => flk_3
  | 4, _ => flk_4
  | 5, _ => flk_5
  | 6, _ => flk_6
  | 7, _ => flk_7
  | 8, _ => flk_8
  | 9, _ => flk_9
  | 10, _ => flk_10
  | 11, _ => flk_11
  | 12, _ => flk_12
  | 13, _ => flk_13
  | 14, _ => flk_14
  | 15, _ => flk_15
  | n + 16, h => absurd h (by omega)
def MLT : List (List (Nat × Nat × Nat)) := [[(41, 149, 1), (45, 150, 0), (48, 44, 2), (57, 192, 0), (61, 194, 0), (65, 237, 0), (69, 241, 0), (73, 155, 0), (76, 158, 0), (80, 156, 0), (91, 157, 0), (97, 281, 1), (103, 249, 0), (106, 159, 0), (115, 161, 0), (119, 240, 0), (122, 43, 2), (125, 45, 2), (128, 179, 0), (134, 193, 0), (137, 163, 0), (140, 153, 0), (144, 152, 0), (148, 165, 0), (158, 168, 0), (161, 151, 0), (164, 187, 0)],
  [(24, 171, 0), (33, 189, 0), (41, 190, 0), (45, 172, 0), (59, 237, 0), (65, 150, 0), (69, 245, 0), (73, 250, 0), (79, 246, 0), (83, 247, 0), (93, 173, 0), (110, 248, 0), (113, 175, 1), (119, 43, 2)],
  [(25, 186, 0), (39, 46, 2), (43, 179, 0)],
  [],
  [(53, 185, 0), (66, 191, 0), (73, 43, 2), (77, 192, 0), (81, 279, 1), (86, 280, 1), (91, 282, 1), (94, 198, 0)],
  [(51, 184, 0), (54, 224, 0), (55, 201, 0), (59, 202, 0), (62, 217, 0), (72, 219, 0), (76, 223, 0), (79, 218, 0), (84, 214, 0), (88, 203, 0), (94, 213, 0), (114, 216, 0), (121, 204, 0), (125, 205, 0), (144, 206, 0), (149, 226, 0), (152, 207, 0), (159, 212, 0), (163, 215, 0), (167, 209, 0), (170, 208, 0), (174, 210, 0), (177, 211, 0), (186, 220, 0), (190, 221, 1), (194, 282, 1), (199, 222, 1), (202, 283, 0), (206, 284, 0), (214, 46, 2), (217, 225, 0), (220, 227, 0), (224, 190, 0), (230, 45, 2)],
  [(25, 229, 0), (29, 230, 0), (33, 228, 1)],
  [(41, 188, 0), (45, 232, 0), (54, 235, 0), (58, 236, 0), (62, 190, 0), (69, 234, 0), (73, 233, 0), (77, 43, 2), (80, 196, 0), (84, 189, 0), (90, 187, 0), (93, 281, 1)],
  [(43, 238, 0), (50, 239, 0), (53, 43, 2), (57, 45, 2), (68, 46, 2), (71, 195, 0), (75, 188, 0), (78, 282, 1), (83, 44, 2), (89, 242, 0), (93, 243, 0), (97, 153, 0), (103, 189, 0), (107, 196, 0), (114, 244, 0), (119, 187, 0), (122, 248, 0)],
  [(80, 199, 0), (91, 200, 0), (104, 186, 0), (107, 177, 0), (140, 33, 0), (150, 187, 0), (154, 188, 0), (157, 32, 0), (160, 35, 0), (164, 38, 0), (168, 37, 0), (171, 153, 0), (175, 151, 0), (179, 152, 0), (183, 164, 0), (189, 179, 0), (192, 180, 0), (199, 39, 0), (202, 190, 0), (205, 162, 0), (208, 36, 0), (213, 231, 0), (216, 170, 0), (234, 166, 0), (237, 167, 0), (240, 169, 0), (243, 34, 0), (247, 197, 0), (250, 154, 0), (262, 181, 0), (273, 40, 0), (282, 41, 0), (289, 150, 0), (292, 42, 0), (295, 174, 0), (314, 176, 0), (317, 178, 0), (337, 160, 0), (340, 182, 0), (344, 183, 0), (348, 191, 0), (351, 189, 0), (355, 43, 1)],
  [(159, 51, 0), (169, 52, 0), (172, 54, 1), (176, 53, 0), (181, 49, 1), (185, 56, 0), (189, 57, 1), (193, 58, 0), (197, 59, 0), (203, 55, 0), (216, 62, 0), (220, 65, 0), (223, 60, 0), (226, 63, 0), (229, 64, 0), (232, 66, 0), (236, 68, 0), (239, 67, 0), (245, 61, 0), (249, 69, 0), (276, 70, 0), (304, 48, 0), (308, 71, 0), (314, 72, 0), (317, 79, 1), (321, 78, 1), (324, 81, 0), (328, 82, 0), (332, 86, 0), (335, 87, 1), (339, 85, 0), (342, 84, 0), (346, 91, 0), (349, 90, 0), (352, 89, 0), (355, 88, 0), (358, 93, 1), (361, 83, 0), (365, 96, 0), (368, 95, 0), (371, 92, 0), (375, 98, 0), (378, 94, 1), (381, 99, 0), (384, 80, 0), (387, 97, 0), (391, 101, 0), (394, 102, 0), (397, 100, 0), (400, 106, 0), (403, 108, 1), (406, 113, 0), (409, 114, 0), (412, 115, 0), (415, 110, 0), (418, 111, 0), (421, 117, 0), (424, 120, 0), (428, 119, 0), (431, 125, 0), (434, 127, 0), (438, 123, 0), (442, 126, 0), (445, 128, 0), (459, 130, 0), (462, 129, 0), (465, 134, 0), (468, 74, 0), (480, 147, 0)],
  [(335, 285, 0), (492, 286, 0), (495, 287, 1)],
  [],
  [],
  [],
  [(7, 1, 0), (15, 3, 0), (18, 4, 0), (24, 5, 0), (30, 6, 0), (34, 7, 0), (38, 8, 0), (42, 9, 0), (45, 10, 0), (48, 11, 0), (52, 12, 0), (55, 13, 0), (58, 14, 0), (62, 15, 0), (66, 16, 0), (69, 17, 0), (73, 18, 0), (76, 19, 0), (79, 20, 0), (82, 21, 0), (85, 22, 0), (88, 23, 0), (91, 24, 0), (94, 25, 0), (97, 26, 0), (100, 27, 0), (103, 28, 0), (110, 0, 0), (114, 50, 0), (115, 251, 1), (120, 73, 0), (121, 47, 0), (124, 2, 0), (127, 75, 0), (128, 252, 1), (130, 76, 0), (131, 253, 1), (134, 77, 0), (135, 254, 1), (138, 103, 0), (139, 255, 1), (141, 104, 0), (142, 256, 1), (145, 105, 0), (146, 257, 1), (149, 107, 0), (150, 258, 1), (152, 109, 0), (153, 259, 1), (155, 112, 0), (156, 260, 1), (158, 116, 0), (159, 261, 1), (161, 118, 0), (162, 262, 1), (164, 121, 0), (165, 263, 1), (167, 122, 0), (168, 264, 1), (170, 124, 0), (171, 265, 1), (173, 131, 0), (174, 266, 1), (176, 132, 0), (177, 267, 1), (179, 133, 0), (180, 268, 1), (182, 135, 0), (183, 269, 1), (185, 136, 0), (186, 270, 1), (188, 137, 0), (189, 271, 1), (191, 138, 0), (192, 272, 1), (194, 139, 0), (195, 273, 1), (197, 140, 0), (198, 274, 1), (200, 141, 0), (201, 275, 1), (203, 142, 0), (204, 276, 1), (206, 143, 0), (207, 277, 1), (209, 144, 0), (210, 29, 0), (213, 145, 0), (214, 30, 0), (217, 146, 0), (218, 31, 0), (221, 148, 0)]]
def COK (o : Nat) (q : Nat × Nat × Nat) : Prop := if q.2.2 = 2 then Cond.methodLinkNest (own' o) q.1 (mi q.2.1).1 "PatentRaces" ∈ lw_tbl else Cond.methodLink (own' o) q.1 (mi q.2.1).1 ∈ gtbl
set_option maxRecDepth 50000 in
theorem mlk_0 : ∀ q ∈ MLT.getD 0 [], COK 0 q := List.forall_mem_cons.mpr ⟨(gd (tk4 (List.mem_of_getElem? (i := 164) rfl)) rfl), List.forall_mem_cons.mpr ⟨(gd (tk5 (List.mem_of_getElem? (i := 0) rfl)) rfl), List.forall_mem_cons.mpr ⟨(tk5 (List.mem_of_getElem? (i := 4) rfl)), List.forall_mem_cons.mpr ⟨(gd (tk4 (List.mem_of_getElem? (i := 116) rfl)) rfl), List.forall_mem_cons.mpr ⟨(gd (tk4 (List.mem_of_getElem? (i := 121) rfl)) rfl), List.forall_mem_cons.mpr ⟨(gd (tk4 (List.mem_of_getElem? (i := 125) rfl)) rfl), List.forall_mem_cons.mpr ⟨(gd (tk4 (List.mem_of_getElem? (i := 152) rfl)) rfl), List.forall_mem_cons.mpr ⟨(gd (tk4 (List.mem_of_getElem? (i := 194) rfl)) rfl), List.forall_mem_cons.mpr ⟨(gd (tk4 (List.mem_of_getElem? (i := 210) rfl)) rfl), List.forall_mem_cons.mpr ⟨(gd (tk4 (List.mem_of_getElem? (i := 198) rfl)) rfl), List.forall_mem_cons.mpr ⟨(gd (tk4 (List.mem_of_getElem? (i := 203) rfl)) rfl), List.forall_mem_cons.mpr ⟨(gd (tk4 (List.mem_of_getElem? (i := 207) rfl)) rfl), List.forall_mem_cons.mpr ⟨(gd (tk4 (List.mem_of_getElem? (i := 214) rfl)) rfl), List.forall_mem_cons.mpr ⟨(gd (tk4 (List.mem_of_getElem? (i := 218) rfl)) rfl), List.forall_mem_cons.mpr ⟨(gd (tk5 (List.mem_of_getElem? (i := 73) rfl)) rfl), List.forall_mem_cons.mpr ⟨(gd (tk5 (List.mem_of_getElem? (i := 79) rfl)) rfl), List.forall_mem_cons.mpr ⟨(tk5 (List.mem_of_getElem? (i := 32) rfl)), List.forall_mem_cons.mpr ⟨(tk5 (List.mem_of_getElem? (i := 77) rfl)), List.forall_mem_cons.mpr ⟨(gd (tk5 (List.mem_of_getElem? (i := 78) rfl)) rfl), List.forall_mem_cons.mpr ⟨(gd (tk5 (List.mem_of_getElem? (i := 95) rfl)) rfl), List.forall_mem_cons.mpr ⟨(gd (tk5 (List.mem_of_getElem? (i := 100) rfl)) rfl), List.forall_mem_cons.mpr ⟨(gd (tk5 (List.mem_of_getElem? (i := 104) rfl)) rfl), List.forall_mem_cons.mpr ⟨(gd (tk5 (List.mem_of_getElem? (i := 27) rfl)) rfl), List.forall_mem_cons.mpr ⟨(gd (tk5 (List.mem_of_getElem? (i := 28) rfl)) rfl), List.forall_mem_cons.mpr ⟨(gd (tk5 (List.mem_of_getElem? (i := 237) rfl)) rfl), List.forall_mem_cons.mpr ⟨(gd (tk6 (List.mem_of_getElem? (i := 1) rfl)) rfl), List.forall_mem_cons.mpr ⟨(gd (tk6 (List.mem_of_getElem? (i := 2) rfl)) rfl), fun _ h => nomatch h⟩⟩⟩⟩⟩⟩⟩⟩⟩⟩⟩⟩⟩⟩⟩⟩⟩⟩⟩⟩⟩⟩⟩⟩⟩⟩⟩
set_option maxRecDepth 50000 in
theorem mlk_1 : ∀ q ∈ MLT.getD 1 [], COK 1 q := List.forall_mem_cons.mpr ⟨(gd (tk5 (List.mem_of_getElem? (i := 176) rfl)) rfl), List.forall_mem_cons.mpr ⟨(gd (tk5 (List.mem_of_getElem? (i := 180) rfl)) rfl), List.forall_mem_cons.mpr ⟨(gd (tk5 (List.mem_of_getElem? (i := 181) rfl)) rfl), List.forall_mem_cons.mpr ⟨(gd (tk5 (List.mem_of_getElem? (i := 182) rfl)) rfl), List.forall_mem_cons.mpr ⟨(gd (tk5 (List.mem_of_getElem? (i := 186) rfl)) rfl), List.forall_mem_cons.mpr ⟨(gd (tk5 (List.mem_of_getElem? (i := 187) rfl)) rfl), List.forall_mem_cons.mpr ⟨(gd (tk5 (List.mem_of_getElem? (i := 188) rfl)) rfl), List.forall_mem_cons.mpr ⟨(gd (tk5 (List.mem_of_getElem? (i := 192) rfl)) rfl), List.forall_mem_cons.mpr ⟨(gd (tk5 (List.mem_of_getElem? (i := 196) rfl)) rfl), List.forall_mem_cons.mpr ⟨(gd (tk5 (List.mem_of_getElem? (i := 204) rfl)) rfl), List.forall_mem_cons.mpr ⟨(gd (tk5 (List.mem_of_getElem? (i := 208) rfl)) rfl), List.forall_mem_cons.mpr ⟨(gd (tk6 (List.mem_of_getElem? (i := 124) rfl)) rfl), List.forall_mem_cons.mpr ⟨(gd (tk6 (List.mem_of_getElem? (i := 125) rfl)) rfl), List.forall_mem_cons.mpr ⟨(tk6 (List.mem_of_getElem? (i := 128) rfl)), fun _ h => nomatch h⟩⟩⟩⟩⟩⟩⟩⟩⟩⟩⟩⟩⟩⟩
set_option maxRecDepth 50000 in
theorem mlk_2 : ∀ q ∈ MLT.getD 2 [], COK 2 q := List.forall_mem_cons.mpr ⟨(gd (tk2 (List.mem_of_getElem? (i := 195) rfl)) rfl), List.forall_mem_cons.mpr ⟨(tk5 (List.mem_of_getElem? (i := 45) rfl)), List.forall_mem_cons.mpr ⟨(gd (tk5 (List.mem_of_getElem? (i := 50) rfl)) rfl), fun _ h => nomatch h⟩⟩⟩
set_option maxRecDepth 50000 in
theorem mlk_3 : ∀ q ∈ MLT.getD 3 [], COK 3 q := fun _ h => nomatch h
set_option maxRecDepth 50000 in
theorem mlk_4 : ∀ q ∈ MLT.getD 4 [], COK 4 q := List.forall_mem_cons.mpr ⟨(gd (tk3 (List.mem_of_getElem? (i := 59) rfl)) rfl), List.forall_mem_cons.mpr ⟨(gd (tk4 (List.mem_of_getElem? (i := 14) rfl)) rfl), List.forall_mem_cons.mpr ⟨(tk4 (List.mem_of_getElem? (i := 120) rfl)), List.forall_mem_cons.mpr ⟨(gd (tk5 (List.mem_of_getElem? (i := 99) rfl)) rfl), List.forall_mem_cons.mpr ⟨(gd (tk4 (List.mem_of_getElem? (i := 175) rfl)) rfl), List.forall_mem_cons.mpr ⟨(gd (tk4 (List.mem_of_getElem? (i := 181) rfl)) rfl), List.forall_mem_cons.mpr ⟨(gd (tk6 (List.mem_of_getElem? (i := 41) rfl)) rfl), List.forall_mem_cons.mpr ⟨(gd (tk6 (List.mem_of_getElem? (i := 42) rfl)) rfl), fun _ h => nomatch h⟩⟩⟩⟩⟩⟩⟩⟩
set_option maxRecDepth 50000 in
theorem mlk_5 : ∀ q ∈ MLT.getD 5 [], COK 5 q := List.forall_mem_cons.mpr ⟨(gd (tk3 (List.mem_of_getElem? (i := 55) rfl)) rfl), List.forall_mem_cons.mpr ⟨(gd (tk3 (List.mem_of_getElem? (i := 63) rfl)) rfl), List.forall_mem_cons.mpr ⟨(gd (tk3 (List.mem_of_getElem? (i := 67) rfl)) rfl), List.forall_mem_cons.mpr ⟨(gd (tk3 (List.mem_of_getElem? (i := 75) rfl)) rfl), List.forall_mem_cons.mpr ⟨(gd (tk3 (List.mem_of_getElem? (i := 198) rfl)) rfl), List.forall_mem_cons.mpr ⟨(gd (tk3 (List.mem_of_getElem? (i := 143) rfl)) rfl), List.forall_mem_cons.mpr ⟨(gd (tk3 (List.mem_of_getElem? (i := 224) rfl)) rfl), List.forall_mem_cons.mpr ⟨(gd (tk3 (List.mem_of_getElem? (i := 71) rfl)) rfl), List.forall_mem_cons.mpr ⟨(gd (tk3 (List.mem_of_getElem? (i := 80) rfl)) rfl), List.forall_mem_cons.mpr ⟨(gd (tk3 (List.mem_of_getElem? (i := 139) rfl)) rfl), List.forall_mem_cons.mpr ⟨(gd (tk3 (List.mem_of_getElem? (i := 147) rfl)) rfl), List.forall_mem_cons.mpr ⟨(gd (tk3 (List.mem_of_getElem? (i := 159) rfl)) rfl), List.forall_mem_cons.mpr ⟨(gd (tk3 (List.mem_of_getElem? (i := 169) rfl)) rfl), List.forall_mem_cons.mpr ⟨(gd (tk3 (List.mem_of_getElem? (i := 173) rfl)) rfl), List.forall_mem_cons.mpr ⟨(gd (tk3 (List.mem_of_getElem? (i := 177) rfl)) rfl), List.forall_mem_cons.mpr ⟨(gd (tk3 (List.mem_of_getElem? (i := 190) rfl)) rfl), List.forall_mem_cons.mpr ⟨(gd (tk3 (List.mem_of_getElem? (i := 181) rfl)) rfl), List.forall_mem_cons.mpr ⟨(gd (tk3 (List.mem_of_getElem? (i := 186) rfl)) rfl), List.forall_mem_cons.mpr ⟨(gd (tk3 (List.mem_of_getElem? (i := 194) rfl)) rfl), List.forall_mem_cons.mpr ⟨(gd (tk3 (List.mem_of_getElem? (i := 202) rfl)) rfl), List.forall_mem_cons.mpr ⟨(gd (tk3 (List.mem_of_getElem? (i := 217) rfl)) rfl), List.forall_mem_cons.mpr ⟨(gd (tk3 (List.mem_of_getElem? (i := 206) rfl)) rfl), List.forall_mem_cons.mpr ⟨(gd (tk3 (List.mem_of_getElem? (i := 210) rfl)) rfl), List.forall_mem_cons.mpr ⟨(gd (tk3 (List.mem_of_getElem? (i := 84) rfl)) rfl), List.forall_mem_cons.mpr ⟨(gd (tk3 (List.mem_of_getElem? (i := 151) rfl)) rfl), List.forall_mem_cons.mpr ⟨(gd (tk3 (List.mem_of_getElem? (i := 154) rfl)) rfl), List.forall_mem_cons.mpr ⟨(gd (tk3 (List.mem_of_getElem? (i := 88) rfl)) rfl), List.forall_mem_cons.mpr ⟨(gd (tk3 (List.mem_of_getElem? (i := 91) rfl)) rfl), List.forall_mem_cons.mpr ⟨(gd (tk3 (List.mem_of_getElem? (i := 101) rfl)) rfl), List.forall_mem_cons.mpr ⟨(tk3 (List.mem_of_getElem? (i := 228) rfl)), List.forall_mem_cons.mpr ⟨(gd (tk3 (List.mem_of_getElem? (i := 231) rfl)) rfl), List.forall_mem_cons.mpr ⟨(gd (tk3 (List.mem_of_getElem? (i := 235) rfl)) rfl), List.forall_mem_cons.mpr ⟨(gd (tk4 (List.mem_of_getElem? (i := 10) rfl)) rfl), List.forall_mem_cons.mpr ⟨(tk4 (List.mem_of_getElem? (i := 20) rfl)), fun _ h => nomatch h⟩⟩⟩⟩⟩⟩⟩⟩⟩⟩⟩⟩⟩⟩⟩⟩⟩⟩⟩⟩⟩⟩⟩⟩⟩⟩⟩⟩⟩⟩⟩⟩⟩⟩
set_option maxRecDepth 50000 in
theorem mlk_6 : ∀ q ∈ MLT.getD 6 [], COK 6 q := List.forall_mem_cons.mpr ⟨(gd (tk3 (List.mem_of_getElem? (i := 239) rfl)) rfl), List.forall_mem_cons.mpr ⟨(gd (tk4 (List.mem_of_getElem? (i := 3) rfl)) rfl), List.forall_mem_cons.mpr ⟨(gd (tk4 (List.mem_of_getElem? (i := 7) rfl)) rfl), fun _ h => nomatch h⟩⟩⟩
set_option maxRecDepth 50000 in
theorem mlk_7 : ∀ q ∈ MLT.getD 7 [], COK 7 q := List.forall_mem_cons.mpr ⟨(gd (tk5 (List.mem_of_getElem? (i := 136) rfl)) rfl), List.forall_mem_cons.mpr ⟨(gd (tk5 (List.mem_of_getElem? (i := 137) rfl)) rfl), List.forall_mem_cons.mpr ⟨(gd (tk5 (List.mem_of_getElem? (i := 152) rfl)) rfl), List.forall_mem_cons.mpr ⟨(gd (tk5 (List.mem_of_getElem? (i := 158) rfl)) rfl), List.forall_mem_cons.mpr ⟨(gd (tk5 (List.mem_of_getElem? (i := 141) rfl)) rfl), List.forall_mem_cons.mpr ⟨(gd (tk5 (List.mem_of_getElem? (i := 143) rfl)) rfl), List.forall_mem_cons.mpr ⟨(gd (tk5 (List.mem_of_getElem? (i := 148) rfl)) rfl), List.forall_mem_cons.mpr ⟨(tk5 (List.mem_of_getElem? (i := 147) rfl)), List.forall_mem_cons.mpr ⟨(gd (tk5 (List.mem_of_getElem? (i := 156) rfl)) rfl), List.forall_mem_cons.mpr ⟨(gd (tk5 (List.mem_of_getElem? (i := 157) rfl)) rfl), List.forall_mem_cons.mpr ⟨(gd (tk5 (List.mem_of_getElem? (i := 163) rfl)) rfl), List.forall_mem_cons.mpr ⟨(gd (tk5 (List.mem_of_getElem? (i := 164) rfl)) rfl), fun _ h => nomatch h⟩⟩⟩⟩⟩⟩⟩⟩⟩⟩⟩⟩
set_option maxRecDepth 50000 in
theorem mlk_8 : ∀ q ∈ MLT.getD 8 [], COK 8 q := List.forall_mem_cons.mpr ⟨(gd (tk4 (List.mem_of_getElem? (i := 129) rfl)) rfl), List.forall_mem_cons.mpr ⟨(gd (tk4 (List.mem_of_getElem? (i := 144) rfl)) rfl), List.forall_mem_cons.mpr ⟨(tk4 (List.mem_of_getElem? (i := 133) rfl)), List.forall_mem_cons.mpr ⟨(tk4 (List.mem_of_getElem? (i := 134) rfl)), List.forall_mem_cons.mpr ⟨(tk4 (List.mem_of_getElem? (i := 135) rfl)), List.forall_mem_cons.mpr ⟨(gd (tk4 (List.mem_of_getElem? (i := 136) rfl)) rfl), List.forall_mem_cons.mpr ⟨(gd (tk4 (List.mem_of_getElem? (i := 140) rfl)) rfl), List.forall_mem_cons.mpr ⟨(gd (tk4 (List.mem_of_getElem? (i := 141) rfl)) rfl), List.forall_mem_cons.mpr ⟨(tk4 (List.mem_of_getElem? (i := 148) rfl)), List.forall_mem_cons.mpr ⟨(gd (tk4 (List.mem_of_getElem? (i := 156) rfl)) rfl), List.forall_mem_cons.mpr ⟨(gd (tk4 (List.mem_of_getElem? (i := 184) rfl)) rfl), List.forall_mem_cons.mpr ⟨(gd (tk4 (List.mem_of_getElem? (i := 160) rfl)) rfl), List.forall_mem_cons.mpr ⟨(gd (tk4 (List.mem_of_getElem? (i := 167) rfl)) rfl), List.forall_mem_cons.mpr ⟨(gd (tk4 (List.mem_of_getElem? (i := 171) rfl)) rfl), List.forall_mem_cons.mpr ⟨(gd (tk4 (List.mem_of_getElem? (i := 188) rfl)) rfl), List.forall_mem_cons.mpr ⟨(gd (tk4 (List.mem_of_getElem? (i := 193) rfl)) rfl), List.forall_mem_cons.mpr ⟨(gd (tk5 (List.mem_of_getElem? (i := 200) rfl)) rfl), fun _ h => nomatch h⟩⟩⟩⟩⟩⟩⟩⟩⟩⟩⟩⟩⟩⟩⟩⟩⟩
set_option maxRecDepth 50000 in
theorem mlk_9 : ∀ q ∈ MLT.getD 9 [], COK 9 q := List.forall_mem_cons.mpr ⟨(gd (tk2 (List.mem_of_getElem? (i := 179) rfl)) rfl), List.forall_mem_cons.mpr ⟨(gd (tk3 (List.mem_of_getElem? (i := 51) rfl)) rfl), List.forall_mem_cons.mpr ⟨(gd (tk4 (List.mem_of_getElem? (i := 26) rfl)) rfl), List.forall_mem_cons.mpr ⟨(gd (tk4 (List.mem_of_getElem? (i := 27) rfl)) rfl), List.forall_mem_cons.mpr ⟨(gd (tk4 (List.mem_of_getElem? (i := 47) rfl)) rfl), List.forall_mem_cons.mpr ⟨(gd (tk4 (List.mem_of_getElem? (i := 67) rfl)) rfl), List.forall_mem_cons.mpr ⟨(gd (tk4 (List.mem_of_getElem? (i := 71) rfl)) rfl), List.forall_mem_cons.mpr ⟨(gd (tk4 (List.mem_of_getElem? (i := 83) rfl)) rfl), List.forall_mem_cons.mpr ⟨(gd (tk4 (List.mem_of_getElem? (i := 103) rfl)) rfl), List.forall_mem_cons.mpr ⟨(gd (tk4 (List.mem_of_getElem? (i := 108) rfl)) rfl), List.forall_mem_cons.mpr ⟨(gd (tk4 (List.mem_of_getElem? (i := 223) rfl)) rfl), List.forall_mem_cons.mpr ⟨(gd (tk4 (List.mem_of_getElem? (i := 228) rfl)) rfl), List.forall_mem_cons.mpr ⟨(gd (tk4 (List.mem_of_getElem? (i := 236) rfl)) rfl), List.forall_mem_cons.mpr ⟨(gd (tk5 (List.mem_of_getElem? (i := 12) rfl)) rfl), List.forall_mem_cons.mpr ⟨(gd (tk5 (List.mem_of_getElem? (i := 23) rfl)) rfl), List.forall_mem_cons.mpr ⟨(gd (tk5 (List.mem_of_getElem? (i := 41) rfl)) rfl), List.forall_mem_cons.mpr ⟨(gd (tk5 (List.mem_of_getElem? (i := 46) rfl)) rfl), List.forall_mem_cons.mpr ⟨(gd (tk5 (List.mem_of_getElem? (i := 65) rfl)) rfl), List.forall_mem_cons.mpr ⟨(gd (tk5 (List.mem_of_getElem? (i := 83) rfl)) rfl), List.forall_mem_cons.mpr ⟨(gd (tk5 (List.mem_of_getElem? (i := 91) rfl)) rfl), List.forall_mem_cons.mpr ⟨(gd (tk5 (List.mem_of_getElem? (i := 112) rfl)) rfl), List.forall_mem_cons.mpr ⟨(gd (tk5 (List.mem_of_getElem? (i := 132) rfl)) rfl), List.forall_mem_cons.mpr ⟨(gd (tk5 (List.mem_of_getElem? (i := 172) rfl)) rfl), List.forall_mem_cons.mpr ⟨(gd (tk5 (List.mem_of_getElem? (i := 233) rfl)) rfl), List.forall_mem_cons.mpr ⟨(gd (tk6 (List.mem_of_getElem? (i := 10) rfl)) rfl), List.forall_mem_cons.mpr ⟨(gd (tk6 (List.mem_of_getElem? (i := 21) rfl)) rfl), List.forall_mem_cons.mpr ⟨(gd (tk6 (List.mem_of_getElem? (i := 32) rfl)) rfl), List.forall_mem_cons.mpr ⟨(gd (tk6 (List.mem_of_getElem? (i := 37) rfl)) rfl), List.forall_mem_cons.mpr ⟨(gd (tk4 (List.mem_of_getElem? (i := 112) rfl)) rfl), List.forall_mem_cons.mpr ⟨(gd (tk6 (List.mem_of_getElem? (i := 62) rfl)) rfl), List.forall_mem_cons.mpr ⟨(gd (tk6 (List.mem_of_getElem? (i := 74) rfl)) rfl), List.forall_mem_cons.mpr ⟨(gd (tk6 (List.mem_of_getElem? (i := 94) rfl)) rfl), List.forall_mem_cons.mpr ⟨(gd (tk6 (List.mem_of_getElem? (i := 107) rfl)) rfl), List.forall_mem_cons.mpr ⟨(gd (tk6 (List.mem_of_getElem? (i := 108) rfl)) rfl), List.forall_mem_cons.mpr ⟨(gd (tk6 (List.mem_of_getElem? (i := 119) rfl)) rfl), List.forall_mem_cons.mpr ⟨(gd (tk2 (List.mem_of_getElem? (i := 191) rfl)) rfl), List.forall_mem_cons.mpr ⟨(gd (tk2 (List.mem_of_getElem? (i := 211) rfl)) rfl), List.forall_mem_cons.mpr ⟨(gd (tk5 (List.mem_of_getElem? (i := 69) rfl)) rfl), List.forall_mem_cons.mpr ⟨(gd (tk6 (List.mem_of_getElem? (i := 78) rfl)) rfl), List.forall_mem_cons.mpr ⟨(gd (tk6 (List.mem_of_getElem? (i := 82) rfl)) rfl), List.forall_mem_cons.mpr ⟨(gd (tk6 (List.mem_of_getElem? (i := 98) rfl)) rfl), List.forall_mem_cons.mpr ⟨(gd (tk6 (List.mem_of_getElem? (i := 99) rfl)) rfl), List.forall_mem_cons.mpr ⟨(gd (tk4 (List.mem_of_getElem? (i := 23) rfl)) rfl), fun _ h => nomatch h⟩⟩⟩⟩⟩⟩⟩⟩⟩⟩⟩⟩⟩⟩⟩⟩⟩⟩⟩⟩⟩⟩⟩⟩⟩⟩⟩⟩⟩⟩⟩⟩⟩⟩⟩⟩⟩⟩⟩⟩⟩⟩⟩
set_option maxRecDepth 50000 in
theorem mlk_10 : ∀ q ∈ MLT.getD 10 [], COK 10 q := List.forall_mem_cons.mpr ⟨(gd (tk7 (List.mem_of_getElem? (i := 156) rfl)) rfl), List.forall_mem_cons.mpr ⟨(gd (tk7 (List.mem_of_getElem? (i := 152) rfl)) rfl), List.forall_mem_cons.mpr ⟨(gd (tk7 (List.mem_of_getElem? (i := 191) rfl)) rfl), List.forall_mem_cons.mpr ⟨(gd (tk7 (List.mem_of_getElem? (i := 179) rfl)) rfl), List.forall_mem_cons.mpr ⟨(gd (tk7 (List.mem_of_getElem? (i := 141) rfl)) rfl), List.forall_mem_cons.mpr ⟨(gd (tk7 (List.mem_of_getElem? (i := 168) rfl)) rfl), List.forall_mem_cons.mpr ⟨(gd (tk7 (List.mem_of_getElem? (i := 172) rfl)) rfl), List.forall_mem_cons.mpr ⟨(gd (tk7 (List.mem_of_getElem? (i := 164) rfl)) rfl), List.forall_mem_cons.mpr ⟨(gd (tk7 (List.mem_of_getElem? (i := 183) rfl)) rfl), List.forall_mem_cons.mpr ⟨(gd (tk7 (List.mem_of_getElem? (i := 187) rfl)) rfl), List.forall_mem_cons.mpr ⟨(gd (tk7 (List.mem_of_getElem? (i := 211) rfl)) rfl), List.forall_mem_cons.mpr ⟨(gd (tk7 (List.mem_of_getElem? (i := 219) rfl)) rfl), List.forall_mem_cons.mpr ⟨(gd (tk7 (List.mem_of_getElem? (i := 215) rfl)) rfl), List.forall_mem_cons.mpr ⟨(gd (tk7 (List.mem_of_getElem? (i := 227) rfl)) rfl), List.forall_mem_cons.mpr ⟨(gd (tk7 (List.mem_of_getElem? (i := 223) rfl)) rfl), List.forall_mem_cons.mpr ⟨(gd (tk7 (List.mem_of_getElem? (i := 207) rfl)) rfl), List.forall_mem_cons.mpr ⟨(gd (tk7 (List.mem_of_getElem? (i := 199) rfl)) rfl), List.forall_mem_cons.mpr ⟨(gd (tk7 (List.mem_of_getElem? (i := 203) rfl)) rfl), List.forall_mem_cons.mpr ⟨(gd (tk7 (List.mem_of_getElem? (i := 195) rfl)) rfl), List.forall_mem_cons.mpr ⟨(gd (tk7 (List.mem_of_getElem? (i := 175) rfl)) rfl), List.forall_mem_cons.mpr ⟨(gd (tk7 (List.mem_of_getElem? (i := 160) rfl)) rfl), List.forall_mem_cons.mpr ⟨(gd (tk7 (List.mem_of_getElem? (i := 144) rfl)) rfl), List.forall_mem_cons.mpr ⟨(gd (tk7 (List.mem_of_getElem? (i := 148) rfl)) rfl), List.forall_mem_cons.mpr ⟨(gd (tk7 (List.mem_of_getElem? (i := 231) rfl)) rfl), List.forall_mem_cons.mpr ⟨(gd (tk8 (List.mem_of_getElem? (i := 34) rfl)) rfl), List.forall_mem_cons.mpr ⟨(gd (tk8 (List.mem_of_getElem? (i := 27) rfl)) rfl), List.forall_mem_cons.mpr ⟨(gd (tk8 (List.mem_of_getElem? (i := 49) rfl)) rfl), List.forall_mem_cons.mpr ⟨(gd (tk8 (List.mem_of_getElem? (i := 45) rfl)) rfl), List.forall_mem_cons.mpr ⟨(gd (tk8 (List.mem_of_getElem? (i := 68) rfl)) rfl), List.forall_mem_cons.mpr ⟨(gd (tk8 (List.mem_of_getElem? (i := 72) rfl)) rfl), List.forall_mem_cons.mpr ⟨(gd (tk8 (List.mem_of_getElem? (i := 75) rfl)) rfl), List.forall_mem_cons.mpr ⟨(gd (tk8 (List.mem_of_getElem? (i := 79) rfl)) rfl), List.forall_mem_cons.mpr ⟨(gd (tk8 (List.mem_of_getElem? (i := 83) rfl)) rfl), List.forall_mem_cons.mpr ⟨(gd (tk8 (List.mem_of_getElem? (i := 87) rfl)) rfl), List.forall_mem_cons.mpr ⟨(gd (tk8 (List.mem_of_getElem? (i := 91) rfl)) rfl), List.forall_mem_cons.mpr ⟨(gd (tk8 (List.mem_of_getElem? (i := 95) rfl)) rfl), List.forall_mem_cons.mpr ⟨(gd (tk8 (List.mem_of_getElem? (i := 61) rfl)) rfl), List.forall_mem_cons.mpr ⟨(gd (tk8 (List.mem_of_getElem? (i := 41) rfl)) rfl), List.forall_mem_cons.mpr ⟨(gd (tk8 (List.mem_of_getElem? (i := 53) rfl)) rfl), List.forall_mem_cons.mpr ⟨(gd (tk8 (List.mem_of_getElem? (i := 57) rfl)) rfl), List.forall_mem_cons.mpr ⟨(gd (tk8 (List.mem_of_getElem? (i := 64) rfl)) rfl), List.forall_mem_cons.mpr ⟨(gd (tk8 (List.mem_of_getElem? (i := 99) rfl)) rfl), List.forall_mem_cons.mpr ⟨(gd (tk8 (List.mem_of_getElem? (i := 103) rfl)) rfl), List.forall_mem_cons.mpr ⟨(gd (tk8 (List.mem_of_getElem? (i := 23) rfl)) rfl), List.forall_mem_cons.mpr ⟨(gd (tk8 (List.mem_of_getElem? (i := 30) rfl)) rfl), List.forall_mem_cons.mpr ⟨(gd (tk8 (List.mem_of_getElem? (i := 37) rfl)) rfl), List.forall_mem_cons.mpr ⟨(gd (tk8 (List.mem_of_getElem? (i := 15) rfl)) rfl), List.forall_mem_cons.mpr ⟨(gd (tk8 (List.mem_of_getElem? (i := 11) rfl)) rfl), List.forall_mem_cons.mpr ⟨(gd (tk8 (List.mem_of_getElem? (i := 19) rfl)) rfl), List.forall_mem_cons.mpr ⟨(gd (tk8 (List.mem_of_getElem? (i := 118) rfl)) rfl), List.forall_mem_cons.mpr ⟨(gd (tk8 (List.mem_of_getElem? (i := 126) rfl)) rfl), List.forall_mem_cons.mpr ⟨(gd (tk8 (List.mem_of_getElem? (i := 133) rfl)) rfl), List.forall_mem_cons.mpr ⟨(gd (tk8 (List.mem_of_getElem? (i := 145) rfl)) rfl), List.forall_mem_cons.mpr ⟨(gd (tk8 (List.mem_of_getElem? (i := 141) rfl)) rfl), List.forall_mem_cons.mpr ⟨(gd (tk8 (List.mem_of_getElem? (i := 149) rfl)) rfl), List.forall_mem_cons.mpr ⟨(gd (tk8 (List.mem_of_getElem? (i := 153) rfl)) rfl), List.forall_mem_cons.mpr ⟨(gd (tk8 (List.mem_of_getElem? (i := 161) rfl)) rfl), List.forall_mem_cons.mpr ⟨(gd (tk8 (List.mem_of_getElem? (i := 173) rfl)) rfl), List.forall_mem_cons.mpr ⟨(gd (tk8 (List.mem_of_getElem? (i := 169) rfl)) rfl), List.forall_mem_cons.mpr ⟨(gd (tk8 (List.mem_of_getElem? (i := 185) rfl)) rfl), List.forall_mem_cons.mpr ⟨(gd (tk8 (List.mem_of_getElem? (i := 197) rfl)) rfl), List.forall_mem_cons.mpr ⟨(gd (tk8 (List.mem_of_getElem? (i := 189) rfl)) rfl), List.forall_mem_cons.mpr ⟨(gd (tk8 (List.mem_of_getElem? (i := 193) rfl)) rfl), List.forall_mem_cons.mpr ⟨(gd (tk8 (List.mem_of_getElem? (i := 201) rfl)) rfl), List.forall_mem_cons.mpr ⟨(gd (tk8 (List.mem_of_getElem? (i := 213) rfl)) rfl), List.forall_mem_cons.mpr ⟨(gd (tk8 (List.mem_of_getElem? (i := 209) rfl)) rfl), List.forall_mem_cons.mpr ⟨(gd (tk8 (List.mem_of_getElem? (i := 229) rfl)) rfl), List.forall_mem_cons.mpr ⟨(gd (tk9 (List.mem_of_getElem? (i := 5) rfl)) rfl), List.forall_mem_cons.mpr ⟨(gd (tk9 (List.mem_of_getElem? (i := 43) rfl)) rfl), fun _ h => nomatch h⟩⟩⟩⟩⟩⟩⟩⟩⟩⟩⟩⟩⟩⟩⟩⟩⟩⟩⟩⟩⟩⟩⟩⟩⟩⟩⟩⟩⟩⟩⟩⟩⟩⟩⟩⟩⟩⟩⟩⟩⟩⟩⟩⟩⟩⟩⟩⟩⟩⟩⟩⟩⟩⟩⟩⟩⟩⟩⟩⟩⟩⟩⟩⟩⟩⟩⟩⟩⟩
set_option maxRecDepth 50000 in
theorem mlk_11 : ∀ q ∈ MLT.getD 11 [], COK 11 q := List.forall_mem_cons.mpr ⟨(gd (tk3 (List.mem_of_getElem? (i := 95) rfl)) rfl), List.forall_mem_cons.mpr ⟨(gd (tk3 (List.mem_of_getElem? (i := 105) rfl)) rfl), List.forall_mem_cons.mpr ⟨(gd (tk3 (List.mem_of_getElem? (i := 109) rfl)) rfl), fun _ h => nomatch h⟩⟩⟩
set_option maxRecDepth 50000 in
theorem mlk_12 : ∀ q ∈ MLT.getD 12 [], COK 12 q := fun _ h => nomatch h
set_option maxRecDepth 50000 in
theorem mlk_13 : ∀ q ∈ MLT.getD 13 [], COK 13 q := fun _ h => nomatch h
set_option maxRecDepth 50000 in
theorem mlk_14 : ∀ q ∈ MLT.getD 14 [], COK 14 q := fun _ h => nomatch h
set_option maxRecDepth 50000 in
theorem mlk_15 : ∀ q ∈ MLT.getD 15 [], COK 15 q := List.forall_mem_cons.mpr ⟨(gd (tk2 (List.mem_of_getElem? (i := 219) rfl)) rfl), List.forall_mem_cons.mpr ⟨(gd (tk4 (List.mem_of_getElem? (i := 34) rfl)) rfl), List.forall_mem_cons.mpr ⟨(gd (tk4 (List.mem_of_getElem? (i := 43) rfl)) rfl), List.forall_mem_cons.mpr ⟨(gd (tk4 (List.mem_of_getElem? (i := 79) rfl)) rfl), List.forall_mem_cons.mpr ⟨(gd (tk4 (List.mem_of_getElem? (i := 232) rfl)) rfl), List.forall_mem_cons.mpr ⟨(gd (tk5 (List.mem_of_getElem? (i := 8) rfl)) rfl), List.forall_mem_cons.mpr ⟨(gd (tk5 (List.mem_of_getElem? (i := 19) rfl)) rfl), List.forall_mem_cons.mpr ⟨(gd (tk5 (List.mem_of_getElem? (i := 36) rfl)) rfl), List.forall_mem_cons.mpr ⟨(gd (tk5 (List.mem_of_getElem? (i := 54) rfl)) rfl), List.forall_mem_cons.mpr ⟨(gd (tk5 (List.mem_of_getElem? (i := 61) rfl)) rfl), List.forall_mem_cons.mpr ⟨(gd (tk5 (List.mem_of_getElem? (i := 87) rfl)) rfl), List.forall_mem_cons.mpr ⟨(gd (tk5 (List.mem_of_getElem? (i := 108) rfl)) rfl), List.forall_mem_cons.mpr ⟨(gd (tk5 (List.mem_of_getElem? (i := 120) rfl)) rfl), List.forall_mem_cons.mpr ⟨(gd (tk5 (List.mem_of_getElem? (i := 127) rfl)) rfl), List.forall_mem_cons.mpr ⟨(gd (tk5 (List.mem_of_getElem? (i := 168) rfl)) rfl), List.forall_mem_cons.mpr ⟨(gd (tk5 (List.mem_of_getElem? (i := 215) rfl)) rfl), List.forall_mem_cons.mpr ⟨(gd (tk5 (List.mem_of_getElem? (i := 222) rfl)) rfl), List.forall_mem_cons.mpr ⟨(gd (tk5 (List.mem_of_getElem? (i := 229) rfl)) rfl), List.forall_mem_cons.mpr ⟨(gd (tk6 (List.mem_of_getElem? (i := 6) rfl)) rfl), List.forall_mem_cons.mpr ⟨(gd (tk6 (List.mem_of_getElem? (i := 17) rfl)) rfl), List.forall_mem_cons.mpr ⟨(gd (tk6 (List.mem_of_getElem? (i := 28) rfl)) rfl), List.forall_mem_cons.mpr ⟨(gd (tk6 (List.mem_of_getElem? (i := 49) rfl)) rfl), List.forall_mem_cons.mpr ⟨(gd (tk6 (List.mem_of_getElem? (i := 57) rfl)) rfl), List.forall_mem_cons.mpr ⟨(gd (tk6 (List.mem_of_getElem? (i := 69) rfl)) rfl), List.forall_mem_cons.mpr ⟨(gd (tk6 (List.mem_of_getElem? (i := 89) rfl)) rfl), List.forall_mem_cons.mpr ⟨(gd (tk6 (List.mem_of_getElem? (i := 103) rfl)) rfl), List.forall_mem_cons.mpr ⟨(gd (tk6 (List.mem_of_getElem? (i := 115) rfl)) rfl), List.forall_mem_cons.mpr ⟨(gd (tk2 (List.mem_of_getElem? (i := 175) rfl)) rfl), List.forall_mem_cons.mpr ⟨(gd (tk7 (List.mem_of_getElem? (i := 133) rfl)) rfl), List.forall_mem_cons.mpr ⟨(gd (tk2 (List.mem_of_getElem? (i := 215) rfl)) rfl), List.forall_mem_cons.mpr ⟨(gd (tk7 (List.mem_of_getElem? (i := 137) rfl)) rfl), List.forall_mem_cons.mpr ⟨(gd (tk7 (List.mem_of_getElem? (i := 129) rfl)) rfl), List.forall_mem_cons.mpr ⟨(gd (tk2 (List.mem_of_getElem? (i := 183) rfl)) rfl), List.forall_mem_cons.mpr ⟨(gd (tk7 (List.mem_of_getElem? (i := 235) rfl)) rfl), List.forall_mem_cons.mpr ⟨(gd (tk4 (List.mem_of_getElem? (i := 31) rfl)) rfl), List.forall_mem_cons.mpr ⟨(gd (tk7 (List.mem_of_getElem? (i := 239) rfl)) rfl), List.forall_mem_cons.mpr ⟨(gd (tk4 (List.mem_of_getElem? (i := 39) rfl)) rfl), List.forall_mem_cons.mpr ⟨(gd (tk8 (List.mem_of_getElem? (i := 3) rfl)) rfl), List.forall_mem_cons.mpr ⟨(gd (tk4 (List.mem_of_getElem? (i := 75) rfl)) rfl), List.forall_mem_cons.mpr ⟨(gd (tk8 (List.mem_of_getElem? (i := 7) rfl)) rfl), List.forall_mem_cons.mpr ⟨(gd (tk4 (List.mem_of_getElem? (i := 229) rfl)) rfl), List.forall_mem_cons.mpr ⟨(gd (tk8 (List.mem_of_getElem? (i := 106) rfl)) rfl), List.forall_mem_cons.mpr ⟨(gd (tk5 (List.mem_of_getElem? (i := 5) rfl)) rfl), List.forall_mem_cons.mpr ⟨(gd (tk8 (List.mem_of_getElem? (i := 110) rfl)) rfl), List.forall_mem_cons.mpr ⟨(gd (tk5 (List.mem_of_getElem? (i := 16) rfl)) rfl), List.forall_mem_cons.mpr ⟨(gd (tk8 (List.mem_of_getElem? (i := 114) rfl)) rfl), List.forall_mem_cons.mpr ⟨(gd (tk5 (List.mem_of_getElem? (i := 33) rfl)) rfl), List.forall_mem_cons.mpr ⟨(gd (tk8 (List.mem_of_getElem? (i := 122) rfl)) rfl), List.forall_mem_cons.mpr ⟨(gd (tk5 (List.mem_of_getElem? (i := 51) rfl)) rfl), List.forall_mem_cons.mpr ⟨(gd (tk8 (List.mem_of_getElem? (i := 129) rfl)) rfl), List.forall_mem_cons.mpr ⟨(gd (tk5 (List.mem_of_getElem? (i := 58) rfl)) rfl), List.forall_mem_cons.mpr ⟨(gd (tk8 (List.mem_of_getElem? (i := 137) rfl)) rfl), List.forall_mem_cons.mpr ⟨(gd (tk5 (List.mem_of_getElem? (i := 84) rfl)) rfl), List.forall_mem_cons.mpr ⟨(gd (tk8 (List.mem_of_getElem? (i := 157) rfl)) rfl), List.forall_mem_cons.mpr ⟨(gd (tk5 (List.mem_of_getElem? (i := 105) rfl)) rfl), List.forall_mem_cons.mpr ⟨(gd (tk8 (List.mem_of_getElem? (i := 165) rfl)) rfl), List.forall_mem_cons.mpr ⟨(gd (tk5 (List.mem_of_getElem? (i := 117) rfl)) rfl), List.forall_mem_cons.mpr ⟨(gd (tk8 (List.mem_of_getElem? (i := 177) rfl)) rfl), List.forall_mem_cons.mpr ⟨(gd (tk5 (List.mem_of_getElem? (i := 124) rfl)) rfl), List.forall_mem_cons.mpr ⟨(gd (tk8 (List.mem_of_getElem? (i := 181) rfl)) rfl), List.forall_mem_cons.mpr ⟨(gd (tk5 (List.mem_of_getElem? (i := 165) rfl)) rfl), List.forall_mem_cons.mpr ⟨(gd (tk8 (List.mem_of_getElem? (i := 205) rfl)) rfl), List.forall_mem_cons.mpr ⟨(gd (tk5 (List.mem_of_getElem? (i := 212) rfl)) rfl), List.forall_mem_cons.mpr ⟨(gd (tk8 (List.mem_of_getElem? (i := 217) rfl)) rfl), List.forall_mem_cons.mpr ⟨(gd (tk5 (List.mem_of_getElem? (i := 219) rfl)) rfl), List.forall_mem_cons.mpr ⟨(gd (tk8 (List.mem_of_getElem? (i := 221) rfl)) rfl), List.forall_mem_cons.mpr ⟨(gd (tk5 (List.mem_of_getElem? (i := 226) rfl)) rfl), List.forall_mem_cons.mpr ⟨(gd (tk8 (List.mem_of_getElem? (i := 225) rfl)) rfl), List.forall_mem_cons.mpr ⟨(gd (tk6 (List.mem_of_getElem? (i := 3) rfl)) rfl), List.forall_mem_cons.mpr ⟨(gd (tk8 (List.mem_of_getElem? (i := 233) rfl)) rfl), List.forall_mem_cons.mpr ⟨(gd (tk6 (List.mem_of_getElem? (i := 14) rfl)) rfl), List.forall_mem_cons.mpr ⟨(gd (tk8 (List.mem_of_getElem? (i := 237) rfl)) rfl), List.forall_mem_cons.mpr ⟨(gd (tk6 (List.mem_of_getElem? (i := 25) rfl)) rfl), List.forall_mem_cons.mpr ⟨(gd (tk9 (List.mem_of_getElem? (i := 1) rfl)) rfl), List.forall_mem_cons.mpr ⟨(gd (tk6 (List.mem_of_getElem? (i := 46) rfl)) rfl), List.forall_mem_cons.mpr ⟨(gd (tk9 (List.mem_of_getElem? (i := 9) rfl)) rfl), List.forall_mem_cons.mpr ⟨(gd (tk6 (List.mem_of_getElem? (i := 54) rfl)) rfl), List.forall_mem_cons.mpr ⟨(gd (tk9 (List.mem_of_getElem? (i := 14) rfl)) rfl), List.forall_mem_cons.mpr ⟨(gd (tk6 (List.mem_of_getElem? (i := 66) rfl)) rfl), List.forall_mem_cons.mpr ⟨(gd (tk9 (List.mem_of_getElem? (i := 18) rfl)) rfl), List.forall_mem_cons.mpr ⟨(gd (tk6 (List.mem_of_getElem? (i := 86) rfl)) rfl), List.forall_mem_cons.mpr ⟨(gd (tk9 (List.mem_of_getElem? (i := 22) rfl)) rfl), List.forall_mem_cons.mpr ⟨(gd (tk6 (List.mem_of_getElem? (i := 100) rfl)) rfl), List.forall_mem_cons.mpr ⟨(gd (tk9 (List.mem_of_getElem? (i := 26) rfl)) rfl), List.forall_mem_cons.mpr ⟨(gd (tk6 (List.mem_of_getElem? (i := 112) rfl)) rfl), List.forall_mem_cons.mpr ⟨(gd (tk9 (List.mem_of_getElem? (i := 30) rfl)) rfl), List.forall_mem_cons.mpr ⟨(gd (tk2 (List.mem_of_getElem? (i := 187) rfl)) rfl), List.forall_mem_cons.mpr ⟨(gd (tk9 (List.mem_of_getElem? (i := 35) rfl)) rfl), List.forall_mem_cons.mpr ⟨(gd (tk2 (List.mem_of_getElem? (i := 203) rfl)) rfl), List.forall_mem_cons.mpr ⟨(gd (tk9 (List.mem_of_getElem? (i := 39) rfl)) rfl), List.forall_mem_cons.mpr ⟨(gd (tk2 (List.mem_of_getElem? (i := 207) rfl)) rfl), List.forall_mem_cons.mpr ⟨(gd (tk9 (List.mem_of_getElem? (i := 47) rfl)) rfl), fun _ h => nomatch h⟩⟩⟩⟩⟩⟩⟩⟩⟩⟩⟩⟩⟩⟩⟩⟩⟩⟩⟩⟩⟩⟩⟩⟩⟩⟩⟩⟩⟩⟩⟩⟩⟩⟩⟩⟩⟩⟩⟩⟩⟩⟩⟩⟩⟩⟩⟩⟩⟩⟩⟩⟩⟩⟩⟩⟩⟩⟩⟩⟩⟩⟩⟩⟩⟩⟩⟩⟩⟩⟩⟩⟩⟩⟩⟩⟩⟩⟩⟩⟩⟩⟩⟩⟩⟩⟩⟩⟩⟩⟩⟩⟩
theorem mlk : ∀ o, o < 16 → ∀ q ∈ MLT.getD o [], COK o q := fun o ho => match o, ho with
  | 0, _ => mlk_0
  | 1, _ => mlk_1
  | 2, _ => mlk_2
  | 3, _ => mlk_3
  | 4, _ => mlk_4
  | 5, _ => mlk_5
  | 6, _ => mlk_6
  | 7, _ => mlk_7
  | 8, _ => mlk_8
  | 9, _ => mlk_9
  | 10, _ => mlk_10
  | 11, _ => mlk_11
  | 12, _ => mlk_12
  | 13, _ => mlk_13
  | 14, _ => mlk_14
  | 15, _ => mlk_15
  | n + 16, h => absurd h (by omega)
def SLT : List (List (Nat × Nat × Nat)) := [[(88, 117, 1)],
  [],
  [],
  [],
  [(70, 116, 1)],
  [],
  [],
  [(66, 116, 1)],
  [(47, 117, 1), (86, 116, 1)],
  [(196, 116, 0)],
  [],
  [(38, 0, 0)],
  [],
  [],
  [],
  []]
def sfld (a : Nat) : String × String × String := if a = 116 then ("PatentRaces", "STATE_UNIT", "[I") else if a = 117 then ("PatentRaces", "ROW_UNIT", "[I") else ("java/lang/String", "COMPACT_STRINGS", "Z")
def SOK (o : Nat) (q : Nat × Nat × Nat) : Prop := if q.2.2 = 1 then Cond.fieldLinkNest (own' o) q.1 (sfld q.2.1).1 (sfld q.2.1).2.1 (sfld q.2.1).2.2 "PatentRaces" ∈ lw_tbl else Cond.fieldLink (own' o) q.1 (sfld q.2.1).1 (sfld q.2.1).2.1 (sfld q.2.1).2.2 ∈ gtbl
set_option maxRecDepth 50000 in
theorem slk_0 : ∀ q ∈ SLT.getD 0 [], SOK 0 q := List.forall_mem_cons.mpr ⟨(tk4 (List.mem_of_getElem? (i := 202) rfl)), fun _ h => nomatch h⟩
set_option maxRecDepth 50000 in
theorem slk_1 : ∀ q ∈ SLT.getD 1 [], SOK 1 q := fun _ h => nomatch h
set_option maxRecDepth 50000 in
theorem slk_2 : ∀ q ∈ SLT.getD 2 [], SOK 2 q := fun _ h => nomatch h
set_option maxRecDepth 50000 in
theorem slk_3 : ∀ q ∈ SLT.getD 3 [], SOK 3 q := fun _ h => nomatch h
set_option maxRecDepth 50000 in
theorem slk_4 : ∀ q ∈ SLT.getD 4 [], SOK 4 q := List.forall_mem_cons.mpr ⟨(tk4 (List.mem_of_getElem? (i := 18) rfl)), fun _ h => nomatch h⟩
set_option maxRecDepth 50000 in
theorem slk_5 : ∀ q ∈ SLT.getD 5 [], SOK 5 q := fun _ h => nomatch h
set_option maxRecDepth 50000 in
theorem slk_6 : ∀ q ∈ SLT.getD 6 [], SOK 6 q := fun _ h => nomatch h
set_option maxRecDepth 50000 in
theorem slk_7 : ∀ q ∈ SLT.getD 7 [], SOK 7 q := List.forall_mem_cons.mpr ⟨(tk5 (List.mem_of_getElem? (i := 142) rfl)), fun _ h => nomatch h⟩
set_option maxRecDepth 50000 in
theorem slk_8 : ∀ q ∈ SLT.getD 8 [], SOK 8 q := List.forall_mem_cons.mpr ⟨(tk4 (List.mem_of_getElem? (i := 142) rfl)), List.forall_mem_cons.mpr ⟨(tk4 (List.mem_of_getElem? (i := 151) rfl)), fun _ h => nomatch h⟩⟩
set_option maxRecDepth 50000 in
theorem slk_9 : ∀ q ∈ SLT.getD 9 [], SOK 9 q := List.forall_mem_cons.mpr ⟨(gd (tk4 (List.mem_of_getElem? (i := 227) rfl)) rfl), fun _ h => nomatch h⟩
set_option maxRecDepth 50000 in
theorem slk_10 : ∀ q ∈ SLT.getD 10 [], SOK 10 q := fun _ h => nomatch h
set_option maxRecDepth 50000 in
theorem slk_11 : ∀ q ∈ SLT.getD 11 [], SOK 11 q := List.forall_mem_cons.mpr ⟨(gd (tk3 (List.mem_of_getElem? (i := 99) rfl)) rfl), fun _ h => nomatch h⟩
set_option maxRecDepth 50000 in
theorem slk_12 : ∀ q ∈ SLT.getD 12 [], SOK 12 q := fun _ h => nomatch h
set_option maxRecDepth 50000 in
theorem slk_13 : ∀ q ∈ SLT.getD 13 [], SOK 13 q := fun _ h => nomatch h
set_option maxRecDepth 50000 in
theorem slk_14 : ∀ q ∈ SLT.getD 14 [], SOK 14 q := fun _ h => nomatch h
set_option maxRecDepth 50000 in
theorem slk_15 : ∀ q ∈ SLT.getD 15 [], SOK 15 q := fun _ h => nomatch h
theorem slk : ∀ o, o < 16 → ∀ q ∈ SLT.getD o [], SOK o q := fun o ho => match o, ho with
  | 0, _ => slk_0
  | 1, _ => slk_1
  | 2, _ => slk_2
  | 3, _ => slk_3
  | 4, _ => slk_4
  | 5, _ => slk_5
  | 6, _ => slk_6
  | 7, _ => slk_7
  | 8, _ => slk_8
  | 9, _ => slk_9
  | 10, _ => slk_10
  | 11, _ => slk_11
  | 12, _ => slk_12
  | 13, _ => slk_13
  | 14, _ => slk_14
  | 15, _ => slk_15
  | n + 16, h => absurd h (by omega)
def KIT : List (List (Nat × Int)) := [[],
  [(109, 1103515245)],
  [],
  [],
  [],
  [],
  [],
  [],
  [],
  [],
  [(180, 100000), (476, 1103515245)],
  [],
  [],
  [(265, 1431655765), (266, 858993459), (267, 252645135)],
  [],
  []]
def IOK (o : Nat) (q : Nat × Int) : Prop := inR q.2 ∧ Cond.constant (own' o) q.1 (Int32.ofInt q.2) ∈ gtbl
set_option maxRecDepth 50000 in
theorem kik_0 : ∀ q ∈ KIT.getD 0 [], IOK 0 q := fun _ h => nomatch h
set_option maxRecDepth 50000 in
theorem kik_1 : ∀ q ∈ KIT.getD 1 [], IOK 1 q := List.forall_mem_cons.mpr ⟨⟨⟨by decide, by decide⟩, (gd (tk6 (List.mem_of_getElem? (i := 123) rfl)) rfl)⟩, fun _ h => nomatch h⟩
set_option maxRecDepth 50000 in
theorem kik_2 : ∀ q ∈ KIT.getD 2 [], IOK 2 q := fun _ h => nomatch h
set_option maxRecDepth 50000 in
theorem kik_3 : ∀ q ∈ KIT.getD 3 [], IOK 3 q := fun _ h => nomatch h
set_option maxRecDepth 50000 in
theorem kik_4 : ∀ q ∈ KIT.getD 4 [], IOK 4 q := fun _ h => nomatch h
set_option maxRecDepth 50000 in
theorem kik_5 : ∀ q ∈ KIT.getD 5 [], IOK 5 q := fun _ h => nomatch h
set_option maxRecDepth 50000 in
theorem kik_6 : ∀ q ∈ KIT.getD 6 [], IOK 6 q := fun _ h => nomatch h
set_option maxRecDepth 50000 in
theorem kik_7 : ∀ q ∈ KIT.getD 7 [], IOK 7 q := fun _ h => nomatch h
set_option maxRecDepth 50000 in
theorem kik_8 : ∀ q ∈ KIT.getD 8 [], IOK 8 q := fun _ h => nomatch h
set_option maxRecDepth 50000 in
theorem kik_9 : ∀ q ∈ KIT.getD 9 [], IOK 9 q := fun _ h => nomatch h
set_option maxRecDepth 50000 in
theorem kik_10 : ∀ q ∈ KIT.getD 10 [], IOK 10 q := List.forall_mem_cons.mpr ⟨⟨⟨by decide, by decide⟩, (gd (tk7 (List.mem_of_getElem? (i := 194) rfl)) rfl)⟩, List.forall_mem_cons.mpr ⟨⟨⟨by decide, by decide⟩, (gd (tk9 (List.mem_of_getElem? (i := 34) rfl)) rfl)⟩, fun _ h => nomatch h⟩⟩
set_option maxRecDepth 50000 in
theorem kik_11 : ∀ q ∈ KIT.getD 11 [], IOK 11 q := fun _ h => nomatch h
set_option maxRecDepth 50000 in
theorem kik_12 : ∀ q ∈ KIT.getD 12 [], IOK 12 q := fun _ h => nomatch h
set_option maxRecDepth 50000 in
theorem kik_13 : ∀ q ∈ KIT.getD 13 [], IOK 13 q := List.forall_mem_cons.mpr ⟨⟨⟨by decide, by decide⟩, (gd (tk4 (List.mem_of_getElem? (i := 178) rfl)) rfl)⟩, List.forall_mem_cons.mpr ⟨⟨⟨by decide, by decide⟩, (gd (tk4 (List.mem_of_getElem? (i := 179) rfl)) rfl)⟩, List.forall_mem_cons.mpr ⟨⟨⟨by decide, by decide⟩, (gd (tk4 (List.mem_of_getElem? (i := 180) rfl)) rfl)⟩, fun _ h => nomatch h⟩⟩⟩
set_option maxRecDepth 50000 in
theorem kik_14 : ∀ q ∈ KIT.getD 14 [], IOK 14 q := fun _ h => nomatch h
set_option maxRecDepth 50000 in
theorem kik_15 : ∀ q ∈ KIT.getD 15 [], IOK 15 q := fun _ h => nomatch h
theorem kik : ∀ o, o < 16 → ∀ q ∈ KIT.getD o [], IOK o q := fun o ho => match o, ho with
  | 0, _ => kik_0
  | 1, _ => kik_1
  | 2, _ => kik_2
  | 3, _ => kik_3
  | 4, _ => kik_4
  | 5, _ => kik_5
  | 6, _ => kik_6
  | 7, _ => kik_7
  | 8, _ => kik_8
  | 9, _ => kik_9
  | 10, _ => kik_10
  | 11, _ => kik_11
  | 12, _ => kik_12
  | 13, _ => kik_13
  | 14, _ => kik_14
  | 15, _ => kik_15
  | n + 16, h => absurd h (by omega)
def KLT : List (List (Nat × Int)) := [[],
  [],
  [],
  [],
  [],
  [],
  [],
  [(88, 4)],
  [(117, 4)],
  [(258, (-1))],
  [(471, (-1))],
  [],
  [],
  [],
  [],
  []]
def JOK (o : Nat) (q : Nat × Int) : Prop := Cond.constantLong (own' o) q.1 (Int64.ofInt q.2) ∈ gtbl
set_option maxRecDepth 50000 in
theorem klk_0 : ∀ q ∈ KLT.getD 0 [], JOK 0 q := fun _ h => nomatch h
set_option maxRecDepth 50000 in
theorem klk_1 : ∀ q ∈ KLT.getD 1 [], JOK 1 q := fun _ h => nomatch h
set_option maxRecDepth 50000 in
theorem klk_2 : ∀ q ∈ KLT.getD 2 [], JOK 2 q := fun _ h => nomatch h
set_option maxRecDepth 50000 in
theorem klk_3 : ∀ q ∈ KLT.getD 3 [], JOK 3 q := fun _ h => nomatch h
set_option maxRecDepth 50000 in
theorem klk_4 : ∀ q ∈ KLT.getD 4 [], JOK 4 q := fun _ h => nomatch h
set_option maxRecDepth 50000 in
theorem klk_5 : ∀ q ∈ KLT.getD 5 [], JOK 5 q := fun _ h => nomatch h
set_option maxRecDepth 50000 in
theorem klk_6 : ∀ q ∈ KLT.getD 6 [], JOK 6 q := fun _ h => nomatch h
set_option maxRecDepth 50000 in
theorem klk_7 : ∀ q ∈ KLT.getD 7 [], JOK 7 q := List.forall_mem_cons.mpr ⟨(gd (tk5 (List.mem_of_getElem? (i := 162) rfl)) rfl), fun _ h => nomatch h⟩
set_option maxRecDepth 50000 in
theorem klk_8 : ∀ q ∈ KLT.getD 8 [], JOK 8 q := List.forall_mem_cons.mpr ⟨(gd (tk4 (List.mem_of_getElem? (i := 192) rfl)) rfl), fun _ h => nomatch h⟩
set_option maxRecDepth 50000 in
theorem klk_9 : ∀ q ∈ KLT.getD 9 [], JOK 9 q := List.forall_mem_cons.mpr ⟨(gd (tk6 (List.mem_of_getElem? (i := 53) rfl)) rfl), fun _ h => nomatch h⟩
set_option maxRecDepth 50000 in
theorem klk_10 : ∀ q ∈ KLT.getD 10 [], JOK 10 q := List.forall_mem_cons.mpr ⟨(gd (tk9 (List.mem_of_getElem? (i := 13) rfl)) rfl), fun _ h => nomatch h⟩
set_option maxRecDepth 50000 in
theorem klk_11 : ∀ q ∈ KLT.getD 11 [], JOK 11 q := fun _ h => nomatch h
set_option maxRecDepth 50000 in
theorem klk_12 : ∀ q ∈ KLT.getD 12 [], JOK 12 q := fun _ h => nomatch h
set_option maxRecDepth 50000 in
theorem klk_13 : ∀ q ∈ KLT.getD 13 [], JOK 13 q := fun _ h => nomatch h
set_option maxRecDepth 50000 in
theorem klk_14 : ∀ q ∈ KLT.getD 14 [], JOK 14 q := fun _ h => nomatch h
set_option maxRecDepth 50000 in
theorem klk_15 : ∀ q ∈ KLT.getD 15 [], JOK 15 q := fun _ h => nomatch h
theorem klk : ∀ o, o < 16 → ∀ q ∈ KLT.getD o [], JOK o q := fun o ho => match o, ho with
  | 0, _ => klk_0
  | 1, _ => klk_1
  | 2, _ => klk_2
  | 3, _ => klk_3
  | 4, _ => klk_4
  | 5, _ => klk_5
  | 6, _ => klk_6
  | 7, _ => klk_7
  | 8, _ => klk_8
  | 9, _ => klk_9
  | 10, _ => klk_10
  | 11, _ => klk_11
  | 12, _ => klk_12
  | 13, _ => klk_13
  | 14, _ => klk_14
  | 15, _ => klk_15
  | n + 16, h => absurd h (by omega)
def KST : List (List (Nat × Nat)) := [[],
  [],
  [],
  [],
  [],
  [(82, 12), (92, 13), (100, 14), (104, 15), (108, 16), (112, 17), (120, 18), (128, 19), (132, 20), (140, 21), (147, 22), (155, 23), (157, 24), (180, 25), (182, 26), (184, 27)],
  [],
  [],
  [],
  [(86, 0), (138, 1), (187, 2), (211, 3), (260, 4), (265, 5), (280, 6), (322, 7), (327, 8), (330, 9), (332, 10), (334, 11)],
  [],
  [],
  [],
  [],
  [],
  []]
def strN : List String := ["not so many bytes on the tape", "no such what", "no such rule", "no such doing", "no such prize", "no such coin", "no such fee", "there is no race", "no such shop", "they are one", "no such state", "no such weeks or steps", "shop", "prize", "second", "weeks", "learn", "behind", "sell", "leave", "pace", "at", "or", "and", "not", "own", "next", "week"]
def TOK (o : Nat) (q : Nat × Nat) : Prop := q.2 < 28 ∧ Cond.stringRef (own' o) q.1 (strN.getD q.2 "") ∈ lw_tbl
set_option maxRecDepth 50000 in
theorem ksk_0 : ∀ q ∈ KST.getD 0 [], TOK 0 q := fun _ h => nomatch h
set_option maxRecDepth 50000 in
theorem ksk_1 : ∀ q ∈ KST.getD 1 [], TOK 1 q := fun _ h => nomatch h
set_option maxRecDepth 50000 in
theorem ksk_2 : ∀ q ∈ KST.getD 2 [], TOK 2 q := fun _ h => nomatch h
set_option maxRecDepth 50000 in
theorem ksk_3 : ∀ q ∈ KST.getD 3 [], TOK 3 q := fun _ h => nomatch h
set_option maxRecDepth 50000 in
theorem ksk_4 : ∀ q ∈ KST.getD 4 [], TOK 4 q := fun _ h => nomatch h
set_option maxRecDepth 50000 in
theorem ksk_5 : ∀ q ∈ KST.getD 5 [], TOK 5 q := List.forall_mem_cons.mpr ⟨⟨by decide, (tk3 (List.mem_of_getElem? (i := 79) rfl))⟩, List.forall_mem_cons.mpr ⟨⟨by decide, (tk3 (List.mem_of_getElem? (i := 163) rfl))⟩, List.forall_mem_cons.mpr ⟨⟨by decide, (tk3 (List.mem_of_getElem? (i := 164) rfl))⟩, List.forall_mem_cons.mpr ⟨⟨by decide, (tk3 (List.mem_of_getElem? (i := 165) rfl))⟩, List.forall_mem_cons.mpr ⟨⟨by decide, (tk3 (List.mem_of_getElem? (i := 166) rfl))⟩, List.forall_mem_cons.mpr ⟨⟨by decide, (tk3 (List.mem_of_getElem? (i := 167) rfl))⟩, List.forall_mem_cons.mpr ⟨⟨by decide, (tk3 (List.mem_of_getElem? (i := 168) rfl))⟩, List.forall_mem_cons.mpr ⟨⟨by decide, (tk3 (List.mem_of_getElem? (i := 223) rfl))⟩, List.forall_mem_cons.mpr ⟨⟨by decide, (tk3 (List.mem_of_getElem? (i := 157) rfl))⟩, List.forall_mem_cons.mpr ⟨⟨by decide, (tk3 (List.mem_of_getElem? (i := 158) rfl))⟩, List.forall_mem_cons.mpr ⟨⟨by decide, (tk3 (List.mem_of_getElem? (i := 222) rfl))⟩, List.forall_mem_cons.mpr ⟨⟨by decide, (tk3 (List.mem_of_getElem? (i := 221) rfl))⟩, List.forall_mem_cons.mpr ⟨⟨by decide, (tk3 (List.mem_of_getElem? (i := 185) rfl))⟩, List.forall_mem_cons.mpr ⟨⟨by decide, (tk3 (List.mem_of_getElem? (i := 214) rfl))⟩, List.forall_mem_cons.mpr ⟨⟨by decide, (tk3 (List.mem_of_getElem? (i := 215) rfl))⟩, List.forall_mem_cons.mpr ⟨⟨by decide, (tk3 (List.mem_of_getElem? (i := 216) rfl))⟩, fun _ h => nomatch h⟩⟩⟩⟩⟩⟩⟩⟩⟩⟩⟩⟩⟩⟩⟩⟩
set_option maxRecDepth 50000 in
theorem ksk_6 : ∀ q ∈ KST.getD 6 [], TOK 6 q := fun _ h => nomatch h
set_option maxRecDepth 50000 in
theorem ksk_7 : ∀ q ∈ KST.getD 7 [], TOK 7 q := fun _ h => nomatch h
set_option maxRecDepth 50000 in
theorem ksk_8 : ∀ q ∈ KST.getD 8 [], TOK 8 q := fun _ h => nomatch h
set_option maxRecDepth 50000 in
theorem ksk_9 : ∀ q ∈ KST.getD 9 [], TOK 9 q := List.forall_mem_cons.mpr ⟨⟨by decide, (tk3 (List.mem_of_getElem? (i := 24) rfl))⟩, List.forall_mem_cons.mpr ⟨⟨by decide, (tk4 (List.mem_of_getElem? (i := 38) rfl))⟩, List.forall_mem_cons.mpr ⟨⟨by decide, (tk5 (List.mem_of_getElem? (i := 40) rfl))⟩, List.forall_mem_cons.mpr ⟨⟨by decide, (tk5 (List.mem_of_getElem? (i := 131) rfl))⟩, List.forall_mem_cons.mpr ⟨⟨by decide, (tk6 (List.mem_of_getElem? (i := 61) rfl))⟩, List.forall_mem_cons.mpr ⟨⟨by decide, (tk6 (List.mem_of_getElem? (i := 73) rfl))⟩, List.forall_mem_cons.mpr ⟨⟨by decide, (tk6 (List.mem_of_getElem? (i := 93) rfl))⟩, List.forall_mem_cons.mpr ⟨⟨by decide, (tk4 (List.mem_of_getElem? (i := 96) rfl))⟩, List.forall_mem_cons.mpr ⟨⟨by decide, (tk4 (List.mem_of_getElem? (i := 60) rfl))⟩, List.forall_mem_cons.mpr ⟨⟨by decide, (tk6 (List.mem_of_getElem? (i := 36) rfl))⟩, List.forall_mem_cons.mpr ⟨⟨by decide, (tk4 (List.mem_of_getElem? (i := 107) rfl))⟩, List.forall_mem_cons.mpr ⟨⟨by decide, (tk5 (List.mem_of_getElem? (i := 116) rfl))⟩, fun _ h => nomatch h⟩⟩⟩⟩⟩⟩⟩⟩⟩⟩⟩⟩
set_option maxRecDepth 50000 in
theorem ksk_10 : ∀ q ∈ KST.getD 10 [], TOK 10 q := fun _ h => nomatch h
set_option maxRecDepth 50000 in
theorem ksk_11 : ∀ q ∈ KST.getD 11 [], TOK 11 q := fun _ h => nomatch h
set_option maxRecDepth 50000 in
theorem ksk_12 : ∀ q ∈ KST.getD 12 [], TOK 12 q := fun _ h => nomatch h
set_option maxRecDepth 50000 in
theorem ksk_13 : ∀ q ∈ KST.getD 13 [], TOK 13 q := fun _ h => nomatch h
set_option maxRecDepth 50000 in
theorem ksk_14 : ∀ q ∈ KST.getD 14 [], TOK 14 q := fun _ h => nomatch h
set_option maxRecDepth 50000 in
theorem ksk_15 : ∀ q ∈ KST.getD 15 [], TOK 15 q := fun _ h => nomatch h
theorem ksk : ∀ o, o < 16 → ∀ q ∈ KST.getD o [], TOK o q := fun o ho => match o, ho with
  | 0, _ => ksk_0
  | 1, _ => ksk_1
  | 2, _ => ksk_2
  | 3, _ => ksk_3
  | 4, _ => ksk_4
  | 5, _ => ksk_5
  | 6, _ => ksk_6
  | 7, _ => ksk_7
  | 8, _ => ksk_8
  | 9, _ => ksk_9
  | 10, _ => ksk_10
  | 11, _ => ksk_11
  | 12, _ => ksk_12
  | 13, _ => ksk_13
  | 14, _ => ksk_14
  | 15, _ => ksk_15
  | n + 16, h => absurd h (by omega)
def nwk : Cond → Bool
  | .methodLinkNest .. => true
  | .fieldLinkNest .. => true
  | .declares _ => true
  | .castable .. => true
  | _ => false
/-- rows of handlers, of the methods that have them -/
def HHT : List (Nat × List (Nat × Nat × Nat × Nat)) := [(251, [(0, 9, 12, 13)]), (252, [(0, 9, 12, 13)]), (253, [(0, 10, 13, 22), (0, 10, 17, 13)]), (254, [(0, 13, 16, 28), (0, 13, 20, 22), (0, 13, 24, 13)]), (255, [(0, 14, 17, 28), (0, 14, 21, 22), (0, 14, 25, 13)]), (256, [(0, 11, 14, 28), (0, 11, 18, 13)]), (257, [(0, 8, 11, 28)]), (258, [(0, 14, 17, 22), (0, 14, 21, 13)]), (259, [(0, 8, 11, 28)]), (260, [(0, 8, 11, 28), (0, 8, 14, 22)]), (261, [(0, 8, 11, 28)]), (262, [(0, 11, 14, 28), (0, 11, 18, 22), (0, 11, 22, 13)]), (263, [(0, 12, 15, 28), (0, 12, 19, 22), (0, 12, 23, 13)]), (264, [(0, 9, 12, 28), (0, 9, 16, 22), (0, 9, 20, 13)]), (265, [(0, 8, 11, 28), (0, 8, 14, 22)]), (266, [(0, 7, 10, 28)]), (267, [(0, 7, 10, 28)]), (268, [(0, 8, 11, 28)]), (269, [(0, 8, 11, 28)]), (270, [(0, 9, 12, 28), (0, 9, 15, 22)]), (271, [(0, 9, 12, 28), (0, 9, 16, 22), (0, 9, 20, 13)]), (272, [(0, 9, 12, 28), (0, 9, 16, 22), (0, 9, 20, 13)]), (273, [(0, 9, 12, 13)]), (274, [(0, 9, 12, 28), (0, 9, 15, 13)]), (275, [(0, 9, 12, 28), (0, 9, 15, 13)]), (276, [(0, 8, 11, 28)]), (277, [(0, 10, 13, 28), (0, 10, 17, 13)])]
def hhs (q : Nat) : List (Nat × Nat × Nat × Nat) := match HHT.find? (fun x => x.1 == q) with
  | some x => x.2
  | none => []
def mcode (q : Nat) : Cond := match hhs q with
  | [] => Cond.code (mi q).1 (mi q).2.1 (mi q).2.2.1 (mi q).2.2.2.1
  | r :: rs => Cond.codeWith (mi q).1 (mi q).2.1 (mi q).2.2.1 (mi q).2.2.2.1 (r :: rs)
def QOK (q : Nat) : Prop := mcode q ∈ gtbl ∧ Cond.initialized (mi q).1.cls ∈ gtbl ∧ (if (mi q).2.2.2.2.2 = 1 then Cond.static (mi q).1 ∈ gtbl else Cond.instanceMethod (mi q).1 ∈ gtbl ∧ Cond.selects (mi q).1.cls (mi q).1 (mi q).1 ∈ gtbl) ∧ own' (mi q).2.2.2.2.1 = (mi q).1.cls
set_option maxRecDepth 50000 in
theorem qk_PR_feed : QOK qPR_feed := ⟨(gd (tk2 (List.mem_of_getElem? (i := 178) rfl)) rfl), (gd (tk1 (List.mem_of_getElem? (i := 1) rfl)) rfl), ⟨(gd (tk2 (List.mem_of_getElem? (i := 176) rfl)) rfl), (gd (tk2 (List.mem_of_getElem? (i := 177) rfl)) rfl)⟩, rfl⟩
set_option maxRecDepth 50000 in
theorem qk_PR_race : QOK qPR_race := ⟨(gd (tk2 (List.mem_of_getElem? (i := 222) rfl)) rfl), (gd (tk1 (List.mem_of_getElem? (i := 1) rfl)) rfl), ⟨(gd (tk2 (List.mem_of_getElem? (i := 220) rfl)) rfl), (gd (tk2 (List.mem_of_getElem? (i := 221) rfl)) rfl)⟩, rfl⟩
set_option maxRecDepth 50000 in
theorem qk_PR_fault : QOK qPR_fault := ⟨(gd (tk2 (List.mem_of_getElem? (i := 186) rfl)) rfl), (gd (tk1 (List.mem_of_getElem? (i := 1) rfl)) rfl), ⟨(gd (tk2 (List.mem_of_getElem? (i := 184) rfl)) rfl), (gd (tk2 (List.mem_of_getElem? (i := 185) rfl)) rfl)⟩, rfl⟩
set_option maxRecDepth 50000 in
theorem qk_PR_told : QOK qPR_told := ⟨(gd (tk4 (List.mem_of_getElem? (i := 37) rfl)) rfl), (gd (tk1 (List.mem_of_getElem? (i := 1) rfl)) rfl), ⟨(gd (tk4 (List.mem_of_getElem? (i := 35) rfl)) rfl), (gd (tk4 (List.mem_of_getElem? (i := 36) rfl)) rfl)⟩, rfl⟩
set_option maxRecDepth 50000 in
theorem qk_PR_shop : QOK qPR_shop := ⟨(gd (tk4 (List.mem_of_getElem? (i := 46) rfl)) rfl), (gd (tk1 (List.mem_of_getElem? (i := 1) rfl)) rfl), ⟨(gd (tk4 (List.mem_of_getElem? (i := 44) rfl)) rfl), (gd (tk4 (List.mem_of_getElem? (i := 45) rfl)) rfl)⟩, rfl⟩
set_option maxRecDepth 50000 in
theorem qk_PR_worth : QOK qPR_worth := ⟨(gd (tk4 (List.mem_of_getElem? (i := 82) rfl)) rfl), (gd (tk1 (List.mem_of_getElem? (i := 1) rfl)) rfl), ⟨(gd (tk4 (List.mem_of_getElem? (i := 80) rfl)) rfl), (gd (tk4 (List.mem_of_getElem? (i := 81) rfl)) rfl)⟩, rfl⟩
set_option maxRecDepth 50000 in
theorem qk_PR_doing : QOK qPR_doing := ⟨(gd (tk4 (List.mem_of_getElem? (i := 235) rfl)) rfl), (gd (tk1 (List.mem_of_getElem? (i := 1) rfl)) rfl), ⟨(gd (tk4 (List.mem_of_getElem? (i := 233) rfl)) rfl), (gd (tk4 (List.mem_of_getElem? (i := 234) rfl)) rfl)⟩, rfl⟩
set_option maxRecDepth 50000 in
theorem qk_PR_gain : QOK qPR_gain := ⟨(gd (tk5 (List.mem_of_getElem? (i := 11) rfl)) rfl), (gd (tk1 (List.mem_of_getElem? (i := 1) rfl)) rfl), ⟨(gd (tk5 (List.mem_of_getElem? (i := 9) rfl)) rfl), (gd (tk5 (List.mem_of_getElem? (i := 10) rfl)) rfl)⟩, rfl⟩
set_option maxRecDepth 50000 in
theorem qk_PR_unrest : QOK qPR_unrest := ⟨(gd (tk5 (List.mem_of_getElem? (i := 22) rfl)) rfl), (gd (tk1 (List.mem_of_getElem? (i := 1) rfl)) rfl), ⟨(gd (tk5 (List.mem_of_getElem? (i := 20) rfl)) rfl), (gd (tk5 (List.mem_of_getElem? (i := 21) rfl)) rfl)⟩, rfl⟩
set_option maxRecDepth 50000 in
theorem qk_PR_rule : QOK qPR_rule := ⟨(gd (tk5 (List.mem_of_getElem? (i := 39) rfl)) rfl), (gd (tk1 (List.mem_of_getElem? (i := 1) rfl)) rfl), ⟨(gd (tk5 (List.mem_of_getElem? (i := 37) rfl)) rfl), (gd (tk5 (List.mem_of_getElem? (i := 38) rfl)) rfl)⟩, rfl⟩
set_option maxRecDepth 50000 in
theorem qk_PR_follow : QOK qPR_follow := ⟨(gd (tk5 (List.mem_of_getElem? (i := 57) rfl)) rfl), (gd (tk1 (List.mem_of_getElem? (i := 1) rfl)) rfl), ⟨(gd (tk5 (List.mem_of_getElem? (i := 55) rfl)) rfl), (gd (tk5 (List.mem_of_getElem? (i := 56) rfl)) rfl)⟩, rfl⟩
set_option maxRecDepth 50000 in
theorem qk_PR_judged : QOK qPR_judged := ⟨(gd (tk5 (List.mem_of_getElem? (i := 64) rfl)) rfl), (gd (tk1 (List.mem_of_getElem? (i := 1) rfl)) rfl), ⟨(gd (tk5 (List.mem_of_getElem? (i := 62) rfl)) rfl), (gd (tk5 (List.mem_of_getElem? (i := 63) rfl)) rfl)⟩, rfl⟩
set_option maxRecDepth 50000 in
theorem qk_PR_breaks : QOK qPR_breaks := ⟨(gd (tk5 (List.mem_of_getElem? (i := 90) rfl)) rfl), (gd (tk1 (List.mem_of_getElem? (i := 1) rfl)) rfl), ⟨(gd (tk5 (List.mem_of_getElem? (i := 88) rfl)) rfl), (gd (tk5 (List.mem_of_getElem? (i := 89) rfl)) rfl)⟩, rfl⟩
set_option maxRecDepth 50000 in
theorem qk_PR_alone : QOK qPR_alone := ⟨(gd (tk5 (List.mem_of_getElem? (i := 111) rfl)) rfl), (gd (tk1 (List.mem_of_getElem? (i := 1) rfl)) rfl), ⟨(gd (tk5 (List.mem_of_getElem? (i := 109) rfl)) rfl), (gd (tk5 (List.mem_of_getElem? (i := 110) rfl)) rfl)⟩, rfl⟩
set_option maxRecDepth 50000 in
theorem qk_PR_best : QOK qPR_best := ⟨(gd (tk5 (List.mem_of_getElem? (i := 123) rfl)) rfl), (gd (tk1 (List.mem_of_getElem? (i := 1) rfl)) rfl), ⟨(gd (tk5 (List.mem_of_getElem? (i := 121) rfl)) rfl), (gd (tk5 (List.mem_of_getElem? (i := 122) rfl)) rfl)⟩, rfl⟩
set_option maxRecDepth 50000 in
theorem qk_PR_answer : QOK qPR_answer := ⟨(gd (tk5 (List.mem_of_getElem? (i := 130) rfl)) rfl), (gd (tk1 (List.mem_of_getElem? (i := 1) rfl)) rfl), ⟨(gd (tk5 (List.mem_of_getElem? (i := 128) rfl)) rfl), (gd (tk5 (List.mem_of_getElem? (i := 129) rfl)) rfl)⟩, rfl⟩
set_option maxRecDepth 50000 in
theorem qk_PR_first : QOK qPR_first := ⟨(gd (tk5 (List.mem_of_getElem? (i := 171) rfl)) rfl), (gd (tk1 (List.mem_of_getElem? (i := 1) rfl)) rfl), ⟨(gd (tk5 (List.mem_of_getElem? (i := 169) rfl)) rfl), (gd (tk5 (List.mem_of_getElem? (i := 170) rfl)) rfl)⟩, rfl⟩
set_option maxRecDepth 50000 in
theorem qk_PR_late : QOK qPR_late := ⟨(gd (tk5 (List.mem_of_getElem? (i := 218) rfl)) rfl), (gd (tk1 (List.mem_of_getElem? (i := 1) rfl)) rfl), ⟨(gd (tk5 (List.mem_of_getElem? (i := 216) rfl)) rfl), (gd (tk5 (List.mem_of_getElem? (i := 217) rfl)) rfl)⟩, rfl⟩
set_option maxRecDepth 50000 in
theorem qk_PR_waste : QOK qPR_waste := ⟨(gd (tk5 (List.mem_of_getElem? (i := 225) rfl)) rfl), (gd (tk1 (List.mem_of_getElem? (i := 1) rfl)) rfl), ⟨(gd (tk5 (List.mem_of_getElem? (i := 223) rfl)) rfl), (gd (tk5 (List.mem_of_getElem? (i := 224) rfl)) rfl)⟩, rfl⟩
set_option maxRecDepth 50000 in
theorem qk_PR_harder : QOK qPR_harder := ⟨(gd (tk5 (List.mem_of_getElem? (i := 232) rfl)) rfl), (gd (tk1 (List.mem_of_getElem? (i := 1) rfl)) rfl), ⟨(gd (tk5 (List.mem_of_getElem? (i := 230) rfl)) rfl), (gd (tk5 (List.mem_of_getElem? (i := 231) rfl)) rfl)⟩, rfl⟩
set_option maxRecDepth 50000 in
theorem qk_PR_behind : QOK qPR_behind := ⟨(gd (tk6 (List.mem_of_getElem? (i := 9) rfl)) rfl), (gd (tk1 (List.mem_of_getElem? (i := 1) rfl)) rfl), ⟨(gd (tk6 (List.mem_of_getElem? (i := 7) rfl)) rfl), (gd (tk6 (List.mem_of_getElem? (i := 8) rfl)) rfl)⟩, rfl⟩
set_option maxRecDepth 50000 in
theorem qk_PR_leavers : QOK qPR_leavers := ⟨(gd (tk6 (List.mem_of_getElem? (i := 20) rfl)) rfl), (gd (tk1 (List.mem_of_getElem? (i := 1) rfl)) rfl), ⟨(gd (tk6 (List.mem_of_getElem? (i := 18) rfl)) rfl), (gd (tk6 (List.mem_of_getElem? (i := 19) rfl)) rfl)⟩, rfl⟩
set_option maxRecDepth 50000 in
theorem qk_PR_joined : QOK qPR_joined := ⟨(gd (tk6 (List.mem_of_getElem? (i := 31) rfl)) rfl), (gd (tk1 (List.mem_of_getElem? (i := 1) rfl)) rfl), ⟨(gd (tk6 (List.mem_of_getElem? (i := 29) rfl)) rfl), (gd (tk6 (List.mem_of_getElem? (i := 30) rfl)) rfl)⟩, rfl⟩
set_option maxRecDepth 50000 in
theorem qk_PR_sold : QOK qPR_sold := ⟨(gd (tk6 (List.mem_of_getElem? (i := 52) rfl)) rfl), (gd (tk1 (List.mem_of_getElem? (i := 1) rfl)) rfl), ⟨(gd (tk6 (List.mem_of_getElem? (i := 50) rfl)) rfl), (gd (tk6 (List.mem_of_getElem? (i := 51) rfl)) rfl)⟩, rfl⟩
set_option maxRecDepth 50000 in
theorem qk_PR_offer : QOK qPR_offer := ⟨(gd (tk6 (List.mem_of_getElem? (i := 60) rfl)) rfl), (gd (tk1 (List.mem_of_getElem? (i := 1) rfl)) rfl), ⟨(gd (tk6 (List.mem_of_getElem? (i := 58) rfl)) rfl), (gd (tk6 (List.mem_of_getElem? (i := 59) rfl)) rfl)⟩, rfl⟩
set_option maxRecDepth 50000 in
theorem qk_PR_king : QOK qPR_king := ⟨(gd (tk6 (List.mem_of_getElem? (i := 72) rfl)) rfl), (gd (tk1 (List.mem_of_getElem? (i := 1) rfl)) rfl), ⟨(gd (tk6 (List.mem_of_getElem? (i := 70) rfl)) rfl), (gd (tk6 (List.mem_of_getElem? (i := 71) rfl)) rfl)⟩, rfl⟩
set_option maxRecDepth 50000 in
theorem qk_PR_entry : QOK qPR_entry := ⟨(gd (tk6 (List.mem_of_getElem? (i := 92) rfl)) rfl), (gd (tk1 (List.mem_of_getElem? (i := 1) rfl)) rfl), ⟨(gd (tk6 (List.mem_of_getElem? (i := 90) rfl)) rfl), (gd (tk6 (List.mem_of_getElem? (i := 91) rfl)) rfl)⟩, rfl⟩
set_option maxRecDepth 50000 in
theorem qk_PR_edge : QOK qPR_edge := ⟨(gd (tk6 (List.mem_of_getElem? (i := 106) rfl)) rfl), (gd (tk1 (List.mem_of_getElem? (i := 1) rfl)) rfl), ⟨(gd (tk6 (List.mem_of_getElem? (i := 104) rfl)) rfl), (gd (tk6 (List.mem_of_getElem? (i := 105) rfl)) rfl)⟩, rfl⟩
set_option maxRecDepth 50000 in
theorem qk_PR_run : QOK qPR_run := ⟨(gd (tk6 (List.mem_of_getElem? (i := 118) rfl)) rfl), (gd (tk1 (List.mem_of_getElem? (i := 1) rfl)) rfl), ⟨(gd (tk6 (List.mem_of_getElem? (i := 116) rfl)) rfl), (gd (tk6 (List.mem_of_getElem? (i := 117) rfl)) rfl)⟩, rfl⟩
set_option maxRecDepth 50000 in
theorem qk_PR_image : QOK qPR_image := ⟨(gd (tk2 (List.mem_of_getElem? (i := 190) rfl)) rfl), (gd (tk1 (List.mem_of_getElem? (i := 1) rfl)) rfl), ⟨(gd (tk2 (List.mem_of_getElem? (i := 188) rfl)) rfl), (gd (tk2 (List.mem_of_getElem? (i := 189) rfl)) rfl)⟩, rfl⟩
set_option maxRecDepth 50000 in
theorem qk_PR_restore : QOK qPR_restore := ⟨(gd (tk2 (List.mem_of_getElem? (i := 206) rfl)) rfl), (gd (tk1 (List.mem_of_getElem? (i := 1) rfl)) rfl), ⟨(gd (tk2 (List.mem_of_getElem? (i := 204) rfl)) rfl), (gd (tk2 (List.mem_of_getElem? (i := 205) rfl)) rfl)⟩, rfl⟩
set_option maxRecDepth 50000 in
theorem qk_PR_count : QOK qPR_count := ⟨(gd (tk2 (List.mem_of_getElem? (i := 210) rfl)) rfl), (gd (tk1 (List.mem_of_getElem? (i := 1) rfl)) rfl), ⟨(gd (tk2 (List.mem_of_getElem? (i := 208) rfl)) rfl), (gd (tk2 (List.mem_of_getElem? (i := 209) rfl)) rfl)⟩, rfl⟩
set_option maxRecDepth 50000 in
theorem qk_PR_needRace : QOK qPR_needRace := ⟨(gd (tk4 (List.mem_of_getElem? (i := 86) rfl)) rfl), (gd (tk1 (List.mem_of_getElem? (i := 1) rfl)) rfl), ⟨(gd (tk4 (List.mem_of_getElem? (i := 85) rfl)) rfl), (gd (tp2 (List.mem_of_getElem? (i := 9) rfl)) rfl)⟩, rfl⟩
set_option maxRecDepth 50000 in
theorem qk_PR_needShop : QOK qPR_needShop := ⟨(gd (tk4 (List.mem_of_getElem? (i := 50) rfl)) rfl), (gd (tk1 (List.mem_of_getElem? (i := 1) rfl)) rfl), ⟨(gd (tk4 (List.mem_of_getElem? (i := 49) rfl)) rfl), (gd (tp2 (List.mem_of_getElem? (i := 8) rfl)) rfl)⟩, rfl⟩
set_option maxRecDepth 50000 in
theorem qk_PR_needTwo : QOK qPR_needTwo := ⟨(gd (tk6 (List.mem_of_getElem? (i := 35) rfl)) rfl), (gd (tk1 (List.mem_of_getElem? (i := 1) rfl)) rfl), ⟨(gd (tk6 (List.mem_of_getElem? (i := 34) rfl)) rfl), (gd (tp4 (List.mem_of_getElem? (i := 5) rfl)) rfl)⟩, rfl⟩
set_option maxRecDepth 50000 in
theorem qk_PR_needState : QOK qPR_needState := ⟨(gd (tk4 (List.mem_of_getElem? (i := 106) rfl)) rfl), (gd (tk1 (List.mem_of_getElem? (i := 1) rfl)) rfl), ⟨(gd (tk4 (List.mem_of_getElem? (i := 105) rfl)) rfl), (gd (tp2 (List.mem_of_getElem? (i := 10) rfl)) rfl)⟩, rfl⟩
set_option maxRecDepth 50000 in
theorem qk_PR_needAlone : QOK qPR_needAlone := ⟨(gd (tk5 (List.mem_of_getElem? (i := 115) rfl)) rfl), (gd (tk1 (List.mem_of_getElem? (i := 1) rfl)) rfl), ⟨(gd (tk5 (List.mem_of_getElem? (i := 114) rfl)) rfl), (gd (tp3 (List.mem_of_getElem? (i := 11) rfl)) rfl)⟩, rfl⟩
set_option maxRecDepth 50000 in
theorem qk_PR_codeOf : QOK qPR_codeOf := ⟨(gd (tk4 (List.mem_of_getElem? (i := 226) rfl)) rfl), (gd (tk1 (List.mem_of_getElem? (i := 1) rfl)) rfl), ⟨(gd (tk4 (List.mem_of_getElem? (i := 225) rfl)) rfl), (gd (tp3 (List.mem_of_getElem? (i := 6) rfl)) rfl)⟩, rfl⟩
set_option maxRecDepth 50000 in
theorem qk_PR_settled : QOK qPR_settled := ⟨(gd (tk4 (List.mem_of_getElem? (i := 111) rfl)) rfl), (gd (tk1 (List.mem_of_getElem? (i := 1) rfl)) rfl), ⟨(gd (tk4 (List.mem_of_getElem? (i := 110) rfl)) rfl), (gd (tp2 (List.mem_of_getElem? (i := 11) rfl)) rfl)⟩, rfl⟩
set_option maxRecDepth 50000 in
theorem qk_PR_obeyed : QOK qPR_obeyed := ⟨(gd (tk5 (List.mem_of_getElem? (i := 68) rfl)) rfl), (gd (tk1 (List.mem_of_getElem? (i := 1) rfl)) rfl), ⟨(gd (tk5 (List.mem_of_getElem? (i := 67) rfl)) rfl), (gd (tp3 (List.mem_of_getElem? (i := 8) rfl)) rfl)⟩, rfl⟩
set_option maxRecDepth 50000 in
theorem qk_PR_weighOffer : QOK qPR_weighOffer := ⟨(gd (tk6 (List.mem_of_getElem? (i := 77) rfl)) rfl), (gd (tk1 (List.mem_of_getElem? (i := 1) rfl)) rfl), ⟨(gd (tk6 (List.mem_of_getElem? (i := 76) rfl)) rfl), (gd (tp4 (List.mem_of_getElem? (i := 7) rfl)) rfl)⟩, rfl⟩
set_option maxRecDepth 50000 in
theorem qk_PR_allEarn : QOK qPR_allEarn := ⟨(gd (tk6 (List.mem_of_getElem? (i := 97) rfl)) rfl), (gd (tk1 (List.mem_of_getElem? (i := 1) rfl)) rfl), ⟨(gd (tk6 (List.mem_of_getElem? (i := 96) rfl)) rfl), (gd (tp4 (List.mem_of_getElem? (i := 8) rfl)) rfl)⟩, rfl⟩
set_option maxRecDepth 50000 in
theorem qk_PR_findEdge : QOK qPR_findEdge := ⟨(gd (tk6 (List.mem_of_getElem? (i := 111) rfl)) rfl), (gd (tk1 (List.mem_of_getElem? (i := 1) rfl)) rfl), ⟨(gd (tk6 (List.mem_of_getElem? (i := 110) rfl)) rfl), (gd (tp4 (List.mem_of_getElem? (i := 9) rfl)) rfl)⟩, rfl⟩
set_option maxRecDepth 50000 in
theorem qk_PR_stepsIn : QOK qPR_stepsIn := ⟨(gd (tk4 (List.mem_of_getElem? (i := 25) rfl)) rfl), (gd (tk1 (List.mem_of_getElem? (i := 1) rfl)) rfl), (gd (tk4 (List.mem_of_getElem? (i := 24) rfl)) rfl), rfl⟩
set_option maxRecDepth 50000 in
theorem qk_PR_doingIn : QOK qPR_doingIn := ⟨(gd (tk4 (List.mem_of_getElem? (i := 150) rfl)) rfl), (gd (tk1 (List.mem_of_getElem? (i := 1) rfl)) rfl), (gd (tk4 (List.mem_of_getElem? (i := 149) rfl)) rfl), rfl⟩
set_option maxRecDepth 50000 in
theorem qk_PR_nextIn : QOK qPR_nextIn := ⟨(gd (tk4 (List.mem_of_getElem? (i := 22) rfl)) rfl), (gd (tk1 (List.mem_of_getElem? (i := 1) rfl)) rfl), (gd (tk4 (List.mem_of_getElem? (i := 21) rfl)) rfl), rfl⟩
set_option maxRecDepth 50000 in
theorem qk_PR_stepsPlace : QOK qPR_stepsPlace := ⟨(gd (tk3 (List.mem_of_getElem? (i := 230) rfl)) rfl), (gd (tk1 (List.mem_of_getElem? (i := 1) rfl)) rfl), (gd (tk3 (List.mem_of_getElem? (i := 229) rfl)) rfl), rfl⟩
set_option maxRecDepth 50000 in
theorem qk_Mo_thrown : QOK qMo_thrown := ⟨(gd (tk7 (List.mem_of_getElem? (i := 132) rfl)) rfl), (gd (tk1 (List.mem_of_getElem? (i := 11) rfl)) rfl), ⟨(gd (tk7 (List.mem_of_getElem? (i := 130) rfl)) rfl), (gd (tk7 (List.mem_of_getElem? (i := 131) rfl)) rfl)⟩, rfl⟩
set_option maxRecDepth 50000 in
theorem qk_Mo_bad : QOK qMo_bad := ⟨(gd (tk7 (List.mem_of_getElem? (i := 147) rfl)) rfl), (gd (tk1 (List.mem_of_getElem? (i := 11) rfl)) rfl), ⟨(gd (tk7 (List.mem_of_getElem? (i := 146) rfl)) rfl), (gd (tp4 (List.mem_of_getElem? (i := 10) rfl)) rfl)⟩, rfl⟩
set_option maxRecDepth 50000 in
theorem qk_Mo_in : QOK qMo_in := ⟨(gd (tk7 (List.mem_of_getElem? (i := 143) rfl)) rfl), (gd (tk1 (List.mem_of_getElem? (i := 11) rfl)) rfl), (gd (tk7 (List.mem_of_getElem? (i := 142) rfl)) rfl), rfl⟩
set_option maxRecDepth 50000 in
theorem qk_Mo_feed : QOK qMo_feed := ⟨(gd (tk7 (List.mem_of_getElem? (i := 136) rfl)) rfl), (gd (tk1 (List.mem_of_getElem? (i := 11) rfl)) rfl), ⟨(gd (tk7 (List.mem_of_getElem? (i := 134) rfl)) rfl), (gd (tk7 (List.mem_of_getElem? (i := 135) rfl)) rfl)⟩, rfl⟩
set_option maxRecDepth 50000 in
theorem qk_Mo_byteAt : QOK qMo_byteAt := ⟨(gd (tk7 (List.mem_of_getElem? (i := 159) rfl)) rfl), (gd (tk1 (List.mem_of_getElem? (i := 11) rfl)) rfl), ⟨(gd (tk7 (List.mem_of_getElem? (i := 158) rfl)) rfl), (gd (tp4 (List.mem_of_getElem? (i := 13) rfl)) rfl)⟩, rfl⟩
set_option maxRecDepth 50000 in
theorem qk_Mo_blanks : QOK qMo_blanks := ⟨(gd (tk7 (List.mem_of_getElem? (i := 155) rfl)) rfl), (gd (tk1 (List.mem_of_getElem? (i := 11) rfl)) rfl), ⟨(gd (tk7 (List.mem_of_getElem? (i := 154) rfl)) rfl), (gd (tp4 (List.mem_of_getElem? (i := 12) rfl)) rfl)⟩, rfl⟩
set_option maxRecDepth 50000 in
theorem qk_Mo_wrong : QOK qMo_wrong := ⟨(gd (tk7 (List.mem_of_getElem? (i := 182) rfl)) rfl), (gd (tk1 (List.mem_of_getElem? (i := 11) rfl)) rfl), ⟨(gd (tk7 (List.mem_of_getElem? (i := 181) rfl)) rfl), (gd (tp5 (List.mem_of_getElem? (i := 2) rfl)) rfl)⟩, rfl⟩
set_option maxRecDepth 50000 in
theorem qk_Mo_isDigit : QOK qMo_isDigit := ⟨(gd (tk7 (List.mem_of_getElem? (i := 193) rfl)) rfl), (gd (tk1 (List.mem_of_getElem? (i := 11) rfl)) rfl), (gd (tk7 (List.mem_of_getElem? (i := 192) rfl)) rfl), rfl⟩
set_option maxRecDepth 50000 in
theorem qk_Mo_number : QOK qMo_number := ⟨(gd (tk7 (List.mem_of_getElem? (i := 190) rfl)) rfl), (gd (tk1 (List.mem_of_getElem? (i := 11) rfl)) rfl), ⟨(gd (tk7 (List.mem_of_getElem? (i := 189) rfl)) rfl), (gd (tp5 (List.mem_of_getElem? (i := 4) rfl)) rfl)⟩, rfl⟩
set_option maxRecDepth 50000 in
theorem qk_Mo_wordHere : QOK qMo_wordHere := ⟨(gd (tk7 (List.mem_of_getElem? (i := 171) rfl)) rfl), (gd (tk1 (List.mem_of_getElem? (i := 11) rfl)) rfl), ⟨(gd (tk7 (List.mem_of_getElem? (i := 170) rfl)) rfl), (gd (tp5 (List.mem_of_getElem? (i := 0) rfl)) rfl)⟩, rfl⟩
set_option maxRecDepth 50000 in
theorem qk_Mo_word : QOK qMo_word := ⟨(gd (tk7 (List.mem_of_getElem? (i := 174) rfl)) rfl), (gd (tk1 (List.mem_of_getElem? (i := 11) rfl)) rfl), (gd (tk7 (List.mem_of_getElem? (i := 173) rfl)) rfl), rfl⟩
set_option maxRecDepth 50000 in
theorem qk_Mo_isWord : QOK qMo_isWord := ⟨(gd (tk7 (List.mem_of_getElem? (i := 167) rfl)) rfl), (gd (tk1 (List.mem_of_getElem? (i := 11) rfl)) rfl), ⟨(gd (tk7 (List.mem_of_getElem? (i := 166) rfl)) rfl), (gd (tp4 (List.mem_of_getElem? (i := 15) rfl)) rfl)⟩, rfl⟩
set_option maxRecDepth 50000 in
theorem qk_Mo_skipWord : QOK qMo_skipWord := ⟨(gd (tk7 (List.mem_of_getElem? (i := 186) rfl)) rfl), (gd (tk1 (List.mem_of_getElem? (i := 11) rfl)) rfl), ⟨(gd (tk7 (List.mem_of_getElem? (i := 185) rfl)) rfl), (gd (tp5 (List.mem_of_getElem? (i := 3) rfl)) rfl)⟩, rfl⟩
set_option maxRecDepth 50000 in
theorem qk_Mo_sign : QOK qMo_sign := ⟨(gd (tk7 (List.mem_of_getElem? (i := 218) rfl)) rfl), (gd (tk1 (List.mem_of_getElem? (i := 11) rfl)) rfl), ⟨(gd (tk7 (List.mem_of_getElem? (i := 217) rfl)) rfl), (gd (tp5 (List.mem_of_getElem? (i := 10) rfl)) rfl)⟩, rfl⟩
set_option maxRecDepth 50000 in
theorem qk_Mo_must : QOK qMo_must := ⟨(gd (tk7 (List.mem_of_getElem? (i := 198) rfl)) rfl), (gd (tk1 (List.mem_of_getElem? (i := 11) rfl)) rfl), ⟨(gd (tk7 (List.mem_of_getElem? (i := 197) rfl)) rfl), (gd (tp5 (List.mem_of_getElem? (i := 5) rfl)) rfl)⟩, rfl⟩
set_option maxRecDepth 50000 in
theorem qk_Mo_opens : QOK qMo_opens := ⟨(gd (tk7 (List.mem_of_getElem? (i := 214) rfl)) rfl), (gd (tk1 (List.mem_of_getElem? (i := 11) rfl)) rfl), ⟨(gd (tk7 (List.mem_of_getElem? (i := 213) rfl)) rfl), (gd (tp5 (List.mem_of_getElem? (i := 9) rfl)) rfl)⟩, rfl⟩
set_option maxRecDepth 50000 in
theorem qk_Mo_unit : QOK qMo_unit := ⟨(gd (tk7 (List.mem_of_getElem? (i := 230) rfl)) rfl), (gd (tk1 (List.mem_of_getElem? (i := 11) rfl)) rfl), ⟨(gd (tk7 (List.mem_of_getElem? (i := 229) rfl)) rfl), (gd (tp5 (List.mem_of_getElem? (i := 13) rfl)) rfl)⟩, rfl⟩
set_option maxRecDepth 50000 in
theorem qk_Mo_product : QOK qMo_product := ⟨(gd (tk7 (List.mem_of_getElem? (i := 226) rfl)) rfl), (gd (tk1 (List.mem_of_getElem? (i := 11) rfl)) rfl), ⟨(gd (tk7 (List.mem_of_getElem? (i := 225) rfl)) rfl), (gd (tp5 (List.mem_of_getElem? (i := 12) rfl)) rfl)⟩, rfl⟩
set_option maxRecDepth 50000 in
theorem qk_Mo_sum : QOK qMo_sum := ⟨(gd (tk7 (List.mem_of_getElem? (i := 222) rfl)) rfl), (gd (tk1 (List.mem_of_getElem? (i := 11) rfl)) rfl), ⟨(gd (tk7 (List.mem_of_getElem? (i := 221) rfl)) rfl), (gd (tp5 (List.mem_of_getElem? (i := 11) rfl)) rfl)⟩, rfl⟩
set_option maxRecDepth 50000 in
theorem qk_Mo_test : QOK qMo_test := ⟨(gd (tk7 (List.mem_of_getElem? (i := 210) rfl)) rfl), (gd (tk1 (List.mem_of_getElem? (i := 11) rfl)) rfl), ⟨(gd (tk7 (List.mem_of_getElem? (i := 209) rfl)) rfl), (gd (tp5 (List.mem_of_getElem? (i := 8) rfl)) rfl)⟩, rfl⟩
set_option maxRecDepth 50000 in
theorem qk_Mo_ands : QOK qMo_ands := ⟨(gd (tk7 (List.mem_of_getElem? (i := 206) rfl)) rfl), (gd (tk1 (List.mem_of_getElem? (i := 11) rfl)) rfl), ⟨(gd (tk7 (List.mem_of_getElem? (i := 205) rfl)) rfl), (gd (tp5 (List.mem_of_getElem? (i := 7) rfl)) rfl)⟩, rfl⟩
set_option maxRecDepth 50000 in
theorem qk_Mo_ors : QOK qMo_ors := ⟨(gd (tk7 (List.mem_of_getElem? (i := 202) rfl)) rfl), (gd (tk1 (List.mem_of_getElem? (i := 11) rfl)) rfl), ⟨(gd (tk7 (List.mem_of_getElem? (i := 201) rfl)) rfl), (gd (tp5 (List.mem_of_getElem? (i := 6) rfl)) rfl)⟩, rfl⟩
set_option maxRecDepth 50000 in
theorem qk_Mo_shopHere : QOK qMo_shopHere := ⟨(gd (tk7 (List.mem_of_getElem? (i := 178) rfl)) rfl), (gd (tk1 (List.mem_of_getElem? (i := 11) rfl)) rfl), ⟨(gd (tk7 (List.mem_of_getElem? (i := 177) rfl)) rfl), (gd (tp5 (List.mem_of_getElem? (i := 1) rfl)) rfl)⟩, rfl⟩
set_option maxRecDepth 50000 in
theorem qk_Mo_clause : QOK qMo_clause := ⟨(gd (tk7 (List.mem_of_getElem? (i := 163) rfl)) rfl), (gd (tk1 (List.mem_of_getElem? (i := 11) rfl)) rfl), ⟨(gd (tk7 (List.mem_of_getElem? (i := 162) rfl)) rfl), (gd (tp4 (List.mem_of_getElem? (i := 14) rfl)) rfl)⟩, rfl⟩
set_option maxRecDepth 50000 in
theorem qk_Mo_readAll : QOK qMo_readAll := ⟨(gd (tk7 (List.mem_of_getElem? (i := 151) rfl)) rfl), (gd (tk1 (List.mem_of_getElem? (i := 11) rfl)) rfl), ⟨(gd (tk7 (List.mem_of_getElem? (i := 150) rfl)) rfl), (gd (tp4 (List.mem_of_getElem? (i := 11) rfl)) rfl)⟩, rfl⟩
set_option maxRecDepth 50000 in
theorem qk_Mo_takes : QOK qMo_takes := ⟨(gd (tk7 (List.mem_of_getElem? (i := 234) rfl)) rfl), (gd (tk1 (List.mem_of_getElem? (i := 11) rfl)) rfl), ⟨(gd (tk7 (List.mem_of_getElem? (i := 233) rfl)) rfl), (gd (tp5 (List.mem_of_getElem? (i := 14) rfl)) rfl)⟩, rfl⟩
set_option maxRecDepth 50000 in
theorem qk_Mo_race : QOK qMo_race := ⟨(gd (tk7 (List.mem_of_getElem? (i := 140) rfl)) rfl), (gd (tk1 (List.mem_of_getElem? (i := 11) rfl)) rfl), ⟨(gd (tk7 (List.mem_of_getElem? (i := 138) rfl)) rfl), (gd (tk7 (List.mem_of_getElem? (i := 139) rfl)) rfl)⟩, rfl⟩
set_option maxRecDepth 50000 in
theorem qk_Mo_tellsAgain : QOK qMo_tellsAgain := ⟨(gd (tk9 (List.mem_of_getElem? (i := 8) rfl)) rfl), (gd (tk1 (List.mem_of_getElem? (i := 11) rfl)) rfl), ⟨(gd (tk9 (List.mem_of_getElem? (i := 7) rfl)) rfl), (gd (tp8 (List.mem_of_getElem? (i := 4) rfl)) rfl)⟩, rfl⟩
set_option maxRecDepth 50000 in
theorem qk_Mo_fault : QOK qMo_fault := ⟨(gd (tk7 (List.mem_of_getElem? (i := 238) rfl)) rfl), (gd (tk1 (List.mem_of_getElem? (i := 11) rfl)) rfl), ⟨(gd (tk7 (List.mem_of_getElem? (i := 236) rfl)) rfl), (gd (tk7 (List.mem_of_getElem? (i := 237) rfl)) rfl)⟩, rfl⟩
set_option maxRecDepth 50000 in
theorem qk_Mo_told : QOK qMo_told := ⟨(gd (tk8 (List.mem_of_getElem? (i := 2) rfl)) rfl), (gd (tk1 (List.mem_of_getElem? (i := 11) rfl)) rfl), ⟨(gd (tk8 (List.mem_of_getElem? (i := 0) rfl)) rfl), (gd (tk8 (List.mem_of_getElem? (i := 1) rfl)) rfl)⟩, rfl⟩
set_option maxRecDepth 50000 in
theorem qk_Mo_shop : QOK qMo_shop := ⟨(gd (tk8 (List.mem_of_getElem? (i := 6) rfl)) rfl), (gd (tk1 (List.mem_of_getElem? (i := 11) rfl)) rfl), ⟨(gd (tk8 (List.mem_of_getElem? (i := 4) rfl)) rfl), (gd (tk8 (List.mem_of_getElem? (i := 5) rfl)) rfl)⟩, rfl⟩
set_option maxRecDepth 50000 in
theorem qk_Mo_stepsOf : QOK qMo_stepsOf := ⟨(gd (tk8 (List.mem_of_getElem? (i := 29) rfl)) rfl), (gd (tk1 (List.mem_of_getElem? (i := 11) rfl)) rfl), (gd (tk8 (List.mem_of_getElem? (i := 28) rfl)) rfl), rfl⟩
set_option maxRecDepth 50000 in
theorem qk_Mo_isIn : QOK qMo_isIn := ⟨(gd (tk8 (List.mem_of_getElem? (i := 36) rfl)) rfl), (gd (tk1 (List.mem_of_getElem? (i := 11) rfl)) rfl), (gd (tk8 (List.mem_of_getElem? (i := 35) rfl)) rfl), rfl⟩
set_option maxRecDepth 50000 in
theorem qk_Mo_isOver : QOK qMo_isOver := ⟨(gd (tk8 (List.mem_of_getElem? (i := 33) rfl)) rfl), (gd (tk1 (List.mem_of_getElem? (i := 11) rfl)) rfl), ⟨(gd (tk8 (List.mem_of_getElem? (i := 32) rfl)) rfl), (gd (tp6 (List.mem_of_getElem? (i := 3) rfl)) rfl)⟩, rfl⟩
set_option maxRecDepth 50000 in
theorem qk_Mo_nextOf : QOK qMo_nextOf := ⟨(gd (tk8 (List.mem_of_getElem? (i := 52) rfl)) rfl), (gd (tk1 (List.mem_of_getElem? (i := 11) rfl)) rfl), ⟨(gd (tk8 (List.mem_of_getElem? (i := 51) rfl)) rfl), (gd (tp6 (List.mem_of_getElem? (i := 7) rfl)) rfl)⟩, rfl⟩
set_option maxRecDepth 50000 in
theorem qk_Mo_holds : QOK qMo_holds := ⟨(gd (tk8 (List.mem_of_getElem? (i := 48) rfl)) rfl), (gd (tk1 (List.mem_of_getElem? (i := 11) rfl)) rfl), ⟨(gd (tk8 (List.mem_of_getElem? (i := 47) rfl)) rfl), (gd (tp6 (List.mem_of_getElem? (i := 6) rfl)) rfl)⟩, rfl⟩
set_option maxRecDepth 50000 in
theorem qk_Mo_mayDo : QOK qMo_mayDo := ⟨(gd (tk8 (List.mem_of_getElem? (i := 44) rfl)) rfl), (gd (tk1 (List.mem_of_getElem? (i := 11) rfl)) rfl), ⟨(gd (tk8 (List.mem_of_getElem? (i := 43) rfl)) rfl), (gd (tp6 (List.mem_of_getElem? (i := 5) rfl)) rfl)⟩, rfl⟩
set_option maxRecDepth 50000 in
theorem qk_Mo_chanceOf : QOK qMo_chanceOf := ⟨(gd (tk8 (List.mem_of_getElem? (i := 82) rfl)) rfl), (gd (tk1 (List.mem_of_getElem? (i := 11) rfl)) rfl), ⟨(gd (tk8 (List.mem_of_getElem? (i := 81) rfl)) rfl), (gd (tp6 (List.mem_of_getElem? (i := 13) rfl)) rfl)⟩, rfl⟩
set_option maxRecDepth 50000 in
theorem qk_Mo_costOf : QOK qMo_costOf := ⟨(gd (tk8 (List.mem_of_getElem? (i := 78) rfl)) rfl), (gd (tk1 (List.mem_of_getElem? (i := 11) rfl)) rfl), ⟨(gd (tk8 (List.mem_of_getElem? (i := 77) rfl)) rfl), (gd (tp6 (List.mem_of_getElem? (i := 12) rfl)) rfl)⟩, rfl⟩
set_option maxRecDepth 50000 in
theorem qk_Mo_inAfter : QOK qMo_inAfter := ⟨(gd (tk8 (List.mem_of_getElem? (i := 71) rfl)) rfl), (gd (tk1 (List.mem_of_getElem? (i := 11) rfl)) rfl), ⟨(gd (tk8 (List.mem_of_getElem? (i := 70) rfl)) rfl), (gd (tp6 (List.mem_of_getElem? (i := 11) rfl)) rfl)⟩, rfl⟩
set_option maxRecDepth 50000 in
theorem qk_Mo_scale : QOK qMo_scale := ⟨(gd (tk8 (List.mem_of_getElem? (i := 74) rfl)) rfl), (gd (tk1 (List.mem_of_getElem? (i := 11) rfl)) rfl), (gd (tk8 (List.mem_of_getElem? (i := 73) rfl)) rfl), rfl⟩
set_option maxRecDepth 50000 in
theorem qk_Mo_share : QOK qMo_share := ⟨(gd (tk8 (List.mem_of_getElem? (i := 98) rfl)) rfl), (gd (tk1 (List.mem_of_getElem? (i := 11) rfl)) rfl), ⟨(gd (tk8 (List.mem_of_getElem? (i := 97) rfl)) rfl), (gd (tp7 (List.mem_of_getElem? (i := 1) rfl)) rfl)⟩, rfl⟩
set_option maxRecDepth 50000 in
theorem qk_Mo_hasFirst : QOK qMo_hasFirst := ⟨(gd (tk8 (List.mem_of_getElem? (i := 94) rfl)) rfl), (gd (tk1 (List.mem_of_getElem? (i := 11) rfl)) rfl), ⟨(gd (tk8 (List.mem_of_getElem? (i := 93) rfl)) rfl), (gd (tp7 (List.mem_of_getElem? (i := 0) rfl)) rfl)⟩, rfl⟩
set_option maxRecDepth 50000 in
theorem qk_Mo_comesTo : QOK qMo_comesTo := ⟨(gd (tk8 (List.mem_of_getElem? (i := 90) rfl)) rfl), (gd (tk1 (List.mem_of_getElem? (i := 11) rfl)) rfl), ⟨(gd (tk8 (List.mem_of_getElem? (i := 89) rfl)) rfl), (gd (tp6 (List.mem_of_getElem? (i := 15) rfl)) rfl)⟩, rfl⟩
set_option maxRecDepth 50000 in
theorem qk_Mo_weight : QOK qMo_weight := ⟨(gd (tk8 (List.mem_of_getElem? (i := 86) rfl)) rfl), (gd (tk1 (List.mem_of_getElem? (i := 11) rfl)) rfl), ⟨(gd (tk8 (List.mem_of_getElem? (i := 85) rfl)) rfl), (gd (tp6 (List.mem_of_getElem? (i := 14) rfl)) rfl)⟩, rfl⟩
set_option maxRecDepth 50000 in
theorem qk_Mo_weighs : QOK qMo_weighs := ⟨(gd (tk8 (List.mem_of_getElem? (i := 67) rfl)) rfl), (gd (tk1 (List.mem_of_getElem? (i := 11) rfl)) rfl), ⟨(gd (tk8 (List.mem_of_getElem? (i := 66) rfl)) rfl), (gd (tp6 (List.mem_of_getElem? (i := 10) rfl)) rfl)⟩, rfl⟩
set_option maxRecDepth 50000 in
theorem qk_Mo_digit : QOK qMo_digit := ⟨(gd (tk8 (List.mem_of_getElem? (i := 63) rfl)) rfl), (gd (tk1 (List.mem_of_getElem? (i := 11) rfl)) rfl), (gd (tk8 (List.mem_of_getElem? (i := 62) rfl)) rfl), rfl⟩
set_option maxRecDepth 50000 in
theorem qk_Mo_unitOf : QOK qMo_unitOf := ⟨(gd (tk8 (List.mem_of_getElem? (i := 105) rfl)) rfl), (gd (tk1 (List.mem_of_getElem? (i := 11) rfl)) rfl), (gd (tk8 (List.mem_of_getElem? (i := 104) rfl)) rfl), rfl⟩
set_option maxRecDepth 50000 in
theorem qk_Mo_mayAll : QOK qMo_mayAll := ⟨(gd (tk8 (List.mem_of_getElem? (i := 60) rfl)) rfl), (gd (tk1 (List.mem_of_getElem? (i := 11) rfl)) rfl), ⟨(gd (tk8 (List.mem_of_getElem? (i := 59) rfl)) rfl), (gd (tp6 (List.mem_of_getElem? (i := 9) rfl)) rfl)⟩, rfl⟩
set_option maxRecDepth 50000 in
theorem qk_Mo_rows : QOK qMo_rows := ⟨(gd (tk8 (List.mem_of_getElem? (i := 56) rfl)) rfl), (gd (tk1 (List.mem_of_getElem? (i := 11) rfl)) rfl), ⟨(gd (tk8 (List.mem_of_getElem? (i := 55) rfl)) rfl), (gd (tp6 (List.mem_of_getElem? (i := 8) rfl)) rfl)⟩, rfl⟩
set_option maxRecDepth 50000 in
theorem qk_Mo_settles : QOK qMo_settles := ⟨(gd (tk8 (List.mem_of_getElem? (i := 40) rfl)) rfl), (gd (tk1 (List.mem_of_getElem? (i := 11) rfl)) rfl), ⟨(gd (tk8 (List.mem_of_getElem? (i := 39) rfl)) rfl), (gd (tp6 (List.mem_of_getElem? (i := 4) rfl)) rfl)⟩, rfl⟩
set_option maxRecDepth 50000 in
theorem qk_Mo_turned : QOK qMo_turned := ⟨(gd (tk8 (List.mem_of_getElem? (i := 102) rfl)) rfl), (gd (tk1 (List.mem_of_getElem? (i := 11) rfl)) rfl), ⟨(gd (tk8 (List.mem_of_getElem? (i := 101) rfl)) rfl), (gd (tp7 (List.mem_of_getElem? (i := 2) rfl)) rfl)⟩, rfl⟩
set_option maxRecDepth 50000 in
theorem qk_Mo_isPlace : QOK qMo_isPlace := ⟨(gd (tk8 (List.mem_of_getElem? (i := 26) rfl)) rfl), (gd (tk1 (List.mem_of_getElem? (i := 11) rfl)) rfl), ⟨(gd (tk8 (List.mem_of_getElem? (i := 25) rfl)) rfl), (gd (tp6 (List.mem_of_getElem? (i := 2) rfl)) rfl)⟩, rfl⟩
set_option maxRecDepth 50000 in
theorem qk_Mo_solve : QOK qMo_solve := ⟨(gd (tk8 (List.mem_of_getElem? (i := 22) rfl)) rfl), (gd (tk1 (List.mem_of_getElem? (i := 11) rfl)) rfl), ⟨(gd (tk8 (List.mem_of_getElem? (i := 21) rfl)) rfl), (gd (tp6 (List.mem_of_getElem? (i := 1) rfl)) rfl)⟩, rfl⟩
set_option maxRecDepth 50000 in
theorem qk_Mo_placeOf : QOK qMo_placeOf := ⟨(gd (tk8 (List.mem_of_getElem? (i := 18) rfl)) rfl), (gd (tk1 (List.mem_of_getElem? (i := 11) rfl)) rfl), ⟨(gd (tk8 (List.mem_of_getElem? (i := 17) rfl)) rfl), (gd (tp6 (List.mem_of_getElem? (i := 0) rfl)) rfl)⟩, rfl⟩
set_option maxRecDepth 50000 in
theorem qk_Mo_isState : QOK qMo_isState := ⟨(gd (tk8 (List.mem_of_getElem? (i := 14) rfl)) rfl), (gd (tk1 (List.mem_of_getElem? (i := 11) rfl)) rfl), ⟨(gd (tk8 (List.mem_of_getElem? (i := 13) rfl)) rfl), (gd (tp5 (List.mem_of_getElem? (i := 15) rfl)) rfl)⟩, rfl⟩
set_option maxRecDepth 50000 in
theorem qk_Mo_worth : QOK qMo_worth := ⟨(gd (tk8 (List.mem_of_getElem? (i := 10) rfl)) rfl), (gd (tk1 (List.mem_of_getElem? (i := 11) rfl)) rfl), ⟨(gd (tk8 (List.mem_of_getElem? (i := 8) rfl)) rfl), (gd (tk8 (List.mem_of_getElem? (i := 9) rfl)) rfl)⟩, rfl⟩
set_option maxRecDepth 50000 in
theorem qk_Mo_doing : QOK qMo_doing := ⟨(gd (tk8 (List.mem_of_getElem? (i := 109) rfl)) rfl), (gd (tk1 (List.mem_of_getElem? (i := 11) rfl)) rfl), ⟨(gd (tk8 (List.mem_of_getElem? (i := 107) rfl)) rfl), (gd (tk8 (List.mem_of_getElem? (i := 108) rfl)) rfl)⟩, rfl⟩
set_option maxRecDepth 50000 in
theorem qk_Mo_gain : QOK qMo_gain := ⟨(gd (tk8 (List.mem_of_getElem? (i := 113) rfl)) rfl), (gd (tk1 (List.mem_of_getElem? (i := 11) rfl)) rfl), ⟨(gd (tk8 (List.mem_of_getElem? (i := 111) rfl)) rfl), (gd (tk8 (List.mem_of_getElem? (i := 112) rfl)) rfl)⟩, rfl⟩
set_option maxRecDepth 50000 in
theorem qk_Mo_isWhole : QOK qMo_isWhole := ⟨(gd (tk8 (List.mem_of_getElem? (i := 121) rfl)) rfl), (gd (tk1 (List.mem_of_getElem? (i := 11) rfl)) rfl), ⟨(gd (tk8 (List.mem_of_getElem? (i := 120) rfl)) rfl), (gd (tp7 (List.mem_of_getElem? (i := 3) rfl)) rfl)⟩, rfl⟩
set_option maxRecDepth 50000 in
theorem qk_Mo_unrest : QOK qMo_unrest := ⟨(gd (tk8 (List.mem_of_getElem? (i := 117) rfl)) rfl), (gd (tk1 (List.mem_of_getElem? (i := 11) rfl)) rfl), ⟨(gd (tk8 (List.mem_of_getElem? (i := 115) rfl)) rfl), (gd (tk8 (List.mem_of_getElem? (i := 116) rfl)) rfl)⟩, rfl⟩
set_option maxRecDepth 50000 in
theorem qk_Mo_nextPlace : QOK qMo_nextPlace := ⟨(gd (tk8 (List.mem_of_getElem? (i := 128) rfl)) rfl), (gd (tk1 (List.mem_of_getElem? (i := 11) rfl)) rfl), (gd (tk8 (List.mem_of_getElem? (i := 127) rfl)) rfl), rfl⟩
set_option maxRecDepth 50000 in
theorem qk_Mo_rule : QOK qMo_rule := ⟨(gd (tk8 (List.mem_of_getElem? (i := 125) rfl)) rfl), (gd (tk1 (List.mem_of_getElem? (i := 11) rfl)) rfl), ⟨(gd (tk8 (List.mem_of_getElem? (i := 123) rfl)) rfl), (gd (tk8 (List.mem_of_getElem? (i := 124) rfl)) rfl)⟩, rfl⟩
set_option maxRecDepth 50000 in
theorem qk_Mo_beginPlace : QOK qMo_beginPlace := ⟨(gd (tk8 (List.mem_of_getElem? (i := 152) rfl)) rfl), (gd (tk1 (List.mem_of_getElem? (i := 11) rfl)) rfl), ⟨(gd (tk8 (List.mem_of_getElem? (i := 151) rfl)) rfl), (gd (tp7 (List.mem_of_getElem? (i := 7) rfl)) rfl)⟩, rfl⟩
set_option maxRecDepth 50000 in
theorem qk_Mo_everybody : QOK qMo_everybody := ⟨(gd (tk8 (List.mem_of_getElem? (i := 156) rfl)) rfl), (gd (tk1 (List.mem_of_getElem? (i := 11) rfl)) rfl), ⟨(gd (tk8 (List.mem_of_getElem? (i := 155) rfl)) rfl), (gd (tp7 (List.mem_of_getElem? (i := 8) rfl)) rfl)⟩, rfl⟩
set_option maxRecDepth 50000 in
theorem qk_Mo_follow : QOK qMo_follow := ⟨(gd (tk8 (List.mem_of_getElem? (i := 132) rfl)) rfl), (gd (tk1 (List.mem_of_getElem? (i := 11) rfl)) rfl), ⟨(gd (tk8 (List.mem_of_getElem? (i := 130) rfl)) rfl), (gd (tk8 (List.mem_of_getElem? (i := 131) rfl)) rfl)⟩, rfl⟩
set_option maxRecDepth 50000 in
theorem qk_Mo_follows : QOK qMo_follows := ⟨(gd (tk8 (List.mem_of_getElem? (i := 136) rfl)) rfl), (gd (tk1 (List.mem_of_getElem? (i := 11) rfl)) rfl), ⟨(gd (tk8 (List.mem_of_getElem? (i := 135) rfl)) rfl), (gd (tp7 (List.mem_of_getElem? (i := 4) rfl)) rfl)⟩, rfl⟩
set_option maxRecDepth 50000 in
theorem qk_Mo_byRule : QOK qMo_byRule := ⟨(gd (tk8 (List.mem_of_getElem? (i := 148) rfl)) rfl), (gd (tk1 (List.mem_of_getElem? (i := 11) rfl)) rfl), ⟨(gd (tk8 (List.mem_of_getElem? (i := 147) rfl)) rfl), (gd (tp7 (List.mem_of_getElem? (i := 6) rfl)) rfl)⟩, rfl⟩
set_option maxRecDepth 50000 in
theorem qk_Mo_solveRules : QOK qMo_solveRules := ⟨(gd (tk8 (List.mem_of_getElem? (i := 144) rfl)) rfl), (gd (tk1 (List.mem_of_getElem? (i := 11) rfl)) rfl), ⟨(gd (tk8 (List.mem_of_getElem? (i := 143) rfl)) rfl), (gd (tp7 (List.mem_of_getElem? (i := 5) rfl)) rfl)⟩, rfl⟩
set_option maxRecDepth 50000 in
theorem qk_Mo_judged : QOK qMo_judged := ⟨(gd (tk8 (List.mem_of_getElem? (i := 140) rfl)) rfl), (gd (tk1 (List.mem_of_getElem? (i := 11) rfl)) rfl), ⟨(gd (tk8 (List.mem_of_getElem? (i := 138) rfl)) rfl), (gd (tk8 (List.mem_of_getElem? (i := 139) rfl)) rfl)⟩, rfl⟩
set_option maxRecDepth 50000 in
theorem qk_Mo_isBroken : QOK qMo_isBroken := ⟨(gd (tk8 (List.mem_of_getElem? (i := 164) rfl)) rfl), (gd (tk1 (List.mem_of_getElem? (i := 11) rfl)) rfl), ⟨(gd (tk8 (List.mem_of_getElem? (i := 163) rfl)) rfl), (gd (tp7 (List.mem_of_getElem? (i := 9) rfl)) rfl)⟩, rfl⟩
set_option maxRecDepth 50000 in
theorem qk_Mo_breaks : QOK qMo_breaks := ⟨(gd (tk8 (List.mem_of_getElem? (i := 160) rfl)) rfl), (gd (tk1 (List.mem_of_getElem? (i := 11) rfl)) rfl), ⟨(gd (tk8 (List.mem_of_getElem? (i := 158) rfl)) rfl), (gd (tk8 (List.mem_of_getElem? (i := 159) rfl)) rfl)⟩, rfl⟩
set_option maxRecDepth 50000 in
theorem qk_Mo_findAlone : QOK qMo_findAlone := ⟨(gd (tk8 (List.mem_of_getElem? (i := 172) rfl)) rfl), (gd (tk1 (List.mem_of_getElem? (i := 11) rfl)) rfl), ⟨(gd (tk8 (List.mem_of_getElem? (i := 171) rfl)) rfl), (gd (tp7 (List.mem_of_getElem? (i := 10) rfl)) rfl)⟩, rfl⟩
set_option maxRecDepth 50000 in
theorem qk_Mo_aloneBy : QOK qMo_aloneBy := ⟨(gd (tk8 (List.mem_of_getElem? (i := 176) rfl)) rfl), (gd (tk1 (List.mem_of_getElem? (i := 11) rfl)) rfl), ⟨(gd (tk8 (List.mem_of_getElem? (i := 175) rfl)) rfl), (gd (tp7 (List.mem_of_getElem? (i := 11) rfl)) rfl)⟩, rfl⟩
set_option maxRecDepth 50000 in
theorem qk_Mo_alone : QOK qMo_alone := ⟨(gd (tk8 (List.mem_of_getElem? (i := 168) rfl)) rfl), (gd (tk1 (List.mem_of_getElem? (i := 11) rfl)) rfl), ⟨(gd (tk8 (List.mem_of_getElem? (i := 166) rfl)) rfl), (gd (tk8 (List.mem_of_getElem? (i := 167) rfl)) rfl)⟩, rfl⟩
set_option maxRecDepth 50000 in
theorem qk_Mo_best : QOK qMo_best := ⟨(gd (tk8 (List.mem_of_getElem? (i := 180) rfl)) rfl), (gd (tk1 (List.mem_of_getElem? (i := 11) rfl)) rfl), ⟨(gd (tk8 (List.mem_of_getElem? (i := 178) rfl)) rfl), (gd (tk8 (List.mem_of_getElem? (i := 179) rfl)) rfl)⟩, rfl⟩
set_option maxRecDepth 50000 in
theorem qk_Mo_othersWeight : QOK qMo_othersWeight := ⟨(gd (tk8 (List.mem_of_getElem? (i := 192) rfl)) rfl), (gd (tk1 (List.mem_of_getElem? (i := 11) rfl)) rfl), ⟨(gd (tk8 (List.mem_of_getElem? (i := 191) rfl)) rfl), (gd (tp7 (List.mem_of_getElem? (i := 13) rfl)) rfl)⟩, rfl⟩
set_option maxRecDepth 50000 in
theorem qk_Mo_answer : QOK qMo_answer := ⟨(gd (tk8 (List.mem_of_getElem? (i := 184) rfl)) rfl), (gd (tk1 (List.mem_of_getElem? (i := 11) rfl)) rfl), ⟨(gd (tk8 (List.mem_of_getElem? (i := 182) rfl)) rfl), (gd (tk8 (List.mem_of_getElem? (i := 183) rfl)) rfl)⟩, rfl⟩
set_option maxRecDepth 50000 in
theorem qk_Mo_goesOn : QOK qMo_goesOn := ⟨(gd (tk8 (List.mem_of_getElem? (i := 188) rfl)) rfl), (gd (tk1 (List.mem_of_getElem? (i := 11) rfl)) rfl), ⟨(gd (tk8 (List.mem_of_getElem? (i := 187) rfl)) rfl), (gd (tp7 (List.mem_of_getElem? (i := 12) rfl)) rfl)⟩, rfl⟩
set_option maxRecDepth 50000 in
theorem qk_Mo_isDone : QOK qMo_isDone := ⟨(gd (tk8 (List.mem_of_getElem? (i := 196) rfl)) rfl), (gd (tk1 (List.mem_of_getElem? (i := 11) rfl)) rfl), ⟨(gd (tk8 (List.mem_of_getElem? (i := 195) rfl)) rfl), (gd (tp7 (List.mem_of_getElem? (i := 14) rfl)) rfl)⟩, rfl⟩
set_option maxRecDepth 50000 in
theorem qk_Mo_blindBy : QOK qMo_blindBy := ⟨(gd (tk8 (List.mem_of_getElem? (i := 200) rfl)) rfl), (gd (tk1 (List.mem_of_getElem? (i := 11) rfl)) rfl), ⟨(gd (tk8 (List.mem_of_getElem? (i := 199) rfl)) rfl), (gd (tp7 (List.mem_of_getElem? (i := 15) rfl)) rfl)⟩, rfl⟩
set_option maxRecDepth 50000 in
theorem qk_Mo_endsBy : QOK qMo_endsBy := ⟨(gd (tk8 (List.mem_of_getElem? (i := 204) rfl)) rfl), (gd (tk1 (List.mem_of_getElem? (i := 11) rfl)) rfl), ⟨(gd (tk8 (List.mem_of_getElem? (i := 203) rfl)) rfl), (gd (tp8 (List.mem_of_getElem? (i := 0) rfl)) rfl)⟩, rfl⟩
set_option maxRecDepth 50000 in
theorem qk_Mo_runsThrough : QOK qMo_runsThrough := ⟨(gd (tk8 (List.mem_of_getElem? (i := 212) rfl)) rfl), (gd (tk1 (List.mem_of_getElem? (i := 11) rfl)) rfl), ⟨(gd (tk8 (List.mem_of_getElem? (i := 211) rfl)) rfl), (gd (tp8 (List.mem_of_getElem? (i := 1) rfl)) rfl)⟩, rfl⟩
set_option maxRecDepth 50000 in
theorem qk_Mo_flows : QOK qMo_flows := ⟨(gd (tk8 (List.mem_of_getElem? (i := 216) rfl)) rfl), (gd (tk1 (List.mem_of_getElem? (i := 11) rfl)) rfl), ⟨(gd (tk8 (List.mem_of_getElem? (i := 215) rfl)) rfl), (gd (tp8 (List.mem_of_getElem? (i := 2) rfl)) rfl)⟩, rfl⟩
set_option maxRecDepth 50000 in
theorem qk_Mo_first : QOK qMo_first := ⟨(gd (tk8 (List.mem_of_getElem? (i := 208) rfl)) rfl), (gd (tk1 (List.mem_of_getElem? (i := 11) rfl)) rfl), ⟨(gd (tk8 (List.mem_of_getElem? (i := 206) rfl)) rfl), (gd (tk8 (List.mem_of_getElem? (i := 207) rfl)) rfl)⟩, rfl⟩
set_option maxRecDepth 50000 in
theorem qk_Mo_late : QOK qMo_late := ⟨(gd (tk8 (List.mem_of_getElem? (i := 220) rfl)) rfl), (gd (tk1 (List.mem_of_getElem? (i := 11) rfl)) rfl), ⟨(gd (tk8 (List.mem_of_getElem? (i := 218) rfl)) rfl), (gd (tk8 (List.mem_of_getElem? (i := 219) rfl)) rfl)⟩, rfl⟩
set_option maxRecDepth 50000 in
theorem qk_Mo_waste : QOK qMo_waste := ⟨(gd (tk8 (List.mem_of_getElem? (i := 224) rfl)) rfl), (gd (tk1 (List.mem_of_getElem? (i := 11) rfl)) rfl), ⟨(gd (tk8 (List.mem_of_getElem? (i := 222) rfl)) rfl), (gd (tk8 (List.mem_of_getElem? (i := 223) rfl)) rfl)⟩, rfl⟩
set_option maxRecDepth 50000 in
theorem qk_Mo_isHarder : QOK qMo_isHarder := ⟨(gd (tk8 (List.mem_of_getElem? (i := 232) rfl)) rfl), (gd (tk1 (List.mem_of_getElem? (i := 11) rfl)) rfl), ⟨(gd (tk8 (List.mem_of_getElem? (i := 231) rfl)) rfl), (gd (tp8 (List.mem_of_getElem? (i := 3) rfl)) rfl)⟩, rfl⟩
set_option maxRecDepth 50000 in
theorem qk_Mo_harder : QOK qMo_harder := ⟨(gd (tk8 (List.mem_of_getElem? (i := 228) rfl)) rfl), (gd (tk1 (List.mem_of_getElem? (i := 11) rfl)) rfl), ⟨(gd (tk8 (List.mem_of_getElem? (i := 226) rfl)) rfl), (gd (tk8 (List.mem_of_getElem? (i := 227) rfl)) rfl)⟩, rfl⟩
set_option maxRecDepth 50000 in
theorem qk_Mo_behind : QOK qMo_behind := ⟨(gd (tk8 (List.mem_of_getElem? (i := 236) rfl)) rfl), (gd (tk1 (List.mem_of_getElem? (i := 11) rfl)) rfl), ⟨(gd (tk8 (List.mem_of_getElem? (i := 234) rfl)) rfl), (gd (tk8 (List.mem_of_getElem? (i := 235) rfl)) rfl)⟩, rfl⟩
set_option maxRecDepth 50000 in
theorem qk_Mo_leavers : QOK qMo_leavers := ⟨(gd (tk9 (List.mem_of_getElem? (i := 0) rfl)) rfl), (gd (tk1 (List.mem_of_getElem? (i := 11) rfl)) rfl), ⟨(gd (tk8 (List.mem_of_getElem? (i := 238) rfl)) rfl), (gd (tk8 (List.mem_of_getElem? (i := 239) rfl)) rfl)⟩, rfl⟩
set_option maxRecDepth 50000 in
theorem qk_Mo_joined : QOK qMo_joined := ⟨(gd (tk9 (List.mem_of_getElem? (i := 4) rfl)) rfl), (gd (tk1 (List.mem_of_getElem? (i := 11) rfl)) rfl), ⟨(gd (tk9 (List.mem_of_getElem? (i := 2) rfl)) rfl), (gd (tk9 (List.mem_of_getElem? (i := 3) rfl)) rfl)⟩, rfl⟩
set_option maxRecDepth 50000 in
theorem qk_Mo_sold : QOK qMo_sold := ⟨(gd (tk9 (List.mem_of_getElem? (i := 12) rfl)) rfl), (gd (tk1 (List.mem_of_getElem? (i := 11) rfl)) rfl), ⟨(gd (tk9 (List.mem_of_getElem? (i := 10) rfl)) rfl), (gd (tk9 (List.mem_of_getElem? (i := 11) rfl)) rfl)⟩, rfl⟩
set_option maxRecDepth 50000 in
theorem qk_Mo_offer : QOK qMo_offer := ⟨(gd (tk9 (List.mem_of_getElem? (i := 17) rfl)) rfl), (gd (tk1 (List.mem_of_getElem? (i := 11) rfl)) rfl), ⟨(gd (tk9 (List.mem_of_getElem? (i := 15) rfl)) rfl), (gd (tk9 (List.mem_of_getElem? (i := 16) rfl)) rfl)⟩, rfl⟩
set_option maxRecDepth 50000 in
theorem qk_Mo_king : QOK qMo_king := ⟨(gd (tk9 (List.mem_of_getElem? (i := 21) rfl)) rfl), (gd (tk1 (List.mem_of_getElem? (i := 11) rfl)) rfl), ⟨(gd (tk9 (List.mem_of_getElem? (i := 19) rfl)) rfl), (gd (tk9 (List.mem_of_getElem? (i := 20) rfl)) rfl)⟩, rfl⟩
set_option maxRecDepth 50000 in
theorem qk_Mo_entry : QOK qMo_entry := ⟨(gd (tk9 (List.mem_of_getElem? (i := 25) rfl)) rfl), (gd (tk1 (List.mem_of_getElem? (i := 11) rfl)) rfl), ⟨(gd (tk9 (List.mem_of_getElem? (i := 23) rfl)) rfl), (gd (tk9 (List.mem_of_getElem? (i := 24) rfl)) rfl)⟩, rfl⟩
set_option maxRecDepth 50000 in
theorem qk_Mo_edge : QOK qMo_edge := ⟨(gd (tk9 (List.mem_of_getElem? (i := 29) rfl)) rfl), (gd (tk1 (List.mem_of_getElem? (i := 11) rfl)) rfl), ⟨(gd (tk9 (List.mem_of_getElem? (i := 27) rfl)) rfl), (gd (tk9 (List.mem_of_getElem? (i := 28) rfl)) rfl)⟩, rfl⟩
set_option maxRecDepth 50000 in
theorem qk_Mo_run : QOK qMo_run := ⟨(gd (tk9 (List.mem_of_getElem? (i := 33) rfl)) rfl), (gd (tk1 (List.mem_of_getElem? (i := 11) rfl)) rfl), ⟨(gd (tk9 (List.mem_of_getElem? (i := 31) rfl)) rfl), (gd (tk9 (List.mem_of_getElem? (i := 32) rfl)) rfl)⟩, rfl⟩
set_option maxRecDepth 50000 in
theorem qk_Mo_image : QOK qMo_image := ⟨(gd (tk9 (List.mem_of_getElem? (i := 38) rfl)) rfl), (gd (tk1 (List.mem_of_getElem? (i := 11) rfl)) rfl), ⟨(gd (tk9 (List.mem_of_getElem? (i := 36) rfl)) rfl), (gd (tk9 (List.mem_of_getElem? (i := 37) rfl)) rfl)⟩, rfl⟩
set_option maxRecDepth 50000 in
theorem qk_Mo_restore : QOK qMo_restore := ⟨(gd (tk9 (List.mem_of_getElem? (i := 42) rfl)) rfl), (gd (tk1 (List.mem_of_getElem? (i := 11) rfl)) rfl), ⟨(gd (tk9 (List.mem_of_getElem? (i := 40) rfl)) rfl), (gd (tk9 (List.mem_of_getElem? (i := 41) rfl)) rfl)⟩, rfl⟩
set_option maxRecDepth 50000 in
theorem qk_Mo_forgets : QOK qMo_forgets := ⟨(gd (tk9 (List.mem_of_getElem? (i := 46) rfl)) rfl), (gd (tk1 (List.mem_of_getElem? (i := 11) rfl)) rfl), ⟨(gd (tk9 (List.mem_of_getElem? (i := 45) rfl)) rfl), (gd (tp8 (List.mem_of_getElem? (i := 5) rfl)) rfl)⟩, rfl⟩
set_option maxRecDepth 50000 in
theorem qk_Mo_count : QOK qMo_count := ⟨(gd (tk9 (List.mem_of_getElem? (i := 50) rfl)) rfl), (gd (tk1 (List.mem_of_getElem? (i := 11) rfl)) rfl), ⟨(gd (tk9 (List.mem_of_getElem? (i := 48) rfl)) rfl), (gd (tk9 (List.mem_of_getElem? (i := 49) rfl)) rfl)⟩, rfl⟩
set_option maxRecDepth 50000 in
theorem qk_Bo_placeOf : QOK qBo_placeOf := ⟨(gd (tk4 (List.mem_of_getElem? (i := 166) rfl)) rfl), (gd (tk1 (List.mem_of_getElem? (i := 6) rfl)) rfl), (gd (tk4 (List.mem_of_getElem? (i := 165) rfl)) rfl), rfl⟩
set_option maxRecDepth 50000 in
theorem qk_Bo_rowAt : QOK qBo_rowAt := ⟨(gd (tk5 (List.mem_of_getElem? (i := 3) rfl)) rfl), (gd (tk1 (List.mem_of_getElem? (i := 6) rfl)) rfl), ⟨(gd (tk5 (List.mem_of_getElem? (i := 1) rfl)) rfl), (gd (tk5 (List.mem_of_getElem? (i := 2) rfl)) rfl)⟩, rfl⟩
set_option maxRecDepth 50000 in
theorem qk_Bo_doingAt : QOK qBo_doingAt := ⟨(gd (tk4 (List.mem_of_getElem? (i := 239) rfl)) rfl), (gd (tk1 (List.mem_of_getElem? (i := 6) rfl)) rfl), ⟨(gd (tk4 (List.mem_of_getElem? (i := 237) rfl)) rfl), (gd (tk4 (List.mem_of_getElem? (i := 238) rfl)) rfl)⟩, rfl⟩
set_option maxRecDepth 50000 in
theorem qk_Bo_gainAt : QOK qBo_gainAt := ⟨(gd (tk5 (List.mem_of_getElem? (i := 15) rfl)) rfl), (gd (tk1 (List.mem_of_getElem? (i := 6) rfl)) rfl), ⟨(gd (tk5 (List.mem_of_getElem? (i := 13) rfl)) rfl), (gd (tk5 (List.mem_of_getElem? (i := 14) rfl)) rfl)⟩, rfl⟩
set_option maxRecDepth 50000 in
theorem qk_Bo_worthAt : QOK qBo_worthAt := ⟨(gd (tk4 (List.mem_of_getElem? (i := 163) rfl)) rfl), (gd (tk1 (List.mem_of_getElem? (i := 6) rfl)) rfl), ⟨(gd (tk4 (List.mem_of_getElem? (i := 161) rfl)) rfl), (gd (tk4 (List.mem_of_getElem? (i := 162) rfl)) rfl)⟩, rfl⟩
set_option maxRecDepth 50000 in
theorem qk_Bo_settle : QOK qBo_settle := ⟨(gd (tk4 (List.mem_of_getElem? (i := 115) rfl)) rfl), (gd (tk1 (List.mem_of_getElem? (i := 6) rfl)) rfl), ⟨(gd (tk4 (List.mem_of_getElem? (i := 113) rfl)) rfl), (gd (tk4 (List.mem_of_getElem? (i := 114) rfl)) rfl)⟩, rfl⟩
set_option maxRecDepth 50000 in
theorem qk_Bo_sumRows : QOK qBo_sumRows := ⟨(gd (tk4 (List.mem_of_getElem? (i := 197) rfl)) rfl), (gd (tk1 (List.mem_of_getElem? (i := 6) rfl)) rfl), ⟨(gd (tk4 (List.mem_of_getElem? (i := 196) rfl)) rfl), (gd (tp3 (List.mem_of_getElem? (i := 1) rfl)) rfl)⟩, rfl⟩
set_option maxRecDepth 50000 in
theorem qk_Bo_sumFor : QOK qBo_sumFor := ⟨(gd (tk4 (List.mem_of_getElem? (i := 201) rfl)) rfl), (gd (tk1 (List.mem_of_getElem? (i := 6) rfl)) rfl), ⟨(gd (tk4 (List.mem_of_getElem? (i := 200) rfl)) rfl), (gd (tp3 (List.mem_of_getElem? (i := 2) rfl)) rfl)⟩, rfl⟩
set_option maxRecDepth 50000 in
theorem qk_Bo_sumAt : QOK qBo_sumAt := ⟨(gd (tk4 (List.mem_of_getElem? (i := 206) rfl)) rfl), (gd (tk1 (List.mem_of_getElem? (i := 6) rfl)) rfl), ⟨(gd (tk4 (List.mem_of_getElem? (i := 205) rfl)) rfl), (gd (tp3 (List.mem_of_getElem? (i := 3) rfl)) rfl)⟩, rfl⟩
set_option maxRecDepth 50000 in
theorem qk_Bo_keepLeastGain : QOK qBo_keepLeastGain := ⟨(gd (tk4 (List.mem_of_getElem? (i := 213) rfl)) rfl), (gd (tk1 (List.mem_of_getElem? (i := 6) rfl)) rfl), ⟨(gd (tk4 (List.mem_of_getElem? (i := 212) rfl)) rfl), (gd (tp3 (List.mem_of_getElem? (i := 4) rfl)) rfl)⟩, rfl⟩
set_option maxRecDepth 50000 in
theorem qk_Bo_keepWorths : QOK qBo_keepWorths := ⟨(gd (tk4 (List.mem_of_getElem? (i := 221) rfl)) rfl), (gd (tk1 (List.mem_of_getElem? (i := 6) rfl)) rfl), ⟨(gd (tk4 (List.mem_of_getElem? (i := 220) rfl)) rfl), (gd (tp3 (List.mem_of_getElem? (i := 5) rfl)) rfl)⟩, rfl⟩
set_option maxRecDepth 50000 in
theorem qk_Bo_obey : QOK qBo_obey := ⟨(gd (tk5 (List.mem_of_getElem? (i := 72) rfl)) rfl), (gd (tk1 (List.mem_of_getElem? (i := 6) rfl)) rfl), ⟨(gd (tk5 (List.mem_of_getElem? (i := 70) rfl)) rfl), (gd (tk5 (List.mem_of_getElem? (i := 71) rfl)) rfl)⟩, rfl⟩
set_option maxRecDepth 50000 in
theorem qk_Bo_toldRow : QOK qBo_toldRow := ⟨(gd (tk5 (List.mem_of_getElem? (i := 76) rfl)) rfl), (gd (tk1 (List.mem_of_getElem? (i := 6) rfl)) rfl), ⟨(gd (tk5 (List.mem_of_getElem? (i := 75) rfl)) rfl), (gd (tp3 (List.mem_of_getElem? (i := 9) rfl)) rfl)⟩, rfl⟩
set_option maxRecDepth 50000 in
theorem qk_Bo_statesThatBreak : QOK qBo_statesThatBreak := ⟨(gd (tk5 (List.mem_of_getElem? (i := 94) rfl)) rfl), (gd (tk1 (List.mem_of_getElem? (i := 6) rfl)) rfl), ⟨(gd (tk5 (List.mem_of_getElem? (i := 92) rfl)) rfl), (gd (tk5 (List.mem_of_getElem? (i := 93) rfl)) rfl)⟩, rfl⟩
set_option maxRecDepth 50000 in
theorem qk_Bo_isBroken : QOK qBo_isBroken := ⟨(gd (tk5 (List.mem_of_getElem? (i := 103) rfl)) rfl), (gd (tk1 (List.mem_of_getElem? (i := 6) rfl)) rfl), ⟨(gd (tk5 (List.mem_of_getElem? (i := 102) rfl)) rfl), (gd (tp3 (List.mem_of_getElem? (i := 10) rfl)) rfl)⟩, rfl⟩
set_option maxRecDepth 50000 in
theorem qk_Bo_statesWithoutRest : QOK qBo_statesWithoutRest := ⟨(gd (tk5 (List.mem_of_getElem? (i := 26) rfl)) rfl), (gd (tk1 (List.mem_of_getElem? (i := 6) rfl)) rfl), ⟨(gd (tk5 (List.mem_of_getElem? (i := 24) rfl)) rfl), (gd (tk5 (List.mem_of_getElem? (i := 25) rfl)) rfl)⟩, rfl⟩
set_option maxRecDepth 50000 in
theorem qk_Bo_statesOf : QOK qBo_statesOf := ⟨(gd (tk5 (List.mem_of_getElem? (i := 31) rfl)) rfl), (gd (tk1 (List.mem_of_getElem? (i := 6) rfl)) rfl), ⟨(gd (tk5 (List.mem_of_getElem? (i := 30) rfl)) rfl), (gd (tp3 (List.mem_of_getElem? (i := 7) rfl)) rfl)⟩, rfl⟩
set_option maxRecDepth 50000 in
theorem qk_Bo_statesRunHarder : QOK qBo_statesRunHarder := ⟨(gd (tk5 (List.mem_of_getElem? (i := 236) rfl)) rfl), (gd (tk1 (List.mem_of_getElem? (i := 6) rfl)) rfl), ⟨(gd (tk5 (List.mem_of_getElem? (i := 234) rfl)) rfl), (gd (tk5 (List.mem_of_getElem? (i := 235) rfl)) rfl)⟩, rfl⟩
set_option maxRecDepth 50000 in
theorem qk_Bo_firstRunHarder : QOK qBo_firstRunHarder := ⟨(gd (tk6 (List.mem_of_getElem? (i := 13) rfl)) rfl), (gd (tk1 (List.mem_of_getElem? (i := 6) rfl)) rfl), ⟨(gd (tk6 (List.mem_of_getElem? (i := 11) rfl)) rfl), (gd (tk6 (List.mem_of_getElem? (i := 12) rfl)) rfl)⟩, rfl⟩
set_option maxRecDepth 50000 in
theorem qk_Bo_isRunHarder : QOK qBo_isRunHarder := ⟨(gd (tk6 (List.mem_of_getElem? (i := 0) rfl)) rfl), (gd (tk1 (List.mem_of_getElem? (i := 6) rfl)) rfl), ⟨(gd (tk5 (List.mem_of_getElem? (i := 239) rfl)) rfl), (gd (tp4 (List.mem_of_getElem? (i := 4) rfl)) rfl)⟩, rfl⟩
set_option maxRecDepth 50000 in
theorem qk_Bo_statesLeftBy : QOK qBo_statesLeftBy := ⟨(gd (tk6 (List.mem_of_getElem? (i := 24) rfl)) rfl), (gd (tk1 (List.mem_of_getElem? (i := 6) rfl)) rfl), ⟨(gd (tk6 (List.mem_of_getElem? (i := 22) rfl)) rfl), (gd (tk6 (List.mem_of_getElem? (i := 23) rfl)) rfl)⟩, rfl⟩
set_option maxRecDepth 50000 in
theorem qk_Co_walk : QOK qCo_walk := ⟨(gd (tk5 (List.mem_of_getElem? (i := 175) rfl)) rfl), (gd (tk1 (List.mem_of_getElem? (i := 8) rfl)) rfl), ⟨(gd (tk5 (List.mem_of_getElem? (i := 173) rfl)) rfl), (gd (tk5 (List.mem_of_getElem? (i := 174) rfl)) rfl)⟩, rfl⟩
set_option maxRecDepth 50000 in
theorem qk_Co_clearWalk : QOK qCo_clearWalk := ⟨(gd (tk5 (List.mem_of_getElem? (i := 179) rfl)) rfl), (gd (tk1 (List.mem_of_getElem? (i := 8) rfl)) rfl), ⟨(gd (tk5 (List.mem_of_getElem? (i := 178) rfl)) rfl), (gd (tp4 (List.mem_of_getElem? (i := 1) rfl)) rfl)⟩, rfl⟩
set_option maxRecDepth 50000 in
theorem qk_Co_walkFrom : QOK qCo_walkFrom := ⟨(gd (tk5 (List.mem_of_getElem? (i := 185) rfl)) rfl), (gd (tk1 (List.mem_of_getElem? (i := 8) rfl)) rfl), ⟨(gd (tk5 (List.mem_of_getElem? (i := 184) rfl)) rfl), (gd (tp4 (List.mem_of_getElem? (i := 2) rfl)) rfl)⟩, rfl⟩
set_option maxRecDepth 50000 in
theorem qk_Co_noteWinners : QOK qCo_noteWinners := ⟨(gd (tk5 (List.mem_of_getElem? (i := 211) rfl)) rfl), (gd (tk1 (List.mem_of_getElem? (i := 8) rfl)) rfl), ⟨(gd (tk5 (List.mem_of_getElem? (i := 210) rfl)) rfl), (gd (tp4 (List.mem_of_getElem? (i := 3) rfl)) rfl)⟩, rfl⟩
set_option maxRecDepth 50000 in
theorem qk_Co_drive : QOK qCo_drive := ⟨(gd (tk6 (List.mem_of_getElem? (i := 122) rfl)) rfl), (gd (tk1 (List.mem_of_getElem? (i := 8) rfl)) rfl), ⟨(gd (tk6 (List.mem_of_getElem? (i := 120) rfl)) rfl), (gd (tk6 (List.mem_of_getElem? (i := 121) rfl)) rfl)⟩, rfl⟩
set_option maxRecDepth 50000 in
theorem qk_Co_bitsIn : QOK qCo_bitsIn := ⟨(gd (tk6 (List.mem_of_getElem? (i := 127) rfl)) rfl), (gd (tk1 (List.mem_of_getElem? (i := 8) rfl)) rfl), (gd (tk6 (List.mem_of_getElem? (i := 126) rfl)) rfl), rfl⟩
set_option maxRecDepth 50000 in
theorem qk_De_copyFrom : QOK qDe_copyFrom := ⟨(gd (tk2 (List.mem_of_getElem? (i := 194) rfl)) rfl), (gd (tk1 (List.mem_of_getElem? (i := 5) rfl)) rfl), ⟨(gd (tk2 (List.mem_of_getElem? (i := 192) rfl)) rfl), (gd (tk2 (List.mem_of_getElem? (i := 193) rfl)) rfl)⟩, rfl⟩
set_option maxRecDepth 50000 in
theorem qk_De_clearRules : QOK qDe_clearRules := ⟨(gd (tk4 (List.mem_of_getElem? (i := 30) rfl)) rfl), (gd (tk1 (List.mem_of_getElem? (i := 5) rfl)) rfl), ⟨(gd (tk4 (List.mem_of_getElem? (i := 28) rfl)) rfl), (gd (tk4 (List.mem_of_getElem? (i := 29) rfl)) rfl)⟩, rfl⟩
set_option maxRecDepth 50000 in
theorem qk_De_rulesNotRest : QOK qDe_rulesNotRest := ⟨(gd (tk2 (List.mem_of_getElem? (i := 214) rfl)) rfl), (gd (tk1 (List.mem_of_getElem? (i := 5) rfl)) rfl), ⟨(gd (tk2 (List.mem_of_getElem? (i := 212) rfl)) rfl), (gd (tk2 (List.mem_of_getElem? (i := 213) rfl)) rfl)⟩, rfl⟩
set_option maxRecDepth 50000 in
theorem qk_De_ruleAt : QOK qDe_ruleAt := ⟨(gd (tk5 (List.mem_of_getElem? (i := 44) rfl)) rfl), (gd (tk1 (List.mem_of_getElem? (i := 5) rfl)) rfl), ⟨(gd (tk5 (List.mem_of_getElem? (i := 42) rfl)) rfl), (gd (tk5 (List.mem_of_getElem? (i := 43) rfl)) rfl)⟩, rfl⟩
set_option maxRecDepth 50000 in
theorem qk_De_putRule : QOK qDe_putRule := ⟨(gd (tk5 (List.mem_of_getElem? (i := 49) rfl)) rfl), (gd (tk1 (List.mem_of_getElem? (i := 5) rfl)) rfl), ⟨(gd (tk5 (List.mem_of_getElem? (i := 47) rfl)) rfl), (gd (tk5 (List.mem_of_getElem? (i := 48) rfl)) rfl)⟩, rfl⟩
set_option maxRecDepth 50000 in
theorem qk_De_addPrize : QOK qDe_addPrize := ⟨(gd (tk6 (List.mem_of_getElem? (i := 65) rfl)) rfl), (gd (tk1 (List.mem_of_getElem? (i := 5) rfl)) rfl), ⟨(gd (tk6 (List.mem_of_getElem? (i := 63) rfl)) rfl), (gd (tk6 (List.mem_of_getElem? (i := 64) rfl)) rfl)⟩, rfl⟩
set_option maxRecDepth 50000 in
theorem qk_Le_holds : QOK qLe_holds := ⟨(gd (tk6 (List.mem_of_getElem? (i := 81) rfl)) rfl), (gd (tk1 (List.mem_of_getElem? (i := 10) rfl)) rfl), ⟨(gd (tk6 (List.mem_of_getElem? (i := 79) rfl)) rfl), (gd (tk6 (List.mem_of_getElem? (i := 80) rfl)) rfl)⟩, rfl⟩
set_option maxRecDepth 50000 in
theorem qk_Le_keep : QOK qLe_keep := ⟨(gd (tk6 (List.mem_of_getElem? (i := 85) rfl)) rfl), (gd (tk1 (List.mem_of_getElem? (i := 10) rfl)) rfl), ⟨(gd (tk6 (List.mem_of_getElem? (i := 83) rfl)) rfl), (gd (tk6 (List.mem_of_getElem? (i := 84) rfl)) rfl)⟩, rfl⟩
set_option maxRecDepth 50000 in
theorem qk_Ra_clear : QOK qRa_clear := ⟨(gd (tk3 (List.mem_of_getElem? (i := 58) rfl)) rfl), (gd (tk1 (List.mem_of_getElem? (i := 3) rfl)) rfl), ⟨(gd (tk3 (List.mem_of_getElem? (i := 56) rfl)) rfl), (gd (tk3 (List.mem_of_getElem? (i := 57) rfl)) rfl)⟩, rfl⟩
set_option maxRecDepth 50000 in
theorem qk_Ra_clearShop : QOK qRa_clearShop := ⟨(gd (tk3 (List.mem_of_getElem? (i := 62) rfl)) rfl), (gd (tk1 (List.mem_of_getElem? (i := 3) rfl)) rfl), ⟨(gd (tk3 (List.mem_of_getElem? (i := 60) rfl)) rfl), (gd (tk3 (List.mem_of_getElem? (i := 61) rfl)) rfl)⟩, rfl⟩
set_option maxRecDepth 50000 in
theorem qk_Ra_copyFrom : QOK qRa_copyFrom := ⟨(gd (tk2 (List.mem_of_getElem? (i := 198) rfl)) rfl), (gd (tk1 (List.mem_of_getElem? (i := 3) rfl)) rfl), ⟨(gd (tk2 (List.mem_of_getElem? (i := 196) rfl)) rfl), (gd (tk2 (List.mem_of_getElem? (i := 197) rfl)) rfl)⟩, rfl⟩
set_option maxRecDepth 50000 in
theorem qk_Ra_costOf : QOK qRa_costOf := ⟨(gd (tk4 (List.mem_of_getElem? (i := 70) rfl)) rfl), (gd (tk1 (List.mem_of_getElem? (i := 3) rfl)) rfl), ⟨(gd (tk4 (List.mem_of_getElem? (i := 68) rfl)) rfl), (gd (tk4 (List.mem_of_getElem? (i := 69) rfl)) rfl)⟩, rfl⟩
set_option maxRecDepth 50000 in
theorem qk_Ra_chanceOf : QOK qRa_chanceOf := ⟨(gd (tk4 (List.mem_of_getElem? (i := 74) rfl)) rfl), (gd (tk1 (List.mem_of_getElem? (i := 3) rfl)) rfl), ⟨(gd (tk4 (List.mem_of_getElem? (i := 72) rfl)) rfl), (gd (tk4 (List.mem_of_getElem? (i := 73) rfl)) rfl)⟩, rfl⟩
set_option maxRecDepth 50000 in
theorem qk_Ra_scale : QOK qRa_scale := ⟨(gd (tk4 (List.mem_of_getElem? (i := 170) rfl)) rfl), (gd (tk1 (List.mem_of_getElem? (i := 3) rfl)) rfl), ⟨(gd (tk4 (List.mem_of_getElem? (i := 168) rfl)) rfl), (gd (tk4 (List.mem_of_getElem? (i := 169) rfl)) rfl)⟩, rfl⟩
set_option maxRecDepth 50000 in
theorem qk_Ra_beginning : QOK qRa_beginning := ⟨(gd (tk4 (List.mem_of_getElem? (i := 13) rfl)) rfl), (gd (tk1 (List.mem_of_getElem? (i := 3) rfl)) rfl), ⟨(gd (tk4 (List.mem_of_getElem? (i := 11) rfl)) rfl), (gd (tk4 (List.mem_of_getElem? (i := 12) rfl)) rfl)⟩, rfl⟩
set_option maxRecDepth 50000 in
theorem qk_Ra_beginningOf : QOK qRa_beginningOf := ⟨(gd (tk4 (List.mem_of_getElem? (i := 17) rfl)) rfl), (gd (tk1 (List.mem_of_getElem? (i := 3) rfl)) rfl), ⟨(gd (tk4 (List.mem_of_getElem? (i := 15) rfl)) rfl), (gd (tk4 (List.mem_of_getElem? (i := 16) rfl)) rfl)⟩, rfl⟩
set_option maxRecDepth 50000 in
theorem qk_Ra_fits : QOK qRa_fits := ⟨(gd (tk4 (List.mem_of_getElem? (i := 119) rfl)) rfl), (gd (tk1 (List.mem_of_getElem? (i := 3) rfl)) rfl), ⟨(gd (tk4 (List.mem_of_getElem? (i := 117) rfl)) rfl), (gd (tk4 (List.mem_of_getElem? (i := 118) rfl)) rfl)⟩, rfl⟩
set_option maxRecDepth 50000 in
theorem qk_Ra_isPlain : QOK qRa_isPlain := ⟨(gd (tk5 (List.mem_of_getElem? (i := 98) rfl)) rfl), (gd (tk1 (List.mem_of_getElem? (i := 3) rfl)) rfl), ⟨(gd (tk5 (List.mem_of_getElem? (i := 96) rfl)) rfl), (gd (tk5 (List.mem_of_getElem? (i := 97) rfl)) rfl)⟩, rfl⟩
set_option maxRecDepth 50000 in
theorem qk_Ra_reaches : QOK qRa_reaches := ⟨(gd (tk4 (List.mem_of_getElem? (i := 124) rfl)) rfl), (gd (tk1 (List.mem_of_getElem? (i := 3) rfl)) rfl), ⟨(gd (tk4 (List.mem_of_getElem? (i := 122) rfl)) rfl), (gd (tk4 (List.mem_of_getElem? (i := 123) rfl)) rfl)⟩, rfl⟩
set_option maxRecDepth 50000 in
theorem qk_Ra_allows : QOK qRa_allows := ⟨(gd (tk4 (List.mem_of_getElem? (i := 139) rfl)) rfl), (gd (tk1 (List.mem_of_getElem? (i := 3) rfl)) rfl), ⟨(gd (tk4 (List.mem_of_getElem? (i := 137) rfl)) rfl), (gd (tk4 (List.mem_of_getElem? (i := 138) rfl)) rfl)⟩, rfl⟩
set_option maxRecDepth 50000 in
theorem qk_Ra_partOf : QOK qRa_partOf := ⟨(gd (tk4 (List.mem_of_getElem? (i := 174) rfl)) rfl), (gd (tk1 (List.mem_of_getElem? (i := 3) rfl)) rfl), ⟨(gd (tk4 (List.mem_of_getElem? (i := 172) rfl)) rfl), (gd (tk4 (List.mem_of_getElem? (i := 173) rfl)) rfl)⟩, rfl⟩
set_option maxRecDepth 50000 in
theorem qk_Ra_joinShops : QOK qRa_joinShops := ⟨(gd (tk6 (List.mem_of_getElem? (i := 40) rfl)) rfl), (gd (tk1 (List.mem_of_getElem? (i := 3) rfl)) rfl), ⟨(gd (tk6 (List.mem_of_getElem? (i := 38) rfl)) rfl), (gd (tk6 (List.mem_of_getElem? (i := 39) rfl)) rfl)⟩, rfl⟩
set_option maxRecDepth 50000 in
theorem qk_Ra_moveShop : QOK qRa_moveShop := ⟨(gd (tk6 (List.mem_of_getElem? (i := 45) rfl)) rfl), (gd (tk1 (List.mem_of_getElem? (i := 3) rfl)) rfl), ⟨(gd (tk6 (List.mem_of_getElem? (i := 44) rfl)) rfl), (gd (tp4 (List.mem_of_getElem? (i := 6) rfl)) rfl)⟩, rfl⟩
set_option maxRecDepth 50000 in
theorem qk_Re_takeIn : QOK qRe_takeIn := ⟨(gd (tk2 (List.mem_of_getElem? (i := 182) rfl)) rfl), (gd (tk1 (List.mem_of_getElem? (i := 2) rfl)) rfl), ⟨(gd (tk2 (List.mem_of_getElem? (i := 180) rfl)) rfl), (gd (tk2 (List.mem_of_getElem? (i := 181) rfl)) rfl)⟩, rfl⟩
set_option maxRecDepth 50000 in
theorem qk_Re_read : QOK qRe_read := ⟨(gd (tk3 (List.mem_of_getElem? (i := 54) rfl)) rfl), (gd (tk1 (List.mem_of_getElem? (i := 2) rfl)) rfl), ⟨(gd (tk3 (List.mem_of_getElem? (i := 52) rfl)) rfl), (gd (tk3 (List.mem_of_getElem? (i := 53) rfl)) rfl)⟩, rfl⟩
set_option maxRecDepth 50000 in
theorem qk_Re_hasMore : QOK qRe_hasMore := ⟨(gd (tk3 (List.mem_of_getElem? (i := 70) rfl)) rfl), (gd (tk1 (List.mem_of_getElem? (i := 2) rfl)) rfl), ⟨(gd (tk3 (List.mem_of_getElem? (i := 69) rfl)) rfl), (gd (tp1 (List.mem_of_getElem? (i := 1) rfl)) rfl)⟩, rfl⟩
set_option maxRecDepth 50000 in
theorem qk_Re_readClause : QOK qRe_readClause := ⟨(gd (tk3 (List.mem_of_getElem? (i := 78) rfl)) rfl), (gd (tk1 (List.mem_of_getElem? (i := 2) rfl)) rfl), ⟨(gd (tk3 (List.mem_of_getElem? (i := 77) rfl)) rfl), (gd (tp1 (List.mem_of_getElem? (i := 3) rfl)) rfl)⟩, rfl⟩
set_option maxRecDepth 50000 in
theorem qk_Re_readShop : QOK qRe_readShop := ⟨(gd (tk3 (List.mem_of_getElem? (i := 142) rfl)) rfl), (gd (tk1 (List.mem_of_getElem? (i := 2) rfl)) rfl), ⟨(gd (tk3 (List.mem_of_getElem? (i := 141) rfl)) rfl), (gd (tp1 (List.mem_of_getElem? (i := 6) rfl)) rfl)⟩, rfl⟩
set_option maxRecDepth 50000 in
theorem qk_Re_beginTerms : QOK qRe_beginTerms := ⟨(gd (tk3 (List.mem_of_getElem? (i := 172) rfl)) rfl), (gd (tk1 (List.mem_of_getElem? (i := 2) rfl)) rfl), ⟨(gd (tk3 (List.mem_of_getElem? (i := 171) rfl)) rfl), (gd (tp1 (List.mem_of_getElem? (i := 10) rfl)) rfl)⟩, rfl⟩
set_option maxRecDepth 50000 in
theorem qk_Re_readChoice : QOK qRe_readChoice := ⟨(gd (tk3 (List.mem_of_getElem? (i := 176) rfl)) rfl), (gd (tk1 (List.mem_of_getElem? (i := 2) rfl)) rfl), ⟨(gd (tk3 (List.mem_of_getElem? (i := 175) rfl)) rfl), (gd (tp1 (List.mem_of_getElem? (i := 11) rfl)) rfl)⟩, rfl⟩
set_option maxRecDepth 50000 in
theorem qk_Re_readBoth : QOK qRe_readBoth := ⟨(gd (tk3 (List.mem_of_getElem? (i := 180) rfl)) rfl), (gd (tk1 (List.mem_of_getElem? (i := 2) rfl)) rfl), ⟨(gd (tk3 (List.mem_of_getElem? (i := 179) rfl)) rfl), (gd (tp1 (List.mem_of_getElem? (i := 12) rfl)) rfl)⟩, rfl⟩
set_option maxRecDepth 50000 in
theorem qk_Re_readCheck : QOK qRe_readCheck := ⟨(gd (tk3 (List.mem_of_getElem? (i := 184) rfl)) rfl), (gd (tk1 (List.mem_of_getElem? (i := 2) rfl)) rfl), ⟨(gd (tk3 (List.mem_of_getElem? (i := 183) rfl)) rfl), (gd (tp1 (List.mem_of_getElem? (i := 13) rfl)) rfl)⟩, rfl⟩
set_option maxRecDepth 50000 in
theorem qk_Re_takeRelation : QOK qRe_takeRelation := ⟨(gd (tk3 (List.mem_of_getElem? (i := 220) rfl)) rfl), (gd (tk1 (List.mem_of_getElem? (i := 2) rfl)) rfl), ⟨(gd (tk3 (List.mem_of_getElem? (i := 219) rfl)) rfl), (gd (tp2 (List.mem_of_getElem? (i := 4) rfl)) rfl)⟩, rfl⟩
set_option maxRecDepth 50000 in
theorem qk_Re_readSum : QOK qRe_readSum := ⟨(gd (tk3 (List.mem_of_getElem? (i := 205) rfl)) rfl), (gd (tk1 (List.mem_of_getElem? (i := 2) rfl)) rfl), ⟨(gd (tk3 (List.mem_of_getElem? (i := 204) rfl)) rfl), (gd (tp2 (List.mem_of_getElem? (i := 1) rfl)) rfl)⟩, rfl⟩
set_option maxRecDepth 50000 in
theorem qk_Re_readProduct : QOK qRe_readProduct := ⟨(gd (tk3 (List.mem_of_getElem? (i := 209) rfl)) rfl), (gd (tk1 (List.mem_of_getElem? (i := 2) rfl)) rfl), ⟨(gd (tk3 (List.mem_of_getElem? (i := 208) rfl)) rfl), (gd (tp2 (List.mem_of_getElem? (i := 2) rfl)) rfl)⟩, rfl⟩
set_option maxRecDepth 50000 in
theorem qk_Re_readUnit : QOK qRe_readUnit := ⟨(gd (tk3 (List.mem_of_getElem? (i := 213) rfl)) rfl), (gd (tk1 (List.mem_of_getElem? (i := 2) rfl)) rfl), ⟨(gd (tk3 (List.mem_of_getElem? (i := 212) rfl)) rfl), (gd (tp2 (List.mem_of_getElem? (i := 3) rfl)) rfl)⟩, rfl⟩
set_option maxRecDepth 50000 in
theorem qk_Re_mayOpen : QOK qRe_mayOpen := ⟨(gd (tk3 (List.mem_of_getElem? (i := 189) rfl)) rfl), (gd (tk1 (List.mem_of_getElem? (i := 2) rfl)) rfl), ⟨(gd (tk3 (List.mem_of_getElem? (i := 188) rfl)) rfl), (gd (tp1 (List.mem_of_getElem? (i := 14) rfl)) rfl)⟩, rfl⟩
set_option maxRecDepth 50000 in
theorem qk_Re_number : QOK qRe_number := ⟨(gd (tk3 (List.mem_of_getElem? (i := 150) rfl)) rfl), (gd (tk1 (List.mem_of_getElem? (i := 2) rfl)) rfl), ⟨(gd (tk3 (List.mem_of_getElem? (i := 149) rfl)) rfl), (gd (tp1 (List.mem_of_getElem? (i := 8) rfl)) rfl)⟩, rfl⟩
set_option maxRecDepth 50000 in
theorem qk_Re_takeWord : QOK qRe_takeWord := ⟨(gd (tk3 (List.mem_of_getElem? (i := 83) rfl)) rfl), (gd (tk1 (List.mem_of_getElem? (i := 2) rfl)) rfl), ⟨(gd (tk3 (List.mem_of_getElem? (i := 82) rfl)) rfl), (gd (tp1 (List.mem_of_getElem? (i := 4) rfl)) rfl)⟩, rfl⟩
set_option maxRecDepth 50000 in
theorem qk_Re_takeSign : QOK qRe_takeSign := ⟨(gd (tk3 (List.mem_of_getElem? (i := 197) rfl)) rfl), (gd (tk1 (List.mem_of_getElem? (i := 2) rfl)) rfl), ⟨(gd (tk3 (List.mem_of_getElem? (i := 196) rfl)) rfl), (gd (tp1 (List.mem_of_getElem? (i := 15) rfl)) rfl)⟩, rfl⟩
set_option maxRecDepth 50000 in
theorem qk_Re_demandWord : QOK qRe_demandWord := ⟨(gd (tk3 (List.mem_of_getElem? (i := 162) rfl)) rfl), (gd (tk1 (List.mem_of_getElem? (i := 2) rfl)) rfl), ⟨(gd (tk3 (List.mem_of_getElem? (i := 161) rfl)) rfl), (gd (tp1 (List.mem_of_getElem? (i := 9) rfl)) rfl)⟩, rfl⟩
set_option maxRecDepth 50000 in
theorem qk_Re_demandSign : QOK qRe_demandSign := ⟨(gd (tk3 (List.mem_of_getElem? (i := 201) rfl)) rfl), (gd (tk1 (List.mem_of_getElem? (i := 2) rfl)) rfl), ⟨(gd (tk3 (List.mem_of_getElem? (i := 200) rfl)) rfl), (gd (tp2 (List.mem_of_getElem? (i := 0) rfl)) rfl)⟩, rfl⟩
set_option maxRecDepth 50000 in
theorem qk_Re_skipBlanks : QOK qRe_skipBlanks := ⟨(gd (tk3 (List.mem_of_getElem? (i := 74) rfl)) rfl), (gd (tk1 (List.mem_of_getElem? (i := 2) rfl)) rfl), ⟨(gd (tk3 (List.mem_of_getElem? (i := 73) rfl)) rfl), (gd (tp1 (List.mem_of_getElem? (i := 2) rfl)) rfl)⟩, rfl⟩
set_option maxRecDepth 50000 in
theorem qk_Re_refuse : QOK qRe_refuse := ⟨(gd (tk3 (List.mem_of_getElem? (i := 146) rfl)) rfl), (gd (tk1 (List.mem_of_getElem? (i := 2) rfl)) rfl), ⟨(gd (tk3 (List.mem_of_getElem? (i := 145) rfl)) rfl), (gd (tp1 (List.mem_of_getElem? (i := 7) rfl)) rfl)⟩, rfl⟩
set_option maxRecDepth 50000 in
theorem qk_Re_signAt : QOK qRe_signAt := ⟨(gd (tk3 (List.mem_of_getElem? (i := 87) rfl)) rfl), (gd (tk1 (List.mem_of_getElem? (i := 2) rfl)) rfl), ⟨(gd (tk3 (List.mem_of_getElem? (i := 86) rfl)) rfl), (gd (tp1 (List.mem_of_getElem? (i := 5) rfl)) rfl)⟩, rfl⟩
set_option maxRecDepth 50000 in
theorem qk_Re_isDigit : QOK qRe_isDigit := ⟨(gd (tk3 (List.mem_of_getElem? (i := 153) rfl)) rfl), (gd (tk1 (List.mem_of_getElem? (i := 2) rfl)) rfl), (gd (tk3 (List.mem_of_getElem? (i := 152) rfl)) rfl), rfl⟩
set_option maxRecDepth 50000 in
theorem qk_Re_isLetter : QOK qRe_isLetter := ⟨(gd (tk3 (List.mem_of_getElem? (i := 90) rfl)) rfl), (gd (tk1 (List.mem_of_getElem? (i := 2) rfl)) rfl), (gd (tk3 (List.mem_of_getElem? (i := 89) rfl)) rfl), rfl⟩
set_option maxRecDepth 50000 in
theorem qk_Re_workConditions : QOK qRe_workConditions := ⟨(gd (tk3 (List.mem_of_getElem? (i := 227) rfl)) rfl), (gd (tk1 (List.mem_of_getElem? (i := 2) rfl)) rfl), ⟨(gd (tk3 (List.mem_of_getElem? (i := 226) rfl)) rfl), (gd (tp2 (List.mem_of_getElem? (i := 5) rfl)) rfl)⟩, rfl⟩
set_option maxRecDepth 50000 in
theorem qk_Te_clear : QOK qTe_clear := ⟨(gd (tk3 (List.mem_of_getElem? (i := 66) rfl)) rfl), (gd (tk1 (List.mem_of_getElem? (i := 4) rfl)) rfl), ⟨(gd (tk3 (List.mem_of_getElem? (i := 64) rfl)) rfl), (gd (tk3 (List.mem_of_getElem? (i := 65) rfl)) rfl)⟩, rfl⟩
set_option maxRecDepth 50000 in
theorem qk_Te_isTold : QOK qTe_isTold := ⟨(gd (tk3 (List.mem_of_getElem? (i := 234) rfl)) rfl), (gd (tk1 (List.mem_of_getElem? (i := 4) rfl)) rfl), ⟨(gd (tk3 (List.mem_of_getElem? (i := 232) rfl)) rfl), (gd (tk3 (List.mem_of_getElem? (i := 233) rfl)) rfl)⟩, rfl⟩
set_option maxRecDepth 50000 in
theorem qk_Te_put : QOK qTe_put := ⟨(gd (tk3 (List.mem_of_getElem? (i := 193) rfl)) rfl), (gd (tk1 (List.mem_of_getElem? (i := 4) rfl)) rfl), ⟨(gd (tk3 (List.mem_of_getElem? (i := 191) rfl)) rfl), (gd (tk3 (List.mem_of_getElem? (i := 192) rfl)) rfl)⟩, rfl⟩
set_option maxRecDepth 50000 in
theorem qk_Te_holds : QOK qTe_holds := ⟨(gd (tk3 (List.mem_of_getElem? (i := 238) rfl)) rfl), (gd (tk1 (List.mem_of_getElem? (i := 4) rfl)) rfl), ⟨(gd (tk3 (List.mem_of_getElem? (i := 236) rfl)) rfl), (gd (tk3 (List.mem_of_getElem? (i := 237) rfl)) rfl)⟩, rfl⟩
set_option maxRecDepth 50000 in
theorem qk_Te_work : QOK qTe_work := ⟨(gd (tk4 (List.mem_of_getElem? (i := 9) rfl)) rfl), (gd (tk1 (List.mem_of_getElem? (i := 4) rfl)) rfl), (gd (tk4 (List.mem_of_getElem? (i := 8) rfl)) rfl), rfl⟩
set_option maxRecDepth 50000 in
theorem qk_Te_push : QOK qTe_push := ⟨(gd (tk4 (List.mem_of_getElem? (i := 2) rfl)) rfl), (gd (tk1 (List.mem_of_getElem? (i := 4) rfl)) rfl), ⟨(gd (tk4 (List.mem_of_getElem? (i := 1) rfl)) rfl), (gd (tp2 (List.mem_of_getElem? (i := 6) rfl)) rfl)⟩, rfl⟩
set_option maxRecDepth 50000 in
theorem qk_Te_pop : QOK qTe_pop := ⟨(gd (tk4 (List.mem_of_getElem? (i := 6) rfl)) rfl), (gd (tk1 (List.mem_of_getElem? (i := 4) rfl)) rfl), ⟨(gd (tk4 (List.mem_of_getElem? (i := 5) rfl)) rfl), (gd (tp2 (List.mem_of_getElem? (i := 7) rfl)) rfl)⟩, rfl⟩
set_option maxRecDepth 50000 in
theorem qk_Un_bestAnswer : QOK qUn_bestAnswer := ⟨(gd (tk5 (List.mem_of_getElem? (i := 135) rfl)) rfl), (gd (tk1 (List.mem_of_getElem? (i := 9) rfl)) rfl), ⟨(gd (tk5 (List.mem_of_getElem? (i := 133) rfl)) rfl), (gd (tk5 (List.mem_of_getElem? (i := 134) rfl)) rfl)⟩, rfl⟩
set_option maxRecDepth 50000 in
theorem qk_Un_spreadCrowd : QOK qUn_spreadCrowd := ⟨(gd (tk5 (List.mem_of_getElem? (i := 140) rfl)) rfl), (gd (tk1 (List.mem_of_getElem? (i := 9) rfl)) rfl), ⟨(gd (tk5 (List.mem_of_getElem? (i := 139) rfl)) rfl), (gd (tp3 (List.mem_of_getElem? (i := 12) rfl)) rfl)⟩, rfl⟩
set_option maxRecDepth 50000 in
theorem qk_Un_spreadFrom : QOK qUn_spreadFrom := ⟨(gd (tk5 (List.mem_of_getElem? (i := 151) rfl)) rfl), (gd (tk1 (List.mem_of_getElem? (i := 9) rfl)) rfl), ⟨(gd (tk5 (List.mem_of_getElem? (i := 150) rfl)) rfl), (gd (tp3 (List.mem_of_getElem? (i := 14) rfl)) rfl)⟩, rfl⟩
set_option maxRecDepth 50000 in
theorem qk_Un_winnersIn : QOK qUn_winnersIn := ⟨(gd (tk5 (List.mem_of_getElem? (i := 146) rfl)) rfl), (gd (tk1 (List.mem_of_getElem? (i := 9) rfl)) rfl), ⟨(gd (tk5 (List.mem_of_getElem? (i := 145) rfl)) rfl), (gd (tp3 (List.mem_of_getElem? (i := 13) rfl)) rfl)⟩, rfl⟩
set_option maxRecDepth 50000 in
theorem qk_Un_paidAfter : QOK qUn_paidAfter := ⟨(gd (tk5 (List.mem_of_getElem? (i := 155) rfl)) rfl), (gd (tk1 (List.mem_of_getElem? (i := 9) rfl)) rfl), ⟨(gd (tk5 (List.mem_of_getElem? (i := 154) rfl)) rfl), (gd (tp3 (List.mem_of_getElem? (i := 15) rfl)) rfl)⟩, rfl⟩
set_option maxRecDepth 50000 in
theorem qk_Un_findBests : QOK qUn_findBests := ⟨(gd (tk5 (List.mem_of_getElem? (i := 161) rfl)) rfl), (gd (tk1 (List.mem_of_getElem? (i := 9) rfl)) rfl), ⟨(gd (tk5 (List.mem_of_getElem? (i := 160) rfl)) rfl), (gd (tp4 (List.mem_of_getElem? (i := 0) rfl)) rfl)⟩, rfl⟩
set_option maxRecDepth 50000 in
theorem qk_We_open : QOK qWe_open := ⟨(gd (tk4 (List.mem_of_getElem? (i := 128) rfl)) rfl), (gd (tk1 (List.mem_of_getElem? (i := 7) rfl)) rfl), ⟨(gd (tk4 (List.mem_of_getElem? (i := 126) rfl)) rfl), (gd (tk4 (List.mem_of_getElem? (i := 127) rfl)) rfl)⟩, rfl⟩
set_option maxRecDepth 50000 in
theorem qk_We_openShop : QOK qWe_openShop := ⟨(gd (tk4 (List.mem_of_getElem? (i := 132) rfl)) rfl), (gd (tk1 (List.mem_of_getElem? (i := 7) rfl)) rfl), ⟨(gd (tk4 (List.mem_of_getElem? (i := 131) rfl)) rfl), (gd (tp2 (List.mem_of_getElem? (i := 12) rfl)) rfl)⟩, rfl⟩
set_option maxRecDepth 50000 in
theorem qk_We_openEnd : QOK qWe_openEnd := ⟨(gd (tk4 (List.mem_of_getElem? (i := 147) rfl)) rfl), (gd (tk1 (List.mem_of_getElem? (i := 7) rfl)) rfl), ⟨(gd (tk4 (List.mem_of_getElem? (i := 146) rfl)) rfl), (gd (tp2 (List.mem_of_getElem? (i := 13) rfl)) rfl)⟩, rfl⟩
set_option maxRecDepth 50000 in
theorem qk_We_narrow : QOK qWe_narrow := ⟨(gd (tk5 (List.mem_of_getElem? (i := 82) rfl)) rfl), (gd (tk1 (List.mem_of_getElem? (i := 7) rfl)) rfl), ⟨(gd (tk5 (List.mem_of_getElem? (i := 80) rfl)) rfl), (gd (tk5 (List.mem_of_getElem? (i := 81) rfl)) rfl)⟩, rfl⟩
set_option maxRecDepth 50000 in
theorem qk_We_price : QOK qWe_price := ⟨(gd (tk4 (List.mem_of_getElem? (i := 155) rfl)) rfl), (gd (tk1 (List.mem_of_getElem? (i := 7) rfl)) rfl), ⟨(gd (tk4 (List.mem_of_getElem? (i := 153) rfl)) rfl), (gd (tk4 (List.mem_of_getElem? (i := 154) rfl)) rfl)⟩, rfl⟩
set_option maxRecDepth 50000 in
theorem qk_We_priceEnd : QOK qWe_priceEnd := ⟨(gd (tk4 (List.mem_of_getElem? (i := 159) rfl)) rfl), (gd (tk1 (List.mem_of_getElem? (i := 7) rfl)) rfl), ⟨(gd (tk4 (List.mem_of_getElem? (i := 158) rfl)) rfl), (gd (tp2 (List.mem_of_getElem? (i := 14) rfl)) rfl)⟩, rfl⟩
set_option maxRecDepth 50000 in
theorem qk_We_fold : QOK qWe_fold := ⟨(gd (tk4 (List.mem_of_getElem? (i := 187) rfl)) rfl), (gd (tk1 (List.mem_of_getElem? (i := 7) rfl)) rfl), ⟨(gd (tk4 (List.mem_of_getElem? (i := 186) rfl)) rfl), (gd (tp2 (List.mem_of_getElem? (i := 15) rfl)) rfl)⟩, rfl⟩
set_option maxRecDepth 50000 in
theorem qk_We_foldAt : QOK qWe_foldAt := ⟨(gd (tk4 (List.mem_of_getElem? (i := 191) rfl)) rfl), (gd (tk1 (List.mem_of_getElem? (i := 7) rfl)) rfl), ⟨(gd (tk4 (List.mem_of_getElem? (i := 190) rfl)) rfl), (gd (tp3 (List.mem_of_getElem? (i := 0) rfl)) rfl)⟩, rfl⟩
set_option maxRecDepth 50000 in
theorem qk_We_takeRow : QOK qWe_takeRow := ⟨(gd (tk5 (List.mem_of_getElem? (i := 191) rfl)) rfl), (gd (tk1 (List.mem_of_getElem? (i := 7) rfl)) rfl), ⟨(gd (tk5 (List.mem_of_getElem? (i := 189) rfl)) rfl), (gd (tk5 (List.mem_of_getElem? (i := 190) rfl)) rfl)⟩, rfl⟩
set_option maxRecDepth 50000 in
theorem qk_We_weightOf : QOK qWe_weightOf := ⟨(gd (tk5 (List.mem_of_getElem? (i := 199) rfl)) rfl), (gd (tk1 (List.mem_of_getElem? (i := 7) rfl)) rfl), ⟨(gd (tk5 (List.mem_of_getElem? (i := 197) rfl)) rfl), (gd (tk5 (List.mem_of_getElem? (i := 198) rfl)) rfl)⟩, rfl⟩
set_option maxRecDepth 50000 in
theorem qk_We_modesOf : QOK qWe_modesOf := ⟨(gd (tk5 (List.mem_of_getElem? (i := 207) rfl)) rfl), (gd (tk1 (List.mem_of_getElem? (i := 7) rfl)) rfl), ⟨(gd (tk5 (List.mem_of_getElem? (i := 205) rfl)) rfl), (gd (tk5 (List.mem_of_getElem? (i := 206) rfl)) rfl)⟩, rfl⟩
set_option maxRecDepth 50000 in
theorem qk_We_chanceOf : QOK qWe_chanceOf := ⟨(gd (tk5 (List.mem_of_getElem? (i := 203) rfl)) rfl), (gd (tk1 (List.mem_of_getElem? (i := 7) rfl)) rfl), ⟨(gd (tk5 (List.mem_of_getElem? (i := 201) rfl)) rfl), (gd (tk5 (List.mem_of_getElem? (i := 202) rfl)) rfl)⟩, rfl⟩
set_option maxRecDepth 50000 in
theorem qk_We_canRow : QOK qWe_canRow := ⟨(gd (tk4 (List.mem_of_getElem? (i := 217) rfl)) rfl), (gd (tk1 (List.mem_of_getElem? (i := 7) rfl)) rfl), ⟨(gd (tk4 (List.mem_of_getElem? (i := 215) rfl)) rfl), (gd (tk4 (List.mem_of_getElem? (i := 216) rfl)) rfl)⟩, rfl⟩
set_option maxRecDepth 50000 in
theorem qk_We_costOfAll : QOK qWe_costOfAll := ⟨(gd (tk5 (List.mem_of_getElem? (i := 195) rfl)) rfl), (gd (tk1 (List.mem_of_getElem? (i := 7) rfl)) rfl), ⟨(gd (tk5 (List.mem_of_getElem? (i := 193) rfl)) rfl), (gd (tk5 (List.mem_of_getElem? (i := 194) rfl)) rfl)⟩, rfl⟩
set_option maxRecDepth 50000 in
theorem qk_La_race : QOK qLa_race := ⟨(gd (tk2 (List.mem_of_getElem? (i := 217) rfl)) rfl), (gd (tk1 (List.mem_of_getElem? (i := 0) rfl)) rfl), (gd (tk2 (List.mem_of_getElem? (i := 216) rfl)) rfl), rfl⟩
set_option maxRecDepth 50000 in
theorem qk_La_told : QOK qLa_told := ⟨(gd (tk4 (List.mem_of_getElem? (i := 33) rfl)) rfl), (gd (tk1 (List.mem_of_getElem? (i := 0) rfl)) rfl), (gd (tk4 (List.mem_of_getElem? (i := 32) rfl)) rfl), rfl⟩
set_option maxRecDepth 50000 in
theorem qk_La_shop : QOK qLa_shop := ⟨(gd (tk4 (List.mem_of_getElem? (i := 41) rfl)) rfl), (gd (tk1 (List.mem_of_getElem? (i := 0) rfl)) rfl), (gd (tk4 (List.mem_of_getElem? (i := 40) rfl)) rfl), rfl⟩
set_option maxRecDepth 50000 in
theorem qk_La_worth : QOK qLa_worth := ⟨(gd (tk4 (List.mem_of_getElem? (i := 77) rfl)) rfl), (gd (tk1 (List.mem_of_getElem? (i := 0) rfl)) rfl), (gd (tk4 (List.mem_of_getElem? (i := 76) rfl)) rfl), rfl⟩
set_option maxRecDepth 50000 in
theorem qk_La_doing : QOK qLa_doing := ⟨(gd (tk4 (List.mem_of_getElem? (i := 231) rfl)) rfl), (gd (tk1 (List.mem_of_getElem? (i := 0) rfl)) rfl), (gd (tk4 (List.mem_of_getElem? (i := 230) rfl)) rfl), rfl⟩
set_option maxRecDepth 50000 in
theorem qk_La_gain : QOK qLa_gain := ⟨(gd (tk5 (List.mem_of_getElem? (i := 7) rfl)) rfl), (gd (tk1 (List.mem_of_getElem? (i := 0) rfl)) rfl), (gd (tk5 (List.mem_of_getElem? (i := 6) rfl)) rfl), rfl⟩
set_option maxRecDepth 50000 in
theorem qk_La_unrest : QOK qLa_unrest := ⟨(gd (tk5 (List.mem_of_getElem? (i := 18) rfl)) rfl), (gd (tk1 (List.mem_of_getElem? (i := 0) rfl)) rfl), (gd (tk5 (List.mem_of_getElem? (i := 17) rfl)) rfl), rfl⟩
set_option maxRecDepth 50000 in
theorem qk_La_rule : QOK qLa_rule := ⟨(gd (tk5 (List.mem_of_getElem? (i := 35) rfl)) rfl), (gd (tk1 (List.mem_of_getElem? (i := 0) rfl)) rfl), (gd (tk5 (List.mem_of_getElem? (i := 34) rfl)) rfl), rfl⟩
set_option maxRecDepth 50000 in
theorem qk_La_follow : QOK qLa_follow := ⟨(gd (tk5 (List.mem_of_getElem? (i := 53) rfl)) rfl), (gd (tk1 (List.mem_of_getElem? (i := 0) rfl)) rfl), (gd (tk5 (List.mem_of_getElem? (i := 52) rfl)) rfl), rfl⟩
set_option maxRecDepth 50000 in
theorem qk_La_judged : QOK qLa_judged := ⟨(gd (tk5 (List.mem_of_getElem? (i := 60) rfl)) rfl), (gd (tk1 (List.mem_of_getElem? (i := 0) rfl)) rfl), (gd (tk5 (List.mem_of_getElem? (i := 59) rfl)) rfl), rfl⟩
set_option maxRecDepth 50000 in
theorem qk_La_breaks : QOK qLa_breaks := ⟨(gd (tk5 (List.mem_of_getElem? (i := 86) rfl)) rfl), (gd (tk1 (List.mem_of_getElem? (i := 0) rfl)) rfl), (gd (tk5 (List.mem_of_getElem? (i := 85) rfl)) rfl), rfl⟩
set_option maxRecDepth 50000 in
theorem qk_La_alone : QOK qLa_alone := ⟨(gd (tk5 (List.mem_of_getElem? (i := 107) rfl)) rfl), (gd (tk1 (List.mem_of_getElem? (i := 0) rfl)) rfl), (gd (tk5 (List.mem_of_getElem? (i := 106) rfl)) rfl), rfl⟩
set_option maxRecDepth 50000 in
theorem qk_La_best : QOK qLa_best := ⟨(gd (tk5 (List.mem_of_getElem? (i := 119) rfl)) rfl), (gd (tk1 (List.mem_of_getElem? (i := 0) rfl)) rfl), (gd (tk5 (List.mem_of_getElem? (i := 118) rfl)) rfl), rfl⟩
set_option maxRecDepth 50000 in
theorem qk_La_answer : QOK qLa_answer := ⟨(gd (tk5 (List.mem_of_getElem? (i := 126) rfl)) rfl), (gd (tk1 (List.mem_of_getElem? (i := 0) rfl)) rfl), (gd (tk5 (List.mem_of_getElem? (i := 125) rfl)) rfl), rfl⟩
set_option maxRecDepth 50000 in
theorem qk_La_first : QOK qLa_first := ⟨(gd (tk5 (List.mem_of_getElem? (i := 167) rfl)) rfl), (gd (tk1 (List.mem_of_getElem? (i := 0) rfl)) rfl), (gd (tk5 (List.mem_of_getElem? (i := 166) rfl)) rfl), rfl⟩
set_option maxRecDepth 50000 in
theorem qk_La_late : QOK qLa_late := ⟨(gd (tk5 (List.mem_of_getElem? (i := 214) rfl)) rfl), (gd (tk1 (List.mem_of_getElem? (i := 0) rfl)) rfl), (gd (tk5 (List.mem_of_getElem? (i := 213) rfl)) rfl), rfl⟩
set_option maxRecDepth 50000 in
theorem qk_La_waste : QOK qLa_waste := ⟨(gd (tk5 (List.mem_of_getElem? (i := 221) rfl)) rfl), (gd (tk1 (List.mem_of_getElem? (i := 0) rfl)) rfl), (gd (tk5 (List.mem_of_getElem? (i := 220) rfl)) rfl), rfl⟩
set_option maxRecDepth 50000 in
theorem qk_La_harder : QOK qLa_harder := ⟨(gd (tk5 (List.mem_of_getElem? (i := 228) rfl)) rfl), (gd (tk1 (List.mem_of_getElem? (i := 0) rfl)) rfl), (gd (tk5 (List.mem_of_getElem? (i := 227) rfl)) rfl), rfl⟩
set_option maxRecDepth 50000 in
theorem qk_La_behind : QOK qLa_behind := ⟨(gd (tk6 (List.mem_of_getElem? (i := 5) rfl)) rfl), (gd (tk1 (List.mem_of_getElem? (i := 0) rfl)) rfl), (gd (tk6 (List.mem_of_getElem? (i := 4) rfl)) rfl), rfl⟩
set_option maxRecDepth 50000 in
theorem qk_La_leavers : QOK qLa_leavers := ⟨(gd (tk6 (List.mem_of_getElem? (i := 16) rfl)) rfl), (gd (tk1 (List.mem_of_getElem? (i := 0) rfl)) rfl), (gd (tk6 (List.mem_of_getElem? (i := 15) rfl)) rfl), rfl⟩
set_option maxRecDepth 50000 in
theorem qk_La_joined : QOK qLa_joined := ⟨(gd (tk6 (List.mem_of_getElem? (i := 27) rfl)) rfl), (gd (tk1 (List.mem_of_getElem? (i := 0) rfl)) rfl), (gd (tk6 (List.mem_of_getElem? (i := 26) rfl)) rfl), rfl⟩
set_option maxRecDepth 50000 in
theorem qk_La_sold : QOK qLa_sold := ⟨(gd (tk6 (List.mem_of_getElem? (i := 48) rfl)) rfl), (gd (tk1 (List.mem_of_getElem? (i := 0) rfl)) rfl), (gd (tk6 (List.mem_of_getElem? (i := 47) rfl)) rfl), rfl⟩
set_option maxRecDepth 50000 in
theorem qk_La_offer : QOK qLa_offer := ⟨(gd (tk6 (List.mem_of_getElem? (i := 56) rfl)) rfl), (gd (tk1 (List.mem_of_getElem? (i := 0) rfl)) rfl), (gd (tk6 (List.mem_of_getElem? (i := 55) rfl)) rfl), rfl⟩
set_option maxRecDepth 50000 in
theorem qk_La_king : QOK qLa_king := ⟨(gd (tk6 (List.mem_of_getElem? (i := 68) rfl)) rfl), (gd (tk1 (List.mem_of_getElem? (i := 0) rfl)) rfl), (gd (tk6 (List.mem_of_getElem? (i := 67) rfl)) rfl), rfl⟩
set_option maxRecDepth 50000 in
theorem qk_La_entry : QOK qLa_entry := ⟨(gd (tk6 (List.mem_of_getElem? (i := 88) rfl)) rfl), (gd (tk1 (List.mem_of_getElem? (i := 0) rfl)) rfl), (gd (tk6 (List.mem_of_getElem? (i := 87) rfl)) rfl), rfl⟩
set_option maxRecDepth 50000 in
theorem qk_La_edge : QOK qLa_edge := ⟨(gd (tk6 (List.mem_of_getElem? (i := 102) rfl)) rfl), (gd (tk1 (List.mem_of_getElem? (i := 0) rfl)) rfl), (gd (tk6 (List.mem_of_getElem? (i := 101) rfl)) rfl), rfl⟩
set_option maxRecDepth 50000 in
theorem qk_La_run : QOK qLa_run := ⟨(gd (tk6 (List.mem_of_getElem? (i := 114) rfl)) rfl), (gd (tk1 (List.mem_of_getElem? (i := 0) rfl)) rfl), (gd (tk6 (List.mem_of_getElem? (i := 113) rfl)) rfl), rfl⟩
set_option maxRecDepth 50000 in
theorem qk_Ji_bitCount : QOK qJi_bitCount := ⟨(gd (tk4 (List.mem_of_getElem? (i := 177) rfl)) rfl), (gd (tk1 (List.mem_of_getElem? (i := 24) rfl)) rfl), (gd (tk4 (List.mem_of_getElem? (i := 176) rfl)) rfl), rfl⟩
set_option maxRecDepth 50000 in
theorem qk_Jm_max : QOK qJm_max := ⟨(gd (tk4 (List.mem_of_getElem? (i := 183) rfl)) rfl), (gd (tk1 (List.mem_of_getElem? (i := 20) rfl)) rfl), (gd (tk4 (List.mem_of_getElem? (i := 182) rfl)) rfl), rfl⟩
set_option maxRecDepth 50000 in
theorem qk_Jm_maxJ : QOK qJm_maxJ := ⟨(gd (tk4 (List.mem_of_getElem? (i := 209) rfl)) rfl), (gd (tk1 (List.mem_of_getElem? (i := 20) rfl)) rfl), (gd (tk4 (List.mem_of_getElem? (i := 208) rfl)) rfl), rfl⟩
set_option maxRecDepth 50000 in
theorem qk_Jm_min : QOK qJm_min := ⟨(gd (tk3 (List.mem_of_getElem? (i := 156) rfl)) rfl), (gd (tk1 (List.mem_of_getElem? (i := 20) rfl)) rfl), (gd (tk3 (List.mem_of_getElem? (i := 155) rfl)) rfl), rfl⟩
set_option maxRecDepth 50000 in
theorem qk_Js_length : QOK qJs_length := ⟨(gd (tk3 (List.mem_of_getElem? (i := 94) rfl)) rfl), (gd (tk1 (List.mem_of_getElem? (i := 16) rfl)) rfl), ⟨(gd (tk3 (List.mem_of_getElem? (i := 92) rfl)) rfl), (gd (tk3 (List.mem_of_getElem? (i := 93) rfl)) rfl)⟩, rfl⟩
set_option maxRecDepth 50000 in
theorem qk_Js_charAt : QOK qJs_charAt := ⟨(gd (tk3 (List.mem_of_getElem? (i := 104) rfl)) rfl), (gd (tk1 (List.mem_of_getElem? (i := 16) rfl)) rfl), ⟨(gd (tk3 (List.mem_of_getElem? (i := 102) rfl)) rfl), (gd (tk3 (List.mem_of_getElem? (i := 103) rfl)) rfl)⟩, rfl⟩
set_option maxRecDepth 50000 in
theorem qk_Js_coder : QOK qJs_coder := ⟨(gd (tk3 (List.mem_of_getElem? (i := 98) rfl)) rfl), (gd (tk1 (List.mem_of_getElem? (i := 16) rfl)) rfl), ⟨(gd (tk3 (List.mem_of_getElem? (i := 96) rfl)) rfl), (gd (tk3 (List.mem_of_getElem? (i := 97) rfl)) rfl)⟩, rfl⟩
set_option maxRecDepth 50000 in
theorem qk_Js_isLatin1 : QOK qJs_isLatin1 := ⟨(gd (tk3 (List.mem_of_getElem? (i := 108) rfl)) rfl), (gd (tk1 (List.mem_of_getElem? (i := 16) rfl)) rfl), ⟨(gd (tk3 (List.mem_of_getElem? (i := 106) rfl)) rfl), (gd (tk3 (List.mem_of_getElem? (i := 107) rfl)) rfl)⟩, rfl⟩
set_option maxRecDepth 50000 in
theorem qk_Jl_charAt : QOK qJl_charAt := ⟨(gd (tk3 (List.mem_of_getElem? (i := 111) rfl)) rfl), (gd (tk1 (List.mem_of_getElem? (i := 17) rfl)) rfl), (gd (tk3 (List.mem_of_getElem? (i := 110) rfl)) rfl), rfl⟩
set_option maxRecDepth 50000 in
theorem qka_0 : ∀ q ∈ [0, 1, 2, 3, 4, 5, 6, 7, 8, 9, 10, 11, 12, 13, 14, 15, 16, 17, 18, 19, 20, 21, 22, 23, 24, 25, 26, 27, 28, 29, 30, 31, 32, 33, 34, 35, 36, 37, 38, 39, 40, 41, 42, 43, 44, 45, 46, 47], q ≠ qLa_law → QOK q := List.forall_mem_cons.mpr ⟨fun _ => qk_PR_feed, List.forall_mem_cons.mpr ⟨fun _ => qk_PR_race, List.forall_mem_cons.mpr ⟨fun _ => qk_PR_fault, List.forall_mem_cons.mpr ⟨fun _ => qk_PR_told, List.forall_mem_cons.mpr ⟨fun _ => qk_PR_shop, List.forall_mem_cons.mpr ⟨fun _ => qk_PR_worth, List.forall_mem_cons.mpr ⟨fun _ => qk_PR_doing, List.forall_mem_cons.mpr ⟨fun _ => qk_PR_gain, List.forall_mem_cons.mpr ⟨fun _ => qk_PR_unrest, List.forall_mem_cons.mpr ⟨fun _ => qk_PR_rule, List.forall_mem_cons.mpr ⟨fun _ => qk_PR_follow, List.forall_mem_cons.mpr ⟨fun _ => qk_PR_judged, List.forall_mem_cons.mpr ⟨fun _ => qk_PR_breaks, List.forall_mem_cons.mpr ⟨fun _ => qk_PR_alone, List.forall_mem_cons.mpr ⟨fun _ => qk_PR_best, List.forall_mem_cons.mpr ⟨fun _ => qk_PR_answer, List.forall_mem_cons.mpr ⟨fun _ => qk_PR_first, List.forall_mem_cons.mpr ⟨fun _ => qk_PR_late, List.forall_mem_cons.mpr ⟨fun _ => qk_PR_waste, List.forall_mem_cons.mpr ⟨fun _ => qk_PR_harder, List.forall_mem_cons.mpr ⟨fun _ => qk_PR_behind, List.forall_mem_cons.mpr ⟨fun _ => qk_PR_leavers, List.forall_mem_cons.mpr ⟨fun _ => qk_PR_joined, List.forall_mem_cons.mpr ⟨fun _ => qk_PR_sold, List.forall_mem_cons.mpr ⟨fun _ => qk_PR_offer, List.forall_mem_cons.mpr ⟨fun _ => qk_PR_king, List.forall_mem_cons.mpr ⟨fun _ => qk_PR_entry, List.forall_mem_cons.mpr ⟨fun _ => qk_PR_edge, List.forall_mem_cons.mpr ⟨fun _ => qk_PR_run, List.forall_mem_cons.mpr ⟨fun _ => qk_PR_image, List.forall_mem_cons.mpr ⟨fun _ => qk_PR_restore, List.forall_mem_cons.mpr ⟨fun _ => qk_PR_count, List.forall_mem_cons.mpr ⟨fun _ => qk_PR_needRace, List.forall_mem_cons.mpr ⟨fun _ => qk_PR_needShop, List.forall_mem_cons.mpr ⟨fun _ => qk_PR_needTwo, List.forall_mem_cons.mpr ⟨fun _ => qk_PR_needState, List.forall_mem_cons.mpr ⟨fun _ => qk_PR_needAlone, List.forall_mem_cons.mpr ⟨fun _ => qk_PR_codeOf, List.forall_mem_cons.mpr ⟨fun _ => qk_PR_settled, List.forall_mem_cons.mpr ⟨fun _ => qk_PR_obeyed, List.forall_mem_cons.mpr ⟨fun _ => qk_PR_weighOffer, List.forall_mem_cons.mpr ⟨fun _ => qk_PR_allEarn, List.forall_mem_cons.mpr ⟨fun _ => qk_PR_findEdge, List.forall_mem_cons.mpr ⟨fun _ => qk_PR_stepsIn, List.forall_mem_cons.mpr ⟨fun _ => qk_PR_doingIn, List.forall_mem_cons.mpr ⟨fun _ => qk_PR_nextIn, List.forall_mem_cons.mpr ⟨fun _ => qk_PR_stepsPlace, List.forall_mem_cons.mpr ⟨fun _ => qk_Mo_thrown, fun _ h => nomatch h⟩⟩⟩⟩⟩⟩⟩⟩⟩⟩⟩⟩⟩⟩⟩⟩⟩⟩⟩⟩⟩⟩⟩⟩⟩⟩⟩⟩⟩⟩⟩⟩⟩⟩⟩⟩⟩⟩⟩⟩⟩⟩⟩⟩⟩⟩⟩⟩
set_option maxRecDepth 50000 in
theorem qka_1 : ∀ q ∈ [48, 49, 50, 51, 52, 53, 54, 55, 56, 57, 58, 59, 60, 61, 62, 63, 64, 65, 66, 67, 68, 69, 70, 71, 72, 73, 74, 75, 76, 77, 78, 79, 80, 81, 82, 83, 84, 85, 86, 87, 88, 89, 90, 91, 92, 93, 94, 95], q ≠ qLa_law → QOK q := List.forall_mem_cons.mpr ⟨fun _ => qk_Mo_bad, List.forall_mem_cons.mpr ⟨fun _ => qk_Mo_in, List.forall_mem_cons.mpr ⟨fun _ => qk_Mo_feed, List.forall_mem_cons.mpr ⟨fun _ => qk_Mo_byteAt, List.forall_mem_cons.mpr ⟨fun _ => qk_Mo_blanks, List.forall_mem_cons.mpr ⟨fun _ => qk_Mo_wrong, List.forall_mem_cons.mpr ⟨fun _ => qk_Mo_isDigit, List.forall_mem_cons.mpr ⟨fun _ => qk_Mo_number, List.forall_mem_cons.mpr ⟨fun _ => qk_Mo_wordHere, List.forall_mem_cons.mpr ⟨fun _ => qk_Mo_word, List.forall_mem_cons.mpr ⟨fun _ => qk_Mo_isWord, List.forall_mem_cons.mpr ⟨fun _ => qk_Mo_skipWord, List.forall_mem_cons.mpr ⟨fun _ => qk_Mo_sign, List.forall_mem_cons.mpr ⟨fun _ => qk_Mo_must, List.forall_mem_cons.mpr ⟨fun _ => qk_Mo_opens, List.forall_mem_cons.mpr ⟨fun _ => qk_Mo_unit, List.forall_mem_cons.mpr ⟨fun _ => qk_Mo_product, List.forall_mem_cons.mpr ⟨fun _ => qk_Mo_sum, List.forall_mem_cons.mpr ⟨fun _ => qk_Mo_test, List.forall_mem_cons.mpr ⟨fun _ => qk_Mo_ands, List.forall_mem_cons.mpr ⟨fun _ => qk_Mo_ors, List.forall_mem_cons.mpr ⟨fun _ => qk_Mo_shopHere, List.forall_mem_cons.mpr ⟨fun _ => qk_Mo_clause, List.forall_mem_cons.mpr ⟨fun _ => qk_Mo_readAll, List.forall_mem_cons.mpr ⟨fun _ => qk_Mo_takes, List.forall_mem_cons.mpr ⟨fun _ => qk_Mo_race, List.forall_mem_cons.mpr ⟨fun _ => qk_Mo_tellsAgain, List.forall_mem_cons.mpr ⟨fun _ => qk_Mo_fault, List.forall_mem_cons.mpr ⟨fun _ => qk_Mo_told, List.forall_mem_cons.mpr ⟨fun _ => qk_Mo_shop, List.forall_mem_cons.mpr ⟨fun _ => qk_Mo_stepsOf, List.forall_mem_cons.mpr ⟨fun _ => qk_Mo_isIn, List.forall_mem_cons.mpr ⟨fun _ => qk_Mo_isOver, List.forall_mem_cons.mpr ⟨fun _ => qk_Mo_nextOf, List.forall_mem_cons.mpr ⟨fun _ => qk_Mo_holds, List.forall_mem_cons.mpr ⟨fun _ => qk_Mo_mayDo, List.forall_mem_cons.mpr ⟨fun _ => qk_Mo_chanceOf, List.forall_mem_cons.mpr ⟨fun _ => qk_Mo_costOf, List.forall_mem_cons.mpr ⟨fun _ => qk_Mo_inAfter, List.forall_mem_cons.mpr ⟨fun _ => qk_Mo_scale, List.forall_mem_cons.mpr ⟨fun _ => qk_Mo_share, List.forall_mem_cons.mpr ⟨fun _ => qk_Mo_hasFirst, List.forall_mem_cons.mpr ⟨fun _ => qk_Mo_comesTo, List.forall_mem_cons.mpr ⟨fun _ => qk_Mo_weight, List.forall_mem_cons.mpr ⟨fun _ => qk_Mo_weighs, List.forall_mem_cons.mpr ⟨fun _ => qk_Mo_digit, List.forall_mem_cons.mpr ⟨fun _ => qk_Mo_unitOf, List.forall_mem_cons.mpr ⟨fun _ => qk_Mo_mayAll, fun _ h => nomatch h⟩⟩⟩⟩⟩⟩⟩⟩⟩⟩⟩⟩⟩⟩⟩⟩⟩⟩⟩⟩⟩⟩⟩⟩⟩⟩⟩⟩⟩⟩⟩⟩⟩⟩⟩⟩⟩⟩⟩⟩⟩⟩⟩⟩⟩⟩⟩⟩
set_option maxRecDepth 50000 in
theorem qka_2 : ∀ q ∈ [96, 97, 98, 99, 100, 101, 102, 103, 104, 105, 106, 107, 108, 109, 110, 111, 112, 113, 114, 115, 116, 117, 118, 119, 120, 121, 122, 123, 124, 125, 126, 127, 128, 129, 130, 131, 132, 133, 134, 135, 136, 137, 138, 139, 140, 141, 142, 143], q ≠ qLa_law → QOK q := List.forall_mem_cons.mpr ⟨fun _ => qk_Mo_rows, List.forall_mem_cons.mpr ⟨fun _ => qk_Mo_settles, List.forall_mem_cons.mpr ⟨fun _ => qk_Mo_turned, List.forall_mem_cons.mpr ⟨fun _ => qk_Mo_isPlace, List.forall_mem_cons.mpr ⟨fun _ => qk_Mo_solve, List.forall_mem_cons.mpr ⟨fun _ => qk_Mo_placeOf, List.forall_mem_cons.mpr ⟨fun _ => qk_Mo_isState, List.forall_mem_cons.mpr ⟨fun _ => qk_Mo_worth, List.forall_mem_cons.mpr ⟨fun _ => qk_Mo_doing, List.forall_mem_cons.mpr ⟨fun _ => qk_Mo_gain, List.forall_mem_cons.mpr ⟨fun _ => qk_Mo_isWhole, List.forall_mem_cons.mpr ⟨fun _ => qk_Mo_unrest, List.forall_mem_cons.mpr ⟨fun _ => qk_Mo_nextPlace, List.forall_mem_cons.mpr ⟨fun _ => qk_Mo_rule, List.forall_mem_cons.mpr ⟨fun _ => qk_Mo_beginPlace, List.forall_mem_cons.mpr ⟨fun _ => qk_Mo_everybody, List.forall_mem_cons.mpr ⟨fun _ => qk_Mo_follow, List.forall_mem_cons.mpr ⟨fun _ => qk_Mo_follows, List.forall_mem_cons.mpr ⟨fun _ => qk_Mo_byRule, List.forall_mem_cons.mpr ⟨fun _ => qk_Mo_solveRules, List.forall_mem_cons.mpr ⟨fun _ => qk_Mo_judged, List.forall_mem_cons.mpr ⟨fun _ => qk_Mo_isBroken, List.forall_mem_cons.mpr ⟨fun _ => qk_Mo_breaks, List.forall_mem_cons.mpr ⟨fun _ => qk_Mo_findAlone, List.forall_mem_cons.mpr ⟨fun _ => qk_Mo_aloneBy, List.forall_mem_cons.mpr ⟨fun _ => qk_Mo_alone, List.forall_mem_cons.mpr ⟨fun _ => qk_Mo_best, List.forall_mem_cons.mpr ⟨fun _ => qk_Mo_othersWeight, List.forall_mem_cons.mpr ⟨fun _ => qk_Mo_answer, List.forall_mem_cons.mpr ⟨fun _ => qk_Mo_goesOn, List.forall_mem_cons.mpr ⟨fun _ => qk_Mo_isDone, List.forall_mem_cons.mpr ⟨fun _ => qk_Mo_blindBy, List.forall_mem_cons.mpr ⟨fun _ => qk_Mo_endsBy, List.forall_mem_cons.mpr ⟨fun _ => qk_Mo_runsThrough, List.forall_mem_cons.mpr ⟨fun _ => qk_Mo_flows, List.forall_mem_cons.mpr ⟨fun _ => qk_Mo_first, List.forall_mem_cons.mpr ⟨fun _ => qk_Mo_late, List.forall_mem_cons.mpr ⟨fun _ => qk_Mo_waste, List.forall_mem_cons.mpr ⟨fun _ => qk_Mo_isHarder, List.forall_mem_cons.mpr ⟨fun _ => qk_Mo_harder, List.forall_mem_cons.mpr ⟨fun _ => qk_Mo_behind, List.forall_mem_cons.mpr ⟨fun _ => qk_Mo_leavers, List.forall_mem_cons.mpr ⟨fun _ => qk_Mo_joined, List.forall_mem_cons.mpr ⟨fun _ => qk_Mo_sold, List.forall_mem_cons.mpr ⟨fun _ => qk_Mo_offer, List.forall_mem_cons.mpr ⟨fun _ => qk_Mo_king, List.forall_mem_cons.mpr ⟨fun _ => qk_Mo_entry, List.forall_mem_cons.mpr ⟨fun _ => qk_Mo_edge, fun _ h => nomatch h⟩⟩⟩⟩⟩⟩⟩⟩⟩⟩⟩⟩⟩⟩⟩⟩⟩⟩⟩⟩⟩⟩⟩⟩⟩⟩⟩⟩⟩⟩⟩⟩⟩⟩⟩⟩⟩⟩⟩⟩⟩⟩⟩⟩⟩⟩⟩⟩
set_option maxRecDepth 50000 in
theorem qka_3 : ∀ q ∈ [144, 145, 146, 147, 148, 149, 150, 151, 152, 153, 154, 155, 156, 157, 158, 159, 160, 161, 162, 163, 164, 165, 166, 167, 168, 169, 170, 171, 172, 173, 174, 175, 176, 177, 178, 179, 180, 181, 182, 183, 184, 185, 186, 187, 188, 189, 190, 191], q ≠ qLa_law → QOK q := List.forall_mem_cons.mpr ⟨fun _ => qk_Mo_run, List.forall_mem_cons.mpr ⟨fun _ => qk_Mo_image, List.forall_mem_cons.mpr ⟨fun _ => qk_Mo_restore, List.forall_mem_cons.mpr ⟨fun _ => qk_Mo_forgets, List.forall_mem_cons.mpr ⟨fun _ => qk_Mo_count, List.forall_mem_cons.mpr ⟨fun _ => qk_Bo_placeOf, List.forall_mem_cons.mpr ⟨fun _ => qk_Bo_rowAt, List.forall_mem_cons.mpr ⟨fun _ => qk_Bo_doingAt, List.forall_mem_cons.mpr ⟨fun _ => qk_Bo_gainAt, List.forall_mem_cons.mpr ⟨fun _ => qk_Bo_worthAt, List.forall_mem_cons.mpr ⟨fun _ => qk_Bo_settle, List.forall_mem_cons.mpr ⟨fun _ => qk_Bo_sumRows, List.forall_mem_cons.mpr ⟨fun _ => qk_Bo_sumFor, List.forall_mem_cons.mpr ⟨fun _ => qk_Bo_sumAt, List.forall_mem_cons.mpr ⟨fun _ => qk_Bo_keepLeastGain, List.forall_mem_cons.mpr ⟨fun _ => qk_Bo_keepWorths, List.forall_mem_cons.mpr ⟨fun _ => qk_Bo_obey, List.forall_mem_cons.mpr ⟨fun _ => qk_Bo_toldRow, List.forall_mem_cons.mpr ⟨fun _ => qk_Bo_statesThatBreak, List.forall_mem_cons.mpr ⟨fun _ => qk_Bo_isBroken, List.forall_mem_cons.mpr ⟨fun _ => qk_Bo_statesWithoutRest, List.forall_mem_cons.mpr ⟨fun _ => qk_Bo_statesOf, List.forall_mem_cons.mpr ⟨fun _ => qk_Bo_statesRunHarder, List.forall_mem_cons.mpr ⟨fun _ => qk_Bo_firstRunHarder, List.forall_mem_cons.mpr ⟨fun _ => qk_Bo_isRunHarder, List.forall_mem_cons.mpr ⟨fun _ => qk_Bo_statesLeftBy, List.forall_mem_cons.mpr ⟨fun _ => qk_Co_walk, List.forall_mem_cons.mpr ⟨fun _ => qk_Co_clearWalk, List.forall_mem_cons.mpr ⟨fun _ => qk_Co_walkFrom, List.forall_mem_cons.mpr ⟨fun _ => qk_Co_noteWinners, List.forall_mem_cons.mpr ⟨fun _ => qk_Co_drive, List.forall_mem_cons.mpr ⟨fun _ => qk_Co_bitsIn, List.forall_mem_cons.mpr ⟨fun _ => qk_De_copyFrom, List.forall_mem_cons.mpr ⟨fun _ => qk_De_clearRules, List.forall_mem_cons.mpr ⟨fun _ => qk_De_rulesNotRest, List.forall_mem_cons.mpr ⟨fun _ => qk_De_ruleAt, List.forall_mem_cons.mpr ⟨fun _ => qk_De_putRule, List.forall_mem_cons.mpr ⟨fun _ => qk_De_addPrize, List.forall_mem_cons.mpr ⟨fun _ => qk_Le_holds, List.forall_mem_cons.mpr ⟨fun _ => qk_Le_keep, List.forall_mem_cons.mpr ⟨fun _ => qk_Ra_clear, List.forall_mem_cons.mpr ⟨fun _ => qk_Ra_clearShop, List.forall_mem_cons.mpr ⟨fun _ => qk_Ra_copyFrom, List.forall_mem_cons.mpr ⟨fun _ => qk_Ra_costOf, List.forall_mem_cons.mpr ⟨fun _ => qk_Ra_chanceOf, List.forall_mem_cons.mpr ⟨fun _ => qk_Ra_scale, List.forall_mem_cons.mpr ⟨fun _ => qk_Ra_beginning, List.forall_mem_cons.mpr ⟨fun _ => qk_Ra_beginningOf, fun _ h => nomatch h⟩⟩⟩⟩⟩⟩⟩⟩⟩⟩⟩⟩⟩⟩⟩⟩⟩⟩⟩⟩⟩⟩⟩⟩⟩⟩⟩⟩⟩⟩⟩⟩⟩⟩⟩⟩⟩⟩⟩⟩⟩⟩⟩⟩⟩⟩⟩⟩
set_option maxRecDepth 50000 in
theorem qka_4 : ∀ q ∈ [192, 193, 194, 195, 196, 197, 198, 199, 200, 201, 202, 203, 204, 205, 206, 207, 208, 209, 210, 211, 212, 213, 214, 215, 216, 217, 218, 219, 220, 221, 222, 223, 224, 225, 226, 227, 228, 229, 230, 231, 232, 233, 234, 235, 236, 237, 238, 239], q ≠ qLa_law → QOK q := List.forall_mem_cons.mpr ⟨fun _ => qk_Ra_fits, List.forall_mem_cons.mpr ⟨fun _ => qk_Ra_isPlain, List.forall_mem_cons.mpr ⟨fun _ => qk_Ra_reaches, List.forall_mem_cons.mpr ⟨fun _ => qk_Ra_allows, List.forall_mem_cons.mpr ⟨fun _ => qk_Ra_partOf, List.forall_mem_cons.mpr ⟨fun _ => qk_Ra_joinShops, List.forall_mem_cons.mpr ⟨fun _ => qk_Ra_moveShop, List.forall_mem_cons.mpr ⟨fun _ => qk_Re_takeIn, List.forall_mem_cons.mpr ⟨fun _ => qk_Re_read, List.forall_mem_cons.mpr ⟨fun _ => qk_Re_hasMore, List.forall_mem_cons.mpr ⟨fun _ => qk_Re_readClause, List.forall_mem_cons.mpr ⟨fun _ => qk_Re_readShop, List.forall_mem_cons.mpr ⟨fun _ => qk_Re_beginTerms, List.forall_mem_cons.mpr ⟨fun _ => qk_Re_readChoice, List.forall_mem_cons.mpr ⟨fun _ => qk_Re_readBoth, List.forall_mem_cons.mpr ⟨fun _ => qk_Re_readCheck, List.forall_mem_cons.mpr ⟨fun _ => qk_Re_takeRelation, List.forall_mem_cons.mpr ⟨fun _ => qk_Re_readSum, List.forall_mem_cons.mpr ⟨fun _ => qk_Re_readProduct, List.forall_mem_cons.mpr ⟨fun _ => qk_Re_readUnit, List.forall_mem_cons.mpr ⟨fun _ => qk_Re_mayOpen, List.forall_mem_cons.mpr ⟨fun _ => qk_Re_number, List.forall_mem_cons.mpr ⟨fun _ => qk_Re_takeWord, List.forall_mem_cons.mpr ⟨fun _ => qk_Re_takeSign, List.forall_mem_cons.mpr ⟨fun _ => qk_Re_demandWord, List.forall_mem_cons.mpr ⟨fun _ => qk_Re_demandSign, List.forall_mem_cons.mpr ⟨fun _ => qk_Re_skipBlanks, List.forall_mem_cons.mpr ⟨fun _ => qk_Re_refuse, List.forall_mem_cons.mpr ⟨fun _ => qk_Re_signAt, List.forall_mem_cons.mpr ⟨fun _ => qk_Re_isDigit, List.forall_mem_cons.mpr ⟨fun _ => qk_Re_isLetter, List.forall_mem_cons.mpr ⟨fun _ => qk_Re_workConditions, List.forall_mem_cons.mpr ⟨fun _ => qk_Te_clear, List.forall_mem_cons.mpr ⟨fun _ => qk_Te_isTold, List.forall_mem_cons.mpr ⟨fun _ => qk_Te_put, List.forall_mem_cons.mpr ⟨fun _ => qk_Te_holds, List.forall_mem_cons.mpr ⟨fun _ => qk_Te_work, List.forall_mem_cons.mpr ⟨fun _ => qk_Te_push, List.forall_mem_cons.mpr ⟨fun _ => qk_Te_pop, List.forall_mem_cons.mpr ⟨fun _ => qk_Un_bestAnswer, List.forall_mem_cons.mpr ⟨fun _ => qk_Un_spreadCrowd, List.forall_mem_cons.mpr ⟨fun _ => qk_Un_spreadFrom, List.forall_mem_cons.mpr ⟨fun _ => qk_Un_winnersIn, List.forall_mem_cons.mpr ⟨fun _ => qk_Un_paidAfter, List.forall_mem_cons.mpr ⟨fun _ => qk_Un_findBests, List.forall_mem_cons.mpr ⟨fun _ => qk_We_open, List.forall_mem_cons.mpr ⟨fun _ => qk_We_openShop, List.forall_mem_cons.mpr ⟨fun _ => qk_We_openEnd, fun _ h => nomatch h⟩⟩⟩⟩⟩⟩⟩⟩⟩⟩⟩⟩⟩⟩⟩⟩⟩⟩⟩⟩⟩⟩⟩⟩⟩⟩⟩⟩⟩⟩⟩⟩⟩⟩⟩⟩⟩⟩⟩⟩⟩⟩⟩⟩⟩⟩⟩⟩
set_option maxRecDepth 50000 in
theorem qka_5 : ∀ q ∈ [240, 241, 242, 243, 244, 245, 246, 247, 248, 249, 250, 251, 252, 253, 254, 255, 256, 257, 258, 259, 260, 261, 262, 263, 264, 265, 266, 267, 268, 269, 270, 271, 272, 273, 274, 275, 276, 277, 278, 279, 280, 281, 282, 283, 284, 285, 286, 287], q ≠ qLa_law → QOK q := List.forall_mem_cons.mpr ⟨fun _ => qk_We_narrow, List.forall_mem_cons.mpr ⟨fun _ => qk_We_price, List.forall_mem_cons.mpr ⟨fun _ => qk_We_priceEnd, List.forall_mem_cons.mpr ⟨fun _ => qk_We_fold, List.forall_mem_cons.mpr ⟨fun _ => qk_We_foldAt, List.forall_mem_cons.mpr ⟨fun _ => qk_We_takeRow, List.forall_mem_cons.mpr ⟨fun _ => qk_We_weightOf, List.forall_mem_cons.mpr ⟨fun _ => qk_We_modesOf, List.forall_mem_cons.mpr ⟨fun _ => qk_We_chanceOf, List.forall_mem_cons.mpr ⟨fun _ => qk_We_canRow, List.forall_mem_cons.mpr ⟨fun _ => qk_We_costOfAll, List.forall_mem_cons.mpr ⟨fun _ => qk_La_race, List.forall_mem_cons.mpr ⟨fun _ => qk_La_told, List.forall_mem_cons.mpr ⟨fun _ => qk_La_shop, List.forall_mem_cons.mpr ⟨fun _ => qk_La_worth, List.forall_mem_cons.mpr ⟨fun _ => qk_La_doing, List.forall_mem_cons.mpr ⟨fun _ => qk_La_gain, List.forall_mem_cons.mpr ⟨fun _ => qk_La_unrest, List.forall_mem_cons.mpr ⟨fun _ => qk_La_rule, List.forall_mem_cons.mpr ⟨fun _ => qk_La_follow, List.forall_mem_cons.mpr ⟨fun _ => qk_La_judged, List.forall_mem_cons.mpr ⟨fun _ => qk_La_breaks, List.forall_mem_cons.mpr ⟨fun _ => qk_La_alone, List.forall_mem_cons.mpr ⟨fun _ => qk_La_best, List.forall_mem_cons.mpr ⟨fun _ => qk_La_answer, List.forall_mem_cons.mpr ⟨fun _ => qk_La_first, List.forall_mem_cons.mpr ⟨fun _ => qk_La_late, List.forall_mem_cons.mpr ⟨fun _ => qk_La_waste, List.forall_mem_cons.mpr ⟨fun _ => qk_La_harder, List.forall_mem_cons.mpr ⟨fun _ => qk_La_behind, List.forall_mem_cons.mpr ⟨fun _ => qk_La_leavers, List.forall_mem_cons.mpr ⟨fun _ => qk_La_joined, List.forall_mem_cons.mpr ⟨fun _ => qk_La_sold, List.forall_mem_cons.mpr ⟨fun _ => qk_La_offer, List.forall_mem_cons.mpr ⟨fun _ => qk_La_king, List.forall_mem_cons.mpr ⟨fun _ => qk_La_entry, List.forall_mem_cons.mpr ⟨fun _ => qk_La_edge, List.forall_mem_cons.mpr ⟨fun _ => qk_La_run, List.forall_mem_cons.mpr ⟨fun h => absurd rfl h, List.forall_mem_cons.mpr ⟨fun _ => qk_Ji_bitCount, List.forall_mem_cons.mpr ⟨fun _ => qk_Jm_max, List.forall_mem_cons.mpr ⟨fun _ => qk_Jm_maxJ, List.forall_mem_cons.mpr ⟨fun _ => qk_Jm_min, List.forall_mem_cons.mpr ⟨fun _ => qk_Js_length, List.forall_mem_cons.mpr ⟨fun _ => qk_Js_charAt, List.forall_mem_cons.mpr ⟨fun _ => qk_Js_coder, List.forall_mem_cons.mpr ⟨fun _ => qk_Js_isLatin1, List.forall_mem_cons.mpr ⟨fun _ => qk_Jl_charAt, fun _ h => nomatch h⟩⟩⟩⟩⟩⟩⟩⟩⟩⟩⟩⟩⟩⟩⟩⟩⟩⟩⟩⟩⟩⟩⟩⟩⟩⟩⟩⟩⟩⟩⟩⟩⟩⟩⟩⟩⟩⟩⟩⟩⟩⟩⟩⟩⟩⟩⟩⟩
theorem qin : ∀ q, q < 288 → q ∈ [0, 1, 2, 3, 4, 5, 6, 7, 8, 9, 10, 11, 12, 13, 14, 15, 16, 17, 18, 19, 20, 21, 22, 23, 24, 25, 26, 27, 28, 29, 30, 31, 32, 33, 34, 35, 36, 37, 38, 39, 40, 41, 42, 43, 44, 45, 46, 47] ∨ q ∈ [48, 49, 50, 51, 52, 53, 54, 55, 56, 57, 58, 59, 60, 61, 62, 63, 64, 65, 66, 67, 68, 69, 70, 71, 72, 73, 74, 75, 76, 77, 78, 79, 80, 81, 82, 83, 84, 85, 86, 87, 88, 89, 90, 91, 92, 93, 94, 95] ∨ q ∈ [96, 97, 98, 99, 100, 101, 102, 103, 104, 105, 106, 107, 108, 109, 110, 111, 112, 113, 114, 115, 116, 117, 118, 119, 120, 121, 122, 123, 124, 125, 126, 127, 128, 129, 130, 131, 132, 133, 134, 135, 136, 137, 138, 139, 140, 141, 142, 143] ∨ q ∈ [144, 145, 146, 147, 148, 149, 150, 151, 152, 153, 154, 155, 156, 157, 158, 159, 160, 161, 162, 163, 164, 165, 166, 167, 168, 169, 170, 171, 172, 173, 174, 175, 176, 177, 178, 179, 180, 181, 182, 183, 184, 185, 186, 187, 188, 189, 190, 191] ∨ q ∈ [192, 193, 194, 195, 196, 197, 198, 199, 200, 201, 202, 203, 204, 205, 206, 207, 208, 209, 210, 211, 212, 213, 214, 215, 216, 217, 218, 219, 220, 221, 222, 223, 224, 225, 226, 227, 228, 229, 230, 231, 232, 233, 234, 235, 236, 237, 238, 239] ∨ q ∈ [240, 241, 242, 243, 244, 245, 246, 247, 248, 249, 250, 251, 252, 253, 254, 255, 256, 257, 258, 259, 260, 261, 262, 263, 264, 265, 266, 267, 268, 269, 270, 271, 272, 273, 274, 275, 276, 277, 278, 279, 280, 281, 282, 283, 284, 285, 286, 287] := by decide +kernel
theorem qka {q : Nat} (h : q < 288) (hl : q ≠ qLa_law) : QOK q := by
  rcases qin q h with h | h | h | h | h | h
  · exact qka_0 q h hl
  · exact qka_1 q h hl
  · exact qka_2 q h hl
  · exact qka_3 q h hl
  · exact qka_4 q h hl
  · exact qka_5 q h hl
