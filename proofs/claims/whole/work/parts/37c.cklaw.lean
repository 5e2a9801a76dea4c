/-! THE LAW'S OWN TABLE held against its bytes, forty entries at a time -/
theorem ck_law9 : ∀ en ∈ kLa_law, nine en = true := List.all_eq_true.mp (by decide +kernel : kLa_law.all nine = true)
theorem ck_lawH : chkH 8 (hhs qLa_law) kLa_law = true := by decide +kernel
theorem ck_lawE_0 : (List.range 40).all (fun i => chkE 15 (retk (mi qLa_law).2.2.2.1) 8 code kLa_law (0 + i)) = true := by decide +kernel
theorem ck_lawE_40 : (List.range 40).all (fun i => chkE 15 (retk (mi qLa_law).2.2.2.1) 8 code kLa_law (40 + i)) = true := by decide +kernel
theorem ck_lawE_80 : (List.range 40).all (fun i => chkE 15 (retk (mi qLa_law).2.2.2.1) 8 code kLa_law (80 + i)) = true := by decide +kernel
theorem ck_lawE_120 : (List.range 40).all (fun i => chkE 15 (retk (mi qLa_law).2.2.2.1) 8 code kLa_law (120 + i)) = true := by decide +kernel
theorem ck_lawE_160 : (List.range 40).all (fun i => chkE 15 (retk (mi qLa_law).2.2.2.1) 8 code kLa_law (160 + i)) = true := by decide +kernel
theorem ck_lawE_200 : (List.range 40).all (fun i => chkE 15 (retk (mi qLa_law).2.2.2.1) 8 code kLa_law (200 + i)) = true := by decide +kernel
theorem ck_lawE_240 : (List.range 40).all (fun i => chkE 15 (retk (mi qLa_law).2.2.2.1) 8 code kLa_law (240 + i)) = true := by decide +kernel
theorem ck_lawE_280 : (List.range 40).all (fun i => chkE 15 (retk (mi qLa_law).2.2.2.1) 8 code kLa_law (280 + i)) = true := by decide +kernel
theorem ck_lawE_320 : (List.range 40).all (fun i => chkE 15 (retk (mi qLa_law).2.2.2.1) 8 code kLa_law (320 + i)) = true := by decide +kernel
theorem ck_lawE_360 : (List.range 40).all (fun i => chkE 15 (retk (mi qLa_law).2.2.2.1) 8 code kLa_law (360 + i)) = true := by decide +kernel
theorem ck_lawE_400 : (List.range 40).all (fun i => chkE 15 (retk (mi qLa_law).2.2.2.1) 8 code kLa_law (400 + i)) = true := by decide +kernel
theorem ck_lawE_440 : (List.range 40).all (fun i => chkE 15 (retk (mi qLa_law).2.2.2.1) 8 code kLa_law (440 + i)) = true := by decide +kernel
theorem ck_lawE_480 : (List.range 40).all (fun i => chkE 15 (retk (mi qLa_law).2.2.2.1) 8 code kLa_law (480 + i)) = true := by decide +kernel
theorem ck_lawE_520 : (List.range 40).all (fun i => chkE 15 (retk (mi qLa_law).2.2.2.1) 8 code kLa_law (520 + i)) = true := by decide +kernel
theorem ck_lawE_560 : (List.range 40).all (fun i => chkE 15 (retk (mi qLa_law).2.2.2.1) 8 code kLa_law (560 + i)) = true := by decide +kernel
theorem ck_lawE_600 : (List.range 40).all (fun i => chkE 15 (retk (mi qLa_law).2.2.2.1) 8 code kLa_law (600 + i)) = true := by decide +kernel
theorem ck_lawE_640 : (List.range 40).all (fun i => chkE 15 (retk (mi qLa_law).2.2.2.1) 8 code kLa_law (640 + i)) = true := by decide +kernel
theorem ck_lawE_680 : (List.range 40).all (fun i => chkE 15 (retk (mi qLa_law).2.2.2.1) 8 code kLa_law (680 + i)) = true := by decide +kernel
theorem ck_lawE_720 : (List.range 40).all (fun i => chkE 15 (retk (mi qLa_law).2.2.2.1) 8 code kLa_law (720 + i)) = true := by decide +kernel
theorem ck_lawE_760 : (List.range 40).all (fun i => chkE 15 (retk (mi qLa_law).2.2.2.1) 8 code kLa_law (760 + i)) = true := by decide +kernel
theorem ck_lawE_800 : (List.range 40).all (fun i => chkE 15 (retk (mi qLa_law).2.2.2.1) 8 code kLa_law (800 + i)) = true := by decide +kernel
theorem ck_lawE_840 : (List.range 40).all (fun i => chkE 15 (retk (mi qLa_law).2.2.2.1) 8 code kLa_law (840 + i)) = true := by decide +kernel
theorem ck_lawE_880 : (List.range 40).all (fun i => chkE 15 (retk (mi qLa_law).2.2.2.1) 8 code kLa_law (880 + i)) = true := by decide +kernel
theorem ck_lawE_920 : (List.range 40).all (fun i => chkE 15 (retk (mi qLa_law).2.2.2.1) 8 code kLa_law (920 + i)) = true := by decide +kernel
theorem ck_lawE_960 : (List.range 40).all (fun i => chkE 15 (retk (mi qLa_law).2.2.2.1) 8 code kLa_law (960 + i)) = true := by decide +kernel
theorem ck_lawE_1000 : (List.range 40).all (fun i => chkE 15 (retk (mi qLa_law).2.2.2.1) 8 code kLa_law (1000 + i)) = true := by decide +kernel
theorem ck_lawE_1040 : (List.range 40).all (fun i => chkE 15 (retk (mi qLa_law).2.2.2.1) 8 code kLa_law (1040 + i)) = true := by decide +kernel
theorem ck_lawE_1080 : (List.range 40).all (fun i => chkE 15 (retk (mi qLa_law).2.2.2.1) 8 code kLa_law (1080 + i)) = true := by decide +kernel
theorem ck_lawE_1120 : (List.range 40).all (fun i => chkE 15 (retk (mi qLa_law).2.2.2.1) 8 code kLa_law (1120 + i)) = true := by decide +kernel
theorem ck_lawE_1160 : (List.range 19).all (fun i => chkE 15 (retk (mi qLa_law).2.2.2.1) 8 code kLa_law (1160 + i)) = true := by decide +kernel
theorem ck_lawLen : kLa_law.length = 1179 := by decide +kernel
theorem ck_lawE : ∀ i, chkE 15 (retk (mi qLa_law).2.2.2.1) 8 code kLa_law i = true := fun i => by
  by_cases hi : i < 1179
  · have key : ∀ (a m : Nat), (List.range m).all (fun j => chkE 15 (retk (mi qLa_law).2.2.2.1) 8 code kLa_law (a + j)) = true → a ≤ i → i < a + m → chkE 15 (retk (mi qLa_law).2.2.2.1) 8 code kLa_law i = true := fun a m h h1 h2 => by
      have := List.all_eq_true.mp h (i - a) (List.mem_range.mpr (by omega))
      rw [show a + (i - a) = i by omega] at this
      exact this
    by_cases h0 : i < 40
    · exact key 0 40 ck_lawE_0 (by omega) (by omega)
    by_cases h40 : i < 80
    · exact key 40 40 ck_lawE_40 (by omega) (by omega)
    by_cases h80 : i < 120
    · exact key 80 40 ck_lawE_80 (by omega) (by omega)
    by_cases h120 : i < 160
    · exact key 120 40 ck_lawE_120 (by omega) (by omega)
    by_cases h160 : i < 200
    · exact key 160 40 ck_lawE_160 (by omega) (by omega)
    by_cases h200 : i < 240
    · exact key 200 40 ck_lawE_200 (by omega) (by omega)
    by_cases h240 : i < 280
    · exact key 240 40 ck_lawE_240 (by omega) (by omega)
    by_cases h280 : i < 320
    · exact key 280 40 ck_lawE_280 (by omega) (by omega)
    by_cases h320 : i < 360
    · exact key 320 40 ck_lawE_320 (by omega) (by omega)
    by_cases h360 : i < 400
    · exact key 360 40 ck_lawE_360 (by omega) (by omega)
    by_cases h400 : i < 440
    · exact key 400 40 ck_lawE_400 (by omega) (by omega)
    by_cases h440 : i < 480
    · exact key 440 40 ck_lawE_440 (by omega) (by omega)
    by_cases h480 : i < 520
    · exact key 480 40 ck_lawE_480 (by omega) (by omega)
    by_cases h520 : i < 560
    · exact key 520 40 ck_lawE_520 (by omega) (by omega)
    by_cases h560 : i < 600
    · exact key 560 40 ck_lawE_560 (by omega) (by omega)
    by_cases h600 : i < 640
    · exact key 600 40 ck_lawE_600 (by omega) (by omega)
    by_cases h640 : i < 680
    · exact key 640 40 ck_lawE_640 (by omega) (by omega)
    by_cases h680 : i < 720
    · exact key 680 40 ck_lawE_680 (by omega) (by omega)
    by_cases h720 : i < 760
    · exact key 720 40 ck_lawE_720 (by omega) (by omega)
    by_cases h760 : i < 800
    · exact key 760 40 ck_lawE_760 (by omega) (by omega)
    by_cases h800 : i < 840
    · exact key 800 40 ck_lawE_800 (by omega) (by omega)
    by_cases h840 : i < 880
    · exact key 840 40 ck_lawE_840 (by omega) (by omega)
    by_cases h880 : i < 920
    · exact key 880 40 ck_lawE_880 (by omega) (by omega)
    by_cases h920 : i < 960
    · exact key 920 40 ck_lawE_920 (by omega) (by omega)
    by_cases h960 : i < 1000
    · exact key 960 40 ck_lawE_960 (by omega) (by omega)
    by_cases h1000 : i < 1040
    · exact key 1000 40 ck_lawE_1000 (by omega) (by omega)
    by_cases h1040 : i < 1080
    · exact key 1040 40 ck_lawE_1040 (by omega) (by omega)
    by_cases h1080 : i < 1120
    · exact key 1080 40 ck_lawE_1080 (by omega) (by omega)
    by_cases h1120 : i < 1160
    · exact key 1120 40 ck_lawE_1120 (by omega) (by omega)
    exact key 1160 19 ck_lawE_1160 (by omega) (by omega)
  · unfold chkE
    rw [List.getElem?_eq_none (by rw [ck_lawLen]; omega)]
