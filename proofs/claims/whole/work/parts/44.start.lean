set_option maxHeartbeats 4000000 in
set_option maxRecDepth 100000 in
theorem ev_start {s : State} {b : Nat} (hts : ∀ w ∈ lw_tbl, w.before #[Value.ref b] s = true) (hgv : (Jvm.Cond.and given_1 narrow_1).before #[Value.ref b] s = true) : ∃ t : Nat → Nat, Ev t (fun q : Nat => s.heap.size ≤ q) s := by
  have hs := flat_of_before _ hgv
  have hA : ∀ a : Nat, a < s.heap.size → ¬ (fun q : Nat => s.heap.size ≤ q) a := fun a h => Nat.not_le.mpr h
  obtain ⟨t0, he0, hT0⟩ := va_Tof (args := #[Value.ref b]) (s := s) (tm := (Term.static "SprayedLetters$Reader" "NODE_LEAST" "[I")) (ty := .int) (N := 1) (f := fun j => .int (sv0 j)) (A := fun q : Nat => s.heap.size ≤ q) (by decide) (hs _ (by decide +kernel)) (va_eqt (z := Int32.ofNat 1) (hs (Cond.eq (.length (Term.static "SprayedLetters$Reader" "NODE_LEAST" "[I")) (.int 1)) (by decide +kernel))) (fun j hj => by
    rcases (show j = 0 by omega) with rfl
    · exact va_eqt (z := sv0 0) (hs (Cond.eq (.elem (Term.static "SprayedLetters$Reader" "NODE_LEAST" "[I") (.int 0)) (.int 0)) (by decide +kernel))) hA
  have hZ0 : va_Z "SprayedLetters$Reader" "NODE_LEAST" "[I" (.ref t0) (fun q : Nat => s.heap.size ≤ q) s s.heap := va_Zref (hts (Jvm.Cond.laysStatic "SprayedLetters$Reader" "NODE_LEAST" "[I") (List.mem_of_getElem? (i := 414) (by decide +kernel))) (hts (Jvm.Cond.initialized "SprayedLetters$Reader") (List.mem_of_getElem? (i := 76) (by decide +kernel))) he0 hA
  obtain ⟨t1, he1, hT1⟩ := va_Tof (args := #[Value.ref b]) (s := s) (tm := (Term.static "SprayedLetters$Reader" "NODE_MOST" "[I")) (ty := .int) (N := 1) (f := fun j => .int (sv1 j)) (A := fun q : Nat => s.heap.size ≤ q) (by decide) (hs _ (by decide +kernel)) (va_eqt (z := Int32.ofNat 1) (hs (Cond.eq (.length (Term.static "SprayedLetters$Reader" "NODE_MOST" "[I")) (.int 1)) (by decide +kernel))) (fun j hj => by
    rcases (show j = 0 by omega) with rfl
    · exact va_eqt (z := sv1 0) (hs (Cond.eq (.elem (Term.static "SprayedLetters$Reader" "NODE_MOST" "[I") (.int 0)) (.int 99)) (by decide +kernel))) hA
  have hZ1 : va_Z "SprayedLetters$Reader" "NODE_MOST" "[I" (.ref t1) (fun q : Nat => s.heap.size ≤ q) s s.heap := va_Zref (hts (Jvm.Cond.laysStatic "SprayedLetters$Reader" "NODE_MOST" "[I") (List.mem_of_getElem? (i := 416) (by decide +kernel))) (hts (Jvm.Cond.initialized "SprayedLetters$Reader") (List.mem_of_getElem? (i := 76) (by decide +kernel))) he1 hA
  obtain ⟨t2, he2, hT2⟩ := va_Tof (args := #[Value.ref b]) (s := s) (tm := (Term.static "SprayedLetters$Reader" "MEET_LEAST" "[I")) (ty := .int) (N := 4) (f := fun j => .int (sv2 j)) (A := fun q : Nat => s.heap.size ≤ q) (by decide) (hs _ (by decide +kernel)) (va_eqt (z := Int32.ofNat 4) (hs (Cond.eq (.length (Term.static "SprayedLetters$Reader" "MEET_LEAST" "[I")) (.int 4)) (by decide +kernel))) (fun j hj => by
    rcases (show j = 0 ∨ j = 1 ∨ j = 2 ∨ j = 3 by omega) with rfl | rfl | rfl | rfl
    · exact va_eqt (z := sv2 0) (hs (Cond.eq (.elem (Term.static "SprayedLetters$Reader" "MEET_LEAST" "[I") (.int 0)) (.int 1)) (by decide +kernel))
    · exact va_eqt (z := sv2 1) (hs (Cond.eq (.elem (Term.static "SprayedLetters$Reader" "MEET_LEAST" "[I") (.int 1)) (.int 0)) (by decide +kernel))
    · exact va_eqt (z := sv2 2) (hs (Cond.eq (.elem (Term.static "SprayedLetters$Reader" "MEET_LEAST" "[I") (.int 2)) (.int 0)) (by decide +kernel))
    · exact va_eqt (z := sv2 3) (hs (Cond.eq (.elem (Term.static "SprayedLetters$Reader" "MEET_LEAST" "[I") (.int 3)) (.int 0)) (by decide +kernel))) hA
  have hZ2 : va_Z "SprayedLetters$Reader" "MEET_LEAST" "[I" (.ref t2) (fun q : Nat => s.heap.size ≤ q) s s.heap := va_Zref (hts (Jvm.Cond.laysStatic "SprayedLetters$Reader" "MEET_LEAST" "[I") (List.mem_of_getElem? (i := 426) (by decide +kernel))) (hts (Jvm.Cond.initialized "SprayedLetters$Reader") (List.mem_of_getElem? (i := 76) (by decide +kernel))) he2 hA
  obtain ⟨t3, he3, hT3⟩ := va_Tof (args := #[Value.ref b]) (s := s) (tm := (Term.static "SprayedLetters$Reader" "MEET_MOST" "[I")) (ty := .int) (N := 4) (f := fun j => .int (sv3 j)) (A := fun q : Nat => s.heap.size ≤ q) (by decide) (hs _ (by decide +kernel)) (va_eqt (z := Int32.ofNat 4) (hs (Cond.eq (.length (Term.static "SprayedLetters$Reader" "MEET_MOST" "[I")) (.int 4)) (by decide +kernel))) (fun j hj => by
    rcases (show j = 0 ∨ j = 1 ∨ j = 2 ∨ j = 3 by omega) with rfl | rfl | rfl | rfl
    · exact va_eqt (z := sv3 0) (hs (Cond.eq (.elem (Term.static "SprayedLetters$Reader" "MEET_MOST" "[I") (.int 0)) (.int 99)) (by decide +kernel))
    · exact va_eqt (z := sv3 1) (hs (Cond.eq (.elem (Term.static "SprayedLetters$Reader" "MEET_MOST" "[I") (.int 1)) (.int 7)) (by decide +kernel))
    · exact va_eqt (z := sv3 2) (hs (Cond.eq (.elem (Term.static "SprayedLetters$Reader" "MEET_MOST" "[I") (.int 2)) (.int 7)) (by decide +kernel))
    · exact va_eqt (z := sv3 3) (hs (Cond.eq (.elem (Term.static "SprayedLetters$Reader" "MEET_MOST" "[I") (.int 3)) (.int 99)) (by decide +kernel))) hA
  have hZ3 : va_Z "SprayedLetters$Reader" "MEET_MOST" "[I" (.ref t3) (fun q : Nat => s.heap.size ≤ q) s s.heap := va_Zref (hts (Jvm.Cond.laysStatic "SprayedLetters$Reader" "MEET_MOST" "[I") (List.mem_of_getElem? (i := 428) (by decide +kernel))) (hts (Jvm.Cond.initialized "SprayedLetters$Reader") (List.mem_of_getElem? (i := 76) (by decide +kernel))) he3 hA
  obtain ⟨t4, he4, hT4⟩ := va_Tof (args := #[Value.ref b]) (s := s) (tm := (Term.static "SprayedLetters$Reader" "LETTER_LEAST" "[I")) (ty := .int) (N := 6) (f := fun j => .int (sv4 j)) (A := fun q : Nat => s.heap.size ≤ q) (by decide) (hs _ (by decide +kernel)) (va_eqt (z := Int32.ofNat 6) (hs (Cond.eq (.length (Term.static "SprayedLetters$Reader" "LETTER_LEAST" "[I")) (.int 6)) (by decide +kernel))) (fun j hj => by
    rcases (show j = 0 ∨ j = 1 ∨ j = 2 ∨ j = 3 ∨ j = 4 ∨ j = 5 by omega) with rfl | rfl | rfl | rfl | rfl | rfl
    · exact va_eqt (z := sv4 0) (hs (Cond.eq (.elem (Term.static "SprayedLetters$Reader" "LETTER_LEAST" "[I") (.int 0)) (.int 1)) (by decide +kernel))
    · exact va_eqt (z := sv4 1) (hs (Cond.eq (.elem (Term.static "SprayedLetters$Reader" "LETTER_LEAST" "[I") (.int 1)) (.int 0)) (by decide +kernel))
    · exact va_eqt (z := sv4 2) (hs (Cond.eq (.elem (Term.static "SprayedLetters$Reader" "LETTER_LEAST" "[I") (.int 2)) (.int 0)) (by decide +kernel))
    · exact va_eqt (z := sv4 3) (hs (Cond.eq (.elem (Term.static "SprayedLetters$Reader" "LETTER_LEAST" "[I") (.int 3)) (.int 1)) (by decide +kernel))
    · exact va_eqt (z := sv4 4) (hs (Cond.eq (.elem (Term.static "SprayedLetters$Reader" "LETTER_LEAST" "[I") (.int 4)) (.int 1)) (by decide +kernel))
    · exact va_eqt (z := sv4 5) (hs (Cond.eq (.elem (Term.static "SprayedLetters$Reader" "LETTER_LEAST" "[I") (.int 5)) (.int 1)) (by decide +kernel))) hA
  have hZ4 : va_Z "SprayedLetters$Reader" "LETTER_LEAST" "[I" (.ref t4) (fun q : Nat => s.heap.size ≤ q) s s.heap := va_Zref (hts (Jvm.Cond.laysStatic "SprayedLetters$Reader" "LETTER_LEAST" "[I") (List.mem_of_getElem? (i := 430) (by decide +kernel))) (hts (Jvm.Cond.initialized "SprayedLetters$Reader") (List.mem_of_getElem? (i := 76) (by decide +kernel))) he4 hA
  obtain ⟨t5, he5, hT5⟩ := va_Tof (args := #[Value.ref b]) (s := s) (tm := (Term.static "SprayedLetters$Reader" "LETTER_MOST" "[I")) (ty := .int) (N := 6) (f := fun j => .int (sv5 j)) (A := fun q : Nat => s.heap.size ≤ q) (by decide) (hs _ (by decide +kernel)) (va_eqt (z := Int32.ofNat 6) (hs (Cond.eq (.length (Term.static "SprayedLetters$Reader" "LETTER_MOST" "[I")) (.int 6)) (by decide +kernel))) (fun j hj => by
    rcases (show j = 0 ∨ j = 1 ∨ j = 2 ∨ j = 3 ∨ j = 4 ∨ j = 5 by omega) with rfl | rfl | rfl | rfl | rfl | rfl
    · exact va_eqt (z := sv5 0) (hs (Cond.eq (.elem (Term.static "SprayedLetters$Reader" "LETTER_MOST" "[I") (.int 0)) (.int 99)) (by decide +kernel))
    · exact va_eqt (z := sv5 1) (hs (Cond.eq (.elem (Term.static "SprayedLetters$Reader" "LETTER_MOST" "[I") (.int 1)) (.int 7)) (by decide +kernel))
    · exact va_eqt (z := sv5 2) (hs (Cond.eq (.elem (Term.static "SprayedLetters$Reader" "LETTER_MOST" "[I") (.int 2)) (.int 7)) (by decide +kernel))
    · exact va_eqt (z := sv5 3) (hs (Cond.eq (.elem (Term.static "SprayedLetters$Reader" "LETTER_MOST" "[I") (.int 3)) (.int 99)) (by decide +kernel))
    · exact va_eqt (z := sv5 4) (hs (Cond.eq (.elem (Term.static "SprayedLetters$Reader" "LETTER_MOST" "[I") (.int 4)) (.int 64)) (by decide +kernel))
    · exact va_eqt (z := sv5 5) (hs (Cond.eq (.elem (Term.static "SprayedLetters$Reader" "LETTER_MOST" "[I") (.int 5)) (.int 99)) (by decide +kernel))) hA
  have hZ5 : va_Z "SprayedLetters$Reader" "LETTER_MOST" "[I" (.ref t5) (fun q : Nat => s.heap.size ≤ q) s s.heap := va_Zref (hts (Jvm.Cond.laysStatic "SprayedLetters$Reader" "LETTER_MOST" "[I") (List.mem_of_getElem? (i := 432) (by decide +kernel))) (hts (Jvm.Cond.initialized "SprayedLetters$Reader") (List.mem_of_getElem? (i := 76) (by decide +kernel))) he5 hA
  obtain ⟨t6, he6, hT6⟩ := va_Tof (args := #[Value.ref b]) (s := s) (tm := (Term.static "SprayedLetters$World" "MOST_OF_RULE" "[I")) (ty := .int) (N := 4) (f := fun j => .int (sv6 j)) (A := fun q : Nat => s.heap.size ≤ q) (by decide) (hs _ (by decide +kernel)) (va_eqt (z := Int32.ofNat 4) (hs (Cond.eq (.length (Term.static "SprayedLetters$World" "MOST_OF_RULE" "[I")) (.int 4)) (by decide +kernel))) (fun j hj => by
    rcases (show j = 0 ∨ j = 1 ∨ j = 2 ∨ j = 3 by omega) with rfl | rfl | rfl | rfl
    · exact va_eqt (z := sv6 0) (hs (Cond.eq (.elem (Term.static "SprayedLetters$World" "MOST_OF_RULE" "[I") (.int 0)) (.int 99)) (by decide +kernel))
    · exact va_eqt (z := sv6 1) (hs (Cond.eq (.elem (Term.static "SprayedLetters$World" "MOST_OF_RULE" "[I") (.int 1)) (.int 3)) (by decide +kernel))
    · exact va_eqt (z := sv6 2) (hs (Cond.eq (.elem (Term.static "SprayedLetters$World" "MOST_OF_RULE" "[I") (.int 2)) (.int 3)) (by decide +kernel))
    · exact va_eqt (z := sv6 3) (hs (Cond.eq (.elem (Term.static "SprayedLetters$World" "MOST_OF_RULE" "[I") (.int 3)) (.int 9)) (by decide +kernel))) hA
  have hZ6 : va_Z "SprayedLetters$World" "MOST_OF_RULE" "[I" (.ref t6) (fun q : Nat => s.heap.size ≤ q) s s.heap := va_Zref (hts (Jvm.Cond.laysStatic "SprayedLetters$World" "MOST_OF_RULE" "[I") (List.mem_of_getElem? (i := 722) (by decide +kernel))) (hts (Jvm.Cond.initialized "SprayedLetters$World") (List.mem_of_getElem? (i := 78) (by decide +kernel))) he6 hA
  have hC : va_Z "java/lang/String" "COMPACT_STRINGS" "Z" (.int 1) (fun q : Nat => s.heap.size ≤ q) s s.heap := va_Zof (hts (Jvm.Cond.laysStatic "java/lang/String" "COMPACT_STRINGS" "Z") (List.mem_of_getElem? (i := 364) (by decide +kernel))) (hts (Jvm.Cond.initialized "java/lang/String") (List.mem_of_getElem? (i := 81) (by decide +kernel))) (va_eqi (hs (Cond.eq (.static "java/lang/String" "COMPACT_STRINGS" "Z") (.int 1)) (by decide +kernel))) hA
  have hF : va_Zq "jdk/internal/util/Preconditions" "SIOOBE_FORMATTER" "Ljava/util/function/BiFunction;" (fun q : Nat => s.heap.size ≤ q) s s.heap := va_Zqof (hts (Jvm.Cond.laysStatic "jdk/internal/util/Preconditions" "SIOOBE_FORMATTER" "Ljava/util/function/BiFunction;") (List.mem_of_getElem? (i := 380) (by decide +kernel))) (hts (Jvm.Cond.initialized "jdk/internal/util/Preconditions") (List.mem_of_getElem? (i := 83) (by decide +kernel))) (hs (Cond.isRef (.static "jdk/internal/util/Preconditions" "SIOOBE_FORMATTER" "Ljava/util/function/BiFunction;")) (by decide +kernel)) hA
  obtain ⟨aK0, aV0, hV0, hv0⟩ := vk_Sof (args := #[Value.ref b]) (s := s) (N := 1) (tm := fun _ => (Term.string "SprayedLetters$Reader" 79)) (len := [4]) (byt := [[110, 111, 100, 101]]) (A := fun q : Nat => s.heap.size ≤ q)
    (fun i hi => by rcases (show i = 0 by omega) with rfl; decide) (fun i hi => hs (Cond.exactly (Term.string "SprayedLetters$Reader" 79) "java/lang/String") (by decide +kernel)) (fun i hi => hs (Cond.eq (.field (Term.string "SprayedLetters$Reader" 79) "java/lang/String" "coder" "B") (.int 0)) (by decide +kernel)) (fun i hi => hs (Cond.arrayOf (.field (Term.string "SprayedLetters$Reader" 79) "java/lang/String" "value" "[B") .byte) (by decide +kernel))
    (fun i hi => by rcases (show i = 0 by omega) with rfl; exact hs (Cond.eq (.length (.field (Term.string "SprayedLetters$Reader" 79) "java/lang/String" "value" "[B")) (.int 4)) (by decide +kernel))
    (fun i hi j hj => by
      rcases (show i = 0 by omega) with rfl
      have hj : j < 4 := hj
      rcases (show j = 0 ∨ j = 1 ∨ j = 2 ∨ j = 3 by omega) with rfl | rfl | rfl | rfl
      · exact hs (Cond.eq (.elem (.field (Term.string "SprayedLetters$Reader" 79) "java/lang/String" "value" "[B") (.int 0)) (.int 110)) (by decide +kernel)
      · exact hs (Cond.eq (.elem (.field (Term.string "SprayedLetters$Reader" 79) "java/lang/String" "value" "[B") (.int 1)) (.int 111)) (by decide +kernel)
      · exact hs (Cond.eq (.elem (.field (Term.string "SprayedLetters$Reader" 79) "java/lang/String" "value" "[B") (.int 2)) (.int 100)) (by decide +kernel)
      · exact hs (Cond.eq (.elem (.field (Term.string "SprayedLetters$Reader" 79) "java/lang/String" "value" "[B") (.int 3)) (.int 101)) (by decide +kernel))
    (fun i j hi hj h => absurd (show i = j by omega) h) hA
  have hR0 : vk_R "SprayedLetters$Reader" 79 "node" (aK0 0) s := vk_R.of (hts (Jvm.Cond.stringRef "SprayedLetters$Reader" (79 : Nat) "node") (List.mem_of_getElem? (i := 350) (by decide +kernel))) (hv0 0 (by decide))
  have hX0 : XStr (aK0 0) (aV0 0) 4 sw0 (fun q : Nat => s.heap.size ≤ q) s := ⟨(hV0.1 0 (by decide)).1, (hV0.1 0 (by decide)).2.1, (hV0.1 0 (by decide)).2.2.1, (hV0.1 0 (by decide)).2.2.2, hC, hF⟩
  obtain ⟨aK1, aV1, hV1, hv1⟩ := vk_Sof (args := #[Value.ref b]) (s := s) (N := 1) (tm := fun _ => (Term.string "SprayedLetters$Reader" 85)) (len := [4]) (byt := [[109, 101, 101, 116]]) (A := fun q : Nat => s.heap.size ≤ q)
    (fun i hi => by rcases (show i = 0 by omega) with rfl; decide) (fun i hi => hs (Cond.exactly (Term.string "SprayedLetters$Reader" 85) "java/lang/String") (by decide +kernel)) (fun i hi => hs (Cond.eq (.field (Term.string "SprayedLetters$Reader" 85) "java/lang/String" "coder" "B") (.int 0)) (by decide +kernel)) (fun i hi => hs (Cond.arrayOf (.field (Term.string "SprayedLetters$Reader" 85) "java/lang/String" "value" "[B") .byte) (by decide +kernel))
    (fun i hi => by rcases (show i = 0 by omega) with rfl; exact hs (Cond.eq (.length (.field (Term.string "SprayedLetters$Reader" 85) "java/lang/String" "value" "[B")) (.int 4)) (by decide +kernel))
    (fun i hi j hj => by
      rcases (show i = 0 by omega) with rfl
      have hj : j < 4 := hj
      rcases (show j = 0 ∨ j = 1 ∨ j = 2 ∨ j = 3 by omega) with rfl | rfl | rfl | rfl
      · exact hs (Cond.eq (.elem (.field (Term.string "SprayedLetters$Reader" 85) "java/lang/String" "value" "[B") (.int 0)) (.int 109)) (by decide +kernel)
      · exact hs (Cond.eq (.elem (.field (Term.string "SprayedLetters$Reader" 85) "java/lang/String" "value" "[B") (.int 1)) (.int 101)) (by decide +kernel)
      · exact hs (Cond.eq (.elem (.field (Term.string "SprayedLetters$Reader" 85) "java/lang/String" "value" "[B") (.int 2)) (.int 101)) (by decide +kernel)
      · exact hs (Cond.eq (.elem (.field (Term.string "SprayedLetters$Reader" 85) "java/lang/String" "value" "[B") (.int 3)) (.int 116)) (by decide +kernel))
    (fun i j hi hj h => absurd (show i = j by omega) h) hA
  have hR1 : vk_R "SprayedLetters$Reader" 85 "meet" (aK1 0) s := vk_R.of (hts (Jvm.Cond.stringRef "SprayedLetters$Reader" (85 : Nat) "meet") (List.mem_of_getElem? (i := 403) (by decide +kernel))) (hv1 0 (by decide))
  have hX1 : XStr (aK1 0) (aV1 0) 4 sw1 (fun q : Nat => s.heap.size ≤ q) s := ⟨(hV1.1 0 (by decide)).1, (hV1.1 0 (by decide)).2.1, (hV1.1 0 (by decide)).2.2.1, (hV1.1 0 (by decide)).2.2.2, hC, hF⟩
  obtain ⟨aK2, aV2, hV2, hv2⟩ := vk_Sof (args := #[Value.ref b]) (s := s) (N := 1) (tm := fun _ => (Term.string "SprayedLetters$Reader" 87)) (len := [6]) (byt := [[108, 101, 116, 116, 101, 114]]) (A := fun q : Nat => s.heap.size ≤ q)
    (fun i hi => by rcases (show i = 0 by omega) with rfl; decide) (fun i hi => hs (Cond.exactly (Term.string "SprayedLetters$Reader" 87) "java/lang/String") (by decide +kernel)) (fun i hi => hs (Cond.eq (.field (Term.string "SprayedLetters$Reader" 87) "java/lang/String" "coder" "B") (.int 0)) (by decide +kernel)) (fun i hi => hs (Cond.arrayOf (.field (Term.string "SprayedLetters$Reader" 87) "java/lang/String" "value" "[B") .byte) (by decide +kernel))
    (fun i hi => by rcases (show i = 0 by omega) with rfl; exact hs (Cond.eq (.length (.field (Term.string "SprayedLetters$Reader" 87) "java/lang/String" "value" "[B")) (.int 6)) (by decide +kernel))
    (fun i hi j hj => by
      rcases (show i = 0 by omega) with rfl
      have hj : j < 6 := hj
      rcases (show j = 0 ∨ j = 1 ∨ j = 2 ∨ j = 3 ∨ j = 4 ∨ j = 5 by omega) with rfl | rfl | rfl | rfl | rfl | rfl
      · exact hs (Cond.eq (.elem (.field (Term.string "SprayedLetters$Reader" 87) "java/lang/String" "value" "[B") (.int 0)) (.int 108)) (by decide +kernel)
      · exact hs (Cond.eq (.elem (.field (Term.string "SprayedLetters$Reader" 87) "java/lang/String" "value" "[B") (.int 1)) (.int 101)) (by decide +kernel)
      · exact hs (Cond.eq (.elem (.field (Term.string "SprayedLetters$Reader" 87) "java/lang/String" "value" "[B") (.int 2)) (.int 116)) (by decide +kernel)
      · exact hs (Cond.eq (.elem (.field (Term.string "SprayedLetters$Reader" 87) "java/lang/String" "value" "[B") (.int 3)) (.int 116)) (by decide +kernel)
      · exact hs (Cond.eq (.elem (.field (Term.string "SprayedLetters$Reader" 87) "java/lang/String" "value" "[B") (.int 4)) (.int 101)) (by decide +kernel)
      · exact hs (Cond.eq (.elem (.field (Term.string "SprayedLetters$Reader" 87) "java/lang/String" "value" "[B") (.int 5)) (.int 114)) (by decide +kernel))
    (fun i j hi hj h => absurd (show i = j by omega) h) hA
  have hR2 : vk_R "SprayedLetters$Reader" 87 "letter" (aK2 0) s := vk_R.of (hts (Jvm.Cond.stringRef "SprayedLetters$Reader" (87 : Nat) "letter") (List.mem_of_getElem? (i := 404) (by decide +kernel))) (hv2 0 (by decide))
  have hX2 : XStr (aK2 0) (aV2 0) 6 sw2 (fun q : Nat => s.heap.size ≤ q) s := ⟨(hV2.1 0 (by decide)).1, (hV2.1 0 (by decide)).2.1, (hV2.1 0 (by decide)).2.2.1, (hV2.1 0 (by decide)).2.2.2, hC, hF⟩
  exact ⟨fun j => ([t0, t1, t2, t3, t4, t5, t6, aK0 0, aK1 0, aK2 0, aV0 0, aV1 0, aV2 0] : List Nat).getD j 0, ⟨hZ0, hT0⟩, ⟨hZ1, hT1⟩, ⟨hZ2, hT2⟩, ⟨hZ3, hT3⟩, ⟨hZ4, hT4⟩, ⟨hZ5, hT5⟩, ⟨hZ6, hT6⟩, ⟨hR0, hX0⟩, ⟨hR1, hX1⟩, ⟨hR2, hX2⟩⟩
set_option maxHeartbeats 4000000 in
set_option maxRecDepth 100000 in
theorem k_start {s : State} {b : Nat} (hts : ∀ w ∈ lw_tbl, w.before #[Value.ref b] s = true) : ∃ (D : va_G) (k : Nat → ClassId), va_K D vwCl (tyK k) s := by
  obtain ⟨c0, iS0, hKn0⟩ := u_known (C := RX0) (T := TX0) (N := 6) (n := 6) hts (fun w h => tb_in (inX0 w h)) (hts (.instantiable RX0 6) (tb_in mw_47))
  obtain ⟨c1, iS1, hKn1⟩ := u_known (C := RX1) (T := TX1) (N := 6) (n := 6) hts (fun w h => tb_in (inX1 w h)) (hts (.instantiable RX1 6) (tb_in mw_189))
  obtain ⟨c2, iS2, hKn2⟩ := u_known (C := RX2) (T := TX2) (N := 8) (n := 8) hts (fun w h => tb_in (inX2 w h)) (hts (.instantiable RX2 8) (tb_in mw_41))
  obtain ⟨c3, iS3, hKn3⟩ := u_known (C := RX3) (T := TX3) (N := 2) (n := 2) hts (fun w h => tb_in (inX3 w h)) (hts (.instantiable RX3 2) (tb_in mw_24))
  obtain ⟨c4, iS4, hKn4⟩ := u_known (C := RX4) (T := TX4) (N := 12) (n := 12) hts (fun w h => tb_in (inX4 w h)) (hts (.instantiable RX4 12) (tb_in mw_115))
  obtain ⟨c5, iS5, hKn5⟩ := u_known (C := RX5) (T := TX5) (N := 6) (n := 6) hts (fun w h => tb_in (inX5 w h)) (hts (.instantiable RX5 6) (tb_in mw_16))
  obtain ⟨c6, iS6, hKn6⟩ := u_known (C := RX6) (T := TX6) (N := 20) (n := 20) hts (fun w h => tb_in (inX6 w h)) (hts (.instantiable RX6 20) (tb_in mw_682))
  obtain ⟨a0, ka0, co0, f0, g0, e0⟩ := Cond.arrayClass_spec (hts (.arrayClass .int) (tb_in mw_85))
  obtain ⟨a1, ka1, co1, f1, g1, e1⟩ := Cond.arrayClass_spec (hts (.arrayClass .boolean) (tb_in mw_213))
  obtain ⟨a2, ka2, co2, f2, g2, e2⟩ := Cond.arrayClass_spec (hts (.arrayClass .byte) (tb_in mw_39))
  obtain ⟨co3, a3, ka3, f3, -, g3, e3, d3⟩ := Cond.arrayOver_spec (hts (Jvm.Cond.arrayOver (Jvm.ClassFile.FieldType.object "SprayedLetters$World")) (List.mem_of_getElem? (i := 287) (by decide +kernel)))
  refine ⟨(fun j => if j = 0 then c0 else if j = 1 then c1 else if j = 2 then c2 else if j = 3 then c3 else if j = 4 then c4 else if j = 5 then c5 else c6, fun j => if j = 0 then iS0 else if j = 1 then iS1 else if j = 2 then iS2 else if j = 3 then iS3 else if j = 4 then iS4 else if j = 5 then iS5 else iS6), fun j => if j = 0 then a0 else if j = 1 then a1 else if j = 2 then a2 else a3, fun j q hq => ?_, fun j q hq => ?_⟩
  · match j, hq with
    | 0, hq => cases hq; exact hKn0
    | 1, hq => cases hq; exact hKn1
    | 2, hq => cases hq; exact hKn2
    | 3, hq => cases hq; exact hKn3
    | 4, hq => cases hq; exact hKn4
    | 5, hq => cases hq; exact hKn5
    | 6, hq => cases hq; exact hKn6
    | j + 7, hq => simp [vwCl] at hq
  · match j, hq with
    | 0, hq => cases hq; exact ⟨fun n z => ⟨fun k h => (by cases h), ka0, g0, co0, e0⟩, f0⟩
    | 1, hq => cases hq; exact ⟨fun n z => ⟨fun k h => (by cases h), ka1, g1, co1, e1⟩, f1⟩
    | 2, hq => cases hq; exact ⟨fun n z => ⟨fun k h => (by cases h), ka2, g2, co2, e2⟩, f2⟩
    | 3, hq => cases hq; exact ⟨fun n z => ⟨fun k h => (by cases h), ka3, g3, co3, e3⟩, ka3, co3, g3, e3, f3, d3⟩
    | j + 4, hq => simp [tyK] at hq
set_option maxHeartbeats 4000000 in
set_option maxRecDepth 100000 in
theorem whole_start {p : Program} {e : Env} {s : State} {m : MethodId} {below : List Frame} {meth : Method} {c : Code} (l : Launch) (hflags : l.flags = flags0) {b L : Nat} {xs : Nat → Int32} (hL : L ≤ 3072) (C0 : lw_At p s m meth c b L xs) : W p l e room_1 s m #[Value.ref b] below meth c s.heap [] 0 0 (lw_Z below #[Value.ref b] s) (entryFrame m ([Value.ref b] : List Value).toArray 4) := by
  obtain ⟨hx, hb, hr, hml, hown, hts, hX, hbl, hlocks, hgv⟩ := id C0
  obtain ⟨D, k, hK⟩ := k_start hts
  obtain ⟨t, hE⟩ := ev_start hts hgv
  obtain ⟨qb, hqb, hR⟩ := op_start
  have C : Cx p s m #[Value.ref b] c code 4 RL (fun q : Nat => s.heap.size ≤ q) D k := ⟨hx, hb, hml, hown, fun w h => hts w (tb_in h), fun _ h => h, hK⟩
  have hXN : XN (fun q : Nat => s.heap.size ≤ q) s := ⟨va_AO.of (hts (Jvm.Cond.arrayOver (Jvm.ClassFile.FieldType.object "SprayedLetters$World")) (List.mem_of_getElem? (i := 287) (by decide +kernel))), va_Nw.of rfl (hts (Jvm.Cond.methodLinkNest "SprayedLetters" (9 : Nat) ({ cls := "SprayedLetters$Tape", name := "<init>", desc := "()V" } : Jvm.MethodName) "SprayedLetters") (List.mem_of_getElem? (i := 98) (by decide +kernel))), va_Nw.of rfl (hts (Jvm.Cond.methodLinkNest "SprayedLetters$Reader" (11 : Nat) ({ cls := "SprayedLetters$Plan", name := "<init>", desc := "()V" } : Jvm.MethodName) "SprayedLetters") (List.mem_of_getElem? (i := 121) (by decide +kernel))), va_Nw.of rfl (hts (Jvm.Cond.methodLinkNest "SprayedLetters$World" (11 : Nat) ({ cls := "SprayedLetters$Plan", name := "<init>", desc := "()V" } : Jvm.MethodName) "SprayedLetters") (List.mem_of_getElem? (i := 194) (by decide +kernel)))⟩
  have hS : va_S (fun q : Nat => s.heap.size ≤ q) s.heap s.heap [] := va_S.rf
  have hP : va_P D vwCl [] s.heap := fun k q h => by simp at h
  have hD : va_D (fun q : Nat => s.heap.size ≤ q) [] := ⟨fun i j p q h => by simp at h, fun k q h => by simp at h⟩
  have hl := lv_entry ([.ref b]) (n := 4) (Nat.le_of_ble_eq_true rfl)
  rw [lg_entry_eq]
  generalize (lg_sl ([.ref b]) ++ List.replicate (4 - (lg_sl ([.ref b])).length) Slot.unset).toArray = ls at hl ⊢
  have hl : lv_has ls 4 [(0, .ref b)] := hl
  refine knew C inX5 tyX5_ok mw_15 mw_16 mw_1 hP hD hS (ci := 5) rfl dfX5 (Nat.le_of_ble_eq_true rfl) (Nat.le_of_ble_eq_true rfl) dL_law_0 (fun q0 H hP hD hS => ?_)
  have hP : va_P D vwCl [(q0, .inr (5, [.null, .null, .null, .null, .null, .null]))] H := hP
  have hD : va_D (fun q : Nat => s.heap.size ≤ q) [(q0, .inr (5, [.null, .null, .null, .null, .null, .null]))] := hD
  refine lv_dup hx hb dL_law_3 rfl ?_
  refine kcN (n := 0) C hXN (knX5 (l := l) (D := D) (k := k) q0 qb hqb) mw_18 mw_1 mw_19 mw_17 rfl ⟨by decide, by decide, by decide⟩ ⟨rfl, rfl, Nat.le_of_ble_eq_true rfl, Nat.le_of_ble_eq_true rfl⟩ hP hD hS [0] rfl rfl [] (wr := []) rfl rfl (by decide) rfl hl.1 (rest := [.ref q0]) (Nat.le_of_ble_eq_true rfl) rfl dL_law_4 ⟨Nat.le_of_ble_eq_true rfl, Nat.le_of_ble_eq_true rfl⟩ (fun a4 H locs hP hD hS => ?_)
  have hP : va_P D vwCl (wnX5 k q0 a4 qb) H := hP
  have hD : va_D (fun q : Nat => s.heap.size ≤ q) (wnX5 k q0 a4 qb) := hD
  refine lv_astore_n (lv' := [(1, .ref q0), (0, .ref b)]) hx hb dL_law_7 rfl hl (by decide) rfl (fun ls hl => ?_)
  refine knew C inX6 tyX6_ok mw_681 mw_682 mw_7 hP hD hS (ci := 6) rfl dfX6 (Nat.le_of_ble_eq_true rfl) (Nat.le_of_ble_eq_true rfl) dL_law_8 (fun q8 H hP hD hS => ?_)
  refine lv_dup hx hb dL_law_11 rfl ?_
  refine kcN (n := 0) C hXN (knX6 (l := l) (D := D) (k := k) q8) mw_684 mw_7 mw_685 mw_683 rfl ⟨by decide, by decide, by decide⟩ ⟨rfl, rfl, Nat.le_of_ble_eq_true rfl, Nat.le_of_ble_eq_true rfl⟩ hP hD hS [59] rfl rfl [0, 1, 2, 3, 4, 5, 6, 7, 8, 9, 10, 11, 12, 13, 14, 15, 16, 17, 18, 19, 20, 21, 22, 23, 24, 25, 26, 27, 28, 29, 30, 31, 32, 33, 34, 35, 36, 37, 38, 39, 40, 41, 42, 43, 44, 45, 46, 47, 48, 49, 50, 51, 52, 53, 54, 55, 56, 57, 58] (wr := (wnX5 k q0 a4 qb)) rfl rfl (by decide) rfl hl.1 (rest := [.ref q8]) (Nat.le_of_ble_eq_true rfl) rfl dL_law_12 ⟨Nat.le_of_ble_eq_true rfl, Nat.le_of_ble_eq_true rfl⟩ (fun a12 H locs hP hD hS => ?_)
  refine lv_astore_n (lv' := [(2, .ref q8), (1, .ref q0), (0, .ref b)]) hx hb dL_law_15 rfl hl (by decide) rfl (fun ls hl => ?_)
  refine lv_iconst (v := (0 : Int32)) hx hb dL_law_16 (by decide) ?_
  refine lv_istore_n (lv' := [(3, .int (0 : Int32)), (2, .ref q8), (1, .ref q0), (0, .ref b)]) hx hb dL_law_17 rfl hl (by decide) rfl (fun ls hl => ?_)
  refine W.widen (k := 600000) (n := 7302250) (Nat.le_of_ble_eq_true rfl) (Nat.le_of_ble_eq_true rfl) ?_
  have hP : va_P D vwCl (wLaw k q0 (a4 0) (a4 1) (a4 2) (a4 3) (a4 4) (a4 5) (a4 6) (a4 7) (a4 8) (a4 9) (a4 10) (a4 11) (a4 12) (a4 13) (a4 14) (a4 15) (a4 16) (a4 17) (a4 18) (a4 19) (a4 20) (a4 21) (a4 22) (a4 23) (a4 24) (a4 25) (a4 26) (a4 27) (a4 28) (a4 29) (a4 30) (a4 31) (a4 32) (a4 33) (a4 34) (a4 35) (a4 36) (a4 37) (a4 38) (a4 39) (a4 40) (a4 41) (a4 42) (a4 43) (a4 44) (a4 45) (a4 46) (a4 47) (a4 48) (a4 49) (a4 50) (a4 51) (a4 52) (a4 53) (a4 54) (a4 55) (a4 56) (a4 57) q8 (a12 0) (a12 1) (a12 2) (a12 3) (a12 4) (a12 5) (a12 6) (a12 7) (a12 8) 0 (fun _ => 0) 0 0 0 0 0 0 0 0 (fun _ => 0) (fun _ => 0) (fun _ => 0) (fun _ => 0) qb.1 0 0 0 (fun _ => 0) (fun _ => 0) (fun _ => 0) (upd (upd (upd (upd (fun _ => 0) 0 (0 : Int32)) 1 (1 : Int32)) 2 (1 : Int32)) 3 (0 : Int32)) qb.2.1 qb.2.2.1 qb.2.2.2.1 (fun _ => 0) (fun _ => 0) qb.2.2.2.2.1 qb.2.2.2.2.2.1 qb.2.2.2.2.2.2.1 qb.2.2.2.2.2.2.2 0 0 (fun _ => 0) (fun _ => 0) qb.1 0 0 0 (fun _ => 0) (fun _ => 0) (fun _ => 0) (upd (upd (upd (upd (fun _ => 0) 0 (0 : Int32)) 1 (1 : Int32)) 2 (1 : Int32)) 3 (0 : Int32)) qb.2.1 qb.2.2.1 qb.2.2.2.1 (fun _ => 0) (fun _ => 0) qb.2.2.2.2.1 qb.2.2.2.2.2.1 qb.2.2.2.2.2.2.1 qb.2.2.2.2.2.2.2 qb.1 0 0 0 (fun _ => 0) (fun _ => 0) (fun _ => 0) (upd (upd (upd (upd (fun _ => 0) 0 (0 : Int32)) 1 (1 : Int32)) 2 (1 : Int32)) 3 (0 : Int32)) qb.2.1 qb.2.2.1 qb.2.2.2.1 (fun _ => 0) (fun _ => 0) qb.2.2.2.2.1 qb.2.2.2.2.2.1 qb.2.2.2.2.2.2.1 qb.2.2.2.2.2.2.2 (fun _ => 0) 0 0 0 0 0 0 0 0 0 0 0 (upd (upd (fun _ => 0) 5 (1 : Int32)) 6 (1 : Int32)) (fun _ => 0) (fun _ => 0) (fun _ => 0) (fun _ => 0) (upd (upd (upd (upd (fun _ => 0) 0 (0 : Int32)) 1 (4 : Int32)) 2 (8 : Int32)) 3 (14 : Int32)) (upd (upd (upd (upd (upd (upd (upd (upd (upd (upd (upd (upd (upd (upd (fun _ => 0) 0 (110 : Int32)) 1 (111 : Int32)) 2 (100 : Int32)) 3 (101 : Int32)) 4 (109 : Int32)) 5 (101 : Int32)) 6 (101 : Int32)) 7 (116 : Int32)) 8 (108 : Int32)) 9 (101 : Int32)) 10 (116 : Int32)) 11 (116 : Int32)) 12 (101 : Int32)) 13 (114 : Int32)) (fun _ => 0) (fun _ => 0)) H := hP
  have hD : va_D (fun q : Nat => s.heap.size ≤ q) (wLaw k q0 (a4 0) (a4 1) (a4 2) (a4 3) (a4 4) (a4 5) (a4 6) (a4 7) (a4 8) (a4 9) (a4 10) (a4 11) (a4 12) (a4 13) (a4 14) (a4 15) (a4 16) (a4 17) (a4 18) (a4 19) (a4 20) (a4 21) (a4 22) (a4 23) (a4 24) (a4 25) (a4 26) (a4 27) (a4 28) (a4 29) (a4 30) (a4 31) (a4 32) (a4 33) (a4 34) (a4 35) (a4 36) (a4 37) (a4 38) (a4 39) (a4 40) (a4 41) (a4 42) (a4 43) (a4 44) (a4 45) (a4 46) (a4 47) (a4 48) (a4 49) (a4 50) (a4 51) (a4 52) (a4 53) (a4 54) (a4 55) (a4 56) (a4 57) q8 (a12 0) (a12 1) (a12 2) (a12 3) (a12 4) (a12 5) (a12 6) (a12 7) (a12 8) 0 (fun _ => 0) 0 0 0 0 0 0 0 0 (fun _ => 0) (fun _ => 0) (fun _ => 0) (fun _ => 0) qb.1 0 0 0 (fun _ => 0) (fun _ => 0) (fun _ => 0) (upd (upd (upd (upd (fun _ => 0) 0 (0 : Int32)) 1 (1 : Int32)) 2 (1 : Int32)) 3 (0 : Int32)) qb.2.1 qb.2.2.1 qb.2.2.2.1 (fun _ => 0) (fun _ => 0) qb.2.2.2.2.1 qb.2.2.2.2.2.1 qb.2.2.2.2.2.2.1 qb.2.2.2.2.2.2.2 0 0 (fun _ => 0) (fun _ => 0) qb.1 0 0 0 (fun _ => 0) (fun _ => 0) (fun _ => 0) (upd (upd (upd (upd (fun _ => 0) 0 (0 : Int32)) 1 (1 : Int32)) 2 (1 : Int32)) 3 (0 : Int32)) qb.2.1 qb.2.2.1 qb.2.2.2.1 (fun _ => 0) (fun _ => 0) qb.2.2.2.2.1 qb.2.2.2.2.2.1 qb.2.2.2.2.2.2.1 qb.2.2.2.2.2.2.2 qb.1 0 0 0 (fun _ => 0) (fun _ => 0) (fun _ => 0) (upd (upd (upd (upd (fun _ => 0) 0 (0 : Int32)) 1 (1 : Int32)) 2 (1 : Int32)) 3 (0 : Int32)) qb.2.1 qb.2.2.1 qb.2.2.2.1 (fun _ => 0) (fun _ => 0) qb.2.2.2.2.1 qb.2.2.2.2.2.1 qb.2.2.2.2.2.2.1 qb.2.2.2.2.2.2.2 (fun _ => 0) 0 0 0 0 0 0 0 0 0 0 0 (upd (upd (fun _ => 0) 5 (1 : Int32)) 6 (1 : Int32)) (fun _ => 0) (fun _ => 0) (fun _ => 0) (fun _ => 0) (upd (upd (upd (upd (fun _ => 0) 0 (0 : Int32)) 1 (4 : Int32)) 2 (8 : Int32)) 3 (14 : Int32)) (upd (upd (upd (upd (upd (upd (upd (upd (upd (upd (upd (upd (upd (upd (fun _ => 0) 0 (110 : Int32)) 1 (111 : Int32)) 2 (100 : Int32)) 3 (101 : Int32)) 4 (109 : Int32)) 5 (101 : Int32)) 6 (101 : Int32)) 7 (116 : Int32)) 8 (108 : Int32)) 9 (101 : Int32)) 10 (116 : Int32)) 11 (116 : Int32)) 12 (101 : Int32)) 13 (114 : Int32)) (fun _ => 0) (fun _ => 0)) := hD
  exact law_loop l hL C0 C t hE q0 (a4 0) (a4 1) (a4 2) (a4 3) (a4 4) (a4 5) (a4 6) (a4 7) (a4 8) (a4 9) (a4 10) (a4 11) (a4 12) (a4 13) (a4 14) (a4 15) (a4 16) (a4 17) (a4 18) (a4 19) (a4 20) (a4 21) (a4 22) (a4 23) (a4 24) (a4 25) (a4 26) (a4 27) (a4 28) (a4 29) (a4 30) (a4 31) (a4 32) (a4 33) (a4 34) (a4 35) (a4 36) (a4 37) (a4 38) (a4 39) (a4 40) (a4 41) (a4 42) (a4 43) (a4 44) (a4 45) (a4 46) (a4 47) (a4 48) (a4 49) (a4 50) (a4 51) (a4 52) (a4 53) (a4 54) (a4 55) (a4 56) (a4 57) q8 (a12 0) (a12 1) (a12 2) (a12 3) (a12 4) (a12 5) (a12 6) (a12 7) (a12 8) (L + 1) 0 0 (fun _ => 0) 0 0 0 0 0 0 0 0 (fun _ => 0) (fun _ => 0) (fun _ => 0) (fun _ => 0) qb.1 0 0 0 (fun _ => 0) (fun _ => 0) (fun _ => 0) (upd (upd (upd (upd (fun _ => 0) 0 (0 : Int32)) 1 (1 : Int32)) 2 (1 : Int32)) 3 (0 : Int32)) qb.2.1 qb.2.2.1 qb.2.2.2.1 (fun _ => 0) (fun _ => 0) qb.2.2.2.2.1 qb.2.2.2.2.2.1 qb.2.2.2.2.2.2.1 qb.2.2.2.2.2.2.2 0 0 (fun _ => 0) (fun _ => 0) qb.1 0 0 0 (fun _ => 0) (fun _ => 0) (fun _ => 0) (upd (upd (upd (upd (fun _ => 0) 0 (0 : Int32)) 1 (1 : Int32)) 2 (1 : Int32)) 3 (0 : Int32)) qb.2.1 qb.2.2.1 qb.2.2.2.1 (fun _ => 0) (fun _ => 0) qb.2.2.2.2.1 qb.2.2.2.2.2.1 qb.2.2.2.2.2.2.1 qb.2.2.2.2.2.2.2 qb.1 0 0 0 (fun _ => 0) (fun _ => 0) (fun _ => 0) (upd (upd (upd (upd (fun _ => 0) 0 (0 : Int32)) 1 (1 : Int32)) 2 (1 : Int32)) 3 (0 : Int32)) qb.2.1 qb.2.2.1 qb.2.2.2.1 (fun _ => 0) (fun _ => 0) qb.2.2.2.2.1 qb.2.2.2.2.2.1 qb.2.2.2.2.2.2.1 qb.2.2.2.2.2.2.2 (fun _ => 0) 0 0 0 0 0 0 0 0 0 0 0 (upd (upd (fun _ => 0) 5 (1 : Int32)) 6 (1 : Int32)) (fun _ => 0) (fun _ => 0) (fun _ => 0) (fun _ => 0) (upd (upd (upd (upd (fun _ => 0) 0 (0 : Int32)) 1 (4 : Int32)) 2 (8 : Int32)) 3 (14 : Int32)) (upd (upd (upd (upd (upd (upd (upd (upd (upd (upd (upd (upd (upd (upd (fun _ => 0) 0 (110 : Int32)) 1 (111 : Int32)) 2 (100 : Int32)) 3 (101 : Int32)) 4 (109 : Int32)) 5 (101 : Int32)) 6 (101 : Int32)) 7 (116 : Int32)) 8 (108 : Int32)) 9 (101 : Int32)) 10 (116 : Int32)) 11 (116 : Int32)) 12 (101 : Int32)) 13 (114 : Int32)) (fun _ => 0) (fun _ => 0) (by omega) (Nat.zero_le _) hR H locs ls hP hD hS (lv_sub hl [3, 2, 1, 0] rfl)
