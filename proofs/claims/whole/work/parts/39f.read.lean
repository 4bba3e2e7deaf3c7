theorem n10 : ¬ (1 : Int32) = 0 := by decide
theorem n01 : ¬ (0 : Int32) = 1 := by decide
theorem p00 : (0 : Int32) = 0 := rfl
theorem p11 : (1 : Int32) = 1 := rfl
theorem c_imagesKept {kept : Nat → Int32} (k0 : kept 0 = 0 ∨ kept 0 = 1) (k1 : kept 1 = 0 ∨ kept 1 = 1) : fX5_imagesKept kept = some (kept 0 + kept 1) := by
  have b2 : ∀ i, i < 2 → ¬ (2 : Int32) ≤ nI i := fun i hi => nI_ge (a := i) (b := 2) hi (by omega)
  unfold fX5_imagesKept
  rw [show FU = 1997 + 1 + 1 + 1 from rfl, show (0 : Int32) = nI 0 from rfl, fX5_imagesKept_4, if_neg (b2 0 (by omega)), gd_in (show 0 < 2 by omega) (by omega), nI_clamp (show 0 < 2 ^ 31 by omega), nI_1, show nI 0 = (0 : Int32) from rfl]
  have second : ∀ s : Int32, fX5_imagesKept_4 kept (1997 + 1 + 1) s (nI (0 + 1)) = some (s + kept 1) := by
    intro s
    rw [fX5_imagesKept_4, if_neg (b2 1 (by omega)), gd_in (show 0 + 1 < 2 by omega) (by omega), nI_clamp (show 0 + 1 < 2 ^ 31 by omega), nI_1]
    rcases k1 with q | q
    · rw [q, if_pos p00, fX5_imagesKept_4, if_pos (show (2 : Int32) ≤ nI (0 + 1 + 1) by decide), Int32.add_zero]
    · rw [q, if_neg n10, fX5_imagesKept_4, if_pos (show (2 : Int32) ≤ nI (0 + 1 + 1) by decide)]
  rw [second, second]
  rcases k0 with q | q
  · rw [q, if_pos p00, bd_s]
  · rw [q, if_neg n10, bd_s]
    rfl
theorem m_kept2 {kept : Nat → Int32} (k0 : kept 0 = 0 ∨ kept 0 = 1) (k1 : kept 1 = 0 ∨ kept 1 = 1) : (bd (if kept 0 = 0 then some (0 : Int32) else some 1) (fun v76 => if kept 1 = 0 then some (v76 + 0) else some (v76 + 1))) = some (kept 0 + kept 1) := by
  rcases k0 with q | q <;> rcases k1 with q2 | q2 <;> rw [q, q2] <;> rfl
section PU
variable {N K Z C : Nat} {rooms mrows lrows rules counts refused tokens hops since notes lasts dAt dHops : Nat → Int32} {page : Nat → Int32}
theorem rule_sim (h : IW N K Z C rooms mrows lrows rules counts refused tokens hops since notes lasts dAt dHops page) {kept : Nat → Int32} (k0 : kept 0 = 0 ∨ kept 0 = 1) (k1 : kept 1 = 0 ∨ kept 1 = 1) (len x : Int32) : ∃ v, fX5_rule len (nI C) (nI N) (nI K) (nI Z) rules counts tokens kept x = some v ∧ fX6_rule len page kept x = some v := by
  have hN := h.hN
  have hZ := h.hZ
  unfold fX5_rule fX6_rule
  rcases in_sim x 0 18 (A := 0) (B := 18) (by decide) (by decide) (by omega) (by omega) with ⟨t, -, b2, rfl, b4⟩ | ⟨b, b4⟩
  · rcases (show t = 0 ∨ t = 1 ∨ t = 2 ∨ t = 3 ∨ t = 4 ∨ t = 5 ∨ t = 6 ∨ t = 7 ∨ t = 8 ∨ t = 9 ∨ t = 10 ∨ t = 11 ∨ t = 12 ∨ t = 13 ∨ t = 14 ∨ t = 15 ∨ t = 16 ∨ t = 17 ∨ t = 18 by omega) with rfl | rfl | rfl | rfl | rfl | rfl | rfl | rfl | rfl | rfl | rfl | rfl | rfl | rfl | rfl | rfl | rfl | rfl | rfl
    · refine ⟨nI N, ?_, ?_⟩
      · rw [if_pos (show nI 0 = 0 by decide)]
      · rw [b4, bd_s, if_neg (show ¬ (1 : Int32) = 0 by decide), if_neg (show ¬ nI 0 = 8 by decide), if_neg (show ¬ nI 0 = 17 by decide), if_neg (show ¬ nI 0 = 18 by decide), if_neg (show ¬ 8 ≤ nI 0 by decide), gd_in (show 0 < 831 by omega) (by omega), nI_clamp (show 0 < 2 ^ 31 by omega)]
        exact congrArg some h.p0
    · refine ⟨nI K, ?_, ?_⟩
      · rw [if_neg (show ¬ nI 1 = 0 by decide), if_pos (show nI 1 = 1 by decide)]
      · rw [b4, bd_s, if_neg (show ¬ (1 : Int32) = 0 by decide), if_neg (show ¬ nI 1 = 8 by decide), if_neg (show ¬ nI 1 = 17 by decide), if_neg (show ¬ nI 1 = 18 by decide), if_neg (show ¬ 8 ≤ nI 1 by decide), gd_in (show 1 < 831 by omega) (by omega), nI_clamp (show 1 < 2 ^ 31 by omega)]
        exact congrArg some h.p1
    · refine ⟨nI Z, ?_, ?_⟩
      · rw [if_neg (show ¬ nI 2 = 0 by decide), if_neg (show ¬ nI 2 = 1 by decide), if_pos (show nI 2 = 2 by decide)]
      · rw [b4, bd_s, if_neg (show ¬ (1 : Int32) = 0 by decide), if_neg (show ¬ nI 2 = 8 by decide), if_neg (show ¬ nI 2 = 17 by decide), if_neg (show ¬ nI 2 = 18 by decide), if_neg (show ¬ 8 ≤ nI 2 by decide), gd_in (show 2 < 831 by omega) (by omega), nI_clamp (show 2 < 2 ^ 31 by omega)]
        exact congrArg some h.p2
    · refine ⟨nI C, ?_, ?_⟩
      · rw [if_neg (show ¬ nI 3 = 0 by decide), if_neg (show ¬ nI 3 = 1 by decide), if_neg (show ¬ nI 3 = 2 by decide), if_pos (show nI 3 = 3 by decide)]
      · rw [b4, bd_s, if_neg (show ¬ (1 : Int32) = 0 by decide), if_neg (show ¬ nI 3 = 8 by decide), if_neg (show ¬ nI 3 = 17 by decide), if_neg (show ¬ nI 3 = 18 by decide), if_neg (show ¬ 8 ≤ nI 3 by decide), gd_in (show 3 < 831 by omega) (by omega), nI_clamp (show 3 < 2 ^ 31 by omega)]
        exact congrArg some h.p3
    · refine ⟨rules 0, ?_, ?_⟩
      · rw [if_neg (show ¬ nI 4 = 0 by decide), if_neg (show ¬ nI 4 = 1 by decide), if_neg (show ¬ nI 4 = 2 by decide), if_neg (show ¬ nI 4 = 3 by decide), if_neg (show ¬ nI 4 = 8 by decide), if_neg (show ¬ nI 4 = 17 by decide), if_neg (show ¬ nI 4 = 18 by decide), if_neg (show ¬ nI 4 < 4 by decide), if_neg (show ¬ 7 < nI 4 by decide), show nI 4 - 4 = nI 0 by decide, gd_in (show 0 < 4 by omega) (by omega), nI_clamp (show 0 < 2 ^ 31 by omega)]
        rfl
      · rw [b4, bd_s, if_neg (show ¬ (1 : Int32) = 0 by decide), if_neg (show ¬ nI 4 = 8 by decide), if_neg (show ¬ nI 4 = 17 by decide), if_neg (show ¬ nI 4 = 18 by decide), if_neg (show ¬ 8 ≤ nI 4 by decide), gd_in (show 4 < 831 by omega) (by omega), nI_clamp (show 4 < 2 ^ 31 by omega)]
        exact congrArg some (h.pr (i := 0) (by omega))
    · refine ⟨rules 1, ?_, ?_⟩
      · rw [if_neg (show ¬ nI 5 = 0 by decide), if_neg (show ¬ nI 5 = 1 by decide), if_neg (show ¬ nI 5 = 2 by decide), if_neg (show ¬ nI 5 = 3 by decide), if_neg (show ¬ nI 5 = 8 by decide), if_neg (show ¬ nI 5 = 17 by decide), if_neg (show ¬ nI 5 = 18 by decide), if_neg (show ¬ nI 5 < 4 by decide), if_neg (show ¬ 7 < nI 5 by decide), show nI 5 - 4 = nI 1 by decide, gd_in (show 1 < 4 by omega) (by omega), nI_clamp (show 1 < 2 ^ 31 by omega)]
        rfl
      · rw [b4, bd_s, if_neg (show ¬ (1 : Int32) = 0 by decide), if_neg (show ¬ nI 5 = 8 by decide), if_neg (show ¬ nI 5 = 17 by decide), if_neg (show ¬ nI 5 = 18 by decide), if_neg (show ¬ 8 ≤ nI 5 by decide), gd_in (show 5 < 831 by omega) (by omega), nI_clamp (show 5 < 2 ^ 31 by omega)]
        exact congrArg some (h.pr (i := 1) (by omega))
    · refine ⟨rules 2, ?_, ?_⟩
      · rw [if_neg (show ¬ nI 6 = 0 by decide), if_neg (show ¬ nI 6 = 1 by decide), if_neg (show ¬ nI 6 = 2 by decide), if_neg (show ¬ nI 6 = 3 by decide), if_neg (show ¬ nI 6 = 8 by decide), if_neg (show ¬ nI 6 = 17 by decide), if_neg (show ¬ nI 6 = 18 by decide), if_neg (show ¬ nI 6 < 4 by decide), if_neg (show ¬ 7 < nI 6 by decide), show nI 6 - 4 = nI 2 by decide, gd_in (show 2 < 4 by omega) (by omega), nI_clamp (show 2 < 2 ^ 31 by omega)]
        rfl
      · rw [b4, bd_s, if_neg (show ¬ (1 : Int32) = 0 by decide), if_neg (show ¬ nI 6 = 8 by decide), if_neg (show ¬ nI 6 = 17 by decide), if_neg (show ¬ nI 6 = 18 by decide), if_neg (show ¬ 8 ≤ nI 6 by decide), gd_in (show 6 < 831 by omega) (by omega), nI_clamp (show 6 < 2 ^ 31 by omega)]
        exact congrArg some (h.pr (i := 2) (by omega))
    · refine ⟨rules 3, ?_, ?_⟩
      · rw [if_neg (show ¬ nI 7 = 0 by decide), if_neg (show ¬ nI 7 = 1 by decide), if_neg (show ¬ nI 7 = 2 by decide), if_neg (show ¬ nI 7 = 3 by decide), if_neg (show ¬ nI 7 = 8 by decide), if_neg (show ¬ nI 7 = 17 by decide), if_neg (show ¬ nI 7 = 18 by decide), if_neg (show ¬ nI 7 < 4 by decide), if_neg (show ¬ 7 < nI 7 by decide), show nI 7 - 4 = nI 3 by decide, gd_in (show 3 < 4 by omega) (by omega), nI_clamp (show 3 < 2 ^ 31 by omega)]
        rfl
      · rw [b4, bd_s, if_neg (show ¬ (1 : Int32) = 0 by decide), if_neg (show ¬ nI 7 = 8 by decide), if_neg (show ¬ nI 7 = 17 by decide), if_neg (show ¬ nI 7 = 18 by decide), if_neg (show ¬ 8 ≤ nI 7 by decide), gd_in (show 7 < 831 by omega) (by omega), nI_clamp (show 7 < 2 ^ 31 by omega)]
        exact congrArg some (h.pr (i := 3) (by omega))
    · refine ⟨sumZ (fun n => sumZ (gCopy tokens n) 0 Z) 0 N, ?_, ?_⟩
      · rw [if_neg (show ¬ nI 8 = 0 by decide), if_neg (show ¬ nI 8 = 1 by decide), if_neg (show ¬ nI 8 = 2 by decide), if_neg (show ¬ nI 8 = 3 by decide), if_pos (show nI 8 = 8 by decide)]
        rw [c_copiesInAll tokens hZ hN, bd_s]
      · rw [b4, bd_s, if_neg (show ¬ (1 : Int32) = 0 by decide), if_pos (show nI 8 = 8 by decide)]
        rw [m_copiesAll h, bd_s]
    · refine ⟨counts 0, ?_, ?_⟩
      · rw [if_neg (show ¬ nI 9 = 0 by decide), if_neg (show ¬ nI 9 = 1 by decide), if_neg (show ¬ nI 9 = 2 by decide), if_neg (show ¬ nI 9 = 3 by decide), if_neg (show ¬ nI 9 = 8 by decide), if_neg (show ¬ nI 9 = 17 by decide), if_neg (show ¬ nI 9 = 18 by decide), if_neg (show ¬ nI 9 < 4 by decide), if_pos (show 7 < nI 9 by decide)]
        simp only [lp]
        rw [if_neg (show ¬ nI 9 < 9 by decide), if_neg (show ¬ 16 < nI 9 by decide), show nI 9 - 9 = nI 0 by decide, gd_in (show 0 < 8 by omega) (by omega), nI_clamp (show 0 < 2 ^ 31 by omega)]
      · rw [b4, bd_s, if_neg (show ¬ (1 : Int32) = 0 by decide), if_neg (show ¬ nI 9 = 8 by decide), if_neg (show ¬ nI 9 = 17 by decide), if_neg (show ¬ nI 9 = 18 by decide), if_pos (show 8 ≤ nI 9 by decide), show nI 9 - 1 = nI 8 by decide, gd_in (show 8 < 831 by omega) (by omega), nI_clamp (show 8 < 2 ^ 31 by omega)]
        exact congrArg some (h.pc (i := 0) (by omega))
    · refine ⟨counts 1, ?_, ?_⟩
      · rw [if_neg (show ¬ nI 10 = 0 by decide), if_neg (show ¬ nI 10 = 1 by decide), if_neg (show ¬ nI 10 = 2 by decide), if_neg (show ¬ nI 10 = 3 by decide), if_neg (show ¬ nI 10 = 8 by decide), if_neg (show ¬ nI 10 = 17 by decide), if_neg (show ¬ nI 10 = 18 by decide), if_neg (show ¬ nI 10 < 4 by decide), if_pos (show 7 < nI 10 by decide)]
        simp only [lp]
        rw [if_neg (show ¬ nI 10 < 9 by decide), if_neg (show ¬ 16 < nI 10 by decide), show nI 10 - 9 = nI 1 by decide, gd_in (show 1 < 8 by omega) (by omega), nI_clamp (show 1 < 2 ^ 31 by omega)]
      · rw [b4, bd_s, if_neg (show ¬ (1 : Int32) = 0 by decide), if_neg (show ¬ nI 10 = 8 by decide), if_neg (show ¬ nI 10 = 17 by decide), if_neg (show ¬ nI 10 = 18 by decide), if_pos (show 8 ≤ nI 10 by decide), show nI 10 - 1 = nI 9 by decide, gd_in (show 9 < 831 by omega) (by omega), nI_clamp (show 9 < 2 ^ 31 by omega)]
        exact congrArg some (h.pc (i := 1) (by omega))
    · refine ⟨counts 2, ?_, ?_⟩
      · rw [if_neg (show ¬ nI 11 = 0 by decide), if_neg (show ¬ nI 11 = 1 by decide), if_neg (show ¬ nI 11 = 2 by decide), if_neg (show ¬ nI 11 = 3 by decide), if_neg (show ¬ nI 11 = 8 by decide), if_neg (show ¬ nI 11 = 17 by decide), if_neg (show ¬ nI 11 = 18 by decide), if_neg (show ¬ nI 11 < 4 by decide), if_pos (show 7 < nI 11 by decide)]
        simp only [lp]
        rw [if_neg (show ¬ nI 11 < 9 by decide), if_neg (show ¬ 16 < nI 11 by decide), show nI 11 - 9 = nI 2 by decide, gd_in (show 2 < 8 by omega) (by omega), nI_clamp (show 2 < 2 ^ 31 by omega)]
      · rw [b4, bd_s, if_neg (show ¬ (1 : Int32) = 0 by decide), if_neg (show ¬ nI 11 = 8 by decide), if_neg (show ¬ nI 11 = 17 by decide), if_neg (show ¬ nI 11 = 18 by decide), if_pos (show 8 ≤ nI 11 by decide), show nI 11 - 1 = nI 10 by decide, gd_in (show 10 < 831 by omega) (by omega), nI_clamp (show 10 < 2 ^ 31 by omega)]
        exact congrArg some (h.pc (i := 2) (by omega))
    · refine ⟨counts 3, ?_, ?_⟩
      · rw [if_neg (show ¬ nI 12 = 0 by decide), if_neg (show ¬ nI 12 = 1 by decide), if_neg (show ¬ nI 12 = 2 by decide), if_neg (show ¬ nI 12 = 3 by decide), if_neg (show ¬ nI 12 = 8 by decide), if_neg (show ¬ nI 12 = 17 by decide), if_neg (show ¬ nI 12 = 18 by decide), if_neg (show ¬ nI 12 < 4 by decide), if_pos (show 7 < nI 12 by decide)]
        simp only [lp]
        rw [if_neg (show ¬ nI 12 < 9 by decide), if_neg (show ¬ 16 < nI 12 by decide), show nI 12 - 9 = nI 3 by decide, gd_in (show 3 < 8 by omega) (by omega), nI_clamp (show 3 < 2 ^ 31 by omega)]
      · rw [b4, bd_s, if_neg (show ¬ (1 : Int32) = 0 by decide), if_neg (show ¬ nI 12 = 8 by decide), if_neg (show ¬ nI 12 = 17 by decide), if_neg (show ¬ nI 12 = 18 by decide), if_pos (show 8 ≤ nI 12 by decide), show nI 12 - 1 = nI 11 by decide, gd_in (show 11 < 831 by omega) (by omega), nI_clamp (show 11 < 2 ^ 31 by omega)]
        exact congrArg some (h.pc (i := 3) (by omega))
    · refine ⟨counts 4, ?_, ?_⟩
      · rw [if_neg (show ¬ nI 13 = 0 by decide), if_neg (show ¬ nI 13 = 1 by decide), if_neg (show ¬ nI 13 = 2 by decide), if_neg (show ¬ nI 13 = 3 by decide), if_neg (show ¬ nI 13 = 8 by decide), if_neg (show ¬ nI 13 = 17 by decide), if_neg (show ¬ nI 13 = 18 by decide), if_neg (show ¬ nI 13 < 4 by decide), if_pos (show 7 < nI 13 by decide)]
        simp only [lp]
        rw [if_neg (show ¬ nI 13 < 9 by decide), if_neg (show ¬ 16 < nI 13 by decide), show nI 13 - 9 = nI 4 by decide, gd_in (show 4 < 8 by omega) (by omega), nI_clamp (show 4 < 2 ^ 31 by omega)]
      · rw [b4, bd_s, if_neg (show ¬ (1 : Int32) = 0 by decide), if_neg (show ¬ nI 13 = 8 by decide), if_neg (show ¬ nI 13 = 17 by decide), if_neg (show ¬ nI 13 = 18 by decide), if_pos (show 8 ≤ nI 13 by decide), show nI 13 - 1 = nI 12 by decide, gd_in (show 12 < 831 by omega) (by omega), nI_clamp (show 12 < 2 ^ 31 by omega)]
        exact congrArg some (h.pc (i := 4) (by omega))
    · refine ⟨counts 5, ?_, ?_⟩
      · rw [if_neg (show ¬ nI 14 = 0 by decide), if_neg (show ¬ nI 14 = 1 by decide), if_neg (show ¬ nI 14 = 2 by decide), if_neg (show ¬ nI 14 = 3 by decide), if_neg (show ¬ nI 14 = 8 by decide), if_neg (show ¬ nI 14 = 17 by decide), if_neg (show ¬ nI 14 = 18 by decide), if_neg (show ¬ nI 14 < 4 by decide), if_pos (show 7 < nI 14 by decide)]
        simp only [lp]
        rw [if_neg (show ¬ nI 14 < 9 by decide), if_neg (show ¬ 16 < nI 14 by decide), show nI 14 - 9 = nI 5 by decide, gd_in (show 5 < 8 by omega) (by omega), nI_clamp (show 5 < 2 ^ 31 by omega)]
      · rw [b4, bd_s, if_neg (show ¬ (1 : Int32) = 0 by decide), if_neg (show ¬ nI 14 = 8 by decide), if_neg (show ¬ nI 14 = 17 by decide), if_neg (show ¬ nI 14 = 18 by decide), if_pos (show 8 ≤ nI 14 by decide), show nI 14 - 1 = nI 13 by decide, gd_in (show 13 < 831 by omega) (by omega), nI_clamp (show 13 < 2 ^ 31 by omega)]
        exact congrArg some (h.pc (i := 5) (by omega))
    · refine ⟨counts 6, ?_, ?_⟩
      · rw [if_neg (show ¬ nI 15 = 0 by decide), if_neg (show ¬ nI 15 = 1 by decide), if_neg (show ¬ nI 15 = 2 by decide), if_neg (show ¬ nI 15 = 3 by decide), if_neg (show ¬ nI 15 = 8 by decide), if_neg (show ¬ nI 15 = 17 by decide), if_neg (show ¬ nI 15 = 18 by decide), if_neg (show ¬ nI 15 < 4 by decide), if_pos (show 7 < nI 15 by decide)]
        simp only [lp]
        rw [if_neg (show ¬ nI 15 < 9 by decide), if_neg (show ¬ 16 < nI 15 by decide), show nI 15 - 9 = nI 6 by decide, gd_in (show 6 < 8 by omega) (by omega), nI_clamp (show 6 < 2 ^ 31 by omega)]
      · rw [b4, bd_s, if_neg (show ¬ (1 : Int32) = 0 by decide), if_neg (show ¬ nI 15 = 8 by decide), if_neg (show ¬ nI 15 = 17 by decide), if_neg (show ¬ nI 15 = 18 by decide), if_pos (show 8 ≤ nI 15 by decide), show nI 15 - 1 = nI 14 by decide, gd_in (show 14 < 831 by omega) (by omega), nI_clamp (show 14 < 2 ^ 31 by omega)]
        exact congrArg some (h.pc (i := 6) (by omega))
    · refine ⟨counts 7, ?_, ?_⟩
      · rw [if_neg (show ¬ nI 16 = 0 by decide), if_neg (show ¬ nI 16 = 1 by decide), if_neg (show ¬ nI 16 = 2 by decide), if_neg (show ¬ nI 16 = 3 by decide), if_neg (show ¬ nI 16 = 8 by decide), if_neg (show ¬ nI 16 = 17 by decide), if_neg (show ¬ nI 16 = 18 by decide), if_neg (show ¬ nI 16 < 4 by decide), if_pos (show 7 < nI 16 by decide)]
        simp only [lp]
        rw [if_neg (show ¬ nI 16 < 9 by decide), if_neg (show ¬ 16 < nI 16 by decide), show nI 16 - 9 = nI 7 by decide, gd_in (show 7 < 8 by omega) (by omega), nI_clamp (show 7 < 2 ^ 31 by omega)]
      · rw [b4, bd_s, if_neg (show ¬ (1 : Int32) = 0 by decide), if_neg (show ¬ nI 16 = 8 by decide), if_neg (show ¬ nI 16 = 17 by decide), if_neg (show ¬ nI 16 = 18 by decide), if_pos (show 8 ≤ nI 16 by decide), show nI 16 - 1 = nI 15 by decide, gd_in (show 15 < 831 by omega) (by omega), nI_clamp (show 15 < 2 ^ 31 by omega)]
        exact congrArg some (h.pc (i := 7) (by omega))
    · refine ⟨len, ?_, ?_⟩
      · rw [if_neg (show ¬ nI 17 = 0 by decide), if_neg (show ¬ nI 17 = 1 by decide), if_neg (show ¬ nI 17 = 2 by decide), if_neg (show ¬ nI 17 = 3 by decide), if_neg (show ¬ nI 17 = 8 by decide), if_pos (show nI 17 = 17 by decide)]
      · rw [b4, bd_s, if_neg (show ¬ (1 : Int32) = 0 by decide), if_neg (show ¬ nI 17 = 8 by decide), if_pos (show nI 17 = 17 by decide)]
    · refine ⟨kept 0 + kept 1, ?_, ?_⟩
      · rw [if_neg (show ¬ nI 18 = 0 by decide), if_neg (show ¬ nI 18 = 1 by decide), if_neg (show ¬ nI 18 = 2 by decide), if_neg (show ¬ nI 18 = 3 by decide), if_neg (show ¬ nI 18 = 8 by decide), if_neg (show ¬ nI 18 = 17 by decide), if_pos (show nI 18 = 18 by decide)]
        rw [c_imagesKept k0 k1, bd_s]
      · rw [b4, bd_s, if_neg (show ¬ (1 : Int32) = 0 by decide), if_neg (show ¬ nI 18 = 8 by decide), if_neg (show ¬ nI 18 = 17 by decide), if_pos (show nI 18 = 18 by decide)]
        exact m_kept2 k0 k1
  · refine ⟨-1, ?_, by rw [b4, bd_s, if_pos p00]⟩
    have ne : ∀ y : Int32, ¬ (y < nI 0 ∨ nI 18 < y) → ¬ x = y := fun y hy z => hy (z ▸ b)
    rw [if_neg (ne 0 (by decide)), if_neg (ne 1 (by decide)), if_neg (ne 2 (by decide)), if_neg (ne 3 (by decide)), if_neg (ne 8 (by decide)), if_neg (ne 17 (by decide)), if_neg (ne 18 (by decide))]
    rcases b with b | b
    · have e4 : x < 4 := Int32.lt_trans b (by decide)
      have e9 : x < 9 := Int32.lt_trans b (by decide)
      rw [if_pos e4]
      simp only [lp]
      rw [if_pos e9]
    · have e4 : ¬ x < 4 := Int32.not_lt.mpr (Int32.le_of_lt (Int32.lt_trans (show (4 : Int32) < nI 18 by decide) b))
      have e7 : 7 < x := Int32.lt_trans (show (7 : Int32) < nI 18 by decide) b
      have e9 : ¬ x < 9 := Int32.not_lt.mpr (Int32.le_of_lt (Int32.lt_trans (show (9 : Int32) < nI 18 by decide) b))
      have e16 : 16 < x := Int32.lt_trans (show (16 : Int32) < nI 18 by decide) b
      rw [if_neg e4, if_pos e7]
      simp only [lp]
      rw [if_neg e9, if_pos e16]
theorem ask_node (hC : C ≤ 30000) (h : IW N K Z C rooms mrows lrows rules counts refused tokens hops since notes lasts dAt dHops page) (hc : CI N K Z C rooms mrows lrows rules counts refused tokens hops since notes lasts dAt dHops) (x y : Int32) : ∃ v, fX5_node (nI N) (nI Z) rooms lrows tokens notes lasts x y = some v ∧ fX6_node page x y = some v := by
  have hN := h.hN
  have hZ := h.hZ
  unfold fX5_node fX6_node
  rcases node_sim hN h.p0 x with ⟨a, ha, rfl, a1, a2⟩ | ⟨a1, a2⟩
  · have e23 : (23 : Int32) + nI a = nI (23 + a) := nI_add 23 a
    rw [a1, bd_s, if_neg n10, a2, bd_s, if_neg n10]
    by_cases y0 : y = 0
    · rw [if_pos y0, if_pos y0, gd_in (by omega) (by omega), nI_clamp (by omega), gd_at e23 (by omega) (by omega), cl_at e23 (by omega), h.po ha]
      exact ⟨_, rfl, rfl⟩
    · rw [if_neg y0, if_neg y0]
      by_cases y1 : y = 1
      · rw [if_pos y1, if_pos y1, c_loadOf lrows tokens (by omega) hZ, bd_s, m_loadOf h (by omega), bd_s]
        exact ⟨_, rfl, rfl⟩
      · rw [if_neg y1, if_neg y1]
        by_cases y2 : y = 2
        · rw [if_pos y2, if_pos y2, c_copiesIn tokens (by omega) hZ, bd_s, m_copiesIn h ha, bd_s]
          exact ⟨_, rfl, rfl⟩
        · rw [if_neg y2, if_neg y2]
          by_cases y3 : y = 3
          · obtain ⟨v, hv, ev⟩ := hc.nt (n := a) (by omega)
            have hv16 : v < 65536 := Nat.lt_of_lt_of_le hv (Nat.pow_le_pow_right (n := 2) (by omega) hZ)
            rw [if_pos y3, if_pos y3, gd_in (by omega) (by omega), nI_clamp (by omega), ev, c_bitCount hv16, bd_s, m_noteCount h (by omega), bd_s, ev, bits_sum hv16]
            exact ⟨_, rfl, rfl⟩
          · rw [if_neg y3, if_neg y3]
            by_cases y4 : y = 4
            · rw [if_pos y4, if_pos y4, c_othersMet lasts (by omega) hN, bd_s, m_metCount hC h hc (by omega), bd_s]
              exact ⟨_, rfl, rfl⟩
            · rw [if_neg y4, if_neg y4]
              exact ⟨_, rfl, rfl⟩
  · rw [a1, bd_s, if_pos p00, a2, bd_s, if_pos p00]
    exact ⟨_, rfl, rfl⟩
theorem next_sim (h : IW N K Z C rooms mrows lrows rules counts refused tokens hops since notes lasts dAt dHops page) (hc : CI N K Z C rooms mrows lrows rules counts refused tokens hops since notes lasts dAt dHops) {m : Nat} (hm : m < K) : ∃ v, fX0_nextTime mrows (nI m) (nI C) (rules 0) = some v ∧ fX6_nextTime page (nI m) = some v := by
  have hK := h.hK
  unfold fX0_nextTime fX6_nextTime
  rw [c_ofMeeting_0 mrows (by omega), bd_s, m_ofMeeting'_0 h hm, bd_s, h.p3, show page 4 = rules 0 from h.pr (i := 0) (by omega)]
  obtain ⟨⟨r, hr, er⟩, -⟩ := hc.rl
  by_cases h1 : mrows (m * 4 + 0) ≤ nI C
  · rw [if_pos h1, if_pos h1]
    by_cases h2 : r = 0
    · subst h2
      rw [er, if_neg (show ¬ (0 : Int32) < nI 0 by decide), if_pos (show nI 0 = 0 from rfl)]
      exact ⟨_, rfl, rfl⟩
    · have e1 : 0 < nI r := nI_lt (a := 0) (by omega) (by omega)
      have e2 : ¬ nI r = 0 := nI_ne0 (by omega) (by omega)
      rw [er, if_pos e1, if_neg e2]
      unfold dv
      rw [if_neg e2]
      exact ⟨_, rfl, rfl⟩
  · rw [if_neg h1, if_neg h1]
    exact ⟨_, rfl, rfl⟩
theorem ask_meeting (h : IW N K Z C rooms mrows lrows rules counts refused tokens hops since notes lasts dAt dHops page) (hc : CI N K Z C rooms mrows lrows rules counts refused tokens hops since notes lasts dAt dHops) (x y : Int32) : ∃ v, fX5_meeting (nI C) (nI K) mrows rules x y = some v ∧ fX6_meeting page x y = some v := by
  have hK := h.hK
  unfold fX5_meeting fX6_meeting
  rw [h.p1]
  rcases below_sim (n := K) (by omega) x with ⟨m, hm, rfl, a3, a4, a5⟩ | ⟨a1, a2⟩
  · rw [if_neg a3, if_neg a4, a5, bd_s, if_neg n10]
    rcases in_sim y 0 4 (A := 0) (B := 4) (by decide) (by decide) (by omega) (by omega) with ⟨t, -, b2, rfl, b4⟩ | ⟨b, b4⟩
    · rw [b4, bd_s, if_neg n10, if_neg (nI_pos (by omega)), if_pos (show nI t ≤ 4 from nI_le (b := 4) b2 (by omega))]
      by_cases t4 : t = 4
      · subst t4
        obtain ⟨v, v1, v2⟩ := next_sim h hc hm
        rw [if_pos (show nI 4 = 4 from rfl), v1, bd_s, if_pos (show (4 : Int32) ≤ nI 4 by decide), v2, bd_s]
        exact ⟨_, rfl, rfl⟩
      · rw [if_neg (show ¬ nI t = 4 from fun z => t4 (nI_inj (b := 4) (by omega) (by omega) z)), c_ofMeeting mrows (by omega) (by omega), bd_s, if_neg (show ¬ (4 : Int32) ≤ nI t from nI_ge (a := t) (b := 4) (by omega) (by omega)), m_ofMeeting' h hm (by omega), bd_s]
        exact ⟨_, rfl, rfl⟩
    · refine ⟨-1, ?_, by rw [b4, bd_s, if_pos p00]⟩
      rcases b with b | b
      · rw [if_pos (show y < 0 from b)]
      · rw [if_neg (show ¬ y ≤ 4 from Int32.not_le.mpr b), ite_self]
  · refine ⟨-1, ?_, by rw [a2, bd_s, if_pos p00]⟩
    rcases a1 with a | a
    · rw [if_pos a]
    · rw [if_pos a, ite_self]
theorem state_sim (h : IW N K Z C rooms mrows lrows rules counts refused tokens hops since notes lasts dAt dHops page) {l : Nat} (hl : l < Z) : ∃ v, fX4_stateOf (nI C) (nI N) lrows tokens dAt (nI l) = some v ∧ fX6_isWhat page (nI l) = some v := by
  have hN := h.hN
  have hZ := h.hZ
  unfold fX4_stateOf fX6_isWhat
  rw [c_ofLetter_0 lrows (by omega), bd_s, m_ofLetter'_0 h hl, bd_s, h.p3, gd_in (by omega) (by omega), nI_clamp (by omega), m_ofLetter_6 page (by omega), bd_s, (h.pd hl).1, c_copiesOf tokens (by omega) hN, bd_s, m_copiesAt h hl, bd_s]
  split
  · split
    · split
      · exact ⟨_, rfl, rfl⟩
      · exact ⟨_, rfl, rfl⟩
    · exact ⟨_, rfl, rfl⟩
  · exact ⟨_, rfl, rfl⟩
theorem ask_letter (h : IW N K Z C rooms mrows lrows rules counts refused tokens hops since notes lasts dAt dHops page) (x y : Int32) : ∃ v, fX5_letter (nI C) (nI N) (nI Z) lrows tokens dAt dHops x y = some v ∧ fX6_letter page x y = some v := by
  have hN := h.hN
  have hZ := h.hZ
  unfold fX5_letter fX6_letter
  rcases letter_sim hZ h.p2 x with ⟨l, hl, rfl, a1, a2⟩ | ⟨a1, a2⟩
  · rw [a1, bd_s, if_neg n10, a2, bd_s, if_neg n10]
    rcases in_sim y 0 10 (A := 0) (B := 10) (by decide) (by decide) (by omega) (by omega) with ⟨t, -, b2, rfl, b4⟩ | ⟨b, b4⟩
    · rw [b4, bd_s, if_neg n10, if_neg (nI_pos (by omega)), if_pos (show nI t ≤ 10 from nI_le (b := 10) b2 (by omega))]
      have ne : ∀ k, k < 1000 → ¬ t = k → ¬ nI t = nI k := fun k hk hne z => hne (nI_inj (by omega) hk z)
      by_cases t6 : t = 6
      · subst t6
        obtain ⟨v, v1, v2⟩ := state_sim h hl
        rw [if_pos (show nI 6 = 6 from rfl), if_pos (show nI 6 = 6 from rfl), v1, bd_s, v2, bd_s]
        exact ⟨_, rfl, rfl⟩
      · rw [if_neg (show ¬ nI t = 6 from ne 6 (by omega) t6), if_neg (show ¬ nI t = 6 from ne 6 (by omega) t6)]
        by_cases t7 : t = 7
        · subst t7
          rw [if_pos (show nI 7 = 7 from rfl), if_pos (show nI 7 = 7 from rfl), gd_in (by omega) (by omega), nI_clamp (by omega), show nI 7 - 1 = (6 : Int32) by decide, m_ofLetter_6 page (by omega), bd_s, (h.pd hl).1]
          exact ⟨_, rfl, rfl⟩
        · rw [if_neg (show ¬ nI t = 7 from ne 7 (by omega) t7), if_neg (show ¬ nI t = 7 from ne 7 (by omega) t7)]
          by_cases t8 : t = 8
          · subst t8
            rw [if_pos (show nI 8 = 8 from rfl), if_pos (show nI 8 = 8 from rfl), gd_in (by omega) (by omega), nI_clamp (by omega), show nI 8 - 1 = (7 : Int32) by decide, m_ofLetter_7 page (by omega), bd_s, (h.pd hl).2]
            exact ⟨_, rfl, rfl⟩
          · rw [if_neg (show ¬ nI t = 8 from ne 8 (by omega) t8), if_neg (show ¬ nI t = 8 from ne 8 (by omega) t8)]
            by_cases t9 : t = 9
            · subst t9
              rw [if_pos (show nI 9 = 9 from rfl), if_pos (show nI 9 = 9 from rfl), c_copiesOf tokens (by omega) hN, bd_s, m_copiesAt h hl, bd_s]
              exact ⟨_, rfl, rfl⟩
            · rw [if_neg (show ¬ nI t = 9 from ne 9 (by omega) t9), if_neg (show ¬ nI t = 9 from ne 9 (by omega) t9)]
              by_cases t10 : t = 10
              · subst t10
                rw [if_pos (show nI 10 = 10 from rfl), if_pos (show nI 10 = 10 from rfl), c_tokensOf tokens (by omega) hN, bd_s, m_tokensOfAll h (by omega), bd_s]
                exact ⟨_, rfl, rfl⟩
              · rw [if_neg (show ¬ nI t = 10 from ne 10 (by omega) t10), if_neg (show ¬ nI t = 10 from ne 10 (by omega) t10), c_ofLetter lrows (by omega) (by omega), bd_s, m_ofLetter' h hl (by omega), bd_s]
                exact ⟨_, rfl, rfl⟩
    · refine ⟨-1, ?_, by rw [b4, bd_s, if_pos p00]⟩
      rcases b with b | b
      · rw [if_pos (show y < 0 from b)]
      · rw [if_neg (show ¬ y ≤ 10 from Int32.not_le.mpr b), ite_self]
  · rw [a1, bd_s, if_pos p00, a2, bd_s, if_pos p00]
    exact ⟨_, rfl, rfl⟩
theorem ask_note (h : IW N K Z C rooms mrows lrows rules counts refused tokens hops since notes lasts dAt dHops page) (x y : Int32) : ∃ v, fX5_note (nI N) (nI Z) notes x y = some v ∧ fX6_note page x y = some v := by
  have hN := h.hN
  have hZ := h.hZ
  unfold fX5_note fX6_note
  rcases node_sim hN h.p0 x with ⟨a, ha, rfl, a1, a2⟩ | ⟨a1, a2⟩
  · rcases letter_sim hZ h.p2 y with ⟨l, hl, rfl, b1, b2⟩ | ⟨b1, b2⟩
    · have e : ((639 : Int32) + (16 : Int32) * nI a) + nI l = nI (639 + 16 * a + l) := ix4 639 16 a l
      rw [a1, bd_s, if_neg n10, a2, bd_s, if_neg n10, b1, bd_s, if_neg n10, b2, bd_s, if_neg n10, gd_in (by omega) (by omega), nI_clamp (by omega), gd_at e (by omega) (by omega), cl_at e (by omega), h.pn (by omega) (by omega)]
      exact ⟨_, rfl, rfl⟩
    · rw [a1, bd_s, if_neg n10, a2, bd_s, if_neg n10, b1, bd_s, if_pos p00, b2, bd_s, if_pos p00]
      exact ⟨_, rfl, rfl⟩
  · rw [a1, bd_s, if_pos p00, a2, bd_s, if_pos p00]
    exact ⟨_, rfl, rfl⟩
theorem ask_last (hC : C ≤ 30000) (h : IW N K Z C rooms mrows lrows rules counts refused tokens hops since notes lasts dAt dHops page) (hc : CI N K Z C rooms mrows lrows rules counts refused tokens hops since notes lasts dAt dHops) (x y : Int32) : ∃ v, fX5_last (nI N) lasts x y = some v ∧ fX6_last page x y = some v := by
  have hN := h.hN
  unfold fX5_last fX6_last
  rcases pair_sim hN h.p0 x y with ⟨a, b, ha, hb, hab, rfl, rfl, p1, p2, p3, p4⟩ | ⟨p1, p2⟩
  · have back : ∀ x : Int32, x + 1 - 1 = x := fun x => by grind
    rw [p1, bd_s, if_neg n10, p2, bd_s, if_neg n10, p3, bd_s, if_neg n10, if_neg p4, c_lastOf lasts (by omega) (by omega), bd_s, m_lastOf page (by omega) (by omega), bd_s, h.ps (by omega) (by omega), back]
    rcases (hc.la (a := a) (b := b) (by omega) (by omega)).1 with q | ⟨t, ht, q⟩
    · rw [q, if_pos (show (-1 : Int32) = -1 from rfl), if_neg (show ¬ (0 : Int32) ≤ -1 by decide)]
      exact ⟨_, rfl, rfl⟩
    · rw [q, if_neg (nI_nm1 (n := t) (by omega)), if_pos (show 0 ≤ nI t from nI_le (a := 0) (by omega) (by omega)), bd_s]
      exact ⟨_, rfl, rfl⟩
  · rw [p1, bd_s, if_pos p00, p2]
    exact ⟨_, rfl, rfl⟩
theorem ask_why (hC : C ≤ 30000) (h : IW N K Z C rooms mrows lrows rules counts refused tokens hops since notes lasts dAt dHops page) (hc : CI N K Z C rooms mrows lrows rules counts refused tokens hops since notes lasts dAt dHops) (x y z w : Int32) : ∃ v, fX5_why (nI N) (nI Z) rooms lrows rules tokens lasts x y z w = some v ∧ fX6_why page x y z w = some v := by
  have hN := h.hN
  have hZ := h.hZ
  unfold fX5_why fX6_why
  rcases pair_sim hN h.p0 x y with ⟨a, b, ha, hb, hab, rfl, rfl, p1, p2, p3, p4⟩ | ⟨p1, p2⟩
  · rw [p1, bd_s, if_neg n10, p2, bd_s, if_neg n10, p3, bd_s, if_neg n10, if_neg p4]
    rcases letter_sim hZ h.p2 z with ⟨l, hl, rfl, b1, b2⟩ | ⟨b1, b2⟩
    · rw [b1, bd_s, if_neg n10, b2, bd_s, if_neg n10, c_hasCopy tokens (by omega) (by omega), bd_s, m_hasCopy' h (by omega) (by omega), bd_s]
      rcases in_sim w 0 99 (A := 0) (B := 99) (by decide) (by decide) (by omega) (by omega) with ⟨t, -, c2, rfl, c4⟩ | ⟨c, c4⟩
      · rw [if_neg (nI_pos (by omega)), if_pos (show nI t ≤ 99 from nI_le (b := 99) c2 (by omega)), c4]
        by_cases ht : tokens (a * 16 + l) ≤ 0
        · rw [if_pos ht, if_pos p00, if_pos p00]
          exact ⟨_, rfl, rfl⟩
        · obtain ⟨u, r, hu, hr, -, -, er⟩ := hc.pair hl
          rw [if_neg ht, if_neg n10, if_neg n10, bd_s, if_neg n10, c_reason (N := N) hZ (by omega) (by omega) (by omega) (by omega) er, bd_s, m_reason h hc hC ha hb hl hr er, bd_s, m_ofLetter'_3 h hl, bd_s, m_lack h hb, bd_s]
          rcases gR_cases (N := N) (Z := Z) (rooms := rooms) (lrows := lrows) (rules := rules) (tokens := tokens) (lasts := lasts) (g := a) (h := b) (l := l) (t := r) (left := nI t) with q | q | ⟨q0, q⟩
          · rw [q]; exact ⟨_, rfl, rfl⟩
          · rcases q with q | q | q <;> rw [q] <;> exact ⟨_, rfl, rfl⟩
          · rw [← q0]
            refine ⟨_, rfl, ?_⟩
            rcases q with q | q | q <;> rw [q] <;> rfl
      · rw [c4]
        refine ⟨-1, ?_, by rw [bd_s, if_pos p00, ite_self]⟩
        rcases c with c | c
        · rw [if_pos (show w < 0 from c)]
        · rw [if_neg (show ¬ w ≤ 99 from Int32.not_le.mpr c), ite_self]
    · rw [b1, bd_s, if_pos p00, b2, bd_s, if_pos p00]
      exact ⟨_, rfl, rfl⟩
  · rw [p1, bd_s, if_pos p00, p2]
    exact ⟨_, rfl, rfl⟩
theorem ask_refusal (h : IW N K Z C rooms mrows lrows rules counts refused tokens hops since notes lasts dAt dHops page) (x : Int32) : ∃ v, fX5_refusal refused x = some v ∧ fX6_refusal page x = some v := by
  unfold fX5_refusal fX6_refusal
  rcases in_sim x 0 5 (A := 0) (B := 5) (by decide) (by decide) (by omega) (by omega) with ⟨t, -, b2, rfl, b4⟩ | ⟨b, b4⟩
  · have e : (16 : Int32) + nI t = nI (16 + t) := nI_add 16 t
    rw [b4, bd_s, if_neg n10, if_neg (nI_pos (by omega)), if_pos (show nI t < 6 from nI_lt (b := 6) (by omega) (by omega)), gd_in (by omega) (by omega), nI_clamp (by omega), gd_at e (by omega) (by omega), cl_at e (by omega)]
    rcases h.pf with ⟨q1, q2⟩ | ⟨q1, q2, q3⟩
    · rw [if_pos q1, q2, if_neg n01]
      exact ⟨_, rfl, rfl⟩
    · rw [if_neg q1, q2, if_pos p11, q3 t (by omega)]
      exact ⟨_, rfl, rfl⟩
  · refine ⟨-1, ?_, by rw [b4, bd_s, if_pos p00]⟩
    rcases b with b | b
    · rw [if_pos (show x < 0 from b)]
    · have : ¬ x < 6 := Int32.not_lt.mpr (by
        rw [Int32.le_iff_toInt_le]
        rw [Int32.lt_iff_toInt_lt, show (nI 5).toInt = 5 from rfl] at b
        rw [show (6 : Int32).toInt = 6 from rfl]
        omega)
      rw [if_neg this, ite_self]
end PU
