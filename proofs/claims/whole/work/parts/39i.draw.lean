theorem b_32767 (i : Nat) : bt 32767 i = decide (i < 15) := by
  rcases Nat.lt_or_ge i 32 with h | h
  · exact (by decide +kernel : ∀ i, i < 32 → bt 32767 i = decide (i < 15)) i h
  · rw [b_big h, decide_eq_false (by omega)]
theorem got_same (s : Int32) : ((s.toUInt32 >>> ((16 : Int32).toUInt32 &&& Int32.toUInt32 31)).toInt32) &&& 32767 = (s >>> ((16 : Int32) &&& 31)) &&& 32767 := by
  apply b_ext
  intro i hi
  rw [b_and, b_and, b_32767]
  by_cases h : i < 15
  · rw [show bt ((s.toUInt32 >>> ((16 : Int32).toUInt32 &&& Int32.toUInt32 31)).toInt32) i = bt s (16 + i) from b_ushr 16 (by omega) s i, show bt (s >>> ((16 : Int32) &&& 31)) i = _ from b_sshr 16 (by omega) s hi, if_pos (by omega)]
  · rw [decide_eq_false h, Bool.and_false, Bool.and_false]
theorem got_n (s : Int32) : ∃ u, u < 32768 ∧ (s >>> ((16 : Int32) &&& 31)) &&& 32767 = nI u := pk_andE _ 15 (by decide)
theorem other_n {a d n : Nat} (ha : a < n) (hd : d < n - 1) : (a + 1 + d) % n ≠ a ∧ (a + 1 + d) % n < n := by
  refine ⟨?_, Nat.mod_lt _ (by omega)⟩
  by_cases h : a + 1 + d < n
  · rw [Nat.mod_eq_of_lt h]; omega
  · rw [Nat.mod_eq_sub_mod (by omega), Nat.mod_eq_of_lt (by omega)]; omega
section PY
variable {N K Z C : Nat} {rooms mrows lrows rules counts refused tokens hops since notes lasts dAt dHops : Nat → Int32} {page : Nat → Int32}
theorem draw_loop {T : Nat} (hT : T ≤ 20) (hN2 : 2 ≤ N) (y y3 : Int32) : ∀ (d j C fc fm : Nat) (left ref left2 ref2 seed : Int32) (counts refused tokens hops since notes lasts dAt dHops order page isLeft : Nat → Int32), j + d = T → d < fc → d < fm → C + d ≤ 29990 → IW N K Z C rooms mrows lrows rules counts refused tokens hops since notes lasts dAt dHops page → CI N K Z C rooms mrows lrows rules counts refused tokens hops since notes lasts dAt dHops →
    ∃ q q', fX5_draw_49 (nI N) (nI K) (nI Z) rooms mrows lrows rules (nI T) (nI N) y fc (nI C) counts refused tokens hops since notes lasts dAt dHops left ref order seed (nI j) = some q ∧ fX6_draw_43 (nI T) y3 fm left2 ref2 seed page isLeft (nI j) = some q' ∧ q.1 = nI (C + d) ∧
      IW N K Z (C + d) rooms mrows lrows rules q.2.1 q.2.2.1 q.2.2.2.1 q.2.2.2.2.1 q.2.2.2.2.2.1 q.2.2.2.2.2.2.1 q.2.2.2.2.2.2.2.1 q.2.2.2.2.2.2.2.2.1 q.2.2.2.2.2.2.2.2.2.1 q'.2.2.2.1 ∧ CI N K Z (C + d) rooms mrows lrows rules q.2.1 q.2.2.1 q.2.2.2.1 q.2.2.2.2.1 q.2.2.2.2.2.1 q.2.2.2.2.2.2.1 q.2.2.2.2.2.2.2.1 q.2.2.2.2.2.2.2.2.1 q.2.2.2.2.2.2.2.2.2.1 := by
  intro d
  induction d with
  | zero =>
    intro j C fc fm left ref left2 ref2 seed counts refused tokens hops since notes lasts dAt dHops order page isLeft hd h1 h2 hC h hc
    obtain ⟨fc, rfl⟩ : ∃ z, fc = z + 1 := ⟨fc - 1, by omega⟩
    obtain ⟨fm, rfl⟩ : ∃ z, fm = z + 1 := ⟨fm - 1, by omega⟩
    rw [fX5_draw_49, fX6_draw_43, if_pos (nI_le (show T ≤ j by omega) (by omega)), if_pos (nI_le (show T ≤ j by omega) (by omega))]
    exact ⟨_, _, rfl, rfl, rfl, h, hc⟩
  | succ d ih =>
    intro j C fc fm left ref left2 ref2 seed counts refused tokens hops since notes lasts dAt dHops order page isLeft hd h1 h2 hC h hc
    have hN := h.hN
    obtain ⟨fc, rfl⟩ : ∃ z, fc = z + 1 := ⟨fc - 1, by omega⟩
    obtain ⟨fm, rfl⟩ : ∃ z, fm = z + 1 := ⟨fm - 1, by omega⟩
    obtain ⟨q, q', a1, a2, a3, a4, a5⟩ := minute_sim (by omega) h hc left ref left2 ref2 order isLeft
    rw [fX5_draw_49, fX6_draw_43, if_neg (nI_ge (show j < T by omega) (by omega)), if_neg (nI_ge (show j < T by omega) (by omega)), a1, bd_s, a2, bd_s, nI_1, a3]
    simp only [fX5_nextSeed, fX5_bitsGot, fX6_got, bd_s, got_same, a4.p0]
    generalize seed * 1103515245 + 12345 = s1
    generalize s1 * 1103515245 + 12345 = s2
    generalize s2 * 1103515245 + 12345 = s3
    obtain ⟨u1, hu1, e1⟩ := got_n s1
    obtain ⟨u2, hu2, e2⟩ := got_n s2
    obtain ⟨u3, hu3, e3⟩ := got_n s3
    simp only [e1, e2, e3]
    have r1 : nI u1 - nI u1 / nI N * nI N = nI (u1 % N) := pk_rem (by omega) (by omega) (by omega)
    have n1 : nI N - 1 = nI (N - 1) := pk_sub (a := N) (b := 1) (by omega)
    have r2 : nI u2 - nI u2 / nI (N - 1) * nI (N - 1) = nI (u2 % (N - 1)) := pk_rem (by omega) (by omega) (by omega)
    have m1 : u1 % N < N := Nat.mod_lt _ (by omega)
    have m2 : u2 % (N - 1) < N - 1 := Nat.mod_lt _ (by omega)
    have r3 : nI (u1 % N + 1 + u2 % (N - 1)) - nI (u1 % N + 1 + u2 % (N - 1)) / nI N * nI N = nI ((u1 % N + 1 + u2 % (N - 1)) % N) := pk_rem (by omega) (by omega) (by omega)
    obtain ⟨o1, o2⟩ := other_n m1 m2
    have d1 : ¬ nI N = 0 := nI_ne0 (by omega) (by omega)
    have d2 : ¬ nI (N - 1) = 0 := nI_ne0 (by omega) (by omega)
    simp only [dv, n1, if_neg d1, if_neg d2, r1, r2, nI_1, nI_add, r3]
    obtain ⟨w, w', b1, b2, b3, b4⟩ := meet_sim (by omega) a4 a5 m1 o2 (Ne.symm o1) (nI u3 - nI u3 / 100 * 100) q.1 q.2.1 q'.1 q'.2.1 q.2.2.2.2.2.2.2.2.2.2.2.2 q'.2.2.2
    rw [b1, bd_s, b2, bd_s]
    obtain ⟨r, r', c1, c2, c3, c4, c5⟩ := ih (j + 1) (C + 1) fc fm w.1 w.2.1 w'.1 w'.2.1 s3 _ _ _ _ _ _ _ _ _ w.2.2.2.2.2.2.2.2.2.2.2 _ w'.2.2.2 (by omega) (by omega) (by omega) (by omega) b3 b4
    rw [show C + 1 + d = C + (d + 1) by omega] at c3 c4 c5
    exact ⟨r, r', c1, c2, c3, c4, c5⟩
theorem do_draw (hC : C ≤ 29000) (h : IW N K Z C rooms mrows lrows rules counts refused tokens hops since notes lasts dAt dHops page) (hc : CI N K Z C rooms mrows lrows rules counts refused tokens hops since notes lasts dAt dHops) (x y left ref left2 ref2 drawn : Int32) (order isLeft : Nat → Int32) : ∃ q q' C', fX5_draw (nI C) (nI N) (nI K) (nI Z) rooms mrows lrows rules counts refused tokens hops since notes lasts dAt dHops left ref order x y = some q ∧ fX6_draw left2 ref2 drawn page isLeft x y = some q' ∧ q.1 = q'.1 ∧ C' ≤ C + 50 ∧ q.2.1 = nI C' ∧
    IW N K Z C' rooms mrows lrows rules q.2.2.1 q.2.2.2.1 q.2.2.2.2.1 q.2.2.2.2.2.1 q.2.2.2.2.2.2.1 q.2.2.2.2.2.2.2.1 q.2.2.2.2.2.2.2.2.1 q.2.2.2.2.2.2.2.2.2.1 q.2.2.2.2.2.2.2.2.2.2.1 q'.2.2.2.2.1 ∧ CI N K Z C' rooms mrows lrows rules q.2.2.1 q.2.2.2.1 q.2.2.2.2.1 q.2.2.2.2.2.1 q.2.2.2.2.2.2.1 q.2.2.2.2.2.2.2.1 q.2.2.2.2.2.2.2.2.1 q.2.2.2.2.2.2.2.2.2.1 q.2.2.2.2.2.2.2.2.2.2.1 := by
  have hN := h.hN
  unfold fX5_draw fX6_draw
  rcases in_sim y 1 20 (A := 1) (B := 20) (by decide) (by decide) (by omega) (by omega) with ⟨t, l, u, rfl, g⟩ | ⟨g0, g⟩
  · rw [g, bd_s, if_neg n10, if_neg (show ¬ nI t < 1 from nI_nlt (b := 1) l (by omega)), if_pos (show nI t ≤ 20 from nI_le (b := 20) u (by omega)), h.p0]
    by_cases h2 : 2 ≤ N
    · obtain ⟨q, q', a1, a2, a3, a4, a5⟩ := draw_loop (T := t) (by omega) h2 (counts 0) (page 8) t 0 C FU FU left ref left2 ref2 x counts refused tokens hops since notes lasts dAt dHops order page isLeft (by omega) (by unfold FU; omega) (by unfold FU; omega) (by omega) h hc
      rw [show nI 0 = (0 : Int32) from rfl] at a1 a2
      have i2 : (2 : Int32) ≤ nI N := nI_le (a := 2) h2 (by omega)
      rw [if_pos i2, if_pos i2, a1, bd_s, a2, bd_s, show page 8 = counts 0 from h.pc (i := 0) (by omega), show q'.2.2.2.1 8 = q.2.1 0 from a4.pc (i := 0) (by omega)]
      exact ⟨_, _, C + t, rfl, rfl, rfl, by omega, a3, a4, a5⟩
    · have i2 : ¬ (2 : Int32) ≤ nI N := nI_ge (b := 2) (by omega) (by omega)
      rw [if_neg i2, if_neg i2]
      exact ⟨_, _, C, rfl, rfl, rfl, by omega, rfl, h, hc⟩
  · refine ⟨(-1, nI C, counts, refused, tokens, hops, since, notes, lasts, dAt, dHops, left, ref, order), (-1, left2, ref2, drawn, page, isLeft), C, ?_, by rw [g, bd_s, if_pos p00], rfl, by omega, rfl, h, hc⟩
    rcases g0 with g0 | g0
    · rw [if_pos (show y < 1 from g0)]
    · rw [if_neg (show ¬ y ≤ 20 from Int32.not_le.mpr g0), ite_self]
end PY
