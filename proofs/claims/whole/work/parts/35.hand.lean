theorem nI_nm1 {n : Nat} (h : n < 2 ^ 31) : ¬ nI n = -1 := fun q => by
  have := nI_pos' h
  rw [q] at this
  exact absurd this (by decide)
theorem nI_nm4 {n : Nat} (h : n < 2 ^ 31) : ¬ nI n = -4 := fun q => by
  have := nI_pos' h
  rw [q] at this
  exact absurd this (by decide)
theorem sub_toInt {a b : Int32} (h1 : -(2 : Int) ^ 31 ≤ a.toInt - b.toInt) (h2 : a.toInt - b.toInt < 2 ^ 31) : (a - b).toInt = a.toInt - b.toInt := by
  rw [Int32.toInt_sub]
  apply Int.bmod_eq_of_le <;> omega
theorem add_toInt {a b : Int32} (h1 : -(2 : Int) ^ 31 ≤ a.toInt + b.toInt) (h2 : a.toInt + b.toInt < 2 ^ 31) : (a + b).toInt = a.toInt + b.toInt := by
  rw [Int32.toInt_add]
  apply Int.bmod_eq_of_le <;> omega
theorem marg {x : Int32} {t r : Nat} (hx1 : -1 ≤ x.toInt) (hx2 : x.toInt ≤ 30000) (ht : t ≤ 30000) (hr : r ≤ 9) : (nI t - x ≤ nI r) ↔ ¬ (x + nI r < nI t) := by
  have e1 : (nI t).toInt = t := nI_toInt (by omega)
  have e2 : (nI r).toInt = r := nI_toInt (by omega)
  rw [Int32.le_iff_toInt_le, Int32.lt_iff_toInt_lt, sub_toInt (by omega) (by omega), add_toInt (by omega) (by omega), e1, e2]
  omega
theorem gLack_le (N Z : Nat) (rooms lrows rules tokens : Nat → Int32) (n : Nat) (sz : Int32) : (gLack N Z rooms lrows rules tokens n sz ≤ 0) ↔ gLack N Z rooms lrows rules tokens n sz = 0 := by
  unfold gLack
  split
  · split
    · split
      · decide
      · split <;> decide
    · decide
  · decide
theorem gLack_cases (N Z : Nat) (rooms lrows rules tokens : Nat → Int32) (n : Nat) (sz : Int32) : gLack N Z rooms lrows rules tokens n sz = 0 ∨ gLack N Z rooms lrows rules tokens n sz = 5 ∨ gLack N Z rooms lrows rules tokens n sz = 6 ∨ gLack N Z rooms lrows rules tokens n sz = 7 := by
  unfold gLack
  split
  · split
    · split
      · simp
      · split <;> simp
    · simp
  · simp
theorem nI_inj {a b : Nat} (ha : a < 1000) (hb : b < 1000) (h : nI a = nI b) : a = b := (nI_eq (by omega) (by omega)).mp h
section PH
variable {N K Z C : Nat} {rooms mrows lrows rules counts refused tokens hops since notes lasts dAt dHops : Nat → Int32} {page : Nat → Int32}
theorem born_sim (h : IW N K Z C rooms mrows lrows rules counts refused tokens hops since notes lasts dAt dHops page) (hc : CI N K Z C rooms mrows lrows rules counts refused tokens hops since notes lasts dAt dHops) {l : Nat} (hl : l < Z) :
    ∃ q p', fX1_bear (nI C) (nI Z) rooms lrows rules counts tokens hops since (nI l) = some q ∧ fX6_isBorn page (nI l) = some p' ∧ IW N K Z C rooms mrows lrows rules q.1 refused q.2.1 q.2.2.1 q.2.2.2 notes lasts dAt dHops p' ∧ CI N K Z C rooms mrows lrows rules q.1 refused q.2.1 q.2.2.1 q.2.2.2 notes lasts dAt dHops := by
  have hN := h.hN
  have hZ := h.hZ
  obtain ⟨a, b, ha, -, -, ea, -⟩ := hc.pair hl
  unfold fX1_bear fX6_isBorn
  rw [c_ofLetter_1 lrows (by omega), bd_s, m_ofLetter'_1 h hl, bd_s, ea, c_lack (N := N) (by omega) (by omega) hZ, bd_s, m_ofLetter'_3 h hl, bd_s, m_lack h ha, bd_s]
  by_cases hk : gLack N Z rooms lrows rules tokens a (lrows (l * 6 + 3)) = 0
  · rw [if_pos hk, if_pos ((gLack_le _ _ _ _ _ _ _ _).mpr hk), bd_s]
    obtain ⟨c', t', p', g1, g2, g3, g4, g5, g6⟩ := room_sim h hc ha hl hk
    obtain ⟨z, -, hz, ez⟩ := hc.toks hl
    rw [g1, bd_s, c_ofLetter_4 lrows (by omega), bd_s, c_putCopy _ _ _ _ (by omega) (by omega), bd_s, g2, bd_s, m_ofLetter'_4 g3 hl, bd_s, m_comes p' (by omega) (by omega), bd_s, g3.p3]
    refine ⟨_, _, rfl, rfl, IW_comes (by omega) (by omega) _ _ g3, CI_tok g4 (fun m w hm hw => ?_) _ _ _ _⟩
    show ∃ v, v ≤ 64 ∧ upd t' (a * 16 + l) (lrows (l * 6 + 4)) (m * 16 + w) = nI v
    by_cases q : m * 16 + w = a * 16 + l
    · exact ⟨z, hz, by rw [q, upd_eq]; exact ez⟩
    · rw [upd_ne _ _ q]; exact g4.tk hm hw
  · rw [if_neg hk, if_neg (fun q => hk ((gLack_le _ _ _ _ _ _ _ _).mp q)), nm_s, nm_s, show page 13 = counts 5 from h.pc (i := 5) (by omega)]
    exact ⟨_, _, rfl, rfl, IW_count (i := 5) (by omega) _ h, CI_tok hc (fun m w hm hw => hc.tk hm hw) _ _ _ _⟩
/-! why a copy is not handed -/
def gWait (lrows rules tokens lasts : Nat → Int32) (g h l t : Nat) : Int32 :=
  if rules 1 = 0 then 0 else if rules 1 = 1 then (if tokens (g * 16 + l) = 1 then 1 else 0) else if rules 1 = 2 then (if tokens (g * 16 + l) = 1 then (if lasts (h * 8 + t) = -1 then 1 else if lasts (h * 8 + t) - lasts (g * 8 + t) ≤ rules 3 then 1 else 0) else 0) else 1
theorem c_mustWait {g h l t : Nat} (hg : g < 8) (hh : h < 8) (hl : l < 16) (ht : t < 8) (et : lrows (l * 6 + 2) = nI t) : fX1_mustWait lrows rules tokens lasts (nI g) (nI h) (nI l) = some (gWait lrows rules tokens lasts g h l t) := by
  unfold fX1_mustWait gWait
  rw [c_place, bd_s, gd_in (by omega) (by omega), nI_clamp (by omega), c_ofLetter_2 lrows hl, bd_s, et]
  unfold fX1_metLater
  rw [c_lastOf lasts hh ht, bd_s, c_lastOf lasts hg ht, bd_s]
  by_cases h1 : tokens (g * 16 + l) = 1
  · simp only [if_pos h1, bd_s]
    split
    · rfl
    · split
      · rfl
      · split
        · simp only [e10, if_false]
          split
          · rfl
          · split <;> rfl
        · rfl
  · simp only [if_neg h1, bd_s]
    split
    · rfl
    · split
      · rfl
      · split <;> rfl
theorem m_isWaiting (h : IW N K Z C rooms mrows lrows rules counts refused tokens hops since notes lasts dAt dHops page) (hc : CI N K Z C rooms mrows lrows rules counts refused tokens hops since notes lasts dAt dHops) (hC : C ≤ 30000) {g i l t : Nat} (hg : g < N) (hi : i < N) (hl : l < Z) (ht : t < N) (et : lrows (l * 6 + 2) = nI t) : fX6_isWaiting page (nI g) (nI i) (nI l) = some (gWait lrows rules tokens lasts g i l t) := by
  have hN := h.hN
  have hZ := h.hZ
  have back : ∀ x : Int32, x + 1 - 1 = x := fun x => by grind
  unfold fX6_isWaiting gWait
  rw [m_ofLetter'_2 h hl, bd_s, et, m_tokensOf page (by omega) (by omega), bd_s, h.pt (by omega) (by omega), show page 5 = rules 1 from h.pr (i := 1) (by omega), show page 7 = rules 3 from h.pr (i := 3) (by omega), m_lastOf page (by omega) (by omega), m_lastOf page (by omega) (by omega), h.ps (by omega) (by omega), h.ps (by omega) (by omega), back, back]
  simp only [bd_s]
  obtain ⟨l1, s1⟩ := hc.la (a := i) (b := t) (by omega) (by omega)
  obtain ⟨l2, s2⟩ := hc.la (a := g) (b := t) (by omega) (by omega)
  obtain ⟨-, -, -, r, hr, er⟩ := hc.rl
  have v78 : (bd (if nI g = nI t then some (-1 : Int32) else some (lasts (g * 8 + t))) fun v78 => if (if tokens (g * 16 + l) = 1 then (1 : Int32) else 0) = 0 then some (0 : Int32) else if lasts (i * 8 + t) < 0 then some 1 else if v78 + rules 3 < lasts (i * 8 + t) then some 0 else some 1) = some (if tokens (g * 16 + l) = 1 then (if lasts (i * 8 + t) = -1 then 1 else if lasts (i * 8 + t) - lasts (g * 8 + t) ≤ rules 3 then 1 else 0) else 0) := by
    have e78 : (if nI g = nI t then some (-1 : Int32) else some (lasts (g * 8 + t))) = some (lasts (g * 8 + t)) := by
      split
      · rename_i q
        rw [s2 (Or.inr (nI_inj (by omega) (by omega) q))]
      · rfl
    rw [e78, bd_s]
    by_cases h1 : tokens (g * 16 + l) = 1
    · simp only [if_pos h1, e10, if_false]
      rcases l1 with q | ⟨u, hu, q⟩
      · rw [q]; rfl
      · rw [q, if_neg (nI_pos (by omega)), if_neg (nI_nm1 (n := u) (by omega)), er]
        have hx1 : -1 ≤ (lasts (g * 8 + t)).toInt ∧ (lasts (g * 8 + t)).toInt ≤ 30000 := by
          rcases l2 with q2 | ⟨u2, hu2, q2⟩
          · rw [q2]; decide
          · rw [q2, nI_toInt (by omega)]; omega
        have := marg hx1.1 hx1.2 (t := u) (r := r) (by omega) hr
        by_cases hm : nI u - lasts (g * 8 + t) ≤ nI r
        · rw [if_pos hm, if_neg (this.mp hm)]
        · rw [if_neg hm, if_pos (Classical.not_not.mp (fun z => hm (this.mpr z)))]
    · simp only [if_neg h1, if_true]
  have hv : (if tokens (g * 16 + l) = 1 then some (1 : Int32) else some 0) = some (if tokens (g * 16 + l) = 1 then 1 else 0) := by split <;> rfl
  rw [hv, bd_s]
  split
  · rfl
  · split
    · by_cases h1 : tokens (g * 16 + l) = 1
      · rw [if_pos h1]; rfl
      · rw [if_neg h1]; rfl
    · split
      · exact v78
      · rfl
end PH
