def gR (N Z : Nat) (rooms lrows rules tokens lasts : Nat → Int32) (g h l t : Nat) (left : Int32) : Int32 :=
  if tokens (h * 16 + l) ≤ 0 then (if t = h then (if lrows (l * 6 + 3) ≤ left then 0 else 3) else if gWait lrows rules tokens lasts g h l t = 0 then (if lrows (l * 6 + 3) ≤ left then gLack N Z rooms lrows rules tokens h (lrows (l * 6 + 3)) else 3) else 2) else 1
/-- what the reference calls it -/
def gM (r : Int32) : Int32 := if r ≤ 4 then r else 4
theorem gWait_01 (lrows rules tokens lasts : Nat → Int32) (g h l t : Nat) : gWait lrows rules tokens lasts g h l t = 0 ∨ gWait lrows rules tokens lasts g h l t = 1 := by
  unfold gWait
  split
  · simp
  · split
    · split <;> simp
    · split
      · split
        · split
          · simp
          · split <;> simp
        · simp
      · simp
section PQ
variable {N K Z C : Nat} {rooms mrows lrows rules counts refused tokens hops since notes lasts dAt dHops : Nat → Int32} {page : Nat → Int32}
theorem c_reason {g h l t : Nat} (hZ : Z ≤ 16) (hg : g < 8) (hh : h < 8) (hl : l < 16) (ht : t < 8) (et : lrows (l * 6 + 2) = nI t) (left : Int32) : fX1_reasonAgainst (nI Z) rooms lrows rules tokens lasts (nI g) (nI h) (nI l) left = some (gR N Z rooms lrows rules tokens lasts g h l t left) := by
  unfold fX1_reasonAgainst gR
  rw [c_hasCopy tokens hh hl, bd_s, c_ofLetter_2 lrows hl, bd_s, et, c_mustWait hg hh hl ht et, c_ofLetter_3 lrows hl, c_lack (N := N) hh hl hZ]
  by_cases h1 : tokens (h * 16 + l) ≤ 0
  · simp only [if_pos h1, if_true, bd_s]
    by_cases h2 : t = h
    · subst h2
      simp only [if_true, bd_s, e10, if_false]
      simp only [lp]
      split <;> rfl
    · have : ¬ nI t = nI h := fun q => h2 (nI_inj (by omega) (by omega) q)
      simp only [if_neg this, if_neg h2, bd_s, if_true]
      rcases gWait_01 lrows rules tokens lasts g h l t with q | q
      · simp only [q, if_true, lp]
        split <;> rfl
      · simp only [q, e10, if_false, lp]
  · simp only [if_neg h1, e10, if_false]
theorem m_reason (h : IW N K Z C rooms mrows lrows rules counts refused tokens hops since notes lasts dAt dHops page) (hc : CI N K Z C rooms mrows lrows rules counts refused tokens hops since notes lasts dAt dHops) (hC : C ≤ 30000) {g i l t : Nat} (hg : g < N) (hi : i < N) (hl : l < Z) (ht : t < N) (et : lrows (l * 6 + 2) = nI t) (left : Int32) : fX6_reason page (nI g) (nI i) (nI l) left = some (gM (gR N Z rooms lrows rules tokens lasts g i l t left)) := by
  have hN := h.hN
  have hZ := h.hZ
  unfold fX6_reason gR
  rw [m_ofLetter'_2 h hl, bd_s, et, m_hasCopy' h (by omega) (by omega), m_isWaiting h hc hC hg hi hl ht et, m_ofLetter'_3 h hl]
  simp only [bd_s, m_lack h hi]
  by_cases h1 : tokens (i * 16 + l) ≤ 0
  · simp only [if_pos h1, if_true, bd_s]
    by_cases h2 : t = i
    · subst h2
      simp only [if_true, bd_s, e10, if_false]
      simp only [lp]
      split <;> rfl
    · have : ¬ nI t = nI i := fun q => h2 (nI_inj (by omega) (by omega) q)
      simp only [if_neg this, if_neg h2, bd_s, if_true]
      rcases gWait_01 lrows rules tokens lasts g i l t with q | q
      · simp only [q, if_true, lp]
        split
        · rcases gLack_cases N Z rooms lrows rules tokens i (lrows (l * 6 + 3)) with z | z | z | z <;> rw [z] <;> rfl
        · rfl
      · simp only [q, e10, if_false, lp]
        rfl
  · simp only [if_neg h1, bd_s, e10, if_false]
    split <;> rfl
theorem gR_0 {g h l t : Nat} {left : Int32} (hr : gR N Z rooms lrows rules tokens lasts g h l t left = 0) : tokens (h * 16 + l) ≤ 0 ∧ (t = h ∨ (t ≠ h ∧ gWait lrows rules tokens lasts g h l t = 0 ∧ gLack N Z rooms lrows rules tokens h (lrows (l * 6 + 3)) = 0)) := by
  unfold gR at hr
  split at hr
  · rename_i h1
    refine ⟨h1, ?_⟩
    split at hr
    · rename_i h2; exact Or.inl h2
    · rename_i h2
      split at hr
      · rename_i h3
        split at hr
        · exact Or.inr ⟨h2, h3, hr⟩
        · exact absurd hr (by decide)
      · exact absurd hr (by decide)
  · exact absurd hr (by decide)
theorem gR_cases {g h l t : Nat} {left : Int32} : gR N Z rooms lrows rules tokens lasts g h l t left = 0 ∨ (gR N Z rooms lrows rules tokens lasts g h l t left = 1 ∨ gR N Z rooms lrows rules tokens lasts g h l t left = 2 ∨ gR N Z rooms lrows rules tokens lasts g h l t left = 3) ∨ (gR N Z rooms lrows rules tokens lasts g h l t left = gLack N Z rooms lrows rules tokens h (lrows (l * 6 + 3)) ∧ (gR N Z rooms lrows rules tokens lasts g h l t left = 5 ∨ gR N Z rooms lrows rules tokens lasts g h l t left = 6 ∨ gR N Z rooms lrows rules tokens lasts g h l t left = 7)) := by
  unfold gR
  split
  · split
    · split
      · exact Or.inl rfl
      · exact Or.inr (Or.inl (Or.inr (Or.inr rfl)))
    · split
      · split
        · rcases gLack_cases N Z rooms lrows rules tokens h (lrows (l * 6 + 3)) with z | z | z | z
          · exact Or.inl z
          · exact Or.inr (Or.inr ⟨rfl, Or.inl z⟩)
          · exact Or.inr (Or.inr ⟨rfl, Or.inr (Or.inl z)⟩)
          · exact Or.inr (Or.inr ⟨rfl, Or.inr (Or.inr z)⟩)
        · exact Or.inr (Or.inl (Or.inr (Or.inr rfl)))
      · exact Or.inr (Or.inl (Or.inr (Or.inl rfl)))
  · exact Or.inr (Or.inl (Or.inl rfl))
theorem rem_lo (c a b l r : Int32) (refused : Nat → Int32) (hr : r ≤ 4) : fX1_rememberRefusal c refused a b l r = some (upd (upd (upd (upd (upd (upd refused 0 r) 1 (-4)) 2 l) 3 a) 4 b) 5 c) := by
  unfold fX1_rememberRefusal
  simp only [if_pos hr, bd_s, nm_s, if_true]
theorem rem_hi (c a b l r : Int32) (refused : Nat → Int32) (hr : ¬ r ≤ 4) : fX1_rememberRefusal c refused a b l r = some (upd (upd (upd (upd (upd (upd refused 0 4) 1 r) 2 l) 3 a) 4 b) 5 c) := by
  unfold fX1_rememberRefusal
  simp only [if_neg hr, bd_s, nm_s, e10, if_false]
/-- a refusal is written alike -/
theorem refuse_sim (h : IW N K Z C rooms mrows lrows rules counts refused tokens hops since notes lasts dAt dHops page) {g i l t : Nat} (hi : i < N) (hl : l < Z) (left : Int32) (hr : ¬ gR N Z rooms lrows rules tokens lasts g i l t left = 0) :
    ∃ r' p', fX1_rememberRefusal (nI C) refused (nI g) (nI i) (nI l) (gR N Z rooms lrows rules tokens lasts g i l t left) = some r' ∧ fX6_refuses 0 page (nI g) (nI i) (nI l) (gM (gR N Z rooms lrows rules tokens lasts g i l t left)) = some (1, p') ∧ IW N K Z C rooms mrows lrows rules counts r' tokens hops since notes lasts dAt dHops p' := by
  have hN := h.hN
  have hZ := h.hZ
  have hp3 : ∀ (a b : Int32), upd (upd (upd (upd (upd (upd page 22 1) 16 a) 17 b) 18 (nI l)) 19 (nI g)) 20 (nI i) 3 = nI C := fun a b => by
    rw [upd_ne _ _ (by omega), upd_ne _ _ (by omega), upd_ne _ _ (by omega), upd_ne _ _ (by omega), upd_ne _ _ (by omega), upd_ne _ _ (by omega)]
    exact h.p3
  rcases gR_cases (N := N) (Z := Z) (rooms := rooms) (lrows := lrows) (rules := rules) (tokens := tokens) (lasts := lasts) (g := g) (h := i) (l := l) (t := t) (left := left) with q | q | ⟨q0, q⟩
  · exact absurd q hr
  · generalize gR N Z rooms lrows rules tokens lasts g i l t left = r at *
    have h4 : r ≤ 4 := by rcases q with q | q | q <;> rw [q] <;> decide
    have n4 : ¬ r = 4 := by rcases q with q | q | q <;> rw [q] <;> decide
    refine ⟨_, _, rem_lo _ _ _ _ _ _ h4, ?_, IW_refuse r (-4) _ _ _ _ hr h⟩
    unfold fX6_refuses gM
    simp only [if_pos h4, if_true, nm_s, if_neg n4, bd_s, hp3]
  · have h4 : ¬ gR N Z rooms lrows rules tokens lasts g i l t left ≤ 4 := by rcases q with q | q | q <;> rw [q] <;> decide
    have hh := IW_half 4 (by decide) h
    refine ⟨_, _, rem_hi _ _ _ _ _ _ h4, ?_, IW_refuse 4 (gR N Z rooms lrows rules tokens lasts g i l t left) _ _ _ _ (by decide) h⟩
    unfold fX6_refuses gM
    simp only [if_neg h4, if_true, nm_s, m_ofLetter'_3 hh hl, bd_s, m_lack hh hi, ← q0, hp3]
end PQ
