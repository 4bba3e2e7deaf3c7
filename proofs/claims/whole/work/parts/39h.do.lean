theorem add_letter {Z : Nat} (hZ : Z < 16) (lrows : Nat → Int32) (C a b t3 t4 t5 : Nat) : fX0_addLetter (nI Z) lrows (nI C) (nI a) (nI b) (nI t3) (nI t4) (nI t5) = some (nI (Z + 1), (upd (upd (upd (upd (upd (upd lrows (Z * 6 + 0) (nI C)) (Z * 6 + 1) (nI a)) (Z * 6 + 2) (nI b)) (Z * 6 + 3) (nI t3)) (Z * 6 + 4) (nI t4)) (Z * 6 + 5) (nI t5))) := by
  have e0 : (nI Z * (6 : Int32)) + (0 : Int32) = nI (Z * 6 + 0) := ix3 Z 6 0
  have e1 : (nI Z * (6 : Int32)) + (1 : Int32) = nI (Z * 6 + 1) := ix3 Z 6 1
  have e2 : (nI Z * (6 : Int32)) + (2 : Int32) = nI (Z * 6 + 2) := ix3 Z 6 2
  have e3 : (nI Z * (6 : Int32)) + (3 : Int32) = nI (Z * 6 + 3) := ix3 Z 6 3
  have e4 : (nI Z * (6 : Int32)) + (4 : Int32) = nI (Z * 6 + 4) := ix3 Z 6 4
  have e5 : (nI Z * (6 : Int32)) + (5 : Int32) = nI (Z * 6 + 5) := ix3 Z 6 5
  unfold fX0_addLetter
  rw [if_neg (show ¬ (16 : Int32) ≤ nI Z from nI_ge (a := Z) (b := 16) (by omega) (by omega))]
  simp only [gd_at e0 (show Z * 6 + 0 < 96 by omega) (show 96 < 2 ^ 31 by omega), cl_at e0 (show Z * 6 + 0 < 2 ^ 31 by omega), gd_at e1 (show Z * 6 + 1 < 96 by omega) (show 96 < 2 ^ 31 by omega), cl_at e1 (show Z * 6 + 1 < 2 ^ 31 by omega), gd_at e2 (show Z * 6 + 2 < 96 by omega) (show 96 < 2 ^ 31 by omega), cl_at e2 (show Z * 6 + 2 < 2 ^ 31 by omega), gd_at e3 (show Z * 6 + 3 < 96 by omega) (show 96 < 2 ^ 31 by omega), cl_at e3 (show Z * 6 + 3 < 2 ^ 31 by omega), gd_at e4 (show Z * 6 + 4 < 96 by omega) (show 96 < 2 ^ 31 by omega), cl_at e4 (show Z * 6 + 4 < 2 ^ 31 by omega), gd_at e5 (show Z * 6 + 5 < 96 by omega) (show 96 < 2 ^ 31 by omega), cl_at e5 (show Z * 6 + 5 < 2 ^ 31 by omega), nm_s, nI_1]
section PX
variable {N K Z C : Nat} {rooms mrows lrows rules counts refused tokens hops since notes lasts dAt dHops : Nat → Int32} {page : Nat → Int32}
theorem IW_grow {lrows2 page2 : Nat → Int32} (h : IW N K Z C rooms mrows lrows rules counts refused tokens hops since notes lasts dAt dHops page) (hZ : Z < 16) (p2 : page2 2 = nI (Z + 1)) (hf : ∀ x, x ≠ 2 → (x < 127 + 8 * Z ∨ 127 + 8 * Z + 8 ≤ x) → page2 x = page x) (hl : ∀ l w, l < Z → w < 6 → lrows2 (l * 6 + w) = lrows (l * 6 + w)) (hn : ∀ w, w < 6 → page2 (127 + 8 * Z + w) = lrows2 (Z * 6 + w)) (h6 : page2 (127 + 8 * Z + 6) = dAt Z) (h7 : page2 (127 + 8 * Z + 7) = dHops Z) : IW N K (Z + 1) C rooms mrows lrows2 rules counts refused tokens hops since notes lasts dAt dHops page2 := by
  have g1 := h.hN
  have g2 := h.hK
  exact ⟨⟨g1, g2, by omega⟩, ⟨by rw [hf _ (by omega) (by omega)]; exact h.p0, by rw [hf _ (by omega) (by omega)]; exact h.p1, p2, by rw [hf _ (by omega) (by omega)]; exact h.p3⟩,
    fun i hi => by rw [hf _ (by omega) (by omega)]; exact h.pr hi, fun i hi => by rw [hf _ (by omega) (by omega)]; exact h.pc hi,
    h.pf.imp (fun z => ⟨z.1, by rw [hf _ (by omega) (by omega)]; exact z.2⟩) (fun z => ⟨z.1, by rw [hf _ (by omega) (by omega)]; exact z.2.1, fun i hi => by rw [hf _ (by omega) (by omega)]; exact z.2.2 i hi⟩),
    fun i hi => by rw [hf _ (by omega) (by omega)]; exact h.po hi, fun m w hm hw => by rw [hf _ (by omega) (by omega)]; exact h.pm hm hw,
    fun l w hl2 hw => by
      by_cases e : l = Z
      · subst e; exact hn w hw
      · rw [hf _ (by omega) (by omega), hl l w (by omega) hw]; exact h.pl (by omega) hw,
    fun l hl2 => by
      by_cases e : l = Z
      · subst e; exact ⟨h6, h7⟩
      · exact ⟨by rw [hf _ (by omega) (by omega)]; exact (h.pd (by omega)).1, by rw [hf _ (by omega) (by omega)]; exact (h.pd (by omega)).2⟩,
    fun n l hn hl => by rw [hf _ (by omega) (by omega)]; exact h.pt hn hl,
    fun n l hn hl ht => ⟨by rw [hf _ (by omega) (by omega)]; exact (h.ph hn hl ht).1, by rw [hf _ (by omega) (by omega)]; exact (h.ph hn hl ht).2⟩, fun n l hn hl => by rw [hf _ (by omega) (by omega)]; exact h.pn hn hl, fun a b ha hb => by rw [hf _ (by omega) (by omega)]; exact h.ps ha hb⟩
theorem IW_send (h : IW N K Z C rooms mrows lrows rules counts refused tokens hops since notes lasts dAt dHops page) (hc : CI N K Z C rooms mrows lrows rules counts refused tokens hops since notes lasts dAt dHops) (hZ : Z < 16) (a b t3 t4 t5 : Nat) : IW N K (Z + 1) C rooms mrows (upd (upd (upd (upd (upd (upd lrows (Z * 6 + 0) (nI C)) (Z * 6 + 1) (nI a)) (Z * 6 + 2) (nI b)) (Z * 6 + 3) (nI t3)) (Z * 6 + 4) (nI t4)) (Z * 6 + 5) (nI t5)) rules counts refused tokens hops since notes lasts dAt dHops (upd (upd (upd (upd (upd (upd (upd (upd (upd page (127 + 8 * Z + 0) (nI C)) (127 + 8 * Z + 1) (nI a)) (127 + 8 * Z + 2) (nI b)) (127 + 8 * Z + 3) (nI t3)) (127 + 8 * Z + 4) (nI t4)) (127 + 8 * Z + 5) (nI t5)) (127 + 8 * Z + 6) (-4)) (127 + 8 * Z + 7) (-4)) 2 (nI (Z + 1))) := by
  have fr := hc.fresh (Nat.le_refl Z) hZ
  refine IW_grow h hZ (upd_eq _ _ _) (fun x h1 h2 => ?_) (fun l w h1 h2 => ?_) (fun w hw => ?_) ?_ ?_
  · rw [upd_ne _ _ h1, upd_ne _ _ (by omega), upd_ne _ _ (by omega), upd_ne _ _ (by omega), upd_ne _ _ (by omega), upd_ne _ _ (by omega), upd_ne _ _ (by omega), upd_ne _ _ (by omega), upd_ne _ _ (by omega)]
  · rw [upd_ne _ _ (by omega), upd_ne _ _ (by omega), upd_ne _ _ (by omega), upd_ne _ _ (by omega), upd_ne _ _ (by omega), upd_ne _ _ (by omega)]
  · rcases (show w = 0 ∨ w = 1 ∨ w = 2 ∨ w = 3 ∨ w = 4 ∨ w = 5 by omega) with rfl | rfl | rfl | rfl | rfl | rfl
    · rw [upd_ne _ _ (by omega), upd_ne _ _ (by omega), upd_ne _ _ (by omega), upd_ne _ _ (by omega), upd_ne _ _ (by omega), upd_ne _ _ (by omega), upd_ne _ _ (by omega), upd_ne _ _ (by omega), upd_eq, upd_ne _ _ (by omega), upd_ne _ _ (by omega), upd_ne _ _ (by omega), upd_ne _ _ (by omega), upd_ne _ _ (by omega), upd_eq]
    · rw [upd_ne _ _ (by omega), upd_ne _ _ (by omega), upd_ne _ _ (by omega), upd_ne _ _ (by omega), upd_ne _ _ (by omega), upd_ne _ _ (by omega), upd_ne _ _ (by omega), upd_eq, upd_ne _ _ (by omega), upd_ne _ _ (by omega), upd_ne _ _ (by omega), upd_ne _ _ (by omega), upd_eq]
    · rw [upd_ne _ _ (by omega), upd_ne _ _ (by omega), upd_ne _ _ (by omega), upd_ne _ _ (by omega), upd_ne _ _ (by omega), upd_ne _ _ (by omega), upd_eq, upd_ne _ _ (by omega), upd_ne _ _ (by omega), upd_ne _ _ (by omega), upd_eq]
    · rw [upd_ne _ _ (by omega), upd_ne _ _ (by omega), upd_ne _ _ (by omega), upd_ne _ _ (by omega), upd_ne _ _ (by omega), upd_eq, upd_ne _ _ (by omega), upd_ne _ _ (by omega), upd_eq]
    · rw [upd_ne _ _ (by omega), upd_ne _ _ (by omega), upd_ne _ _ (by omega), upd_ne _ _ (by omega), upd_eq, upd_ne _ _ (by omega), upd_eq]
    · rw [upd_ne _ _ (by omega), upd_ne _ _ (by omega), upd_ne _ _ (by omega), upd_eq, upd_eq]
  · rw [upd_ne _ _ (by omega), upd_ne _ _ (by omega), upd_eq]; exact fr.1.symm
  · rw [upd_ne _ _ (by omega), upd_eq]; exact fr.2.symm
theorem CI_send (hc : CI N K Z C rooms mrows lrows rules counts refused tokens hops since notes lasts dAt dHops) (hZ : Z < 16) (hC : C ≤ 25700) {a b t3 t4 t5 : Nat} (ha : a < N) (hb : b < N) (hab : a ≠ b) (h3 : 1 ≤ t3 ∧ t3 ≤ 99) (h4 : 1 ≤ t4 ∧ t4 ≤ 64) (h5 : 1 ≤ t5 ∧ t5 ≤ 99) : CI N K (Z + 1) C rooms mrows (upd (upd (upd (upd (upd (upd lrows (Z * 6 + 0) (nI C)) (Z * 6 + 1) (nI a)) (Z * 6 + 2) (nI b)) (Z * 6 + 3) (nI t3)) (Z * 6 + 4) (nI t4)) (Z * 6 + 5) (nI t5)) rules counts refused tokens hops since notes lasts dAt dHops := by
  obtain ⟨a1, a2, a3, a4, a5, a6, a7⟩ := hc
  refine ⟨a1, a2, fun l hl => ?_, fun l h1 h2 => a4 l (by omega) h2, a5, fun n hn => ?_, a7⟩
  · by_cases e : l = Z
    · subst e
      refine ⟨⟨C, hC, ?_⟩, ⟨a, b, ha, hb, hab, ?_, ?_⟩, ⟨t3, h3.1, h3.2, ?_⟩, ⟨t4, h4.1, h4.2, ?_⟩, ⟨t5, h5.1, h5.2, ?_⟩⟩
      · rw [upd_ne _ _ (by omega), upd_ne _ _ (by omega), upd_ne _ _ (by omega), upd_ne _ _ (by omega), upd_ne _ _ (by omega), upd_eq]
      · rw [upd_ne _ _ (by omega), upd_ne _ _ (by omega), upd_ne _ _ (by omega), upd_ne _ _ (by omega), upd_eq]
      · rw [upd_ne _ _ (by omega), upd_ne _ _ (by omega), upd_ne _ _ (by omega), upd_eq]
      · rw [upd_ne _ _ (by omega), upd_ne _ _ (by omega), upd_eq]
      · rw [upd_ne _ _ (by omega), upd_eq]
      · rw [upd_eq]
    · have := a3 l (by omega)
      have fr : ∀ w, w < 6 → (upd (upd (upd (upd (upd (upd lrows (Z * 6 + 0) (nI C)) (Z * 6 + 1) (nI a)) (Z * 6 + 2) (nI b)) (Z * 6 + 3) (nI t3)) (Z * 6 + 4) (nI t4)) (Z * 6 + 5) (nI t5)) (l * 6 + w) = lrows (l * 6 + w) := fun w hw => by
        rw [upd_ne _ _ (by omega), upd_ne _ _ (by omega), upd_ne _ _ (by omega), upd_ne _ _ (by omega), upd_ne _ _ (by omega), upd_ne _ _ (by omega)]
      rw [fr 0 (by omega), fr 1 (by omega), fr 2 (by omega), fr 3 (by omega), fr 4 (by omega), fr 5 (by omega)]
      exact this
  · obtain ⟨v, hv, e⟩ := a6 n hn
    exact ⟨v, Nat.lt_of_lt_of_le hv (Nat.pow_le_pow_right (by omega) (by omega)), e⟩
theorem do_send (hC : C ≤ 25700) (h : IW N K Z C rooms mrows lrows rules counts refused tokens hops since notes lasts dAt dHops page) (hc : CI N K Z C rooms mrows lrows rules counts refused tokens hops since notes lasts dAt dHops) (x y x3 x4 x5 : Int32) : ∃ q p' Z', fX5_send (nI C) (nI N) (nI Z) rooms lrows rules counts tokens hops since x y x3 x4 x5 = some q ∧ fX6_send page x y x3 x4 x5 = some (q.1, p') ∧ q.2.1 = nI Z' ∧ IW N K Z' C rooms mrows q.2.2.1 rules q.2.2.2.1 refused q.2.2.2.2.1 q.2.2.2.2.2.1 q.2.2.2.2.2.2 notes lasts dAt dHops p' ∧ CI N K Z' C rooms mrows q.2.2.1 rules q.2.2.2.1 refused q.2.2.2.2.1 q.2.2.2.2.2.1 q.2.2.2.2.2.2 notes lasts dAt dHops := by
  have hN := h.hN
  have hZ := h.hZ
  unfold fX5_send fX6_send
  rcases pair_sim hN h.p0 x y with ⟨a, b, ha, hb, hab, rfl, rfl, p1, p2, p3, p4⟩ | ⟨p1, p2⟩
  · rw [p1, bd_s, if_neg n10, p2, bd_s, if_neg n10, p3, bd_s, if_neg n10, if_neg p4]
    have no : ∀ (L M : Option (Int32 × Int32 × (Nat → Int32) × (Nat → Int32) × (Nat → Int32) × (Nat → Int32) × (Nat → Int32))) (R : Option (Int32 × (Nat → Int32))), L = some (-1, nI Z, lrows, counts, tokens, hops, since) → R = some (-1, page) → ∃ q p' Z', L = some q ∧ R = some (q.1, p') ∧ q.2.1 = nI Z' ∧ IW N K Z' C rooms mrows q.2.2.1 rules q.2.2.2.1 refused q.2.2.2.2.1 q.2.2.2.2.2.1 q.2.2.2.2.2.2 notes lasts dAt dHops p' ∧ CI N K Z' C rooms mrows q.2.2.1 rules q.2.2.2.1 refused q.2.2.2.2.1 q.2.2.2.2.2.1 q.2.2.2.2.2.2 notes lasts dAt dHops := fun L M R e1 e2 => ⟨_, page, Z, e1, e2, rfl, h, hc⟩
    rcases in_sim x3 1 99 (A := 1) (B := 99) (by decide) (by decide) (by omega) (by omega) with ⟨t3, l3, u3, rfl, g3⟩ | ⟨g, g3⟩
    · rcases in_sim x4 1 64 (A := 1) (B := 64) (by decide) (by decide) (by omega) (by omega) with ⟨t4, l4, u4, rfl, g4⟩ | ⟨g, g4⟩
      · rcases in_sim x5 1 99 (A := 1) (B := 99) (by decide) (by decide) (by omega) (by omega) with ⟨t5, l5, u5, rfl, g5⟩ | ⟨g, g5⟩
        · rw [g3, bd_s, if_neg n10, g4, bd_s, if_neg n10, g5, bd_s, if_neg n10]
          rw [if_neg (show ¬ nI t3 < 1 from nI_nlt (b := 1) l3 (by omega)), if_pos (show nI t3 ≤ 99 from nI_le (b := 99) u3 (by omega)), if_neg (show ¬ nI t4 < 1 from nI_nlt (b := 1) l4 (by omega)), if_neg (show ¬ (64 : Int32) < nI t4 from nI_nlt (a := 64) u4 (by omega)), if_neg (show ¬ nI t5 < 1 from nI_nlt (b := 1) l5 (by omega)), if_pos (show nI t5 ≤ 99 from nI_le (b := 99) u5 (by omega))]
          by_cases z16 : Z = 16
          · rw [if_neg (show ¬ nI Z < 16 from by rw [z16]; decide), h.p2, if_pos (show nI Z = 16 from by rw [z16]; rfl)]
            exact ⟨_, page, Z, rfl, rfl, rfl, h, hc⟩
          · have hZ2 : Z < 16 := by omega
            have m0 : ((127 : Int32) + ((8 : Int32) * nI Z)) + (0 : Int32) = nI (127 + 8 * Z + 0) := ix4 127 8 Z 0
            have m1 : ((127 : Int32) + ((8 : Int32) * nI Z)) + (1 : Int32) = nI (127 + 8 * Z + 1) := ix4 127 8 Z 1
            have m2 : ((127 : Int32) + ((8 : Int32) * nI Z)) + (2 : Int32) = nI (127 + 8 * Z + 2) := ix4 127 8 Z 2
            have m3 : ((127 : Int32) + ((8 : Int32) * nI Z)) + (3 : Int32) = nI (127 + 8 * Z + 3) := ix4 127 8 Z 3
            have m4 : ((127 : Int32) + ((8 : Int32) * nI Z)) + (4 : Int32) = nI (127 + 8 * Z + 4) := ix4 127 8 Z 4
            have m5 : ((127 : Int32) + ((8 : Int32) * nI Z)) + (5 : Int32) = nI (127 + 8 * Z + 5) := ix4 127 8 Z 5
            have m6 : ((127 : Int32) + ((8 : Int32) * nI Z)) + (6 : Int32) = nI (127 + 8 * Z + 6) := ix4 127 8 Z 6
            have m7 : ((127 : Int32) + ((8 : Int32) * nI Z)) + (7 : Int32) = nI (127 + 8 * Z + 7) := ix4 127 8 Z 7
            rw [if_pos (show nI Z < 16 from nI_lt (b := 16) hZ2 (by omega)), add_letter hZ2, bd_s]
            have h2 := IW_send h hc hZ2 a b t3 t4 t5
            have c2 := CI_send hc hZ2 hC ha hb hab ⟨l3, u3⟩ ⟨l4, u4⟩ ⟨l5, u5⟩
            obtain ⟨q, p', b1, b2, b3, b4⟩ := born_sim h2 c2 (l := Z) (by omega)
            rw [b1, bd_s]
            simp only [h.p2, h.p3]
            rw [if_neg (show ¬ nI Z = 16 from fun z => z16 (nI_inj (b := 16) (by omega) (by omega) z))]
            simp only [gd_at m0 (show 127 + 8 * Z + 0 < 831 by omega) (show 831 < 2 ^ 31 by omega), cl_at m0 (show 127 + 8 * Z + 0 < 2 ^ 31 by omega), gd_at m1 (show 127 + 8 * Z + 1 < 831 by omega) (show 831 < 2 ^ 31 by omega), cl_at m1 (show 127 + 8 * Z + 1 < 2 ^ 31 by omega), gd_at m2 (show 127 + 8 * Z + 2 < 831 by omega) (show 831 < 2 ^ 31 by omega), cl_at m2 (show 127 + 8 * Z + 2 < 2 ^ 31 by omega), gd_at m3 (show 127 + 8 * Z + 3 < 831 by omega) (show 831 < 2 ^ 31 by omega), cl_at m3 (show 127 + 8 * Z + 3 < 2 ^ 31 by omega), gd_at m4 (show 127 + 8 * Z + 4 < 831 by omega) (show 831 < 2 ^ 31 by omega), cl_at m4 (show 127 + 8 * Z + 4 < 2 ^ 31 by omega), gd_at m5 (show 127 + 8 * Z + 5 < 831 by omega) (show 831 < 2 ^ 31 by omega), cl_at m5 (show 127 + 8 * Z + 5 < 2 ^ 31 by omega), gd_at m6 (show 127 + 8 * Z + 6 < 831 by omega) (show 831 < 2 ^ 31 by omega), cl_at m6 (show 127 + 8 * Z + 6 < 2 ^ 31 by omega), gd_at m7 (show 127 + 8 * Z + 7 < 831 by omega) (show 831 < 2 ^ 31 by omega), cl_at m7 (show 127 + 8 * Z + 7 < 2 ^ 31 by omega), nm_s]
            rw [show (upd (upd (upd (upd (upd (upd (upd (upd page (127 + 8 * Z + 0) (nI C)) (127 + 8 * Z + 1) (nI a)) (127 + 8 * Z + 2) (nI b)) (127 + 8 * Z + 3) (nI t3)) (127 + 8 * Z + 4) (nI t4)) (127 + 8 * Z + 5) (nI t5)) (127 + 8 * Z + 6) (-4)) (127 + 8 * Z + 7) (-4)) 2 = nI Z from by rw [upd_ne _ _ (by omega), upd_ne _ _ (by omega), upd_ne _ _ (by omega), upd_ne _ _ (by omega), upd_ne _ _ (by omega), upd_ne _ _ (by omega), upd_ne _ _ (by omega), upd_ne _ _ (by omega)]; exact h.p2, nI_1, b2, bd_s]
            exact ⟨_, p', Z + 1, rfl, rfl, rfl, b3, b4⟩
        · refine no _ none _ ?_ (by rw [g3, bd_s, if_neg n10, g4, bd_s, if_neg n10, g5, bd_s, if_pos p00])
          rcases g with g | g
          · rw [if_pos (show x5 < 1 from g)]
            simp only [ite_self]
          · rw [if_neg (show ¬ x5 ≤ 99 from Int32.not_le.mpr g)]
            simp only [ite_self]
      · refine no _ none _ ?_ (by rw [g3, bd_s, if_neg n10, g4, bd_s, if_pos p00])
        rcases g with g | g
        · rw [if_pos (show x4 < 1 from g)]
          simp only [ite_self]
        · rw [if_pos (show (64 : Int32) < x4 from g)]
          simp only [ite_self]
    · refine no _ none _ ?_ (by rw [g3, bd_s, if_pos p00])
      rcases g with g | g
      · rw [if_pos (show x3 < 1 from g)]
      · rw [if_neg (show ¬ x3 ≤ 99 from Int32.not_le.mpr g), ite_self]
  · rw [p1, bd_s, if_pos p00, p2]
    exact ⟨_, page, Z, rfl, rfl, rfl, h, hc⟩
theorem do_meet (hC : C ≤ 30000) (h : IW N K Z C rooms mrows lrows rules counts refused tokens hops since notes lasts dAt dHops page) (hc : CI N K Z C rooms mrows lrows rules counts refused tokens hops since notes lasts dAt dHops) (x y z left ref left2 ref2 : Int32) (order isLeft : Nat → Int32) : ∃ q q', fX5_meet (nI C) (nI N) (nI Z) rooms lrows rules counts refused tokens hops since notes lasts dAt dHops left ref order x y z = some q ∧ fX6_meet left2 ref2 page isLeft x y z = some q' ∧ q.1 = q'.1 ∧
    IW N K Z C rooms mrows lrows rules q.2.1 q.2.2.1 q.2.2.2.1 q.2.2.2.2.1 q.2.2.2.2.2.1 q.2.2.2.2.2.2.1 q.2.2.2.2.2.2.2.1 q.2.2.2.2.2.2.2.2.1 q.2.2.2.2.2.2.2.2.2.1 q'.2.2.2.1 ∧ CI N K Z C rooms mrows lrows rules q.2.1 q.2.2.1 q.2.2.2.1 q.2.2.2.2.1 q.2.2.2.2.2.1 q.2.2.2.2.2.2.1 q.2.2.2.2.2.2.2.1 q.2.2.2.2.2.2.2.2.1 q.2.2.2.2.2.2.2.2.2.1 := by
  have hN := h.hN
  unfold fX5_meet fX6_meet
  rcases pair_sim hN h.p0 x y with ⟨a, b, ha, hb, hab, rfl, rfl, p1, p2, p3, p4⟩ | ⟨p1, p2⟩
  · rw [p1, bd_s, if_neg n10, p2, bd_s, if_neg n10, p3, bd_s, if_neg n10, if_neg p4]
    rcases in_sim z 0 99 (A := 0) (B := 99) (by decide) (by decide) (by omega) (by omega) with ⟨t, -, u, rfl, g⟩ | ⟨g0, g⟩
    · obtain ⟨q, q', a1, a2, a3, a4⟩ := meet_sim hC h hc ha hb hab (nI t) left ref left2 ref2 order isLeft
      rw [g, bd_s, if_neg n10, if_neg (nI_pos (by omega)), if_pos (show nI t ≤ 99 from nI_le (b := 99) u (by omega)), a1, bd_s, a2, bd_s, show page 8 = counts 0 from h.pc (i := 0) (by omega), show q'.2.2.1 8 = q.2.2.1 0 from a3.pc (i := 0) (by omega)]
      exact ⟨_, _, rfl, rfl, rfl, a3, a4⟩
    · refine ⟨(-1, counts, refused, tokens, hops, since, notes, lasts, dAt, dHops, left, ref, order), (-1, left2, ref2, page, isLeft), ?_, by rw [g, bd_s, if_pos p00], rfl, h, hc⟩
      rcases g0 with g0 | g0
      · rw [if_pos (show z < 0 from g0)]
      · rw [if_neg (show ¬ z ≤ 99 from Int32.not_le.mpr g0), ite_self]
  · rw [p1, bd_s, if_pos p00, p2]
    exact ⟨_, _, rfl, rfl, rfl, h, hc⟩
theorem do_tick (hC : C ≤ 29000) (h : IW N K Z C rooms mrows lrows rules counts refused tokens hops since notes lasts dAt dHops page) (hc : CI N K Z C rooms mrows lrows rules counts refused tokens hops since notes lasts dAt dHops) (x left ref left2 ref2 : Int32) (order isLeft : Nat → Int32) : ∃ q q' C', fX5_tick (nI C) (nI N) (nI K) (nI Z) rooms mrows lrows rules counts refused tokens hops since notes lasts dAt dHops left ref order x = some q ∧ fX6_tick left2 ref2 page isLeft x = some q' ∧ q.1 = q'.1 ∧ C' ≤ C + 50 ∧ q.2.1 = nI C' ∧
    IW N K Z C' rooms mrows lrows rules q.2.2.1 q.2.2.2.1 q.2.2.2.2.1 q.2.2.2.2.2.1 q.2.2.2.2.2.2.1 q.2.2.2.2.2.2.2.1 q.2.2.2.2.2.2.2.2.1 q.2.2.2.2.2.2.2.2.2.1 q.2.2.2.2.2.2.2.2.2.2.1 q'.2.2.2.1 ∧ CI N K Z C' rooms mrows lrows rules q.2.2.1 q.2.2.2.1 q.2.2.2.2.1 q.2.2.2.2.2.1 q.2.2.2.2.2.2.1 q.2.2.2.2.2.2.2.1 q.2.2.2.2.2.2.2.2.1 q.2.2.2.2.2.2.2.2.2.1 q.2.2.2.2.2.2.2.2.2.2.1 := by
  unfold fX5_tick fX6_tick
  rcases in_sim x 1 50 (A := 1) (B := 50) (by decide) (by decide) (by omega) (by omega) with ⟨t, l, u, rfl, g⟩ | ⟨g0, g⟩
  · obtain ⟨q, q', a1, a2, a3, a4, a5⟩ := tick_loop (T := t) (by omega) (counts 0) (page 8) t 0 C FU FU left ref left2 ref2 counts refused tokens hops since notes lasts dAt dHops order page isLeft (by omega) (by unfold FU; omega) (by unfold FU; omega) (by omega) h hc
    rw [show nI 0 = (0 : Int32) from rfl] at a1 a2
    rw [g, bd_s, if_neg n10, if_neg (show ¬ nI t < 1 from nI_nlt (b := 1) l (by omega)), if_pos (show nI t ≤ 50 from nI_le (b := 50) u (by omega)), a1, bd_s, a2, bd_s, show page 8 = counts 0 from h.pc (i := 0) (by omega), show q'.2.2.1 8 = q.2.1 0 from a4.pc (i := 0) (by omega)]
    exact ⟨_, _, C + t, rfl, rfl, rfl, by omega, a3, a4, a5⟩
  · refine ⟨(-1, nI C, counts, refused, tokens, hops, since, notes, lasts, dAt, dHops, left, ref, order), (-1, left2, ref2, page, isLeft), C, ?_, by rw [g, bd_s, if_pos p00], rfl, by omega, rfl, h, hc⟩
    rcases g0 with g0 | g0
    · rw [if_pos (show x < 1 from g0)]
    · rw [if_neg (show ¬ x ≤ 50 from Int32.not_le.mpr g0), ite_self]
end PX
