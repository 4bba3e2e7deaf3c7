theorem sub0 {a b : Nat} (ha : a ≤ 60000) (hb : b ≤ 60000) : (nI a - nI b = 0) ↔ nI a = nI b := by
  have e1 : (nI a).toInt = a := nI_toInt (by omega)
  have e2 : (nI b).toInt = b := nI_toInt (by omega)
  constructor
  · intro h
    have := congrArg Int32.toInt h
    rw [sub_toInt (by omega) (by omega), e1, e2, show (0 : Int32).toInt = 0 from rfl] at this
    rw [show a = b by omega]
  · intro h
    rw [h]
    exact Int32.sub_self _
theorem suble {a b : Nat} (ha : a ≤ 60000) (hb : b ≤ 60000) : (nI a - nI b ≤ 0) ↔ nI a ≤ nI b := by
  have e1 : (nI a).toInt = a := nI_toInt (by omega)
  have e2 : (nI b).toInt = b := nI_toInt (by omega)
  rw [Int32.le_iff_toInt_le, sub_toInt (by omega) (by omega), e1, e2, nI_leI (by omega) (by omega), show (0 : Int32).toInt = 0 from rfl]
  omega
section PT
variable {N K Z C : Nat} {rooms mrows lrows rules counts refused tokens hops since notes lasts dAt dHops : Nat → Int32} {page : Nat → Int32}
theorem expire_in {l : Nat} (he : lrows (l * 6 + 0) + lrows (l * 6 + 5) = nI C) (hl : l < Z) : ∀ (f j : Nat) (counts tokens page : Nat → Int32), j ≤ N → N < j + f → IW N K Z C rooms mrows lrows rules counts refused tokens hops since notes lasts dAt dHops page → CI N K Z C rooms mrows lrows rules counts refused tokens hops since notes lasts dAt dHops →
    ∃ c' t' p', fX1_expire_36 (nI N) (nI l) f counts tokens (nI j) = some (c', t') ∧ fX6_minute_24 (nI l) f page (nI j) = some p' ∧ IW N K Z C rooms mrows lrows rules c' refused t' hops since notes lasts dAt dHops p' ∧ CI N K Z C rooms mrows lrows rules c' refused t' hops since notes lasts dAt dHops := by
  intro f
  induction f with
  | zero => intro j counts tokens page h1 h2; omega
  | succ f ih =>
    intro j counts tokens page h1 h2 h hc
    have hZ := h.hZ
    have hN := h.hN
    rw [fX1_expire_36, fX6_minute_24, h.p0]
    by_cases hj : j = N
    · subst hj
      rw [if_pos (nI_le (Nat.le_refl _) (by omega)), if_pos (nI_le (Nat.le_refl _) (by omega))]
      exact ⟨_, _, _, rfl, rfl, h, hc⟩
    · have hlt : j < N := by omega
      rw [if_neg (nI_ge hlt (by omega)), if_neg (nI_ge hlt (by omega)), m_endOf' h hl, bd_s, he, h.p3, if_pos rfl, m_hasCopy' h (by omega) (by omega), bd_s, c_hasCopy tokens (by omega) (by omega), bd_s, nI_1]
      by_cases ht : tokens (j * 16 + l) ≤ 0
      · rw [if_pos ht, if_pos rfl, if_pos rfl]
        exact ih (j + 1) counts tokens page (by omega) (by omega) h hc
      · rw [if_neg ht, if_neg (by decide), if_neg (by decide), c_removeCopy tokens (by omega) (by omega), bd_s, nm_s, m_goes page (by omega) (by omega), bd_s, nm_s]
        rw [upd_ne _ _ (show 12 ≠ 255 + 3 * (16 * j + l) by omega), show page 12 = counts 4 from h.pc (i := 4) (by omega)]
        exact ih (j + 1) _ _ _ (by omega) (by omega) (IW_count (i := 4) (by omega) (counts 4 + 1) (IW_goes (n := j) (l := l) (by omega) (by omega) h)) (CI_goes hc _)
theorem expire_no (h : IW N K Z C rooms mrows lrows rules counts refused tokens hops since notes lasts dAt dHops page) {l : Nat} (he : ¬ lrows (l * 6 + 0) + lrows (l * 6 + 5) = nI C) (hl : l < Z) : ∀ (f j : Nat), j ≤ N → N < j + f → fX6_minute_24 (nI l) f page (nI j) = some page := by
  have hZ := h.hZ
  have hN := h.hN
  intro f
  induction f with
  | zero => intro j h1 h2; omega
  | succ f ih =>
    intro j h1 h2
    rw [fX6_minute_24, h.p0]
    by_cases hj : j = N
    · subst hj
      rw [if_pos (nI_le (Nat.le_refl _) (by omega))]
    · rw [if_neg (nI_ge (show j < N by omega) (by omega)), m_endOf' h hl, bd_s, h.p3, if_neg he, nI_1]
      exact ih (j + 1) (by omega) (by omega)
theorem expire_out : ∀ (f j : Nat) (counts tokens page : Nat → Int32), j ≤ Z → Z < j + f → IW N K Z C rooms mrows lrows rules counts refused tokens hops since notes lasts dAt dHops page → CI N K Z C rooms mrows lrows rules counts refused tokens hops since notes lasts dAt dHops →
    ∃ c' t' p', fX1_expire_2 (nI C) (nI N) (nI Z) lrows f counts tokens (nI j) = some (c', t') ∧ fX6_minute_12 f page (nI j) = some p' ∧ IW N K Z C rooms mrows lrows rules c' refused t' hops since notes lasts dAt dHops p' ∧ CI N K Z C rooms mrows lrows rules c' refused t' hops since notes lasts dAt dHops := by
  intro f
  induction f with
  | zero => intro j counts tokens page h1 h2; omega
  | succ f ih =>
    intro j counts tokens page h1 h2 h hc
    have hZ := h.hZ
    have hN := h.hN
    rw [fX1_expire_2, fX6_minute_12, h.p2]
    by_cases hj : j = Z
    · subst hj
      rw [if_pos (nI_le (Nat.le_refl _) (by omega)), if_pos (nI_le (Nat.le_refl _) (by omega))]
      exact ⟨_, _, _, rfl, rfl, h, hc⟩
    · have hlt : j < Z := by omega
      rw [if_neg (nI_ge hlt (by omega)), if_neg (nI_ge hlt (by omega)), c_endOf lrows (by omega), bd_s, nI_1]
      by_cases he : lrows (j * 6 + 0) + lrows (j * 6 + 5) = nI C
      · obtain ⟨c', t', p', a1, a2, a3, a4⟩ := expire_in he hlt FU 0 counts tokens page (Nat.zero_le _) (by unfold FU; omega) h hc
        rw [show nI 0 = (0 : Int32) from rfl] at a1 a2
        rw [if_pos he, a1, bd_s, a2, bd_s]
        exact ih (j + 1) _ _ _ (by omega) (by omega) a3 a4
      · have a2 := expire_no h he hlt FU 0 (Nat.zero_le _) (by unfold FU; omega)
        rw [show nI 0 = (0 : Int32) from rfl] at a2
        rw [if_neg he, a2, bd_s]
        exact ih (j + 1) _ _ _ (by omega) (by omega) h hc
theorem bear_loop : ∀ (f j : Nat) (counts tokens hops since page : Nat → Int32), j ≤ Z → Z < j + f → IW N K Z C rooms mrows lrows rules counts refused tokens hops since notes lasts dAt dHops page → CI N K Z C rooms mrows lrows rules counts refused tokens hops since notes lasts dAt dHops →
    ∃ q p', fX1_passMinute_19 (nI C) (nI Z) rooms lrows rules f counts tokens hops since (nI j) = some q ∧ fX6_minute_88 f page (nI j) = some p' ∧ IW N K Z C rooms mrows lrows rules q.1 refused q.2.1 q.2.2.1 q.2.2.2 notes lasts dAt dHops p' ∧ CI N K Z C rooms mrows lrows rules q.1 refused q.2.1 q.2.2.1 q.2.2.2 notes lasts dAt dHops := by
  intro f
  induction f with
  | zero => intro j counts tokens hops since page h1 h2; omega
  | succ f ih =>
    intro j counts tokens hops since page h1 h2 h hc
    have hZ := h.hZ
    rw [fX1_passMinute_19, fX6_minute_88, h.p2]
    by_cases hj : j = Z
    · subst hj
      rw [if_pos (nI_le (Nat.le_refl _) (by omega)), if_pos (nI_le (Nat.le_refl _) (by omega))]
      exact ⟨_, _, rfl, rfl, h, hc⟩
    · have hlt : j < Z := by omega
      rw [if_neg (nI_ge hlt (by omega)), if_neg (nI_ge hlt (by omega)), c_ofLetter_0 lrows (by omega), bd_s, m_ofLetter'_0 h hlt, bd_s, h.p3, nI_1]
      by_cases he : lrows (j * 6 + 0) = nI C
      · obtain ⟨q, p', a1, a2, a3, a4⟩ := born_sim h hc hlt
        rw [if_pos he, if_pos he, a1, bd_s, a2, bd_s]
        exact ih (j + 1) _ _ _ _ _ (by omega) (by omega) a3 a4
      · rw [if_neg he, if_neg he]
        exact ih (j + 1) _ _ _ _ _ (by omega) (by omega) h hc
theorem on_sim (hC : C ≤ 30000) (h : IW N K Z C rooms mrows lrows rules counts refused tokens hops since notes lasts dAt dHops page) (hc : CI N K Z C rooms mrows lrows rules counts refused tokens hops since notes lasts dAt dHops) {m : Nat} (hm : m < K) : ∃ v, fX0_isAt mrows (nI m) (nI C) (rules 0) = some v ∧ fX6_isOn page (nI m) (nI C) = some v := by
  have hK := h.hK
  obtain ⟨⟨t, -, ht, et⟩, -⟩ := hc.mt hm
  unfold fX0_isAt fX6_isOn
  rw [c_ofMeeting_0 mrows (by omega), bd_s, m_ofMeeting'_0 h hm, bd_s, et, show page 4 = rules 0 from h.pr (i := 0) (by omega)]
  simp only [sub0 (show C ≤ 60000 by omega) (show t ≤ 60000 by omega), suble (show C ≤ 60000 by omega) (show t ≤ 60000 by omega)]
  obtain ⟨⟨r, hr, er⟩, -⟩ := hc.rl
  by_cases h1 : nI C = nI t
  · exact ⟨1, by rw [if_pos h1], by rw [if_pos h1]⟩
  · simp only [if_neg h1]
    by_cases h2 : rules 0 ≤ 0
    · exact ⟨0, by rw [if_pos h2], by rw [if_pos h2]⟩
    · simp only [if_neg h2]
      by_cases h3 : nI C ≤ nI t
      · exact ⟨0, by rw [if_pos h3], by rw [if_pos h3]⟩
      · simp only [if_neg h3]
        have hd : ¬ rules 0 = 0 := fun z => h2 (by rw [z]; decide)
        unfold dv
        simp only [if_neg hd]
        split
        · exact ⟨_, rfl, rfl⟩
        · exact ⟨_, rfl, rfl⟩
theorem meets_loop (hC : C ≤ 30000) : ∀ (f j : Nat) (left ref left2 ref2 : Int32) (counts refused tokens hops since notes lasts dAt dHops order page isLeft : Nat → Int32), j ≤ K → K < j + f → IW N K Z C rooms mrows lrows rules counts refused tokens hops since notes lasts dAt dHops page → CI N K Z C rooms mrows lrows rules counts refused tokens hops since notes lasts dAt dHops →
    ∃ q q', fX1_passMinute_62 (nI C) (nI K) (nI Z) rooms mrows lrows rules f left ref counts refused tokens hops since notes lasts dAt dHops order (nI j) = some q ∧ fX6_minute_126 f left2 ref2 page isLeft (nI j) = some q' ∧
      IW N K Z C rooms mrows lrows rules q.2.2.1 q.2.2.2.1 q.2.2.2.2.1 q.2.2.2.2.2.1 q.2.2.2.2.2.2.1 q.2.2.2.2.2.2.2.1 q.2.2.2.2.2.2.2.2.1 q.2.2.2.2.2.2.2.2.2.1 q.2.2.2.2.2.2.2.2.2.2.1 q'.2.2.1 ∧ CI N K Z C rooms mrows lrows rules q.2.2.1 q.2.2.2.1 q.2.2.2.2.1 q.2.2.2.2.2.1 q.2.2.2.2.2.2.1 q.2.2.2.2.2.2.2.1 q.2.2.2.2.2.2.2.2.1 q.2.2.2.2.2.2.2.2.2.1 q.2.2.2.2.2.2.2.2.2.2.1 := by
  intro f
  induction f with
  | zero => intro j left ref left2 ref2 counts refused tokens hops since notes lasts dAt dHops order page isLeft h1 h2; omega
  | succ f ih =>
    intro j left ref left2 ref2 counts refused tokens hops since notes lasts dAt dHops order page isLeft h1 h2 h hc
    have hK := h.hK
    rw [fX1_passMinute_62, fX6_minute_126, h.p1, h.p3]
    by_cases hj : j = K
    · subst hj
      rw [if_pos (nI_le (Nat.le_refl _) (by omega)), if_pos (nI_le (Nat.le_refl _) (by omega))]
      exact ⟨_, _, rfl, rfl, h, hc⟩
    · have hlt : j < K := by omega
      obtain ⟨v, v1, v2⟩ := on_sim hC h hc hlt
      rw [if_neg (nI_ge hlt (by omega)), if_neg (nI_ge hlt (by omega)), v1, bd_s, v2, bd_s, nI_1]
      by_cases hv : v = 0
      · rw [if_pos hv, if_pos hv]
        exact ih (j + 1) _ _ _ _ _ _ _ _ _ _ _ _ _ _ _ _ (by omega) (by omega) h hc
      · obtain ⟨-, a, b, ha, hb, hab, ea, eb⟩ := hc.mt hlt
        rw [if_neg hv, if_neg hv, c_ofMeeting_1 mrows (by omega), bd_s, c_ofMeeting_2 mrows (by omega), bd_s, c_ofMeeting_3 mrows (by omega), bd_s, m_ofMeeting'_1 h hlt, bd_s, m_ofMeeting'_2 h hlt, bd_s, m_ofMeeting'_3 h hlt, bd_s, ea, eb]
        obtain ⟨q, q', a1, a2, a3, a4⟩ := meet_sim hC h hc ha hb hab (mrows (j * 4 + 3)) left ref left2 ref2 order isLeft
        rw [a1, bd_s, a2, bd_s]
        exact ih (j + 1) _ _ _ _ _ _ _ _ _ _ _ _ _ _ _ _ (by omega) (by omega) a3 a4
theorem CI_clock (hc : CI N K Z C rooms mrows lrows rules counts refused tokens hops since notes lasts dAt dHops) {C2 : Nat} (h : C ≤ C2) : CI N K Z C2 rooms mrows lrows rules counts refused tokens hops since notes lasts dAt dHops := by
  obtain ⟨a1, a2, a3, a4, a5, a6, a7⟩ := hc
  refine ⟨a1, a2, a3, a4, a5, a6, fun a b ha hb => ⟨?_, (a7 a b ha hb).2⟩⟩
  rcases (a7 a b ha hb).1 with q | ⟨t, ht, q⟩
  · exact Or.inl q
  · exact Or.inr ⟨t, by omega, q⟩
/-- a minute goes by -/
theorem minute_sim (hC : C < 30000) (h : IW N K Z C rooms mrows lrows rules counts refused tokens hops since notes lasts dAt dHops page) (hc : CI N K Z C rooms mrows lrows rules counts refused tokens hops since notes lasts dAt dHops) (left ref left2 ref2 : Int32) (order isLeft : Nat → Int32) :
    ∃ q q', fX1_passMinute left ref (nI C) (nI N) (nI K) (nI Z) rooms mrows lrows rules counts refused tokens hops since notes lasts dAt dHops order = some q ∧ fX6_minute left2 ref2 page isLeft = some q' ∧ q.2.2.1 = nI (C + 1) ∧
      IW N K Z (C + 1) rooms mrows lrows rules q.2.2.2.1 q.2.2.2.2.1 q.2.2.2.2.2.1 q.2.2.2.2.2.2.1 q.2.2.2.2.2.2.2.1 q.2.2.2.2.2.2.2.2.1 q.2.2.2.2.2.2.2.2.2.1 q.2.2.2.2.2.2.2.2.2.2.1 q.2.2.2.2.2.2.2.2.2.2.2.1 q'.2.2.1 ∧ CI N K Z (C + 1) rooms mrows lrows rules q.2.2.2.1 q.2.2.2.2.1 q.2.2.2.2.2.1 q.2.2.2.2.2.2.1 q.2.2.2.2.2.2.2.1 q.2.2.2.2.2.2.2.2.1 q.2.2.2.2.2.2.2.2.2.1 q.2.2.2.2.2.2.2.2.2.2.1 q.2.2.2.2.2.2.2.2.2.2.2.1 := by
  have hZ := h.hZ
  have hK := h.hK
  have h0 := IW_clock (C + 1) h
  have c0 := CI_clock hc (show C ≤ C + 1 by omega)
  obtain ⟨k1, t1, p1, a1, b1, h1, c1⟩ := expire_out FU 0 counts tokens _ (Nat.zero_le _) (by unfold FU; omega) h0 c0
  obtain ⟨q2, p2, a2, b2, h2, c2⟩ := bear_loop FU 0 k1 t1 hops since p1 (Nat.zero_le _) (by unfold FU; omega) h1 c1
  obtain ⟨q3, q3', a3, b3, h3, c3⟩ := meets_loop (by omega) FU 0 left ref left2 ref2 _ _ _ _ _ _ _ _ _ order _ isLeft (Nat.zero_le _) (by unfold FU; omega) h2 c2
  rw [show nI 0 = (0 : Int32) from rfl] at a1 b1 a2 b2 a3 b3
  unfold fX1_passMinute fX6_minute fX1_expire
  simp only [nI_1, a1, bd_s, a2, a3, nm_s, h.p3, b1, b2, b3]
  exact ⟨_, _, rfl, rfl, rfl, h3, c3⟩
/-- so many minutes -/
theorem tick_loop {T : Nat} (hT : T ≤ 50) (y y2 : Int32) : ∀ (d j C fc fm : Nat) (left ref left2 ref2 : Int32) (counts refused tokens hops since notes lasts dAt dHops order page isLeft : Nat → Int32), j + d = T → d < fc → d < fm → C + d ≤ 30000 → IW N K Z C rooms mrows lrows rules counts refused tokens hops since notes lasts dAt dHops page → CI N K Z C rooms mrows lrows rules counts refused tokens hops since notes lasts dAt dHops →
    ∃ q q', fX5_tick_25 (nI N) (nI K) (nI Z) rooms mrows lrows rules (nI T) y fc (nI C) counts refused tokens hops since notes lasts dAt dHops left ref order (nI j) = some q ∧ fX6_tick_24 (nI T) y2 fm left2 ref2 page isLeft (nI j) = some q' ∧ q.1 = nI (C + d) ∧
      IW N K Z (C + d) rooms mrows lrows rules q.2.1 q.2.2.1 q.2.2.2.1 q.2.2.2.2.1 q.2.2.2.2.2.1 q.2.2.2.2.2.2.1 q.2.2.2.2.2.2.2.1 q.2.2.2.2.2.2.2.2.1 q.2.2.2.2.2.2.2.2.2.1 q'.2.2.1 ∧ CI N K Z (C + d) rooms mrows lrows rules q.2.1 q.2.2.1 q.2.2.2.1 q.2.2.2.2.1 q.2.2.2.2.2.1 q.2.2.2.2.2.2.1 q.2.2.2.2.2.2.2.1 q.2.2.2.2.2.2.2.2.1 q.2.2.2.2.2.2.2.2.2.1 := by
  intro d
  induction d with
  | zero =>
    intro j C fc fm left ref left2 ref2 counts refused tokens hops since notes lasts dAt dHops order page isLeft hd h1 h2 hC h hc
    obtain ⟨fc, rfl⟩ : ∃ z, fc = z + 1 := ⟨fc - 1, by omega⟩
    obtain ⟨fm, rfl⟩ : ∃ z, fm = z + 1 := ⟨fm - 1, by omega⟩
    rw [fX5_tick_25, fX6_tick_24, if_pos (nI_le (show T ≤ j by omega) (by omega)), if_pos (nI_le (show T ≤ j by omega) (by omega))]
    exact ⟨_, _, rfl, rfl, rfl, h, hc⟩
  | succ d ih =>
    intro j C fc fm left ref left2 ref2 counts refused tokens hops since notes lasts dAt dHops order page isLeft hd h1 h2 hC h hc
    obtain ⟨fc, rfl⟩ : ∃ z, fc = z + 1 := ⟨fc - 1, by omega⟩
    obtain ⟨fm, rfl⟩ : ∃ z, fm = z + 1 := ⟨fm - 1, by omega⟩
    obtain ⟨q, q', a1, a2, a3, a4, a5⟩ := minute_sim (by omega) h hc left ref left2 ref2 order isLeft
    obtain ⟨r, r', b1, b2, b3, b4, b5⟩ := ih (j + 1) (C + 1) fc fm q.1 q.2.1 q'.1 q'.2.1 _ _ _ _ _ _ _ _ _ q.2.2.2.2.2.2.2.2.2.2.2.2 _ q'.2.2.2 (by omega) (by omega) (by omega) (by omega) a4 a5
    rw [fX5_tick_25, fX6_tick_24, if_neg (nI_ge (show j < T by omega) (by omega)), if_neg (nI_ge (show j < T by omega) (by omega)), a1, bd_s, a2, bd_s, nI_1, a3]
    rw [show C + 1 + d = C + (d + 1) by omega] at b3 b4 b5
    exact ⟨r, r', b1, b2, b3, b4, b5⟩
end PT
