section PM
variable {N K Z C : Nat} {rooms mrows lrows rules counts refused tokens hops since notes lasts dAt dHops : Nat → Int32} {page : Nat → Int32}
theorem bit01 (x : Int32) {w : Nat} (hw : w < 31) : (x >>> (nI w &&& 31)) &&& 1 = 0 ∨ (x >>> (nI w &&& 31)) &&& 1 = 1 := by
  rw [bitv x hw]
  split
  · exact Or.inr rfl
  · exact Or.inl rfl
theorem CI_goes (hc : CI N K Z C rooms mrows lrows rules counts refused tokens hops since notes lasts dAt dHops) {n l : Nat} (c2 : Nat → Int32) : CI N K Z C rooms mrows lrows rules c2 refused (upd tokens (n * 16 + l) 0) hops since notes lasts dAt dHops := CI_tok hc (fun m w hm hw => by
  by_cases q : m * 16 + w = n * 16 + l
  · exact ⟨0, by omega, by rw [q, upd_eq]; rfl⟩
  · rw [upd_ne _ _ q]; exact hc.tk hm hw) _ _ _ _
theorem cure_loop {n : Nat} (hn : n < 8) : ∀ (f j : Nat) (counts tokens page : Nat → Int32), j ≤ Z → Z < j + f → IW N K Z C rooms mrows lrows rules counts refused tokens hops since notes lasts dAt dHops page → CI N K Z C rooms mrows lrows rules counts refused tokens hops since notes lasts dAt dHops →
    ∃ c' t' p', fX1_cure_2 (nI Z) notes (nI n) f counts tokens (nI j) = some (c', t') ∧ fX6_cures_2 (nI n) f page (nI j) = some p' ∧ IW N K Z C rooms mrows lrows rules c' refused t' hops since notes lasts dAt dHops p' ∧ CI N K Z C rooms mrows lrows rules c' refused t' hops since notes lasts dAt dHops := by
  intro f
  induction f with
  | zero => intro j counts tokens page h1 h2; omega
  | succ f ih =>
    intro j counts tokens page h1 h2 h hc
    have hZ := h.hZ
    rw [fX1_cure_2, fX6_cures_2, h.p2]
    by_cases hj : j = Z
    · subst hj
      rw [if_pos (nI_le (Nat.le_refl _) (by omega)), if_pos (nI_le (Nat.le_refl _) (by omega))]
      exact ⟨_, _, _, rfl, rfl, h, hc⟩
    · have hlt : j < Z := by omega
      rw [if_neg (nI_ge hlt (by omega)), if_neg (nI_ge hlt (by omega)), gd_in hn (by omega), nI_clamp (by omega), m_hasCopy' h hn (by omega), bd_s, c_hasCopy tokens hn (by omega), bd_s, m_hasNote page hn (by omega), bd_s, h.pn hn (by omega), nI_1]
      rcases bit01 (notes n) (show j < 31 by omega) with q | q
      · rw [q, if_pos rfl, if_neg (show ¬ (0 : Int32) = 1 by decide), if_pos rfl, ite_self]
        exact ih (j + 1) counts tokens page (by omega) (by omega) h hc
      · rw [q, if_neg (show ¬ (1 : Int32) = 0 by decide), if_pos rfl, if_neg (show ¬ (1 : Int32) = 0 by decide)]
        by_cases ht : tokens (n * 16 + j) ≤ 0
        · rw [if_pos ht, if_pos rfl, if_pos rfl]
          exact ih (j + 1) counts tokens page (by omega) (by omega) h hc
        · rw [if_neg ht, if_neg (by decide), if_neg (by decide), c_removeCopy tokens hn (by omega), bd_s, nm_s, m_goes page hn (by omega), bd_s, nm_s]
          rw [upd_ne _ _ (show 11 ≠ 255 + 3 * (16 * n + j) by omega), show page 11 = counts 3 from h.pc (i := 3) (by omega)]
          exact ih (j + 1) _ _ _ (by omega) (by omega) (IW_count (i := 3) (by omega) (counts 3 + 1) (IW_goes (n := n) (l := j) (by omega) (by omega) h)) (CI_goes hc _)
theorem cure_sim {n : Nat} (hn : n < 8) (h : IW N K Z C rooms mrows lrows rules counts refused tokens hops since notes lasts dAt dHops page) (hc : CI N K Z C rooms mrows lrows rules counts refused tokens hops since notes lasts dAt dHops) :
    ∃ c' t' p', fX1_cure (nI Z) counts tokens notes (nI n) = some (c', t') ∧ fX6_cures page (nI n) = some p' ∧ IW N K Z C rooms mrows lrows rules c' refused t' hops since notes lasts dAt dHops p' ∧ CI N K Z C rooms mrows lrows rules c' refused t' hops since notes lasts dAt dHops := by
  have hZ := h.hZ
  obtain ⟨c', t', p', a1, a2, a3, a4⟩ := cure_loop hn FU 0 counts tokens page (Nat.zero_le _) (by unfold FU; omega) h hc
  unfold fX1_cure fX6_cures
  rw [show (0 : Int32) = nI 0 from rfl, a1, bd_s, a2, bd_s]
  exact ⟨_, _, _, rfl, rfl, a3, a4⟩
/-- notes are changed, nothing else -/
theorem IW_pn {notes2 page2 : Nat → Int32} (h : IW N K Z C rooms mrows lrows rules counts refused tokens hops since notes lasts dAt dHops page) (hf : ∀ x, x < 639 ∨ 767 ≤ x → page2 x = page x) (hn : ∀ n l, n < 8 → l < 16 → page2 (639 + 16 * n + l) = (notes2 n >>> (nI l &&& 31)) &&& 1) : IW N K Z C rooms mrows lrows rules counts refused tokens hops since notes2 lasts dAt dHops page2 := by
  have g1 := h.hN
  have g2 := h.hK
  have g3 := h.hZ
  exact ⟨⟨g1, g2, g3⟩, ⟨by rw [hf _ (by omega)]; exact h.p0, by rw [hf _ (by omega)]; exact h.p1, by rw [hf _ (by omega)]; exact h.p2, by rw [hf _ (by omega)]; exact h.p3⟩,
    fun i hi => by rw [hf _ (by omega)]; exact h.pr hi, fun i hi => by rw [hf _ (by omega)]; exact h.pc hi,
    h.pf.imp (fun z => ⟨z.1, by rw [hf _ (by omega)]; exact z.2⟩) (fun z => ⟨z.1, by rw [hf _ (by omega)]; exact z.2.1, fun i hi => by rw [hf _ (by omega)]; exact z.2.2 i hi⟩),
    fun i hi => by rw [hf _ (by omega)]; exact h.po hi, fun m w hm hw => by rw [hf _ (by omega)]; exact h.pm hm hw, fun l w hl hw => by rw [hf _ (by omega)]; exact h.pl hl hw,
    fun l hl => ⟨by rw [hf _ (by omega)]; exact (h.pd hl).1, by rw [hf _ (by omega)]; exact (h.pd hl).2⟩, fun n l hn hl => by rw [hf _ (by omega)]; exact h.pt hn hl,
    fun n l hn hl ht => ⟨by rw [hf _ (by omega)]; exact (h.ph hn hl ht).1, by rw [hf _ (by omega)]; exact (h.ph hn hl ht).2⟩, hn, fun a b ha hb => by rw [hf _ (by omega)]; exact h.ps ha hb⟩
theorem notes_loop {a b : Nat} (ha : a < 8) (hb : b < 8) (hab : a ≠ b) (x : Int32) (hZ : Z ≤ 16) : ∀ (f j : Nat) (page : Nat → Int32), j ≤ Z → Z < j + f → page 2 = nI Z →
    ∃ p', fX6_meets_14 (nI a) (nI b) x f page (nI j) = some p' ∧ (∀ y, (∀ l, j ≤ l → l < Z → y ≠ 639 + 16 * a + l ∧ y ≠ 639 + 16 * b + l) → p' y = page y) ∧ (∀ l, j ≤ l → l < Z → p' (639 + 16 * a + l) = (if page (639 + 16 * a + l) = 1 ∨ page (639 + 16 * b + l) = 1 then 1 else page (639 + 16 * a + l)) ∧ p' (639 + 16 * b + l) = (if page (639 + 16 * a + l) = 1 ∨ page (639 + 16 * b + l) = 1 then 1 else page (639 + 16 * b + l))) := by
  intro f
  induction f with
  | zero => intro j page h1 h2; omega
  | succ f ih =>
    intro j page h1 h2 hp
    rw [fX6_meets_14, hp]
    by_cases hj : j = Z
    · subst hj
      rw [if_pos (nI_le (Nat.le_refl _) (by omega))]
      exact ⟨page, rfl, fun _ _ => rfl, fun l h3 h4 => by omega⟩
    · have hlt : j < Z := by omega
      rw [if_neg (nI_ge hlt (by omega)), m_hasNote page ha (by omega), bd_s, m_hasNote page hb (by omega), bd_s, m_notes page ha (by omega), bd_s, m_notes _ hb (by omega), bd_s, nI_1]
      by_cases hor : page (639 + 16 * a + j) = 1 ∨ page (639 + 16 * b + j) = 1
      · obtain ⟨p', q1, q2, q3⟩ := ih (j + 1) (upd (upd page (639 + 16 * a + j) 1) (639 + 16 * b + j) 1) (by omega) (by omega) (by rw [upd_ne _ _ (by omega), upd_ne _ _ (by omega)]; exact hp)
        refine ⟨p', ?_, fun y hy => ?_, fun l h3 h4 => ?_⟩
        · by_cases z1 : page (639 + 16 * a + j) = 1
          · rw [if_pos z1, if_neg (by decide)]; exact q1
          · rw [if_neg z1, if_pos rfl, if_pos (hor.resolve_left z1), if_neg (by decide)]; exact q1
        · rw [q2 y (fun l h5 h6 => hy l (by omega) h6), upd_ne _ _ (hy j (Nat.le_refl _) hlt).2, upd_ne _ _ (hy j (Nat.le_refl _) hlt).1]
        · by_cases e : l = j
          · subst e
            rw [q2 _ (fun l h5 h6 => by omega), q2 _ (fun l h5 h6 => by omega), if_pos hor, if_pos hor, upd_eq, upd_ne _ _ (by omega), upd_eq]
            exact ⟨rfl, rfl⟩
          · have := q3 l (by omega) h4
            rw [upd_ne _ _ (by omega), upd_ne _ _ (by omega), upd_ne _ _ (by omega), upd_ne _ _ (by omega)] at this
            exact this
      · obtain ⟨p', q1, q2, q3⟩ := ih (j + 1) page (by omega) (by omega) hp
        refine ⟨p', ?_, fun y hy => q2 y (fun l h5 h6 => hy l (by omega) h6), fun l h3 h4 => ?_⟩
        · rw [if_neg (fun z => hor (Or.inl z)), if_pos rfl, if_neg (fun z => hor (Or.inr z)), if_pos rfl]
          exact q1
        · by_cases e : l = j
          · subst e
            rw [q2 _ (fun l h5 h6 => by omega), q2 _ (fun l h5 h6 => by omega), if_neg hor, if_neg hor]
            exact ⟨rfl, rfl⟩
          · exact q3 l (by omega) h4
theorem bit_of_or (x y : Int32) {w : Nat} (hw : w < 31) : ((x ||| y) >>> (nI w &&& 31)) &&& 1 = if (x >>> (nI w &&& 31)) &&& 1 = 1 ∨ (y >>> (nI w &&& 31)) &&& 1 = 1 then 1 else 0 := by
  rw [bitv _ hw, bitv _ hw, bitv _ hw, b_or]
  cases bt x w <;> cases bt y w <;> decide
theorem notes_sim {a b : Nat} (ha : a < 8) (hb : b < 8) (hab : a ≠ b) (x : Int32) (h : IW N K Z C rooms mrows lrows rules counts refused tokens hops since notes lasts dAt dHops page) (hc : CI N K Z C rooms mrows lrows rules counts refused tokens hops since notes lasts dAt dHops) :
    ∃ p', fX6_meets_14 (nI a) (nI b) x FU page 0 = some p' ∧ IW N K Z C rooms mrows lrows rules counts refused tokens hops since (upd (upd notes a (notes a ||| notes b)) b (notes a ||| notes b)) lasts dAt dHops p' ∧ CI N K Z C rooms mrows lrows rules counts refused tokens hops since (upd (upd notes a (notes a ||| notes b)) b (notes a ||| notes b)) lasts dAt dHops := by
  have hZ := h.hZ
  obtain ⟨p', q1, q2, q3⟩ := notes_loop ha hb hab x hZ FU 0 page (Nat.zero_le _) (by unfold FU; omega) h.p2
  obtain ⟨va, la, ea⟩ := hc.nt ha
  obtain ⟨vb, lb, eb⟩ := hc.nt hb
  refine ⟨p', q1, IW_pn h (fun y hy => q2 y (fun l _ h6 => by omega)) (fun n l hn hl => ?_), ?_⟩
  · by_cases e : n = a ∨ n = b
    · have en : upd (upd notes a (notes a ||| notes b)) b (notes a ||| notes b) n = notes a ||| notes b := by
        by_cases z : n = b
        · rw [z, upd_eq]
        · rw [upd_ne _ _ z, e.resolve_right z, upd_eq]
      rw [en, bit_of_or _ _ (by omega)]
      by_cases hlz : l < Z
      · have := q3 l (Nat.zero_le _) hlz
        rw [h.pn ha hl, h.pn hb hl] at this
        rcases bit01 (notes a) (show l < 31 by omega) with z1 | z1 <;> rcases bit01 (notes b) (show l < 31 by omega) with z2 | z2 <;> rw [z1, z2] at this ⊢ <;> rcases e with rfl | rfl <;> simp at this ⊢ <;> first | exact this.1 | exact this.2
      · have zero : ∀ v, v < 2 ^ Z → (nI v >>> (nI l &&& 31)) &&& 1 = 0 := by
          intro v hv
          rw [bitv _ (by omega), b_nI (by omega), Nat.testBit_lt_two_pow (Nat.lt_of_lt_of_le hv (Nat.pow_le_pow_right (by omega) (by omega)))]
          rfl
        rw [q2 _ (fun w _ h6 => by rcases e with rfl | rfl <;> omega), h.pn hn hl, ea, eb, zero va la, zero vb lb]
        rcases e with rfl | rfl
        · rw [ea, zero va la]; decide
        · rw [eb, zero vb lb]; decide
    · rw [q2 _ (fun w _ h6 => by omega), h.pn hn hl, upd_ne _ _ (fun z => e (Or.inr z)), upd_ne _ _ (fun z => e (Or.inl z))]
  · obtain ⟨a1, a2, a3, a4, a5, a6, a7⟩ := hc
    refine ⟨a1, a2, a3, a4, a5, fun n hn => ?_, a7⟩
    have eo : ∃ v, v < 2 ^ Z ∧ notes a ||| notes b = nI v := ⟨va ||| vb, Nat.or_lt_two_pow la lb, by rw [ea, eb, nx_or]⟩
    by_cases z : n = b
    · rw [z, upd_eq]; exact eo
    · by_cases z2 : n = a
      · rw [upd_ne _ _ z, z2, upd_eq]; exact eo
      · rw [upd_ne _ _ z, upd_ne _ _ z2]; exact a6 n hn
theorem CI_met (hc : CI N K Z C rooms mrows lrows rules counts refused tokens hops since notes lasts dAt dHops) {a b : Nat} (ha : a < N) (hb : b < N) (hN : N ≤ 8) (hab : a ≠ b) : CI N K Z C rooms mrows lrows rules counts refused tokens hops since notes (upd (upd lasts (a * 8 + b) (nI C)) (b * 8 + a) (nI C)) dAt dHops := by
  obtain ⟨a1, a2, a3, a4, a5, a6, a7⟩ := hc
  refine ⟨a1, a2, a3, a4, a5, a6, fun i w hi hw => ?_⟩
  by_cases e : i * 8 + w = b * 8 + a
  · rw [e, upd_eq]
    exact ⟨Or.inr ⟨C, Nat.le_refl _, rfl⟩, fun z => by omega⟩
  · rw [upd_ne _ _ e]
    by_cases e2 : i * 8 + w = a * 8 + b
    · rw [e2, upd_eq]
      exact ⟨Or.inr ⟨C, Nat.le_refl _, rfl⟩, fun z => by omega⟩
    · rw [upd_ne _ _ e2]; exact a7 i w hi hw
/-- a meeting -/
theorem meet_sim (hC : C ≤ 30000) (h : IW N K Z C rooms mrows lrows rules counts refused tokens hops since notes lasts dAt dHops page) (hc : CI N K Z C rooms mrows lrows rules counts refused tokens hops since notes lasts dAt dHops) {a b : Nat} (ha : a < N) (hb : b < N) (hab : a ≠ b) (x left ref left2 ref2 : Int32) (order isLeft : Nat → Int32) :
    ∃ q q', fX1_holdMeeting left ref (nI C) (nI Z) rooms lrows rules counts refused tokens hops since notes lasts dAt dHops order (nI a) (nI b) x = some q ∧ fX6_meets left2 ref2 page isLeft (nI a) (nI b) x = some q' ∧
      IW N K Z C rooms mrows lrows rules q.2.2.1 q.2.2.2.1 q.2.2.2.2.1 q.2.2.2.2.2.1 q.2.2.2.2.2.2.1 q.2.2.2.2.2.2.2.1 q.2.2.2.2.2.2.2.2.1 q.2.2.2.2.2.2.2.2.2.1 q.2.2.2.2.2.2.2.2.2.2.1 q'.2.2.1 ∧ CI N K Z C rooms mrows lrows rules q.2.2.1 q.2.2.2.1 q.2.2.2.2.1 q.2.2.2.2.2.1 q.2.2.2.2.2.2.1 q.2.2.2.2.2.2.2.1 q.2.2.2.2.2.2.2.2.1 q.2.2.2.2.2.2.2.2.2.1 q.2.2.2.2.2.2.2.2.2.2.1 := by
  have hN := h.hN
  have hZ := h.hZ
  have e1 : ((767 : Int32) + (8 : Int32) * nI a) + nI b = nI (767 + 8 * a + b) := ix4 767 8 a b
  have e2 : ((767 : Int32) + (8 : Int32) * nI b) + nI a = nI (767 + 8 * b + a) := ix4 767 8 b a
  have h0 := IW_count (i := 6) (by omega) (counts 6 + 1) h
  have c0 : CI N K Z C rooms mrows lrows rules (upd counts 6 (counts 6 + 1)) refused tokens hops since notes lasts dAt dHops := CI_tok hc (fun m w hm hw => hc.tk hm hw) _ _ _ _
  obtain ⟨p1, n1, h1, c1⟩ := notes_sim (a := a) (b := b) (by omega) (by omega) hab x h0 c0
  obtain ⟨k2, t2, p2, n2, m2, h2, c2⟩ := cure_sim (n := a) (by omega) h1 c1
  obtain ⟨k3, t3, p3, n3, m3, h3, c3⟩ := cure_sim (n := b) (by omega) h2 c2
  obtain ⟨q4, r4, n4, m4, l4, f4, h4, c4⟩ := all_sim hC h3 c3 ha hb hab x 0 order isLeft
  obtain ⟨q5, r5, n5, m5, l5, f5, h5, c5⟩ := all_sim hC h4 c4 hb ha (Ne.symm hab) q4.1 q4.2.1 q4.2.2.2.2.2.2.2.2.2.2 r4.2.2.2
  unfold fX1_holdMeeting fX6_meets
  simp only [nm_s, gd_in (show a < 8 by omega) (show 8 < 2 ^ 31 by omega), gd_in (show b < 8 by omega) (show 8 < 2 ^ 31 by omega), nI_clamp (show a < 2 ^ 31 by omega), nI_clamp (show b < 2 ^ 31 by omega), n2, n3, n4, n5, bd_s, c_noteMet (nI C) lasts (show a < 8 by omega) (show b < 8 by omega), show page 14 = counts 6 from h.pc (i := 6) (by omega)]
  rw [show fX6_meets_14 (nI a) (nI b) x FU (upd page 14 (counts 6 + 1)) 0 = some p1 from n1]
  simp only [bd_s, m2, m3, m4, ← l4, ← f4, m5, gd_at e1 (show 767 + 8 * a + b < 831 by omega) (show 831 < 2 ^ 31 by omega), gd_at e2 (show 767 + 8 * b + a < 831 by omega) (show 831 < 2 ^ 31 by omega), cl_at e1 (show 767 + 8 * a + b < 2 ^ 31 by omega), cl_at e2 (show 767 + 8 * b + a < 2 ^ 31 by omega), nm_s, h5.p3]
  rw [upd_ne _ _ (show 3 ≠ 767 + 8 * a + b by omega), h5.p3]
  exact ⟨_, _, rfl, rfl, IW_met (by omega) (by omega) h5, CI_met c5 ha hb hN hab⟩
end PM
