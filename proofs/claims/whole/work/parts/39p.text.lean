section TX
variable {L : Nat} {B : Nat → Nat} {bytes tape : Nat → Int32} {ends words base : Nat → Int32}
theorem line_sim (h : TPE L B bytes tape) (hm : MC ends words) {e k s N K Z G : Nat} {rooms mrows lrows draft : Nat → Int32} (hse : s ≤ e) (he : e ≤ L) (hk : k ≤ 3) (hd : DR N K Z G rooms mrows lrows draft base) (fp br val : Int32) (numbers : Nat → Int32) : LINE L bytes tape ends words base e k s N K Z G rooms mrows lrows draft numbers fp br val := by
  rcases word_sim h hm hse he hk with ⟨r, hr, lb, wn⟩ | ⟨lb, wn⟩
  · rcases (show r = 0 ∨ r = 1 ∨ r = 2 by omega) with rfl | rfl | rfl
    · exact line_0 h he lb wn hd fp br val numbers
    · exact line_1 h he lb wn hd fp br val numbers
    · exact line_2 h he lb wn hd fp br val numbers
  · exact line_no lb wn fp br val numbers
theorem told_loop (h : TPE L B bytes tape) (hm : MC ends words) : ∀ (f g p i N K Z G : Nat) (fp kn st y ff br sp hr tk vl : Int32) (rooms mrows lrows draft numbers : Nat → Int32), p ≤ L → L < p + f → L + 1 < p + g → i ≤ p → DR N K Z G rooms mrows lrows draft base → LA L tape p ff br sp hr tk vl →
    (∃ N' K' Z' G' rooms' mrows' lrows' draft' numbers' fp' nx kn' st' br' sp' vl' y', fX2_readAll_26 (nI L) bytes f 0 fp (nI p) kn st (nI N) (nI K) (nI Z) rooms mrows lrows numbers y (nI i) = some (0, fp', nx, kn', st', nI N', nI K', nI Z', rooms', mrows', lrows', numbers', y') ∧ fX6_text_66 (nI L) tape ends words g ff br sp hr tk vl (nI G) draft y = some (0, br', sp', nI L, 0, vl', nI G', draft', y') ∧ DR N' K' Z' G' rooms' mrows' lrows' draft' base) ∨
    (∃ c s t q, 1 ≤ c ∧ c ≤ 5 ∧ fX2_readAll_26 (nI L) bytes f 0 fp (nI p) kn st (nI N) (nI K) (nI Z) rooms mrows lrows numbers y (nI i) = some t ∧ t.1 = nI c ∧ t.2.1 = nI s ∧ fX6_text_66 (nI L) tape ends words g ff br sp hr tk vl (nI G) draft y = some q ∧ q.1 = nI c ∧ q.2.1 = nI s) := by
  have hL := h.1
  intro f
  induction f with
  | zero => intro g p i N K Z G fp kn st y ff br sp hr tk vl rooms mrows lrows draft numbers h1 h2; omega
  | succ f ih =>
    intro g p i N K Z G fp kn st y ff br sp hr tk vl rooms mrows lrows draft numbers h1 h2 h3 h4 hd hla
    obtain ⟨g, rfl⟩ : ∃ z, g = z + 1 := ⟨g - 1, by omega⟩
    obtain ⟨b0, h0, t0, v0, hla⟩ := hla
    rw [fX2_readAll_26, if_neg (show ¬ (300 : Int32) < nI i from nI_nlt (a := 300) (b := i) (by omega) (by omega))]
    rcases lex_sim h h1 with ⟨s, e, k, val, g1, g2, g3, g4, g5, g6, g7, g8, g9⟩ | ⟨s, g1, g2⟩
    · rw [g6] at hla
      simp only [Option.some.injEq, Prod.mk.injEq] at hla
      obtain ⟨rfl, rfl, rfl, rfl, rfl, rfl⟩ := hla
      by_cases k0 : k = 0
      · subst k0
        refine Or.inl ⟨N, K, Z, G, rooms, mrows, lrows, draft, numbers, fp, nI e, nI 0, nI s, b0, nI e, val, y, ?_, ?_, hd⟩
        · rw [g5, bd_s, if_pos p00, if_pos (show nI 0 = 0 from rfl)]
        · rw [fX6_text_66, if_pos p00, if_pos (show nI 0 = 0 from rfl), g7 rfl]
          rfl
      · have se := g8 k0
        have nk : ¬ nI k = 0 := nI_ne0 (by omega) (by omega)
        rcases line_sim h hm g2 g3 g4 hd fp b0 val numbers with ⟨e', s', N', K', Z', G', rooms', mrows', lrows', draft', numbers', f', br', sp', hr', tk', vl', a1, a2, a3, a4, a5, a6⟩ | ⟨c, s', t, q, ca, cz, t1, t2, t3, q1, q2, q3⟩
        · have ih' := ih g e' (i + 1) N' K' Z' G' fp (nI 3) (nI s') (y + 1) f' br' sp' hr' tk' vl' rooms' mrows' lrows' draft' numbers' a2 (by omega) (by omega) (by omega) a6 a5
          rw [g5, bd_s, if_pos p00, if_neg nk, a3, bd_s, if_pos p00, nI_1, fX6_text_66, if_pos p00, if_neg nk, a4, bd_s]
          exact ih'
        · obtain ⟨c1, c2, c3⟩ := ne_le ca (show c ≤ 9 by omega)
          obtain ⟨g, rfl⟩ : ∃ z, g = z + 1 := ⟨g - 1, by omega⟩
          have ce : ∃ T, (bd (fX2_readToken 0 fp (nI p) kn st (nI L) bytes) (fun q34 => if q34.1 = 0 then if q34.2.2.2.1 = 0 then some (q34.1, q34.2.1, q34.2.2.1, q34.2.2.2.1, q34.2.2.2.2, nI N, nI K, nI Z, rooms, mrows, lrows, numbers, y) else bd (fX2_readLine q34.1 q34.2.1 q34.2.2.1 q34.2.2.2.1 q34.2.2.2.2 (nI N) (nI K) (nI Z) rooms mrows lrows (nI L) bytes numbers) (fun q55 => if q55.1 = 0 then fX2_readAll_26 (nI L) bytes f q55.1 q55.2.1 q55.2.2.1 q55.2.2.2.1 q55.2.2.2.2.1 q55.2.2.2.2.2.1 q55.2.2.2.2.2.2.1 q55.2.2.2.2.2.2.2.1 q55.2.2.2.2.2.2.2.2.1 q55.2.2.2.2.2.2.2.2.2.1 q55.2.2.2.2.2.2.2.2.2.2.1 q55.2.2.2.2.2.2.2.2.2.2.2 (y + (1 : Int32)) (nI i + (1 : Int32)) else some (q55.1, q55.2.1, q55.2.2.1, q55.2.2.2.1, q55.2.2.2.2.1, q55.2.2.2.2.2.1, q55.2.2.2.2.2.2.1, q55.2.2.2.2.2.2.2.1, q55.2.2.2.2.2.2.2.2.1, q55.2.2.2.2.2.2.2.2.2.1, q55.2.2.2.2.2.2.2.2.2.2.1, q55.2.2.2.2.2.2.2.2.2.2.2, y)) else some (q34.1, q34.2.1, q34.2.2.1, q34.2.2.2.1, q34.2.2.2.2, nI N, nI K, nI Z, rooms, mrows, lrows, numbers, y))) = some T ∧ T.1 = nI c ∧ T.2.1 = nI s' := by
            rw [g5, bd_s, if_pos p00, if_neg nk, t1, bd_s, t2, if_neg c1, t3]
            exact ⟨_, rfl, rfl, rfl⟩
          have me : ∃ Q, fX6_text_66 (nI L) tape ends words (g + 1 + 1) 0 b0 (nI e) (nI s) (nI k) val (nI G) draft y = some Q ∧ Q.1 = nI c ∧ Q.2.1 = nI s' := by
            rw [fX6_text_66, if_pos p00, if_neg nk, q1, bd_s, fX6_text_66, q2, if_neg c1, q3]
            exact ⟨_, rfl, rfl, rfl⟩
          obtain ⟨T, T1, T2, T3⟩ := ce
          obtain ⟨Q, Q1, Q2, Q3⟩ := me
          exact Or.inr ⟨c, s', T, Q, ca, cz, T1, T2, T3, Q1, Q2, Q3⟩
    · obtain ⟨a, b, c, d, gg⟩ := g2 b0 h0 t0 v0
      rw [gg] at hla
      simp only [Option.some.injEq, Prod.mk.injEq] at hla
      obtain ⟨rfl, rfl, rfl, rfl, rfl, rfl⟩ := hla
      obtain ⟨x, y', g1⟩ := g1 fp kn st
      rw [g1, bd_s, if_neg n10, fX6_text_66, if_neg n10]
      exact Or.inr ⟨1, s, _, _, by omega, by omega, rfl, rfl, rfl, rfl, rfl, rfl⟩
end TX
theorem m_draft (page : Nat → Int32) : ∀ (f j : Nat) (draft : Nat → Int32), j ≤ 831 → 831 < j + f → ∃ d', fX6_text_17 page f draft (nI j) = some d' ∧ ∀ x, x < 831 → d' x = if x < j then draft x else if 4 ≤ x ∧ x < 8 then page x else 0 := by
  intro f
  induction f with
  | zero => intro j draft h1 h2; omega
  | succ f ih =>
    intro j draft h1 h2
    rw [fX6_text_17]
    by_cases hj : j = 831
    · subst hj
      rw [if_pos (show (831 : Int32) ≤ nI 831 by decide)]
      exact ⟨_, rfl, fun x hx => by rw [if_pos hx]⟩
    · have em : fX6_in (nI j).toInt64 4 7 = some (if nI j < nI 4 then 0 else if nI 7 < nI j then 0 else 1) := m_in (nI j) (nI 4) (nI 7)
      rw [if_neg (show ¬ (831 : Int32) ≤ nI j from nI_ge (a := j) (b := 831) (by omega) (by omega)), em, bd_s, nI_1]
      simp only [gd_in (show j < 831 by omega) (show 831 < 2 ^ 31 by omega), nI_clamp (show j < 2 ^ 31 by omega), nm_s]
      by_cases hc : 4 ≤ j ∧ j < 8
      · rw [if_neg (nI_nlt hc.1 (by omega)), if_neg (nI_nlt (show j ≤ 7 by omega) (by omega)), if_neg n10]
        obtain ⟨d', e1, e2⟩ := ih (j + 1) (upd draft j (page j)) (by omega) (by omega)
        refine ⟨d', e1, fun x hx => ?_⟩
        rw [e2 x hx]
        by_cases z : x < j
        · rw [if_pos z, if_pos (by omega), upd_ne _ _ (by omega)]
        · by_cases w : x = j
          · subst w; rw [if_pos (by omega), if_neg z, upd_eq, if_pos hc]
          · rw [if_neg (by omega), if_neg z]
      · have z0 : (if nI j < nI 4 then (0 : Int32) else if nI 7 < nI j then 0 else 1) = 0 := by
          by_cases z : j < 4
          · rw [if_pos (nI_lt z (by omega))]
          · rw [if_pos (nI_lt (show 7 < j by omega) (by omega)), ite_self]
        rw [z0, if_pos p00]
        obtain ⟨d', e1, e2⟩ := ih (j + 1) (upd draft j 0) (by omega) (by omega)
        refine ⟨d', e1, fun x hx => ?_⟩
        rw [e2 x hx]
        by_cases z : x < j
        · rw [if_pos z, if_pos (by omega), upd_ne _ _ (by omega)]
        · by_cases w : x = j
          · subst w; rw [if_pos (by omega), if_neg z, upd_eq, if_neg hc]
          · rw [if_neg (by omega), if_neg z]
theorem m_page (draft : Nat → Int32) (y : Int32) : ∀ (f j : Nat) (page : Nat → Int32), j ≤ 831 → 831 < j + f → ∃ d', fX6_text_143 draft y f page (nI j) = some d' ∧ ∀ x, x < 831 → d' x = if x < j then page x else draft x := by
  intro f
  induction f with
  | zero => intro j page h1 h2; omega
  | succ f ih =>
    intro j page h1 h2
    rw [fX6_text_143]
    by_cases hj : j = 831
    · subst hj
      rw [if_pos (show (831 : Int32) ≤ nI 831 by decide)]
      exact ⟨_, rfl, fun x hx => by rw [if_pos hx]⟩
    · rw [if_neg (show ¬ (831 : Int32) ≤ nI j from nI_ge (a := j) (b := 831) (by omega) (by omega)), gd_in (by omega) (by omega), gd_in (by omega) (by omega), nI_clamp (by omega), nm_s, nI_1]
      obtain ⟨d', e1, e2⟩ := ih (j + 1) (upd page j (draft j)) (by omega) (by omega)
      refine ⟨d', e1, fun x hx => ?_⟩
      rw [e2 x hx]
      by_cases z : x < j
      · rw [if_pos z, if_pos (by omega), upd_ne _ _ (by omega)]
      · by_cases w : x = j
        · subst w; rw [if_pos (by omega), if_neg z, upd_eq]
        · rw [if_neg (by omega), if_neg z]
theorem fill_loop {n : Nat} (hn : n ≤ 128) (v : Int32) : ∀ (f j : Nat) (a : Nat → Int32), j ≤ n → n < j + f → ∃ a', fX4_fill_2 n v f a (nI j) = some a' ∧ ∀ x, x < n → a' x = if x < j then a x else v := by
  intro f
  induction f with
  | zero => intro j a h1 h2; omega
  | succ f ih =>
    intro j a h1 h2
    rw [fX4_fill_2]
    by_cases hj : j = n
    · have e1 : Int32.ofNat n ≤ nI j := nI_le (a := n) (by omega) (by omega)
      rw [if_pos e1]
      exact ⟨_, rfl, fun x hx => by rw [if_pos (by omega)]⟩
    · have e1 : ¬ Int32.ofNat n ≤ nI j := nI_ge (b := n) (show j < n by omega) (by omega)
      rw [if_neg e1, gd_in (by omega) (by omega), nI_clamp (by omega), nm_s, nI_1]
      obtain ⟨d', e1, e2⟩ := ih (j + 1) (upd a j v) (by omega) (by omega)
      refine ⟨d', e1, fun x hx => ?_⟩
      rw [e2 x hx]
      by_cases z : x < j
      · rw [if_pos z, if_pos (by omega), upd_ne _ _ (by omega)]
      · by_cases w : x = j
        · subst w; rw [if_pos (by omega), if_neg z, upd_eq]
        · rw [if_neg (by omega), if_neg z]
theorem c_fill {n : Nat} (hn : n ≤ 128) (a : Nat → Int32) (v : Int32) : ∃ a', fX4_fill n a v = some a' ∧ ∀ x, x < n → a' x = v := by
  obtain ⟨a', e1, e2⟩ := fill_loop hn v FU 0 a (Nat.zero_le _) (by unfold FU; omega)
  rw [show nI 0 = (0 : Int32) from rfl] at e1
  refine ⟨a', by unfold fX4_fill; rw [e1, bd_s], fun x hx => ?_⟩
  rw [e2 x hx, if_neg (by omega)]
theorem c_begin (c : Int32) (counts refused tokens notes lasts dAt dHops : Nat → Int32) : ∃ a0 a1 a2 a3 a4 a5 a6, fX4_beginAnew c counts refused tokens notes lasts dAt dHops = some (0, a0, a1, a2, a3, a4, a5, a6) ∧ (∀ x, x < 8 → a0 x = 0) ∧ (∀ x, x < 6 → a1 x = 0) ∧ (∀ x, x < 128 → a2 x = 0) ∧ (∀ x, x < 8 → a3 x = 0) ∧ (∀ x, x < 64 → a4 x = -1) ∧ (∀ x, x < 16 → a5 x = -4) ∧ (∀ x, x < 16 → a6 x = -4) := by
  obtain ⟨a0, e0, f0⟩ := c_fill (n := 8) (by omega) counts 0
  obtain ⟨a1, e1, f1⟩ := c_fill (n := 6) (by omega) refused 0
  obtain ⟨a2, e2, f2⟩ := c_fill (n := 128) (by omega) tokens 0
  obtain ⟨a3, e3, f3⟩ := c_fill (n := 8) (by omega) notes 0
  obtain ⟨a4, e4, f4⟩ := c_fill (n := 64) (by omega) lasts (-1)
  obtain ⟨a5, e5, f5⟩ := c_fill (n := 16) (by omega) dAt (-4)
  obtain ⟨a6, e6, f6⟩ := c_fill (n := 16) (by omega) dHops (-4)
  refine ⟨a0, a1, a2, a3, a4, a5, a6, ?_, f0, f1, f2, f3, f4, f5, f6⟩
  unfold fX4_beginAnew
  rw [e0, bd_s, e1, bd_s, e2, bd_s, e3, bd_s, e4, bd_s, e5, bd_s, e6, bd_s]
theorem c_kept0 (y : Int32) (kept : Nat → Int32) : ∃ k', fX5_text_63 y FU kept 0 = some k' ∧ k' = upd (upd kept 0 0) 1 0 := by
  refine ⟨upd (upd kept 0 0) 1 0, ?_, rfl⟩
  rw [show FU = 1997 + 1 + 1 + 1 from rfl, show (0 : Int32) = nI 0 from rfl, fX5_text_63, if_neg (show ¬ (2 : Int32) ≤ nI 0 by decide), gd_in (show 0 < 2 by omega) (by omega), nI_clamp (show 0 < 2 ^ 31 by omega), nm_s, nI_1, fX5_text_63, if_neg (show ¬ (2 : Int32) ≤ nI (0 + 1) by decide), gd_in (show 0 + 1 < 2 by omega) (by omega), nI_clamp (show 0 + 1 < 2 ^ 31 by omega), nm_s, nI_1, fX5_text_63, if_pos (show (2 : Int32) ≤ nI (0 + 1 + 1) by decide)]
  rw [show nI 0 = (0 : Int32) from rfl, nar0]
section NW
variable {N K Z G : Nat} {rooms mrows lrows draft page : Nat → Int32} {rooms2 mrows2 lrows2 rules counts2 refused2 tokens2 hops since notes2 lasts2 dAt2 dHops2 page2 : Nat → Int32}
theorem WR_new (h : DR N K Z G rooms mrows lrows draft page) (hG : G ≤ N) (er : ∀ i, i < 4 → page (4 + i) = rules i) (cr : (∃ r, r ≤ 99 ∧ rules 0 = nI r) ∧ (∃ r, r ≤ 3 ∧ rules 1 = nI r) ∧ (∃ r, r ≤ 3 ∧ rules 2 = nI r) ∧ (∃ r, r ≤ 9 ∧ rules 3 = nI r)) (e0 : ∀ i, i < 8 → rooms2 i = rooms i) (e1 : ∀ i, i < 96 → mrows2 i = mrows i) (e2 : ∀ i, i < 96 → lrows2 i = lrows i) (f0 : ∀ x, x < 8 → counts2 x = 0) (f1 : ∀ x, x < 6 → refused2 x = 0) (f2 : ∀ x, x < 128 → tokens2 x = 0) (f3 : ∀ x, x < 8 → notes2 x = 0) (f4 : ∀ x, x < 64 → lasts2 x = -1) (f5 : ∀ x, x < 16 → dAt2 x = -4) (f6 : ∀ x, x < 16 → dHops2 x = -4) (ep : ∀ x, x < 831 → page2 x = draft x) (Bd : Nat) : WR Bd 0 (nI N) (nI K) (nI Z) rooms2 mrows2 lrows2 rules counts2 refused2 tokens2 hops since notes2 lasts2 dAt2 dHops2 page2 := by
  obtain ⟨⟨h1, h2, h3, h4⟩, ⟨d0, d1, d2⟩, r1, r2, r3, r4, r5, hm, hl, -⟩ := h
  have z : ∀ x, 3 ≤ x → x < 831 → (x < 23 ∨ 255 ≤ x) → ¬ (4 ≤ x ∧ x < 8) → page2 x = 0 := fun x x1 x2 x3 x4 => by rw [ep x x2, r5 x x1 x2 x3, if_neg x4]
  refine ⟨N, K, Z, 0, Nat.zero_le _, rfl, rfl, rfl, rfl, ⟨⟨h1, h2, h3⟩, ⟨by rw [ep _ (by omega)]; exact d0, by rw [ep _ (by omega)]; exact d1, by rw [ep _ (by omega)]; exact d2, by rw [z 3 (by omega) (by omega) (by omega) (by omega)]; rfl⟩, fun i hi => by rw [ep _ (by omega), r5 _ (by omega) (by omega) (by omega), if_pos (by omega)]; exact er i hi, fun i hi => by rw [z _ (by omega) (by omega) (by omega) (by omega), f0 i hi], Or.inl ⟨f1 0 (by omega), z 22 (by omega) (by omega) (by omega) (by omega)⟩, fun n hn => by rw [ep _ (by omega), r1 n hn, e0 n (by omega)], fun m w hmK hw => by rw [ep _ (by omega), r2 m w hmK hw, e1 _ (by omega)], fun l w hlZ hw => by rw [ep _ (by omega), r3 l w hlZ hw, e2 _ (by omega)], fun l hlZ => by rw [ep _ (by omega), ep _ (by omega), f5 _ (by omega), f6 _ (by omega)]; exact r4 l hlZ, fun n l hn hl => by rw [z _ (by omega) (by omega) (by omega) (by omega), f2 _ (by omega)], fun n l hn hl ht => absurd (by rw [f2 _ (by omega)]; decide) ht, fun n l hn hl => ?_, fun a b ha hb => by rw [z _ (by omega) (by omega) (by omega) (by omega), f4 _ (by omega)]; decide⟩, ⟨cr, fun m hmK => ?_, fun l hlZ => ?_, fun l l1 l2 => ⟨f5 l l2, f6 l l2⟩, fun n l hn hl => ⟨0, by omega, by rw [f2 _ (by omega)]; rfl⟩, fun n hn => ⟨0, Nat.two_pow_pos Z, by rw [f3 n hn]; rfl⟩, fun a b ha hb => ⟨Or.inl (f4 _ (by omega)), fun _ => f4 _ (by omega)⟩⟩⟩
  · rw [z _ (by omega) (by omega) (by omega) (by omega), f3 n hn]
    have q := bit_n (v := 0) (l := l) (by omega) hl
    rw [Nat.zero_div, show nI 0 = (0 : Int32) from rfl] at q
    exact q.symm
  · obtain ⟨t, a, b, q1, q2, q3, q4, q5, q6, q7, q8⟩ := hm m hmK
    exact ⟨⟨t, q1, q2, by rw [e1 _ (by omega)]; exact q6⟩, a, b, by omega, by omega, q5, by rw [e1 _ (by omega)]; exact q7, by rw [e1 _ (by omega)]; exact q8⟩
  · obtain ⟨t, a, b, zz, u, y, q1, q2, q3, q4, q5, q6, q7, q8, q9, q10, q11, s0, s1, s2, s3, s4, s5⟩ := hl l hlZ
    exact ⟨⟨t, by omega, by rw [e2 _ (by omega)]; exact s0⟩, ⟨a, b, by omega, by omega, q5, by rw [e2 _ (by omega)]; exact s1, by rw [e2 _ (by omega)]; exact s2⟩, ⟨zz, q6, q7, by rw [e2 _ (by omega)]; exact s3⟩, ⟨u, q8, q9, by rw [e2 _ (by omega)]; exact s4⟩, ⟨y, q10, q11, by rw [e2 _ (by omega)]; exact s5⟩⟩
end NW
