theorem do_text {L Bd : Nat} {B : Nat → Nat} {bytes tape ends words : Nat → Int32} (h : TPE L B bytes tape) (hm : MC ends words) {clock nodes meetings letters : Int32} {rooms mrows lrows rules counts refused tokens hops since notes lasts dAt dHops page : Nat → Int32} (hW : WR Bd clock nodes meetings letters rooms mrows lrows rules counts refused tokens hops since notes lasts dAt dHops page) (rf rp rn rk rs rno rme rle : Int32) (rro rmr rlr rnu kept draft isKept : Nat → Int32) (fa br sp hr tk vl gr : Int32) :
    ∃ q q', fX5_text (nI L) bytes rf rp rn rk rs rno rme rle rro rmr rlr rnu clock nodes meetings letters rooms mrows lrows counts refused tokens notes lasts dAt dHops kept = some q ∧ fX6_text (nI L) fa br sp hr tk vl gr page draft isKept tape ends words = some q' ∧ q.1 = q'.1 ∧ q.2.1 = 0 ∧ q'.2.1 = 0 ∧ q.2.2.1 = q'.2.2.1 ∧ WR Bd q.2.2.2.2.2.2.2.2.2.2.2.2.2.2.1 q.2.2.2.2.2.2.2.2.2.2.2.2.2.2.2.1 q.2.2.2.2.2.2.2.2.2.2.2.2.2.2.2.2.1 q.2.2.2.2.2.2.2.2.2.2.2.2.2.2.2.2.2.1 q.2.2.2.2.2.2.2.2.2.2.2.2.2.2.2.2.2.2.1 q.2.2.2.2.2.2.2.2.2.2.2.2.2.2.2.2.2.2.2.1 q.2.2.2.2.2.2.2.2.2.2.2.2.2.2.2.2.2.2.2.2.1 rules q.2.2.2.2.2.2.2.2.2.2.2.2.2.2.2.2.2.2.2.2.2.1 q.2.2.2.2.2.2.2.2.2.2.2.2.2.2.2.2.2.2.2.2.2.2.1 q.2.2.2.2.2.2.2.2.2.2.2.2.2.2.2.2.2.2.2.2.2.2.2.1 hops since q.2.2.2.2.2.2.2.2.2.2.2.2.2.2.2.2.2.2.2.2.2.2.2.2.1 q.2.2.2.2.2.2.2.2.2.2.2.2.2.2.2.2.2.2.2.2.2.2.2.2.2.1 q.2.2.2.2.2.2.2.2.2.2.2.2.2.2.2.2.2.2.2.2.2.2.2.2.2.2.1 q.2.2.2.2.2.2.2.2.2.2.2.2.2.2.2.2.2.2.2.2.2.2.2.2.2.2.2.1 q'.2.2.2.2.2.2.2.2.2.1 ∧ ((q.2.2.2.2.2.2.2.2.2.2.2.2.2.2.2.2.2.2.2.2.2.2.2.2.2.2.2.2 = kept ∧ q'.2.2.2.2.2.2.2.2.2.2.2 = isKept) ∨ (q.2.2.2.2.2.2.2.2.2.2.2.2.2.2.2.2.2.2.2.2.2.2.2.2.2.2.2.2 = upd (upd kept 0 0) 1 0 ∧ q'.2.2.2.2.2.2.2.2.2.2.2 = upd (upd isKept 0 0) 1 0)) := by
  have hL := h.1
  obtain ⟨d0, dd1, dd2⟩ := m_draft page FU 0 draft (Nat.zero_le _) (by unfold FU; omega)
  rw [show nI 0 = (0 : Int32) from rfl] at dd1
  have dr0 : DR 0 0 0 0 rro rmr rlr d0 page := by
    refine ⟨⟨by omega, by omega, by omega, by omega⟩, ⟨by rw [dd2 0 (by omega)]; rfl, by rw [dd2 1 (by omega)]; rfl, by rw [dd2 2 (by omega)]; rfl⟩, fun n hn => by omega, fun m w hmK => by omega, fun l w hlZ => by omega, fun l hlZ => by omega, fun x x1 x2 x3 => by rw [dd2 x x2, if_neg (by omega)], fun m hmK => by omega, fun l hlZ => by omega, Or.inl rfl⟩
  obtain ⟨f', br', sp', hr', tk', vl', r1, r2⟩ := reads_tot h (Nat.zero_le L) br hr tk vl
  rw [show nI 0 = (0 : Int32) from rfl] at r1
  have tl := told_loop h hm FU FU 0 0 0 0 0 0 0 rk rs 0 f' br' sp' hr' tk' vl' rro rmr rlr d0 rnu (Nat.zero_le _) (by unfold FU; omega) (by unfold FU; omega) (Nat.le_refl _) dr0 r2
  rw [show nI 0 = (0 : Int32) from rfl] at tl
  rcases tl with ⟨N, K, Z, G, rooms', mrows', lrows', draft', numbers', fp', nx, kn', st', br2, sp2, vl2, y', t1, t2, t3⟩ | ⟨c, s, t, q, ca, cz, t1, t2, t3, q1, q2, q3⟩
  · have nm := names_sim t3
    by_cases g : G ≤ N
    · rw [if_pos g] at nm
      have hN : N ≤ 8 := t3.1.1
      have hG8 : G ≤ 8 := t3.1.2.2.2
      have ra : fX2_readAll rf rp rn rk rs rno rme rle rro rmr rlr (nI L) bytes rnu = some (y', 0, fp', nx, kn', st', nI N, nI K, nI Z, rooms', mrows', lrows', numbers') := by
        unfold fX2_readAll fX0_clear
        rw [bd_s, t1, bd_s, if_pos p00, nm, bd_s, if_neg n10]
      obtain ⟨a0, a1, a2, a3, a4, a5, a6, b1, b2, b3, b4, b5, b6, b7, b8⟩ := c_begin clock counts refused tokens notes lasts dAt dHops
      obtain ⟨k', k1, k2⟩ := c_kept0 y' kept
      obtain ⟨p', p1, p2⟩ := m_page draft' y' FU 0 page (Nat.zero_le _) (by unfold FU; omega)
      rw [show nI 0 = (0 : Int32) from rfl] at p1
      have cf : fX0_copyFrom nodes meetings letters rooms mrows lrows (nI N) (nI K) (nI Z) rooms' mrows' lrows' = some (nI N, nI K, nI Z, va_cpy rooms' rooms 0 0 8, va_cpy mrows' mrows 0 0 96, va_cpy lrows' lrows 0 0 96) := by
        unfold fX0_copyFrom
        rw [nm_s, nm_s, nm_s]
      have gn : ¬ draft' 0 < nI G := by
        rw [t3.2.1.1]
        exact nI_nlt g (by omega)
      refine ⟨(y', 0, 0, fp', nx, kn', st', nI N, nI K, nI Z, rooms', mrows', lrows', numbers', 0, nI N, nI K, nI Z, va_cpy rooms' rooms 0 0 8, va_cpy mrows' mrows 0 0 96, va_cpy lrows' lrows 0 0 96, a0, a1, a2, a3, a4, a5, a6, k'), (y', 0, 0, br2, sp2, nI L, 0, vl2, nI G, p', draft', upd (upd isKept 0 0) 1 0), ?_, ?_, rfl, rfl, rfl, rfl, ?_, Or.inr ⟨k2, rfl⟩⟩
      · unfold fX5_text
        rw [ra, bd_s, if_pos p00, cf, bd_s, b1, bd_s, k1, bd_s]
      · unfold fX6_text
        rw [dd1, bd_s, r1, bd_s, t2, bd_s, if_neg (show ¬ (0 : Int32) < 0 by decide), if_neg gn, bd_s, m_must_1, bd_s, if_pos (show (0 : Int32) ≤ 0 by decide), p1, bd_s, nm_s, nm_s, nar0]
      · obtain ⟨N0, K0, Z0, C0, -, -, -, -, -, hI, hC⟩ := hW
        exact WR_new t3 g (fun i hi => hI.pr hi) hC.rl (fun i hi => cpy_at _ _ hi) (fun i hi => cpy_at _ _ hi) (fun i hi => cpy_at _ _ hi) b2 b3 b4 b5 b6 b7 b8 (fun x hx => (p2 x hx).trans (if_neg (by omega))) Bd
    · rw [if_neg g] at nm
      have hN : N ≤ 8 := t3.1.1
      have hG8 : G ≤ 8 := t3.1.2.2.2
      have ra : fX2_readAll rf rp rn rk rs rno rme rle rro rmr rlr (nI L) bytes rnu = some (y', 6, nI L, nx, kn', st', nI N, nI K, nI Z, rooms', mrows', lrows', numbers') := by
        unfold fX2_readAll fX0_clear fX2_refuse
        rw [bd_s, t1, bd_s, if_pos p00, nm, bd_s, if_pos p00, bd_s]
      have gn : draft' 0 < nI G := by
        rw [t3.2.1.1]
        exact nI_lt (by omega) (by omega)
      refine ⟨(-10 - nI L, 0, 6, nI L, nx, kn', st', nI N, nI K, nI Z, rooms', mrows', lrows', numbers', clock, nodes, meetings, letters, rooms, mrows, lrows, counts, refused, tokens, notes, lasts, dAt, dHops, kept), (-10 - nI L, 0, 6, nI L, sp2, nI L, 0, vl2, nI G, page, draft', isKept), ?_, ?_, rfl, rfl, rfl, rfl, hW, Or.inl ⟨rfl, rfl⟩⟩
      · unfold fX5_text
        rw [ra, bd_s, if_neg (show ¬ (6 : Int32) = 0 by decide)]
      · unfold fX6_text
        rw [dd1, bd_s, r1, bd_s, t2, bd_s, if_neg (show ¬ (0 : Int32) < 0 by decide), if_pos gn, bd_s, m_must_0, bd_s, if_neg (show ¬ (6 : Int32) ≤ 0 by decide)]
  · obtain ⟨c1, c2, c3⟩ := ne_le ca (show c ≤ 9 by omega)
    have ra : ∃ u, fX2_readAll rf rp rn rk rs rno rme rle rro rmr rlr (nI L) bytes rnu = some u ∧ u.2.1 = nI c ∧ u.2.2.1 = nI s := by
      unfold fX2_readAll fX0_clear
      rw [bd_s, t1, bd_s, t2, if_neg c1]
      exact ⟨_, rfl, rfl, t3⟩
    obtain ⟨u, u1, u2, u3⟩ := ra
    have e5 : ∃ q, fX5_text (nI L) bytes rf rp rn rk rs rno rme rle rro rmr rlr rnu clock nodes meetings letters rooms mrows lrows counts refused tokens notes lasts dAt dHops kept = some q ∧ q.1 = -10 - nI s ∧ q.2.1 = 0 ∧ q.2.2.1 = nI c ∧ WR Bd q.2.2.2.2.2.2.2.2.2.2.2.2.2.2.1 q.2.2.2.2.2.2.2.2.2.2.2.2.2.2.2.1 q.2.2.2.2.2.2.2.2.2.2.2.2.2.2.2.2.1 q.2.2.2.2.2.2.2.2.2.2.2.2.2.2.2.2.2.1 q.2.2.2.2.2.2.2.2.2.2.2.2.2.2.2.2.2.2.1 q.2.2.2.2.2.2.2.2.2.2.2.2.2.2.2.2.2.2.2.1 q.2.2.2.2.2.2.2.2.2.2.2.2.2.2.2.2.2.2.2.2.1 rules q.2.2.2.2.2.2.2.2.2.2.2.2.2.2.2.2.2.2.2.2.2.1 q.2.2.2.2.2.2.2.2.2.2.2.2.2.2.2.2.2.2.2.2.2.2.1 q.2.2.2.2.2.2.2.2.2.2.2.2.2.2.2.2.2.2.2.2.2.2.2.1 hops since q.2.2.2.2.2.2.2.2.2.2.2.2.2.2.2.2.2.2.2.2.2.2.2.2.1 q.2.2.2.2.2.2.2.2.2.2.2.2.2.2.2.2.2.2.2.2.2.2.2.2.2.1 q.2.2.2.2.2.2.2.2.2.2.2.2.2.2.2.2.2.2.2.2.2.2.2.2.2.2.1 q.2.2.2.2.2.2.2.2.2.2.2.2.2.2.2.2.2.2.2.2.2.2.2.2.2.2.2.1 page ∧ q.2.2.2.2.2.2.2.2.2.2.2.2.2.2.2.2.2.2.2.2.2.2.2.2.2.2.2.2 = kept := by
      unfold fX5_text
      rw [u1, bd_s, u2, if_neg c1, u3]
      exact ⟨_, rfl, rfl, rfl, rfl, hW, rfl⟩
    have e6 : ∃ q', fX6_text (nI L) fa br sp hr tk vl gr page draft isKept tape ends words = some q' ∧ q'.1 = -10 - nI s ∧ q'.2.1 = 0 ∧ q'.2.2.1 = nI c ∧ q'.2.2.2.2.2.2.2.2.2.1 = page ∧ q'.2.2.2.2.2.2.2.2.2.2.2 = isKept := by
      unfold fX6_text
      rw [dd1, bd_s, r1, bd_s, q1, bd_s, q2, if_pos c3, bd_s, m_must_1, bd_s, if_neg c2, q3]
      exact ⟨_, rfl, rfl, rfl, rfl, rfl, rfl⟩
    obtain ⟨v, v1, v2, v3, v4, v5, v6⟩ := e5
    obtain ⟨w, w1, w2, w3, w4, w5, w6⟩ := e6
    exact ⟨v, w, v1, w1, by rw [v2, w2], v3, w3, by rw [v4, w4], by rw [w5]; exact v5, Or.inl ⟨v6, w6⟩⟩
