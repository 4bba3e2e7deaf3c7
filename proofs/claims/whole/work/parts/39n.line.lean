theorem rnw_inl {n : Nat} {f1 f2 : Nat → Int32} {tl : Int32} {tb : Nat → Int32} {fa fp nx kn st : Int32} {nums : Nat → Int32} {t : Int32 × Int32 × Int32 × Int32 × Int32 × (Nat → Int32)} (h : fX2_readNumbersWithin_2 n f1 n f2 tl tb FU fa fp nx kn st nums 0 = some (.inl t)) : fX2_readNumbersWithin n f1 n f2 fa fp nx kn st tl tb nums = some t := by
  unfold fX2_readNumbersWithin
  rw [h]
  rfl
theorem rnw_inr {n : Nat} {f1 f2 : Nat → Int32} {tl : Int32} {tb : Nat → Int32} {fa fp nx kn st : Int32} {nums : Nat → Int32} {t : Int32 × Int32 × Int32 × Int32 × Int32 × (Nat → Int32)} (h : fX2_readNumbersWithin_2 n f1 n f2 tl tb FU fa fp nx kn st nums 0 = some (.inr t)) : fX2_readNumbersWithin n f1 n f2 fa fp nx kn st tl tb nums = some t := by
  unfold fX2_readNumbersWithin
  rw [h]
  rfl
section LS
variable {L : Nat} {B : Nat → Nat} {bytes tape : Nat → Int32}
theorem sign_step (h : TPE L B bytes tape) {p : Nat} (hp : p ≤ L) {f br sp hr tk vl : Int32} (hl : LA L tape p f br sp hr tk vl) :
    (∃ s e, p < e ∧ e ≤ L ∧ (∀ fp kn st, fX2_readToken 0 fp (nI p) kn st (nI L) bytes = some (0, fp, nI e, nI 3, nI s)) ∧ ∃ w f2 br2 f' br' sp' hr' tk' vl', (if 0 < f then some (1 : Int32) else if tk = (3 : Int32) then some (1 : Int32) else some (0 : Int32)) = some w ∧ fX6_must f br hr w 2 = some (f2, br2) ∧ fX6_reads (nI L) f2 br2 sp hr tk vl tape = some (f', br', sp', hr', tk', vl') ∧ LA L tape e f' br' sp' hr' tk' vl') ∨
    (∃ c s, 1 ≤ c ∧ c ≤ 2 ∧ ((c = 1 ∧ ∀ fp kn st, ∃ x y, fX2_readToken 0 fp (nI p) kn st (nI L) bytes = some (1, nI s, x, y, nI s)) ∨ (c = 2 ∧ ∃ e k, ¬ k = 3 ∧ k ≤ 3 ∧ ∀ fp kn st, fX2_readToken 0 fp (nI p) kn st (nI L) bytes = some (0, fp, nI e, nI k, nI s))) ∧ ∃ w f2 br2 q, (if 0 < f then some (1 : Int32) else if tk = (3 : Int32) then some (1 : Int32) else some (0 : Int32)) = some w ∧ fX6_must f br hr w 2 = some (f2, br2) ∧ fX6_reads (nI L) f2 br2 sp hr tk vl tape = some q ∧ q.1 = nI c ∧ q.2.1 = nI s) := by
  obtain ⟨b0, h0, t0, v0, hl⟩ := hl
  rcases lex_sim h hp with ⟨s, e, k, val, g1, g2, g3, g4, g5, g6, g7, g8, g9⟩ | ⟨s, g1, g2⟩
  · rw [g6] at hl
    simp only [Option.some.injEq, Prod.mk.injEq] at hl
    obtain ⟨rfl, rfl, rfl, rfl, rfl, rfl⟩ := hl
    by_cases k3 : k = 3
    · subst k3
      have se := g8 (by omega)
      obtain ⟨f', br', sp', hr', tk', vl', r1, r2⟩ := reads_tot h g3 b0 (nI s) (nI 3) val
      exact Or.inl ⟨s, e, by omega, g3, g5, 1, 0, b0, f', br', sp', hr', tk', vl', by rw [if_neg (show ¬ (0 : Int32) < 0 by decide), if_pos (show nI 3 = 3 from rfl)], m_must_1 _ _ _ _, r1, r2⟩
    · exact Or.inr ⟨2, s, by omega, by omega, Or.inr ⟨rfl, e, k, k3, g4, g5⟩, 0, 2, nI s, (2, nI s, nI e, nI s, nI k, val), by rw [if_neg (show ¬ (0 : Int32) < 0 by decide), if_neg (show ¬ nI k = 3 from fun z => k3 (nI_inj (b := 3) (by omega) (by omega) z))], m_must_0 _ _ _, reads_f (by decide), rfl, rfl⟩
  · obtain ⟨a, b, c, d, g⟩ := g2 b0 h0 t0 v0
    rw [g] at hl
    simp only [Option.some.injEq, Prod.mk.injEq] at hl
    obtain ⟨rfl, rfl, rfl, rfl, rfl, rfl⟩ := hl
    exact Or.inr ⟨1, s, by omega, by omega, Or.inl ⟨rfl, g1⟩, 1, 1, nI s, (1, nI s, a, b, c, d), by rw [if_pos (show (0 : Int32) < 1 by decide)], m_must_1 _ _ _ _, reads_f (by decide), rfl, rfl⟩
theorem meet_line (h : TPE L B bytes tape) {p K G : Nat} (hp : p ≤ L) (hK : K < 24) (hG : G ≤ 8) {draft : Nat → Int32} (hd : draft 1 = nI K) {f br sp hr tk vl : Int32} (hl : LA L tape p f br sp hr tk vl) (fp kn st : Int32) (numbers : Nat → Int32) :
    (∃ v0 v1 v2 v3 s e, (1 ≤ v0 ∧ v0 ≤ 99 ∧ 0 ≤ v1 ∧ v1 ≤ 7 ∧ 0 ≤ v2 ∧ v2 ≤ 7 ∧ 0 ≤ v3 ∧ v3 ≤ 99 ∧ ¬ v1 = v2) ∧ p < e ∧ e ≤ L ∧ fX2_readNumbersWithin 4 sv2 4 sv3 0 fp (nI p) kn st (nI L) bytes numbers = some (0, fp, nI e, nI 2, nI s, (upd (upd (upd (upd numbers 0 (nI v0)) 1 (nI v1)) 2 (nI v2)) 3 (nI v3))) ∧ ∃ f' br' sp' hr' tk' vl', fX6_readsMeeting (nI L) f br sp hr tk vl (nI G) draft tape = some (f', br', sp', hr', tk', vl', nI (max (max G (v1 + 1)) (v2 + 1)), (upd (upd (upd (upd (upd draft (31 + 4 * K + 0) (nI v0)) (31 + 4 * K + 1) (nI v1)) (31 + 4 * K + 2) (nI v2)) (31 + 4 * K + 3) (nI v3)) 1 (nI (K + 1)))) ∧ LA L tape e f' br' sp' hr' tk' vl') ∨
    (∃ c s t q, 1 ≤ c ∧ c ≤ 5 ∧ fX2_readNumbersWithin 4 sv2 4 sv3 0 fp (nI p) kn st (nI L) bytes numbers = some t ∧ t.1 = nI c ∧ t.2.1 = nI s ∧ fX6_readsMeeting (nI L) f br sp hr tk vl (nI G) draft tape = some q ∧ q.1 = nI c ∧ q.2.1 = nI s) := by
  have hL := h.1
  have a0 : (31 : Int32) + (4 : Int32) * nI K = nI (31 + 4 * K) := by
    show nI 31 + nI 4 * nI K = _
    rw [nI_mul, nI_add]
  have o1 : nI (31 + 4 * K) + (1 : Int32) = nI (31 + 4 * K + 1) := nI_add _ 1
  have o2 : nI (31 + 4 * K) + (2 : Int32) = nI (31 + 4 * K + 2) := nI_add _ 2
  have o3 : nI (31 + 4 * K) + (3 : Int32) = nI (31 + 4 * K + 3) := nI_add _ 3
  have i0 : 31 + 4 * K + 0 < 831 := by omega
  have k0 : 31 + 4 * K + 0 < 2 ^ 31 := by omega
  have x0 : 1 ≠ 31 + 4 * K + 0 := by omega
  have i1 : 31 + 4 * K + 1 < 831 := by omega
  have k1 : 31 + 4 * K + 1 < 2 ^ 31 := by omega
  have x1 : 1 ≠ 31 + 4 * K + 1 := by omega
  have i2 : 31 + 4 * K + 2 < 831 := by omega
  have k2 : 31 + 4 * K + 2 < 2 ^ 31 := by omega
  have x2 : 1 ≠ 31 + 4 * K + 2 := by omega
  have i3 : 31 + 4 * K + 3 < 831 := by omega
  have k3 : 31 + 4 * K + 3 < 2 ^ 31 := by omega
  have x3 : 1 ≠ 31 + 4 * K + 3 := by omega
  have hb : 831 < 2 ^ 31 := by omega
  have a0 : (31 : Int32) + (4 : Int32) * nI K = nI (31 + 4 * K + 0) := a0
  have o1 : nI (31 + 4 * K + 0) + (1 : Int32) = nI (31 + 4 * K + 1) := o1
  have o2 : nI (31 + 4 * K + 0) + (2 : Int32) = nI (31 + 4 * K + 2) := o2
  have o3 : nI (31 + 4 * K + 0) + (3 : Int32) = nI (31 + 4 * K + 3) := o3
  rcases num_step h hp 1 99 (by omega) (by omega) hl with ⟨v0, s0, e0, u0, w0, y0, z0, tk0, nr0, f0, b0, p0, h0, t0, l0, m0, hl0⟩ | ⟨c, s, ca, cz, cb, p0, h0, t0, l0, m0⟩
  · have m0 : fX6_number (nI L) f br sp hr tk vl tape (1 : Int32) (99 : Int32) = some (nI v0, f0, b0, p0, h0, t0, l0) := m0
    have c0 := fun f => cs_ok (L := L) (bytes := bytes) (n := 4) (i := 0) (lo := 1) (hi := 99) (by omega) (by omega) (f1 := sv2) (f2 := sv3) rfl rfl (by omega) ⟨u0, w0⟩ tk0 nr0 f fp kn st (numbers := numbers) (fun z => absurd z (by decide))
    rcases node_step h z0 hG (-4) hl0 with ⟨v1, s1, e1, w1, ne1, y1, z1, tk1, nr1, f1, b1, p1, h1, t1, l1, m1, hl1⟩ | ⟨c, s, ca, cz, cb, p1, h1, t1, l1, g1, m1⟩ | ⟨v, s, e, w, same, tkb, nrb, p1, h1, t1, l1, g1, m1⟩
    · have u1 : 0 ≤ v1 := Nat.zero_le _
      have c1 := fun f => cs_ok (L := L) (bytes := bytes) (n := 4) (i := 1) (lo := 0) (hi := 7) (by omega) (by omega) (f1 := sv2) (f2 := sv3) rfl rfl (by omega) ⟨u1, w1⟩ tk1 nr1 f fp (nI 2) (nI s0) (numbers := (upd numbers 0 (nI v0))) (fun z => absurd z (by decide))
      rcases node_step h z1 (show (max G (v1 + 1)) ≤ 8 by omega) (nI v1) hl1 with ⟨v2, s2, e2, w2, ne2, y2, z2, tk2, nr2, f2, b2, p2, h2, t2, l2, m2, hl2⟩ | ⟨c, s, ca, cz, cb, p2, h2, t2, l2, g2, m2⟩ | ⟨v, s, e, w, same, tkb, nrb, p2, h2, t2, l2, g2, m2⟩
      · have u2 : 0 ≤ v2 := Nat.zero_le _
        have c2 := fun f => cs_ok (L := L) (bytes := bytes) (n := 4) (i := 2) (lo := 0) (hi := 7) (by omega) (by omega) (f1 := sv2) (f2 := sv3) rfl rfl (by omega) ⟨u2, w2⟩ tk2 nr2 f fp (nI 2) (nI s1) (numbers := (upd (upd numbers 0 (nI v0)) 1 (nI v1))) (fun _ => ne2)
        rcases num_step h z2 0 99 (by omega) (by omega) hl2 with ⟨v3, s3, e3, u3, w3, y3, z3, tk3, nr3, f3, b3, p3, h3, t3, l3, m3, hl3⟩ | ⟨c, s, ca, cz, cb, p3, h3, t3, l3, m3⟩
        · have m3 : fX6_number (nI L) f2 b2 p2 h2 t2 l2 tape (0 : Int32) (99 : Int32) = some (nI v3, f3, b3, p3, h3, t3, l3) := m3
          have c3 := fun f => cs_ok (L := L) (bytes := bytes) (n := 4) (i := 3) (lo := 0) (hi := 99) (by omega) (by omega) (f1 := sv2) (f2 := sv3) rfl rfl (by omega) ⟨u3, w3⟩ tk3 nr3 f fp (nI 2) (nI s2) (numbers := (upd (upd (upd numbers 0 (nI v0)) 1 (nI v1)) 2 (nI v2))) (fun z => absurd z (by decide))
          have mq : fX6_readsMeeting (nI L) f br sp hr tk vl (nI G) draft tape = some (f3, b3, p3, h3, t3, l3, nI (max (max G (v1 + 1)) (v2 + 1)), (upd (upd (upd (upd (upd draft (31 + 4 * K + 0) (nI v0)) (31 + 4 * K + 1) (nI v1)) (31 + 4 * K + 2) (nI v2)) (31 + 4 * K + 3) (nI v3)) 1 (nI (K + 1)))) := by
            unfold fX6_readsMeeting
            simp only [hd, a0, o1, o2, o3, gd_in i0 hb, gd_in i1 hb, gd_in i2 hb, gd_in i3 hb, nI_clamp k0, nI_clamp k1, nI_clamp k2, nI_clamp k3, nm_s, bd_s, upd_eq, upd_ne _ _ x0, upd_ne _ _ x1, upd_ne _ _ x2, upd_ne _ _ x3, nI_1 K, m0, m1, m2, m3]
          exact Or.inl ⟨v0, v1, v2, v3, s3, e3, ⟨u0, w0, u1, w1, u2, w2, u3, w3, fun z => ne2 (by rw [z])⟩, by omega, z3, rnw_inr ((c0 1999).trans ((c1 1998).trans ((c2 1997).trans ((c3 1996).trans (cs_end (L := L) (bytes := bytes) (n := 4) (by omega) sv2 sv3 1995 fp (nI e3) (nI 2) (nI s3) _))))), f3, b3, p3, h3, t3, l3, mq, hl3⟩
        · have m3 : fX6_number (nI L) f2 b2 p2 h2 t2 l2 tape (0 : Int32) (99 : Int32) = some (0, nI c, nI s, p3, h3, t3, l3) := m3
          obtain ⟨t, q1, q2, q3⟩ := cs_bad (L := L) (bytes := bytes) (n := 4) (i := 3) (lo := 0) (hi := 99) (by omega) (by omega) (f1 := sv2) (f2 := sv3) rfl rfl (by omega) (by omega) cb 1996 fp (nI 2) (nI s2) (upd (upd (upd numbers 0 (nI v0)) 1 (nI v1)) 2 (nI v2))
          have cc : c ≤ 9 := by omega
          have mq : ∃ q, fX6_readsMeeting (nI L) f br sp hr tk vl (nI G) draft tape = some q ∧ q.1 = nI c ∧ q.2.1 = nI s := by
            unfold fX6_readsMeeting
            simp only [hd, a0, o1, o2, o3, gd_in i0 hb, gd_in i1 hb, gd_in i2 hb, gd_in i3 hb, nI_clamp k0, nI_clamp k1, nI_clamp k2, nI_clamp k3, nm_s, bd_s, upd_eq, upd_ne _ _ x0, upd_ne _ _ x1, upd_ne _ _ x2, upd_ne _ _ x3, nI_1 K, m0, m1, m2, m3, m_number_f ca cc, m_node_f ca cc]
            exact ⟨_, rfl, rfl, rfl⟩
          obtain ⟨q, r1, r2, r3⟩ := mq
          exact Or.inr ⟨c, s, t, q, ca, by omega, rnw_inl ((c0 1999).trans ((c1 1998).trans ((c2 1997).trans (q1)))), q2, q3, r1, r2, r3⟩
      · obtain ⟨t, q1, q2, q3⟩ := cs_bad (L := L) (bytes := bytes) (n := 4) (i := 2) (lo := 0) (hi := 7) (by omega) (by omega) (f1 := sv2) (f2 := sv3) rfl rfl (by omega) (by omega) cb 1997 fp (nI 2) (nI s1) (upd (upd numbers 0 (nI v0)) 1 (nI v1))
        have cc : c ≤ 9 := by omega
        have mq : ∃ q, fX6_readsMeeting (nI L) f br sp hr tk vl (nI G) draft tape = some q ∧ q.1 = nI c ∧ q.2.1 = nI s := by
          unfold fX6_readsMeeting
          simp only [hd, a0, o1, o2, o3, gd_in i0 hb, gd_in i1 hb, gd_in i2 hb, gd_in i3 hb, nI_clamp k0, nI_clamp k1, nI_clamp k2, nI_clamp k3, nm_s, bd_s, upd_eq, upd_ne _ _ x0, upd_ne _ _ x1, upd_ne _ _ x2, upd_ne _ _ x3, nI_1 K, m0, m1, m2, m_number_f ca cc, m_node_f ca cc]
          exact ⟨_, rfl, rfl, rfl⟩
        obtain ⟨q, r1, r2, r3⟩ := mq
        exact Or.inr ⟨c, s, t, q, ca, by omega, rnw_inl ((c0 1999).trans ((c1 1998).trans (q1))), q2, q3, r1, r2, r3⟩
      · obtain ⟨t, q1, q2, q3⟩ := cs_same (L := L) (bytes := bytes) (n := 4) (lo := 0) (hi := 7) (by omega) (by omega) (f1 := sv2) (f2 := sv3) rfl rfl (by omega) ⟨Nat.zero_le _, w⟩ tkb nrb 1997 fp (nI 2) (nI s1) (numbers := (upd (upd numbers 0 (nI v0)) 1 (nI v1))) same
        have mq : ∃ q, fX6_readsMeeting (nI L) f br sp hr tk vl (nI G) draft tape = some q ∧ q.1 = nI 5 ∧ q.2.1 = nI s := by
          unfold fX6_readsMeeting
          simp only [hd, a0, o1, o2, o3, gd_in i0 hb, gd_in i1 hb, gd_in i2 hb, gd_in i3 hb, nI_clamp k0, nI_clamp k1, nI_clamp k2, nI_clamp k3, nm_s, bd_s, upd_eq, upd_ne _ _ x0, upd_ne _ _ x1, upd_ne _ _ x2, upd_ne _ _ x3, nI_1 K, m0, m1, m2, m_number_f (c := 5) (by omega) (by omega), m_node_f (c := 5) (by omega) (by omega)]
          exact ⟨_, rfl, rfl, rfl⟩
        obtain ⟨q, r1, r2, r3⟩ := mq
        exact Or.inr ⟨5, s, t, q, by omega, by omega, rnw_inl ((c0 1999).trans ((c1 1998).trans (q1))), q2, q3, r1, r2, r3⟩
    · obtain ⟨t, q1, q2, q3⟩ := cs_bad (L := L) (bytes := bytes) (n := 4) (i := 1) (lo := 0) (hi := 7) (by omega) (by omega) (f1 := sv2) (f2 := sv3) rfl rfl (by omega) (by omega) cb 1998 fp (nI 2) (nI s0) (upd numbers 0 (nI v0))
      have cc : c ≤ 9 := by omega
      have mq : ∃ q, fX6_readsMeeting (nI L) f br sp hr tk vl (nI G) draft tape = some q ∧ q.1 = nI c ∧ q.2.1 = nI s := by
        unfold fX6_readsMeeting
        simp only [hd, a0, o1, o2, o3, gd_in i0 hb, gd_in i1 hb, gd_in i2 hb, gd_in i3 hb, nI_clamp k0, nI_clamp k1, nI_clamp k2, nI_clamp k3, nm_s, bd_s, upd_eq, upd_ne _ _ x0, upd_ne _ _ x1, upd_ne _ _ x2, upd_ne _ _ x3, nI_1 K, m0, m1, m_number_f ca cc, m_node_f ca cc]
        exact ⟨_, rfl, rfl, rfl⟩
      obtain ⟨q, r1, r2, r3⟩ := mq
      exact Or.inr ⟨c, s, t, q, ca, by omega, rnw_inl ((c0 1999).trans (q1)), q2, q3, r1, r2, r3⟩
    · exact absurd same (nI_nm4 (by omega))
  · have m0 : fX6_number (nI L) f br sp hr tk vl tape (1 : Int32) (99 : Int32) = some (0, nI c, nI s, p0, h0, t0, l0) := m0
    obtain ⟨t, q1, q2, q3⟩ := cs_bad (L := L) (bytes := bytes) (n := 4) (i := 0) (lo := 1) (hi := 99) (by omega) (by omega) (f1 := sv2) (f2 := sv3) rfl rfl (by omega) (by omega) cb 1999 fp kn st numbers
    have cc : c ≤ 9 := by omega
    have mq : ∃ q, fX6_readsMeeting (nI L) f br sp hr tk vl (nI G) draft tape = some q ∧ q.1 = nI c ∧ q.2.1 = nI s := by
      unfold fX6_readsMeeting
      simp only [hd, a0, o1, o2, o3, gd_in i0 hb, gd_in i1 hb, gd_in i2 hb, gd_in i3 hb, nI_clamp k0, nI_clamp k1, nI_clamp k2, nI_clamp k3, nm_s, bd_s, upd_eq, upd_ne _ _ x0, upd_ne _ _ x1, upd_ne _ _ x2, upd_ne _ _ x3, nI_1 K, m0, m_number_f ca cc, m_node_f ca cc]
      exact ⟨_, rfl, rfl, rfl⟩
    obtain ⟨q, r1, r2, r3⟩ := mq
    exact Or.inr ⟨c, s, t, q, ca, by omega, rnw_inl (q1), q2, q3, r1, r2, r3⟩
theorem letter_line (h : TPE L B bytes tape) {p Z G : Nat} (hp : p ≤ L) (hZ : Z < 16) (hG : G ≤ 8) {draft : Nat → Int32} (hd : draft 2 = nI Z) {f br sp hr tk vl : Int32} (hl : LA L tape p f br sp hr tk vl) (fp kn st : Int32) (numbers : Nat → Int32) :
    (∃ v0 v1 v2 v3 v4 v5 s e, (1 ≤ v0 ∧ v0 ≤ 99 ∧ 0 ≤ v1 ∧ v1 ≤ 7 ∧ 0 ≤ v2 ∧ v2 ≤ 7 ∧ 1 ≤ v3 ∧ v3 ≤ 99 ∧ 1 ≤ v4 ∧ v4 ≤ 64 ∧ 1 ≤ v5 ∧ v5 ≤ 99 ∧ ¬ v1 = v2) ∧ p < e ∧ e ≤ L ∧ fX2_readNumbersWithin 6 sv4 6 sv5 0 fp (nI p) kn st (nI L) bytes numbers = some (0, fp, nI e, nI 2, nI s, (upd (upd (upd (upd (upd (upd numbers 0 (nI v0)) 1 (nI v1)) 2 (nI v2)) 3 (nI v3)) 4 (nI v4)) 5 (nI v5))) ∧ ∃ f' br' sp' hr' tk' vl', fX6_readsLetter (nI L) f br sp hr tk vl (nI G) draft tape = some (f', br', sp', hr', tk', vl', nI (max (max G (v1 + 1)) (v2 + 1)), (upd (upd (upd (upd (upd (upd (upd (upd (upd draft (127 + 8 * Z + 0) (nI v0)) (127 + 8 * Z + 1) (nI v1)) (127 + 8 * Z + 2) (nI v2)) (127 + 8 * Z + 3) (nI v3)) (127 + 8 * Z + 4) (nI v4)) (127 + 8 * Z + 5) (nI v5)) (127 + 8 * Z + 6) (-4)) (127 + 8 * Z + 7) (-4)) 2 (nI (Z + 1)))) ∧ LA L tape e f' br' sp' hr' tk' vl') ∨
    (∃ c s t q, 1 ≤ c ∧ c ≤ 5 ∧ fX2_readNumbersWithin 6 sv4 6 sv5 0 fp (nI p) kn st (nI L) bytes numbers = some t ∧ t.1 = nI c ∧ t.2.1 = nI s ∧ fX6_readsLetter (nI L) f br sp hr tk vl (nI G) draft tape = some q ∧ q.1 = nI c ∧ q.2.1 = nI s) := by
  have hL := h.1
  have a0 : (127 : Int32) + (8 : Int32) * nI Z = nI (127 + 8 * Z) := by
    show nI 127 + nI 8 * nI Z = _
    rw [nI_mul, nI_add]
  have o0 : nI (127 + 8 * Z) + (0 : Int32) = nI (127 + 8 * Z + 0) := nI_add _ 0
  have o1 : nI (127 + 8 * Z) + (1 : Int32) = nI (127 + 8 * Z + 1) := nI_add _ 1
  have o2 : nI (127 + 8 * Z) + (2 : Int32) = nI (127 + 8 * Z + 2) := nI_add _ 2
  have o3 : nI (127 + 8 * Z) + (3 : Int32) = nI (127 + 8 * Z + 3) := nI_add _ 3
  have o4 : nI (127 + 8 * Z) + (4 : Int32) = nI (127 + 8 * Z + 4) := nI_add _ 4
  have o5 : nI (127 + 8 * Z) + (5 : Int32) = nI (127 + 8 * Z + 5) := nI_add _ 5
  have o6 : nI (127 + 8 * Z) + (6 : Int32) = nI (127 + 8 * Z + 6) := nI_add _ 6
  have o7 : nI (127 + 8 * Z) + (7 : Int32) = nI (127 + 8 * Z + 7) := nI_add _ 7
  have i0 : 127 + 8 * Z + 0 < 831 := by omega
  have k0 : 127 + 8 * Z + 0 < 2 ^ 31 := by omega
  have x0 : 2 ≠ 127 + 8 * Z + 0 := by omega
  have i1 : 127 + 8 * Z + 1 < 831 := by omega
  have k1 : 127 + 8 * Z + 1 < 2 ^ 31 := by omega
  have x1 : 2 ≠ 127 + 8 * Z + 1 := by omega
  have i2 : 127 + 8 * Z + 2 < 831 := by omega
  have k2 : 127 + 8 * Z + 2 < 2 ^ 31 := by omega
  have x2 : 2 ≠ 127 + 8 * Z + 2 := by omega
  have i3 : 127 + 8 * Z + 3 < 831 := by omega
  have k3 : 127 + 8 * Z + 3 < 2 ^ 31 := by omega
  have x3 : 2 ≠ 127 + 8 * Z + 3 := by omega
  have i4 : 127 + 8 * Z + 4 < 831 := by omega
  have k4 : 127 + 8 * Z + 4 < 2 ^ 31 := by omega
  have x4 : 2 ≠ 127 + 8 * Z + 4 := by omega
  have i5 : 127 + 8 * Z + 5 < 831 := by omega
  have k5 : 127 + 8 * Z + 5 < 2 ^ 31 := by omega
  have x5 : 2 ≠ 127 + 8 * Z + 5 := by omega
  have i6 : 127 + 8 * Z + 6 < 831 := by omega
  have k6 : 127 + 8 * Z + 6 < 2 ^ 31 := by omega
  have x6 : 2 ≠ 127 + 8 * Z + 6 := by omega
  have i7 : 127 + 8 * Z + 7 < 831 := by omega
  have k7 : 127 + 8 * Z + 7 < 2 ^ 31 := by omega
  have x7 : 2 ≠ 127 + 8 * Z + 7 := by omega
  have hb : 831 < 2 ^ 31 := by omega
  rcases num_step h hp 1 99 (by omega) (by omega) hl with ⟨v0, s0, e0, u0, w0, y0, z0, tk0, nr0, f0, b0, p0, h0, t0, l0, m0, hl0⟩ | ⟨c, s, ca, cz, cb, p0, h0, t0, l0, m0⟩
  · have m0 : fX6_number (nI L) f br sp hr tk vl tape (1 : Int32) (99 : Int32) = some (nI v0, f0, b0, p0, h0, t0, l0) := m0
    have c0 := fun f => cs_ok (L := L) (bytes := bytes) (n := 6) (i := 0) (lo := 1) (hi := 99) (by omega) (by omega) (f1 := sv4) (f2 := sv5) rfl rfl (by omega) ⟨u0, w0⟩ tk0 nr0 f fp kn st (numbers := numbers) (fun z => absurd z (by decide))
    rcases node_step h z0 hG (-4) hl0 with ⟨v1, s1, e1, w1, ne1, y1, z1, tk1, nr1, f1, b1, p1, h1, t1, l1, m1, hl1⟩ | ⟨c, s, ca, cz, cb, p1, h1, t1, l1, g1, m1⟩ | ⟨v, s, e, w, same, tkb, nrb, p1, h1, t1, l1, g1, m1⟩
    · have u1 : 0 ≤ v1 := Nat.zero_le _
      have c1 := fun f => cs_ok (L := L) (bytes := bytes) (n := 6) (i := 1) (lo := 0) (hi := 7) (by omega) (by omega) (f1 := sv4) (f2 := sv5) rfl rfl (by omega) ⟨u1, w1⟩ tk1 nr1 f fp (nI 2) (nI s0) (numbers := (upd numbers 0 (nI v0))) (fun z => absurd z (by decide))
      rcases node_step h z1 (show (max G (v1 + 1)) ≤ 8 by omega) (nI v1) hl1 with ⟨v2, s2, e2, w2, ne2, y2, z2, tk2, nr2, f2, b2, p2, h2, t2, l2, m2, hl2⟩ | ⟨c, s, ca, cz, cb, p2, h2, t2, l2, g2, m2⟩ | ⟨v, s, e, w, same, tkb, nrb, p2, h2, t2, l2, g2, m2⟩
      · have u2 : 0 ≤ v2 := Nat.zero_le _
        have c2 := fun f => cs_ok (L := L) (bytes := bytes) (n := 6) (i := 2) (lo := 0) (hi := 7) (by omega) (by omega) (f1 := sv4) (f2 := sv5) rfl rfl (by omega) ⟨u2, w2⟩ tk2 nr2 f fp (nI 2) (nI s1) (numbers := (upd (upd numbers 0 (nI v0)) 1 (nI v1))) (fun _ => ne2)
        rcases num_step h z2 1 99 (by omega) (by omega) hl2 with ⟨v3, s3, e3, u3, w3, y3, z3, tk3, nr3, f3, b3, p3, h3, t3, l3, m3, hl3⟩ | ⟨c, s, ca, cz, cb, p3, h3, t3, l3, m3⟩
        · have m3 : fX6_number (nI L) f2 b2 p2 h2 t2 l2 tape (1 : Int32) (99 : Int32) = some (nI v3, f3, b3, p3, h3, t3, l3) := m3
          have c3 := fun f => cs_ok (L := L) (bytes := bytes) (n := 6) (i := 3) (lo := 1) (hi := 99) (by omega) (by omega) (f1 := sv4) (f2 := sv5) rfl rfl (by omega) ⟨u3, w3⟩ tk3 nr3 f fp (nI 2) (nI s2) (numbers := (upd (upd (upd numbers 0 (nI v0)) 1 (nI v1)) 2 (nI v2))) (fun z => absurd z (by decide))
          rcases num_step h z3 1 64 (by omega) (by omega) hl3 with ⟨v4, s4, e4, u4, w4, y4, z4, tk4, nr4, f4, b4, p4, h4, t4, l4, m4, hl4⟩ | ⟨c, s, ca, cz, cb, p4, h4, t4, l4, m4⟩
          · have m4 : fX6_number (nI L) f3 b3 p3 h3 t3 l3 tape (1 : Int32) (64 : Int32) = some (nI v4, f4, b4, p4, h4, t4, l4) := m4
            have c4 := fun f => cs_ok (L := L) (bytes := bytes) (n := 6) (i := 4) (lo := 1) (hi := 64) (by omega) (by omega) (f1 := sv4) (f2 := sv5) rfl rfl (by omega) ⟨u4, w4⟩ tk4 nr4 f fp (nI 2) (nI s3) (numbers := (upd (upd (upd (upd numbers 0 (nI v0)) 1 (nI v1)) 2 (nI v2)) 3 (nI v3))) (fun z => absurd z (by decide))
            rcases num_step h z4 1 99 (by omega) (by omega) hl4 with ⟨v5, s5, e5, u5, w5, y5, z5, tk5, nr5, f5, b5, p5, h5, t5, l5, m5, hl5⟩ | ⟨c, s, ca, cz, cb, p5, h5, t5, l5, m5⟩
            · have m5 : fX6_number (nI L) f4 b4 p4 h4 t4 l4 tape (1 : Int32) (99 : Int32) = some (nI v5, f5, b5, p5, h5, t5, l5) := m5
              have c5 := fun f => cs_ok (L := L) (bytes := bytes) (n := 6) (i := 5) (lo := 1) (hi := 99) (by omega) (by omega) (f1 := sv4) (f2 := sv5) rfl rfl (by omega) ⟨u5, w5⟩ tk5 nr5 f fp (nI 2) (nI s4) (numbers := (upd (upd (upd (upd (upd numbers 0 (nI v0)) 1 (nI v1)) 2 (nI v2)) 3 (nI v3)) 4 (nI v4))) (fun z => absurd z (by decide))
              have mq : fX6_readsLetter (nI L) f br sp hr tk vl (nI G) draft tape = some (f5, b5, p5, h5, t5, l5, nI (max (max G (v1 + 1)) (v2 + 1)), (upd (upd (upd (upd (upd (upd (upd (upd (upd draft (127 + 8 * Z + 0) (nI v0)) (127 + 8 * Z + 1) (nI v1)) (127 + 8 * Z + 2) (nI v2)) (127 + 8 * Z + 3) (nI v3)) (127 + 8 * Z + 4) (nI v4)) (127 + 8 * Z + 5) (nI v5)) (127 + 8 * Z + 6) (-4)) (127 + 8 * Z + 7) (-4)) 2 (nI (Z + 1)))) := by
                unfold fX6_readsLetter
                simp only [hd, a0, o0, o1, o2, o3, o4, o5, o6, o7, gd_in i0 hb, gd_in i1 hb, gd_in i2 hb, gd_in i3 hb, gd_in i4 hb, gd_in i5 hb, gd_in i6 hb, gd_in i7 hb, nI_clamp k0, nI_clamp k1, nI_clamp k2, nI_clamp k3, nI_clamp k4, nI_clamp k5, nI_clamp k6, nI_clamp k7, nm_s, bd_s, upd_eq, upd_ne _ _ x0, upd_ne _ _ x1, upd_ne _ _ x2, upd_ne _ _ x3, upd_ne _ _ x4, upd_ne _ _ x5, upd_ne _ _ x6, upd_ne _ _ x7, nI_1 Z, m0, m1, m2, m3, m4, m5]
              exact Or.inl ⟨v0, v1, v2, v3, v4, v5, s5, e5, ⟨u0, w0, u1, w1, u2, w2, u3, w3, u4, w4, u5, w5, fun z => ne2 (by rw [z])⟩, by omega, z5, rnw_inr ((c0 1999).trans ((c1 1998).trans ((c2 1997).trans ((c3 1996).trans ((c4 1995).trans ((c5 1994).trans (cs_end (L := L) (bytes := bytes) (n := 6) (by omega) sv4 sv5 1993 fp (nI e5) (nI 2) (nI s5) _))))))), f5, b5, p5, h5, t5, l5, mq, hl5⟩
            · have m5 : fX6_number (nI L) f4 b4 p4 h4 t4 l4 tape (1 : Int32) (99 : Int32) = some (0, nI c, nI s, p5, h5, t5, l5) := m5
              obtain ⟨t, q1, q2, q3⟩ := cs_bad (L := L) (bytes := bytes) (n := 6) (i := 5) (lo := 1) (hi := 99) (by omega) (by omega) (f1 := sv4) (f2 := sv5) rfl rfl (by omega) (by omega) cb 1994 fp (nI 2) (nI s4) (upd (upd (upd (upd (upd numbers 0 (nI v0)) 1 (nI v1)) 2 (nI v2)) 3 (nI v3)) 4 (nI v4))
              have cc : c ≤ 9 := by omega
              have mq : ∃ q, fX6_readsLetter (nI L) f br sp hr tk vl (nI G) draft tape = some q ∧ q.1 = nI c ∧ q.2.1 = nI s := by
                unfold fX6_readsLetter
                simp only [hd, a0, o0, o1, o2, o3, o4, o5, o6, o7, gd_in i0 hb, gd_in i1 hb, gd_in i2 hb, gd_in i3 hb, gd_in i4 hb, gd_in i5 hb, gd_in i6 hb, gd_in i7 hb, nI_clamp k0, nI_clamp k1, nI_clamp k2, nI_clamp k3, nI_clamp k4, nI_clamp k5, nI_clamp k6, nI_clamp k7, nm_s, bd_s, upd_eq, upd_ne _ _ x0, upd_ne _ _ x1, upd_ne _ _ x2, upd_ne _ _ x3, upd_ne _ _ x4, upd_ne _ _ x5, upd_ne _ _ x6, upd_ne _ _ x7, nI_1 Z, m0, m1, m2, m3, m4, m5, m_number_f ca cc, m_node_f ca cc]
                exact ⟨_, rfl, rfl, rfl⟩
              obtain ⟨q, r1, r2, r3⟩ := mq
              exact Or.inr ⟨c, s, t, q, ca, by omega, rnw_inl ((c0 1999).trans ((c1 1998).trans ((c2 1997).trans ((c3 1996).trans ((c4 1995).trans (q1)))))), q2, q3, r1, r2, r3⟩
          · have m4 : fX6_number (nI L) f3 b3 p3 h3 t3 l3 tape (1 : Int32) (64 : Int32) = some (0, nI c, nI s, p4, h4, t4, l4) := m4
            obtain ⟨t, q1, q2, q3⟩ := cs_bad (L := L) (bytes := bytes) (n := 6) (i := 4) (lo := 1) (hi := 64) (by omega) (by omega) (f1 := sv4) (f2 := sv5) rfl rfl (by omega) (by omega) cb 1995 fp (nI 2) (nI s3) (upd (upd (upd (upd numbers 0 (nI v0)) 1 (nI v1)) 2 (nI v2)) 3 (nI v3))
            have cc : c ≤ 9 := by omega
            have mq : ∃ q, fX6_readsLetter (nI L) f br sp hr tk vl (nI G) draft tape = some q ∧ q.1 = nI c ∧ q.2.1 = nI s := by
              unfold fX6_readsLetter
              simp only [hd, a0, o0, o1, o2, o3, o4, o5, o6, o7, gd_in i0 hb, gd_in i1 hb, gd_in i2 hb, gd_in i3 hb, gd_in i4 hb, gd_in i5 hb, gd_in i6 hb, gd_in i7 hb, nI_clamp k0, nI_clamp k1, nI_clamp k2, nI_clamp k3, nI_clamp k4, nI_clamp k5, nI_clamp k6, nI_clamp k7, nm_s, bd_s, upd_eq, upd_ne _ _ x0, upd_ne _ _ x1, upd_ne _ _ x2, upd_ne _ _ x3, upd_ne _ _ x4, upd_ne _ _ x5, upd_ne _ _ x6, upd_ne _ _ x7, nI_1 Z, m0, m1, m2, m3, m4, m_number_f ca cc, m_node_f ca cc]
              exact ⟨_, rfl, rfl, rfl⟩
            obtain ⟨q, r1, r2, r3⟩ := mq
            exact Or.inr ⟨c, s, t, q, ca, by omega, rnw_inl ((c0 1999).trans ((c1 1998).trans ((c2 1997).trans ((c3 1996).trans (q1))))), q2, q3, r1, r2, r3⟩
        · have m3 : fX6_number (nI L) f2 b2 p2 h2 t2 l2 tape (1 : Int32) (99 : Int32) = some (0, nI c, nI s, p3, h3, t3, l3) := m3
          obtain ⟨t, q1, q2, q3⟩ := cs_bad (L := L) (bytes := bytes) (n := 6) (i := 3) (lo := 1) (hi := 99) (by omega) (by omega) (f1 := sv4) (f2 := sv5) rfl rfl (by omega) (by omega) cb 1996 fp (nI 2) (nI s2) (upd (upd (upd numbers 0 (nI v0)) 1 (nI v1)) 2 (nI v2))
          have cc : c ≤ 9 := by omega
          have mq : ∃ q, fX6_readsLetter (nI L) f br sp hr tk vl (nI G) draft tape = some q ∧ q.1 = nI c ∧ q.2.1 = nI s := by
            unfold fX6_readsLetter
            simp only [hd, a0, o0, o1, o2, o3, o4, o5, o6, o7, gd_in i0 hb, gd_in i1 hb, gd_in i2 hb, gd_in i3 hb, gd_in i4 hb, gd_in i5 hb, gd_in i6 hb, gd_in i7 hb, nI_clamp k0, nI_clamp k1, nI_clamp k2, nI_clamp k3, nI_clamp k4, nI_clamp k5, nI_clamp k6, nI_clamp k7, nm_s, bd_s, upd_eq, upd_ne _ _ x0, upd_ne _ _ x1, upd_ne _ _ x2, upd_ne _ _ x3, upd_ne _ _ x4, upd_ne _ _ x5, upd_ne _ _ x6, upd_ne _ _ x7, nI_1 Z, m0, m1, m2, m3, m_number_f ca cc, m_node_f ca cc]
            exact ⟨_, rfl, rfl, rfl⟩
          obtain ⟨q, r1, r2, r3⟩ := mq
          exact Or.inr ⟨c, s, t, q, ca, by omega, rnw_inl ((c0 1999).trans ((c1 1998).trans ((c2 1997).trans (q1)))), q2, q3, r1, r2, r3⟩
      · obtain ⟨t, q1, q2, q3⟩ := cs_bad (L := L) (bytes := bytes) (n := 6) (i := 2) (lo := 0) (hi := 7) (by omega) (by omega) (f1 := sv4) (f2 := sv5) rfl rfl (by omega) (by omega) cb 1997 fp (nI 2) (nI s1) (upd (upd numbers 0 (nI v0)) 1 (nI v1))
        have cc : c ≤ 9 := by omega
        have mq : ∃ q, fX6_readsLetter (nI L) f br sp hr tk vl (nI G) draft tape = some q ∧ q.1 = nI c ∧ q.2.1 = nI s := by
          unfold fX6_readsLetter
          simp only [hd, a0, o0, o1, o2, o3, o4, o5, o6, o7, gd_in i0 hb, gd_in i1 hb, gd_in i2 hb, gd_in i3 hb, gd_in i4 hb, gd_in i5 hb, gd_in i6 hb, gd_in i7 hb, nI_clamp k0, nI_clamp k1, nI_clamp k2, nI_clamp k3, nI_clamp k4, nI_clamp k5, nI_clamp k6, nI_clamp k7, nm_s, bd_s, upd_eq, upd_ne _ _ x0, upd_ne _ _ x1, upd_ne _ _ x2, upd_ne _ _ x3, upd_ne _ _ x4, upd_ne _ _ x5, upd_ne _ _ x6, upd_ne _ _ x7, nI_1 Z, m0, m1, m2, m_number_f ca cc, m_node_f ca cc]
          exact ⟨_, rfl, rfl, rfl⟩
        obtain ⟨q, r1, r2, r3⟩ := mq
        exact Or.inr ⟨c, s, t, q, ca, by omega, rnw_inl ((c0 1999).trans ((c1 1998).trans (q1))), q2, q3, r1, r2, r3⟩
      · obtain ⟨t, q1, q2, q3⟩ := cs_same (L := L) (bytes := bytes) (n := 6) (lo := 0) (hi := 7) (by omega) (by omega) (f1 := sv4) (f2 := sv5) rfl rfl (by omega) ⟨Nat.zero_le _, w⟩ tkb nrb 1997 fp (nI 2) (nI s1) (numbers := (upd (upd numbers 0 (nI v0)) 1 (nI v1))) same
        have mq : ∃ q, fX6_readsLetter (nI L) f br sp hr tk vl (nI G) draft tape = some q ∧ q.1 = nI 5 ∧ q.2.1 = nI s := by
          unfold fX6_readsLetter
          simp only [hd, a0, o0, o1, o2, o3, o4, o5, o6, o7, gd_in i0 hb, gd_in i1 hb, gd_in i2 hb, gd_in i3 hb, gd_in i4 hb, gd_in i5 hb, gd_in i6 hb, gd_in i7 hb, nI_clamp k0, nI_clamp k1, nI_clamp k2, nI_clamp k3, nI_clamp k4, nI_clamp k5, nI_clamp k6, nI_clamp k7, nm_s, bd_s, upd_eq, upd_ne _ _ x0, upd_ne _ _ x1, upd_ne _ _ x2, upd_ne _ _ x3, upd_ne _ _ x4, upd_ne _ _ x5, upd_ne _ _ x6, upd_ne _ _ x7, nI_1 Z, m0, m1, m2, m_number_f (c := 5) (by omega) (by omega), m_node_f (c := 5) (by omega) (by omega)]
          exact ⟨_, rfl, rfl, rfl⟩
        obtain ⟨q, r1, r2, r3⟩ := mq
        exact Or.inr ⟨5, s, t, q, by omega, by omega, rnw_inl ((c0 1999).trans ((c1 1998).trans (q1))), q2, q3, r1, r2, r3⟩
    · obtain ⟨t, q1, q2, q3⟩ := cs_bad (L := L) (bytes := bytes) (n := 6) (i := 1) (lo := 0) (hi := 7) (by omega) (by omega) (f1 := sv4) (f2 := sv5) rfl rfl (by omega) (by omega) cb 1998 fp (nI 2) (nI s0) (upd numbers 0 (nI v0))
      have cc : c ≤ 9 := by omega
      have mq : ∃ q, fX6_readsLetter (nI L) f br sp hr tk vl (nI G) draft tape = some q ∧ q.1 = nI c ∧ q.2.1 = nI s := by
        unfold fX6_readsLetter
        simp only [hd, a0, o0, o1, o2, o3, o4, o5, o6, o7, gd_in i0 hb, gd_in i1 hb, gd_in i2 hb, gd_in i3 hb, gd_in i4 hb, gd_in i5 hb, gd_in i6 hb, gd_in i7 hb, nI_clamp k0, nI_clamp k1, nI_clamp k2, nI_clamp k3, nI_clamp k4, nI_clamp k5, nI_clamp k6, nI_clamp k7, nm_s, bd_s, upd_eq, upd_ne _ _ x0, upd_ne _ _ x1, upd_ne _ _ x2, upd_ne _ _ x3, upd_ne _ _ x4, upd_ne _ _ x5, upd_ne _ _ x6, upd_ne _ _ x7, nI_1 Z, m0, m1, m_number_f ca cc, m_node_f ca cc]
        exact ⟨_, rfl, rfl, rfl⟩
      obtain ⟨q, r1, r2, r3⟩ := mq
      exact Or.inr ⟨c, s, t, q, ca, by omega, rnw_inl ((c0 1999).trans (q1)), q2, q3, r1, r2, r3⟩
    · exact absurd same (nI_nm4 (by omega))
  · have m0 : fX6_number (nI L) f br sp hr tk vl tape (1 : Int32) (99 : Int32) = some (0, nI c, nI s, p0, h0, t0, l0) := m0
    obtain ⟨t, q1, q2, q3⟩ := cs_bad (L := L) (bytes := bytes) (n := 6) (i := 0) (lo := 1) (hi := 99) (by omega) (by omega) (f1 := sv4) (f2 := sv5) rfl rfl (by omega) (by omega) cb 1999 fp kn st numbers
    have cc : c ≤ 9 := by omega
    have mq : ∃ q, fX6_readsLetter (nI L) f br sp hr tk vl (nI G) draft tape = some q ∧ q.1 = nI c ∧ q.2.1 = nI s := by
      unfold fX6_readsLetter
      simp only [hd, a0, o0, o1, o2, o3, o4, o5, o6, o7, gd_in i0 hb, gd_in i1 hb, gd_in i2 hb, gd_in i3 hb, gd_in i4 hb, gd_in i5 hb, gd_in i6 hb, gd_in i7 hb, nI_clamp k0, nI_clamp k1, nI_clamp k2, nI_clamp k3, nI_clamp k4, nI_clamp k5, nI_clamp k6, nI_clamp k7, nm_s, bd_s, upd_eq, upd_ne _ _ x0, upd_ne _ _ x1, upd_ne _ _ x2, upd_ne _ _ x3, upd_ne _ _ x4, upd_ne _ _ x5, upd_ne _ _ x6, upd_ne _ _ x7, nI_1 Z, m0, m_number_f ca cc, m_node_f ca cc]
      exact ⟨_, rfl, rfl, rfl⟩
    obtain ⟨q, r1, r2, r3⟩ := mq
    exact Or.inr ⟨c, s, t, q, ca, by omega, rnw_inl (q1), q2, q3, r1, r2, r3⟩
end LS
