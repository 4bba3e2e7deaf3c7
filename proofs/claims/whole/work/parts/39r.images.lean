theorem b_byte : ∀ t, t < 128 → vp_nar .byte ((nI t).toInt8.toInt32) = nI t := by decide +kernel
theorem TPE_le {L t : Nat} {B : Nat → Nat} {bytes tape : Nat → Int32} (h : TPE L B bytes tape) (ht : t ≤ L) : TPE t B bytes tape := ⟨Nat.le_trans ht h.1, fun i hi => h.2 i (by omega)⟩
theorem do_feed {L : Nat} {B : Nat → Nat} {bytes tape : Nat → Int32} (h : TPE L B bytes tape) (x : Int32) : ∃ q q' L' B', fX5_feed (nI L) bytes x = some q ∧ fX6_feed (nI L) tape x = some q' ∧ q.1 = q'.1 ∧ q.2.1 = nI L' ∧ q'.2.1 = nI L' ∧ TPE L' B' q.2.2 q'.2.2 := by
  have hL := h.1
  unfold fX5_feed fX6_feed
  rcases in_sim x 0 127 (A := 0) (B := 127) (by decide) (by decide) (by omega) (by omega) with ⟨t, -, u, rfl, g⟩ | ⟨g0, g⟩
  · rw [g, bd_s, if_neg n10, if_neg (nI_pos (by omega)), if_pos (show nI t ≤ 127 from nI_le (b := 127) u (by omega))]
    by_cases full : L = 300
    · rw [if_neg (show ¬ nI L < 300 by rw [full]; decide), if_pos (show nI L = 300 by rw [full]; rfl)]
      exact ⟨_, _, L, B, rfl, rfl, rfl, rfl, rfl, h⟩
    · rw [if_pos (show nI L < 300 from nI_lt (b := 300) (by omega) (by omega)), if_neg (show ¬ nI L = 300 from fun z => full (nI_inj (b := 300) (by omega) (by omega) z)), gd_in (show L < 300 by omega) (by omega), gd_in (show L < 300 by omega) (by omega), nI_clamp (by omega), nm_s, nm_s, nI_1, b_byte t (by omega)]
      refine ⟨_, _, L + 1, fun i => if i = L then t else B i, rfl, rfl, rfl, rfl, rfl, by omega, fun i hi => ?_⟩
      dsimp only
      by_cases e : i = L
      · subst e
        rw [if_pos rfl, upd_eq, upd_eq]
        exact ⟨by omega, rfl, rfl⟩
      · rw [if_neg e, upd_ne _ _ e, upd_ne _ _ e]
        exact h.2 i (by omega)
  · rw [g, bd_s, if_pos p00]
    refine ⟨(-1, nI L, bytes), _, L, B, ?_, rfl, rfl, rfl, rfl, h⟩
    rcases g0 with g0 | g0
    · rw [if_pos (show x < 0 from g0)]
    · rw [if_neg (show ¬ x ≤ 127 from Int32.not_le.mpr g0), ite_self]
theorem do_end {L : Nat} {B : Nat → Nat} {bytes tape : Nat → Int32} (h : TPE L B bytes tape) (x : Int32) : ∃ q q' L', fX5_end (nI L) x = some q ∧ fX6_end (nI L) x = some q' ∧ q.1 = q'.1 ∧ q.2 = nI L' ∧ q'.2 = nI L' ∧ TPE L' B bytes tape := by
  have hL := h.1
  unfold fX5_end fX6_end
  have em : fX6_in x.toInt64 0 (nI L).toInt64 = some (if x < nI 0 then 0 else if nI L < x then 0 else 1) := m_in x (nI 0) (nI L)
  rw [em, bd_s]
  by_cases c1 : x < 0
  · rw [if_pos c1, if_pos (show x < nI 0 from c1), if_pos p00]
    exact ⟨_, _, L, rfl, rfl, rfl, rfl, rfl, h⟩
  · rw [if_neg c1, if_neg (show ¬ x < nI 0 from c1)]
    by_cases c2 : x ≤ nI L
    · obtain ⟨t, ht, rfl⟩ := nI_of2 (nI_toInt (show L < 2 ^ 31 by omega)) c1 c2
      rw [if_pos c2, if_neg (Int32.not_lt.mpr c2), if_neg n10]
      exact ⟨_, _, t, rfl, rfl, rfl, rfl, rfl, TPE_le h ht⟩
    · rw [if_neg c2, if_pos (Int32.not_le.mp c2), if_pos p00]
      exact ⟨_, _, L, rfl, rfl, rfl, rfl, rfl, h⟩
theorem kv01 {k : Int32} (h : k = 0 ∨ k = 1) : (if k = 0 then some (0 : Int32) else some (1 : Int32)) = some k := by
  rcases h with rfl | rfl <;> rfl
theorem do_keep {Bd : Nat} {clock : Int32} {nodes : Int32} {meetings : Int32} {letters : Int32} {rooms : Nat → Int32} {mrows : Nat → Int32} {lrows : Nat → Int32} {rules : Nat → Int32} {counts : Nat → Int32} {refused : Nat → Int32} {tokens : Nat → Int32} {hops : Nat → Int32} {since : Nat → Int32} {notes : Nat → Int32} {lasts : Nat → Int32} {dAt : Nat → Int32} {dHops : Nat → Int32} {clockA : Int32} {nodesA : Int32} {meetingsA : Int32} {lettersA : Int32} {roomsA : Nat → Int32} {mrowsA : Nat → Int32} {lrowsA : Nat → Int32} {rulesA : Nat → Int32} {countsA : Nat → Int32} {refusedA : Nat → Int32} {tokensA : Nat → Int32} {hopsA : Nat → Int32} {sinceA : Nat → Int32} {notesA : Nat → Int32} {lastsA : Nat → Int32} {dAtA : Nat → Int32} {dHopsA : Nat → Int32} {clockB : Int32} {nodesB : Int32} {meetingsB : Int32} {lettersB : Int32} {roomsB : Nat → Int32} {mrowsB : Nat → Int32} {lrowsB : Nat → Int32} {rulesB : Nat → Int32} {countsB : Nat → Int32} {refusedB : Nat → Int32} {tokensB : Nat → Int32} {hopsB : Nat → Int32} {sinceB : Nat → Int32} {notesB : Nat → Int32} {lastsB : Nat → Int32} {dAtB : Nat → Int32} {dHopsB : Nat → Int32} {page mk kept : Nat → Int32} (hW : WR Bd clock nodes meetings letters rooms mrows lrows rules counts refused tokens hops since notes lasts dAt dHops page) (k0 : KR Bd (kept 0) clockA nodesA meetingsA lettersA roomsA mrowsA lrowsA rulesA countsA refusedA tokensA hopsA sinceA notesA lastsA dAtA dHopsA (fun x => mk (831 * 0 + x))) (k1 : KR Bd (kept 1) clockB nodesB meetingsB lettersB roomsB mrowsB lrowsB rulesB countsB refusedB tokensB hopsB sinceB notesB lastsB dAtB dHopsB (fun x => mk (831 * 1 + x))) (x : Int32) : ∃ q q', fX5_keep clock nodes meetings letters rooms mrows lrows rules counts refused tokens hops since notes lasts dAt dHops clockA nodesA meetingsA lettersA roomsA mrowsA lrowsA rulesA countsA refusedA tokensA hopsA sinceA notesA lastsA dAtA dHopsA clockB nodesB meetingsB lettersB roomsB mrowsB lrowsB rulesB countsB refusedB tokensB hopsB sinceB notesB lastsB dAtB dHopsB kept x = some q ∧ fX6_keep page mk kept x = some q' ∧ q.1 = q'.1 ∧ q.2.2.2.2.2.2.2.2.2.2.2.2.2.2.2.2.2.2.2.2.2.2.2.2.2.2.2.2.2.2.2.2.2.2.2 = q'.2.2 ∧ KR Bd (q.2.2.2.2.2.2.2.2.2.2.2.2.2.2.2.2.2.2.2.2.2.2.2.2.2.2.2.2.2.2.2.2.2.2.2 0) q.2.1 q.2.2.1 q.2.2.2.1 q.2.2.2.2.1 q.2.2.2.2.2.1 q.2.2.2.2.2.2.1 q.2.2.2.2.2.2.2.1 q.2.2.2.2.2.2.2.2.1 q.2.2.2.2.2.2.2.2.2.1 q.2.2.2.2.2.2.2.2.2.2.1 q.2.2.2.2.2.2.2.2.2.2.2.1 q.2.2.2.2.2.2.2.2.2.2.2.2.1 q.2.2.2.2.2.2.2.2.2.2.2.2.2.1 q.2.2.2.2.2.2.2.2.2.2.2.2.2.2.1 q.2.2.2.2.2.2.2.2.2.2.2.2.2.2.2.1 q.2.2.2.2.2.2.2.2.2.2.2.2.2.2.2.2.1 q.2.2.2.2.2.2.2.2.2.2.2.2.2.2.2.2.2.1 (fun x => q'.2.1 (831 * 0 + x)) ∧ KR Bd (q.2.2.2.2.2.2.2.2.2.2.2.2.2.2.2.2.2.2.2.2.2.2.2.2.2.2.2.2.2.2.2.2.2.2.2 1) q.2.2.2.2.2.2.2.2.2.2.2.2.2.2.2.2.2.2.1 q.2.2.2.2.2.2.2.2.2.2.2.2.2.2.2.2.2.2.2.1 q.2.2.2.2.2.2.2.2.2.2.2.2.2.2.2.2.2.2.2.2.1 q.2.2.2.2.2.2.2.2.2.2.2.2.2.2.2.2.2.2.2.2.2.1 q.2.2.2.2.2.2.2.2.2.2.2.2.2.2.2.2.2.2.2.2.2.2.1 q.2.2.2.2.2.2.2.2.2.2.2.2.2.2.2.2.2.2.2.2.2.2.2.1 q.2.2.2.2.2.2.2.2.2.2.2.2.2.2.2.2.2.2.2.2.2.2.2.2.1 q.2.2.2.2.2.2.2.2.2.2.2.2.2.2.2.2.2.2.2.2.2.2.2.2.2.1 q.2.2.2.2.2.2.2.2.2.2.2.2.2.2.2.2.2.2.2.2.2.2.2.2.2.2.1 q.2.2.2.2.2.2.2.2.2.2.2.2.2.2.2.2.2.2.2.2.2.2.2.2.2.2.2.1 q.2.2.2.2.2.2.2.2.2.2.2.2.2.2.2.2.2.2.2.2.2.2.2.2.2.2.2.2.1 q.2.2.2.2.2.2.2.2.2.2.2.2.2.2.2.2.2.2.2.2.2.2.2.2.2.2.2.2.2.1 q.2.2.2.2.2.2.2.2.2.2.2.2.2.2.2.2.2.2.2.2.2.2.2.2.2.2.2.2.2.2.1 q.2.2.2.2.2.2.2.2.2.2.2.2.2.2.2.2.2.2.2.2.2.2.2.2.2.2.2.2.2.2.2.1 q.2.2.2.2.2.2.2.2.2.2.2.2.2.2.2.2.2.2.2.2.2.2.2.2.2.2.2.2.2.2.2.2.1 q.2.2.2.2.2.2.2.2.2.2.2.2.2.2.2.2.2.2.2.2.2.2.2.2.2.2.2.2.2.2.2.2.2.1 q.2.2.2.2.2.2.2.2.2.2.2.2.2.2.2.2.2.2.2.2.2.2.2.2.2.2.2.2.2.2.2.2.2.2.1 (fun x => q'.2.1 (831 * 1 + x)) := by
  rcases in_sim x 0 1 (A := 0) (B := 1) (by decide) (by decide) (by omega) (by omega) with ⟨t, -, u, rfl, g⟩ | ⟨g0, g⟩
  · rcases (show t = 0 ∨ t = 1 by omega) with rfl | rfl
    · obtain ⟨k', e1, e2, e3⟩ := keep_loop page (i := 0) (by omega) (kept 0) FU 0 mk (Nat.zero_le _) (by unfold FU; omega)
      have e1 : fX6_keep_29 page (nI 0) (kept 0) FU mk (0 : Int32) = some k' := e1
      obtain ⟨c, c1, c2, c3⟩ := copy_from clockA nodesA meetingsA lettersA roomsA mrowsA lrowsA rulesA countsA refusedA tokensA hopsA sinceA notesA lastsA dAtA dHopsA hW (page2 := fun x => k' (831 * 0 + x)) (fun i hi => e2 i (Nat.zero_le _) hi)
      have kv := kv01 (KR_01 k0)
      refine ⟨(kept 0, c.1, c.2.1, c.2.2.1, c.2.2.2.1, c.2.2.2.2.1, c.2.2.2.2.2.1, c.2.2.2.2.2.2.1, c.2.2.2.2.2.2.2.1, c.2.2.2.2.2.2.2.2.1, c.2.2.2.2.2.2.2.2.2.1, c.2.2.2.2.2.2.2.2.2.2.1, c.2.2.2.2.2.2.2.2.2.2.2.1, c.2.2.2.2.2.2.2.2.2.2.2.2.1, c.2.2.2.2.2.2.2.2.2.2.2.2.2.1, c.2.2.2.2.2.2.2.2.2.2.2.2.2.2.1, c.2.2.2.2.2.2.2.2.2.2.2.2.2.2.2.1, c.2.2.2.2.2.2.2.2.2.2.2.2.2.2.2.2, clockB, nodesB, meetingsB, lettersB, roomsB, mrowsB, lrowsB, rulesB, countsB, refusedB, tokensB, hopsB, sinceB, notesB, lastsB, dAtB, dHopsB, upd kept 0 1), (kept 0, k', upd kept 0 1), ?_, ?_, rfl, rfl, Or.inr ⟨rfl, c3⟩, KR_page (page2 := fun x => k' (831 * 1 + x)) (fun i hi => e3 (831 * 1 + i) (Or.inr (by omega))) k1⟩
      · unfold fX5_keep
        rw [if_neg (show ¬ nI 0 < (0 : Int32) by decide), if_pos (show nI 0 < (2 : Int32) by decide), gd_in (show 0 < 2 by omega) (by omega), nI_clamp (show 0 < 2 ^ 31 by omega), kv, bd_s, if_pos (show nI 0 = (0 : Int32) from rfl), c1, bd_s, gd_in (show 0 < 2 by omega) (by omega), nm_s, nar1]
      · unfold fX6_keep
        rw [g, bd_s, if_neg n10, gd_in (show 0 < 2 by omega) (by omega), nI_clamp (show 0 < 2 ^ 31 by omega), kv, bd_s, e1, bd_s, gd_in (show 0 < 2 by omega) (by omega), nm_s, nar1]
    · obtain ⟨k', e1, e2, e3⟩ := keep_loop page (i := 1) (by omega) (kept 1) FU 0 mk (Nat.zero_le _) (by unfold FU; omega)
      have e1 : fX6_keep_29 page (nI 1) (kept 1) FU mk (0 : Int32) = some k' := e1
      obtain ⟨c, c1, c2, c3⟩ := copy_from clockB nodesB meetingsB lettersB roomsB mrowsB lrowsB rulesB countsB refusedB tokensB hopsB sinceB notesB lastsB dAtB dHopsB hW (page2 := fun x => k' (831 * 1 + x)) (fun i hi => e2 i (Nat.zero_le _) hi)
      have kv := kv01 (KR_01 k1)
      refine ⟨(kept 1, clockA, nodesA, meetingsA, lettersA, roomsA, mrowsA, lrowsA, rulesA, countsA, refusedA, tokensA, hopsA, sinceA, notesA, lastsA, dAtA, dHopsA, c.1, c.2.1, c.2.2.1, c.2.2.2.1, c.2.2.2.2.1, c.2.2.2.2.2.1, c.2.2.2.2.2.2.1, c.2.2.2.2.2.2.2.1, c.2.2.2.2.2.2.2.2.1, c.2.2.2.2.2.2.2.2.2.1, c.2.2.2.2.2.2.2.2.2.2.1, c.2.2.2.2.2.2.2.2.2.2.2.1, c.2.2.2.2.2.2.2.2.2.2.2.2.1, c.2.2.2.2.2.2.2.2.2.2.2.2.2.1, c.2.2.2.2.2.2.2.2.2.2.2.2.2.2.1, c.2.2.2.2.2.2.2.2.2.2.2.2.2.2.2.1, c.2.2.2.2.2.2.2.2.2.2.2.2.2.2.2.2, upd kept 1 1), (kept 1, k', upd kept 1 1), ?_, ?_, rfl, rfl, KR_page (page2 := fun x => k' (831 * 0 + x)) (fun i hi => e3 (831 * 0 + i) (Or.inl (by omega))) k0, Or.inr ⟨rfl, c3⟩⟩
      · unfold fX5_keep
        rw [if_neg (show ¬ nI 1 < (0 : Int32) by decide), if_pos (show nI 1 < (2 : Int32) by decide), gd_in (show 1 < 2 by omega) (by omega), nI_clamp (show 1 < 2 ^ 31 by omega), kv, bd_s, if_neg (show ¬ nI 1 = (0 : Int32) by decide), if_pos (show nI 1 = (1 : Int32) from rfl), c1, bd_s, gd_in (show 1 < 2 by omega) (by omega), nm_s, nar1]
      · unfold fX6_keep
        rw [g, bd_s, if_neg n10, gd_in (show 1 < 2 by omega) (by omega), nI_clamp (show 1 < 2 ^ 31 by omega), kv, bd_s, e1, bd_s, gd_in (show 1 < 2 by omega) (by omega), nm_s, nar1]
  · refine ⟨(-1, clockA, nodesA, meetingsA, lettersA, roomsA, mrowsA, lrowsA, rulesA, countsA, refusedA, tokensA, hopsA, sinceA, notesA, lastsA, dAtA, dHopsA, clockB, nodesB, meetingsB, lettersB, roomsB, mrowsB, lrowsB, rulesB, countsB, refusedB, tokensB, hopsB, sinceB, notesB, lastsB, dAtB, dHopsB, kept), (-1, mk, kept), ?_, by unfold fX6_keep; rw [g, bd_s, if_pos p00], rfl, rfl, k0, k1⟩
    unfold fX5_keep
    rcases g0 with g0 | g0
    · rw [if_pos (show x < 0 from g0)]
    · have : ¬ x < 2 := Int32.not_lt.mpr (by
        rw [Int32.le_iff_toInt_le]
        rw [Int32.lt_iff_toInt_lt, show (nI 1).toInt = 1 from rfl] at g0
        rw [show (2 : Int32).toInt = 2 from rfl]
        omega)
      rw [if_neg this, ite_self]
theorem do_back {Bd : Nat} {clock : Int32} {nodes : Int32} {meetings : Int32} {letters : Int32} {rooms : Nat → Int32} {mrows : Nat → Int32} {lrows : Nat → Int32} {rules : Nat → Int32} {counts : Nat → Int32} {refused : Nat → Int32} {tokens : Nat → Int32} {hops : Nat → Int32} {since : Nat → Int32} {notes : Nat → Int32} {lasts : Nat → Int32} {dAt : Nat → Int32} {dHops : Nat → Int32} {clockA : Int32} {nodesA : Int32} {meetingsA : Int32} {lettersA : Int32} {roomsA : Nat → Int32} {mrowsA : Nat → Int32} {lrowsA : Nat → Int32} {rulesA : Nat → Int32} {countsA : Nat → Int32} {refusedA : Nat → Int32} {tokensA : Nat → Int32} {hopsA : Nat → Int32} {sinceA : Nat → Int32} {notesA : Nat → Int32} {lastsA : Nat → Int32} {dAtA : Nat → Int32} {dHopsA : Nat → Int32} {clockB : Int32} {nodesB : Int32} {meetingsB : Int32} {lettersB : Int32} {roomsB : Nat → Int32} {mrowsB : Nat → Int32} {lrowsB : Nat → Int32} {rulesB : Nat → Int32} {countsB : Nat → Int32} {refusedB : Nat → Int32} {tokensB : Nat → Int32} {hopsB : Nat → Int32} {sinceB : Nat → Int32} {notesB : Nat → Int32} {lastsB : Nat → Int32} {dAtB : Nat → Int32} {dHopsB : Nat → Int32} {page mk kept : Nat → Int32} (hW : WR Bd clock nodes meetings letters rooms mrows lrows rules counts refused tokens hops since notes lasts dAt dHops page) (k0 : KR Bd (kept 0) clockA nodesA meetingsA lettersA roomsA mrowsA lrowsA rulesA countsA refusedA tokensA hopsA sinceA notesA lastsA dAtA dHopsA (fun x => mk (831 * 0 + x))) (k1 : KR Bd (kept 1) clockB nodesB meetingsB lettersB roomsB mrowsB lrowsB rulesB countsB refusedB tokensB hopsB sinceB notesB lastsB dAtB dHopsB (fun x => mk (831 * 1 + x))) (x : Int32) : ∃ q q', fX5_back clock nodes meetings letters rooms mrows lrows rules counts refused tokens hops since notes lasts dAt dHops clockA nodesA meetingsA lettersA roomsA mrowsA lrowsA rulesA countsA refusedA tokensA hopsA sinceA notesA lastsA dAtA dHopsA clockB nodesB meetingsB lettersB roomsB mrowsB lrowsB rulesB countsB refusedB tokensB hopsB sinceB notesB lastsB dAtB dHopsB kept x = some q ∧ fX6_back page mk kept x = some q' ∧ q.1 = q'.1 ∧ WR Bd q.2.1 q.2.2.1 q.2.2.2.1 q.2.2.2.2.1 q.2.2.2.2.2.1 q.2.2.2.2.2.2.1 q.2.2.2.2.2.2.2.1 q.2.2.2.2.2.2.2.2.1 q.2.2.2.2.2.2.2.2.2.1 q.2.2.2.2.2.2.2.2.2.2.1 q.2.2.2.2.2.2.2.2.2.2.2.1 q.2.2.2.2.2.2.2.2.2.2.2.2.1 q.2.2.2.2.2.2.2.2.2.2.2.2.2.1 q.2.2.2.2.2.2.2.2.2.2.2.2.2.2.1 q.2.2.2.2.2.2.2.2.2.2.2.2.2.2.2.1 q.2.2.2.2.2.2.2.2.2.2.2.2.2.2.2.2.1 q.2.2.2.2.2.2.2.2.2.2.2.2.2.2.2.2.2 q'.2 := by
  rcases in_sim x 0 1 (A := 0) (B := 1) (by decide) (by decide) (by omega) (by omega) with ⟨t, -, u, rfl, g⟩ | ⟨g0, g⟩
  · rcases (show t = 0 ∨ t = 1 by omega) with rfl | rfl
    · rcases k0 with z | ⟨z, hA⟩
      · refine ⟨(-2, clock, nodes, meetings, letters, rooms, mrows, lrows, rules, counts, refused, tokens, hops, since, notes, lasts, dAt, dHops), (-2, page), ?_, ?_, rfl, hW⟩
        · unfold fX5_back
          rw [if_neg (show ¬ nI 0 < (0 : Int32) by decide), if_pos (show nI 0 < (2 : Int32) by decide), gd_in (show 0 < 2 by omega) (by omega), nI_clamp (show 0 < 2 ^ 31 by omega), if_pos z]
        · unfold fX6_back
          rw [g, bd_s, if_neg n10, gd_in (show 0 < 2 by omega) (by omega), nI_clamp (show 0 < 2 ^ 31 by omega), if_pos z]
      · have nz : ¬ kept 0 = 0 := by rw [z]; decide
        obtain ⟨p', e1, e2⟩ := back_loop mk (i := 0) (by omega) FU 0 page (Nat.zero_le _) (by unfold FU; omega)
        have e1 : fX6_back_26 mk (nI 0) FU page (0 : Int32) = some p' := e1
        obtain ⟨c, c1, c2, c3⟩ := copy_from clock nodes meetings letters rooms mrows lrows rules counts refused tokens hops since notes lasts dAt dHops hA (page2 := p') (fun i hi => (e2 i hi).trans (if_neg (by omega)))
        refine ⟨(c.1, c.1, c.2.1, c.2.2.1, c.2.2.2.1, c.2.2.2.2.1, c.2.2.2.2.2.1, c.2.2.2.2.2.2.1, c.2.2.2.2.2.2.2.1, c.2.2.2.2.2.2.2.2.1, c.2.2.2.2.2.2.2.2.2.1, c.2.2.2.2.2.2.2.2.2.2.1, c.2.2.2.2.2.2.2.2.2.2.2.1, c.2.2.2.2.2.2.2.2.2.2.2.2.1, c.2.2.2.2.2.2.2.2.2.2.2.2.2.1, c.2.2.2.2.2.2.2.2.2.2.2.2.2.2.1, c.2.2.2.2.2.2.2.2.2.2.2.2.2.2.2.1, c.2.2.2.2.2.2.2.2.2.2.2.2.2.2.2.2), (p' 3, p'), ?_, ?_, ?_, c3⟩
        · unfold fX5_back
          rw [if_neg (show ¬ nI 0 < (0 : Int32) by decide), if_pos (show nI 0 < (2 : Int32) by decide), gd_in (show 0 < 2 by omega) (by omega), nI_clamp (show 0 < 2 ^ 31 by omega), if_neg nz, if_pos (show nI 0 = (0 : Int32) from rfl), c1, bd_s]
        · unfold fX6_back
          rw [g, bd_s, if_neg n10, gd_in (show 0 < 2 by omega) (by omega), nI_clamp (show 0 < 2 ^ 31 by omega), if_neg nz, e1, bd_s]
        · obtain ⟨N, K, Z, C, -, e, -, -, -, hI, -⟩ := c3
          exact e.trans hI.p3.symm
    · rcases k1 with z | ⟨z, hA⟩
      · refine ⟨(-2, clock, nodes, meetings, letters, rooms, mrows, lrows, rules, counts, refused, tokens, hops, since, notes, lasts, dAt, dHops), (-2, page), ?_, ?_, rfl, hW⟩
        · unfold fX5_back
          rw [if_neg (show ¬ nI 1 < (0 : Int32) by decide), if_pos (show nI 1 < (2 : Int32) by decide), gd_in (show 1 < 2 by omega) (by omega), nI_clamp (show 1 < 2 ^ 31 by omega), if_pos z]
        · unfold fX6_back
          rw [g, bd_s, if_neg n10, gd_in (show 1 < 2 by omega) (by omega), nI_clamp (show 1 < 2 ^ 31 by omega), if_pos z]
      · have nz : ¬ kept 1 = 0 := by rw [z]; decide
        obtain ⟨p', e1, e2⟩ := back_loop mk (i := 1) (by omega) FU 0 page (Nat.zero_le _) (by unfold FU; omega)
        have e1 : fX6_back_26 mk (nI 1) FU page (0 : Int32) = some p' := e1
        obtain ⟨c, c1, c2, c3⟩ := copy_from clock nodes meetings letters rooms mrows lrows rules counts refused tokens hops since notes lasts dAt dHops hA (page2 := p') (fun i hi => (e2 i hi).trans (if_neg (by omega)))
        refine ⟨(c.1, c.1, c.2.1, c.2.2.1, c.2.2.2.1, c.2.2.2.2.1, c.2.2.2.2.2.1, c.2.2.2.2.2.2.1, c.2.2.2.2.2.2.2.1, c.2.2.2.2.2.2.2.2.1, c.2.2.2.2.2.2.2.2.2.1, c.2.2.2.2.2.2.2.2.2.2.1, c.2.2.2.2.2.2.2.2.2.2.2.1, c.2.2.2.2.2.2.2.2.2.2.2.2.1, c.2.2.2.2.2.2.2.2.2.2.2.2.2.1, c.2.2.2.2.2.2.2.2.2.2.2.2.2.2.1, c.2.2.2.2.2.2.2.2.2.2.2.2.2.2.2.1, c.2.2.2.2.2.2.2.2.2.2.2.2.2.2.2.2), (p' 3, p'), ?_, ?_, ?_, c3⟩
        · unfold fX5_back
          rw [if_neg (show ¬ nI 1 < (0 : Int32) by decide), if_pos (show nI 1 < (2 : Int32) by decide), gd_in (show 1 < 2 by omega) (by omega), nI_clamp (show 1 < 2 ^ 31 by omega), if_neg nz, if_neg (show ¬ nI 1 = (0 : Int32) by decide), if_pos (show nI 1 = (1 : Int32) from rfl), c1, bd_s]
        · unfold fX6_back
          rw [g, bd_s, if_neg n10, gd_in (show 1 < 2 by omega) (by omega), nI_clamp (show 1 < 2 ^ 31 by omega), if_neg nz, e1, bd_s]
        · obtain ⟨N, K, Z, C, -, e, -, -, -, hI, -⟩ := c3
          exact e.trans hI.p3.symm
  · refine ⟨(-1, clock, nodes, meetings, letters, rooms, mrows, lrows, rules, counts, refused, tokens, hops, since, notes, lasts, dAt, dHops), (-1, page), ?_, by unfold fX6_back; rw [g, bd_s, if_pos p00], rfl, hW⟩
    unfold fX5_back
    rcases g0 with g0 | g0
    · rw [if_pos (show x < 0 from g0)]
    · have : ¬ x < 2 := Int32.not_lt.mpr (by
        rw [Int32.le_iff_toInt_le]
        rw [Int32.lt_iff_toInt_lt, show (nI 1).toInt = 1 from rfl] at g0
        rw [show (2 : Int32).toInt = 2 from rfl]
        omega)
      rw [if_neg this, ite_self]
