theorem half : ∀ v, v < 65 → nI v / 2 = nI (v / 2) ∧ nI v - nI (v / 2) = nI (v - v / 2) := by decide +kernel
section PG
variable {N K Z C : Nat} {rooms mrows lrows rules counts refused tokens hops since notes lasts dAt dHops : Nat → Int32} {page : Nat → Int32}
theorem CI_note (hc : CI N K Z C rooms mrows lrows rules counts refused tokens hops since notes lasts dAt dHops) {n l : Nat} (hn : n < 8) (hl : l < Z) (hZ : Z ≤ 16) : CI N K Z C rooms mrows lrows rules counts refused tokens hops since (upd notes n (notes n ||| ((1 : Int32) <<< (nI l &&& 31)))) lasts dAt dHops := by
  obtain ⟨a1, a2, a3, a4, a5, a6, a7⟩ := hc
  refine ⟨a1, a2, a3, a4, a5, fun m hm => ?_, a7⟩
  by_cases e : m = n
  · subst e
    obtain ⟨v, hv, ev⟩ := a6 m hm
    rw [upd_eq, ev, sh1 l (by omega), nx_or]
    exact ⟨_, Nat.or_lt_two_pow hv (Nat.pow_lt_pow_right (by omega) hl), rfl⟩
  · rw [upd_ne _ _ e]; exact a6 m hm
theorem CI_deliv (hc : CI N K Z C rooms mrows lrows rules counts refused tokens hops since notes lasts dAt dHops) {l : Nat} (hl : l < Z) (x y : Int32) (c2 : Nat → Int32) : CI N K Z C rooms mrows lrows rules c2 refused tokens hops since notes lasts (upd dAt l x) (upd dHops l y) := by
  obtain ⟨a1, a2, a3, a4, a5, a6, a7⟩ := hc
  refine ⟨a1, a2, a3, fun m h1 h2 => ?_, a5, a6, a7⟩
  rw [upd_ne _ _ (by omega), upd_ne _ _ (by omega)]
  exact a4 m h1 h2
theorem IW_note' (h : IW N K Z C rooms mrows lrows rules counts refused tokens hops since notes lasts dAt dHops page) {n l : Nat} (hn : n < 8) (hl : l < 16) : IW N K Z C rooms mrows lrows rules counts refused tokens hops since (upd notes n (notes n ||| ((1 : Int32) <<< (nI l &&& 31)))) lasts dAt dHops (upd page (639 + 16 * n + l) 1) :=
  IW_note hn hl _ (fun w hw => bit_or (notes n) hl hw) h
/-- both write that a letter is there -/
theorem deliver_sim (h : IW N K Z C rooms mrows lrows rules counts refused tokens hops since notes lasts dAt dHops page) (hc : CI N K Z C rooms mrows lrows rules counts refused tokens hops since notes lasts dAt dHops) {g i l : Nat} (hg : g < N) (hi : i < N) (hl : l < Z) (tg : ¬ tokens (g * 16 + l) ≤ 0) :
    ∃ q p', fX1_deliver (nI C) lrows counts tokens hops notes dAt dHops (nI g) (nI i) (nI l) = some q ∧
      bd (fX6_ofLetter page (nI l) 6) (fun q43 => bd (if q43 = (-4 : Int32) then gd (((127 : Int32) + ((8 : Int32) * nI l)) + (6 : Int32)) 831 (nm (upd page ((((127 : Int32) + ((8 : Int32) * nI l)) + (6 : Int32)).toNatClampNeg) (page 3)) (fun v_page_71 => gd (((127 : Int32) + ((8 : Int32) * nI l)) + (7 : Int32)) 831 (nm (upd v_page_71 ((((127 : Int32) + ((8 : Int32) * nI l)) + (7 : Int32)).toNatClampNeg) (page (255 + 3 * (16 * g + l) + 1) + (1 : Int32))) (fun v_page_88 => nm (upd v_page_88 9 ((v_page_88 9) + (1 : Int32))) (fun v_page_99 => bd (fX6_ofLetter v_page_99 (nI l) (0 : Int32)) (fun q117 => nm (upd v_page_99 15 ((v_page_99 15) + ((v_page_99 3) - q117))) (fun v_page_122 => some v_page_122))))))) else some page) (fun v123 => bd (fX6_goes v123 (nI g) (nI l)) (fun q126 => bd (fX6_notes q126 (nI g) (nI l)) (fun q132 => bd (fX6_notes q132 (nI i) (nI l)) (fun q138 => some q138))))) = some p' ∧
      IW N K Z C rooms mrows lrows rules q.1 refused q.2.1 hops since q.2.2.1 lasts q.2.2.2.1 q.2.2.2.2 p' ∧ CI N K Z C rooms mrows lrows rules q.1 refused q.2.1 hops since q.2.2.1 lasts q.2.2.2.1 q.2.2.2.2 ∧ q.2.1 = upd tokens (g * 16 + l) 0 := by
  have hN := h.hN
  have hZ := h.hZ
  have e6 : ((127 : Int32) + (8 : Int32) * nI l) + (6 : Int32) = nI (127 + 8 * l + 6) := ix4 127 8 l 6
  have e7 : ((127 : Int32) + (8 : Int32) * nI l) + (7 : Int32) = nI (127 + 8 * l + 7) := ix4 127 8 l 7
  -- what follows the first part
  have tail : ∀ (c2 d2 w2 : Nat → Int32) (P : Nat → Int32), IW N K Z C rooms mrows lrows rules c2 refused tokens hops since notes lasts d2 w2 P → CI N K Z C rooms mrows lrows rules c2 refused tokens hops since notes lasts d2 w2 →
      ∃ n2 p', (bd (fX4_removeCopy tokens (nI g) (nI l)) fun q103 => gd (nI g) 8 (gd (nI g) 8 (nm (upd notes (nI g).toNatClampNeg (notes (nI g).toNatClampNeg ||| (1 : Int32) <<< (nI l &&& 31))) fun v_notes_120 => gd (nI i) 8 (gd (nI i) 8 (nm (upd v_notes_120 (nI i).toNatClampNeg (v_notes_120 (nI i).toNatClampNeg ||| (1 : Int32) <<< (nI l &&& 31))) fun v_notes_135 => some (c2, q103, v_notes_135, d2, w2)))))) = some (c2, upd tokens (g * 16 + l) 0, n2, d2, w2) ∧
        (bd (fX6_goes P (nI g) (nI l)) fun q126 => bd (fX6_notes q126 (nI g) (nI l)) fun q132 => bd (fX6_notes q132 (nI i) (nI l)) fun q138 => some q138) = some p' ∧ IW N K Z C rooms mrows lrows rules c2 refused (upd tokens (g * 16 + l) 0) hops since n2 lasts d2 w2 p' ∧ CI N K Z C rooms mrows lrows rules c2 refused (upd tokens (g * 16 + l) 0) hops since n2 lasts d2 w2 := by
    intro c2 d2 w2 P hP hcP
    have i1 := IW_goes (n := g) (l := l) (by omega) (by omega) hP
    have c1 : CI N K Z C rooms mrows lrows rules c2 refused (upd tokens (g * 16 + l) 0) hops since notes lasts d2 w2 := CI_tok hcP (fun m w hm hw => by
      by_cases q : m * 16 + w = g * 16 + l
      · exact ⟨0, by omega, by rw [q, upd_eq]; rfl⟩
      · rw [upd_ne _ _ q]; exact hcP.tk hm hw) _ _ _ _
    have i2 := IW_note' i1 (n := g) (l := l) (by omega) (by omega)
    have c2' := CI_note c1 (n := g) (l := l) (by omega) hl hZ
    have i3 := IW_note' i2 (n := i) (l := l) (by omega) (by omega)
    have c3 := CI_note c2' (n := i) (l := l) (by omega) hl hZ
    refine ⟨_, _, ?_, ?_, i3, c3⟩
    · rw [c_removeCopy tokens (by omega) (by omega), bd_s, gd_in (by omega) (by omega), gd_in (by omega) (by omega), nm_s, gd_in (by omega) (by omega), gd_in (by omega) (by omega), nm_s, nI_clamp (by omega), nI_clamp (by omega)]
    · rw [m_goes P (by omega) (by omega), bd_s, m_notes _ (by omega) (by omega), bd_s, m_notes _ (by omega) (by omega), bd_s]
  unfold fX1_deliver
  rw [gd_in (by omega) (by omega), nI_clamp (by omega), m_ofLetter_6 page (by omega), (h.pd hl).1, bd_s]
  by_cases hd : dAt l = -4
  · rw [if_pos hd, if_pos hd]
    have j1 := IW_deliv hl (nI C) (hops (g * 16 + l) + 1) h
    have j2 := IW_count (i := 1) (by omega) (counts 1 + 1) j1
    have j3 := IW_count (i := 7) (by omega) (upd counts 1 (counts 1 + 1) 7 + (nI C - lrows (l * 6 + 0))) j2
    have k1 := CI_deliv hc hl (nI C) (hops (g * 16 + l) + 1) (upd (upd counts 1 (counts 1 + 1)) 7 (upd counts 1 (counts 1 + 1) 7 + (nI C - lrows (l * 6 + 0))))
    obtain ⟨n2, p', t1, t2, t3, t4⟩ := tail _ _ _ _ j3 k1
    refine ⟨(_, upd tokens (g * 16 + l) 0, n2, _, _), p', ?_, ?_, t3, t4, rfl⟩
    · simp only [nm_s, c_place, bd_s, gd_in (show l < 16 by omega) (show 16 < 2 ^ 31 by omega), gd_in (show g * 16 + l < 128 by omega) (show 128 < 2 ^ 31 by omega), nI_clamp (show g * 16 + l < 2 ^ 31 by omega), c_ofLetter_0 lrows (show l < 16 by omega)]
      exact t1
    · have p9 : upd (upd page (127 + 8 * l + 6) (nI C)) (127 + 8 * l + 7) (hops (g * 16 + l) + 1) 9 = counts 1 := j1.pc (i := 1) (by omega)
      have p15 := j2.pc (i := 7) (by omega)
      have p3 := j2.p3
      have l0 := m_ofLetter'_0 j2 hl
      simp only [gd_at e6 (show 127 + 8 * l + 6 < 831 by omega) (show 831 < 2 ^ 31 by omega), gd_at e7 (show 127 + 8 * l + 7 < 831 by omega) (show 831 < 2 ^ 31 by omega), nm_s, cl_at e6 (show 127 + 8 * l + 6 < 2 ^ 31 by omega), cl_at e7 (show 127 + 8 * l + 7 < 2 ^ 31 by omega), (h.ph (show g < 8 by omega) (show l < 16 by omega) tg).1, h.p3]
      rw [p9]
      rw [show fX6_ofLetter (upd (upd (upd page (127 + 8 * l + 6) (nI C)) (127 + 8 * l + 7) (hops (g * 16 + l) + 1)) 9 (counts 1 + 1)) (nI l) 0 = some (lrows (l * 6 + 0)) from l0, bd_s]
      rw [show (upd (upd (upd page (127 + 8 * l + 6) (nI C)) (127 + 8 * l + 7) (hops (g * 16 + l) + 1)) 9 (counts 1 + 1)) 15 = upd counts 1 (counts 1 + 1) 7 from p15]
      rw [show (upd (upd (upd page (127 + 8 * l + 6) (nI C)) (127 + 8 * l + 7) (hops (g * 16 + l) + 1)) 9 (counts 1 + 1)) 3 = nI C from p3, bd_s]
      exact t2
  · rw [if_neg hd, if_neg hd, bd_s, bd_s]
    obtain ⟨n2, p', t1, t2, t3, t4⟩ := tail _ _ _ _ h hc
    exact ⟨(_, upd tokens (g * 16 + l) 0, n2, _, _), p', t1, t2, t3, t4, rfl⟩
/-- a copy is handed: both alike -/
theorem hand_sim (h : IW N K Z C rooms mrows lrows rules counts refused tokens hops since notes lasts dAt dHops page) (hc : CI N K Z C rooms mrows lrows rules counts refused tokens hops since notes lasts dAt dHops) {g i l t : Nat} (hg : g < N) (hi : i < N) (hgi : g ≠ i) (hl : l < Z) (ht : t < N) (et : lrows (l * 6 + 2) = nI t) (tg : ¬ tokens (g * 16 + l) ≤ 0) (left : Int32) (hr : gR N Z rooms lrows rules tokens lasts g i l t left = 0) :
    ∃ q p', fX1_handOver left (nI C) (nI Z) rooms lrows rules counts tokens hops since notes dAt dHops (nI g) (nI i) (nI l) = some q ∧ fX6_hands page (nI g) (nI i) (nI l) = some p' ∧ q.1 = left - lrows (l * 6 + 3) ∧
      IW N K Z C rooms mrows lrows rules q.2.1 refused q.2.2.1 q.2.2.2.1 q.2.2.2.2.1 q.2.2.2.2.2.1 lasts q.2.2.2.2.2.2.1 q.2.2.2.2.2.2.2 p' ∧ CI N K Z C rooms mrows lrows rules q.2.1 refused q.2.2.1 q.2.2.2.1 q.2.2.2.2.1 q.2.2.2.2.2.1 lasts q.2.2.2.2.2.2.1 q.2.2.2.2.2.2.2 ∧
      (∀ w, w < 16 → w ≠ l → q.2.2.1 (g * 16 + w) = tokens (g * 16 + w) ∧ q.2.2.2.1 (g * 16 + w) = hops (g * 16 + w)) := by
  have hN := h.hN
  have hZ := h.hZ
  have h0 := IW_count (i := 0) (by omega) (counts 0 + 1) h
  have hc0 : CI N K Z C rooms mrows lrows rules (upd counts 0 (counts 0 + 1)) refused tokens hops since notes lasts dAt dHops := CI_tok hc (fun m w hm hw => hc.tk hm hw) _ _ _ _
  have h0 : IW N K Z C rooms mrows lrows rules (upd counts 0 (counts 0 + 1)) refused tokens hops since notes lasts dAt dHops (upd page 8 (counts 0 + 1)) := h0
  unfold fX1_handOver fX6_hands
  rw [nm_s, nm_s, show page 8 = counts 0 from h.pc (i := 0) (by omega), c_ofLetter_3 lrows (by omega), bd_s, c_ofLetter_2 lrows (by omega), bd_s, et, m_tokensOf _ (by omega) (by omega), bd_s, h0.pt (by omega) (by omega), m_hopsOf _ (by omega) (by omega), bd_s, m_ofLetter'_2 h0 hl, bd_s, et]
  obtain ⟨hk, hcase⟩ := gR_0 hr
  rcases hcase with rfl | ⟨hti, hw, hlack⟩
  · rw [if_pos rfl, if_pos rfl]
    obtain ⟨q, p', a1, a2, a3, a4, a5⟩ := deliver_sim h0 hc0 hg hi hl tg
    rw [a1, bd_s]
    refine ⟨_, p', rfl, a2, rfl, a3, a4, fun w hw hwl => ⟨?_, rfl⟩⟩
    show q.2.1 (g * 16 + w) = _
    rw [a5, upd_ne _ _ (by omega)]
  · have hne : ¬ nI t = nI i := fun z => hti (nI_inj (by omega) (by omega) z)
    rw [if_neg hne, if_neg hne, m_ofLetter'_3 h0 hl, bd_s]
    obtain ⟨c', t', p', g1, g2, g3, g4, g5, g6⟩ := room_sim h0 hc0 hi hl hlack
    have tg' : t' (g * 16 + l) = tokens (g * 16 + l) := g6 g l (by omega) hgi
    have hh := (h0.ph (n := g) (l := l) (by omega) (by omega) tg).1
    rw [g1, bd_s, c_place, bd_s, gd_in (by omega) (by omega), nI_clamp (by omega), g2, bd_s, hh]
    simp only [tg']
    obtain ⟨v, hv, ev⟩ := hc.tk (n := g) (l := l) (by omega) (by omega)
    have hop : ∀ w, w < 16 → upd hops (i * 16 + l) (hops (g * 16 + l) + 1) (g * 16 + w) = hops (g * 16 + w) := fun w hw => upd_ne _ _ (by omega)
    have tkn : ∀ (x : Int32) (w : Nat), w < 16 → upd t' (i * 16 + l) x (g * 16 + w) = tokens (g * 16 + w) := fun x w hw => by rw [upd_ne _ _ (by omega)]; exact g6 g w hw hgi
    by_cases h1 : tokens (g * 16 + l) ≤ 1
    · have t1 : tokens (g * 16 + l) = 1 := by
        rw [ev] at tg h1 ⊢
        have a1 : ¬ v ≤ 0 := fun z => tg (nI_le (b := 0) z (by omega))
        have a2 : v ≤ 1 := (nI_leI (b := 1) (by omega) (by omega)).mp h1
        have : v = 1 := by omega
        rw [this]; rfl
      simp only [if_pos h1, bd_s]
      rw [gd_in (by omega) (by omega), c_putCopy _ _ _ _ (by omega) (by omega), bd_s, m_comes p' (by omega) (by omega), bd_s, g3.p3]
      have i1 := IW_comes (n := i) (l := l) (by omega) (by omega) 1 (hops (g * 16 + l) + 1) g3
      have c1 : CI N K Z C rooms mrows lrows rules c' refused (upd t' (i * 16 + l) 1) (upd hops (i * 16 + l) (hops (g * 16 + l) + 1)) (upd since (i * 16 + l) (nI C)) notes lasts dAt dHops := CI_tok g4 (fun m w hm hw => by
        by_cases z : m * 16 + w = i * 16 + l
        · exact ⟨1, by omega, by rw [z, upd_eq]; rfl⟩
        · rw [upd_ne _ _ z]; exact g4.tk hm hw) _ _ _ _
      rw [show (upd (upd (upd p' (255 + 3 * (16 * i + l)) 1) (255 + 3 * (16 * i + l) + 1) (hops (g * 16 + l) + 1)) (255 + 3 * (16 * i + l) + 2) (nI C)) 5 = rules 1 from i1.pr (i := 1) (by omega)]
      by_cases r0 : rules 1 = 0
      · rw [if_pos r0, if_neg (by rw [r0]; decide)]
        exact ⟨_, _, rfl, rfl, rfl, i1, c1, fun w hw hwl => ⟨tkn _ w hw, hop w hw⟩⟩
      · have r2 : rules 1 = 2 := by
          unfold gWait at hw
          rw [if_neg r0] at hw
          split at hw
          · first | exact absurd hw (by decide) | (rw [if_pos t1] at hw; exact absurd hw (by decide))
          · split at hw
            · rename_i z; exact z
            · exact absurd hw (by decide)
        rw [if_neg r0, if_pos r2, c_removeCopy _ (by omega) (by omega), bd_s, m_goes _ (by omega) (by omega), bd_s]
        have i2 := IW_goes (n := g) (l := l) (by omega) (by omega) i1
        have c2 : CI N K Z C rooms mrows lrows rules c' refused (upd (upd t' (i * 16 + l) 1) (g * 16 + l) 0) (upd hops (i * 16 + l) (hops (g * 16 + l) + 1)) (upd since (i * 16 + l) (nI C)) notes lasts dAt dHops := CI_tok c1 (fun m w hm hw => by
          by_cases z : m * 16 + w = g * 16 + l
          · exact ⟨0, by omega, by rw [z, upd_eq]; rfl⟩
          · rw [upd_ne _ _ z]; exact c1.tk hm hw) _ _ _ _
        refine ⟨_, _, rfl, rfl, rfl, i2, c2, fun w hw hwl => ⟨?_, hop w hw⟩⟩
        show upd (upd t' (i * 16 + l) 1) (g * 16 + l) 0 (g * 16 + w) = _
        rw [upd_ne _ _ (by omega)]
        exact tkn _ w hw
    · obtain ⟨f1, f2⟩ := half v (by omega)
      have f1' : tokens (g * 16 + l) / 2 = nI (v / 2) := by rw [ev]; exact f1
      have f2' : tokens (g * 16 + l) - nI (v / 2) = nI (v - v / 2) := by rw [ev]; exact f2
      simp only [if_neg h1, bd_s, f1']
      rw [gd_in (by omega) (by omega), c_putCopy _ _ _ _ (by omega) (by omega), bd_s, gd_in (by omega) (by omega), nm_s, m_comes p' (by omega) (by omega), bd_s, g3.p3, m_copyAt, bd_s, gd_in (by omega) (by omega), nI_clamp (by omega), nm_s, f2']
      have i1 := IW_comes (n := i) (l := l) (by omega) (by omega) (nI (v / 2)) (hops (g * 16 + l) + 1) g3
      have c1 : CI N K Z C rooms mrows lrows rules c' refused (upd t' (i * 16 + l) (nI (v / 2))) (upd hops (i * 16 + l) (hops (g * 16 + l) + 1)) (upd since (i * 16 + l) (nI C)) notes lasts dAt dHops := CI_tok g4 (fun m w hm hw => by
        by_cases z : m * 16 + w = i * 16 + l
        · exact ⟨v / 2, by omega, by rw [z, upd_eq]⟩
        · rw [upd_ne _ _ z]; exact g4.tk hm hw) _ _ _ _
      have i2 := IW_tok (n := g) (l := l) (by omega) (by omega) (nI (v - v / 2)) (by rw [tkn _ l (by omega)]; exact tg) i1
      have c2 : CI N K Z C rooms mrows lrows rules c' refused (upd (upd t' (i * 16 + l) (nI (v / 2))) (g * 16 + l) (nI (v - v / 2))) (upd hops (i * 16 + l) (hops (g * 16 + l) + 1)) (upd since (i * 16 + l) (nI C)) notes lasts dAt dHops := CI_tok c1 (fun m w hm hw => by
        by_cases z : m * 16 + w = g * 16 + l
        · exact ⟨v - v / 2, by omega, by rw [z, upd_eq]⟩
        · rw [upd_ne _ _ z]; exact c1.tk hm hw) _ _ _ _
      refine ⟨_, _, rfl, rfl, rfl, i2, c2, fun w hw hwl => ⟨?_, hop w hw⟩⟩
      show upd (upd t' (i * 16 + l) (nI (v / 2))) (g * 16 + l) (nI (v - v / 2)) (g * 16 + w) = _
      rw [upd_ne _ _ (by omega)]
      exact tkn _ w hw
end PG
