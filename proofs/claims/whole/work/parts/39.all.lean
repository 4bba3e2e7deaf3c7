theorem nar0 : vp_nar .boolean (0 : Int32) = 0 := by decide
theorem nar1 : vp_nar .boolean (1 : Int32) = 1 := by decide
theorem ah_asym {lrows hops : Nat → Int32} {g : Nat} {x : Int32} {a b : Nat} (h1 : ah lrows hops g x a b) (h2 : ah lrows hops g x b a) : False := by
  unfold ah at h1 h2
  omega
section PA
variable {N K Z C : Nat} {rooms mrows lrows rules counts refused tokens hops since notes lasts dAt dHops : Nat → Int32} {page : Nat → Int32}
theorem left_loop (h : IW N K Z C rooms mrows lrows rules counts refused tokens hops since notes lasts dAt dHops page) {g : Nat} (hg : g < 8) (x : Int32) : ∀ (f j : Nat) (left : Nat → Int32), j ≤ 16 → 16 < j + f → ∃ left', fX6_handsAll_2 page (nI g) x f left (nI j) = some left' ∧ ∀ w, w < 16 → left' w = if w < j then left w else if w < Z ∧ ¬ tokens (g * 16 + w) ≤ 0 then 1 else 0 := by
  have hZ := h.hZ
  intro f
  induction f with
  | zero => intro j left h1 h2; omega
  | succ f ih =>
    intro j left h1 h2
    rw [fX6_handsAll_2]
    by_cases hj : j = 16
    · subst hj
      rw [if_pos (show (16 : Int32) ≤ nI 16 by decide)]
      exact ⟨left, rfl, fun w hw => by rw [if_pos hw]⟩
    · rw [if_neg (show ¬ (16 : Int32) ≤ nI j from nI_ge (a := j) (b := 16) (by omega) (by omega)), h.p2, m_hasCopy' h hg (by omega), nar0, nar1, nI_1]
      simp only [bd_s, nm_s, gd_in (show j < 16 by omega) (show 16 < 2 ^ 31 by omega), nI_clamp (show j < 2 ^ 31 by omega)]
      have one : ∀ v : Int32, v = (if j < Z ∧ ¬ tokens (g * 16 + j) ≤ 0 then 1 else 0) → ∃ left', fX6_handsAll_2 page (nI g) x f (upd left j v) (nI (j + 1)) = some left' ∧ ∀ w, w < 16 → left' w = if w < j then left w else if w < Z ∧ ¬ tokens (g * 16 + w) ≤ 0 then 1 else 0 := by
        intro v hv
        obtain ⟨left', q1, q2⟩ := ih (j + 1) (upd left j v) (by omega) (by omega)
        refine ⟨left', q1, fun w hw => ?_⟩
        rw [q2 w hw]
        by_cases e : w = j
        · subst e
          rw [if_pos (by omega), upd_eq, if_neg (by omega)]
          exact hv
        · by_cases e2 : w < j
          · rw [if_pos (by omega), if_pos e2, upd_ne _ _ e]
          · rw [if_neg (by omega), if_neg e2]
      by_cases hZj : Z ≤ j
      · rw [if_pos (nI_le hZj (by omega))]
        exact one 0 (by rw [if_neg (by omega)])
      · rw [if_neg (nI_ge (show j < Z by omega) (by omega))]
        by_cases ht : tokens (g * 16 + j) ≤ 0
        · rw [if_pos ht, if_pos rfl]
          exact one 0 (by rw [if_neg (fun z => z.2 ht)])
        · rw [if_neg ht, if_neg (by decide)]
          exact one 1 (by rw [if_pos ⟨by omega, ht⟩])
theorem next_is (h : IW N K Z C rooms mrows lrows rules counts refused tokens hops since notes lasts dAt dHops page) {g : Nat} (hg : g < 8) (x : Int32) (left : Nat → Int32) {k c : Nat} (o : Nat → Nat) (hk : k ≤ c) (hs : ∀ i j, k ≤ i → i < j → j < c → ah lrows hops g x (o i) (o j)) (ho : ∀ i, k ≤ i → i < c → o i < Z ∧ ¬ tokens (g * 16 + o i) ≤ 0) (hl : ∀ w, w < Z → (¬ left w = 0 ↔ ∃ i, k ≤ i ∧ i < c ∧ o i = w)) :
    fX6_nextOf page left (nI g) x = some (if k < c then nI (o k) else -4) := by
  unfold fX6_nextOf
  have hZ := h.hZ
  have q := (next_loop h hg x left (fun w hw hne => by
    obtain ⟨i, h1, h2, rfl⟩ := (hl w hw).mp hne
    exact (ho i h1 h2).2) FU 0 (Nat.zero_le _) (by unfold FU; omega)).1
  rw [show nI 0 = (0 : Int32) from rfl] at q
  by_cases hkc : k < c
  · rw [if_pos hkc]
    have hk0 : ¬ left (o k) = 0 := (hl _ (ho k (Nat.le_refl _) hkc).1).mpr ⟨k, Nat.le_refl _, hkc, rfl⟩
    rcases q with ⟨b, q1, q2, q3, q4, q5⟩ | ⟨q1, q2⟩
    · rw [q1, bd_s]
      obtain ⟨i, h1, h2, rfl⟩ := (hl b q2).mp q4
      by_cases e : i = k
      · rw [e]
      · exfalso
        rcases q5 (o k) (Nat.zero_le _) (ho k (Nat.le_refl _) hkc).1 hk0 with z | z
        · have := hs k i (Nat.le_refl _) (by omega) h2
          rw [z] at this
          exact ah_asym this this
        · exact ah_asym z (hs k i (Nat.le_refl _) (by omega) h2)
    · exact absurd (q2 _ (Nat.zero_le _) (ho k (Nat.le_refl _) hkc).1) hk0
  · rw [if_neg hkc]
    rcases q with ⟨b, q1, q2, q3, q4, q5⟩ | ⟨q1, q2⟩
    · obtain ⟨i, h1, h2, -⟩ := (hl b q2).mp q4
      omega
    · rw [q1, bd_s]
theorem gM_0 {r : Int32} (h : r = 0 ∨ (r = 1 ∨ r = 2 ∨ r = 3) ∨ r = 5 ∨ r = 6 ∨ r = 7) : gM r = 0 ↔ r = 0 := by
  rcases h with h | (h | h | h) | h | h | h <;> rw [h] <;> decide
theorem gM_R {g h l t : Nat} {left : Int32} : gM (gR N Z rooms lrows rules tokens lasts g h l t left) = 0 ↔ gR N Z rooms lrows rules tokens lasts g h l t left = 0 := by
  rcases gR_cases (N := N) (Z := Z) (rooms := rooms) (lrows := lrows) (rules := rules) (tokens := tokens) (lasts := lasts) (g := g) (h := h) (l := l) (t := t) (left := left) with q | q | ⟨q0, q⟩
  · exact gM_0 (Or.inl q)
  · exact gM_0 (Or.inr (Or.inl q))
  · exact gM_0 (Or.inr (Or.inr q))
theorem ah_frame {h1 h2 : Nat → Int32} {g : Nat} {x : Int32} {a b : Nat} (ea : h2 (g * 16 + a) = h1 (g * 16 + a)) (eb : h2 (g * 16 + b) = h1 (g * 16 + b)) (h : ah lrows h1 g x a b) : ah lrows h2 g x a b := by
  unfold ah ak at *
  rw [ea, eb]
  exact h
/-- what stands when a meeting's copies have been gone through -/
theorem all_loop (hC : C ≤ 30000) {g i c : Nat} (hg : g < N) (hi : i < N) (hgi : g ≠ i) (hc16 : c ≤ 16) (order : Nat → Int32) (o : Nat → Nat) (hoi : ∀ j k, j < k → k < c → ¬ o j = o k) (hor : ∀ j, j < c → order j = nI (o j)) : ∀ (d k fc fm : Nat) (counts refused tokens hops since notes dAt dHops page isLeft : Nat → Int32) (left ref : Int32), k + d = c → d < fc → d < fm → IW N K Z C rooms mrows lrows rules counts refused tokens hops since notes lasts dAt dHops page → CI N K Z C rooms mrows lrows rules counts refused tokens hops since notes lasts dAt dHops →
    (∀ j, k ≤ j → j < c → o j < Z ∧ ¬ tokens (g * 16 + o j) ≤ 0) → (∀ a b, k ≤ a → a < b → b < c → ah lrows hops g (nI i) (o a) (o b)) → (∀ w, w < Z → (¬ isLeft w = 0 ↔ ∃ j, k ≤ j ∧ j < c ∧ o j = w)) →
    ∃ q q', fX1_handAll_10 (nI C) (nI Z) rooms lrows rules lasts order (nI g) (nI i) (nI c) fc left ref counts refused tokens hops since notes dAt dHops (nI k) = some q ∧ fX6_handsAll_51 (nI g) (nI i) fm left ref page isLeft (if k < c then nI (o k) else -4) = some q' ∧ q.1 = q'.1 ∧ q.2.1 = q'.2.1 ∧
      IW N K Z C rooms mrows lrows rules q.2.2.1 q.2.2.2.1 q.2.2.2.2.1 q.2.2.2.2.2.1 q.2.2.2.2.2.2.1 q.2.2.2.2.2.2.2.1 lasts q.2.2.2.2.2.2.2.2.1 q.2.2.2.2.2.2.2.2.2 q'.2.2.1 ∧ CI N K Z C rooms mrows lrows rules q.2.2.1 q.2.2.2.1 q.2.2.2.2.1 q.2.2.2.2.2.1 q.2.2.2.2.2.2.1 q.2.2.2.2.2.2.2.1 lasts q.2.2.2.2.2.2.2.2.1 q.2.2.2.2.2.2.2.2.2 := by
  intro d
  induction d with
  | zero =>
    intro k fc fm counts refused tokens hops since notes dAt dHops page isLeft left ref hk hfc hfm h hc h1 h2 h3
    obtain ⟨fc, rfl⟩ : ∃ z, fc = z + 1 := ⟨fc - 1, by omega⟩
    obtain ⟨fm, rfl⟩ : ∃ z, fm = z + 1 := ⟨fm - 1, by omega⟩
    rw [if_neg (show ¬ k < c by omega), fX1_handAll_10, fX6_handsAll_51, if_pos rfl, if_pos (nI_le (show c ≤ k by omega) (by omega))]
    exact ⟨_, _, rfl, rfl, rfl, rfl, h, hc⟩
  | succ d ih =>
    intro k fc fm counts refused tokens hops since notes dAt dHops page isLeft left ref hk hfc hfm h hc h1 h2 h3
    have hN := h.hN
    have hZ := h.hZ
    have hkc : k < c := by omega
    obtain ⟨fc, rfl⟩ : ∃ z, fc = z + 1 := ⟨fc - 1, by omega⟩
    obtain ⟨fm, rfl⟩ : ∃ z, fm = z + 1 := ⟨fm - 1, by omega⟩
    obtain ⟨lz, tk⟩ := h1 k (Nat.le_refl _) hkc
    obtain ⟨a, t, ha, ht, -, -, et⟩ := hc.pair lz
    -- the step of what is left
    have stepL : ∀ w, w < Z → (¬ upd isLeft (o k) 0 w = 0 ↔ ∃ j, k + 1 ≤ j ∧ j < c ∧ o j = w) := by
      intro w hw
      by_cases e : w = o k
      · subst e
        rw [upd_eq]
        constructor
        · intro z; exact absurd rfl z
        · rintro ⟨j, j1, j2, j3⟩
          exact absurd j3.symm (hoi k j (by omega) j2)
      · rw [upd_ne _ _ e, h3 w hw]
        constructor
        · rintro ⟨j, j1, j2, j3⟩
          refine ⟨j, ?_, j2, j3⟩
          by_cases e2 : j = k
          · subst e2; exact absurd j3.symm e
          · omega
        · rintro ⟨j, j1, j2, j3⟩
          exact ⟨j, by omega, j2, j3⟩
    -- go on
    have go : ∀ (counts' refused' tokens' hops' since' notes' dAt' dHops' page' : Nat → Int32) (left' ref' : Int32), IW N K Z C rooms mrows lrows rules counts' refused' tokens' hops' since' notes' lasts dAt' dHops' page' → CI N K Z C rooms mrows lrows rules counts' refused' tokens' hops' since' notes' lasts dAt' dHops' → (∀ w, w < 16 → w ≠ o k → tokens' (g * 16 + w) = tokens (g * 16 + w) ∧ hops' (g * 16 + w) = hops (g * 16 + w)) →
        ∃ q q', fX1_handAll_10 (nI C) (nI Z) rooms lrows rules lasts order (nI g) (nI i) (nI c) fc left' ref' counts' refused' tokens' hops' since' notes' dAt' dHops' (nI (k + 1)) = some q ∧ (gd (nI (o k)) 16 (nm (upd isLeft (nI (o k)).toNatClampNeg (vp_nar .boolean 0)) fun v_isLeft_115 => bd (fX6_nextOf page' v_isLeft_115 (nI g) (nI i)) fun q119 => fX6_handsAll_51 (nI g) (nI i) fm left' ref' page' v_isLeft_115 q119)) = some q' ∧ q.1 = q'.1 ∧ q.2.1 = q'.2.1 ∧
      IW N K Z C rooms mrows lrows rules q.2.2.1 q.2.2.2.1 q.2.2.2.2.1 q.2.2.2.2.2.1 q.2.2.2.2.2.2.1 q.2.2.2.2.2.2.2.1 lasts q.2.2.2.2.2.2.2.2.1 q.2.2.2.2.2.2.2.2.2 q'.2.2.1 ∧ CI N K Z C rooms mrows lrows rules q.2.2.1 q.2.2.2.1 q.2.2.2.2.1 q.2.2.2.2.2.1 q.2.2.2.2.2.2.1 q.2.2.2.2.2.2.2.1 lasts q.2.2.2.2.2.2.2.2.1 q.2.2.2.2.2.2.2.2.2 := by
      intro counts' refused' tokens' hops' since' notes' dAt' dHops' page' left' ref' hI hcI fr
      have ne : ∀ j, k + 1 ≤ j → j < c → o j ≠ o k := fun j j1 j2 z => hoi k j (by omega) j2 z.symm
      have o1 : ∀ j, k + 1 ≤ j → j < c → o j < Z ∧ ¬ tokens' (g * 16 + o j) ≤ 0 := fun j j1 j2 => by
        obtain ⟨z1, z2⟩ := h1 j (by omega) j2
        exact ⟨z1, by rw [(fr (o j) (by omega) (ne j j1 j2)).1]; exact z2⟩
      have o2 : ∀ a b, k + 1 ≤ a → a < b → b < c → ah lrows hops' g (nI i) (o a) (o b) := fun a b a1 a2 a3 => ah_frame (fr (o a) (by have := (o1 a a1 (by omega)).1; omega) (ne a a1 (by omega))).2 (fr (o b) (by have := (o1 b (by omega) a3).1; omega) (ne b (by omega) a3)).2 (h2 a b (by omega) a2 a3)
      rw [gd_in (by omega) (by omega), nI_clamp (by omega), nm_s, nar0, next_is hI (by omega) (nI i) _ o (by omega) o2 o1 stepL, bd_s]
      exact ih (k + 1) fc fm _ _ _ _ _ _ _ _ _ _ _ _ (by omega) (by omega) (by omega) hI hcI o1 o2 stepL
    rw [if_pos hkc, fX1_handAll_10, fX6_handsAll_51, if_neg (nI_nm4 (n := o k) (by omega)), if_neg (nI_ge hkc (by omega)), gd_in (by omega) (by omega), nI_clamp (show k < 2 ^ 31 by omega), hor k hkc, c_reason (N := N) hZ (by omega) (by omega) (by omega) (by omega) et, bd_s, m_reason h hc hC hg hi lz ht et, bd_s, nI_1]
    by_cases hr : gR N Z rooms lrows rules tokens lasts g i (o k) t left = 0
    · obtain ⟨q, p', b1, b2, b3, b4, b5, b6⟩ := hand_sim h hc hg hi hgi lz ht et tk left hr
      rw [if_pos hr, if_pos (gM_R.mpr hr), b1, bd_s, m_ofLetter'_3 h lz, bd_s, b2, bd_s, bd_s, ← b3]
      exact go _ _ _ _ _ _ _ _ _ _ _ b4 b5 b6
    · rw [if_neg hr, if_neg (fun z => hr (gM_R.mp z))]
      by_cases hf : ref = 0
      · subst hf
        obtain ⟨r', p', b1, b2, b3⟩ := refuse_sim h (g := g) (t := t) hi lz left hr
        rw [if_pos rfl, b1, bd_s, b2, bd_s, bd_s]
        exact go _ _ _ _ _ _ _ _ _ _ _ b3 (CI_tok hc (fun m w hm hw => hc.tk hm hw) _ _ _ _) (fun _ _ _ => ⟨rfl, rfl⟩)
      · rw [if_neg hf]
        unfold fX6_refuses
        rw [if_neg hf, bd_s, bd_s]
        exact go _ _ _ _ _ _ _ _ _ _ _ h hc (fun _ _ _ => ⟨rfl, rfl⟩)
theorem all_sim (hC : C ≤ 30000) (h : IW N K Z C rooms mrows lrows rules counts refused tokens hops since notes lasts dAt dHops page) (hc : CI N K Z C rooms mrows lrows rules counts refused tokens hops since notes lasts dAt dHops) {g i : Nat} (hg : g < N) (hi : i < N) (hgi : g ≠ i) (left ref : Int32) (order isLeft : Nat → Int32) :
    ∃ q q', fX1_handAll left ref (nI C) (nI Z) rooms lrows rules counts refused tokens hops since notes lasts dAt dHops order (nI g) (nI i) = some q ∧ fX6_handsAll left ref page isLeft (nI g) (nI i) = some q' ∧ q.1 = q'.1 ∧ q.2.1 = q'.2.1 ∧
      IW N K Z C rooms mrows lrows rules q.2.2.1 q.2.2.2.1 q.2.2.2.2.1 q.2.2.2.2.2.1 q.2.2.2.2.2.2.1 q.2.2.2.2.2.2.2.1 lasts q.2.2.2.2.2.2.2.2.1 q.2.2.2.2.2.2.2.2.2.1 q'.2.2.1 ∧ CI N K Z C rooms mrows lrows rules q.2.2.1 q.2.2.2.1 q.2.2.2.2.1 q.2.2.2.2.2.1 q.2.2.2.2.2.2.1 q.2.2.2.2.2.2.2.1 lasts q.2.2.2.2.2.2.2.2.1 q.2.2.2.2.2.2.2.2.2.1 := by
  have hN := h.hN
  have hZ := h.hZ
  obtain ⟨c, order', o, l1, l2, l3, l4, l5⟩ := c_listCopies lrows tokens hops order (show g < 8 by omega) hZ (nI i)
  obtain ⟨left', m1, m2⟩ := left_loop h (show g < 8 by omega) (nI i) FU 0 isLeft (by omega) (by unfold FU; omega)
  have inj : ∀ j k, j < k → k < c → ¬ o j = o k := fun j k j1 j2 z => by
    have := l4 j k j1 j2
    rw [z] at this
    exact ah_asym this this
  have hl : ∀ w, w < Z → (¬ left' w = 0 ↔ ∃ j, 0 ≤ j ∧ j < c ∧ o j = w) := by
    intro w hw
    rw [m2 w (by omega), if_neg (by omega)]
    constructor
    · intro z
      by_cases ht : tokens (g * 16 + w) ≤ 0
      · rw [if_neg (fun y => y.2 ht)] at z
        exact absurd rfl z
      · obtain ⟨j, j1, j2⟩ := l5 w hw ht
        exact ⟨j, Nat.zero_le _, j1, j2⟩
    · rintro ⟨j, -, j1, rfl⟩
      rw [if_pos ⟨hw, (l3 j j1).2.2⟩]
      decide
  have ho : ∀ j, 0 ≤ j → j < c → o j < Z ∧ ¬ tokens (g * 16 + o j) ≤ 0 := fun j _ j1 => (l3 j j1).2
  have hs : ∀ a b, 0 ≤ a → a < b → b < c → ah lrows hops g (nI i) (o a) (o b) := fun a b _ => l4 a b
  obtain ⟨q, q', b1, b2, b3, b4, b5, b6⟩ := all_loop hC hg hi hgi (by omega) order' o inj (fun j hj => (l3 j hj).1) c 0 FU FU counts refused tokens hops since notes dAt dHops page left' left ref (by omega) (by unfold FU; omega) (by unfold FU; omega) h hc ho hs hl
  unfold fX1_handAll fX6_handsAll
  rw [l1, bd_s, show (0 : Int32) = nI 0 from rfl, b1, bd_s, m1, bd_s, next_is h (by omega) (nI i) left' o (Nat.zero_le _) hs ho hl, bd_s, b2, bd_s]
  exact ⟨_, _, rfl, rfl, b3, b4, b5, b6⟩
end PA
