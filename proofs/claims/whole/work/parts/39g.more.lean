def RB (r s : Nat → Int32) : Prop := ∀ i, i < 8 → r i = s i ∧ (r i = 0 ∨ r i = 1)
theorem RB_upd {r s : Nat → Int32} (h : RB r s) (k : Nat) {v : Int32} (hv : v = 0 ∨ v = 1) : RB (upd r k v) (upd s k v) := by
  intro i hi
  by_cases e : i = k
  · subst e
    rw [upd_eq, upd_eq]
    exact ⟨rfl, hv⟩
  · rw [upd_ne _ _ e, upd_ne _ _ e]
    exact h i hi
theorem RB_same {r s : Nat → Int32} (h : RB r s) (k : Nat) (hk : k < 8) {v : Int32} (hv : r k = v) : RB (upd r k v) s := by
  intro i hi
  by_cases e : i = k
  · subst e
    rw [upd_eq, ← hv]
    exact h i hi
  · rw [upd_ne _ _ e]
    exact h i hi
def ruleB (t : Nat) : Nat := if t = 0 then 99 else if t = 3 then 9 else 3
section PV
variable {N K Z C : Nat} {rooms mrows lrows rules counts refused tokens hops since notes lasts dAt dHops : Nat → Int32} {page : Nat → Int32}
theorem on_at {T : Nat} (hT : T ≤ 30000) (h : IW N K Z C rooms mrows lrows rules counts refused tokens hops since notes lasts dAt dHops page) (hc : CI N K Z C rooms mrows lrows rules counts refused tokens hops since notes lasts dAt dHops) {m : Nat} (hm : m < K) : ∃ v, fX0_isAt mrows (nI m) (nI T) (rules 0) = some v ∧ fX6_isOn page (nI m) (nI T) = some v := by
  have hK := h.hK
  obtain ⟨⟨t, -, ht, et⟩, -⟩ := hc.mt hm
  unfold fX0_isAt fX6_isOn
  rw [c_ofMeeting_0 mrows (by omega), bd_s, m_ofMeeting'_0 h hm, bd_s, et, show page 4 = rules 0 from h.pr (i := 0) (by omega)]
  simp only [sub0 (show T ≤ 60000 by omega) (show t ≤ 60000 by omega), suble (show T ≤ 60000 by omega) (show t ≤ 60000 by omega)]
  by_cases h1 : nI T = nI t
  · exact ⟨1, by rw [if_pos h1], by rw [if_pos h1]⟩
  · simp only [if_neg h1]
    by_cases h2 : rules 0 ≤ 0
    · exact ⟨0, by rw [if_pos h2], by rw [if_pos h2]⟩
    · simp only [if_neg h2]
      by_cases h3 : nI T ≤ nI t
      · exact ⟨0, by rw [if_pos h3], by rw [if_pos h3]⟩
      · simp only [if_neg h3]
        have hd : ¬ rules 0 = 0 := fun z => h2 (by rw [z]; decide)
        unfold dv
        simp only [if_neg hd]
        split
        · exact ⟨_, rfl, rfl⟩
        · exact ⟨_, rfl, rfl⟩
theorem spread_loop {T : Nat} (hT : T ≤ 30000) (h : IW N K Z C rooms mrows lrows rules counts refused tokens hops since notes lasts dAt dHops page) (hc : CI N K Z C rooms mrows lrows rules counts refused tokens hops since notes lasts dAt dHops) (y : Int32) : ∀ (f j : Nat) (r s : Nat → Int32), j ≤ K → K < j + f → RB r s → ∃ r' s', fX1_spreadIn_2 (nI K) mrows rules (nI T) f r (nI j) = some r' ∧ fX6_soonest_63 page y (nI T) f s (nI j) = some s' ∧ RB r' s' := by
  have hK := h.hK
  have hN := h.hN
  intro f
  induction f with
  | zero => intro j r s h1 h2; omega
  | succ f ih =>
    intro j r s h1 h2 hb
    rw [fX1_spreadIn_2, fX6_soonest_63, h.p1]
    by_cases hj : j = K
    · subst hj
      rw [if_pos (nI_le (Nat.le_refl _) (by omega)), if_pos (nI_le (Nat.le_refl _) (by omega))]
      exact ⟨_, _, rfl, rfl, hb⟩
    · have hlt : j < K := by omega
      obtain ⟨v, v1, v2⟩ := on_at hT h hc hlt
      obtain ⟨-, a, b, ha, hbb, hab, ea, eb⟩ := hc.mt hlt
      rw [if_neg (nI_ge hlt (by omega)), if_neg (nI_ge hlt (by omega)), v1, bd_s, m_ofMeeting'_1 h hlt, bd_s, m_ofMeeting'_2 h hlt, bd_s, v2, bd_s, c_ofMeeting_1 mrows (by omega), bd_s, c_ofMeeting_2 mrows (by omega), bd_s, ea, eb, nI_1]
      by_cases hv : v = 0
      · rw [if_pos hv, if_pos hv]
        exact ih (j + 1) r s (by omega) (by omega) hb
      · simp only [if_neg hv, gd_in (show a < 8 by omega) (show 8 < 2 ^ 31 by omega), gd_in (show b < 8 by omega) (show 8 < 2 ^ 31 by omega), nI_clamp (show a < 2 ^ 31 by omega), nI_clamp (show b < 2 ^ 31 by omega), nm_s, nar1, ← (hb a (by omega)).1, ← (hb b (by omega)).1]
        by_cases r1 : r a = 0
        · by_cases r2 : r b = 0
          · simp only [if_pos r1, if_pos r2, bd_s, nar0]
            exact ih (j + 1) _ s (by omega) (by omega) (RB_same (RB_same hb a (by omega) r1) b (by omega) (by rw [upd_ne _ _ (Ne.symm hab)]; exact r2))
          · simp only [if_pos r1, if_neg r2, bd_s, nar1]
            exact ih (j + 1) _ _ (by omega) (by omega) (RB_upd (RB_upd hb a (Or.inr rfl)) b (Or.inr rfl))
        · simp only [if_neg r1, bd_s, nar1]
          exact ih (j + 1) _ _ (by omega) (by omega) (RB_upd (RB_upd hb a (Or.inr rfl)) b (Or.inr rfl))
theorem has_start (h : IW N K Z C rooms mrows lrows rules counts refused tokens hops since notes lasts dAt dHops page) {l a : Nat} (hl : l < Z) (ha : a < 8) (ea : lrows (l * 6 + 1) = nI a) : ∀ (f j : Nat) (s : Nat → Int32), j ≤ 8 → 8 < j + f → ∃ s', fX6_soonest_12 page (nI l) f s (nI j) = some s' ∧ ∀ i, i < 8 → s' i = if i < j then s i else if i = a then 1 else 0 := by
  intro f
  induction f with
  | zero => intro j s h1 h2; omega
  | succ f ih =>
    intro j s h1 h2
    rw [fX6_soonest_12]
    by_cases hj : j = 8
    · subst hj
      rw [if_pos (show (8 : Int32) ≤ nI 8 by decide)]
      exact ⟨s, rfl, fun i hi => by rw [if_pos hi]⟩
    · rw [if_neg (show ¬ (8 : Int32) ≤ nI j from nI_ge (a := j) (b := 8) (by omega) (by omega)), m_ofLetter'_1 h hl, bd_s, ea, nar0, nar1, nI_1]
      simp only [gd_in (show j < 8 by omega) (show 8 < 2 ^ 31 by omega), nI_clamp (show j < 2 ^ 31 by omega), nm_s]
      have one : ∀ v : Int32, v = (if j = a then 1 else 0) → ∃ s', fX6_soonest_12 page (nI l) f (upd s j v) (nI (j + 1)) = some s' ∧ ∀ i, i < 8 → s' i = if i < j then s i else if i = a then 1 else 0 := by
        intro v hv
        obtain ⟨s', q1, q2⟩ := ih (j + 1) (upd s j v) (by omega) (by omega)
        refine ⟨s', q1, fun i hi => ?_⟩
        rw [q2 i hi]
        by_cases e : i = j
        · subst e
          rw [if_pos (by omega), upd_eq, if_neg (by omega)]
          exact hv
        · by_cases e2 : i < j
          · rw [if_pos (by omega), if_pos e2, upd_ne _ _ e]
          · rw [if_neg (by omega), if_neg e2]
      by_cases e : j = a
      · rw [if_pos (show nI j = nI a by rw [e])]
        exact one 1 (by rw [if_pos e])
      · rw [if_neg (fun z => e (nI_inj (by omega) (by omega) z))]
        exact one 0 (by rw [if_neg e])
theorem reach_start (y : Int32) : ∀ (f j : Nat) (s : Nat → Int32), j ≤ 8 → 8 < j + f → ∃ s', fX1_soonestOf_2 y f s (nI j) = some s' ∧ ∀ i, i < 8 → s' i = if i < j then s i else 0 := by
  intro f
  induction f with
  | zero => intro j s h1 h2; omega
  | succ f ih =>
    intro j s h1 h2
    rw [fX1_soonestOf_2]
    by_cases hj : j = 8
    · subst hj
      rw [if_pos (show (8 : Int32) ≤ nI 8 by decide)]
      exact ⟨s, rfl, fun i hi => by rw [if_pos hi]⟩
    · rw [if_neg (show ¬ (8 : Int32) ≤ nI j from nI_ge (a := j) (b := 8) (by omega) (by omega)), nar0, nI_1, gd_in (by omega) (by omega), nI_clamp (by omega), nm_s]
      obtain ⟨s', q1, q2⟩ := ih (j + 1) (upd s j 0) (by omega) (by omega)
      refine ⟨s', q1, fun i hi => ?_⟩
      rw [q2 i hi]
      by_cases e : i = j
      · subst e
        rw [if_pos (by omega), upd_eq, if_neg (by omega)]
      · by_cases e2 : i < j
        · rw [if_pos (by omega), if_pos e2, upd_ne _ _ e]
        · rw [if_neg (by omega), if_neg e2]
theorem time_loop (h : IW N K Z C rooms mrows lrows rules counts refused tokens hops since notes lasts dAt dHops page) (hc : CI N K Z C rooms mrows lrows rules counts refused tokens hops since notes lasts dAt dHops) {l t E : Nat} (hl : l < Z) (ht : t < 8) (et : lrows (l * 6 + 2) = nI t) (hE : E ≤ 30000) (eE : lrows (l * 6 + 0) + lrows (l * 6 + 5) = nI E) : ∀ (d T f : Nat) (r s : Nat → Int32), T + d = E → d < f → RB r s →
    (∃ T' r' s', fX1_soonestOf_66 (nI K) mrows rules (nI t) (nI E) f r (nI T) = some (.inl (T', r')) ∧ fX6_soonest_52 page (nI l) f s (nI T) = some (.inl (T', s'))) ∨ (∃ r' s', fX1_soonestOf_66 (nI K) mrows rules (nI t) (nI E) f r (nI T) = some (.inr r') ∧ fX6_soonest_52 page (nI l) f s (nI T) = some (.inr s')) := by
  have hK := h.hK
  intro d
  induction d with
  | zero =>
    intro T f r s hd hf hb
    obtain ⟨f, rfl⟩ : ∃ z, f = z + 1 := ⟨f - 1, by omega⟩
    rw [fX1_soonestOf_66, fX6_soonest_52, m_endOf' h hl, bd_s, eE, if_pos (nI_le (show E ≤ T by omega) (by omega)), if_pos (nI_le (show E ≤ T by omega) (by omega))]
    exact Or.inr ⟨_, _, rfl, rfl⟩
  | succ d ih =>
    intro T f r s hd hf hb
    obtain ⟨f, rfl⟩ : ∃ z, f = z + 1 := ⟨f - 1, by omega⟩
    obtain ⟨r', s', q1, q2, q3⟩ := spread_loop (T := T) (by omega) h hc (nI l) FU 0 r s (Nat.zero_le _) (by unfold FU; omega) hb
    rw [show nI 0 = (0 : Int32) from rfl] at q1 q2
    rw [fX1_soonestOf_66, fX6_soonest_52, m_endOf' h hl, bd_s, eE, if_neg (nI_ge (show T < E by omega) (by omega)), if_neg (nI_ge (show T < E by omega) (by omega))]
    unfold fX1_spreadIn
    rw [q1, bd_s, bd_s, q2, bd_s, gd_in ht (by omega), nI_clamp (by omega), m_ofLetter'_2 h hl, bd_s, et, gd_in ht (by omega), nI_clamp (by omega), ← (q3 t ht).1, nI_1]
    by_cases e : r' t = 0
    · rw [if_pos e, if_pos e]
      exact ih (T + 1) f r' s' (by omega) (by omega) q3
    · rw [if_neg e, if_neg e]
      exact Or.inl ⟨_, _, _, rfl, rfl⟩
theorem ask_soonest (h : IW N K Z C rooms mrows lrows rules counts refused tokens hops since notes lasts dAt dHops page) (hc : CI N K Z C rooms mrows lrows rules counts refused tokens hops since notes lasts dAt dHops) (r s : Nat → Int32) (x : Int32) : ∃ v r' s', fX5_soonest (nI K) (nI Z) mrows lrows rules r x = some (v, r') ∧ fX6_soonest page s x = some (v, s') := by
  have hN := h.hN
  have hZ := h.hZ
  unfold fX5_soonest fX6_soonest
  rcases letter_sim hZ h.p2 x with ⟨l, hl, rfl, a1, a2⟩ | ⟨a1, a2⟩
  · obtain ⟨a, b, ha, hb, hab, ea, eb⟩ := hc.pair hl
    obtain ⟨t0, ht0, e0⟩ := hc.birth hl
    obtain ⟨z5, -, hz5, e5⟩ := hc.life hl
    obtain ⟨r1, q1, q2⟩ := reach_start (nI l) FU 0 r (by omega) (by unfold FU; omega)
    obtain ⟨s1, w1, w2⟩ := has_start h hl (show a < 8 by omega) ea FU 0 s (by omega) (by unfold FU; omega)
    rw [show nI 0 = (0 : Int32) from rfl] at q1 w1
    have hb1 : RB (upd r1 a 1) s1 := by
      intro i hi
      rw [w2 i hi, if_neg (by omega)]
      by_cases e : i = a
      · subst e
        rw [upd_eq, if_pos rfl]
        exact ⟨rfl, Or.inr rfl⟩
      · rw [upd_ne _ _ e, q2 i hi, if_neg (by omega), if_neg e]
        exact ⟨rfl, Or.inl rfl⟩
    have eE : lrows (l * 6 + 0) + lrows (l * 6 + 5) = nI (t0 + z5) := by rw [e0, e5, nI_add]
    have tl := time_loop h hc hl (show b < 8 by omega) eb (show t0 + z5 ≤ 30000 by omega) eE z5 t0 FU _ _ rfl (by unfold FU; omega) hb1
    rw [a1, bd_s, if_neg n10, a2, bd_s, if_neg n10]
    unfold fX1_soonestOf
    rw [q1, bd_s, c_ofLetter_1 lrows (by omega), bd_s, ea, gd_in (by omega) (by omega), nI_clamp (by omega), nar1, nm_s, c_ofLetter_2 lrows (by omega), bd_s, eb, c_endOf lrows (by omega), bd_s, eE, c_ofLetter_0 lrows (by omega), bd_s, e0, w1, bd_s, m_ofLetter'_0 h hl, bd_s, e0]
    rcases tl with ⟨T', r', s', m1, m2⟩ | ⟨r', s', m1, m2⟩
    · rw [m1, m2]
      exact ⟨_, _, _, rfl, rfl⟩
    · rw [m1, m2]
      exact ⟨_, _, _, rfl, rfl⟩
  · rw [a1, bd_s, if_pos p00, a2, bd_s, if_pos p00]
    exact ⟨_, _, _, rfl, rfl⟩
/-! copies in their order -/
theorem m_aheadOf (h : IW N K Z C rooms mrows lrows rules counts refused tokens hops since notes lasts dAt dHops page) (hc : CI N K Z C rooms mrows lrows rules counts refused tokens hops since notes lasts dAt dHops) {n j : Nat} (hn : n < 8) (hj : j < Z) (tj : ¬ tokens (n * 16 + j) ≤ 0) : fX6_aheadOf page (nI n) (nI j) = some (nI (cntN (fun w => decide (¬ tokens (n * 16 + w) ≤ 0 ∧ (hops (n * 16 + w) < hops (n * 16 + j) ∨ hops (n * 16 + w) = hops (n * 16 + j) ∧ w < j))) 0 Z)) := by
  have hZ := h.hZ
  have loop : ∀ (f k : Nat) (s : Int32), k ≤ Z → Z < k + f → fX6_aheadOf_5 page (nI n) (nI j) f s (nI k) = some (s + sumZ (fun w => if (fun w => decide (¬ tokens (n * 16 + w) ≤ 0 ∧ (hops (n * 16 + w) < hops (n * 16 + j) ∨ hops (n * 16 + w) = hops (n * 16 + j) ∧ w < j))) w then 1 else 0) k (Z - k)) := by
    intro f
    induction f with
    | zero => intro k s h1 h2; omega
    | succ f ih =>
      intro k s h1 h2
      rw [fX6_aheadOf_5, h.p2]
      by_cases hk : k = Z
      · subst hk
        rw [if_pos (nI_le (Nat.le_refl _) (by omega)), sum_exit]
      · have hlt : k < Z := by omega
        rw [if_neg (nI_ge hlt (by omega)), m_hasCopy' h hn (by omega), bd_s, nI_1]
        by_cases tk : tokens (n * 16 + k) ≤ 0
        · rw [if_pos tk, if_pos p00, bd_s, Int32.add_zero, ih (k + 1) s (by omega) (by omega), sum_skip s _ hlt (by simp [tk])]
        · rw [if_neg tk, if_neg n10, m_hopsOf page hn (by omega), bd_s, m_hopsOf page hn (by omega), bd_s, (h.ph hn (by omega) tk).1, (h.ph hn (by omega) tj).1, bd_s, bd_s]
          have v : (if hops (n * 16 + k) < hops (n * 16 + j) then some (1 : Int32) else if hops (n * 16 + k) = hops (n * 16 + j) then if nI j ≤ nI k then some 0 else some 1 else some 0) = some (if (fun w => decide (¬ tokens (n * 16 + w) ≤ 0 ∧ (hops (n * 16 + w) < hops (n * 16 + j) ∨ hops (n * 16 + w) = hops (n * 16 + j) ∧ w < j))) k then 1 else 0) := by
            simp only [decide_eq_true_eq, tk, not_false_eq_true, true_and]
            by_cases z1 : hops (n * 16 + k) < hops (n * 16 + j)
            · rw [if_pos z1, if_pos (Or.inl z1)]
            · rw [if_neg z1]
              by_cases z2 : hops (n * 16 + k) = hops (n * 16 + j)
              · rw [if_pos z2]
                by_cases z3 : k < j
                · rw [if_neg (nI_ge z3 (by omega)), if_pos (Or.inr ⟨z2, z3⟩)]
                · rw [if_pos (nI_le (show j ≤ k by omega) (by omega)), if_neg (fun q => q.elim z1 (fun q => z3 q.2))]
              · rw [if_neg z2, if_neg (fun q => q.elim z1 (fun q => z2 q.1))]
          rw [v, bd_s, ih (k + 1) _ (by omega) (by omega), ← sum_step s _ hlt]
  unfold fX6_aheadOf
  have e := loop FU 0 0 (Nat.zero_le _) (by unfold FU; omega)
  rw [show nI 0 = (0 : Int32) from rfl] at e
  rw [e, bd_s, Int32.zero_add, Nat.sub_zero, sumZ_cnt]
theorem ah_hops (hc : CI N K Z C rooms mrows lrows rules counts refused tokens hops since notes lasts dAt dHops) (hN : N ≤ 8) {n a b : Nat} (ha : a < Z) (hb : b < Z) : ah lrows hops n (-1) a b ↔ (hops (n * 16 + a) < hops (n * 16 + b) ∨ hops (n * 16 + a) = hops (n * 16 + b) ∧ a < b) := by
  obtain ⟨-, t1, -, h1, -, -, e1⟩ := hc.pair ha
  obtain ⟨-, t2, -, h2, -, -, e2⟩ := hc.pair hb
  unfold ah ak
  rw [if_neg (by rw [e1]; exact nI_nm1 (n := t1) (by omega)), if_neg (by rw [e2]; exact nI_nm1 (n := t2) (by omega)), Int32.lt_iff_toInt_lt, ← Int32.toInt_inj]
  omega
theorem rank_of (hc : CI N K Z C rooms mrows lrows rules counts refused tokens hops since notes lasts dAt dHops) (hN : N ≤ 8) {n c k : Nat} {order : Nat → Int32} {o : Nat → Nat} (hO : OL lrows tokens hops order n (-1) Z c o) (hk : k < c) : cntN (fun w => decide (¬ tokens (n * 16 + w) ≤ 0 ∧ (hops (n * 16 + w) < hops (n * 16 + o k) ∨ hops (n * 16 + w) = hops (n * 16 + o k) ∧ w < o k))) 0 Z = k := by
  obtain ⟨b1, b2, b3, b4⟩ := hO
  have ok := b2 k hk
  refine cnt_enum k _ o (fun i hi => ?_) (fun i j h1 h2 z => ?_) (fun l hl hp => ?_)
  · have oi := b2 i (by omega)
    refine ⟨oi.2.1, ?_⟩
    rw [decide_eq_true_eq]
    exact ⟨oi.2.2, (ah_hops hc hN oi.2.1 ok.2.1).mp (b3 i k hi hk)⟩
  · have := b3 i j h1 (by omega)
    rw [z] at this
    exact ah_asym this this
  · rw [decide_eq_true_eq] at hp
    obtain ⟨i, hi, rfl⟩ := b4 l hl hp.1
    refine ⟨i, ?_, rfl⟩
    have := (ah_hops hc hN hl ok.2.1).mpr hp.2
    rcases Nat.lt_trichotomy i k with q | q | q
    · exact q
    · subst q
      exact absurd this (fun z => ah_asym z z)
    · exact absurd this (fun z => ah_asym z (b3 k i q hi))
theorem copy_loop (h : IW N K Z C rooms mrows lrows rules counts refused tokens hops since notes lasts dAt dHops page) (hc : CI N K Z C rooms mrows lrows rules counts refused tokens hops since notes lasts dAt dHops) {n c : Nat} {order : Nat → Int32} {o : Nat → Nat} (hn : n < 8) (hO : OL lrows tokens hops order n (-1) Z c o) (x y : Int32) : ∀ (f j : Nat), j ≤ Z → Z < j + f →
    (∀ k, k < c → x = nI k → j ≤ o k → fX6_copy_29 page (nI n) x y f (nI j) = (if y = 0 then some (.inl (nI (o k))) else bd (fX6_copyAt (nI n) (nI (o k))) (fun q78 => gd ((q78 + y) - 1) 831 (some (.inl (page (((q78 + y) - 1).toNatClampNeg))))))) ∧ ((∀ k, k < c → ¬ x = nI k) → fX6_copy_29 page (nI n) x y f (nI j) = some (.inr ())) := by
  have hZ := h.hZ
  have hN := h.hN
  obtain ⟨b1, b2, b3, b4⟩ := id hO
  intro f
  induction f with
  | zero => intro j h1 h2; omega
  | succ f ih =>
    intro j h1 h2
    rw [fX6_copy_29, h.p2]
    by_cases hj : j = Z
    · subst hj
      rw [if_pos (nI_le (Nat.le_refl _) (by omega))]
      exact ⟨fun k hk _ hjo => by have := (b2 k hk).2.1; omega, fun _ => rfl⟩
    · have hlt : j < Z := by omega
      obtain ⟨ih1, ih2⟩ := ih (j + 1) (by omega) (by omega)
      rw [if_neg (nI_ge hlt (by omega)), m_hasCopy' h hn (by omega), bd_s, nI_1]
      by_cases tj : tokens (n * 16 + j) ≤ 0
      · rw [if_pos tj, if_pos p00]
        refine ⟨fun k hk hx hjo => ih1 k hk hx ?_, ih2⟩
        have : o k ≠ j := fun z => by
          have := (b2 k hk).2.2
          rw [z] at this
          exact this tj
        omega
      · obtain ⟨i, hi, e⟩ := b4 j hlt tj
        have rk := rank_of hc hN hO hi
        rw [e] at rk
        rw [if_neg tj, if_neg n10, m_aheadOf h hc hn hlt tj, bd_s, rk]
        refine ⟨fun k hk hx hjo => ?_, fun hx => ?_⟩
        · by_cases z : nI i = x
          · have : i = k := nI_inj (by omega) (by omega) (by rw [z, hx])
            rw [if_pos z, ← this, e]
          · rw [if_neg z]
            refine ih1 k hk hx ?_
            have : o k ≠ j := fun q => by
              rw [← e] at q
              rcases Nat.lt_trichotomy i k with w | w | w
              · have := b3 i k w hk
                rw [q] at this
                exact ah_asym this this
              · exact z (by rw [w, hx])
              · have := b3 k i w hi
                rw [q] at this
                exact ah_asym this this
            omega
        · rw [if_neg (fun z => hx i hi z.symm)]
          exact ih2 hx
theorem ask_copy (h : IW N K Z C rooms mrows lrows rules counts refused tokens hops since notes lasts dAt dHops page) (hc : CI N K Z C rooms mrows lrows rules counts refused tokens hops since notes lasts dAt dHops) (order : Nat → Int32) (x y z : Int32) : ∃ v order', fX5_copy (nI N) (nI Z) lrows tokens hops since order x y z = some (v, order') ∧ fX6_copy page x y z = some v := by
  have hN := h.hN
  have hZ := h.hZ
  unfold fX5_copy fX6_copy
  rcases node_sim hN h.p0 x with ⟨a, ha, rfl, a1, a2⟩ | ⟨a1, a2⟩
  · rw [a1, bd_s, if_neg n10, a2, bd_s, if_neg n10]
    by_cases y0 : y < 0
    · rw [if_pos y0, if_pos y0]
      exact ⟨_, _, rfl, rfl⟩
    · rw [if_neg y0, if_neg y0]
      rcases in_sim z 0 3 (A := 0) (B := 3) (by decide) (by decide) (by omega) (by omega) with ⟨t, -, c2, rfl, c4⟩ | ⟨c, c4⟩
      · obtain ⟨c, order', o, g1, g2⟩ := c_listCopies lrows tokens hops order (show a < 8 by omega) hZ (-1)
        obtain ⟨l1, l2⟩ := copy_loop h hc (show a < 8 by omega) g2 y (nI t) FU 0 (Nat.zero_le _) (by unfold FU; omega)
        obtain ⟨b1, b2, b3, b4⟩ := id g2
        rw [show nI 0 = (0 : Int32) from rfl] at l1 l2
        rw [if_neg (nI_pos (by omega)), if_pos (show nI t ≤ 3 from nI_le (b := 3) c2 (by omega)), c4, bd_s, if_neg n10]
        unfold fX1_copyByOrder
        rw [g1, bd_s, if_neg y0]
        by_cases hy : nI c ≤ y
        · rw [if_pos hy, bd_s, if_neg (show ¬ (0 : Int32) ≤ -1 by decide), l2 (fun k hk q => nI_ge hk (by omega) (q ▸ hy))]
          exact ⟨_, _, rfl, rfl⟩
        · rcases pk_ix y (n := c) (by omega) with q | q | ⟨k, hk, rfl⟩
          · exact absurd q y0
          · exact absurd q hy
          · have bk := b2 k hk
            rw [if_neg hy, gd_in (by omega) (by omega), bd_s, nI_clamp (by omega)]
            simp only [bk.1]
            rw [if_pos (show 0 ≤ nI (o k) from nI_le (a := 0) (by omega) (by omega)), l1 k hk rfl (Nat.zero_le _), c_place, bd_s, m_copyAt, bd_s]
            have hi : a * 16 + o k < 128 := by omega
            rw [gd_in hi (by omega), gd_in hi (by omega), gd_in hi (by omega), nI_clamp (show a * 16 + o k < 2 ^ 31 by omega)]
            have pt := h.pt (n := a) (l := o k) (by omega) (by omega)
            have ph := h.ph (n := a) (l := o k) (by omega) (by omega) bk.2.2
            have ix : ∀ w, nI (255 + 3 * (16 * a + o k)) + nI (w + 1) - 1 = nI (255 + 3 * (16 * a + o k) + w) := fun w => by
              rw [nI_add, show 255 + 3 * (16 * a + o k) + (w + 1) = (255 + 3 * (16 * a + o k) + w) + 1 by omega, nI_s1]
            rcases (show t = 0 ∨ t = 1 ∨ t = 2 ∨ t = 3 by omega) with rfl | rfl | rfl | rfl
            · rw [if_pos (show nI 0 = 0 from rfl), if_pos (show nI 0 = 0 from rfl)]
              exact ⟨_, _, rfl, rfl⟩
            · rw [if_neg (show ¬ nI 1 = 0 by decide), if_neg (show ¬ nI 1 = 0 by decide), if_pos (show nI 1 = 1 from rfl), ix 0, gd_in (by omega) (by omega), nI_clamp (by omega), Nat.add_zero, pt]
              exact ⟨_, _, rfl, rfl⟩
            · rw [if_neg (show ¬ nI 2 = 0 by decide), if_neg (show ¬ nI 2 = 0 by decide), if_neg (show ¬ nI 2 = 1 by decide), if_pos (show nI 2 = 2 from rfl), ix 1, gd_in (by omega) (by omega), nI_clamp (by omega), ph.1]
              exact ⟨_, _, rfl, rfl⟩
            · rw [if_neg (show ¬ nI 3 = 0 by decide), if_neg (show ¬ nI 3 = 0 by decide), if_neg (show ¬ nI 3 = 1 by decide), if_neg (show ¬ nI 3 = 2 by decide), ix 2, gd_in (by omega) (by omega), nI_clamp (by omega), ph.2]
              exact ⟨_, _, rfl, rfl⟩
      · rw [c4]
        refine ⟨-1, order, ?_, by rw [bd_s, if_pos p00]⟩
        rcases c with c | c
        · rw [if_pos (show z < 0 from c)]
        · rw [if_neg (show ¬ z ≤ 3 from Int32.not_le.mpr c), ite_self]
  · rw [a1, bd_s, if_pos p00, a2, bd_s, if_pos p00]
    exact ⟨_, _, rfl, rfl⟩
/-! rules are set -/
theorem CI_rule (hc : CI N K Z C rooms mrows lrows rules counts refused tokens hops since notes lasts dAt dHops) {t u : Nat} (ht : t < 4) (hu : u ≤ ruleB t) : CI N K Z C rooms mrows lrows (upd rules t (nI u)) counts refused tokens hops since notes lasts dAt dHops := by
  obtain ⟨⟨r0, r1, r2, r3⟩, a2, a3, a4, a5, a6, a7⟩ := hc
  refine ⟨?_, a2, a3, a4, a5, a6, a7⟩
  rcases (show t = 0 ∨ t = 1 ∨ t = 2 ∨ t = 3 by omega) with rfl | rfl | rfl | rfl
  · exact ⟨⟨u, hu, upd_eq _ _ _⟩, r1, r2, r3⟩
  · exact ⟨r0, ⟨u, hu, upd_eq _ _ _⟩, r2, r3⟩
  · exact ⟨r0, r1, ⟨u, hu, upd_eq _ _ _⟩, r3⟩
  · exact ⟨r0, r1, r2, ⟨u, hu, upd_eq _ _ _⟩⟩
theorem do_set (h : IW N K Z C rooms mrows lrows rules counts refused tokens hops since notes lasts dAt dHops page) (hc : CI N K Z C rooms mrows lrows rules counts refused tokens hops since notes lasts dAt dHops) (x y : Int32) : ∃ q p', fX5_set rules x y = some q ∧ fX6_set page x y = some (q.1, p') ∧ IW N K Z C rooms mrows lrows q.2 counts refused tokens hops since notes lasts dAt dHops p' ∧ CI N K Z C rooms mrows lrows q.2 counts refused tokens hops since notes lasts dAt dHops := by
  unfold fX5_set fX6_set
  rcases in_sim x 0 3 (A := 0) (B := 3) (by decide) (by decide) (by omega) (by omega) with ⟨t, -, b2, rfl, b4⟩ | ⟨b, b4⟩
  · have sv : sv6 t = nI (ruleB t) := by rcases (show t = 0 ∨ t = 1 ∨ t = 2 ∨ t = 3 by omega) with rfl | rfl | rfl | rfl <;> rfl
    have v39 : (if nI t = 0 then some (99 : Int64) else if nI t = (3 : Int32) then some (9 : Int64) else some (3 : Int64)) = some ((nI (ruleB t)).toInt64) := by rcases (show t = 0 ∨ t = 1 ∨ t = 2 ∨ t = 3 by omega) with rfl | rfl | rfl | rfl <;> decide
    have e4 : (4 : Int32) + nI t = nI (4 + t) := nI_add 4 t
    have hB : ruleB t < 1000 := by rcases (show t = 0 ∨ t = 1 ∨ t = 2 ∨ t = 3 by omega) with rfl | rfl | rfl | rfl <;> decide
    rw [b4, bd_s, if_neg n10, if_neg (nI_pos (by omega)), if_neg (show ¬ (4 : Int32) ≤ nI t from nI_ge (a := t) (b := 4) (by omega) (by omega)), v39, bd_s]
    rcases in_sim y 0 (ruleB t) (A := 0) (B := (nI (ruleB t)).toInt64) (by decide) rfl (by omega) hB with ⟨u, -, c2, rfl, c4⟩ | ⟨c, c4⟩
    · rw [c4, bd_s, if_neg n10, if_neg (nI_pos (by omega)), gd_in (by omega) (by omega), nI_clamp (by omega), sv, if_pos (nI_le c2 (by omega)), gd_in (by omega) (by omega), gd_in (by omega) (by omega), nm_s, gd_at e4 (by omega) (by omega), gd_at e4 (by omega) (by omega), cl_at e4 (by omega), nm_s, h.pr (by omega)]
      exact ⟨_, _, rfl, rfl, IW_rule (by omega) _ h, CI_rule hc (by omega) c2⟩
    · rw [c4, bd_s, if_pos p00]
      refine ⟨(-1, rules), page, ?_, rfl, h, hc⟩
      rcases c with c | c
      · rw [if_pos (show y < 0 from c)]
      · rw [gd_in (by omega) (by omega), nI_clamp (by omega), sv, if_neg (Int32.not_le.mpr c), ite_self]
  · rw [b4, bd_s, if_pos p00]
    refine ⟨(-1, rules), page, ?_, rfl, h, hc⟩
    rcases b with b | b
    · rw [if_pos (show x < 0 from b)]
    · have : (4 : Int32) ≤ x := by
        rw [Int32.le_iff_toInt_le]
        rw [Int32.lt_iff_toInt_lt, show (nI 3).toInt = 3 from rfl] at b
        rw [show (4 : Int32).toInt = 4 from rfl]
        omega
      rw [if_pos this, ite_self]
end PV
