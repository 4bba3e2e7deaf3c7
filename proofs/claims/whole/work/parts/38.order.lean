theorem nI_s1 (p : Nat) : nI (p + 1) - 1 = nI p := by rw [← nI_1]; grind
theorem nI_a1 (p : Nat) : nI (p + 1) + (-1) = nI p := by rw [← nI_1]; grind
theorem tf_0 {α : Type} (x : Option α) : tf 0 x = x := if_pos (Or.inl rfl)
theorem tf_1 {α : Type} (x : Option α) : tf 1 x = x := if_pos (Or.inr rfl)
/-- where a copy stands when a meeting's copies are put in order: less is first -/
def ak (lrows hops : Nat → Int32) (g : Nat) (x : Int32) (l : Nat) : Int := (if lrows (l * 6 + 2) = x then 0 else 8589934592) + (hops (g * 16 + l)).toInt
def ah (lrows hops : Nat → Int32) (g : Nat) (x : Int32) (l k : Nat) : Prop := ak lrows hops g x l < ak lrows hops g x k ∨ (ak lrows hops g x l = ak lrows hops g x k ∧ l < k)
theorem i32_rng (x : Int32) : -2147483648 ≤ x.toInt ∧ x.toInt < 2147483648 := ⟨Int32.le_toInt x, Int32.toInt_lt x⟩
theorem c_goesAhead (lrows hops : Nat → Int32) {g l k : Nat} (hg : g < 8) (hl : l < 16) (hk : k < 16) (x : Int32) : fX1_goesAhead lrows hops (nI g) x (nI l) (nI k) = some (if ak lrows hops g x l < ak lrows hops g x k then 1 else 0) := by
  have r1 := i32_rng (hops (g * 16 + l))
  have r2 := i32_rng (hops (g * 16 + k))
  unfold fX1_goesAhead ak
  rw [c_ofLetter_2 lrows hl, bd_s, c_ofLetter_2 lrows hk]
  simp only [bd_s, c_place, gd_in (show g * 16 + l < 128 by omega) (show 128 < 2 ^ 31 by omega), gd_in (show g * 16 + k < 128 by omega) (show 128 < 2 ^ 31 by omega), nI_clamp (show g * 16 + l < 2 ^ 31 by omega), nI_clamp (show g * 16 + k < 2 ^ 31 by omega), Int32.le_iff_toInt_le]
  by_cases h1 : lrows (l * 6 + 2) = x <;> by_cases h2 : lrows (k * 6 + 2) = x
  · simp only [h1, h2, if_true, bd_s]
    by_cases h3 : (hops (g * 16 + k)).toInt ≤ (hops (g * 16 + l)).toInt
    · rw [if_pos h3, if_neg (by omega)]
    · rw [if_neg h3, if_pos (by omega)]
  · simp only [h1, if_true, if_neg h2, bd_s, e10, if_false, tf_1]
    rw [if_pos (by omega)]
  · simp only [h2, if_true, if_neg h1, bd_s, e01, if_false, tf_0]
    rw [if_neg (by omega)]
  · simp only [if_neg h1, if_neg h2, bd_s, if_true]
    by_cases h3 : (hops (g * 16 + k)).toInt ≤ (hops (g * 16 + l)).toInt
    · rw [if_pos h3, if_neg (by omega)]
    · rw [if_neg h3, if_pos (by omega)]
/-- the class's order of a node's copies -/
def OL (lrows tokens hops order : Nat → Int32) (g : Nat) (x : Int32) (j c : Nat) (o : Nat → Nat) : Prop :=
  c ≤ j ∧ (∀ i, i < c → order i = nI (o i) ∧ o i < j ∧ ¬ tokens (g * 16 + o i) ≤ 0) ∧ (∀ i k, i < k → k < c → ah lrows hops g x (o i) (o k)) ∧ (∀ l, l < j → ¬ tokens (g * 16 + l) ≤ 0 → ∃ i, i < c ∧ o i = l)
theorem list_in (lrows hops : Nat → Int32) {g j c : Nat} (hg : g < 8) (hj : j < 16) (hc : c < 16) (x y : Int32) (o : Nat → Nat) (ho : ∀ i, i < c → o i < 16) : ∀ (f p : Nat) (order : Nat → Int32), p ≤ c → p < f → (∀ i, i < p → order i = nI (o i)) → (∀ i, p < i → i ≤ c → order i = nI (o (i - 1))) → (∀ i, p ≤ i → i < c → ak lrows hops g x j < ak lrows hops g x (o i)) →
    ∃ p' order', fX1_listCopies_42 lrows hops (nI g) x y (nI j) f order (nI p) = some (order', nI p') ∧ p' ≤ c ∧ (∀ i, i < p' → order' i = nI (o i)) ∧ (∀ i, p' < i → i ≤ c → order' i = nI (o (i - 1))) ∧ (∀ i, p' ≤ i → i < c → ak lrows hops g x j < ak lrows hops g x (o i)) ∧ (p' = 0 ∨ ¬ ak lrows hops g x j < ak lrows hops g x (o (p' - 1))) := by
  intro f
  induction f with
  | zero => intro p order h1 h2; omega
  | succ f ih =>
    intro p order h1 h2 a1 a2 a3
    rw [fX1_listCopies_42]
    cases p with
    | zero =>
      rw [if_pos (show nI 0 ≤ 0 by decide)]
      exact ⟨0, order, rfl, h1, a1, a2, a3, Or.inl rfl⟩
    | succ p =>
      rw [if_neg (nI_nle (by omega) (by omega)), nI_s1, gd_in (show p < 16 by omega) (by omega), nI_clamp (show p < 2 ^ 31 by omega), a1 p (by omega), c_goesAhead lrows hops hg hj (ho p (by omega)), bd_s]
      by_cases hlt : ak lrows hops g x j < ak lrows hops g x (o p)
      · rw [if_pos hlt, if_neg (by decide), gd_in (show p < 16 by omega) (by omega), gd_in (show p + 1 < 16 by omega) (by omega), nm_s, nI_clamp (show p + 1 < 2 ^ 31 by omega), nI_a1]
        refine ih p _ (by omega) (by omega) (fun i hi => by rw [upd_ne _ _ (by omega)]; exact a1 i (by omega)) (fun i hi hi2 => ?_) (fun i hi hi2 => ?_)
        · by_cases e : i = p + 1
          · subst e; rw [upd_eq]; rfl
          · rw [upd_ne _ _ e]; exact a2 i (by omega) hi2
        · by_cases e : i = p
          · subst e; exact hlt
          · exact a3 i (by omega) hi2
      · rw [if_neg hlt, if_pos rfl]
        exact ⟨p + 1, order, rfl, h1, a1, a2, a3, Or.inr hlt⟩
theorem list_out (lrows tokens hops : Nat → Int32) {g Z : Nat} (hg : g < 8) (hZ : Z ≤ 16) (x : Int32) : ∀ (f j c : Nat) (order : Nat → Int32) (o : Nat → Nat), j ≤ Z → Z < j + f → OL lrows tokens hops order g x j c o → ∃ c' order' o', fX1_listCopies_5 (nI Z) lrows tokens hops (nI g) x f order (nI c) (nI j) = some (order', nI c') ∧ OL lrows tokens hops order' g x Z c' o' := by
  intro f
  induction f with
  | zero => intro j c order o h1 h2; omega
  | succ f ih =>
    intro j c order o h1 h2 hO
    obtain ⟨b1, b2, b3, b4⟩ := id hO
    rw [fX1_listCopies_5]
    by_cases hj : j = Z
    · subst hj
      rw [if_pos (nI_le (Nat.le_refl _) (by omega))]
      exact ⟨c, order, o, rfl, hO⟩
    · have hlt : j < Z := by omega
      rw [if_neg (nI_ge hlt (by omega)), if_neg (show ¬ (16 : Int32) ≤ nI c from nI_ge (a := c) (b := 16) (by omega) (by omega)), c_hasCopy tokens hg (by omega), bd_s, nI_1]
      by_cases ht : tokens (g * 16 + j) ≤ 0
      · rw [if_pos ht, if_pos rfl]
        exact ih (j + 1) c order o (by omega) (by omega) ⟨by omega, fun i hi => ⟨(b2 i hi).1, by have := (b2 i hi).2.1; omega, (b2 i hi).2.2⟩, b3, fun l hl htl => by
          by_cases e : l = j
          · subst e; exact absurd ht htl
          · exact b4 l (by omega) htl⟩
      · rw [if_neg ht, if_neg (by decide)]
        obtain ⟨p, order', g1, g2, g3, g4, g5, g6⟩ := list_in lrows hops hg (j := j) (c := c) (by omega) (by omega) x (nI c) o (fun i hi => by have := (b2 i hi).2.1; omega) FU c order (Nat.le_refl _) (by unfold FU; omega) (fun i hi => (b2 i hi).1) (fun i h3 h4 => by omega) (fun i h3 h4 => by omega)
        rw [g1, bd_s, gd_in (by omega) (by omega), nm_s, nI_clamp (by omega), nI_1]
        refine ih (j + 1) (c + 1) _ (fun i => if i < p then o i else if i = p then j else o (i - 1)) (by omega) (by omega) ⟨by omega, fun i hi => ?_, fun i k hik hk => ?_, fun l hl htl => ?_⟩
        · by_cases e1 : i < p
          · have := b2 i (by omega)
            simp only [if_pos e1]
            rw [upd_ne _ _ (by omega)]
            exact ⟨g3 i e1, by omega, this.2.2⟩
          · by_cases e2 : i = p
            · subst e2
              simp only [if_neg e1, if_true]
              rw [upd_eq]
              exact ⟨rfl, by omega, ht⟩
            · have := b2 (i - 1) (by omega)
              simp only [if_neg e1, if_neg e2]
              rw [upd_ne _ _ (by omega)]
              exact ⟨g4 i (by omega) (by omega), by omega, this.2.2⟩
        · by_cases e1 : k < p
          · simp only [if_pos (show i < p by omega), if_pos e1]
            exact b3 i k hik (by omega)
          · by_cases e2 : k = p
            · subst e2
              simp only [if_pos hik, if_neg e1, if_true]
              have hlast : ak lrows hops g x (o (k - 1)) ≤ ak lrows hops g x j := by
                rcases g6 with q | q
                · omega
                · omega
              have hle : ak lrows hops g x (o i) ≤ ak lrows hops g x (o (k - 1)) := by
                by_cases e3 : i = k - 1
                · rw [e3]; exact Int.le_refl _
                · rcases b3 i (k - 1) (by omega) (by omega) with q | q
                  · omega
                  · omega
              have := (b2 i (by omega)).2.1
              unfold ah
              omega
            · simp only [if_neg e1, if_neg e2]
              by_cases e3 : i < p
              · simp only [if_pos e3]
                exact b3 i (k - 1) (by omega) (by omega)
              · by_cases e4 : i = p
                · subst e4
                  simp only [if_neg e3, if_true]
                  exact Or.inl (g5 (k - 1) (by omega) (by omega))
                · simp only [if_neg e3, if_neg e4]
                  exact b3 (i - 1) (k - 1) (by omega) (by omega)
        · by_cases e : l = j
          · subst e
            exact ⟨p, by omega, by simp only [if_neg (Nat.lt_irrefl p), if_true]⟩
          · obtain ⟨i, hi, ei⟩ := b4 l (by omega) htl
            by_cases e1 : i < p
            · exact ⟨i, by omega, by simp only [if_pos e1]; exact ei⟩
            · exact ⟨i + 1, by omega, by simp only [if_neg (show ¬ i + 1 < p by omega), if_neg (show ¬ i + 1 = p by omega), Nat.add_sub_cancel]; exact ei⟩
theorem c_listCopies (lrows tokens hops order : Nat → Int32) {g Z : Nat} (hg : g < 8) (hZ : Z ≤ 16) (x : Int32) : ∃ c order' o, fX1_listCopies (nI Z) lrows tokens hops order (nI g) x = some (nI c, order') ∧ OL lrows tokens hops order' g x Z c o := by
  obtain ⟨c, order', o, g1, g2⟩ := list_out lrows tokens hops hg hZ x FU 0 0 order (fun i => i) (Nat.zero_le _) (by unfold FU; omega) ⟨Nat.le_refl _, fun i hi => by omega, fun i k _ hk => by omega, fun l hl => by omega⟩
  refine ⟨c, order', o, ?_, g2⟩
  unfold fX1_listCopies
  rw [show (0 : Int32) = nI 0 from rfl, g1, bd_s]
section PO
variable {N K Z C : Nat} {rooms mrows lrows rules counts refused tokens hops since notes lasts dAt dHops : Nat → Int32} {page : Nat → Int32}
/-- the reference's next -/
theorem next_loop (h : IW N K Z C rooms mrows lrows rules counts refused tokens hops since notes lasts dAt dHops page) {g : Nat} (hg : g < 8) (x : Int32) (left : Nat → Int32) (hl : ∀ w, w < Z → ¬ left w = 0 → ¬ tokens (g * 16 + w) ≤ 0) : ∀ (f j : Nat), j ≤ Z → Z < j + f →
    ((∃ b, fX6_nextOf_6 page left (nI g) x f (-4) (nI j) = some (nI b) ∧ b < Z ∧ j ≤ b ∧ ¬ left b = 0 ∧ ∀ w, j ≤ w → w < Z → ¬ left w = 0 → w = b ∨ ah lrows hops g x b w) ∨ (fX6_nextOf_6 page left (nI g) x f (-4) (nI j) = some (-4) ∧ ∀ w, j ≤ w → w < Z → left w = 0)) ∧
    (∀ c, c < j → ¬ tokens (g * 16 + c) ≤ 0 → ∃ b, fX6_nextOf_6 page left (nI g) x f (nI c) (nI j) = some (nI b) ∧ b < Z ∧ (b = c ∨ (j ≤ b ∧ ¬ left b = 0 ∧ ak lrows hops g x b < ak lrows hops g x c)) ∧ ∀ w, j ≤ w → w < Z → ¬ left w = 0 → w = b ∨ ah lrows hops g x b w) := by
  have hZ := h.hZ
  intro f
  induction f with
  | zero => intro j h1 h2; omega
  | succ f ih =>
    intro j h1 h2
    simp only [fX6_nextOf_6, h.p2]
    by_cases hj : j = Z
    · subst hj
      simp only [if_pos (nI_le (Nat.le_refl j) (show j < 2 ^ 31 by omega))]
      exact ⟨Or.inr ⟨trivial, fun w h3 h4 => by omega⟩, fun c h3 _ => ⟨c, rfl, h3, Or.inl rfl, fun w h4 h5 => by omega⟩⟩
    · have hlt : j < Z := by omega
      obtain ⟨ih1, ih2⟩ := ih (j + 1) (by omega) (by omega)
      simp only [if_neg (nI_ge hlt (show Z < 2 ^ 31 by omega)), gd_in (show j < 16 by omega) (show 16 < 2 ^ 31 by omega), nI_clamp (show j < 2 ^ 31 by omega), nI_1]
      by_cases hf : left j = 0
      · simp only [if_pos hf]
        refine ⟨?_, fun c h3 h4 => ?_⟩
        · rcases ih1 with ⟨b, q1, q2, q3, q4, q5⟩ | ⟨q1, q2⟩
          · exact Or.inl ⟨b, q1, q2, by omega, q4, fun w h5 h6 h7 => by
              by_cases e : w = j
              · subst e; exact absurd hf h7
              · exact q5 w (by omega) h6 h7⟩
          · exact Or.inr ⟨q1, fun w h5 h6 => by
              by_cases e : w = j
              · subst e; exact hf
              · exact q2 w (by omega) h6⟩
        · obtain ⟨b, q1, q2, q3, q4⟩ := ih2 c (by omega) h4
          exact ⟨b, q1, q2, q3.imp id (fun z => ⟨by omega, z.2⟩), fun w h5 h6 h7 => by
              by_cases e : w = j
              · subst e; exact absurd hf h7
              · exact q4 w (by omega) h6 h7⟩
      · have tj := hl j hlt hf
        simp only [if_neg hf, m_ofLetter'_2 h hlt, bd_s]
        refine ⟨?_, fun c h3 h4 => ?_⟩
        · have v : (if lrows (j * 6 + 2) = x then some (1 : Int32) else some 0) = some (if lrows (j * 6 + 2) = x then 1 else 0) := by split <;> rfl
          simp only [if_true, v, bd_s]
          obtain ⟨b, q1, q2, q3, q4⟩ := ih2 j (by omega) tj
          refine Or.inl ⟨b, q1, q2, ?_, ?_, fun w h5 h6 h7 => ?_⟩
          · rcases q3 with q | q <;> omega
          · rcases q3 with q | q
            · rw [q]; exact hf
            · exact q.2.1
          · by_cases e : w = j
            · subst e
              rcases q3 with q | q
              · exact Or.inl q.symm
              · exact Or.inr (Or.inl q.2.2)
            · exact q4 w (by omega) h6 h7
        · have n4 : ¬ nI c = -4 := nI_nm4 (by omega)
          have hcZ : c < Z := by omega
          simp only [if_neg n4, m_ofLetter'_2 h hcZ, bd_s, m_hopsOf page hg (show j < 16 by omega), m_hopsOf page hg (show c < 16 by omega), (h.ph hg (show j < 16 by omega) tj).1, (h.ph hg (show c < 16 by omega) h4).1]
          have key : ∀ (stay go : Option Int32), (bd (if lrows (j * 6 + 2) = x then some (1 : Int32) else some 0) fun v43 => bd (if lrows (c * 6 + 2) = x then some (1 : Int32) else some 0) fun v66 => if v43 = 0 then if v43 = v66 then (if hops (g * 16 + c) ≤ hops (g * 16 + j) then stay else go) else stay else if v66 = 0 then go else if v43 = v66 then (if hops (g * 16 + c) ≤ hops (g * 16 + j) then stay else go) else stay) = if ak lrows hops g x j < ak lrows hops g x c then go else stay := by
            intro stay go
            have r1 := i32_rng (hops (g * 16 + j))
            have r2 := i32_rng (hops (g * 16 + c))
            unfold ak
            simp only [Int32.le_iff_toInt_le]
            by_cases z1 : lrows (j * 6 + 2) = x <;> by_cases z2 : lrows (c * 6 + 2) = x
            · simp only [z1, z2, if_true, bd_s, e10, if_false]
              by_cases h3 : (hops (g * 16 + c)).toInt ≤ (hops (g * 16 + j)).toInt
              · rw [if_pos h3, if_neg (by omega)]
              · rw [if_neg h3, if_pos (by omega)]
            · simp only [z1, if_true, if_neg z2, bd_s, e10, if_false]
              rw [if_pos (by omega)]
            · simp only [z2, if_true, if_neg z1, bd_s, e01, if_false]
              rw [if_neg (by omega)]
            · simp only [if_neg z1, if_neg z2, bd_s, if_true]
              by_cases h3 : (hops (g * 16 + c)).toInt ≤ (hops (g * 16 + j)).toInt
              · rw [if_pos h3, if_neg (by omega)]
              · rw [if_neg h3, if_pos (by omega)]
          rw [key]
          by_cases hk : ak lrows hops g x j < ak lrows hops g x c
          · rw [if_pos hk]
            obtain ⟨b, q1, q2, q3, q4⟩ := ih2 j (by omega) tj
            refine ⟨b, q1, q2, Or.inr ?_, fun w h5 h6 h7 => ?_⟩
            · rcases q3 with q | q
              · rw [q]; exact ⟨by omega, hf, hk⟩
              · exact ⟨by omega, q.2.1, by omega⟩
            · by_cases e : w = j
              · subst e
                rcases q3 with q | q
                · exact Or.inl q.symm
                · exact Or.inr (Or.inl q.2.2)
              · exact q4 w (by omega) h6 h7
          · rw [if_neg hk]
            obtain ⟨b, q1, q2, q3, q4⟩ := ih2 c (by omega) h4
            refine ⟨b, q1, q2, q3.imp id (fun z => ⟨by omega, z.2⟩), fun w h5 h6 h7 => ?_⟩
            by_cases e : w = j
            · subst e
              right
              unfold ah
              rcases q3 with q | q
              · subst q; omega
              · omega
            · exact q4 w (by omega) h6 h7
end PO
