/-! the checks of what is asked -/
theorem m_in (x a b : Int32) : fX6_in x.toInt64 a.toInt64 b.toInt64 = some (if x < a then 0 else if b < x then 0 else 1) := by
  unfold fX6_in
  simp only [lg_cmp_lt, lg_cmp_gt, Int64.lt_iff_toInt_lt, Int32.toInt_toInt64, ← Int32.lt_iff_toInt_lt]
  split
  · rfl
  · split <;> rfl
theorem in_sim (x : Int32) (lo hi : Nat) {A B : Int64} (hA : A = (nI lo).toInt64) (hB : B = (nI hi).toInt64) (hlo : lo ≤ 1000) (h : hi < 1000) :
    (∃ t, lo ≤ t ∧ t ≤ hi ∧ x = nI t ∧ fX6_in x.toInt64 A B = some 1) ∨ ((x < nI lo ∨ nI hi < x) ∧ fX6_in x.toInt64 A B = some 0) := by
  rw [hA, hB, m_in]
  by_cases h1 : x < nI lo
  · exact Or.inr ⟨Or.inl h1, by rw [if_pos h1]⟩
  · by_cases h2 : nI hi < x
    · exact Or.inr ⟨Or.inr h2, by rw [if_neg h1, if_pos h2]⟩
    · refine Or.inl ?_
      have h0 : ¬ x < 0 := fun z => by
        have e : (nI lo).toInt = lo := nI_toInt (by omega)
        rw [Int32.lt_iff_toInt_lt] at z h1
        rw [show (0 : Int32).toInt = 0 from rfl] at z
        omega
      obtain ⟨t, ht, rfl⟩ := nI_of h0
      rw [nI_ltI ht (by omega)] at h1
      rw [nI_ltI (by omega) ht] at h2
      exact ⟨t, by omega, by omega, rfl, by rw [if_neg (nI_nlt (by omega) ht), if_neg (nI_nlt (by omega) (by omega))]⟩
theorem below_sim {n : Nat} (hn : n ≤ 1000) (x : Int32) : (∃ a, a < n ∧ x = nI a ∧ ¬ x < 0 ∧ ¬ nI n ≤ x ∧ fX6_in x.toInt64 0 (nI n - 1).toInt64 = some 1) ∨ ((x < 0 ∨ nI n ≤ x) ∧ fX6_in x.toInt64 0 (nI n - 1).toInt64 = some 0) := by
  have em := m_in x 0 (nI n - 1)
  rw [show (0 : Int32).toInt64 = 0 from by decide] at em
  have e1 : (nI n).toInt = n := nI_toInt (by omega)
  have e2 : (nI n - 1).toInt = (n : Int) - 1 := by rw [sub_toInt] <;> rw [e1, show (1 : Int32).toInt = 1 from rfl] <;> omega
  rw [em]
  rcases pk_ix x (n := n) (by omega) with h | h | ⟨j, hj, rfl⟩
  · exact Or.inr ⟨Or.inl h, by rw [if_pos h]⟩
  · refine Or.inr ⟨Or.inr h, ?_⟩
    have : nI n - 1 < x := by
      rw [Int32.lt_iff_toInt_lt, e2]
      rw [Int32.le_iff_toInt_le, e1] at h
      omega
    rw [if_pos this, ite_self]
  · refine Or.inl ⟨j, hj, rfl, nI_pos (by omega), nI_ge hj (by omega), ?_⟩
    have : ¬ nI n - 1 < nI j := by
      rw [Int32.lt_iff_toInt_lt, e2, nI_toInt (by omega)]
      omega
    rw [if_neg (nI_pos (by omega)), if_neg this]
theorem node_sim {N : Nat} {page : Nat → Int32} (hN : N ≤ 8) (p0 : page 0 = nI N) (x : Int32) : (∃ a, a < N ∧ x = nI a ∧ fX0_hasNode (nI N) x = some 1 ∧ fX6_isNode page x = some 1) ∨ (fX0_hasNode (nI N) x = some 0 ∧ fX6_isNode page x = some 0) := by
  unfold fX0_hasNode fX6_isNode
  rw [p0]
  rcases below_sim (n := N) (by omega) x with ⟨a, h1, h2, h3, h4, h5⟩ | ⟨h1, h2⟩
  · exact Or.inl ⟨a, h1, h2, by rw [if_neg h3, if_neg h4], by rw [h5, bd_s, tf_1]⟩
  · refine Or.inr ⟨?_, by rw [h2, bd_s, tf_0]⟩
    rcases h1 with h | h
    · rw [if_pos h]
    · rw [if_pos h, ite_self]
theorem letter_sim {Z : Nat} {page : Nat → Int32} (hZ : Z ≤ 16) (p2 : page 2 = nI Z) (x : Int32) : (∃ a, a < Z ∧ x = nI a ∧ fX0_hasLetter (nI Z) x = some 1 ∧ fX6_isLetter page x = some 1) ∨ (fX0_hasLetter (nI Z) x = some 0 ∧ fX6_isLetter page x = some 0) := by
  unfold fX0_hasLetter fX6_isLetter
  rw [p2]
  rcases below_sim (n := Z) (by omega) x with ⟨a, h1, h2, h3, h4, h5⟩ | ⟨h1, h2⟩
  · exact Or.inl ⟨a, h1, h2, by rw [if_neg h3, if_neg h4], by rw [h5, bd_s, tf_1]⟩
  · refine Or.inr ⟨?_, by rw [h2, bd_s, tf_0]⟩
    rcases h1 with h | h
    · rw [if_pos h]
    · rw [if_pos h, ite_self]
theorem pair_sim {N : Nat} {page : Nat → Int32} (hN : N ≤ 8) (p0 : page 0 = nI N) (x y : Int32) : (∃ a b, a < N ∧ b < N ∧ a ≠ b ∧ x = nI a ∧ y = nI b ∧ fX0_hasPair (nI N) x y = some 1 ∧ fX6_isNode page x = some 1 ∧ fX6_isNode page y = some 1 ∧ ¬ x = y) ∨
    (fX0_hasPair (nI N) x y = some 0 ∧ ∀ (α : Type) (R rest : Option α), bd (fX6_isNode page x) (fun q2 => if q2 = 0 then R else bd (fX6_isNode page y) (fun q10 => if q10 = 0 then R else if x = y then R else rest)) = R) := by
  unfold fX0_hasPair
  rcases node_sim hN p0 x with ⟨a, ha, ea, a1, a2⟩ | ⟨a1, a2⟩
  · rcases node_sim hN p0 y with ⟨b, hb, eb, b1, b2⟩ | ⟨b1, b2⟩
    · by_cases hxy : x = y
      · exact Or.inr ⟨by rw [a1, bd_s, if_neg (by decide), b1, bd_s, if_neg (by decide), if_pos hxy], fun α R rest => by rw [a2, bd_s, if_neg (by decide), b2, bd_s, if_neg (by decide), if_pos hxy]⟩
      · refine Or.inl ⟨a, b, ha, hb, fun z => hxy (by rw [ea, eb, z]), ea, eb, by rw [a1, bd_s, if_neg (by decide), b1, bd_s, if_neg (by decide), if_neg hxy], a2, b2, hxy⟩
    · exact Or.inr ⟨by rw [a1, bd_s, if_neg (by decide), b1, bd_s, if_pos rfl], fun α R rest => by rw [a2, bd_s, if_neg (by decide), b2, bd_s, if_pos rfl]⟩
  · exact Or.inr ⟨by rw [a1, bd_s, if_pos rfl], fun α R rest => by rw [a2, bd_s, if_pos rfl]⟩
/-! counts -/
theorem sumZ_split (g : Nat → Int32) : ∀ (k j m : Nat), sumZ g j (k + m) = sumZ g j k + sumZ g (j + k) m := by
  intro k
  induction k with
  | zero => intro j m; show sumZ g j (0 + m) = 0 + _; rw [Int32.zero_add, Nat.zero_add, Nat.add_zero]
  | succ k ih =>
    intro j m
    rw [show k + 1 + m = (k + m) + 1 by omega]
    show g j + sumZ g (j + 1) (k + m) = (g j + sumZ g (j + 1) k) + sumZ g (j + (k + 1)) m
    rw [ih (j + 1) m, Int32.add_assoc, show j + 1 + k = j + (k + 1) by omega]
theorem sumZ_cut {g : Nat → Int32} {n m : Nat} (h : n ≤ m) (hg : ∀ i, n ≤ i → i < m → g i = 0) : sumZ g 0 m = sumZ g 0 n := by
  obtain ⟨k, rfl⟩ : ∃ k, m = n + k := ⟨m - n, by omega⟩
  rw [sumZ_split, sumZ_zero k (0 + n) (fun i h1 h2 => hg i (by omega) (by omega)), Int32.add_zero]
theorem sumZ_cnt (p : Nat → Bool) : ∀ (k j : Nat), sumZ (fun l => if p l then 1 else 0) j k = nI (cntN p j k) := by
  intro k
  induction k with
  | zero => intro j; rfl
  | succ k ih =>
    intro j
    show (if p j then (1 : Int32) else 0) + sumZ _ (j + 1) k = nI ((if p j then 1 else 0) + cntN p (j + 1) k)
    rw [ih (j + 1), ← nI_add]
    split <;> rfl
theorem cnt_enum {Z : Nat} : ∀ (k : Nat) (p : Nat → Bool) (o : Nat → Nat), (∀ i, i < k → o i < Z ∧ p (o i) = true) → (∀ i j, i < j → j < k → ¬ o i = o j) → (∀ l, l < Z → p l = true → ∃ i, i < k ∧ o i = l) → cntN p 0 Z = k := by
  intro k
  induction k with
  | zero =>
    intro p o h1 h2 h3
    rw [cntN_congr (q := fun _ => false) Z 0 (fun l _ hl => by
      cases hp : p l with
      | false => rfl
      | true =>
        obtain ⟨i, hi, -⟩ := h3 l (by omega) hp
        omega)]
    have : ∀ (k j : Nat), cntN (fun _ => false) j k = 0 := by
      intro k
      induction k with
      | zero => intro j; rfl
      | succ k ih => intro j; simp [cntN, ih]
    exact this Z 0
  | succ k ih =>
    intro p o h1 h2 h3
    have hk := h1 k (by omega)
    rw [cntN_drop (p := p) (q := fun l => p l && decide (l ≠ o k)) (o k) hk.2 (by simp) Z 0 (Nat.zero_le _) (by omega) (fun i hi => by simp [hi])]
    rw [ih _ o (fun i hi => ⟨(h1 i (by omega)).1, by simp [(h1 i (by omega)).2, h2 i k hi (by omega)]⟩) (fun i j h4 h5 => h2 i j h4 (by omega)) (fun l hl hp => by
      simp at hp
      obtain ⟨i, hi, e⟩ := h3 l hl hp.1
      refine ⟨i, ?_, e⟩
      by_cases z : i = k
      · subst z; exact absurd e.symm hp.2
      · omega)]
theorem ite4 (P Q R S : Prop) [Decidable P] [Decidable Q] [Decidable R] [Decidable S] (g : Int32) : (if P then if R then some g else if S then some g else some 0 else if Q then if R then some g else if S then some g else some 0 else some 0) = some (if (P ∨ Q) ∧ (R ∨ S) then g else 0) := by
  by_cases P <;> by_cases Q <;> by_cases R <;> by_cases S <;> simp [*]
def gCopy (tokens : Nat → Int32) (n l : Nat) : Int32 := if tokens (n * 16 + l) ≤ 0 then 0 else 1
theorem c_copiesIn (tokens : Nat → Int32) {n Z : Nat} (hn : n < 8) (hZ : Z ≤ 16) : fX4_copiesIn (nI Z) tokens (nI n) = some (sumZ (gCopy tokens n) 0 Z) := by
  have loop : ∀ (f j : Nat) (s : Int32), j ≤ Z → Z < j + f → fX4_copiesIn_4 (nI Z) tokens (nI n) f s (nI j) = some (s + sumZ (gCopy tokens n) j (Z - j)) := by
    intro f
    induction f with
    | zero => intro j s h1 h2; omega
    | succ f ih =>
      intro j s h1 h2
      rw [fX4_copiesIn_4]
      by_cases hj : j = Z
      · subst hj
        rw [if_pos (nI_le (Nat.le_refl _) (by omega)), sum_exit]
      · have hlt : j < Z := by omega
        rw [if_neg (nI_ge hlt (by omega)), c_hasCopy tokens hn (by omega), bd_s, nI_1]
        by_cases ht : tokens (n * 16 + j) ≤ 0
        · rw [if_pos ht, if_pos rfl, ih (j + 1) s (by omega) (by omega), sum_skip s _ hlt (by simp only [gCopy, if_pos ht])]
        · rw [if_neg ht, if_neg (by decide), ih (j + 1) _ (by omega) (by omega), ← sum_step s _ hlt]
          simp only [gCopy, if_neg ht]
  unfold fX4_copiesIn
  have e := loop FU 0 0 (Nat.zero_le _) (by unfold FU; omega)
  rw [show nI 0 = (0 : Int32) from rfl] at e
  rw [e, bd_s, Int32.zero_add, Nat.sub_zero]
theorem c_copiesOf (tokens : Nat → Int32) {l N : Nat} (hl : l < 16) (hN : N ≤ 8) : fX4_copiesOf (nI N) tokens (nI l) = some (sumZ (fun n => gCopy tokens n l) 0 N) := by
  have loop : ∀ (f j : Nat) (s : Int32), j ≤ N → N < j + f → fX4_copiesOf_4 (nI N) tokens (nI l) f s (nI j) = some (s + sumZ (fun n => gCopy tokens n l) j (N - j)) := by
    intro f
    induction f with
    | zero => intro j s h1 h2; omega
    | succ f ih =>
      intro j s h1 h2
      rw [fX4_copiesOf_4]
      by_cases hj : j = N
      · subst hj
        rw [if_pos (nI_le (Nat.le_refl _) (by omega)), sum_exit]
      · have hlt : j < N := by omega
        rw [if_neg (nI_ge hlt (by omega)), c_hasCopy tokens (by omega) hl, bd_s, nI_1]
        by_cases ht : tokens (j * 16 + l) ≤ 0
        · rw [if_pos ht, if_pos rfl, ih (j + 1) s (by omega) (by omega), sum_skip s _ hlt (by simp only [gCopy, if_pos ht])]
        · rw [if_neg ht, if_neg (by decide), ih (j + 1) _ (by omega) (by omega), ← sum_step s _ hlt]
          simp only [gCopy, if_neg ht]
  unfold fX4_copiesOf
  have e := loop FU 0 0 (Nat.zero_le _) (by unfold FU; omega)
  rw [show nI 0 = (0 : Int32) from rfl] at e
  rw [e, bd_s, Int32.zero_add, Nat.sub_zero]
theorem c_copiesInAll (tokens : Nat → Int32) {Z N : Nat} (hZ : Z ≤ 16) (hN : N ≤ 8) : fX4_copiesInAll (nI N) (nI Z) tokens = some (sumZ (fun n => sumZ (gCopy tokens n) 0 Z) 0 N) := by
  have loop : ∀ (f j : Nat) (s : Int32), j ≤ N → N < j + f → fX4_copiesInAll_4 (nI N) (nI Z) tokens f s (nI j) = some (s + sumZ (fun n => sumZ (gCopy tokens n) 0 Z) j (N - j)) := by
    intro f
    induction f with
    | zero => intro j s h1 h2; omega
    | succ f ih =>
      intro j s h1 h2
      rw [fX4_copiesInAll_4]
      by_cases hj : j = N
      · subst hj
        rw [if_pos (nI_le (Nat.le_refl _) (by omega)), sum_exit]
      · have hlt : j < N := by omega
        rw [if_neg (nI_ge hlt (by omega)), c_copiesIn tokens (by omega) hZ, bd_s, nI_1, ih (j + 1) _ (by omega) (by omega), ← sum_step s _ hlt]
  unfold fX4_copiesInAll
  have e := loop FU 0 0 (Nat.zero_le _) (by unfold FU; omega)
  rw [show nI 0 = (0 : Int32) from rfl] at e
  rw [e, bd_s, Int32.zero_add, Nat.sub_zero]
theorem c_tokensOf (tokens : Nat → Int32) {l N : Nat} (hl : l < 16) (hN : N ≤ 8) : fX4_tokensOf (nI N) tokens (nI l) = some (sumZ (fun n => tokens (n * 16 + l)) 0 N) := by
  have loop : ∀ (f j : Nat) (s : Int32), j ≤ N → N < j + f → fX4_tokensOf_4 (nI N) tokens (nI l) f s (nI j) = some (s + sumZ (fun n => tokens (n * 16 + l)) j (N - j)) := by
    intro f
    induction f with
    | zero => intro j s h1 h2; omega
    | succ f ih =>
      intro j s h1 h2
      rw [fX4_tokensOf_4]
      by_cases hj : j = N
      · subst hj
        rw [if_pos (nI_le (Nat.le_refl _) (by omega)), sum_exit]
      · have hlt : j < N := by omega
        rw [if_neg (nI_ge hlt (by omega)), c_place, bd_s, gd_in (by omega) (by omega), nI_clamp (by omega), nI_1, ih (j + 1) _ (by omega) (by omega), ← sum_step s _ hlt]
  unfold fX4_tokensOf
  have e := loop FU 0 0 (Nat.zero_le _) (by unfold FU; omega)
  rw [show nI 0 = (0 : Int32) from rfl] at e
  rw [e, bd_s, Int32.zero_add, Nat.sub_zero]
theorem c_othersMet (lasts : Nat → Int32) {a N : Nat} (ha : a < 8) (hN : N ≤ 8) : fX4_othersMet (nI N) lasts (nI a) = some (sumZ (fun b => if lasts (a * 8 + b) = -1 then 0 else 1) 0 N) := by
  have loop : ∀ (f j : Nat) (s : Int32), j ≤ N → N < j + f → fX4_othersMet_4 (nI N) lasts (nI a) f s (nI j) = some (s + sumZ (fun b => if lasts (a * 8 + b) = -1 then 0 else 1) j (N - j)) := by
    intro f
    induction f with
    | zero => intro j s h1 h2; omega
    | succ f ih =>
      intro j s h1 h2
      rw [fX4_othersMet_4]
      by_cases hj : j = N
      · subst hj
        rw [if_pos (nI_le (Nat.le_refl _) (by omega)), sum_exit]
      · have hlt : j < N := by omega
        rw [if_neg (nI_ge hlt (by omega)), c_lastOf lasts ha (by omega), bd_s, nI_1]
        by_cases ht : lasts (a * 8 + j) = -1
        · rw [if_pos ht, ih (j + 1) s (by omega) (by omega), sum_skip s _ hlt (by simp only [if_pos ht])]
        · rw [if_neg ht, ih (j + 1) _ (by omega) (by omega), ← sum_step s _ hlt]
          simp only [if_neg ht]
  unfold fX4_othersMet
  have e := loop FU 0 0 (Nat.zero_le _) (by unfold FU; omega)
  rw [show nI 0 = (0 : Int32) from rfl] at e
  rw [e, bd_s, Int32.zero_add, Nat.sub_zero]
section PK
variable {N K Z C : Nat} {rooms mrows lrows rules counts refused tokens hops since notes lasts dAt dHops : Nat → Int32} {page : Nat → Int32}
theorem m_copiesOf (h : IW N K Z C rooms mrows lrows rules counts refused tokens hops since notes lasts dAt dHops page) (y1 y2 : Int32) : fX6_copiesOf page y1 y2 = some (sumZ (fun n => sumZ (fun l => if (y1 = -4 ∨ y1 = nI n) ∧ (y2 = -4 ∨ y2 = nI l) then gCopy tokens n l else 0) 0 Z) 0 N) := by
  have hN := h.hN
  have hZ := h.hZ
  have inner : ∀ (n : Nat), n < 8 → ∀ (f j : Nat) (s : Int32), j ≤ Z → Z < j + f → fX6_copiesOf_19 page y1 y2 (nI n) f s (nI j) = some (s + sumZ (fun l => if (y1 = -4 ∨ y1 = nI n) ∧ (y2 = -4 ∨ y2 = nI l) then gCopy tokens n l else 0) j (Z - j)) := by
    intro n hn f
    induction f with
    | zero => intro j s h1 h2; omega
    | succ f ih =>
      intro j s h1 h2
      rw [fX6_copiesOf_19, h.p2]
      by_cases hj : j = Z
      · subst hj
        rw [if_pos (nI_le (Nat.le_refl _) (by omega)), sum_exit]
      · have hlt : j < Z := by omega
        have v : (if tokens (n * 16 + j) ≤ 0 then (0 : Int32) else 1) = gCopy tokens n j := rfl
        have w : ∀ z : Int32, (z = 0 ∨ z = 1) → (if z = 0 then some (0 : Int32) else some 1) = some z := fun z hz => by rcases hz with rfl | rfl <;> rfl
        have g01 : gCopy tokens n j = 0 ∨ gCopy tokens n j = 1 := by
          unfold gCopy
          split
          · exact Or.inl rfl
          · exact Or.inr rfl
        rw [if_neg (nI_ge hlt (by omega)), m_hasCopy' h hn (by omega), bd_s, v, w _ g01, nI_1]
        have key : (if y1 = -4 then if y2 = -4 then some (gCopy tokens n j) else if y2 = nI j then some (gCopy tokens n j) else some 0 else if y1 = nI n then if y2 = -4 then some (gCopy tokens n j) else if y2 = nI j then some (gCopy tokens n j) else some 0 else some 0) = some (if (y1 = -4 ∨ y1 = nI n) ∧ (y2 = -4 ∨ y2 = nI j) then gCopy tokens n j else 0) := by
          exact ite4 _ _ _ _ _
        rw [key, bd_s, ih (j + 1) _ (by omega) (by omega), ← sum_step s _ hlt]
  have loop : ∀ (f j : Nat) (s : Int32), j ≤ N → N < j + f → fX6_copiesOf_5 page y1 y2 f s (nI j) = some (s + sumZ (fun n => sumZ (fun l => if (y1 = -4 ∨ y1 = nI n) ∧ (y2 = -4 ∨ y2 = nI l) then gCopy tokens n l else 0) 0 Z) j (N - j)) := by
    intro f
    induction f with
    | zero => intro j s h1 h2; omega
    | succ f ih =>
      intro j s h1 h2
      rw [fX6_copiesOf_5, h.p0]
      by_cases hj : j = N
      · subst hj
        rw [if_pos (nI_le (Nat.le_refl _) (by omega)), sum_exit]
      · have hlt : j < N := by omega
        have e := inner j (by omega) FU 0 s (Nat.zero_le _) (by unfold FU; omega)
        rw [show nI 0 = (0 : Int32) from rfl] at e
        rw [if_neg (nI_ge hlt (by omega)), e, bd_s, nI_1, ih (j + 1) _ (by omega) (by omega), ← sum_step s _ hlt, Nat.sub_zero]
  unfold fX6_copiesOf
  have e := loop FU 0 0 (Nat.zero_le _) (by unfold FU; omega)
  rw [show nI 0 = (0 : Int32) from rfl] at e
  rw [e, bd_s, Int32.zero_add, Nat.sub_zero]
theorem m_copiesAll (h : IW N K Z C rooms mrows lrows rules counts refused tokens hops since notes lasts dAt dHops page) : fX6_copiesOf page (-4) (-4) = some (sumZ (fun n => sumZ (gCopy tokens n) 0 Z) 0 N) := by
  rw [m_copiesOf h]
  simp only [true_or, and_self, if_true]
theorem m_copiesIn (h : IW N K Z C rooms mrows lrows rules counts refused tokens hops since notes lasts dAt dHops page) {n : Nat} (hn : n < N) : fX6_copiesOf page (nI n) (-4) = some (sumZ (gCopy tokens n) 0 Z) := by
  have hN := h.hN
  rw [m_copiesOf h, sumZ_one n N 0 (Nat.zero_le _) (by omega) (fun i _ hi hne => by
    have e1 : ¬ nI n = nI i := fun z => hne (nI_inj (by omega) (by omega) z).symm
    refine sumZ_zero Z 0 (fun l _ _ => ?_)
    rw [if_neg (fun z => z.1.elim (nI_nm4 (n := n) (by omega)) e1)])]
  simp only [true_or, or_true, and_self, if_true]
theorem m_copiesAt (h : IW N K Z C rooms mrows lrows rules counts refused tokens hops since notes lasts dAt dHops page) {l : Nat} (hl : l < Z) : fX6_copiesOf page (-4) (nI l) = some (sumZ (fun n => gCopy tokens n l) 0 N) := by
  have hZ := h.hZ
  rw [m_copiesOf h]
  congr 1
  refine sumZ_congr N 0 (fun n _ _ => ?_)
  rw [sumZ_one l Z 0 (Nat.zero_le _) (by omega) (fun i _ hi hne => by
    have e1 : ¬ nI l = nI i := fun z => hne (nI_inj (by omega) (by omega) z).symm
    show (if _ then _ else _) = _
    rw [if_neg (fun z => z.2.elim (nI_nm4 (n := l) (by omega)) e1)])]
  simp only [true_or, or_true, and_self, if_true]
theorem m_tokensOfAll (h : IW N K Z C rooms mrows lrows rules counts refused tokens hops since notes lasts dAt dHops page) {l : Nat} (hl : l < 16) : fX6_tokensOfAll page (nI l) = some (sumZ (fun n => tokens (n * 16 + l)) 0 N) := by
  have hN := h.hN
  have loop : ∀ (f j : Nat) (s : Int32), j ≤ N → N < j + f → fX6_tokensOfAll_4 page (nI l) f s (nI j) = some (s + sumZ (fun n => tokens (n * 16 + l)) j (N - j)) := by
    intro f
    induction f with
    | zero => intro j s h1 h2; omega
    | succ f ih =>
      intro j s h1 h2
      rw [fX6_tokensOfAll_4, h.p0]
      by_cases hj : j = N
      · subst hj
        rw [if_pos (nI_le (Nat.le_refl _) (by omega)), sum_exit]
      · have hlt : j < N := by omega
        rw [if_neg (nI_ge hlt (by omega)), m_tokensOf page (by omega) hl, bd_s, h.pt (by omega) hl, nI_1, ih (j + 1) _ (by omega) (by omega), ← sum_step s _ hlt]
  unfold fX6_tokensOfAll
  have e := loop FU 0 0 (Nat.zero_le _) (by unfold FU; omega)
  rw [show nI 0 = (0 : Int32) from rfl] at e
  rw [e, bd_s, Int32.zero_add, Nat.sub_zero]
theorem m_metCount (hC : C ≤ 30000) (h : IW N K Z C rooms mrows lrows rules counts refused tokens hops since notes lasts dAt dHops page) (hc : CI N K Z C rooms mrows lrows rules counts refused tokens hops since notes lasts dAt dHops) {a : Nat} (ha : a < 8) : fX6_counted page (nI a) 0 = some (sumZ (fun b => if lasts (a * 8 + b) = -1 then 0 else 1) 0 N) := by
  have hN := h.hN
  have loop : ∀ (f j : Nat) (s : Int32), j ≤ 8 → 8 < j + f → fX6_counted_5 page (nI a) 0 f s (nI j) = some (s + sumZ (fun b => if lasts (a * 8 + b) = -1 then 0 else 1) j (8 - j)) := by
    intro f
    induction f with
    | zero => intro j s h1 h2; omega
    | succ f ih =>
      intro j s h1 h2
      rw [fX6_counted_5, if_pos rfl, bd_s]
      by_cases hj : j = 8
      · subst hj
        rw [if_pos (show (8 : Int32) ≤ nI 8 by decide), sum_exit]
      · have hlt : j < 8 := by omega
        have e : ((767 : Int32) + (8 : Int32) * nI a) + nI j = nI (767 + 8 * a + j) := ix4 767 8 a j
        rw [if_neg (show ¬ (8 : Int32) ≤ nI j from nI_ge (a := j) (b := 8) hlt (by omega)), if_pos rfl, gd_at e (by omega) (by omega), cl_at e (by omega), h.ps ha hlt, nI_1]
        have v : (if lasts (a * 8 + j) + 1 ≤ 0 then some (0 : Int32) else some 1) = some (if lasts (a * 8 + j) = -1 then 0 else 1) := by
          rcases (hc.la ha hlt).1 with q | ⟨t, ht, q⟩
          · rw [q]; rfl
          · rw [q, nI_1, if_neg (nI_nle (by omega) (by omega)), if_neg (nI_nm1 (n := t) (by omega))]
        rw [v, bd_s, ih (j + 1) _ (by omega) (by omega), ← sum_step s _ hlt]
  unfold fX6_counted
  have e := loop FU 0 0 (Nat.zero_le _) (by unfold FU; omega)
  rw [show nI 0 = (0 : Int32) from rfl] at e
  rw [e, bd_s, Int32.zero_add, Nat.sub_zero, sumZ_cut hN (fun i h1 h2 => by rw [(hc.la ha h2).2 (Or.inl h1)]; rfl)]
theorem m_noteCount (h : IW N K Z C rooms mrows lrows rules counts refused tokens hops since notes lasts dAt dHops page) {a : Nat} (ha : a < 8) : fX6_counted page (nI a) 1 = some (sumZ (fun l => (notes a >>> (nI l &&& 31)) &&& 1) 0 16) := by
  have loop : ∀ (f j : Nat) (s : Int32), j ≤ 16 → 16 < j + f → fX6_counted_5 page (nI a) 1 f s (nI j) = some (s + sumZ (fun l => (notes a >>> (nI l &&& 31)) &&& 1) j (16 - j)) := by
    intro f
    induction f with
    | zero => intro j s h1 h2; omega
    | succ f ih =>
      intro j s h1 h2
      rw [fX6_counted_5, if_neg (by decide), bd_s]
      by_cases hj : j = 16
      · subst hj
        rw [if_pos (show (16 : Int32) ≤ nI 16 by decide), sum_exit]
      · have hlt : j < 16 := by omega
        have e : ((639 : Int32) + (16 : Int32) * nI a) + nI j = nI (639 + 16 * a + j) := ix4 639 16 a j
        rw [if_neg (show ¬ (16 : Int32) ≤ nI j from nI_ge (a := j) (b := 16) hlt (by omega)), if_neg (by decide), gd_at e (by omega) (by omega), cl_at e (by omega), h.pn ha hlt, bd_s, nI_1, ih (j + 1) _ (by omega) (by omega), ← sum_step s _ hlt]
  unfold fX6_counted
  have e := loop FU 0 0 (Nat.zero_le _) (by unfold FU; omega)
  rw [show nI 0 = (0 : Int32) from rfl] at e
  rw [e, bd_s, Int32.zero_add, Nat.sub_zero]
end PK
