/-! counts and sums with one place changed -/
def cntN (p : Nat → Bool) : Nat → Nat → Nat
  | _, 0 => 0
  | j, k + 1 => (if p j then 1 else 0) + cntN p (j + 1) k
theorem cntN_le (p : Nat → Bool) : ∀ (k j : Nat), cntN p j k ≤ k := by
  intro k
  induction k with
  | zero => intro j; exact Nat.le_refl _
  | succ k ih =>
    intro j
    have := ih (j + 1)
    show (if p j then 1 else 0) + cntN p (j + 1) k ≤ k + 1
    split <;> omega
theorem cntN_zero {p : Nat → Bool} : ∀ (k j : Nat), cntN p j k = 0 → ∀ i, j ≤ i → i < j + k → p i = false := by
  intro k
  induction k with
  | zero => intro j _ i h1 h2; omega
  | succ k ih =>
    intro j h i h1 h2
    have h : (if p j then 1 else 0) + cntN p (j + 1) k = 0 := h
    by_cases hi : i = j
    · subst hi
      cases hp : p i with
      | false => rfl
      | true => rw [hp] at h; simp at h
    · exact ih (j + 1) (by omega) i (by omega) (by omega)
theorem cntN_congr {p q : Nat → Bool} : ∀ (k j : Nat), (∀ i, j ≤ i → i < j + k → p i = q i) → cntN p j k = cntN q j k := by
  intro k
  induction k with
  | zero => intro j _; rfl
  | succ k ih =>
    intro j e
    show (if p j then 1 else 0) + cntN p (j + 1) k = (if q j then 1 else 0) + cntN q (j + 1) k
    rw [e j (Nat.le_refl _) (by omega), ih (j + 1) (fun i h1 h2 => e i (by omega) (by omega))]
theorem cntN_drop {p q : Nat → Bool} (b : Nat) (hb : p b = true) (hq : q b = false) : ∀ (k j : Nat), j ≤ b → b < j + k → (∀ i, i ≠ b → q i = p i) → cntN p j k = cntN q j k + 1 := by
  intro k
  induction k with
  | zero => intro j h1 h2; omega
  | succ k ih =>
    intro j h1 h2 e
    show (if p j then 1 else 0) + cntN p (j + 1) k = (if q j then 1 else 0) + cntN q (j + 1) k + 1
    by_cases hj : j = b
    · subst hj
      rw [hb, hq, cntN_congr k (j + 1) (fun i h3 h4 => (e i (by omega)).symm)]
      simp
      omega
    · rw [e j hj, ih (j + 1) (by omega) (by omega) e]
      omega
theorem sumZ_drop {g h : Nat → Int32} (b : Nat) (hb : h b = 0) : ∀ (k j : Nat), j ≤ b → b < j + k → (∀ i, i ≠ b → h i = g i) → sumZ g j k = sumZ h j k + g b := by
  intro k
  induction k with
  | zero => intro j h1 h2; omega
  | succ k ih =>
    intro j h1 h2 e
    show g j + sumZ g (j + 1) k = (h j + sumZ h (j + 1) k) + g b
    by_cases hj : j = b
    · subst hj
      rw [hb, sumZ_congr k (j + 1) (fun i h3 h4 => (e i (by omega)).symm), Int32.zero_add, Int32.add_comm]
    · rw [e j hj, ih (j + 1) (by omega) (by omega) e, Int32.add_assoc]
/-! who goes first -/
def gRank (lrows rules since : Nat → Int32) (n l : Nat) : Int32 := if rules 2 = 1 then since (n * 16 + l) else if rules 2 = 2 then -(lrows (l * 6 + 3)) else lrows (l * 6 + 0) + lrows (l * 6 + 5)
theorem neg_le99 : ∀ a, a ≤ 99 → ∀ b, b ≤ 99 → ((nI a ≤ nI b) ↔ (-(nI b) ≤ -(nI a))) := by
  have : ∀ a, a < 100 → ∀ b, b < 100 → ((nI a ≤ nI b) ↔ (-(nI b) ≤ -(nI a))) := by decide +kernel
  exact fun a ha b hb => this a (by omega) b (by omega)
theorem c_rank (lrows rules since : Nat → Int32) {n l : Nat} (hn : n < 8) (hl : l < 16) : fX1_rankToGo lrows rules since (nI n) (nI l) = some (gRank lrows rules since n l) := by
  have e : (nI n * (16 : Int32)) + nI l = nI (n * 16 + l) := ix3 n 16 l
  have e0 : (nI l * (6 : Int32)) + (0 : Int32) = nI (l * 6 + 0) := ix3 l 6 0
  have e3 : (nI l * (6 : Int32)) + (3 : Int32) = nI (l * 6 + 3) := ix3 l 6 3
  have e5 : (nI l * (6 : Int32)) + (5 : Int32) = nI (l * 6 + 5) := ix3 l 6 5
  unfold fX1_rankToGo gRank
  rw [gd_at e (by omega) (by omega), gd_at e0 (by omega) (by omega), gd_at e3 (by omega) (by omega), gd_at e5 (by omega) (by omega), cl_at e (by omega), cl_at e0 (by omega), cl_at e3 (by omega), cl_at e5 (by omega)]
  split
  · rfl
  · split <;> rfl
section PR
variable {N K Z C : Nat} {rooms mrows lrows rules counts refused tokens hops since notes lasts dAt dHops : Nat → Int32} {page : Nat → Int32}
theorem CI.rl (h : CI N K Z C rooms mrows lrows rules counts refused tokens hops since notes lasts dAt dHops) : (∃ r, r ≤ 99 ∧ rules 0 = nI r) ∧ (∃ r, r ≤ 3 ∧ rules 1 = nI r) ∧ (∃ r, r ≤ 3 ∧ rules 2 = nI r) ∧ (∃ r, r ≤ 9 ∧ rules 3 = nI r) := h.1
theorem CI.mt (h : CI N K Z C rooms mrows lrows rules counts refused tokens hops since notes lasts dAt dHops) {m : Nat} (hm : m < K) : (∃ t, 1 ≤ t ∧ t ≤ 99 ∧ mrows (m * 4 + 0) = nI t) ∧ ∃ a b, a < N ∧ b < N ∧ a ≠ b ∧ mrows (m * 4 + 1) = nI a ∧ mrows (m * 4 + 2) = nI b := h.2.1 m hm
theorem CI.birth (h : CI N K Z C rooms mrows lrows rules counts refused tokens hops since notes lasts dAt dHops) {l : Nat} (hl : l < Z) : ∃ t, t ≤ 25700 ∧ lrows (l * 6 + 0) = nI t := (h.2.2.1 l hl).1
theorem CI.pair (h : CI N K Z C rooms mrows lrows rules counts refused tokens hops since notes lasts dAt dHops) {l : Nat} (hl : l < Z) : ∃ a b, a < N ∧ b < N ∧ a ≠ b ∧ lrows (l * 6 + 1) = nI a ∧ lrows (l * 6 + 2) = nI b := (h.2.2.1 l hl).2.1
theorem CI.size (h : CI N K Z C rooms mrows lrows rules counts refused tokens hops since notes lasts dAt dHops) {l : Nat} (hl : l < Z) : ∃ z, 1 ≤ z ∧ z ≤ 99 ∧ lrows (l * 6 + 3) = nI z := (h.2.2.1 l hl).2.2.1
theorem CI.toks (h : CI N K Z C rooms mrows lrows rules counts refused tokens hops since notes lasts dAt dHops) {l : Nat} (hl : l < Z) : ∃ z, 1 ≤ z ∧ z ≤ 64 ∧ lrows (l * 6 + 4) = nI z := (h.2.2.1 l hl).2.2.2.1
theorem CI.life (h : CI N K Z C rooms mrows lrows rules counts refused tokens hops since notes lasts dAt dHops) {l : Nat} (hl : l < Z) : ∃ z, 1 ≤ z ∧ z ≤ 99 ∧ lrows (l * 6 + 5) = nI z := (h.2.2.1 l hl).2.2.2.2
theorem CI.fresh (h : CI N K Z C rooms mrows lrows rules counts refused tokens hops since notes lasts dAt dHops) {l : Nat} (h1 : Z ≤ l) (h2 : l < 16) : dAt l = -4 ∧ dHops l = -4 := h.2.2.2.1 l h1 h2
theorem CI.tk (h : CI N K Z C rooms mrows lrows rules counts refused tokens hops since notes lasts dAt dHops) {n l : Nat} (hn : n < 8) (hl : l < 16) : ∃ v, v ≤ 64 ∧ tokens (n * 16 + l) = nI v := h.2.2.2.2.1 n l hn hl
theorem CI.nt (h : CI N K Z C rooms mrows lrows rules counts refused tokens hops since notes lasts dAt dHops) {n : Nat} (hn : n < 8) : ∃ v, v < 2 ^ Z ∧ notes n = nI v := h.2.2.2.2.2.1 n hn
theorem CI.la (h : CI N K Z C rooms mrows lrows rules counts refused tokens hops since notes lasts dAt dHops) {a b : Nat} (ha : a < 8) (hb : b < 8) : (lasts (a * 8 + b) = -1 ∨ ∃ t, t ≤ C ∧ lasts (a * 8 + b) = nI t) ∧ (N ≤ b ∨ a = b → lasts (a * 8 + b) = -1) := h.2.2.2.2.2.2 a b ha hb
theorem m_isAhead (h : IW N K Z C rooms mrows lrows rules counts refused tokens hops since notes lasts dAt dHops page) (hc : CI N K Z C rooms mrows lrows rules counts refused tokens hops since notes lasts dAt dHops) {n l j : Nat} (hn : n < 8) (hl : l < Z) (hj : j < Z) (tl : ¬ tokens (n * 16 + l) ≤ 0) (tj : ¬ tokens (n * 16 + j) ≤ 0) : fX6_isAhead page (nI n) (nI l) (nI j) = some (if gRank lrows rules since n j ≤ gRank lrows rules since n l then 0 else 1) := by
  have hZ := h.hZ
  unfold fX6_isAhead gRank
  rw [show page 6 = rules 2 from h.pr (i := 2) (by omega), m_sinceOf page hn (by omega), m_sinceOf page hn (by omega), (h.ph hn (by omega) tl).2, (h.ph hn (by omega) tj).2, m_ofLetter'_3 h hl, m_ofLetter'_3 h hj, m_endOf' h hl, m_endOf' h hj]
  simp only [bd_s]
  split
  · split <;> rfl
  · split
    · obtain ⟨z1, -, g1, e1⟩ := hc.size hl
      obtain ⟨z2, -, g2, e2⟩ := hc.size hj
      rw [e1, e2]
      by_cases hh : nI z1 ≤ nI z2
      · rw [if_pos hh, if_pos ((neg_le99 z1 g1 z2 g2).mp hh)]
      · rw [if_neg hh, if_neg (fun q => hh ((neg_le99 z1 g1 z2 g2).mpr q))]
    · split <;> rfl
theorem first_sim (h : IW N K Z C rooms mrows lrows rules counts refused tokens hops since notes lasts dAt dHops page) (hc : CI N K Z C rooms mrows lrows rules counts refused tokens hops since notes lasts dAt dHops) {n : Nat} (hn : n < 8) (sz : Int32) : ∀ (f j : Nat), j ≤ Z → Z < j + f →
    (∀ (y : Int32), (fX1_firstToGo_7 (nI Z) lrows rules tokens since (nI n) f (-1) y (nI j) = some (-1) ∧ fX6_makesRoom_26 page (nI n) sz f (-4) (nI j) = some (-4) ∧ ∀ i, j ≤ i → i < Z → tokens (n * 16 + i) ≤ 0 ∨ lrows (i * 6 + 1) = nI n) ∨ ∃ b, b < Z ∧ ¬ tokens (n * 16 + b) ≤ 0 ∧ ¬ lrows (b * 6 + 1) = nI n ∧ fX1_firstToGo_7 (nI Z) lrows rules tokens since (nI n) f (-1) y (nI j) = some (nI b) ∧ fX6_makesRoom_26 page (nI n) sz f (-4) (nI j) = some (nI b)) ∧
    (∀ (c : Nat), c < Z → ¬ tokens (n * 16 + c) ≤ 0 → ¬ lrows (c * 6 + 1) = nI n → ∃ b, b < Z ∧ ¬ tokens (n * 16 + b) ≤ 0 ∧ ¬ lrows (b * 6 + 1) = nI n ∧ fX1_firstToGo_7 (nI Z) lrows rules tokens since (nI n) f (nI c) (gRank lrows rules since n c) (nI j) = some (nI b) ∧ fX6_makesRoom_26 page (nI n) sz f (nI c) (nI j) = some (nI b)) := by
  have hZ := h.hZ
  intro f
  induction f with
  | zero => intro j h1 h2; omega
  | succ f ih =>
    intro j h1 h2
    rw [fX6_makesRoom_26]
    simp only [fX1_firstToGo_7, fX6_makesRoom_26, h.p2]
    by_cases hj : j = Z
    · subst hj
      simp only [if_pos (nI_le (Nat.le_refl j) (show j < 2 ^ 31 by omega))]
      exact ⟨fun y => Or.inl ⟨trivial, trivial, fun i h3 h4 => by omega⟩, fun c h3 h4 h5 => ⟨c, h3, h4, h5, rfl, rfl⟩⟩
    · have hlt : j < Z := by omega
      obtain ⟨ih1, ih2⟩ := ih (j + 1) (by omega) (by omega)
      simp only [if_neg (nI_ge hlt (show Z < 2 ^ 31 by omega)), c_hasCopy tokens hn (show j < 16 by omega), m_hasCopy' h hn (show j < 16 by omega), bd_s, nI_1]
      by_cases ht : tokens (n * 16 + j) ≤ 0
      · simp only [if_pos ht, e00, if_true]
        refine ⟨fun y => ?_, ih2⟩
        rcases ih1 y with ⟨a1, a2, a3⟩ | hb
        · exact Or.inl ⟨a1, a2, fun i h3 h4 => by
            by_cases hi : i = j
            · subst hi; exact Or.inl ht
            · exact a3 i (by omega) h4⟩
        · exact Or.inr hb
      · simp only [if_neg ht, e10, if_false, c_ofLetter_1 lrows (show j < 16 by omega), m_ofLetter'_1 h hlt, bd_s]
        by_cases ho : lrows (j * 6 + 1) = nI n
        · simp only [if_pos ho]
          refine ⟨fun y => ?_, ih2⟩
          rcases ih1 y with ⟨a1, a2, a3⟩ | hb
          · exact Or.inl ⟨a1, a2, fun i h3 h4 => by
              by_cases hi : i = j
              · subst hi; exact Or.inr ho
              · exact a3 i (by omega) h4⟩
          · exact Or.inr hb
        · simp only [if_neg ho, c_rank lrows rules since hn (show j < 16 by omega), bd_s, if_true]
          refine ⟨fun y => Or.inr (ih2 j hlt ht ho), fun c h3 h4 h5 => ?_⟩
          have n1 : ¬ nI c = -1 := fun q => by
            have := nI_pos' (n := c) (by omega)
            rw [q] at this
            exact absurd this (by decide)
          have n4 : ¬ nI c = -4 := fun q => by
            have := nI_pos' (n := c) (by omega)
            rw [q] at this
            exact absurd this (by decide)
          simp only [if_neg n1, if_neg n4, m_isAhead h hc hn hlt h3 ht h4, bd_s]
          by_cases hr : gRank lrows rules since n c ≤ gRank lrows rules since n j
          · simp only [if_pos hr, if_true]
            exact ih2 c h3 h4 h5
          · simp only [if_neg hr, e10, if_false]
            exact ih2 j hlt ht ho
/-- what can go out of a node -/
def gGo (lrows tokens : Nat → Int32) (n : Nat) : Nat → Bool := fun l => decide (¬ tokens (n * 16 + l) ≤ 0 ∧ ¬ lrows (l * 6 + 1) = nI n)
theorem CI_tok (hc : CI N K Z C rooms mrows lrows rules counts refused tokens hops since notes lasts dAt dHops) {t2 : Nat → Int32} (ht : ∀ n l, n < 8 → l < 16 → ∃ v, v ≤ 64 ∧ t2 (n * 16 + l) = nI v) (c2 h2 s2 r2 : Nat → Int32) : CI N K Z C rooms mrows lrows rules c2 r2 t2 h2 s2 notes lasts dAt dHops := by
  obtain ⟨a1, a2, a3, a4, a5, a6, a7⟩ := hc
  exact ⟨a1, a2, a3, a4, ht, a6, a7⟩
theorem room_loop {n : Nat} (sz : Int32) : ∀ (d : Nat) (counts tokens page : Nat → Int32) (i fc fm : Nat), n < N → IW N K Z C rooms mrows lrows rules counts refused tokens hops since notes lasts dAt dHops page → CI N K Z C rooms mrows lrows rules counts refused tokens hops since notes lasts dAt dHops → cntN (gGo lrows tokens n) 0 Z = d → i + d ≤ 16 → 17 ≤ i + fc → d < fm →
    (sumZ (gLoad lrows tokens n) 0 Z + sz ≤ rooms n ∨ sumZ (gOwn lrows tokens n) 0 Z + sz ≤ rooms n) →
    ∃ counts' tokens' page', fX1_makeRoom_22 (nI Z) rooms lrows rules since (nI n) fc counts tokens (sumZ (gLoad lrows tokens n) 0 Z + sz) (nI i) = some (.inr (counts', tokens')) ∧ fX6_makesRoom_0 (nI n) sz fm page = some page' ∧
      IW N K Z C rooms mrows lrows rules counts' refused tokens' hops since notes lasts dAt dHops page' ∧ (∀ x, tokens' x = tokens x ∨ tokens' x = 0) ∧ (∀ m l, l < 16 → m ≠ n → tokens' (m * 16 + l) = tokens (m * 16 + l)) := by
  intro d
  induction d with
  | zero =>
    intro counts tokens page i fc fm hn h hc hd hi hfc hfm hok
    have hN := h.hN
    have hZ := h.hZ
    have e : sumZ (gLoad lrows tokens n) 0 Z = sumZ (gOwn lrows tokens n) 0 Z := by
      refine sumZ_congr Z 0 (fun l _ hl => ?_)
      have h0 := cntN_zero Z 0 hd l (Nat.zero_le _) hl
      unfold gLoad gOwn
      split
      · rfl
      · rename_i h2
        by_cases ho : lrows (l * 6 + 1) = nI n
        · rw [if_pos ho]
        · exact absurd h0 (by simp [gGo, h2, ho])
    have hle : sumZ (gLoad lrows tokens n) 0 Z + sz ≤ rooms n := by
      rcases hok with h2 | h2
      · exact h2
      · rw [e]; exact h2
    obtain ⟨fc, rfl⟩ : ∃ k, fc = k + 1 := ⟨fc - 1, by omega⟩
    obtain ⟨fm, rfl⟩ : ∃ k, fm = k + 1 := ⟨fm - 1, by omega⟩
    have e2 : (23 : Int32) + nI n = nI (23 + n) := nI_add 23 n
    refine ⟨counts, tokens, page, ?_, ?_, h, fun _ => Or.inl rfl, fun _ _ _ _ => rfl⟩
    · rw [fX1_makeRoom_22]
      split
      · rfl
      · rw [gd_in (by omega) (by omega), nI_clamp (by omega), if_pos hle]
    · rw [fX6_makesRoom_0, m_loadOf h (by omega), bd_s, gd_at e2 (by omega) (by omega), cl_at e2 (by omega), h.po hn, if_pos hle]
  | succ d ih =>
    intro counts tokens page i fc fm hn h hc hd hi hfc hfm hok
    have hN := h.hN
    have hZ := h.hZ
    obtain ⟨fc, rfl⟩ : ∃ k, fc = k + 1 := ⟨fc - 1, by omega⟩
    obtain ⟨fm, rfl⟩ : ∃ k, fm = k + 1 := ⟨fm - 1, by omega⟩
    have e2 : (23 : Int32) + nI n = nI (23 + n) := nI_add 23 n
    have h16 : ¬ (16 : Int32) ≤ nI i := nI_ge (a := i) (b := 16) (by omega) (by decide)
    by_cases hle : sumZ (gLoad lrows tokens n) 0 Z + sz ≤ rooms n
    · refine ⟨counts, tokens, page, ?_, ?_, h, fun _ => Or.inl rfl, fun _ _ _ _ => rfl⟩
      · rw [fX1_makeRoom_22, if_neg h16, gd_in (by omega) (by omega), nI_clamp (by omega), if_pos hle]
      · rw [fX6_makesRoom_0, m_loadOf h (by omega), bd_s, gd_at e2 (by omega) (by omega), cl_at e2 (by omega), h.po hn, if_pos hle]
    · have hf := (first_sim h hc (n := n) (by omega) sz FU 0 (Nat.zero_le _) (by unfold FU; omega)).1 (nI 0)
      rcases hf with ⟨-, -, a3⟩ | ⟨b, hb, tb, ob, f1, f2⟩
      · exfalso
        have : cntN (gGo lrows tokens n) 0 Z = 0 := by
          rw [cntN_congr (q := fun _ => false) Z 0 (fun l _ hl => by
            rcases a3 l (Nat.zero_le _) (by omega) with q | q
            · simp [gGo, q]
            · simp [gGo, q])]
          have : ∀ (k j : Nat), cntN (fun _ => false) j k = 0 := by
            intro k
            induction k with
            | zero => intro j; rfl
            | succ k ih => intro j; simp [cntN, ih]
          exact this Z 0
        omega
      · have ho : sumZ (gOwn lrows tokens n) 0 Z + sz ≤ rooms n := hok.resolve_left hle
        have t0 : ∀ l, l ≠ b → upd tokens (n * 16 + b) 0 (n * 16 + l) = tokens (n * 16 + l) := fun l hl => upd_ne _ _ (by omega)
        have s1 : sumZ (gLoad lrows tokens n) 0 Z = sumZ (gLoad lrows (upd tokens (n * 16 + b) 0) n) 0 Z + lrows (b * 6 + 3) := by
          rw [sumZ_drop (h := gLoad lrows (upd tokens (n * 16 + b) 0) n) b (by simp [gLoad, upd_eq]) Z 0 (Nat.zero_le _) (by omega) (fun l hl => by unfold gLoad; rw [t0 l hl])]
          congr 1
          simp only [gLoad, if_neg tb]
        have s2 : sumZ (gOwn lrows (upd tokens (n * 16 + b) 0) n) 0 Z = sumZ (gOwn lrows tokens n) 0 Z := by
          refine sumZ_congr Z 0 (fun l _ hl => ?_)
          by_cases hlb : l = b
          · subst hlb
            simp only [gOwn, upd_eq, if_neg tb, if_neg ob]
            rfl
          · unfold gOwn; rw [t0 l hlb]
        have s3 : sumZ (gLoad lrows tokens n) 0 Z + sz - lrows (b * 6 + 3) = sumZ (gLoad lrows (upd tokens (n * 16 + b) 0) n) 0 Z + sz := by
          rw [s1]
          generalize sumZ (gLoad lrows (upd tokens (n * 16 + b) 0) n) 0 Z = u
          generalize lrows (b * 6 + 3) = v
          grind
        have d1 : cntN (gGo lrows (upd tokens (n * 16 + b) 0) n) 0 Z = d := by
          have := cntN_drop (p := gGo lrows tokens n) (q := gGo lrows (upd tokens (n * 16 + b) 0) n) b (by simp [gGo, tb, ob]) (by simp [gGo, upd_eq]) Z 0 (Nat.zero_le _) (by omega) (fun l hl => by unfold gGo; rw [t0 l hl])
          omega
        have hI2 := IW_count (i := 2) (by omega) (counts 2 + 1) (IW_goes (n := n) (l := b) (by omega) (by omega) h)
        have hC2 : CI N K Z C rooms mrows lrows rules (upd counts 2 (counts 2 + 1)) refused (upd tokens (n * 16 + b) 0) hops since notes lasts dAt dHops := CI_tok hc (fun m l hm hl => by
          by_cases q : m * 16 + l = n * 16 + b
          · exact ⟨0, by omega, by rw [q, upd_eq]; rfl⟩
          · rw [upd_ne _ _ q]; exact hc.tk hm hl) _ _ _ _
        obtain ⟨c', t', p', g1, g2, g3, g4, g5⟩ := ih _ _ _ (i + 1) fc fm hn hI2 hC2 d1 (by omega) (by omega) (by omega) (Or.inr (by rw [s2]; exact ho))
        refine ⟨c', t', p', ?_, ?_, g3, fun x => ?_, fun m l hl hm => ?_⟩
        · rw [fX1_makeRoom_22, if_neg h16, gd_in (by omega) (by omega), nI_clamp (by omega), if_neg hle]
          unfold fX1_firstToGo
          rw [show (0 : Int32) = nI 0 from rfl, f1, bd_s, bd_s, if_neg (fun q => by
            have := nI_pos' (n := b) (by omega)
            rw [q] at this
            exact absurd this (by decide)), c_ofLetter_3 lrows (by omega), bd_s, c_removeCopy tokens (by omega) (by omega), bd_s, nm_s, nI_1, s3]
          exact g1
        · rw [fX6_makesRoom_0, m_loadOf h (by omega), bd_s, gd_at e2 (by omega) (by omega), cl_at e2 (by omega), h.po hn, if_neg hle]
          rw [show (0 : Int32) = nI 0 from rfl, f2, bd_s, m_goes page (by omega) (by omega), bd_s, nm_s]
          rw [upd_ne _ _ (show 10 ≠ 255 + 3 * (16 * n + b) by omega), show page 10 = counts 2 from h.pc (i := 2) (by omega)]
          exact g2
        · rcases g4 x with q | q
          · by_cases hx : x = n * 16 + b
            · right; rw [q, hx, upd_eq]
            · left; rw [q, upd_ne _ _ hx]
          · exact Or.inr q
        · rw [g5 m l hl hm, upd_ne _ _ (by omega)]
theorem room_sim (h : IW N K Z C rooms mrows lrows rules counts refused tokens hops since notes lasts dAt dHops page) (hc : CI N K Z C rooms mrows lrows rules counts refused tokens hops since notes lasts dAt dHops) {n l : Nat} (hn : n < N) (hl : l < Z) (hk : gLack N Z rooms lrows rules tokens n (lrows (l * 6 + 3)) = 0) :
    ∃ counts' tokens' page', fX1_makeRoom (nI Z) rooms lrows rules counts tokens since (nI n) (nI l) = some (counts', tokens') ∧ fX6_makesRoom page (nI n) (lrows (l * 6 + 3)) = some page' ∧
      IW N K Z C rooms mrows lrows rules counts' refused tokens' hops since notes lasts dAt dHops page' ∧ CI N K Z C rooms mrows lrows rules counts' refused tokens' hops since notes lasts dAt dHops ∧ (∀ x, tokens' x = tokens x ∨ tokens' x = 0) ∧ (∀ m l, l < 16 → m ≠ n → tokens' (m * 16 + l) = tokens (m * 16 + l)) := by
  have hN := h.hN
  have hZ := h.hZ
  have hok : sumZ (gLoad lrows tokens n) 0 Z + lrows (l * 6 + 3) ≤ rooms n ∨ sumZ (gOwn lrows tokens n) 0 Z + lrows (l * 6 + 3) ≤ rooms n := by
    unfold gLack at hk
    split at hk
    · split at hk
      · split at hk
        · exact absurd hk (by decide)
        · split at hk
          · rename_i q; exact Or.inr q
          · exact absurd hk (by decide)
      · exact absurd hk (by decide)
    · rename_i q; exact Or.inl (Int32.not_lt.mp q)
  have hd := cntN_le (gGo lrows tokens n) Z 0
  obtain ⟨c', t', p', g1, g2, g3, g4, g5⟩ := room_loop (lrows (l * 6 + 3)) _ counts tokens page 0 FU FU hn h hc rfl (by omega) (by unfold FU; omega) (by unfold FU; omega) hok
  refine ⟨c', t', p', ?_, ?_, g3, CI_tok hc (fun m w hm hw => ?_) _ _ _ _, g4, g5⟩
  · unfold fX1_makeRoom
    rw [c_loadOf lrows tokens (by omega) hZ, bd_s, c_ofLetter_3 lrows (by omega), bd_s, show (0 : Int32) = nI 0 from rfl, g1]
    rfl
  · unfold fX6_makesRoom
    rw [g2]
    rfl
  · rcases g4 (m * 16 + w) with q | q
    · rw [q]; exact hc.tk hm hw
    · exact ⟨0, by omega, by rw [q]; rfl⟩
end PR
