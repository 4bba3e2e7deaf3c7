theorem c_ofLetter_0 (lrows : Nat → Int32) {l : Nat} (hl : l < 16) : fX0_ofLetter lrows (nI l) 0 = some (lrows (l * 6 + 0)) := c_ofLetter lrows (w := 0) hl (by omega)
theorem c_ofLetter_1 (lrows : Nat → Int32) {l : Nat} (hl : l < 16) : fX0_ofLetter lrows (nI l) 1 = some (lrows (l * 6 + 1)) := c_ofLetter lrows (w := 1) hl (by omega)
theorem c_ofLetter_2 (lrows : Nat → Int32) {l : Nat} (hl : l < 16) : fX0_ofLetter lrows (nI l) 2 = some (lrows (l * 6 + 2)) := c_ofLetter lrows (w := 2) hl (by omega)
theorem c_ofLetter_3 (lrows : Nat → Int32) {l : Nat} (hl : l < 16) : fX0_ofLetter lrows (nI l) 3 = some (lrows (l * 6 + 3)) := c_ofLetter lrows (w := 3) hl (by omega)
theorem c_ofLetter_4 (lrows : Nat → Int32) {l : Nat} (hl : l < 16) : fX0_ofLetter lrows (nI l) 4 = some (lrows (l * 6 + 4)) := c_ofLetter lrows (w := 4) hl (by omega)
theorem c_ofLetter_5 (lrows : Nat → Int32) {l : Nat} (hl : l < 16) : fX0_ofLetter lrows (nI l) 5 = some (lrows (l * 6 + 5)) := c_ofLetter lrows (w := 5) hl (by omega)
theorem c_ofMeeting_0 (mrows : Nat → Int32) {m : Nat} (hm : m < 24) : fX0_ofMeeting mrows (nI m) 0 = some (mrows (m * 4 + 0)) := c_ofMeeting mrows (w := 0) hm (by omega)
theorem c_ofMeeting_1 (mrows : Nat → Int32) {m : Nat} (hm : m < 24) : fX0_ofMeeting mrows (nI m) 1 = some (mrows (m * 4 + 1)) := c_ofMeeting mrows (w := 1) hm (by omega)
theorem c_ofMeeting_2 (mrows : Nat → Int32) {m : Nat} (hm : m < 24) : fX0_ofMeeting mrows (nI m) 2 = some (mrows (m * 4 + 2)) := c_ofMeeting mrows (w := 2) hm (by omega)
theorem c_ofMeeting_3 (mrows : Nat → Int32) {m : Nat} (hm : m < 24) : fX0_ofMeeting mrows (nI m) 3 = some (mrows (m * 4 + 3)) := c_ofMeeting mrows (w := 3) hm (by omega)
theorem m_ofLetter_0 (page : Nat → Int32) {l : Nat} (hl : l < 16) : fX6_ofLetter page (nI l) 0 = some (page (127 + 8 * l + 0)) := m_ofLetter page (w := 0) hl (by omega)
theorem m_ofLetter_1 (page : Nat → Int32) {l : Nat} (hl : l < 16) : fX6_ofLetter page (nI l) 1 = some (page (127 + 8 * l + 1)) := m_ofLetter page (w := 1) hl (by omega)
theorem m_ofLetter_2 (page : Nat → Int32) {l : Nat} (hl : l < 16) : fX6_ofLetter page (nI l) 2 = some (page (127 + 8 * l + 2)) := m_ofLetter page (w := 2) hl (by omega)
theorem m_ofLetter_3 (page : Nat → Int32) {l : Nat} (hl : l < 16) : fX6_ofLetter page (nI l) 3 = some (page (127 + 8 * l + 3)) := m_ofLetter page (w := 3) hl (by omega)
theorem m_ofLetter_4 (page : Nat → Int32) {l : Nat} (hl : l < 16) : fX6_ofLetter page (nI l) 4 = some (page (127 + 8 * l + 4)) := m_ofLetter page (w := 4) hl (by omega)
theorem m_ofLetter_5 (page : Nat → Int32) {l : Nat} (hl : l < 16) : fX6_ofLetter page (nI l) 5 = some (page (127 + 8 * l + 5)) := m_ofLetter page (w := 5) hl (by omega)
theorem m_ofLetter_6 (page : Nat → Int32) {l : Nat} (hl : l < 16) : fX6_ofLetter page (nI l) 6 = some (page (127 + 8 * l + 6)) := m_ofLetter page (w := 6) hl (by omega)
theorem m_ofLetter_7 (page : Nat → Int32) {l : Nat} (hl : l < 16) : fX6_ofLetter page (nI l) 7 = some (page (127 + 8 * l + 7)) := m_ofLetter page (w := 7) hl (by omega)
/-! sums over places -/
def sumZ (g : Nat → Int32) : Nat → Nat → Int32
  | _, 0 => 0
  | j, k + 1 => g j + sumZ g (j + 1) k
theorem sumZ_congr {g h : Nat → Int32} : ∀ (k j : Nat), (∀ i, j ≤ i → i < j + k → g i = h i) → sumZ g j k = sumZ h j k := by
  intro k
  induction k with
  | zero => intro j _; rfl
  | succ k ih =>
    intro j e
    show g j + sumZ g (j + 1) k = h j + sumZ h (j + 1) k
    rw [e j (Nat.le_refl _) (by omega), ih (j + 1) (fun i h1 h2 => e i (by omega) (by omega))]
theorem sumZ_zero {g : Nat → Int32} : ∀ (k j : Nat), (∀ i, j ≤ i → i < j + k → g i = 0) → sumZ g j k = 0 := by
  intro k
  induction k with
  | zero => intro j _; rfl
  | succ k ih =>
    intro j e
    show g j + sumZ g (j + 1) k = 0
    rw [e j (Nat.le_refl _) (by omega), ih (j + 1) (fun i h1 h2 => e i (by omega) (by omega))]
    rfl
theorem sumZ_one {g : Nat → Int32} (n : Nat) : ∀ (k j : Nat), j ≤ n → n < j + k → (∀ i, j ≤ i → i < j + k → i ≠ n → g i = 0) → sumZ g j k = g n := by
  intro k
  induction k with
  | zero => intro j h1 h2; omega
  | succ k ih =>
    intro j h1 h2 e
    show g j + sumZ g (j + 1) k = g n
    by_cases hj : j = n
    · subst hj
      rw [sumZ_zero k (j + 1) (fun i h3 h4 => e i (by omega) (by omega) (by omega)), Int32.add_zero]
    · rw [e j (Nat.le_refl _) (by omega) hj, ih (j + 1) (by omega) (by omega) (fun i h3 h4 h5 => e i (by omega) (by omega) h5), Int32.zero_add]
theorem sum_exit (s : Int32) (g : Nat → Int32) (j : Nat) : s + sumZ g j (j - j) = s := by
  rw [Nat.sub_self]
  exact Int32.add_zero s
theorem sum_step (s : Int32) (g : Nat → Int32) {j Z : Nat} (h : j < Z) : (s + g j) + sumZ g (j + 1) (Z - (j + 1)) = s + sumZ g j (Z - j) := by
  rw [show Z - j = (Z - (j + 1)) + 1 by omega]
  show _ = s + (g j + sumZ g (j + 1) (Z - (j + 1)))
  rw [Int32.add_assoc]
theorem sum_skip (s : Int32) (g : Nat → Int32) {j Z : Nat} (h : j < Z) (h0 : g j = 0) : s + sumZ g (j + 1) (Z - (j + 1)) = s + sumZ g j (Z - j) := by
  rw [← sum_step s g h, h0, Int32.add_zero]
/-! loads -/
def gLoad (lrows tokens : Nat → Int32) (n : Nat) : Nat → Int32 := fun l => if tokens (n * 16 + l) ≤ 0 then 0 else lrows (l * 6 + 3)
def gOwn (lrows tokens : Nat → Int32) (n : Nat) : Nat → Int32 := fun l => if tokens (n * 16 + l) ≤ 0 then 0 else if lrows (l * 6 + 1) = nI n then lrows (l * 6 + 3) else 0
theorem c_loadOf_4 (lrows tokens : Nat → Int32) {n Z : Nat} (hn : n < 8) (hZ : Z ≤ 16) : ∀ (f j : Nat) (s : Int32), j ≤ Z → Z < j + f → fX4_loadOf_4 (nI Z) lrows tokens (nI n) f s (nI j) = some (s + sumZ (gLoad lrows tokens n) j (Z - j)) := by
  intro f
  induction f with
  | zero => intro j s h1 h2; omega
  | succ f ih =>
    intro j s h1 h2
    rw [fX4_loadOf_4]
    by_cases hj : j = Z
    · subst hj
      rw [if_pos (nI_le (Nat.le_refl _) (by omega)), sum_exit]
    · have hlt : j < Z := by omega
      rw [if_neg (nI_ge hlt (by omega)), c_hasCopy tokens hn (by omega), bd_s, nI_1]
      by_cases ht : tokens (n * 16 + j) ≤ 0
      · rw [if_pos ht, if_pos rfl, ih (j + 1) s (by omega) (by omega), sum_skip s _ hlt (by simp only [gLoad, if_pos ht])]
      · rw [if_neg ht, if_neg (by decide), c_ofLetter_3 lrows (by omega), bd_s, ih (j + 1) _ (by omega) (by omega), ← sum_step s _ hlt]
        simp only [gLoad, if_neg ht]
theorem c_loadOf (lrows tokens : Nat → Int32) {n Z : Nat} (hn : n < 8) (hZ : Z ≤ 16) : fX4_loadOf (nI Z) lrows tokens (nI n) = some (sumZ (gLoad lrows tokens n) 0 Z) := by
  unfold fX4_loadOf
  rw [show (0 : Int32) = nI 0 from rfl, c_loadOf_4 lrows tokens hn hZ FU 0 _ (Nat.zero_le _) (by unfold FU; omega), bd_s]
  show some (0 + _) = _
  rw [Int32.zero_add, Nat.sub_zero]
theorem c_ownLoadOf_4 (lrows tokens : Nat → Int32) {n Z : Nat} (hn : n < 8) (hZ : Z ≤ 16) : ∀ (f j : Nat) (s : Int32), j ≤ Z → Z < j + f → fX4_ownLoadOf_4 (nI Z) lrows tokens (nI n) f s (nI j) = some (s + sumZ (gOwn lrows tokens n) j (Z - j)) := by
  intro f
  induction f with
  | zero => intro j s h1 h2; omega
  | succ f ih =>
    intro j s h1 h2
    rw [fX4_ownLoadOf_4]
    by_cases hj : j = Z
    · subst hj
      rw [if_pos (nI_le (Nat.le_refl _) (by omega)), sum_exit]
    · have hlt : j < Z := by omega
      rw [if_neg (nI_ge hlt (by omega)), c_hasCopy tokens hn (by omega), bd_s, nI_1]
      by_cases ht : tokens (n * 16 + j) ≤ 0
      · rw [if_pos ht, if_pos rfl, ih (j + 1) s (by omega) (by omega), sum_skip s _ hlt (by simp only [gOwn, if_pos ht])]
      · rw [if_neg ht, if_neg (by decide), c_ofLetter_1 lrows (by omega), bd_s]
        by_cases ho : lrows (j * 6 + 1) = nI n
        · rw [if_pos ho, c_ofLetter_3 lrows (by omega), bd_s, ih (j + 1) _ (by omega) (by omega), ← sum_step s _ hlt]
          simp only [gOwn, if_neg ht, if_pos ho]
        · rw [if_neg ho, ih (j + 1) s (by omega) (by omega), sum_skip s _ hlt (by simp only [gOwn, if_neg ht, if_neg ho])]
theorem c_ownLoadOf (lrows tokens : Nat → Int32) {n Z : Nat} (hn : n < 8) (hZ : Z ≤ 16) : fX4_ownLoadOf (nI Z) lrows tokens (nI n) = some (sumZ (gOwn lrows tokens n) 0 Z) := by
  unfold fX4_ownLoadOf
  rw [show (0 : Int32) = nI 0 from rfl, c_ownLoadOf_4 lrows tokens hn hZ FU 0 _ (Nat.zero_le _) (by unfold FU; omega), bd_s]
  show some (0 + _) = _
  rw [Int32.zero_add, Nat.sub_zero]
section PS
variable {N K Z C : Nat} {rooms mrows lrows rules counts refused tokens hops since notes lasts dAt dHops : Nat → Int32} {page : Nat → Int32}
theorem IW.hN (h : IW N K Z C rooms mrows lrows rules counts refused tokens hops since notes lasts dAt dHops page) : N ≤ 8 := h.1.1
theorem IW.hK (h : IW N K Z C rooms mrows lrows rules counts refused tokens hops since notes lasts dAt dHops page) : K ≤ 24 := h.1.2.1
theorem IW.hZ (h : IW N K Z C rooms mrows lrows rules counts refused tokens hops since notes lasts dAt dHops page) : Z ≤ 16 := h.1.2.2
theorem IW.p0 (h : IW N K Z C rooms mrows lrows rules counts refused tokens hops since notes lasts dAt dHops page) : page 0 = nI N := h.2.1.1
theorem IW.p1 (h : IW N K Z C rooms mrows lrows rules counts refused tokens hops since notes lasts dAt dHops page) : page 1 = nI K := h.2.1.2.1
theorem IW.p2 (h : IW N K Z C rooms mrows lrows rules counts refused tokens hops since notes lasts dAt dHops page) : page 2 = nI Z := h.2.1.2.2.1
theorem IW.p3 (h : IW N K Z C rooms mrows lrows rules counts refused tokens hops since notes lasts dAt dHops page) : page 3 = nI C := h.2.1.2.2.2
theorem IW.pr (h : IW N K Z C rooms mrows lrows rules counts refused tokens hops since notes lasts dAt dHops page) {i : Nat} (hi : i < 4) : page (4 + i) = rules i := h.2.2.1 i hi
theorem IW.pc (h : IW N K Z C rooms mrows lrows rules counts refused tokens hops since notes lasts dAt dHops page) {i : Nat} (hi : i < 8) : page (8 + i) = counts i := h.2.2.2.1 i hi
theorem IW.pf (h : IW N K Z C rooms mrows lrows rules counts refused tokens hops since notes lasts dAt dHops page) : (refused 0 = 0 ∧ page 22 = 0) ∨ (¬ refused 0 = 0 ∧ page 22 = 1 ∧ ∀ i, i < 6 → page (16 + i) = refused i) := h.2.2.2.2.1
theorem IW.po (h : IW N K Z C rooms mrows lrows rules counts refused tokens hops since notes lasts dAt dHops page) {n : Nat} (hn : n < N) : page (23 + n) = rooms n := h.2.2.2.2.2.1 n hn
theorem IW.pm (h : IW N K Z C rooms mrows lrows rules counts refused tokens hops since notes lasts dAt dHops page) {m w : Nat} (hm : m < K) (hw : w < 4) : page (31 + 4 * m + w) = mrows (m * 4 + w) := h.2.2.2.2.2.2.1 m w hm hw
theorem IW.pl (h : IW N K Z C rooms mrows lrows rules counts refused tokens hops since notes lasts dAt dHops page) {l w : Nat} (hl : l < Z) (hw : w < 6) : page (127 + 8 * l + w) = lrows (l * 6 + w) := h.2.2.2.2.2.2.2.1 l w hl hw
theorem IW.pd (h : IW N K Z C rooms mrows lrows rules counts refused tokens hops since notes lasts dAt dHops page) {l : Nat} (hl : l < Z) : page (127 + 8 * l + 6) = dAt l ∧ page (127 + 8 * l + 7) = dHops l := h.2.2.2.2.2.2.2.2.1 l hl
theorem IW.pt (h : IW N K Z C rooms mrows lrows rules counts refused tokens hops since notes lasts dAt dHops page) {n l : Nat} (hn : n < 8) (hl : l < 16) : page (255 + 3 * (16 * n + l)) = tokens (n * 16 + l) := h.2.2.2.2.2.2.2.2.2.1 n l hn hl
theorem IW.ph (h : IW N K Z C rooms mrows lrows rules counts refused tokens hops since notes lasts dAt dHops page) {n l : Nat} (hn : n < 8) (hl : l < 16) (ht : ¬ tokens (n * 16 + l) ≤ 0) : page (255 + 3 * (16 * n + l) + 1) = hops (n * 16 + l) ∧ page (255 + 3 * (16 * n + l) + 2) = since (n * 16 + l) := h.2.2.2.2.2.2.2.2.2.2.1 n l hn hl ht
theorem IW.pn (h : IW N K Z C rooms mrows lrows rules counts refused tokens hops since notes lasts dAt dHops page) {n l : Nat} (hn : n < 8) (hl : l < 16) : page (639 + 16 * n + l) = (notes n >>> (nI l &&& 31)) &&& 1 := h.2.2.2.2.2.2.2.2.2.2.2.1 n l hn hl
theorem IW.ps (h : IW N K Z C rooms mrows lrows rules counts refused tokens hops since notes lasts dAt dHops page) {a b : Nat} (ha : a < 8) (hb : b < 8) : page (767 + 8 * a + b) = lasts (a * 8 + b) + 1 := h.2.2.2.2.2.2.2.2.2.2.2.2 a b ha hb
theorem m_hasCopy' (h : IW N K Z C rooms mrows lrows rules counts refused tokens hops since notes lasts dAt dHops page) {n l : Nat} (hn : n < 8) (hl : l < 16) : fX6_hasCopy page (nI n) (nI l) = some (if tokens (n * 16 + l) ≤ 0 then 0 else 1) := by rw [m_hasCopy page hn hl, h.pt hn hl]
theorem m_ofLetter' (h : IW N K Z C rooms mrows lrows rules counts refused tokens hops since notes lasts dAt dHops page) {l w : Nat} (hl : l < Z) (hw : w < 6) : fX6_ofLetter page (nI l) (nI w) = some (lrows (l * 6 + w)) := by
  have := h.hZ
  rw [m_ofLetter page (by omega) (by omega), h.pl hl hw]
theorem m_ofMeeting' (h : IW N K Z C rooms mrows lrows rules counts refused tokens hops since notes lasts dAt dHops page) {m w : Nat} (hm : m < K) (hw : w < 4) : fX6_ofMeeting page (nI m) (nI w) = some (mrows (m * 4 + w)) := by
  have := h.hK
  rw [m_ofMeeting page (by omega) (by omega), h.pm hm hw]
theorem m_ofLetter'_0 (h : IW N K Z C rooms mrows lrows rules counts refused tokens hops since notes lasts dAt dHops page) {l : Nat} (hl : l < Z) : fX6_ofLetter page (nI l) 0 = some (lrows (l * 6 + 0)) := m_ofLetter' h (w := 0) hl (by omega)
theorem m_ofLetter'_1 (h : IW N K Z C rooms mrows lrows rules counts refused tokens hops since notes lasts dAt dHops page) {l : Nat} (hl : l < Z) : fX6_ofLetter page (nI l) 1 = some (lrows (l * 6 + 1)) := m_ofLetter' h (w := 1) hl (by omega)
theorem m_ofLetter'_2 (h : IW N K Z C rooms mrows lrows rules counts refused tokens hops since notes lasts dAt dHops page) {l : Nat} (hl : l < Z) : fX6_ofLetter page (nI l) 2 = some (lrows (l * 6 + 2)) := m_ofLetter' h (w := 2) hl (by omega)
theorem m_ofLetter'_3 (h : IW N K Z C rooms mrows lrows rules counts refused tokens hops since notes lasts dAt dHops page) {l : Nat} (hl : l < Z) : fX6_ofLetter page (nI l) 3 = some (lrows (l * 6 + 3)) := m_ofLetter' h (w := 3) hl (by omega)
theorem m_ofLetter'_4 (h : IW N K Z C rooms mrows lrows rules counts refused tokens hops since notes lasts dAt dHops page) {l : Nat} (hl : l < Z) : fX6_ofLetter page (nI l) 4 = some (lrows (l * 6 + 4)) := m_ofLetter' h (w := 4) hl (by omega)
theorem m_ofLetter'_5 (h : IW N K Z C rooms mrows lrows rules counts refused tokens hops since notes lasts dAt dHops page) {l : Nat} (hl : l < Z) : fX6_ofLetter page (nI l) 5 = some (lrows (l * 6 + 5)) := m_ofLetter' h (w := 5) hl (by omega)
theorem m_ofMeeting'_0 (h : IW N K Z C rooms mrows lrows rules counts refused tokens hops since notes lasts dAt dHops page) {m : Nat} (hm : m < K) : fX6_ofMeeting page (nI m) 0 = some (mrows (m * 4 + 0)) := m_ofMeeting' h (w := 0) hm (by omega)
theorem m_ofMeeting'_1 (h : IW N K Z C rooms mrows lrows rules counts refused tokens hops since notes lasts dAt dHops page) {m : Nat} (hm : m < K) : fX6_ofMeeting page (nI m) 1 = some (mrows (m * 4 + 1)) := m_ofMeeting' h (w := 1) hm (by omega)
theorem m_ofMeeting'_2 (h : IW N K Z C rooms mrows lrows rules counts refused tokens hops since notes lasts dAt dHops page) {m : Nat} (hm : m < K) : fX6_ofMeeting page (nI m) 2 = some (mrows (m * 4 + 2)) := m_ofMeeting' h (w := 2) hm (by omega)
theorem m_ofMeeting'_3 (h : IW N K Z C rooms mrows lrows rules counts refused tokens hops since notes lasts dAt dHops page) {m : Nat} (hm : m < K) : fX6_ofMeeting page (nI m) 3 = some (mrows (m * 4 + 3)) := m_ofMeeting' h (w := 3) hm (by omega)
theorem m_endOf' (h : IW N K Z C rooms mrows lrows rules counts refused tokens hops since notes lasts dAt dHops page) {l : Nat} (hl : l < Z) : fX6_endOf page (nI l) = some (lrows (l * 6 + 0) + lrows (l * 6 + 5)) := by
  unfold fX6_endOf
  rw [m_ofLetter'_0 h hl, bd_s, m_ofLetter'_5 h hl, bd_s]
theorem m_loadOf_5 (h : IW N K Z C rooms mrows lrows rules counts refused tokens hops since notes lasts dAt dHops page) {n : Nat} (hn : n < 8) : ∀ (f j : Nat) (s : Int32), j ≤ Z → Z < j + f → fX6_loadOf_5 page (nI n) 0 f s (nI j) = some (s + sumZ (gLoad lrows tokens n) j (Z - j)) := by
  have hZ := h.hZ
  intro f
  induction f with
  | zero => intro j s h1 h2; omega
  | succ f ih =>
    intro j s h1 h2
    rw [fX6_loadOf_5, h.p2]
    by_cases hj : j = Z
    · subst hj
      rw [if_pos (nI_le (Nat.le_refl _) (by omega)), sum_exit]
    · have hlt : j < Z := by omega
      rw [if_neg (nI_ge hlt (by omega)), m_hasCopy' h hn (by omega), bd_s, nI_1]
      by_cases ht : tokens (n * 16 + j) ≤ 0
      · rw [if_pos ht, if_pos rfl, bd_s, Int32.add_zero, ih (j + 1) s (by omega) (by omega), sum_skip s _ hlt (by simp only [gLoad, if_pos ht])]
      · rw [if_neg ht, if_neg (by decide), if_pos rfl, m_ofLetter'_3 h hlt, bd_s, bd_s, ih (j + 1) _ (by omega) (by omega), ← sum_step s _ hlt]
        simp only [gLoad, if_neg ht]
theorem m_loadOf (h : IW N K Z C rooms mrows lrows rules counts refused tokens hops since notes lasts dAt dHops page) {n : Nat} (hn : n < 8) : fX6_loadOf page (nI n) 0 = some (sumZ (gLoad lrows tokens n) 0 Z) := by
  have hZ := h.hZ
  unfold fX6_loadOf
  have e := m_loadOf_5 h hn FU 0 0 (Nat.zero_le _) (by unfold FU; omega)
  rw [show nI 0 = (0 : Int32) from rfl] at e
  rw [e, bd_s, Int32.zero_add, Nat.sub_zero]
theorem m_ownLoadOf_5 (h : IW N K Z C rooms mrows lrows rules counts refused tokens hops since notes lasts dAt dHops page) {n : Nat} (hn : n < 8) : ∀ (f j : Nat) (s : Int32), j ≤ Z → Z < j + f → fX6_loadOf_5 page (nI n) 1 f s (nI j) = some (s + sumZ (gOwn lrows tokens n) j (Z - j)) := by
  have hZ := h.hZ
  intro f
  induction f with
  | zero => intro j s h1 h2; omega
  | succ f ih =>
    intro j s h1 h2
    rw [fX6_loadOf_5, h.p2]
    by_cases hj : j = Z
    · subst hj
      rw [if_pos (nI_le (Nat.le_refl _) (by omega)), sum_exit]
    · have hlt : j < Z := by omega
      rw [if_neg (nI_ge hlt (by omega)), m_hasCopy' h hn (by omega), bd_s, nI_1]
      by_cases ht : tokens (n * 16 + j) ≤ 0
      · rw [if_pos ht, if_pos rfl, bd_s, Int32.add_zero, ih (j + 1) s (by omega) (by omega), sum_skip s _ hlt (by simp only [gOwn, if_pos ht])]
      · rw [if_neg ht, if_neg (by decide), if_neg (by decide), m_ofLetter'_1 h hlt, bd_s]
        by_cases ho : lrows (j * 6 + 1) = nI n
        · rw [if_pos ho, m_ofLetter'_3 h hlt, bd_s, bd_s, ih (j + 1) _ (by omega) (by omega), ← sum_step s _ hlt]
          simp only [gOwn, if_neg ht, if_pos ho]
        · rw [if_neg ho, bd_s, Int32.add_zero, ih (j + 1) s (by omega) (by omega), sum_skip s _ hlt (by simp only [gOwn, if_neg ht, if_neg ho])]
theorem m_ownLoadOf (h : IW N K Z C rooms mrows lrows rules counts refused tokens hops since notes lasts dAt dHops page) {n : Nat} (hn : n < 8) : fX6_loadOf page (nI n) 1 = some (sumZ (gOwn lrows tokens n) 0 Z) := by
  have hZ := h.hZ
  unfold fX6_loadOf
  have e := m_ownLoadOf_5 h hn FU 0 0 (Nat.zero_le _) (by unfold FU; omega)
  rw [show nI 0 = (0 : Int32) from rfl] at e
  rw [e, bd_s, Int32.zero_add, Nat.sub_zero]
/-- why no room can be made: the same in both -/
def gLack (N Z : Nat) (rooms lrows rules tokens : Nat → Int32) (n : Nat) (sz : Int32) : Int32 :=
  if rooms n < sumZ (gLoad lrows tokens n) 0 Z + sz then if sz ≤ rooms n then if rules 2 = 0 then 6 else if sumZ (gOwn lrows tokens n) 0 Z + sz ≤ rooms n then 0 else 7 else 5 else 0
theorem c_lack {n l : Nat} (hn : n < 8) (hl : l < 16) (hZ : Z ≤ 16) : fX1_lackOfRoom (nI Z) rooms lrows rules tokens (nI n) (nI l) = some (gLack N Z rooms lrows rules tokens n (lrows (l * 6 + 3))) := by
  unfold fX1_lackOfRoom gLack
  rw [gd_in (by omega) (by omega), c_ofLetter_3 lrows hl, bd_s, c_loadOf lrows tokens hn hZ, bd_s, nI_clamp (by omega), c_ownLoadOf lrows tokens hn hZ]
  simp only [bd_s]
  split
  · split
    · split
      · rfl
      · split <;> rfl
    · rfl
  · rfl
theorem m_lack (h : IW N K Z C rooms mrows lrows rules counts refused tokens hops since notes lasts dAt dHops page) {n : Nat} (hn : n < N) (sz : Int32) : fX6_roomless page (nI n) sz = some (gLack N Z rooms lrows rules tokens n sz) := by
  have hN := h.hN
  unfold fX6_roomless gLack
  have e : (23 : Int32) + nI n = nI (23 + n) := nI_add 23 n
  rw [m_loadOf h (by omega), bd_s, m_ownLoadOf h (by omega), cl_at e (by omega), h.po hn, show page 6 = rules 2 from h.pr (i := 2) (by omega)]
  simp only [gd_at e (show 23 + n < 831 by omega) (by omega), bd_s]
  split
  · split
    · split
      · rfl
      · by_cases hh : sumZ (gOwn lrows tokens n) 0 Z + sz ≤ rooms n
        · rw [if_neg (Int32.not_lt.mpr hh), if_pos hh]
        · rw [if_pos (Int32.not_le.mp hh), if_neg hh]
    · rfl
  · rfl
end PS
