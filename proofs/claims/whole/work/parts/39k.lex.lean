/-- what a letter is -/
def kd (b : Nat) : Nat := if 97 ≤ b ∧ b ≤ 122 then 1 else if 48 ≤ b ∧ b ≤ 57 then 2 else if b = 59 then 3 else 4
theorem c_kindOf : ∀ b, b < 128 → fX2_kindOf (nI b) = some (nI (kd b)) := by decide +kernel
theorem m_letter {b : Nat} (hb : b < 128) : fX6_in (nI b).toInt64 97 122 = some (if kd b = 1 then 1 else 0) := by
  have e := m_in (nI b) 97 122
  rw [show (97 : Int32).toInt64 = 97 from by decide, show (122 : Int32).toInt64 = 122 from by decide] at e
  rw [e]
  exact (by decide +kernel : ∀ b, b < 128 → (some (if nI b < 97 then (0 : Int32) else if 122 < nI b then 0 else 1)) = some (if kd b = 1 then 1 else 0)) b hb
theorem m_digit {b : Nat} (hb : b < 128) : fX6_in (nI b).toInt64 48 57 = some (if kd b = 2 then 1 else 0) := by
  have e := m_in (nI b) 48 57
  rw [show (48 : Int32).toInt64 = 48 from by decide, show (57 : Int32).toInt64 = 57 from by decide] at e
  rw [e]
  exact (by decide +kernel : ∀ b, b < 128 → (some (if nI b < 48 then (0 : Int32) else if 57 < nI b then 0 else 1)) = some (if kd b = 2 then 1 else 0)) b hb
theorem m_letter4 : fX6_in (-4 : Int32).toInt64 97 122 = some 0 := by
  have e := m_in (-4) 97 122
  rw [show (97 : Int32).toInt64 = 97 from by decide, show (122 : Int32).toInt64 = 122 from by decide] at e
  rw [e]
  decide
theorem m_digit4 : fX6_in (-4 : Int32).toInt64 48 57 = some 0 := by
  have e := m_in (-4) 48 57
  rw [show (48 : Int32).toInt64 = 48 from by decide, show (57 : Int32).toInt64 = 57 from by decide] at e
  rw [e]
  decide
theorem kd_2 : ∀ b, b < 128 → kd b = 2 → 48 ≤ b ∧ b ≤ 57 := by decide +kernel
theorem kd_3 : ∀ b, b < 128 → kd b = 3 → b = 59 := by decide +kernel
theorem kd_59 : ∀ b, b < 128 → b = 59 → kd b = 3 := by decide +kernel
theorem kd_1 : ∀ b, 1 ≤ kd b ∧ kd b ≤ 4 := by
  intro b
  unfold kd
  split
  · omega
  · split
    · omega
    · split <;> omega
/-- the two tapes -/
def TPE (L : Nat) (B : Nat → Nat) (bytes tape : Nat → Int32) : Prop := L ≤ 300 ∧ ∀ i, i < L → B i < 128 ∧ bytes i = nI (B i) ∧ tape i = nI (B i)
section LX
variable {L : Nat} {B : Nat → Nat} {bytes tape : Nat → Int32}
theorem c_byteAt (h : TPE L B bytes tape) {p : Nat} (hp : p < L) : fX2_byteAt bytes (nI p) = some (nI (B p)) := by
  have hL := h.1
  unfold fX2_byteAt
  rw [if_neg (nI_pos (by omega)), if_neg (show ¬ (300 : Int32) ≤ nI p from nI_ge (a := p) (b := 300) (by omega) (by omega)), gd_in (by omega) (by omega), nI_clamp (by omega), (h.2 p hp).2.1]
theorem m_byteAt (h : TPE L B bytes tape) {p : Nat} (hp : p < L) : fX6_byteAt (nI L) tape (nI p) = some (nI (B p)) := by
  have hL := h.1
  unfold fX6_byteAt
  rw [if_neg (nI_ge hp (by omega)), gd_in (by omega) (by omega), nI_clamp (by omega), (h.2 p hp).2.2]
theorem m_byteEnd (hL : L ≤ 300) (tape : Nat → Int32) : fX6_byteAt (nI L) tape (nI L) = some (-4) := by
  unfold fX6_byteAt
  rw [if_pos (nI_le (Nat.le_refl _) (by omega))]
theorem skip_sim (h : TPE L B bytes tape) : ∀ (f p : Nat), p ≤ L → L < p + f → ∃ s, p ≤ s ∧ s ≤ L ∧ (s = L ∨ ¬ B s = 32) ∧ fX2_readToken_0 (nI L) bytes f (nI p) = some (nI s) ∧ fX6_reads_8 (nI L) tape f (nI p) = some (nI s) := by
  have hL := h.1
  intro f
  induction f with
  | zero => intro p h1 h2; omega
  | succ f ih =>
    intro p h1 h2
    rw [fX2_readToken_0, fX6_reads_8]
    by_cases hp : p = L
    · subst hp
      rw [if_pos (nI_le (Nat.le_refl _) (by omega)), m_byteEnd hL, bd_s, if_neg (show ¬ (-4 : Int32) = 32 by decide)]
      exact ⟨p, Nat.le_refl _, Nat.le_refl _, Or.inl rfl, rfl, rfl⟩
    · have hlt : p < L := by omega
      have hB := (h.2 p hlt).1
      rw [if_neg (nI_ge hlt (by omega)), c_byteAt h hlt, bd_s, m_byteAt h hlt, bd_s, nI_1]
      by_cases e : B p = 32
      · rw [if_pos (show nI (B p) = 32 by rw [e]; rfl), if_pos (show nI (B p) = 32 by rw [e]; rfl)]
        obtain ⟨s, s1, s2⟩ := ih (p + 1) (by omega) (by omega)
        exact ⟨s, by omega, s2⟩
      · have ne : ¬ nI (B p) = 32 := fun z => e (nI_inj (b := 32) (by omega) (by omega) z)
        rw [if_neg ne, if_neg ne]
        exact ⟨p, Nat.le_refl _, by omega, Or.inr e, rfl, rfl⟩
theorem word_run (h : TPE L B bytes tape) : ∀ (f g j : Nat), j ≤ L → L < j + f → L < j + g → ∃ e, j ≤ e ∧ e ≤ L ∧ fX2_readToken_109 (nI 1) (nI L) bytes f (nI j) = some (nI e) ∧ fX6_reads_89 (nI L) tape g (nI j) = some (nI e) := by
  have hL := h.1
  intro f
  induction f with
  | zero => intro g p h1 h2; omega
  | succ f ih =>
    intro g p h1 h2 h3
    obtain ⟨g, rfl⟩ : ∃ z, g = z + 1 := ⟨g - 1, by omega⟩
    rw [fX2_readToken_109, fX6_reads_89]
    by_cases hp : p = L
    · subst hp
      rw [if_pos (nI_le (Nat.le_refl _) (by omega)), m_byteEnd hL, bd_s, m_letter4, bd_s, if_pos p00]
      exact ⟨p, Nat.le_refl _, Nat.le_refl _, rfl, rfl⟩
    · have hlt : p < L := by omega
      have hB := (h.2 p hlt).1
      rw [if_neg (nI_ge hlt (by omega)), c_byteAt h hlt, bd_s, m_byteAt h hlt, bd_s, c_kindOf _ hB, bd_s, m_letter hB, bd_s, nI_1]
      have kb := kd_1 (B p)
      by_cases e : kd (B p) = 1
      · rw [if_pos (show nI (kd (B p)) = nI 1 by rw [e]), if_pos e, if_neg n10]
        obtain ⟨s, s1, s2⟩ := ih g (p + 1) (by omega) (by omega) (by omega)
        exact ⟨s, by omega, s2⟩
      · rw [if_neg (fun z => e (nI_inj (by omega) (by omega) z)), if_neg e, if_pos p00]
        exact ⟨p, Nat.le_refl _, by omega, rfl, rfl⟩
/-- digits past the second -/
theorem dig_run (h : TPE L B bytes tape) {s : Nat} (val : Int32) : ∀ (f g j : Nat), s + 2 ≤ j → j ≤ L → L < j + f → L < j + g → ∃ e, j ≤ e ∧ e ≤ L ∧ (e = j → j = L ∨ ¬ kd (B j) = 2) ∧ fX2_readToken_109 (nI 2) (nI L) bytes f (nI j) = some (nI e) ∧ fX6_reads_147 (nI L) (nI s) tape g (nI j) val = some (nI e, val) := by
  have hL := h.1
  intro f
  induction f with
  | zero => intro g p h0 h1 h2; omega
  | succ f ih =>
    intro g p h0 h1 h2 h3
    obtain ⟨g, rfl⟩ : ∃ z, g = z + 1 := ⟨g - 1, by omega⟩
    rw [fX2_readToken_109, fX6_reads_147]
    by_cases hp : p = L
    · subst hp
      rw [if_pos (nI_le (Nat.le_refl _) (by omega)), m_byteEnd hL, bd_s, m_digit4, bd_s, if_pos p00]
      exact ⟨p, Nat.le_refl _, Nat.le_refl _, fun _ => Or.inl rfl, rfl, rfl⟩
    · have hlt : p < L := by omega
      have hB := (h.2 p hlt).1
      rw [if_neg (nI_ge hlt (by omega)), c_byteAt h hlt, bd_s, m_byteAt h hlt, bd_s, c_kindOf _ hB, bd_s, m_digit hB, bd_s, nI_1]
      have kb := kd_1 (B p)
      by_cases e : kd (B p) = 2
      · rw [if_pos (show nI (kd (B p)) = nI 2 by rw [e]), if_pos e, if_neg n10, pk_sub (show s ≤ p by omega), if_pos (show (2 : Int32) ≤ nI (p - s) from nI_le (a := 2) (by omega) (by omega)), bd_s]
        obtain ⟨t, t1, t2, -, t3⟩ := ih g (p + 1) (by omega) (by omega) (by omega) (by omega)
        exact ⟨t, by omega, t2, fun z => by omega, t3⟩
      · rw [if_neg (fun z => e (nI_inj (by omega) (by omega) z)), if_neg e, if_pos p00]
        exact ⟨p, Nat.le_refl _, by omega, fun _ => Or.inr e, rfl, rfl⟩
theorem dval1 {b : Nat} (hb : 48 ≤ b) : (10 : Int32) * 0 + nI b - 48 = nI (b - 48) ∧ (0 : Int32) * 10 + nI b - 48 = nI (b - 48) := by
  have e : nI b - 48 = nI (b - 48) := pk_sub (b := 48) hb
  exact ⟨by rw [show (10 : Int32) * 0 = 0 from rfl, Int32.zero_add, e], by rw [show (0 : Int32) * 10 = 0 from rfl, Int32.zero_add, e]⟩
theorem dval2 {a b : Nat} (hb : 48 ≤ b) : (10 : Int32) * nI a + nI b - 48 = nI (10 * a + (b - 48)) ∧ nI a * 10 + nI b - 48 = nI (10 * a + (b - 48)) := by
  have e : nI (10 * a + b) - 48 = nI (10 * a + b - 48) := pk_sub (b := 48) (by omega)
  have e2 : 10 * a + b - 48 = 10 * a + (b - 48) := by omega
  refine ⟨?_, ?_⟩
  · rw [show (10 : Int32) * nI a = nI (10 * a) from nI_mul 10 a, nI_add, e, e2]
  · rw [show nI a * (10 : Int32) = nI (a * 10) from nI_mul a 10, nI_add, show a * 10 + b = 10 * a + b by omega, e, e2]
/-- a number: one digit, two, or too many -/
theorem num_sim (h : TPE L B bytes tape) {s : Nat} (hs : s < L) (k2 : kd (B s) = 2) : ∃ e, s < e ∧ e ≤ L ∧ fX2_readToken_109 (nI 2) (nI L) bytes FU (nI (s + 1)) = some (nI e) ∧ ∃ val, fX6_reads_147 (nI L) (nI s) tape FU (nI s) 0 = some (nI e, val) ∧ (e ≤ s + 2 → ∃ v, v ≤ 99 ∧ val = nI v ∧ fX2_numberRead (nI e) (nI s) bytes = some (nI v)) := by
  have hL := h.1
  have hB := (h.2 s hs).1
  have d0 := kd_2 _ hB k2
  have v0 := dval1 d0.1
  rw [show FU = 1998 + 1 + 1 from rfl, fX6_reads_147, m_byteAt h hs, bd_s, m_digit hB, bd_s, if_pos k2, if_neg n10, pk_sub (Nat.le_refl s), if_neg (show ¬ (2 : Int32) ≤ nI (s - s) by rw [Nat.sub_self]; decide), bd_s, v0.1, bd_s, nI_1]
  -- the class's reading of a number
  have rd1 : fX2_numberRead (nI (s + 1)) (nI s) bytes = some (nI (B s - 48)) := by
    unfold fX2_numberRead
    rw [show FU = 1998 + 1 + 1 from rfl, fX2_numberRead_7, if_neg (nI_ge (show s < s + 1 by omega) (by omega)), c_byteAt h hs, bd_s, v0.2, nI_1, fX2_numberRead_7, if_pos (nI_le (Nat.le_refl _) (by omega)), bd_s]
  by_cases h1 : s + 1 = L
  · have r1 : fX2_readToken_109 (nI 2) (nI L) bytes (1998 + 1 + 1) (nI (s + 1)) = some (nI (s + 1)) := by
      rw [fX2_readToken_109, if_pos (nI_le (show L ≤ s + 1 by omega) (by omega))]
    have r2 : ∀ v, fX6_reads_147 (nI L) (nI s) tape (1998 + 1) (nI (s + 1)) v = some (nI (s + 1), v) := fun v => by
      rw [fX6_reads_147, h1, m_byteEnd hL, bd_s, m_digit4, bd_s, if_pos p00]
    exact ⟨s + 1, by omega, by omega, r1, _, r2 _, fun _ => ⟨_, by omega, rfl, rd1⟩⟩
  · have hs1 : s + 1 < L := by omega
    have hB1 := (h.2 (s + 1) hs1).1
    have kb := kd_1 (B (s + 1))
    by_cases k3 : kd (B (s + 1)) = 2
    · have d1 := kd_2 _ hB1 k3
      have v1 := dval2 (a := B s - 48) d1.1
      have rd2 : fX2_numberRead (nI (s + 1 + 1)) (nI s) bytes = some (nI (10 * (B s - 48) + (B (s + 1) - 48))) := by
        unfold fX2_numberRead
        rw [show FU = 1997 + 1 + 1 + 1 from rfl, fX2_numberRead_7, if_neg (nI_ge (show s < s + 1 + 1 by omega) (by omega)), c_byteAt h hs, bd_s, v0.2, nI_1, fX2_numberRead_7, if_neg (nI_ge (show s + 1 < s + 1 + 1 by omega) (by omega)), c_byteAt h hs1, bd_s, v1.2, nI_1, fX2_numberRead_7, if_pos (nI_le (Nat.le_refl _) (by omega)), bd_s]
      obtain ⟨e, e1, e2, e3, e4, e5⟩ := dig_run h (s := s) (nI (10 * (B s - 48) + (B (s + 1) - 48))) (1998 + 1) 1998 (s + 1 + 1) (by omega) (by omega) (by omega) (by omega)
      refine ⟨e, by omega, e2, ?_, nI (10 * (B s - 48) + (B (s + 1) - 48)), ?_, fun z => ⟨_, by omega, rfl, ?_⟩⟩
      · rw [fX2_readToken_109, if_neg (nI_ge hs1 (by omega)), c_byteAt h hs1, bd_s, c_kindOf _ hB1, bd_s, if_pos (show nI (kd (B (s + 1))) = nI 2 by rw [k3]), nI_1]
        exact e4
      · rw [fX6_reads_147, m_byteAt h hs1, bd_s, m_digit hB1, bd_s, if_pos k3, if_neg n10, pk_sub (show s ≤ s + 1 by omega), if_neg (show ¬ (2 : Int32) ≤ nI (s + 1 - s) by rw [Nat.add_sub_cancel_left]; decide), bd_s, v1.1, bd_s, nI_1]
        exact e5
      · rw [show e = s + 1 + 1 by omega]
        exact rd2
    · refine ⟨s + 1, by omega, by omega, ?_, _, ?_, fun _ => ⟨_, by omega, rfl, rd1⟩⟩
      · rw [fX2_readToken_109, if_neg (nI_ge hs1 (by omega)), c_byteAt h hs1, bd_s, c_kindOf _ hB1, bd_s, if_neg (fun z => k3 (nI_inj (by omega) (by omega) z))]
      · rw [fX6_reads_147, m_byteAt h hs1, bd_s, m_digit hB1, bd_s, if_neg k3, if_pos p00]
/-- one step of both readers -/
theorem lex_sim (h : TPE L B bytes tape) {p : Nat} (hp : p ≤ L) :
    (∃ s e k val, p ≤ s ∧ s ≤ e ∧ e ≤ L ∧ k ≤ 3 ∧ (∀ fp kn st, fX2_readToken 0 fp (nI p) kn st (nI L) bytes = some (0, fp, nI e, nI k, nI s)) ∧ (∀ br hr tk vl, fX6_reads (nI L) 0 br (nI p) hr tk vl tape = some (0, br, nI e, nI s, nI k, val)) ∧ (k = 0 → s = L) ∧ (k ≠ 0 → s < e) ∧ (k = 2 → ∃ v, v ≤ 99 ∧ val = nI v ∧ fX2_numberRead (nI e) (nI s) bytes = some (nI v))) ∨
    (∃ s, (∀ fp kn st, ∃ x y, fX2_readToken 0 fp (nI p) kn st (nI L) bytes = some (1, nI s, x, y, nI s)) ∧ (∀ br hr tk vl, ∃ a b c d, fX6_reads (nI L) 0 br (nI p) hr tk vl tape = some (1, nI s, a, b, c, d))) := by
  have hL := h.1
  obtain ⟨s, s1, s2, s3, s4, s5⟩ := skip_sim h FU p hp (by unfold FU; omega)
  have must1 : ∀ (br hr : Int32), fX6_must 0 br hr 1 1 = some (0, br) := fun br hr => by unfold fX6_must; rw [if_neg n10]
  have must0 : ∀ (br hr : Int32), fX6_must 0 br hr 0 1 = some (1, hr) := fun br hr => by unfold fX6_must; rw [if_pos p00, if_pos p00]
  by_cases hs : s = L
  · subst hs
    refine Or.inl ⟨s, s, 0, -4, s1, Nat.le_refl _, Nat.le_refl _, by omega, fun fp kn st => ?_, fun br hr tk vl => ?_, fun _ => rfl, fun z => absurd rfl z, fun z => by omega⟩
    · unfold fX2_readToken
      rw [s4, bd_s, if_neg (nI_nlt (Nat.le_refl _) (by omega))]
      rfl
    · unfold fX6_reads
      rw [if_pos (show (0 : Int32) ≤ 0 by decide), s5, bd_s, m_byteEnd hL, bd_s, if_pos (show (-4 : Int32) = -4 from rfl)]
      rfl
  · have hlt : s < L := by omega
    have hB := (h.2 s hlt).1
    have kb := kd_1 (B s)
    have n4 : ¬ nI (B s) = -4 := nI_nm4 (by omega)
    rcases (show kd (B s) = 1 ∨ kd (B s) = 2 ∨ kd (B s) = 3 ∨ kd (B s) = 4 by omega) with k | k | k | k
    · obtain ⟨e, e1, e2, e3, e4⟩ := word_run h FU 1999 (s + 1) (by omega) (by unfold FU; omega) (by omega)
      refine Or.inl ⟨s, e, 1, nI (B s), s1, by omega, e2, by omega, fun fp kn st => ?_, fun br hr tk vl => ?_, fun z => by omega, fun z => by omega, fun z => by omega⟩
      · unfold fX2_readToken
        rw [s4, bd_s, if_pos (nI_lt hlt (by omega)), c_byteAt h hlt, bd_s, c_kindOf _ hB, bd_s, k, if_pos (show nI 1 = 1 from rfl), nI_1, e3, bd_s, bd_s, if_neg (show ¬ nI 1 = 4 by decide), if_neg (show ¬ nI 1 = 2 by decide)]
      · have e4' : fX6_reads_89 (nI L) tape FU (nI s) = some (nI e) := by
          rw [show FU = 1999 + 1 from rfl, fX6_reads_89, m_byteAt h hlt, bd_s, m_letter hB, bd_s, if_pos k, if_neg n10, nI_1]
          exact e4
        unfold fX6_reads
        rw [if_pos (show (0 : Int32) ≤ 0 by decide), s5, bd_s, m_byteAt h hlt, bd_s, if_neg n4, m_letter hB, bd_s, if_pos k, if_neg n10, e4', bd_s]
        rfl
    · obtain ⟨e, e1, e2, e3, val, e4, e5⟩ := num_sim h hlt k
      by_cases he : e ≤ s + 2
      · refine Or.inl ⟨s, e, 2, val, s1, by omega, e2, by omega, fun fp kn st => ?_, fun br hr tk vl => ?_, fun z => by omega, fun z => by omega, fun z => e5 he⟩
        · unfold fX2_readToken
          rw [s4, bd_s, if_pos (nI_lt hlt (by omega)), c_byteAt h hlt, bd_s, c_kindOf _ hB, bd_s, k, if_neg (show ¬ nI 2 = 1 by decide), if_pos (show nI 2 = 2 from rfl), nI_1, e3, bd_s, bd_s, if_neg (show ¬ nI 2 = 4 by decide), if_pos (show nI 2 = 2 from rfl), pk_sub (show s ≤ e by omega), if_pos (show nI (e - s) ≤ 2 from nI_le (b := 2) (by omega) (by omega))]
        · unfold fX6_reads
          rw [if_pos (show (0 : Int32) ≤ 0 by decide), s5, bd_s, m_byteAt h hlt, bd_s, if_neg n4, m_letter hB, bd_s, if_neg (show ¬ kd (B s) = 1 by omega), if_pos p00, m_digit hB, bd_s, if_pos k, if_neg n10, e4, bd_s]
          dsimp only
          rw [pk_sub (show s ≤ e by omega), if_neg (show ¬ (2 : Int32) < nI (e - s) from nI_nlt (a := 2) (by omega) (by omega)), bd_s, must1, bd_s]
          rfl
      · refine Or.inr ⟨s, fun fp kn st => ⟨nI e, nI 2, ?_⟩, fun br hr tk vl => ⟨nI e, nI s, 2, val, ?_⟩⟩
        · unfold fX2_readToken fX2_refuse
          rw [s4, bd_s, if_pos (nI_lt hlt (by omega)), c_byteAt h hlt, bd_s, c_kindOf _ hB, bd_s, k, if_neg (show ¬ nI 2 = 1 by decide), if_pos (show nI 2 = 2 from rfl), nI_1, e3, bd_s, bd_s, if_neg (show ¬ nI 2 = 4 by decide), if_pos (show nI 2 = 2 from rfl), pk_sub (show s ≤ e by omega), if_neg (show ¬ nI (e - s) ≤ 2 from nI_ge (a := 2) (b := e - s) (by omega) (by omega)), bd_s]
        · unfold fX6_reads
          rw [if_pos (show (0 : Int32) ≤ 0 by decide), s5, bd_s, m_byteAt h hlt, bd_s, if_neg n4, m_letter hB, bd_s, if_neg (show ¬ kd (B s) = 1 by omega), if_pos p00, m_digit hB, bd_s, if_pos k, if_neg n10, e4, bd_s]
          dsimp only
          rw [pk_sub (show s ≤ e by omega), if_pos (show (2 : Int32) < nI (e - s) from nI_lt (a := 2) (by omega) (by omega)), bd_s, must0, bd_s]
    · have e59 := kd_3 _ hB k
      refine Or.inl ⟨s, s + 1, 3, nI (B s), s1, by omega, by omega, by omega, fun fp kn st => ?_, fun br hr tk vl => ?_, fun z => by omega, fun z => by omega, fun z => by omega⟩
      · unfold fX2_readToken
        rw [s4, bd_s, if_pos (nI_lt hlt (by omega)), c_byteAt h hlt, bd_s, c_kindOf _ hB, bd_s, k, if_neg (show ¬ nI 3 = 1 by decide), if_neg (show ¬ nI 3 = 2 by decide), bd_s, if_neg (show ¬ nI 3 = 4 by decide), if_neg (show ¬ nI 3 = 2 by decide), nI_1]
      · unfold fX6_reads
        rw [if_pos (show (0 : Int32) ≤ 0 by decide), s5, bd_s, m_byteAt h hlt, bd_s, if_neg n4, m_letter hB, bd_s, if_neg (show ¬ kd (B s) = 1 by omega), if_pos p00, m_digit hB, bd_s, if_neg (show ¬ kd (B s) = 2 by omega), if_pos p00, if_pos (show nI (B s) = 59 by rw [e59]; rfl), bd_s, must1, bd_s, nI_1]
        rfl
    · have e59 : ¬ nI (B s) = 59 := fun z => by
        have := kd_59 _ hB (nI_inj (b := 59) (by omega) (by omega) z)
        omega
      refine Or.inr ⟨s, fun fp kn st => ⟨nI (s + 1), nI 4, ?_⟩, fun br hr tk vl => ⟨nI (s + 1), nI s, 3, nI (B s), ?_⟩⟩
      · unfold fX2_readToken fX2_refuse
        rw [s4, bd_s, if_pos (nI_lt hlt (by omega)), c_byteAt h hlt, bd_s, c_kindOf _ hB, bd_s, k, if_neg (show ¬ nI 4 = 1 by decide), if_neg (show ¬ nI 4 = 2 by decide), bd_s, if_pos (show nI 4 = 4 from rfl), bd_s, nI_1]
      · unfold fX6_reads
        rw [if_pos (show (0 : Int32) ≤ 0 by decide), s5, bd_s, m_byteAt h hlt, bd_s, if_neg n4, m_letter hB, bd_s, if_neg (show ¬ kd (B s) = 1 by omega), if_pos p00, m_digit hB, bd_s, if_neg (show ¬ kd (B s) = 2 by omega), if_pos p00, if_neg e59, bd_s, must0, bd_s, nI_1]
end LX
