/-- the reference has looked at the step that begins at p -/
def LA (L : Nat) (tape : Nat → Int32) (p : Nat) (f br sp hr tk vl : Int32) : Prop := ∃ b0 h0 t0 v0, fX6_reads (nI L) 0 b0 (nI p) h0 t0 v0 tape = some (f, br, sp, hr, tk, vl)
/-- what the class finds wrong with a number -/
def CB (L : Nat) (bytes : Nat → Int32) (p lo hi c s : Nat) : Prop :=
  (c = 1 ∧ ∀ fp kn st, ∃ x y, fX2_readToken 0 fp (nI p) kn st (nI L) bytes = some (1, nI s, x, y, nI s)) ∨
  (c = 2 ∧ ∃ e k, ¬ k = 2 ∧ k ≤ 3 ∧ ∀ fp kn st, fX2_readToken 0 fp (nI p) kn st (nI L) bytes = some (0, fp, nI e, nI k, nI s)) ∨
  (c = 3 ∧ ∃ e v, (v < lo ∨ hi < v) ∧ v ≤ 99 ∧ (∀ fp kn st, fX2_readToken 0 fp (nI p) kn st (nI L) bytes = some (0, fp, nI e, nI 2, nI s)) ∧ fX2_numberRead (nI e) (nI s) bytes = some (nI v))
theorem m_must_f {c r hr x y : Int32} (hc : ¬ c = 0) : fX6_must c r hr x y = some (c, r) := by
  unfold fX6_must
  rw [if_neg hc, ite_self]
theorem m_must_1 (f br hr y : Int32) : fX6_must f br hr 1 y = some (f, br) := by
  unfold fX6_must
  rw [if_neg n10]
theorem m_must_0 (br hr y : Int32) : fX6_must 0 br hr 0 y = some (y, hr) := by
  unfold fX6_must
  rw [if_pos p00, if_pos p00]
theorem reads_f {c taped br sp hr tk vl : Int32} {tape : Nat → Int32} (hc : ¬ c ≤ 0) : fX6_reads taped c br sp hr tk vl tape = some (c, br, sp, hr, tk, vl) := by
  unfold fX6_reads
  rw [if_neg hc]
theorem ne_le {c : Nat} (h1 : 1 ≤ c) (h2 : c ≤ 9) : ¬ nI c = 0 ∧ ¬ nI c ≤ 0 ∧ 0 < nI c := ⟨nI_ne0 (by omega) (by omega), nI_nle (by omega) (by omega), nI_lt (a := 0) (by omega) (by omega)⟩
theorem m_number_f {c : Nat} (h1 : 1 ≤ c) (h2 : c ≤ 9) (taped r sp hr tk vl : Int32) (tape : Nat → Int32) (lo hi : Int32) : fX6_number taped (nI c) r sp hr tk vl tape lo hi = some (0, nI c, r, sp, hr, tk, vl) := by
  obtain ⟨a1, a2, a3⟩ := ne_le h1 h2
  unfold fX6_number
  by_cases z : tk = 2
  · simp only [if_pos z, bd_s, m_must_f a1, if_pos a3, if_neg a2, reads_f a2]
  · simp only [if_neg z, bd_s, m_must_f a1, if_pos a3, if_neg a2, reads_f a2]
theorem m_node_f {c : Nat} (h1 : 1 ≤ c) (h2 : c ≤ 9) (taped r sp hr tk vl g : Int32) (tape : Nat → Int32) (x : Int32) : fX6_readsNode taped (nI c) r sp hr tk vl g tape x = some (0, nI c, r, sp, hr, tk, vl, if 0 + 1 ≤ g then g else 0 + 1) := by
  obtain ⟨a1, a2, a3⟩ := ne_le h1 h2
  unfold fX6_readsNode
  have v : (if 0 + 1 ≤ g then some g else some (0 + 1)) = some (if 0 + 1 ≤ g then g else 0 + 1) := by split <;> rfl
  by_cases z : tk = 2
  · simp only [if_pos z, bd_s, m_must_f a1, if_pos a3, if_neg a2, reads_f a2, v]
  · simp only [if_neg z, bd_s, m_must_f a1, if_pos a3, if_neg a2, reads_f a2, v]
section LN
variable {L : Nat} {B : Nat → Nat} {bytes tape : Nat → Int32}
theorem reads_tot (h : TPE L B bytes tape) {p : Nat} (hp : p ≤ L) (br hr tk vl : Int32) : ∃ f' br' sp' hr' tk' vl', fX6_reads (nI L) 0 br (nI p) hr tk vl tape = some (f', br', sp', hr', tk', vl') ∧ LA L tape p f' br' sp' hr' tk' vl' := by
  rcases lex_sim h hp with ⟨s, e, k, val, g1, g2, g3, g4, g5, g6, g7, g8, g9⟩ | ⟨s, g1, g2⟩
  · exact ⟨_, _, _, _, _, _, g6 br hr tk vl, br, hr, tk, vl, g6 br hr tk vl⟩
  · obtain ⟨a, b, c, d, g⟩ := g2 br hr tk vl
    exact ⟨_, _, _, _, _, _, g, br, hr, tk, vl, g⟩
theorem num_step (h : TPE L B bytes tape) {p : Nat} (hp : p ≤ L) (lo hi : Nat) (hlo : lo ≤ 99) (hhi : hi ≤ 99) {f br sp hr tk vl : Int32} (hl : LA L tape p f br sp hr tk vl) :
    (∃ v s e, lo ≤ v ∧ v ≤ hi ∧ p < e ∧ e ≤ L ∧ (∀ fp kn st, fX2_readToken 0 fp (nI p) kn st (nI L) bytes = some (0, fp, nI e, nI 2, nI s)) ∧ fX2_numberRead (nI e) (nI s) bytes = some (nI v) ∧ ∃ f' br' sp' hr' tk' vl', fX6_number (nI L) f br sp hr tk vl tape (nI lo) (nI hi) = some (nI v, f', br', sp', hr', tk', vl') ∧ LA L tape e f' br' sp' hr' tk' vl') ∨
    (∃ c s, 1 ≤ c ∧ c ≤ 3 ∧ CB L bytes p lo hi c s ∧ ∃ sp' hr' tk' vl', fX6_number (nI L) f br sp hr tk vl tape (nI lo) (nI hi) = some (0, nI c, nI s, sp', hr', tk', vl')) := by
  obtain ⟨b0, h0, t0, v0, hl⟩ := hl
  rcases lex_sim h hp with ⟨s, e, k, val, g1, g2, g3, g4, g5, g6, g7, g8, g9⟩ | ⟨s, g1, g2⟩
  · rw [g6] at hl
    simp only [Option.some.injEq, Prod.mk.injEq] at hl
    obtain ⟨rfl, rfl, rfl, rfl, rfl, rfl⟩ := hl
    by_cases k2 : k = 2
    · subst k2
      obtain ⟨v, hv, rfl, nr⟩ := g9 rfl
      have em := m_in (nI v) (nI lo) (nI hi)
      have se := g8 (by omega)
      by_cases rg : lo ≤ v ∧ v ≤ hi
      · obtain ⟨f', br', sp', hr', tk', vl', r1, r2⟩ := reads_tot h g3 b0 (nI s) (nI 2) (nI v)
        refine Or.inl ⟨v, s, e, rg.1, rg.2, by omega, g3, g5, nr, f', br', sp', hr', tk', vl', ?_, r2⟩
        unfold fX6_number
        rw [if_pos (show nI 2 = 2 from rfl), bd_s, m_must_1, bd_s]
        simp only [if_neg (show ¬ (0 : Int32) < 0 by decide), em, if_neg (nI_nlt rg.1 (show v < 2 ^ 31 by omega)), if_neg (nI_nlt rg.2 (show hi < 2 ^ 31 by omega)), bd_s, if_neg n10, m_must_1, if_pos (show (0 : Int32) ≤ 0 by decide), r1]
      · have em0 : fX6_in (nI v).toInt64 (nI lo).toInt64 (nI hi).toInt64 = some 0 := by
          rw [em]
          by_cases z : v < lo
          · rw [if_pos (nI_lt z (by omega))]
          · rw [if_pos (nI_lt (show hi < v by omega) (by omega)), ite_self]
        refine Or.inr ⟨3, s, by omega, by omega, Or.inr (Or.inr ⟨rfl, e, v, by omega, hv, g5, nr⟩), nI e, nI s, nI 2, nI v, ?_⟩
        unfold fX6_number
        rw [if_pos (show nI 2 = 2 from rfl), bd_s, m_must_1, bd_s]
        simp only [if_neg (show ¬ (0 : Int32) < 0 by decide), em0, bd_s, if_true, m_must_0, if_neg (show ¬ (3 : Int32) ≤ 0 by decide), reads_f (show ¬ (3 : Int32) ≤ 0 by decide)]
        rfl
    · refine Or.inr ⟨2, s, by omega, by omega, Or.inr (Or.inl ⟨rfl, e, k, k2, g4, g5⟩), nI e, nI s, nI k, val, ?_⟩
      unfold fX6_number
      rw [if_neg (show ¬ nI k = 2 from fun z => k2 (nI_inj (b := 2) (by omega) (by omega) z)), bd_s, m_must_0, bd_s]
      simp only [if_pos (show (0 : Int32) < 2 by decide), bd_s, m_must_1, if_neg (show ¬ (2 : Int32) ≤ 0 by decide), reads_f (show ¬ (2 : Int32) ≤ 0 by decide)]
      rfl
  · obtain ⟨a, b, c, d, g⟩ := g2 b0 h0 t0 v0
    rw [g] at hl
    simp only [Option.some.injEq, Prod.mk.injEq] at hl
    obtain ⟨rfl, rfl, rfl, rfl, rfl, rfl⟩ := hl
    exact Or.inr ⟨1, s, by omega, by omega, Or.inl ⟨rfl, g1⟩, a, b, c, d, m_number_f (c := 1) (by omega) (by omega) _ _ _ _ _ _ _ _ _⟩
theorem node_step (h : TPE L B bytes tape) {p G : Nat} (hp : p ≤ L) (hG : G ≤ 8) (x : Int32) {f br sp hr tk vl : Int32} (hl : LA L tape p f br sp hr tk vl) :
    (∃ v s e, v ≤ 7 ∧ ¬ nI v = x ∧ p < e ∧ e ≤ L ∧ (∀ fp kn st, fX2_readToken 0 fp (nI p) kn st (nI L) bytes = some (0, fp, nI e, nI 2, nI s)) ∧ fX2_numberRead (nI e) (nI s) bytes = some (nI v) ∧ ∃ f' br' sp' hr' tk' vl', fX6_readsNode (nI L) f br sp hr tk vl (nI G) tape x = some (nI v, f', br', sp', hr', tk', vl', nI (max G (v + 1))) ∧ LA L tape e f' br' sp' hr' tk' vl') ∨
    (∃ c s, 1 ≤ c ∧ c ≤ 3 ∧ CB L bytes p 0 7 c s ∧ ∃ sp' hr' tk' vl' g', fX6_readsNode (nI L) f br sp hr tk vl (nI G) tape x = some (0, nI c, nI s, sp', hr', tk', vl', g')) ∨
    (∃ v s e, v ≤ 7 ∧ nI v = x ∧ (∀ fp kn st, fX2_readToken 0 fp (nI p) kn st (nI L) bytes = some (0, fp, nI e, nI 2, nI s)) ∧ fX2_numberRead (nI e) (nI s) bytes = some (nI v) ∧ ∃ sp' hr' tk' vl' g', fX6_readsNode (nI L) f br sp hr tk vl (nI G) tape x = some (0, nI 5, nI s, sp', hr', tk', vl', g')) := by
  obtain ⟨b0, h0, t0, v0, hl⟩ := hl
  have gm : ∀ v : Nat, v ≤ 7 → (if nI v + 1 ≤ nI G then some (nI G) else some (nI v + 1)) = some (nI (max G (v + 1))) := fun v hv => by
    rw [nI_1]
    by_cases z : v + 1 ≤ G
    · rw [if_pos (nI_le z (by omega)), Nat.max_eq_left z]
    · rw [if_neg (nI_ge (show G < v + 1 by omega) (by omega)), Nat.max_eq_right (by omega)]
  have g0 : ∃ g' : Int32, (if (0 : Int32) + 1 ≤ nI G then some (nI G) else some (0 + 1)) = some g' := by split <;> exact ⟨_, rfl⟩
  obtain ⟨g', g0⟩ := g0
  rcases lex_sim h hp with ⟨s, e, k, val, g1, g2, g3, g4, g5, g6, g7, g8, g9⟩ | ⟨s, g1, g2⟩
  · rw [g6] at hl
    simp only [Option.some.injEq, Prod.mk.injEq] at hl
    obtain ⟨rfl, rfl, rfl, rfl, rfl, rfl⟩ := hl
    by_cases k2 : k = 2
    · subst k2
      obtain ⟨v, hv, rfl, nr⟩ := g9 rfl
      have em : fX6_in (nI v).toInt64 0 7 = some (if nI v < nI 0 then 0 else if nI 7 < nI v then 0 else 1) := m_in (nI v) (nI 0) (nI 7)
      have se := g8 (by omega)
      by_cases rg : v ≤ 7
      · have em1 : fX6_in (nI v).toInt64 0 7 = some 1 := by rw [em, if_neg (nI_nlt (Nat.zero_le _) (by omega)), if_neg (nI_nlt rg (by omega))]
        by_cases same : nI v = x
        · refine Or.inr (Or.inr ⟨v, s, e, rg, same, g5, nr, nI e, nI s, nI 2, nI v, g', ?_⟩)
          unfold fX6_readsNode
          rw [if_pos (show nI 2 = 2 from rfl), bd_s, m_must_1, bd_s]
          simp only [if_neg (show ¬ (0 : Int32) < 0 by decide), em1, bd_s, if_neg n10, m_must_1, if_pos same, m_must_0, if_neg (show ¬ (5 : Int32) ≤ 0 by decide), g0, reads_f (show ¬ (5 : Int32) ≤ 0 by decide)]
          rfl
        · obtain ⟨f', br', sp', hr', tk', vl', r1, r2⟩ := reads_tot h g3 b0 (nI s) (nI 2) (nI v)
          refine Or.inl ⟨v, s, e, rg, same, by omega, g3, g5, nr, f', br', sp', hr', tk', vl', ?_, r2⟩
          unfold fX6_readsNode
          rw [if_pos (show nI 2 = 2 from rfl), bd_s, m_must_1, bd_s]
          simp only [if_neg (show ¬ (0 : Int32) < 0 by decide), em1, bd_s, if_neg n10, m_must_1, if_neg same, if_pos (show (0 : Int32) ≤ 0 by decide), gm v rg, r1]
      · have em0 : fX6_in (nI v).toInt64 0 7 = some 0 := by
          rw [em, if_neg (nI_nlt (Nat.zero_le _) (by omega)), if_pos (nI_lt (show 7 < v by omega) (by omega))]
        refine Or.inr (Or.inl ⟨3, s, by omega, by omega, Or.inr (Or.inr ⟨rfl, e, v, by omega, hv, g5, nr⟩), nI e, nI s, nI 2, nI v, g', ?_⟩)
        unfold fX6_readsNode
        rw [if_pos (show nI 2 = 2 from rfl), bd_s, m_must_1, bd_s]
        simp only [if_neg (show ¬ (0 : Int32) < 0 by decide), em0, bd_s, if_true, m_must_0, if_pos (show (0 : Int32) < 3 by decide), m_must_1, if_neg (show ¬ (3 : Int32) ≤ 0 by decide), g0, reads_f (show ¬ (3 : Int32) ≤ 0 by decide)]
        rfl
    · refine Or.inr (Or.inl ⟨2, s, by omega, by omega, Or.inr (Or.inl ⟨rfl, e, k, k2, g4, g5⟩), nI e, nI s, nI k, val, g', ?_⟩)
      unfold fX6_readsNode
      rw [if_neg (show ¬ nI k = 2 from fun z => k2 (nI_inj (b := 2) (by omega) (by omega) z)), bd_s, m_must_0, bd_s]
      simp only [if_pos (show (0 : Int32) < 2 by decide), bd_s, m_must_1, if_neg (show ¬ (2 : Int32) ≤ 0 by decide), g0, reads_f (show ¬ (2 : Int32) ≤ 0 by decide)]
      rfl
  · obtain ⟨a, b, c, d, g⟩ := g2 b0 h0 t0 v0
    rw [g] at hl
    simp only [Option.some.injEq, Prod.mk.injEq] at hl
    obtain ⟨rfl, rfl, rfl, rfl, rfl, rfl⟩ := hl
    exact Or.inr (Or.inl ⟨1, s, by omega, by omega, Or.inl ⟨rfl, g1⟩, a, b, c, d, _, m_node_f (c := 1) (by omega) (by omega) _ _ _ _ _ _ _ _ _⟩)
/-! the class's loop -/
theorem cs_end {n : Nat} (hn : n ≤ 6) (f1 f2 : Nat → Int32) (f : Nat) (fp nx kn st : Int32) (numbers : Nat → Int32) : fX2_readNumbersWithin_2 n f1 n f2 (nI L) bytes (f + 1) 0 fp nx kn st numbers (nI n) = some (.inr (0, fp, nx, kn, st, numbers)) := by
  have e1 : Int32.ofNat n ≤ nI n := nI_le (a := n) (Nat.le_refl _) (by omega)
  rw [fX2_readNumbersWithin_2, if_pos e1]
theorem cs_ok {n i lo hi p v s e : Nat} (hn : n ≤ 6) (hi0 : i < n) {f1 f2 : Nat → Int32} (e1 : f1 i = nI lo) (e2 : f2 i = nI hi) (hhi : hi ≤ 99) (hv : lo ≤ v ∧ v ≤ hi) (ht : ∀ fp kn st, fX2_readToken 0 fp (nI p) kn st (nI L) bytes = some (0, fp, nI e, nI 2, nI s)) (hr : fX2_numberRead (nI e) (nI s) bytes = some (nI v)) (f : Nat) (fp kn st : Int32) {numbers : Nat → Int32} (hne : i = 2 → ¬ nI v = numbers 1) :
    fX2_readNumbersWithin_2 n f1 n f2 (nI L) bytes (f + 1) 0 fp (nI p) kn st numbers (nI i) = fX2_readNumbersWithin_2 n f1 n f2 (nI L) bytes f 0 fp (nI e) (nI 2) (nI s) (upd numbers i (nI v)) (nI (i + 1)) := by
  have b1 : ¬ Int32.ofNat n ≤ nI i := nI_ge (b := n) hi0 (by omega)
  have b2 : ¬ (6 : Int32) ≤ nI i := nI_ge (b := 6) (by omega) (by omega)
  rw [fX2_readNumbersWithin_2, if_neg b1, if_neg b1, if_neg b2, ht, bd_s, if_pos p00, if_pos (show nI 2 = 2 from rfl), hr, bd_s, gd_in hi0 (by omega), gd_in hi0 (by omega), nI_clamp (by omega), e1, e2, if_neg (nI_nlt hv.1 (by omega)), if_pos (nI_le hv.2 (by omega)), gd_in (by omega) (by omega), nm_s, nI_1]
  by_cases z : i = 2
  · rw [if_pos (show nI i = 2 by rw [z]; rfl), if_neg (hne z)]
  · rw [if_neg (show ¬ nI i = 2 from fun w => z (nI_inj (b := 2) (by omega) (by omega) w))]
theorem cs_same {n lo hi p v s e : Nat} (hn : n ≤ 6) (hi0 : 2 < n) {f1 f2 : Nat → Int32} (e1 : f1 2 = nI lo) (e2 : f2 2 = nI hi) (hhi : hi ≤ 99) (hv : lo ≤ v ∧ v ≤ hi) (ht : ∀ fp kn st, fX2_readToken 0 fp (nI p) kn st (nI L) bytes = some (0, fp, nI e, nI 2, nI s)) (hr : fX2_numberRead (nI e) (nI s) bytes = some (nI v)) (f : Nat) (fp kn st : Int32) {numbers : Nat → Int32} (hsame : nI v = numbers 1) :
    ∃ t, fX2_readNumbersWithin_2 n f1 n f2 (nI L) bytes (f + 1) 0 fp (nI p) kn st numbers (nI 2) = some (.inl t) ∧ t.1 = nI 5 ∧ t.2.1 = nI s := by
  have b1 : ¬ Int32.ofNat n ≤ nI 2 := nI_ge (b := n) hi0 (by omega)
  have b2 : ¬ (6 : Int32) ≤ nI 2 := by decide
  rw [fX2_readNumbersWithin_2, if_neg b1, if_neg b1, if_neg b2, ht, bd_s, if_pos p00, if_pos (show nI 2 = 2 from rfl), hr, bd_s, gd_in hi0 (by omega), gd_in hi0 (by omega), nI_clamp (by omega), e1, e2, if_neg (nI_nlt hv.1 (by omega)), if_pos (nI_le hv.2 (by omega)), if_pos (show nI 2 = 2 from rfl), if_pos hsame]
  unfold fX2_refuse
  rw [bd_s]
  exact ⟨_, rfl, rfl, rfl⟩
theorem cs_bad {n i lo hi p c s : Nat} (hn : n ≤ 6) (hi0 : i < n) {f1 f2 : Nat → Int32} (e1 : f1 i = nI lo) (e2 : f2 i = nI hi) (hlo : lo ≤ 99) (hhi : hi ≤ 99) (hb : CB L bytes p lo hi c s) (f : Nat) (fp kn st : Int32) (numbers : Nat → Int32) :
    ∃ t, fX2_readNumbersWithin_2 n f1 n f2 (nI L) bytes (f + 1) 0 fp (nI p) kn st numbers (nI i) = some (.inl t) ∧ t.1 = nI c ∧ t.2.1 = nI s := by
  have b1 : ¬ Int32.ofNat n ≤ nI i := nI_ge (b := n) hi0 (by omega)
  have b2 : ¬ (6 : Int32) ≤ nI i := nI_ge (b := 6) (by omega) (by omega)
  rw [fX2_readNumbersWithin_2, if_neg b1, if_neg b1, if_neg b2]
  unfold fX2_refuse
  rcases hb with ⟨rfl, q⟩ | ⟨rfl, e, k, k2, k3, q⟩ | ⟨rfl, e, v, hv, h99, q, r⟩
  · obtain ⟨x, y, q⟩ := q fp kn st
    rw [q, bd_s, if_neg n10]
    exact ⟨_, rfl, rfl, rfl⟩
  · rw [q, bd_s, if_pos p00, if_neg (show ¬ nI k = 2 from fun z => k2 (nI_inj (b := 2) (by omega) (by omega) z)), bd_s]
    exact ⟨_, rfl, rfl, rfl⟩
  · rw [q, bd_s, if_pos p00, if_pos (show nI 2 = 2 from rfl), r, bd_s, gd_in hi0 (by omega), gd_in hi0 (by omega), nI_clamp (by omega), e1, e2, bd_s]
    by_cases z : v < lo
    · rw [if_pos (nI_lt z (by omega))]
      exact ⟨_, rfl, rfl, rfl⟩
    · rw [if_neg (nI_nlt (show lo ≤ v by omega) (by omega)), if_neg (nI_ge (show hi < v by omega) (by omega))]
      exact ⟨_, rfl, rfl, rfl⟩
end LN
