def sv0 : Nat → Int32 := fun j => ([0] : List Int32).getD j 0
def sv1 : Nat → Int32 := fun j => ([99] : List Int32).getD j 0
def sv2 : Nat → Int32 := fun j => ([1, 0, 0, 0] : List Int32).getD j 0
def sv3 : Nat → Int32 := fun j => ([99, 7, 7, 99] : List Int32).getD j 0
def sv4 : Nat → Int32 := fun j => ([1, 0, 0, 1, 1, 1] : List Int32).getD j 0
def sv5 : Nat → Int32 := fun j => ([99, 7, 7, 99, 64, 99] : List Int32).getD j 0
def sv6 : Nat → Int32 := fun j => ([99, 3, 3, 9] : List Int32).getD j 0
def sw0 : Nat → Int32 := fun j => ([110, 111, 100, 101] : List Int32).getD j 0
def sw1 : Nat → Int32 := fun j => ([109, 101, 101, 116] : List Int32).getD j 0
def sw2 : Nat → Int32 := fun j => ([108, 101, 116, 116, 101, 114] : List Int32).getD j 0
/-- the static tables of Reader and World, and the three texts -/
def Ev (t : Nat → Nat) : (Nat → Prop) → State → Prop := fun A U => (va_Z "SprayedLetters$Reader" "NODE_LEAST" "[I" (.ref (t 0)) A U U.heap ∧ va_T .int (t 0) 1 (fun j => .int (sv0 j)) A U U.heap) ∧ (va_Z "SprayedLetters$Reader" "NODE_MOST" "[I" (.ref (t 1)) A U U.heap ∧ va_T .int (t 1) 1 (fun j => .int (sv1 j)) A U U.heap) ∧ (va_Z "SprayedLetters$Reader" "MEET_LEAST" "[I" (.ref (t 2)) A U U.heap ∧ va_T .int (t 2) 4 (fun j => .int (sv2 j)) A U U.heap) ∧ (va_Z "SprayedLetters$Reader" "MEET_MOST" "[I" (.ref (t 3)) A U U.heap ∧ va_T .int (t 3) 4 (fun j => .int (sv3 j)) A U U.heap) ∧ (va_Z "SprayedLetters$Reader" "LETTER_LEAST" "[I" (.ref (t 4)) A U U.heap ∧ va_T .int (t 4) 6 (fun j => .int (sv4 j)) A U U.heap) ∧ (va_Z "SprayedLetters$Reader" "LETTER_MOST" "[I" (.ref (t 5)) A U U.heap ∧ va_T .int (t 5) 6 (fun j => .int (sv5 j)) A U U.heap) ∧ (va_Z "SprayedLetters$World" "MOST_OF_RULE" "[I" (.ref (t 6)) A U U.heap ∧ va_T .int (t 6) 4 (fun j => .int (sv6 j)) A U U.heap) ∧ (vk_R "SprayedLetters$Reader" 79 "node" (t 7) U ∧ XStr (t 7) (t 10) 4 sw0 A U) ∧ (vk_R "SprayedLetters$Reader" 85 "meet" (t 8) U ∧ XStr (t 8) (t 11) 4 sw1 A U) ∧ (vk_R "SprayedLetters$Reader" 87 "letter" (t 9) U ∧ XStr (t 9) (t 12) 6 sw2 A U)
theorem Ev_z0 {t : Nat → Nat} {A : Nat → Prop} {U : State} (h : Ev t A U) : va_Z "SprayedLetters$Reader" "NODE_LEAST" "[I" (.ref (t 0)) A U U.heap := h.1.1
theorem Ev_t0 {t : Nat → Nat} {A : Nat → Prop} {U : State} (h : Ev t A U) : va_T .int (t 0) 1 (fun j => .int (sv0 j)) A U U.heap := h.1.2
theorem Ev_z1 {t : Nat → Nat} {A : Nat → Prop} {U : State} (h : Ev t A U) : va_Z "SprayedLetters$Reader" "NODE_MOST" "[I" (.ref (t 1)) A U U.heap := h.2.1.1
theorem Ev_t1 {t : Nat → Nat} {A : Nat → Prop} {U : State} (h : Ev t A U) : va_T .int (t 1) 1 (fun j => .int (sv1 j)) A U U.heap := h.2.1.2
theorem Ev_z2 {t : Nat → Nat} {A : Nat → Prop} {U : State} (h : Ev t A U) : va_Z "SprayedLetters$Reader" "MEET_LEAST" "[I" (.ref (t 2)) A U U.heap := h.2.2.1.1
theorem Ev_t2 {t : Nat → Nat} {A : Nat → Prop} {U : State} (h : Ev t A U) : va_T .int (t 2) 4 (fun j => .int (sv2 j)) A U U.heap := h.2.2.1.2
theorem Ev_z3 {t : Nat → Nat} {A : Nat → Prop} {U : State} (h : Ev t A U) : va_Z "SprayedLetters$Reader" "MEET_MOST" "[I" (.ref (t 3)) A U U.heap := h.2.2.2.1.1
theorem Ev_t3 {t : Nat → Nat} {A : Nat → Prop} {U : State} (h : Ev t A U) : va_T .int (t 3) 4 (fun j => .int (sv3 j)) A U U.heap := h.2.2.2.1.2
theorem Ev_z4 {t : Nat → Nat} {A : Nat → Prop} {U : State} (h : Ev t A U) : va_Z "SprayedLetters$Reader" "LETTER_LEAST" "[I" (.ref (t 4)) A U U.heap := h.2.2.2.2.1.1
theorem Ev_t4 {t : Nat → Nat} {A : Nat → Prop} {U : State} (h : Ev t A U) : va_T .int (t 4) 6 (fun j => .int (sv4 j)) A U U.heap := h.2.2.2.2.1.2
theorem Ev_z5 {t : Nat → Nat} {A : Nat → Prop} {U : State} (h : Ev t A U) : va_Z "SprayedLetters$Reader" "LETTER_MOST" "[I" (.ref (t 5)) A U U.heap := h.2.2.2.2.2.1.1
theorem Ev_t5 {t : Nat → Nat} {A : Nat → Prop} {U : State} (h : Ev t A U) : va_T .int (t 5) 6 (fun j => .int (sv5 j)) A U U.heap := h.2.2.2.2.2.1.2
theorem Ev_z6 {t : Nat → Nat} {A : Nat → Prop} {U : State} (h : Ev t A U) : va_Z "SprayedLetters$World" "MOST_OF_RULE" "[I" (.ref (t 6)) A U U.heap := h.2.2.2.2.2.2.1.1
theorem Ev_t6 {t : Nat → Nat} {A : Nat → Prop} {U : State} (h : Ev t A U) : va_T .int (t 6) 4 (fun j => .int (sv6 j)) A U U.heap := h.2.2.2.2.2.2.1.2
theorem Ev_r0 {t : Nat → Nat} {A : Nat → Prop} {U : State} (h : Ev t A U) : vk_R "SprayedLetters$Reader" 79 "node" (t 7) U := h.2.2.2.2.2.2.2.1.1
theorem Ev_s0 {t : Nat → Nat} {A : Nat → Prop} {U : State} (h : Ev t A U) : XStr (t 7) (t 10) 4 sw0 A U := h.2.2.2.2.2.2.2.1.2
theorem Ev_r1 {t : Nat → Nat} {A : Nat → Prop} {U : State} (h : Ev t A U) : vk_R "SprayedLetters$Reader" 85 "meet" (t 8) U := h.2.2.2.2.2.2.2.2.1.1
theorem Ev_s1 {t : Nat → Nat} {A : Nat → Prop} {U : State} (h : Ev t A U) : XStr (t 8) (t 11) 4 sw1 A U := h.2.2.2.2.2.2.2.2.1.2
theorem Ev_r2 {t : Nat → Nat} {A : Nat → Prop} {U : State} (h : Ev t A U) : vk_R "SprayedLetters$Reader" 87 "letter" (t 9) U := h.2.2.2.2.2.2.2.2.2.1
theorem Ev_s2 {t : Nat → Nat} {A : Nat → Prop} {U : State} (h : Ev t A U) : XStr (t 9) (t 12) 6 sw2 A U := h.2.2.2.2.2.2.2.2.2.2
theorem Ev_S (t : Nat → Nat) : XS (Ev t) := fun A B s U h hW hAB hq => by
  obtain ⟨h0, h1, h2, h3, h4, h5, h6, h7, h8, h9⟩ := h
  exact ⟨⟨((h0.1.kept hq).narrow hAB).moved hW.alike, ((h0.2.kept hq).narrow hAB).moved hW.alike⟩, ⟨((h1.1.kept hq).narrow hAB).moved hW.alike, ((h1.2.kept hq).narrow hAB).moved hW.alike⟩, ⟨((h2.1.kept hq).narrow hAB).moved hW.alike, ((h2.2.kept hq).narrow hAB).moved hW.alike⟩, ⟨((h3.1.kept hq).narrow hAB).moved hW.alike, ((h3.2.kept hq).narrow hAB).moved hW.alike⟩, ⟨((h4.1.kept hq).narrow hAB).moved hW.alike, ((h4.2.kept hq).narrow hAB).moved hW.alike⟩, ⟨((h5.1.kept hq).narrow hAB).moved hW.alike, ((h5.2.kept hq).narrow hAB).moved hW.alike⟩, ⟨((h6.1.kept hq).narrow hAB).moved hW.alike, ((h6.2.kept hq).narrow hAB).moved hW.alike⟩, ⟨h7.1.warm hW, XStr_S _ _ _ _ A B s U h7.2 hW hAB hq⟩, ⟨h8.1.warm hW, XStr_S _ _ _ _ A B s U h8.2 hW hAB hq⟩, ⟨h9.1.warm hW, XStr_S _ _ _ _ A B s U h9.2 hW hAB hq⟩⟩
/-- two tables -/
def XTab (t1 n1 : Nat) (f1 : Nat → Int32) (t2 n2 : Nat) (f2 : Nat → Int32) : (Nat → Prop) → State → Prop := fun A U => va_T .int t1 n1 (fun j => .int (f1 j)) A U U.heap ∧ va_T .int t2 n2 (fun j => .int (f2 j)) A U U.heap
theorem XTab_S (t1 n1 : Nat) (f1 : Nat → Int32) (t2 n2 : Nat) (f2 : Nat → Int32) : XS (XTab t1 n1 f1 t2 n2 f2) := fun A B s U h hW hAB hq => ⟨((h.1.kept hq).narrow hAB).moved hW.alike, ((h.2.kept hq).narrow hAB).moved hW.alike⟩
/-- charAt -/
def chg {α : Type} (i : Int32) (n : Nat) (f : Nat → Int32) (g : Int32 → Option α) : Option α := if i < 0 ∨ n ≤ i.toNatClampNeg ∨ f i.toNatClampNeg < 0 ∨ 127 < f i.toNatClampNeg ∨ 2 ^ 31 ≤ n then none else g (f i.toNatClampNeg)
theorem chg_some {α : Type} {i : Int32} {n : Nat} {f : Nat → Int32} {g : Int32 → Option α} {y : α} (h : chg i n f g = some y) : ∃ r : Int32, vp_in i n ∧ n < 2 ^ 31 ∧ ∃ c0 : Nat, c0 < 128 ∧ r = nI c0 ∧ f i.toNatClampNeg = nI c0 ∧ g r = some y := by
  unfold chg at h
  split at h
  · cases h
  · rename_i h1
    have h2 : ¬ f i.toNatClampNeg < 0 := fun q => h1 (Or.inr (Or.inr (Or.inl q)))
    have h3 : ¬ 127 < f i.toNatClampNeg := fun q => h1 (Or.inr (Or.inr (Or.inr (Or.inl q))))
    have h4 : f i.toNatClampNeg ≤ 127 := Int32.not_lt.mp h3
    obtain ⟨c0, hc, he⟩ := nI_of2 (n := 127) (by decide) h2 h4
    refine ⟨f i.toNatClampNeg, fun q => ?_, ?_, c0, by omega, he, he, h⟩
    · rcases q with q | q
      · exact h1 (Or.inl q)
      · exact h1 (Or.inr (Or.inl q))
    · exact Nat.not_le.mp fun q => h1 (Or.inr (Or.inr (Or.inr (Or.inr q))))
theorem kJ0_charAt' {l : Launch} {D : va_G} {k : Nat → ClassId} (a v n : Nat) (f : Nat → Int32) (i : Int32) (hn : n < 2 ^ 31) (hin : vp_in i n) (c0 : Nat) (hc0 : c0 < 128) (hf : f i.toNatClampNeg = nI c0) (r : Int32) (hr : r = nI c0) : KMiX (XStr a v n f) l yJ0_charAt_5068e cJ0_charAt_5068e 2 (some .char) ({ frames := 3, cells := 0, slots := 0, locals := 64 } : Room) D k [.ref a, .int i] [] r [] := by
  subst hr
  exact kJ0_charAt a v n f i hn hin c0 hc0 hf
