/-- the plan that is told, on both sides -/
def DR (N K Z G : Nat) (rooms mrows lrows draft base : Nat → Int32) : Prop :=
  (N ≤ 8 ∧ K ≤ 24 ∧ Z ≤ 16 ∧ G ≤ 8) ∧
  (draft 0 = nI N ∧ draft 1 = nI K ∧ draft 2 = nI Z) ∧
  (∀ n, n < N → draft (23 + n) = rooms n) ∧
  (∀ m w, m < K → w < 4 → draft (31 + 4 * m + w) = mrows (m * 4 + w)) ∧
  (∀ l w, l < Z → w < 6 → draft (127 + 8 * l + w) = lrows (l * 6 + w)) ∧
  (∀ l, l < Z → draft (127 + 8 * l + 6) = -4 ∧ draft (127 + 8 * l + 7) = -4) ∧
  (∀ x, 3 ≤ x → x < 831 → (x < 23 ∨ 255 ≤ x) → draft x = if 4 ≤ x ∧ x < 8 then base x else 0) ∧
  (∀ m, m < K → ∃ t a b, 1 ≤ t ∧ t ≤ 99 ∧ a < G ∧ b < G ∧ a ≠ b ∧ mrows (m * 4 + 0) = nI t ∧ mrows (m * 4 + 1) = nI a ∧ mrows (m * 4 + 2) = nI b) ∧
  (∀ l, l < Z → ∃ t a b z u y, 1 ≤ t ∧ t ≤ 99 ∧ a < G ∧ b < G ∧ a ≠ b ∧ 1 ≤ z ∧ z ≤ 99 ∧ 1 ≤ u ∧ u ≤ 64 ∧ 1 ≤ y ∧ y ≤ 99 ∧ lrows (l * 6 + 0) = nI t ∧ lrows (l * 6 + 1) = nI a ∧ lrows (l * 6 + 2) = nI b ∧ lrows (l * 6 + 3) = nI z ∧ lrows (l * 6 + 4) = nI u ∧ lrows (l * 6 + 5) = nI y) ∧
  (G = 0 ∨ (∃ m, m < K ∧ (mrows (m * 4 + 1) = nI (G - 1) ∨ mrows (m * 4 + 2) = nI (G - 1))) ∨ ∃ l, l < Z ∧ (lrows (l * 6 + 1) = nI (G - 1) ∨ lrows (l * 6 + 2) = nI (G - 1)))
theorem names_m {N K : Nat} {mrows : Nat → Int32} (hK : K ≤ 24) : ∀ (f j : Nat), j ≤ K → K < j + f →
    ((∀ m, j ≤ m → m < K → mrows (m * 4 + 1) < nI N ∧ mrows (m * 4 + 2) < nI N) → fX0_namesOnlyItsNodes_2 (nI N) (nI K) mrows f (nI j) = some (.inr ())) ∧ ((∃ m, j ≤ m ∧ m < K ∧ ¬ (mrows (m * 4 + 1) < nI N ∧ mrows (m * 4 + 2) < nI N)) → fX0_namesOnlyItsNodes_2 (nI N) (nI K) mrows f (nI j) = some (.inl 0)) := by
  intro f
  induction f with
  | zero => intro j h1 h2; omega
  | succ f ih =>
    intro j h1 h2
    rw [fX0_namesOnlyItsNodes_2]
    by_cases hj : j = K
    · rw [if_pos (nI_le (show K ≤ j by omega) (by omega))]
      exact ⟨fun _ => rfl, fun ⟨m, h3, h4, _⟩ => by omega⟩
    · rw [if_neg (nI_ge (show j < K by omega) (by omega)), c_ofMeeting_1 mrows (by omega), bd_s, c_ofMeeting_2 mrows (by omega), bd_s, nI_1]
      obtain ⟨ih1, ih2⟩ := ih (j + 1) (by omega) (by omega)
      by_cases A : mrows (j * 4 + 1) < nI N
      · by_cases B : mrows (j * 4 + 2) < nI N
        · rw [if_neg (Int32.not_le.mpr A), if_pos B]
          refine ⟨fun q => ih1 (fun m h3 h4 => q m (by omega) h4), fun ⟨m, h3, h4, h5⟩ => ih2 ⟨m, ?_, h4, h5⟩⟩
          by_cases z : m = j
          · subst z; exact absurd ⟨A, B⟩ h5
          · omega
        · rw [if_neg (Int32.not_le.mpr A), if_neg B]
          exact ⟨fun q => absurd (q j (Nat.le_refl _) (by omega)).2 B, fun _ => rfl⟩
      · rw [if_pos (Int32.not_lt.mp A)]
        exact ⟨fun q => absurd (q j (Nat.le_refl _) (by omega)).1 A, fun _ => rfl⟩
theorem names_l {N Z : Nat} {lrows : Nat → Int32} (hZ : Z ≤ 16) : ∀ (f j : Nat), j ≤ Z → Z < j + f →
    ((∀ m, j ≤ m → m < Z → lrows (m * 6 + 1) < nI N ∧ lrows (m * 6 + 2) < nI N) → fX0_namesOnlyItsNodes_46 (nI N) (nI Z) lrows f (nI j) = some (.inr ())) ∧ ((∃ m, j ≤ m ∧ m < Z ∧ ¬ (lrows (m * 6 + 1) < nI N ∧ lrows (m * 6 + 2) < nI N)) → fX0_namesOnlyItsNodes_46 (nI N) (nI Z) lrows f (nI j) = some (.inl 0)) := by
  intro f
  induction f with
  | zero => intro j h1 h2; omega
  | succ f ih =>
    intro j h1 h2
    rw [fX0_namesOnlyItsNodes_46]
    by_cases hj : j = Z
    · rw [if_pos (nI_le (show Z ≤ j by omega) (by omega))]
      exact ⟨fun _ => rfl, fun ⟨m, h3, h4, _⟩ => by omega⟩
    · rw [if_neg (nI_ge (show j < Z by omega) (by omega)), c_ofLetter_1 lrows (by omega), bd_s, c_ofLetter_2 lrows (by omega), bd_s, nI_1]
      obtain ⟨ih1, ih2⟩ := ih (j + 1) (by omega) (by omega)
      by_cases A : lrows (j * 6 + 1) < nI N
      · by_cases B : lrows (j * 6 + 2) < nI N
        · rw [if_neg (Int32.not_le.mpr A), if_pos B]
          refine ⟨fun q => ih1 (fun m h3 h4 => q m (by omega) h4), fun ⟨m, h3, h4, h5⟩ => ih2 ⟨m, ?_, h4, h5⟩⟩
          by_cases z : m = j
          · subst z; exact absurd ⟨A, B⟩ h5
          · omega
        · rw [if_neg (Int32.not_le.mpr A), if_neg B]
          exact ⟨fun q => absurd (q j (Nat.le_refl _) (by omega)).2 B, fun _ => rfl⟩
      · rw [if_pos (Int32.not_lt.mp A)]
        exact ⟨fun q => absurd (q j (Nat.le_refl _) (by omega)).1 A, fun _ => rfl⟩
section DP
variable {N K Z G : Nat} {rooms mrows lrows draft base : Nat → Int32}
theorem names_sim (h : DR N K Z G rooms mrows lrows draft base) : fX0_namesOnlyItsNodes (nI N) (nI K) (nI Z) mrows lrows = some (if G ≤ N then 1 else 0) := by
  obtain ⟨⟨h1, h2, h3, h4⟩, -, -, -, -, -, -, hm, hl, hG⟩ := h
  obtain ⟨m1, m2⟩ := names_m (N := N) (mrows := mrows) h2 FU 0 (Nat.zero_le _) (by unfold FU; omega)
  obtain ⟨l1, l2⟩ := names_l (N := N) (lrows := lrows) h3 FU 0 (Nat.zero_le _) (by unfold FU; omega)
  rw [show nI 0 = (0 : Int32) from rfl] at m1 m2 l1 l2
  have n1 : ∀ x : Int32, x = nI (G - 1) → N < G → ¬ x < nI N := fun x e g => by
    rw [e]
    exact nI_nlt (by omega) (by omega)
  unfold fX0_namesOnlyItsNodes
  by_cases g : G ≤ N
  · rw [if_pos g, m1 (fun m _ hmK => by
      obtain ⟨t, a, b, -, -, ha, hb, -, -, ea, eb⟩ := hm m hmK
      rw [ea, eb]
      exact ⟨nI_lt (by omega) (by omega), nI_lt (by omega) (by omega)⟩)]
    show lp (fX0_namesOnlyItsNodes_46 (nI N) (nI Z) lrows FU 0) (fun t => t) (fun _ => some (1 : Int32)) = some 1
    rw [l1 (fun l _ hlZ => by
      obtain ⟨t, a, b, z, u, y, -, -, ha, hb, -, -, -, -, -, -, -, -, ea, eb, -⟩ := hl l hlZ
      rw [ea, eb]
      exact ⟨nI_lt (by omega) (by omega), nI_lt (by omega) (by omega)⟩)]
    rfl
  · rw [if_neg g]
    rcases hG with hG | ⟨m, hmK, e⟩ | ⟨l, hlZ, e⟩
    · omega
    · rw [m2 ⟨m, Nat.zero_le _, hmK, fun q => by
        rcases e with e | e
        · exact n1 _ e (by omega) q.1
        · exact n1 _ e (by omega) q.2⟩]
      rfl
    · by_cases all : ∀ m, 0 ≤ m → m < K → mrows (m * 4 + 1) < nI N ∧ mrows (m * 4 + 2) < nI N
      · rw [m1 all]
        show lp (fX0_namesOnlyItsNodes_46 (nI N) (nI Z) lrows FU 0) (fun t => t) (fun _ => some (1 : Int32)) = some 0
        rw [l2 ⟨l, Nat.zero_le _, hlZ, fun q => by
          rcases e with e | e
          · exact n1 _ e (by omega) q.1
          · exact n1 _ e (by omega) q.2⟩]
        rfl
      · have ex : ∃ m, 0 ≤ m ∧ m < K ∧ ¬ (mrows (m * 4 + 1) < nI N ∧ mrows (m * 4 + 2) < nI N) := by
          refine Classical.byContradiction (fun no => all (fun m z w => ?_))
          exact Classical.byContradiction (fun k => no ⟨m, z, w, k⟩)
        rw [m2 ex]
        rfl
theorem DR_node (h : DR N K Z G rooms mrows lrows draft base) (hN : N < 8) (v : Nat) : DR (N + 1) K Z G (upd rooms N (nI v)) mrows lrows (upd (upd draft (23 + N) (nI v)) 0 (nI (N + 1))) base := by
  obtain ⟨⟨h1, h2, h3, h4⟩, ⟨d0, d1, d2⟩, r1, r2, r3, r4, r5, hm, hl, hG⟩ := h
  refine ⟨⟨by omega, h2, h3, h4⟩, ⟨upd_eq _ _ _, by rw [upd_ne _ _ (by omega), upd_ne _ _ (by omega)]; exact d1, by rw [upd_ne _ _ (by omega), upd_ne _ _ (by omega)]; exact d2⟩, fun n hn => ?_, fun m w hmK hw => by rw [upd_ne _ _ (by omega), upd_ne _ _ (by omega)]; exact r2 m w hmK hw, fun l w hlZ hw => by rw [upd_ne _ _ (by omega), upd_ne _ _ (by omega)]; exact r3 l w hlZ hw, fun l hlZ => by rw [upd_ne _ _ (by omega), upd_ne _ _ (by omega), upd_ne _ _ (by omega), upd_ne _ _ (by omega)]; exact r4 l hlZ, fun x x1 x2 x3 => by rw [upd_ne _ _ (by omega), upd_ne _ _ (by omega)]; exact r5 x x1 x2 x3, hm, hl, hG⟩
  by_cases e : n = N
  · subst e; rw [upd_ne _ _ (by omega), upd_eq, upd_eq]
  · rw [upd_ne _ _ (by omega), upd_ne _ _ (by omega), upd_ne _ _ e]
    exact r1 n (by omega)
theorem DR_meet (h : DR N K Z G rooms mrows lrows draft base) (hK : K < 24) {v0 v1 v2 : Nat} (v3 : Nat) (b0 : 1 ≤ v0 ∧ v0 ≤ 99) (b1 : v1 ≤ 7) (b2 : v2 ≤ 7) (ne : ¬ v1 = v2) : DR N (K + 1) Z (max (max G (v1 + 1)) (v2 + 1)) rooms (upd (upd (upd (upd mrows (K * 4 + 0) (nI v0)) (K * 4 + 1) (nI v1)) (K * 4 + 2) (nI v2)) (K * 4 + 3) (nI v3)) lrows (upd (upd (upd (upd (upd draft (31 + 4 * K + 0) (nI v0)) (31 + 4 * K + 1) (nI v1)) (31 + 4 * K + 2) (nI v2)) (31 + 4 * K + 3) (nI v3)) 1 (nI (K + 1))) base := by
  obtain ⟨⟨h1, h2, h3, h4⟩, ⟨d0, d1, d2⟩, r1, r2, r3, r4, r5, hm, hl, hG⟩ := h
  have fr : ∀ x, x ≠ 1 → (x < 31 + 4 * K ∨ 31 + 4 * K + 4 ≤ x) → (upd (upd (upd (upd (upd draft (31 + 4 * K + 0) (nI v0)) (31 + 4 * K + 1) (nI v1)) (31 + 4 * K + 2) (nI v2)) (31 + 4 * K + 3) (nI v3)) 1 (nI (K + 1))) x = draft x := fun x x1 x2 => by
    rw [upd_ne _ _ x1, upd_ne _ _ (by omega), upd_ne _ _ (by omega), upd_ne _ _ (by omega), upd_ne _ _ (by omega)]
  have fm : ∀ m w, m < K → w < 4 → (upd (upd (upd (upd mrows (K * 4 + 0) (nI v0)) (K * 4 + 1) (nI v1)) (K * 4 + 2) (nI v2)) (K * 4 + 3) (nI v3)) (m * 4 + w) = mrows (m * 4 + w) := fun m w q1 q2 => by
    rw [upd_ne _ _ (by omega), upd_ne _ _ (by omega), upd_ne _ _ (by omega), upd_ne _ _ (by omega)]
  have e0 : (upd (upd (upd (upd mrows (K * 4 + 0) (nI v0)) (K * 4 + 1) (nI v1)) (K * 4 + 2) (nI v2)) (K * 4 + 3) (nI v3)) (K * 4 + 0) = nI v0 := by rw [upd_ne _ _ (by omega), upd_ne _ _ (by omega), upd_ne _ _ (by omega), upd_eq]
  have e1 : (upd (upd (upd (upd mrows (K * 4 + 0) (nI v0)) (K * 4 + 1) (nI v1)) (K * 4 + 2) (nI v2)) (K * 4 + 3) (nI v3)) (K * 4 + 1) = nI v1 := by rw [upd_ne _ _ (by omega), upd_ne _ _ (by omega), upd_eq]
  have e2 : (upd (upd (upd (upd mrows (K * 4 + 0) (nI v0)) (K * 4 + 1) (nI v1)) (K * 4 + 2) (nI v2)) (K * 4 + 3) (nI v3)) (K * 4 + 2) = nI v2 := by rw [upd_ne _ _ (by omega), upd_eq]
  have e3 : (upd (upd (upd (upd mrows (K * 4 + 0) (nI v0)) (K * 4 + 1) (nI v1)) (K * 4 + 2) (nI v2)) (K * 4 + 3) (nI v3)) (K * 4 + 3) = nI v3 := by rw [upd_eq]
  refine ⟨⟨h1, by omega, h3, by omega⟩, ⟨by rw [fr _ (by omega) (by omega)]; exact d0, upd_eq _ _ _, by rw [fr _ (by omega) (by omega)]; exact d2⟩, fun n hn => by rw [fr _ (by omega) (by omega)]; exact r1 n hn, fun m w hmK hw => ?_, fun l w hlZ hw => by rw [fr _ (by omega) (by omega)]; exact r3 l w hlZ hw, fun l hlZ => by rw [fr _ (by omega) (by omega), fr _ (by omega) (by omega)]; exact r4 l hlZ, fun x x1 x2 x3 => by rw [fr _ (by omega) (by omega)]; exact r5 x x1 x2 x3, fun m hmK => ?_, fun l hlZ => ?_, ?_⟩
  · by_cases e : m = K
    · subst e
      rcases (show w = 0 ∨ w = 1 ∨ w = 2 ∨ w = 3 by omega) with rfl | rfl | rfl | rfl
      · rw [e0, upd_ne _ _ (by omega), upd_ne _ _ (by omega), upd_ne _ _ (by omega), upd_ne _ _ (by omega), upd_eq]
      · rw [e1, upd_ne _ _ (by omega), upd_ne _ _ (by omega), upd_ne _ _ (by omega), upd_eq]
      · rw [e2, upd_ne _ _ (by omega), upd_ne _ _ (by omega), upd_eq]
      · rw [e3, upd_ne _ _ (by omega), upd_eq]
    · rw [fr _ (by omega) (by omega), fm m w (by omega) hw]
      exact r2 m w (by omega) hw
  · by_cases e : m = K
    · subst e
      exact ⟨v0, v1, v2, b0.1, b0.2, by omega, by omega, ne, e0, e1, e2⟩
    · obtain ⟨t, a, b, q1, q2, q3, q4, q5, q6, q7, q8⟩ := hm m (by omega)
      exact ⟨t, a, b, q1, q2, by omega, by omega, q5, by rw [fm m 0 (by omega) (by omega)]; exact q6, by rw [fm m 1 (by omega) (by omega)]; exact q7, by rw [fm m 2 (by omega) (by omega)]; exact q8⟩
  · obtain ⟨t, a, b, z, u, y, q1, q2, q3, q4, q5⟩ := hl l hlZ
    exact ⟨t, a, b, z, u, y, q1, q2, by omega, by omega, q5⟩
  · by_cases c2 : (max (max G (v1 + 1)) (v2 + 1)) = v2 + 1
    · exact Or.inr (Or.inl ⟨K, by omega, Or.inr (by rw [e2, c2]; rfl)⟩)
    · by_cases c1 : (max (max G (v1 + 1)) (v2 + 1)) = v1 + 1
      · exact Or.inr (Or.inl ⟨K, by omega, Or.inl (by rw [e1, c1]; rfl)⟩)
      · have c0 : (max (max G (v1 + 1)) (v2 + 1)) = G := by omega
        rw [c0]
        rcases hG with hG | ⟨m, hmK, e⟩ | q
        · exact Or.inl hG
        · exact Or.inr (Or.inl ⟨m, by omega, by rw [fm m 1 hmK (by omega), fm m 2 hmK (by omega)]; exact e⟩)
        · exact Or.inr (Or.inr q)
theorem DR_letter (h : DR N K Z G rooms mrows lrows draft base) (hZ : Z < 16) {v0 v1 v2 v3 v4 v5 : Nat} (b0 : 1 ≤ v0 ∧ v0 ≤ 99) (b1 : v1 ≤ 7) (b2 : v2 ≤ 7) (b3 : 1 ≤ v3 ∧ v3 ≤ 99) (b4 : 1 ≤ v4 ∧ v4 ≤ 64) (b5 : 1 ≤ v5 ∧ v5 ≤ 99) (ne : ¬ v1 = v2) : DR N K (Z + 1) (max (max G (v1 + 1)) (v2 + 1)) rooms mrows (upd (upd (upd (upd (upd (upd lrows (Z * 6 + 0) (nI v0)) (Z * 6 + 1) (nI v1)) (Z * 6 + 2) (nI v2)) (Z * 6 + 3) (nI v3)) (Z * 6 + 4) (nI v4)) (Z * 6 + 5) (nI v5)) (upd (upd (upd (upd (upd (upd (upd (upd (upd draft (127 + 8 * Z + 0) (nI v0)) (127 + 8 * Z + 1) (nI v1)) (127 + 8 * Z + 2) (nI v2)) (127 + 8 * Z + 3) (nI v3)) (127 + 8 * Z + 4) (nI v4)) (127 + 8 * Z + 5) (nI v5)) (127 + 8 * Z + 6) (-4)) (127 + 8 * Z + 7) (-4)) 2 (nI (Z + 1))) base := by
  obtain ⟨⟨h1, h2, h3, h4⟩, ⟨d0, d1, d2⟩, r1, r2, r3, r4, r5, hm, hl, hG⟩ := h
  have fr : ∀ x, x ≠ 2 → (x < 127 + 8 * Z ∨ 127 + 8 * Z + 8 ≤ x) → (upd (upd (upd (upd (upd (upd (upd (upd (upd draft (127 + 8 * Z + 0) (nI v0)) (127 + 8 * Z + 1) (nI v1)) (127 + 8 * Z + 2) (nI v2)) (127 + 8 * Z + 3) (nI v3)) (127 + 8 * Z + 4) (nI v4)) (127 + 8 * Z + 5) (nI v5)) (127 + 8 * Z + 6) (-4)) (127 + 8 * Z + 7) (-4)) 2 (nI (Z + 1))) x = draft x := fun x x1 x2 => by
    rw [upd_ne _ _ x1, upd_ne _ _ (by omega), upd_ne _ _ (by omega), upd_ne _ _ (by omega), upd_ne _ _ (by omega), upd_ne _ _ (by omega), upd_ne _ _ (by omega), upd_ne _ _ (by omega), upd_ne _ _ (by omega)]
  have fm : ∀ m w, m < Z → w < 6 → (upd (upd (upd (upd (upd (upd lrows (Z * 6 + 0) (nI v0)) (Z * 6 + 1) (nI v1)) (Z * 6 + 2) (nI v2)) (Z * 6 + 3) (nI v3)) (Z * 6 + 4) (nI v4)) (Z * 6 + 5) (nI v5)) (m * 6 + w) = lrows (m * 6 + w) := fun m w q1 q2 => by
    rw [upd_ne _ _ (by omega), upd_ne _ _ (by omega), upd_ne _ _ (by omega), upd_ne _ _ (by omega), upd_ne _ _ (by omega), upd_ne _ _ (by omega)]
  have e0 : (upd (upd (upd (upd (upd (upd lrows (Z * 6 + 0) (nI v0)) (Z * 6 + 1) (nI v1)) (Z * 6 + 2) (nI v2)) (Z * 6 + 3) (nI v3)) (Z * 6 + 4) (nI v4)) (Z * 6 + 5) (nI v5)) (Z * 6 + 0) = nI v0 := by rw [upd_ne _ _ (by omega), upd_ne _ _ (by omega), upd_ne _ _ (by omega), upd_ne _ _ (by omega), upd_ne _ _ (by omega), upd_eq]
  have e1 : (upd (upd (upd (upd (upd (upd lrows (Z * 6 + 0) (nI v0)) (Z * 6 + 1) (nI v1)) (Z * 6 + 2) (nI v2)) (Z * 6 + 3) (nI v3)) (Z * 6 + 4) (nI v4)) (Z * 6 + 5) (nI v5)) (Z * 6 + 1) = nI v1 := by rw [upd_ne _ _ (by omega), upd_ne _ _ (by omega), upd_ne _ _ (by omega), upd_ne _ _ (by omega), upd_eq]
  have e2 : (upd (upd (upd (upd (upd (upd lrows (Z * 6 + 0) (nI v0)) (Z * 6 + 1) (nI v1)) (Z * 6 + 2) (nI v2)) (Z * 6 + 3) (nI v3)) (Z * 6 + 4) (nI v4)) (Z * 6 + 5) (nI v5)) (Z * 6 + 2) = nI v2 := by rw [upd_ne _ _ (by omega), upd_ne _ _ (by omega), upd_ne _ _ (by omega), upd_eq]
  have e3 : (upd (upd (upd (upd (upd (upd lrows (Z * 6 + 0) (nI v0)) (Z * 6 + 1) (nI v1)) (Z * 6 + 2) (nI v2)) (Z * 6 + 3) (nI v3)) (Z * 6 + 4) (nI v4)) (Z * 6 + 5) (nI v5)) (Z * 6 + 3) = nI v3 := by rw [upd_ne _ _ (by omega), upd_ne _ _ (by omega), upd_eq]
  have e4 : (upd (upd (upd (upd (upd (upd lrows (Z * 6 + 0) (nI v0)) (Z * 6 + 1) (nI v1)) (Z * 6 + 2) (nI v2)) (Z * 6 + 3) (nI v3)) (Z * 6 + 4) (nI v4)) (Z * 6 + 5) (nI v5)) (Z * 6 + 4) = nI v4 := by rw [upd_ne _ _ (by omega), upd_eq]
  have e5 : (upd (upd (upd (upd (upd (upd lrows (Z * 6 + 0) (nI v0)) (Z * 6 + 1) (nI v1)) (Z * 6 + 2) (nI v2)) (Z * 6 + 3) (nI v3)) (Z * 6 + 4) (nI v4)) (Z * 6 + 5) (nI v5)) (Z * 6 + 5) = nI v5 := by rw [upd_eq]
  refine ⟨⟨h1, h2, by omega, by omega⟩, ⟨by rw [fr _ (by omega) (by omega)]; exact d0, by rw [fr _ (by omega) (by omega)]; exact d1, upd_eq _ _ _⟩, fun n hn => by rw [fr _ (by omega) (by omega)]; exact r1 n hn, fun m w hmK hw => by rw [fr _ (by omega) (by omega)]; exact r2 m w hmK hw, fun l w hlZ hw => ?_, fun l hlZ => ?_, fun x x1 x2 x3 => by rw [fr _ (by omega) (by omega)]; exact r5 x x1 x2 x3, fun m hmK => ?_, fun l hlZ => ?_, ?_⟩
  · by_cases e : l = Z
    · subst e
      rcases (show w = 0 ∨ w = 1 ∨ w = 2 ∨ w = 3 ∨ w = 4 ∨ w = 5 by omega) with rfl | rfl | rfl | rfl | rfl | rfl
      · rw [e0, upd_ne _ _ (by omega), upd_ne _ _ (by omega), upd_ne _ _ (by omega), upd_ne _ _ (by omega), upd_ne _ _ (by omega), upd_ne _ _ (by omega), upd_ne _ _ (by omega), upd_ne _ _ (by omega), upd_eq]
      · rw [e1, upd_ne _ _ (by omega), upd_ne _ _ (by omega), upd_ne _ _ (by omega), upd_ne _ _ (by omega), upd_ne _ _ (by omega), upd_ne _ _ (by omega), upd_ne _ _ (by omega), upd_eq]
      · rw [e2, upd_ne _ _ (by omega), upd_ne _ _ (by omega), upd_ne _ _ (by omega), upd_ne _ _ (by omega), upd_ne _ _ (by omega), upd_ne _ _ (by omega), upd_eq]
      · rw [e3, upd_ne _ _ (by omega), upd_ne _ _ (by omega), upd_ne _ _ (by omega), upd_ne _ _ (by omega), upd_ne _ _ (by omega), upd_eq]
      · rw [e4, upd_ne _ _ (by omega), upd_ne _ _ (by omega), upd_ne _ _ (by omega), upd_ne _ _ (by omega), upd_eq]
      · rw [e5, upd_ne _ _ (by omega), upd_ne _ _ (by omega), upd_ne _ _ (by omega), upd_eq]
    · rw [fr _ (by omega) (by omega), fm l w (by omega) hw]
      exact r3 l w (by omega) hw
  · by_cases e : l = Z
    · subst e
      exact ⟨by rw [upd_ne _ _ (by omega), upd_ne _ _ (by omega), upd_eq], by rw [upd_ne _ _ (by omega), upd_eq]⟩
    · rw [fr _ (by omega) (by omega), fr _ (by omega) (by omega)]
      exact r4 l (by omega)
  · obtain ⟨t, a, b, q1, q2, q3, q4, q5⟩ := hm m hmK
    exact ⟨t, a, b, q1, q2, by omega, by omega, q5⟩
  · by_cases e : l = Z
    · subst e
      exact ⟨v0, v1, v2, v3, v4, v5, b0.1, b0.2, by omega, by omega, ne, b3.1, b3.2, b4.1, b4.2, b5.1, b5.2, e0, e1, e2, e3, e4, e5⟩
    · have fl := fm l
      have hlz : l < Z := by omega
      rw [fl 0 hlz (by omega), fl 1 hlz (by omega), fl 2 hlz (by omega), fl 3 hlz (by omega), fl 4 hlz (by omega), fl 5 hlz (by omega)]
      obtain ⟨t, a, b, z, u, y, q1, q2, q3, q4, q5⟩ := hl l hlz
      exact ⟨t, a, b, z, u, y, q1, q2, by omega, by omega, q5⟩
  · by_cases c2 : (max (max G (v1 + 1)) (v2 + 1)) = v2 + 1
    · exact Or.inr (Or.inr ⟨Z, by omega, Or.inr (by rw [e2, c2]; rfl)⟩)
    · by_cases c1 : (max (max G (v1 + 1)) (v2 + 1)) = v1 + 1
      · exact Or.inr (Or.inr ⟨Z, by omega, Or.inl (by rw [e1, c1]; rfl)⟩)
      · have c0 : (max (max G (v1 + 1)) (v2 + 1)) = G := by omega
        rw [c0]
        rcases hG with hG | q | ⟨m, hmK, e⟩
        · exact Or.inl hG
        · exact Or.inr (Or.inl q)
        · exact Or.inr (Or.inr ⟨m, by omega, by rw [fm m 1 hmK (by omega), fm m 2 hmK (by omega)]; exact e⟩)
end DP
theorem add_node {N : Nat} (hN : N < 8) (rooms : Nat → Int32) (v : Int32) : fX0_addNode (nI N) rooms v = some (nI (N + 1), upd rooms N v) := by
  unfold fX0_addNode
  rw [if_neg (show ¬ (8 : Int32) ≤ nI N from nI_ge (a := N) (b := 8) (by omega) (by omega)), gd_in (by omega) (by omega), nI_clamp (by omega), nm_s, nI_1]
theorem add_meeting {K : Nat} (hK : K < 24) (mrows : Nat → Int32) (v0 v1 v2 v3 : Nat) : fX0_addMeeting (nI K) mrows (nI v0) (nI v1) (nI v2) (nI v3) = some (nI (K + 1), (upd (upd (upd (upd mrows (K * 4 + 0) (nI v0)) (K * 4 + 1) (nI v1)) (K * 4 + 2) (nI v2)) (K * 4 + 3) (nI v3))) := by
  have e0 : (nI K * (4 : Int32)) + (0 : Int32) = nI (K * 4 + 0) := ix3 K 4 0
  have e1 : (nI K * (4 : Int32)) + (1 : Int32) = nI (K * 4 + 1) := ix3 K 4 1
  have e2 : (nI K * (4 : Int32)) + (2 : Int32) = nI (K * 4 + 2) := ix3 K 4 2
  have e3 : (nI K * (4 : Int32)) + (3 : Int32) = nI (K * 4 + 3) := ix3 K 4 3
  unfold fX0_addMeeting
  rw [if_neg (show ¬ (24 : Int32) ≤ nI K from nI_ge (a := K) (b := 24) (by omega) (by omega))]
  simp only [gd_at e0 (show K * 4 + 0 < 96 by omega) (show 96 < 2 ^ 31 by omega), cl_at e0 (show K * 4 + 0 < 2 ^ 31 by omega), gd_at e1 (show K * 4 + 1 < 96 by omega) (show 96 < 2 ^ 31 by omega), cl_at e1 (show K * 4 + 1 < 2 ^ 31 by omega), gd_at e2 (show K * 4 + 2 < 96 by omega) (show 96 < 2 ^ 31 by omega), cl_at e2 (show K * 4 + 2 < 2 ^ 31 by omega), gd_at e3 (show K * 4 + 3 < 96 by omega) (show 96 < 2 ^ 31 by omega), cl_at e3 (show K * 4 + 3 < 2 ^ 31 by omega), nm_s, nI_1]
/-- a line, on both sides -/
def LINE (L : Nat) (bytes tape ends words base : Nat → Int32) (e k s N K Z G : Nat) (rooms mrows lrows draft numbers : Nat → Int32) (fp br val : Int32) : Prop :=
  (∃ e' s' N' K' Z' G' rooms' mrows' lrows' draft' numbers' f' br' sp' hr' tk' vl', e < e' ∧ e' ≤ L ∧ fX2_readLine 0 fp (nI e) (nI k) (nI s) (nI N) (nI K) (nI Z) rooms mrows lrows (nI L) bytes numbers = some (0, fp, nI e', nI 3, nI s', nI N', nI K', nI Z', rooms', mrows', lrows', numbers') ∧ fX6_readsLine (nI L) 0 br (nI e) (nI s) (nI k) val (nI G) draft tape ends words = some (f', br', sp', hr', tk', vl', nI G', draft') ∧ LA L tape e' f' br' sp' hr' tk' vl' ∧ DR N' K' Z' G' rooms' mrows' lrows' draft' base) ∨
  (∃ c s' t q, 1 ≤ c ∧ c ≤ 5 ∧ fX2_readLine 0 fp (nI e) (nI k) (nI s) (nI N) (nI K) (nI Z) rooms mrows lrows (nI L) bytes numbers = some t ∧ t.1 = nI c ∧ t.2.1 = nI s' ∧ fX6_readsLine (nI L) 0 br (nI e) (nI s) (nI k) val (nI G) draft tape ends words = some q ∧ q.1 = nI c ∧ q.2.1 = nI s')
section LT
variable {L : Nat} {B : Nat → Nat} {bytes tape : Nat → Int32} {ends words base rooms mrows lrows draft : Nat → Int32}
theorem line_no {e k s N K Z G : Nat} (lb : fX2_lineBegun (nI e) (nI k) (nI s) bytes = some (-1)) (wn : fX6_wordNow (nI L) (nI e) (nI s) (nI k) tape ends words = some (-4)) (fp br val : Int32) (numbers : Nat → Int32) : LINE L bytes tape ends words base e k s N K Z G rooms mrows lrows draft numbers fp br val := by
  refine Or.inr ⟨2, s, (2, nI s, nI e, nI k, nI s, nI N, nI K, nI Z, rooms, mrows, lrows, numbers), (2, nI s, nI e, nI s, nI k, val, nI G, draft), by omega, by omega, by unfold fX2_readLine fX2_refuse; rw [lb, bd_s, if_pos (show (-1 : Int32) = -1 from rfl), bd_s], rfl, rfl, ?_, rfl, rfl⟩
  unfold fX6_readsLine
  rw [wn, bd_s, if_pos (show (-4 : Int32) = -4 from rfl), bd_s, m_must_0, bd_s]
  dsimp only
  rw [if_pos (show (0 : Int32) < 2 by decide), bd_s, m_must_1, bd_s]
  dsimp only
  rw [reads_f (show ¬ (2 : Int32) ≤ 0 by decide), bd_s]
  dsimp only
  rw [if_neg (show ¬ (2 : Int32) ≤ 0 by decide)]
theorem line_0 (h : TPE L B bytes tape) {e k s N K Z G : Nat} (he : e ≤ L) (lb : fX2_lineBegun (nI e) (nI k) (nI s) bytes = some (nI 0)) (wn : fX6_wordNow (nI L) (nI e) (nI s) (nI k) tape ends words = some (nI 0)) (hd : DR N K Z G rooms mrows lrows draft base) (fp br val : Int32) (numbers : Nat → Int32) : LINE L bytes tape ends words base e k s N K Z G rooms mrows lrows draft numbers fp br val := by
  have hL := h.1
  have hV : N ≤ 8 := hd.1.1
  have hG : G ≤ 8 := hd.1.2.2.2
  have dV : draft 0 = nI N := hd.2.1.1
  by_cases full : N = 8
  · have fl : fX2_isFull (nI N) (nI K) (nI Z) (nI 0) = some 1 := by
      unfold fX2_isFull
      rw [if_pos (show nI 0 = (0 : Int32) from rfl), if_neg (show ¬ nI N < (8 : Int32) by rw [full]; decide)]
    refine Or.inr ⟨4, s, (4, nI s, nI e, nI k, nI s, nI N, nI K, nI Z, rooms, mrows, lrows, numbers), (4, nI s, nI e, nI s, nI k, val, nI G, draft), by omega, by omega, ?_, rfl, rfl, ?_, rfl, rfl⟩
    · unfold fX2_readLine fX2_refuse
      rw [lb, bd_s, if_neg (show ¬ nI 0 = (-1 : Int32) by decide), fl, bd_s, if_neg n10, bd_s]
    · unfold fX6_readsLine
      simp only [wn, bd_s, if_neg (show ¬ nI 0 = (-4 : Int32) by decide), m_must_1, if_neg (show ¬ (0 : Int32) < 0 by decide), gd_in (show 0 < 831 by omega) (show 831 < 2 ^ 31 by omega), nI_clamp (show 0 < 2 ^ 31 by omega), if_pos (show nI 0 = (0 : Int32) from rfl), dV, if_pos (show (8 : Int32) ≤ nI N from by rw [full]; decide), m_must_0, reads_f (show ¬ (4 : Int32) ≤ 0 by decide), if_neg (show ¬ (4 : Int32) ≤ 0 by decide)]
  · have hlt : N < 8 := by omega
    have fl : fX2_isFull (nI N) (nI K) (nI Z) (nI 0) = some 0 := by
      unfold fX2_isFull
      rw [if_pos (show nI 0 = (0 : Int32) from rfl), if_pos (show nI N < (8 : Int32) from nI_lt (b := 8) hlt (by omega))]
    have nf : ¬ (8 : Int32) ≤ nI N := nI_ge (a := N) (b := 8) hlt (by omega)
    have rnI : ∀ t, fX2_readNumbersWithin 1 sv0 1 sv1 0 fp (nI e) (nI k) (nI s) (nI L) bytes numbers = some t → fX2_readNumbers 0 fp (nI e) (nI k) (nI s) (nI L) bytes numbers (nI 0) = some t := fun t q => by
      unfold fX2_readNumbers
      rw [if_pos (show nI 0 = (0 : Int32) from rfl), q, bd_s]
    have clsBad : ∀ t c s', ¬ nI c = 0 → fX2_readNumbersWithin 1 sv0 1 sv1 0 fp (nI e) (nI k) (nI s) (nI L) bytes numbers = some t → t.1 = nI c → t.2.1 = nI s' → ∃ t', fX2_readLine 0 fp (nI e) (nI k) (nI s) (nI N) (nI K) (nI Z) rooms mrows lrows (nI L) bytes numbers = some t' ∧ t'.1 = nI c ∧ t'.2.1 = nI s' := fun t c s' hc q q1 q2 => by
      unfold fX2_readLine
      rw [lb, bd_s, if_neg (show ¬ nI 0 = (-1 : Int32) by decide), fl, bd_s, if_pos p00, rnI t q, bd_s, q1, if_neg hc, q2]
      exact ⟨_, rfl, rfl, rfl⟩
    rcases lex_sim h he with ⟨s1, e1, k1, val1, g1, g2, g3, g4, g5, g6, g7, g8, g9⟩ | ⟨s1, g1, g2⟩
    · have hla : LA L tape e 0 br (nI e1) (nI s1) (nI k1) val1 := ⟨br, nI s, nI k, val, g6 br (nI s) (nI k) val⟩
      have rd := g6 br (nI s) (nI k) val
      have a0 : (23 : Int32) + nI N = nI (23 + N) := nI_add 23 N
      rcases num_step h he 0 99 (by omega) (by omega) hla with ⟨v0, s2, e2, u0, w0, y0, z0, tk0, nr0, f0, b0, p0, h0, t0, l0, m, hl0⟩ | ⟨c, s2, ca, cz, cb, p0, h0, t0, l0, m⟩
      · have m : fX6_number (nI L) 0 br (nI e1) (nI s1) (nI k1) val1 tape (0 : Int32) (99 : Int32) = some (nI v0, f0, b0, p0, h0, t0, l0) := m
        have c0 := cs_ok (L := L) (bytes := bytes) (n := 1) (i := 0) (lo := 0) (hi := 99) (by omega) (by omega) (f1 := sv0) (f2 := sv1) rfl rfl (by omega) ⟨u0, w0⟩ tk0 nr0 1999 fp (nI k) (nI s) (numbers := numbers) (fun z => absurd z (by decide))
        have rn := rnI _ (rnw_inr (c0.trans (cs_end (L := L) (bytes := bytes) (n := 1) (by omega) sv0 sv1 1998 fp (nI e2) (nI 2) (nI s2) (upd numbers 0 (nI v0)))))
        have tl : fX2_takeLine (nI N) (nI K) (nI Z) rooms mrows lrows (upd numbers 0 (nI v0)) (nI 0) = some (nI (N + 1), nI K, nI Z, upd rooms N (nI v0), mrows, lrows) := by
          unfold fX2_takeLine
          rw [if_pos (show nI 0 = (0 : Int32) from rfl), upd_eq, add_node hlt, bd_s]
        rcases sign_step h z0 hl0 with ⟨s3, e3, y3, z3, tk3, w, f2, br2, f', br', sp', hr', tk', vl', x1, x2, x3, hl3⟩ | ⟨c, s3, ca, cz, cb, w, f2, br2, q, x1, x2, x3, x4, x5⟩
        · refine Or.inl ⟨e3, s3, N + 1, K, Z, G, _, _, _, _, (upd numbers 0 (nI v0)), f', br', sp', hr', tk', vl', by omega, z3, ?_, ?_, hl3, DR_node hd hlt v0⟩
          · unfold fX2_readLine
            rw [lb, bd_s, if_neg (show ¬ nI 0 = (-1 : Int32) by decide), fl, bd_s, if_pos p00, rn, bd_s, if_pos p00, tk3, bd_s, if_pos p00, if_pos (show nI 3 = 3 from rfl), tl, bd_s]
          · unfold fX6_readsLine
            simp only [wn, bd_s, if_neg (show ¬ nI 0 = (-4 : Int32) by decide), m_must_1, if_neg (show ¬ (0 : Int32) < 0 by decide), gd_in (show 0 < 831 by omega) (show 831 < 2 ^ 31 by omega), nI_clamp (show 0 < 2 ^ 31 by omega), if_pos (show nI 0 = (0 : Int32) from rfl), dV, if_neg nf, rd, if_pos (show (0 : Int32) ≤ 0 by decide), m, dV, a0, gd_in (show 23 + N < 831 by omega) (show 831 < 2 ^ 31 by omega), nI_clamp (show 23 + N < 2 ^ 31 by omega), nm_s, upd_ne _ _ (show 0 ≠ 23 + N by omega), nI_1 N, x1, x2, x3]
        · have mr : ∃ q', fX6_readsLine (nI L) 0 br (nI e) (nI s) (nI k) val (nI G) draft tape ends words = some q' ∧ q'.1 = nI c ∧ q'.2.1 = nI s3 := by
            unfold fX6_readsLine
            simp only [wn, bd_s, if_neg (show ¬ nI 0 = (-4 : Int32) by decide), m_must_1, if_neg (show ¬ (0 : Int32) < 0 by decide), gd_in (show 0 < 831 by omega) (show 831 < 2 ^ 31 by omega), nI_clamp (show 0 < 2 ^ 31 by omega), if_pos (show nI 0 = (0 : Int32) from rfl), dV, if_neg nf, rd, if_pos (show (0 : Int32) ≤ 0 by decide), m, dV, a0, gd_in (show 23 + N < 831 by omega) (show 831 < 2 ^ 31 by omega), nI_clamp (show 23 + N < 2 ^ 31 by omega), nm_s, upd_ne _ _ (show 0 ≠ 23 + N by omega), nI_1 N, x1, x2, x3]
            exact ⟨_, rfl, x4, x5⟩
          have cr : ∃ t, fX2_readLine 0 fp (nI e) (nI k) (nI s) (nI N) (nI K) (nI Z) rooms mrows lrows (nI L) bytes numbers = some t ∧ t.1 = nI c ∧ t.2.1 = nI s3 := by
            unfold fX2_readLine fX2_refuse
            rcases cb with ⟨rfl, cb⟩ | ⟨rfl, e4, k4, d3, d4, cb⟩
            · obtain ⟨x, y, cb⟩ := cb fp (nI 2) (nI s2)
              rw [lb, bd_s, if_neg (show ¬ nI 0 = (-1 : Int32) by decide), fl, bd_s, if_pos p00, rn, bd_s, if_pos p00, cb, bd_s, if_neg n10]
              exact ⟨_, rfl, rfl, rfl⟩
            · rw [lb, bd_s, if_neg (show ¬ nI 0 = (-1 : Int32) by decide), fl, bd_s, if_pos p00, rn, bd_s, if_pos p00, cb, bd_s, if_pos p00, if_neg (show ¬ nI k4 = 3 from fun z => d3 (nI_inj (b := 3) (by omega) (by omega) z)), bd_s]
              exact ⟨_, rfl, rfl, rfl⟩
          obtain ⟨t, t1, t2, t3⟩ := cr
          obtain ⟨q4, t4, t5, t6⟩ := mr
          exact Or.inr ⟨c, s3, t, q4, ca, by omega, t1, t2, t3, t4, t5, t6⟩
      · have m : fX6_number (nI L) 0 br (nI e1) (nI s1) (nI k1) val1 tape (0 : Int32) (99 : Int32) = some (0, nI c, nI s2, p0, h0, t0, l0) := m
        obtain ⟨t, q1, q2, q3⟩ := cs_bad (L := L) (bytes := bytes) (n := 1) (i := 0) (lo := 0) (hi := 99) (by omega) (by omega) (f1 := sv0) (f2 := sv1) rfl rfl (by omega) (by omega) cb 1999 fp (nI k) (nI s) numbers
        obtain ⟨a1, a2, a3⟩ := ne_le ca (show c ≤ 9 by omega)
        obtain ⟨t', t1, t2, t3⟩ := clsBad t c s2 a1 (rnw_inl q1) q2 q3
        have mr : ∃ q', fX6_readsLine (nI L) 0 br (nI e) (nI s) (nI k) val (nI G) draft tape ends words = some q' ∧ q'.1 = nI c ∧ q'.2.1 = nI s2 := by
          unfold fX6_readsLine
          simp only [wn, bd_s, if_neg (show ¬ nI 0 = (-4 : Int32) by decide), m_must_1, if_neg (show ¬ (0 : Int32) < 0 by decide), gd_in (show 0 < 831 by omega) (show 831 < 2 ^ 31 by omega), nI_clamp (show 0 < 2 ^ 31 by omega), if_pos (show nI 0 = (0 : Int32) from rfl), dV, if_neg nf, rd, if_pos (show (0 : Int32) ≤ 0 by decide), m, dV, a0, gd_in (show 23 + N < 831 by omega) (show 831 < 2 ^ 31 by omega), nI_clamp (show 23 + N < 2 ^ 31 by omega), nm_s, upd_ne _ _ (show 0 ≠ 23 + N by omega), nI_1 N, if_pos a3, m_must_f a1, reads_f a2]
          exact ⟨_, rfl, rfl, rfl⟩
        obtain ⟨q4, t4, t5, t6⟩ := mr
        exact Or.inr ⟨c, s2, t', q4, ca, by omega, t1, t2, t3, t4, t5, t6⟩
    · obtain ⟨a, b, c, d, g⟩ := g2 br (nI s) (nI k) val
      have cb : CB L bytes e 0 99 1 s1 := Or.inl ⟨rfl, g1⟩
      obtain ⟨t, q1, q2, q3⟩ := cs_bad (L := L) (bytes := bytes) (n := 1) (i := 0) (lo := 0) (hi := 99) (by omega) (by omega) (f1 := sv0) (f2 := sv1) rfl rfl (by omega) (by omega) cb 1999 fp (nI k) (nI s) numbers
      obtain ⟨t', t1, t2, t3⟩ := clsBad t 1 s1 (by decide) (rnw_inl q1) q2 q3
      refine Or.inr ⟨1, s1, t', (1, nI s1, a, b, c, d, nI G, draft), by omega, by omega, t1, t2, t3, ?_, rfl, rfl⟩
      unfold fX6_readsLine
      simp only [wn, bd_s, if_neg (show ¬ nI 0 = (-4 : Int32) by decide), m_must_1, if_neg (show ¬ (0 : Int32) < 0 by decide), gd_in (show 0 < 831 by omega) (show 831 < 2 ^ 31 by omega), nI_clamp (show 0 < 2 ^ 31 by omega), if_pos (show nI 0 = (0 : Int32) from rfl), dV, if_neg nf, g, if_neg (show ¬ (1 : Int32) ≤ 0 by decide)]
theorem line_1 (h : TPE L B bytes tape) {e k s N K Z G : Nat} (he : e ≤ L) (lb : fX2_lineBegun (nI e) (nI k) (nI s) bytes = some (nI 1)) (wn : fX6_wordNow (nI L) (nI e) (nI s) (nI k) tape ends words = some (nI 1)) (hd : DR N K Z G rooms mrows lrows draft base) (fp br val : Int32) (numbers : Nat → Int32) : LINE L bytes tape ends words base e k s N K Z G rooms mrows lrows draft numbers fp br val := by
  have hL := h.1
  have hV : K ≤ 24 := hd.1.2.1
  have hG : G ≤ 8 := hd.1.2.2.2
  have dV : draft 1 = nI K := hd.2.1.2.1
  by_cases full : K = 24
  · have fl : fX2_isFull (nI N) (nI K) (nI Z) (nI 1) = some 1 := by
      unfold fX2_isFull
      rw [if_neg (show ¬ nI 1 = (0 : Int32) by decide), if_pos (show nI 1 = (1 : Int32) from rfl), if_neg (show ¬ nI K < (24 : Int32) by rw [full]; decide)]
    refine Or.inr ⟨4, s, (4, nI s, nI e, nI k, nI s, nI N, nI K, nI Z, rooms, mrows, lrows, numbers), (4, nI s, nI e, nI s, nI k, val, nI G, draft), by omega, by omega, ?_, rfl, rfl, ?_, rfl, rfl⟩
    · unfold fX2_readLine fX2_refuse
      rw [lb, bd_s, if_neg (show ¬ nI 1 = (-1 : Int32) by decide), fl, bd_s, if_neg n10, bd_s]
    · unfold fX6_readsLine
      simp only [wn, bd_s, if_neg (show ¬ nI 1 = (-4 : Int32) by decide), m_must_1, if_neg (show ¬ (0 : Int32) < 0 by decide), gd_in (show 1 < 831 by omega) (show 831 < 2 ^ 31 by omega), nI_clamp (show 1 < 2 ^ 31 by omega), if_neg (show ¬ nI 1 = (0 : Int32) by decide), if_pos (show nI 1 = (1 : Int32) from rfl), dV, if_pos (show (24 : Int32) ≤ nI K from by rw [full]; decide), m_must_0, reads_f (show ¬ (4 : Int32) ≤ 0 by decide), if_neg (show ¬ (4 : Int32) ≤ 0 by decide)]
  · have hlt : K < 24 := by omega
    have fl : fX2_isFull (nI N) (nI K) (nI Z) (nI 1) = some 0 := by
      unfold fX2_isFull
      rw [if_neg (show ¬ nI 1 = (0 : Int32) by decide), if_pos (show nI 1 = (1 : Int32) from rfl), if_pos (show nI K < (24 : Int32) from nI_lt (b := 24) hlt (by omega))]
    have nf : ¬ (24 : Int32) ≤ nI K := nI_ge (a := K) (b := 24) hlt (by omega)
    have rnI : ∀ t, fX2_readNumbersWithin 4 sv2 4 sv3 0 fp (nI e) (nI k) (nI s) (nI L) bytes numbers = some t → fX2_readNumbers 0 fp (nI e) (nI k) (nI s) (nI L) bytes numbers (nI 1) = some t := fun t q => by
      unfold fX2_readNumbers
      rw [if_neg (show ¬ nI 1 = (0 : Int32) by decide), if_pos (show nI 1 = (1 : Int32) from rfl), q, bd_s]
    have clsBad : ∀ t c s', ¬ nI c = 0 → fX2_readNumbersWithin 4 sv2 4 sv3 0 fp (nI e) (nI k) (nI s) (nI L) bytes numbers = some t → t.1 = nI c → t.2.1 = nI s' → ∃ t', fX2_readLine 0 fp (nI e) (nI k) (nI s) (nI N) (nI K) (nI Z) rooms mrows lrows (nI L) bytes numbers = some t' ∧ t'.1 = nI c ∧ t'.2.1 = nI s' := fun t c s' hc q q1 q2 => by
      unfold fX2_readLine
      rw [lb, bd_s, if_neg (show ¬ nI 1 = (-1 : Int32) by decide), fl, bd_s, if_pos p00, rnI t q, bd_s, q1, if_neg hc, q2]
      exact ⟨_, rfl, rfl, rfl⟩
    rcases lex_sim h he with ⟨s1, e1, k1, val1, g1, g2, g3, g4, g5, g6, g7, g8, g9⟩ | ⟨s1, g1, g2⟩
    · have hla : LA L tape e 0 br (nI e1) (nI s1) (nI k1) val1 := ⟨br, nI s, nI k, val, g6 br (nI s) (nI k) val⟩
      have rd := g6 br (nI s) (nI k) val
      rcases meet_line h he hlt hG dV hla fp (nI k) (nI s) numbers with ⟨v0, v1, v2, v3, s2, e2, ⟨u0, w0, u1, w1, u2, w2, u3, w3, ne⟩, y0, z0, rn, f0, b0, p0, h0, t0, l0, m, hl0⟩ | ⟨c, s2, t, q, ca, cz, q1, q2, q3, m, r2, r3⟩
      · have rn := rnI _ rn
        have tl : fX2_takeLine (nI N) (nI K) (nI Z) rooms mrows lrows (upd (upd (upd (upd numbers 0 (nI v0)) 1 (nI v1)) 2 (nI v2)) 3 (nI v3)) (nI 1) = some (nI N, nI (K + 1), nI Z, rooms, (upd (upd (upd (upd mrows (K * 4 + 0) (nI v0)) (K * 4 + 1) (nI v1)) (K * 4 + 2) (nI v2)) (K * 4 + 3) (nI v3)), lrows) := by
          unfold fX2_takeLine
          rw [if_neg (show ¬ nI 1 = (0 : Int32) by decide), if_pos (show nI 1 = (1 : Int32) from rfl)]
          exact (congrArg (fun z => bd z _) (add_meeting hlt mrows v0 v1 v2 v3)).trans rfl
        rcases sign_step h z0 hl0 with ⟨s3, e3, y3, z3, tk3, w, f2, br2, f', br', sp', hr', tk', vl', x1, x2, x3, hl3⟩ | ⟨c, s3, ca, cz, cb, w, f2, br2, q, x1, x2, x3, x4, x5⟩
        · refine Or.inl ⟨e3, s3, N, K + 1, Z, (max (max G (v1 + 1)) (v2 + 1)), _, _, _, _, (upd (upd (upd (upd numbers 0 (nI v0)) 1 (nI v1)) 2 (nI v2)) 3 (nI v3)), f', br', sp', hr', tk', vl', by omega, z3, ?_, ?_, hl3, DR_meet hd hlt v3 ⟨u0, w0⟩ w1 w2 ne⟩
          · unfold fX2_readLine
            rw [lb, bd_s, if_neg (show ¬ nI 1 = (-1 : Int32) by decide), fl, bd_s, if_pos p00, rn, bd_s, if_pos p00, tk3, bd_s, if_pos p00, if_pos (show nI 3 = 3 from rfl), tl, bd_s]
          · unfold fX6_readsLine
            simp only [wn, bd_s, if_neg (show ¬ nI 1 = (-4 : Int32) by decide), m_must_1, if_neg (show ¬ (0 : Int32) < 0 by decide), gd_in (show 1 < 831 by omega) (show 831 < 2 ^ 31 by omega), nI_clamp (show 1 < 2 ^ 31 by omega), if_neg (show ¬ nI 1 = (0 : Int32) by decide), if_pos (show nI 1 = (1 : Int32) from rfl), dV, if_neg nf, rd, if_pos (show (0 : Int32) ≤ 0 by decide), m, x1, x2, x3]
        · have mr : ∃ q', fX6_readsLine (nI L) 0 br (nI e) (nI s) (nI k) val (nI G) draft tape ends words = some q' ∧ q'.1 = nI c ∧ q'.2.1 = nI s3 := by
            unfold fX6_readsLine
            simp only [wn, bd_s, if_neg (show ¬ nI 1 = (-4 : Int32) by decide), m_must_1, if_neg (show ¬ (0 : Int32) < 0 by decide), gd_in (show 1 < 831 by omega) (show 831 < 2 ^ 31 by omega), nI_clamp (show 1 < 2 ^ 31 by omega), if_neg (show ¬ nI 1 = (0 : Int32) by decide), if_pos (show nI 1 = (1 : Int32) from rfl), dV, if_neg nf, rd, if_pos (show (0 : Int32) ≤ 0 by decide), m, x1, x2, x3]
            exact ⟨_, rfl, x4, x5⟩
          have cr : ∃ t, fX2_readLine 0 fp (nI e) (nI k) (nI s) (nI N) (nI K) (nI Z) rooms mrows lrows (nI L) bytes numbers = some t ∧ t.1 = nI c ∧ t.2.1 = nI s3 := by
            unfold fX2_readLine fX2_refuse
            rcases cb with ⟨rfl, cb⟩ | ⟨rfl, e4, k4, d3, d4, cb⟩
            · obtain ⟨x, y, cb⟩ := cb fp (nI 2) (nI s2)
              rw [lb, bd_s, if_neg (show ¬ nI 1 = (-1 : Int32) by decide), fl, bd_s, if_pos p00, rn, bd_s, if_pos p00, cb, bd_s, if_neg n10]
              exact ⟨_, rfl, rfl, rfl⟩
            · rw [lb, bd_s, if_neg (show ¬ nI 1 = (-1 : Int32) by decide), fl, bd_s, if_pos p00, rn, bd_s, if_pos p00, cb, bd_s, if_pos p00, if_neg (show ¬ nI k4 = 3 from fun z => d3 (nI_inj (b := 3) (by omega) (by omega) z)), bd_s]
              exact ⟨_, rfl, rfl, rfl⟩
          obtain ⟨t, t1, t2, t3⟩ := cr
          obtain ⟨q4, t4, t5, t6⟩ := mr
          exact Or.inr ⟨c, s3, t, q4, ca, by omega, t1, t2, t3, t4, t5, t6⟩
      · obtain ⟨a1, a2, a3⟩ := ne_le ca (show c ≤ 9 by omega)
        obtain ⟨t', t1, t2, t3⟩ := clsBad t c s2 a1 q1 q2 q3
        have mr : ∃ q', fX6_readsLine (nI L) 0 br (nI e) (nI s) (nI k) val (nI G) draft tape ends words = some q' ∧ q'.1 = nI c ∧ q'.2.1 = nI s2 := by
          unfold fX6_readsLine
          simp only [wn, bd_s, if_neg (show ¬ nI 1 = (-4 : Int32) by decide), m_must_1, if_neg (show ¬ (0 : Int32) < 0 by decide), gd_in (show 1 < 831 by omega) (show 831 < 2 ^ 31 by omega), nI_clamp (show 1 < 2 ^ 31 by omega), if_neg (show ¬ nI 1 = (0 : Int32) by decide), if_pos (show nI 1 = (1 : Int32) from rfl), dV, if_neg nf, rd, if_pos (show (0 : Int32) ≤ 0 by decide), m, r2, r3, if_pos a3, m_must_f a1, reads_f a2]
          exact ⟨_, rfl, rfl, rfl⟩
        obtain ⟨q4, t4, t5, t6⟩ := mr
        exact Or.inr ⟨c, s2, t', q4, ca, by omega, t1, t2, t3, t4, t5, t6⟩
    · obtain ⟨a, b, c, d, g⟩ := g2 br (nI s) (nI k) val
      have cb : CB L bytes e 1 99 1 s1 := Or.inl ⟨rfl, g1⟩
      obtain ⟨t, q1, q2, q3⟩ := cs_bad (L := L) (bytes := bytes) (n := 4) (i := 0) (lo := 1) (hi := 99) (by omega) (by omega) (f1 := sv2) (f2 := sv3) rfl rfl (by omega) (by omega) cb 1999 fp (nI k) (nI s) numbers
      obtain ⟨t', t1, t2, t3⟩ := clsBad t 1 s1 (by decide) (rnw_inl q1) q2 q3
      refine Or.inr ⟨1, s1, t', (1, nI s1, a, b, c, d, nI G, draft), by omega, by omega, t1, t2, t3, ?_, rfl, rfl⟩
      unfold fX6_readsLine
      simp only [wn, bd_s, if_neg (show ¬ nI 1 = (-4 : Int32) by decide), m_must_1, if_neg (show ¬ (0 : Int32) < 0 by decide), gd_in (show 1 < 831 by omega) (show 831 < 2 ^ 31 by omega), nI_clamp (show 1 < 2 ^ 31 by omega), if_neg (show ¬ nI 1 = (0 : Int32) by decide), if_pos (show nI 1 = (1 : Int32) from rfl), dV, if_neg nf, g, if_neg (show ¬ (1 : Int32) ≤ 0 by decide)]
theorem line_2 (h : TPE L B bytes tape) {e k s N K Z G : Nat} (he : e ≤ L) (lb : fX2_lineBegun (nI e) (nI k) (nI s) bytes = some (nI 2)) (wn : fX6_wordNow (nI L) (nI e) (nI s) (nI k) tape ends words = some (nI 2)) (hd : DR N K Z G rooms mrows lrows draft base) (fp br val : Int32) (numbers : Nat → Int32) : LINE L bytes tape ends words base e k s N K Z G rooms mrows lrows draft numbers fp br val := by
  have hL := h.1
  have hV : Z ≤ 16 := hd.1.2.2.1
  have hG : G ≤ 8 := hd.1.2.2.2
  have dV : draft 2 = nI Z := hd.2.1.2.2
  by_cases full : Z = 16
  · have fl : fX2_isFull (nI N) (nI K) (nI Z) (nI 2) = some 1 := by
      unfold fX2_isFull
      rw [if_neg (show ¬ nI 2 = (0 : Int32) by decide), if_neg (show ¬ nI 2 = (1 : Int32) by decide), if_neg (show ¬ nI Z < (16 : Int32) by rw [full]; decide)]
    refine Or.inr ⟨4, s, (4, nI s, nI e, nI k, nI s, nI N, nI K, nI Z, rooms, mrows, lrows, numbers), (4, nI s, nI e, nI s, nI k, val, nI G, draft), by omega, by omega, ?_, rfl, rfl, ?_, rfl, rfl⟩
    · unfold fX2_readLine fX2_refuse
      rw [lb, bd_s, if_neg (show ¬ nI 2 = (-1 : Int32) by decide), fl, bd_s, if_neg n10, bd_s]
    · unfold fX6_readsLine
      simp only [wn, bd_s, if_neg (show ¬ nI 2 = (-4 : Int32) by decide), m_must_1, if_neg (show ¬ (0 : Int32) < 0 by decide), gd_in (show 2 < 831 by omega) (show 831 < 2 ^ 31 by omega), nI_clamp (show 2 < 2 ^ 31 by omega), if_neg (show ¬ nI 2 = (0 : Int32) by decide), if_neg (show ¬ nI 2 = (1 : Int32) by decide), dV, if_pos (show (16 : Int32) ≤ nI Z from by rw [full]; decide), m_must_0, reads_f (show ¬ (4 : Int32) ≤ 0 by decide), if_neg (show ¬ (4 : Int32) ≤ 0 by decide)]
  · have hlt : Z < 16 := by omega
    have fl : fX2_isFull (nI N) (nI K) (nI Z) (nI 2) = some 0 := by
      unfold fX2_isFull
      rw [if_neg (show ¬ nI 2 = (0 : Int32) by decide), if_neg (show ¬ nI 2 = (1 : Int32) by decide), if_pos (show nI Z < (16 : Int32) from nI_lt (b := 16) hlt (by omega))]
    have nf : ¬ (16 : Int32) ≤ nI Z := nI_ge (a := Z) (b := 16) hlt (by omega)
    have rnI : ∀ t, fX2_readNumbersWithin 6 sv4 6 sv5 0 fp (nI e) (nI k) (nI s) (nI L) bytes numbers = some t → fX2_readNumbers 0 fp (nI e) (nI k) (nI s) (nI L) bytes numbers (nI 2) = some t := fun t q => by
      unfold fX2_readNumbers
      rw [if_neg (show ¬ nI 2 = (0 : Int32) by decide), if_neg (show ¬ nI 2 = (1 : Int32) by decide), q, bd_s]
    have clsBad : ∀ t c s', ¬ nI c = 0 → fX2_readNumbersWithin 6 sv4 6 sv5 0 fp (nI e) (nI k) (nI s) (nI L) bytes numbers = some t → t.1 = nI c → t.2.1 = nI s' → ∃ t', fX2_readLine 0 fp (nI e) (nI k) (nI s) (nI N) (nI K) (nI Z) rooms mrows lrows (nI L) bytes numbers = some t' ∧ t'.1 = nI c ∧ t'.2.1 = nI s' := fun t c s' hc q q1 q2 => by
      unfold fX2_readLine
      rw [lb, bd_s, if_neg (show ¬ nI 2 = (-1 : Int32) by decide), fl, bd_s, if_pos p00, rnI t q, bd_s, q1, if_neg hc, q2]
      exact ⟨_, rfl, rfl, rfl⟩
    rcases lex_sim h he with ⟨s1, e1, k1, val1, g1, g2, g3, g4, g5, g6, g7, g8, g9⟩ | ⟨s1, g1, g2⟩
    · have hla : LA L tape e 0 br (nI e1) (nI s1) (nI k1) val1 := ⟨br, nI s, nI k, val, g6 br (nI s) (nI k) val⟩
      have rd := g6 br (nI s) (nI k) val
      rcases letter_line h he hlt hG dV hla fp (nI k) (nI s) numbers with ⟨v0, v1, v2, v3, v4, v5, s2, e2, ⟨u0, w0, u1, w1, u2, w2, u3, w3, u4, w4, u5, w5, ne⟩, y0, z0, rn, f0, b0, p0, h0, t0, l0, m, hl0⟩ | ⟨c, s2, t, q, ca, cz, q1, q2, q3, m, r2, r3⟩
      · have rn := rnI _ rn
        have tl : fX2_takeLine (nI N) (nI K) (nI Z) rooms mrows lrows (upd (upd (upd (upd (upd (upd numbers 0 (nI v0)) 1 (nI v1)) 2 (nI v2)) 3 (nI v3)) 4 (nI v4)) 5 (nI v5)) (nI 2) = some (nI N, nI K, nI (Z + 1), rooms, mrows, (upd (upd (upd (upd (upd (upd lrows (Z * 6 + 0) (nI v0)) (Z * 6 + 1) (nI v1)) (Z * 6 + 2) (nI v2)) (Z * 6 + 3) (nI v3)) (Z * 6 + 4) (nI v4)) (Z * 6 + 5) (nI v5))) := by
          unfold fX2_takeLine
          rw [if_neg (show ¬ nI 2 = (0 : Int32) by decide), if_neg (show ¬ nI 2 = (1 : Int32) by decide)]
          exact (congrArg (fun z => bd z _) (add_letter hlt lrows v0 v1 v2 v3 v4 v5)).trans rfl
        rcases sign_step h z0 hl0 with ⟨s3, e3, y3, z3, tk3, w, f2, br2, f', br', sp', hr', tk', vl', x1, x2, x3, hl3⟩ | ⟨c, s3, ca, cz, cb, w, f2, br2, q, x1, x2, x3, x4, x5⟩
        · refine Or.inl ⟨e3, s3, N, K, Z + 1, (max (max G (v1 + 1)) (v2 + 1)), _, _, _, _, (upd (upd (upd (upd (upd (upd numbers 0 (nI v0)) 1 (nI v1)) 2 (nI v2)) 3 (nI v3)) 4 (nI v4)) 5 (nI v5)), f', br', sp', hr', tk', vl', by omega, z3, ?_, ?_, hl3, DR_letter hd hlt ⟨u0, w0⟩ w1 w2 ⟨u3, w3⟩ ⟨u4, w4⟩ ⟨u5, w5⟩ ne⟩
          · unfold fX2_readLine
            rw [lb, bd_s, if_neg (show ¬ nI 2 = (-1 : Int32) by decide), fl, bd_s, if_pos p00, rn, bd_s, if_pos p00, tk3, bd_s, if_pos p00, if_pos (show nI 3 = 3 from rfl), tl, bd_s]
          · unfold fX6_readsLine
            simp only [wn, bd_s, if_neg (show ¬ nI 2 = (-4 : Int32) by decide), m_must_1, if_neg (show ¬ (0 : Int32) < 0 by decide), gd_in (show 2 < 831 by omega) (show 831 < 2 ^ 31 by omega), nI_clamp (show 2 < 2 ^ 31 by omega), if_neg (show ¬ nI 2 = (0 : Int32) by decide), if_neg (show ¬ nI 2 = (1 : Int32) by decide), dV, if_neg nf, rd, if_pos (show (0 : Int32) ≤ 0 by decide), m, x1, x2, x3]
        · have mr : ∃ q', fX6_readsLine (nI L) 0 br (nI e) (nI s) (nI k) val (nI G) draft tape ends words = some q' ∧ q'.1 = nI c ∧ q'.2.1 = nI s3 := by
            unfold fX6_readsLine
            simp only [wn, bd_s, if_neg (show ¬ nI 2 = (-4 : Int32) by decide), m_must_1, if_neg (show ¬ (0 : Int32) < 0 by decide), gd_in (show 2 < 831 by omega) (show 831 < 2 ^ 31 by omega), nI_clamp (show 2 < 2 ^ 31 by omega), if_neg (show ¬ nI 2 = (0 : Int32) by decide), if_neg (show ¬ nI 2 = (1 : Int32) by decide), dV, if_neg nf, rd, if_pos (show (0 : Int32) ≤ 0 by decide), m, x1, x2, x3]
            exact ⟨_, rfl, x4, x5⟩
          have cr : ∃ t, fX2_readLine 0 fp (nI e) (nI k) (nI s) (nI N) (nI K) (nI Z) rooms mrows lrows (nI L) bytes numbers = some t ∧ t.1 = nI c ∧ t.2.1 = nI s3 := by
            unfold fX2_readLine fX2_refuse
            rcases cb with ⟨rfl, cb⟩ | ⟨rfl, e4, k4, d3, d4, cb⟩
            · obtain ⟨x, y, cb⟩ := cb fp (nI 2) (nI s2)
              rw [lb, bd_s, if_neg (show ¬ nI 2 = (-1 : Int32) by decide), fl, bd_s, if_pos p00, rn, bd_s, if_pos p00, cb, bd_s, if_neg n10]
              exact ⟨_, rfl, rfl, rfl⟩
            · rw [lb, bd_s, if_neg (show ¬ nI 2 = (-1 : Int32) by decide), fl, bd_s, if_pos p00, rn, bd_s, if_pos p00, cb, bd_s, if_pos p00, if_neg (show ¬ nI k4 = 3 from fun z => d3 (nI_inj (b := 3) (by omega) (by omega) z)), bd_s]
              exact ⟨_, rfl, rfl, rfl⟩
          obtain ⟨t, t1, t2, t3⟩ := cr
          obtain ⟨q4, t4, t5, t6⟩ := mr
          exact Or.inr ⟨c, s3, t, q4, ca, by omega, t1, t2, t3, t4, t5, t6⟩
      · obtain ⟨a1, a2, a3⟩ := ne_le ca (show c ≤ 9 by omega)
        obtain ⟨t', t1, t2, t3⟩ := clsBad t c s2 a1 q1 q2 q3
        have mr : ∃ q', fX6_readsLine (nI L) 0 br (nI e) (nI s) (nI k) val (nI G) draft tape ends words = some q' ∧ q'.1 = nI c ∧ q'.2.1 = nI s2 := by
          unfold fX6_readsLine
          simp only [wn, bd_s, if_neg (show ¬ nI 2 = (-4 : Int32) by decide), m_must_1, if_neg (show ¬ (0 : Int32) < 0 by decide), gd_in (show 2 < 831 by omega) (show 831 < 2 ^ 31 by omega), nI_clamp (show 2 < 2 ^ 31 by omega), if_neg (show ¬ nI 2 = (0 : Int32) by decide), if_neg (show ¬ nI 2 = (1 : Int32) by decide), dV, if_neg nf, rd, if_pos (show (0 : Int32) ≤ 0 by decide), m, r2, r3, if_pos a3, m_must_f a1, reads_f a2]
          exact ⟨_, rfl, rfl, rfl⟩
        obtain ⟨q4, t4, t5, t6⟩ := mr
        exact Or.inr ⟨c, s2, t', q4, ca, by omega, t1, t2, t3, t4, t5, t6⟩
    · obtain ⟨a, b, c, d, g⟩ := g2 br (nI s) (nI k) val
      have cb : CB L bytes e 1 99 1 s1 := Or.inl ⟨rfl, g1⟩
      obtain ⟨t, q1, q2, q3⟩ := cs_bad (L := L) (bytes := bytes) (n := 6) (i := 0) (lo := 1) (hi := 99) (by omega) (by omega) (f1 := sv4) (f2 := sv5) rfl rfl (by omega) (by omega) cb 1999 fp (nI k) (nI s) numbers
      obtain ⟨t', t1, t2, t3⟩ := clsBad t 1 s1 (by decide) (rnw_inl q1) q2 q3
      refine Or.inr ⟨1, s1, t', (1, nI s1, a, b, c, d, nI G, draft), by omega, by omega, t1, t2, t3, ?_, rfl, rfl⟩
      unfold fX6_readsLine
      simp only [wn, bd_s, if_neg (show ¬ nI 2 = (-4 : Int32) by decide), m_must_1, if_neg (show ¬ (0 : Int32) < 0 by decide), gd_in (show 2 < 831 by omega) (show 831 < 2 ^ 31 by omega), nI_clamp (show 2 < 2 ^ 31 by omega), if_neg (show ¬ nI 2 = (0 : Int32) by decide), if_neg (show ¬ nI 2 = (1 : Int32) by decide), dV, if_neg nf, g, if_neg (show ¬ (1 : Int32) ≤ 0 by decide)]
end LT
