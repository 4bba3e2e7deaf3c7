section PZ
variable {N K Z C : Nat} {rooms mrows lrows rules counts refused tokens hops since notes lasts dAt dHops : Nat → Int32} {page : Nat → Int32} {rooms2 mrows2 lrows2 rules2 counts2 refused2 tokens2 hops2 since2 notes2 lasts2 dAt2 dHops2 page2 : Nat → Int32}
theorem IW_ext (h : IW N K Z C rooms mrows lrows rules counts refused tokens hops since notes lasts dAt dHops page) (e0 : ∀ i, i < 8 → rooms2 i = rooms i) (e1 : ∀ i, i < 96 → mrows2 i = mrows i) (e2 : ∀ i, i < 96 → lrows2 i = lrows i) (e3 : ∀ i, i < 4 → rules2 i = rules i) (e4 : ∀ i, i < 8 → counts2 i = counts i) (e5 : ∀ i, i < 6 → refused2 i = refused i) (e6 : ∀ i, i < 128 → tokens2 i = tokens i) (e7 : ∀ i, i < 128 → hops2 i = hops i) (e8 : ∀ i, i < 128 → since2 i = since i) (e9 : ∀ i, i < 8 → notes2 i = notes i) (e10 : ∀ i, i < 64 → lasts2 i = lasts i) (e11 : ∀ i, i < 16 → dAt2 i = dAt i) (e12 : ∀ i, i < 16 → dHops2 i = dHops i) (ep : ∀ i, i < 831 → page2 i = page i) : IW N K Z C rooms2 mrows2 lrows2 rules2 counts2 refused2 tokens2 hops2 since2 notes2 lasts2 dAt2 dHops2 page2 := by
  have g1 := h.hN
  have g2 := h.hK
  have g3 := h.hZ
  exact ⟨⟨g1, g2, g3⟩, ⟨by rw [ep _ (by omega)]; exact h.p0, by rw [ep _ (by omega)]; exact h.p1, by rw [ep _ (by omega)]; exact h.p2, by rw [ep _ (by omega)]; exact h.p3⟩,
    fun i hi => by rw [ep _ (by omega), e3 _ (by omega)]; exact h.pr hi, fun i hi => by rw [ep _ (by omega), e4 _ (by omega)]; exact h.pc hi,
    h.pf.imp (fun z => ⟨by rw [e5 _ (by omega)]; exact z.1, by rw [ep _ (by omega)]; exact z.2⟩) (fun z => ⟨by rw [e5 _ (by omega)]; exact z.1, by rw [ep _ (by omega)]; exact z.2.1, fun i hi => by rw [ep _ (by omega), e5 _ (by omega)]; exact z.2.2 i hi⟩),
    fun i hi => by rw [ep _ (by omega), e0 _ (by omega)]; exact h.po hi, fun m w hm hw => by rw [ep _ (by omega), e1 _ (by omega)]; exact h.pm hm hw, fun l w hl hw => by rw [ep _ (by omega), e2 _ (by omega)]; exact h.pl hl hw,
    fun l hl => ⟨by rw [ep _ (by omega), e11 _ (by omega)]; exact (h.pd hl).1, by rw [ep _ (by omega), e12 _ (by omega)]; exact (h.pd hl).2⟩, fun n l hn hl => by rw [ep _ (by omega), e6 _ (by omega)]; exact h.pt hn hl,
    fun n l hn hl ht => by
      rw [e6 _ (by omega)] at ht
      exact ⟨by rw [ep _ (by omega), e7 _ (by omega)]; exact (h.ph hn hl ht).1, by rw [ep _ (by omega), e8 _ (by omega)]; exact (h.ph hn hl ht).2⟩,
    fun n l hn hl => by rw [ep _ (by omega), e9 _ (by omega)]; exact h.pn hn hl, fun a b ha hb => by rw [ep _ (by omega), e10 _ (by omega)]; exact h.ps ha hb⟩
theorem CI_ext (hc : CI N K Z C rooms mrows lrows rules counts refused tokens hops since notes lasts dAt dHops) (hK : K ≤ 24) (hZ : Z ≤ 16) (e0 : ∀ i, i < 8 → rooms2 i = rooms i) (e1 : ∀ i, i < 96 → mrows2 i = mrows i) (e2 : ∀ i, i < 96 → lrows2 i = lrows i) (e3 : ∀ i, i < 4 → rules2 i = rules i) (e4 : ∀ i, i < 8 → counts2 i = counts i) (e5 : ∀ i, i < 6 → refused2 i = refused i) (e6 : ∀ i, i < 128 → tokens2 i = tokens i) (e7 : ∀ i, i < 128 → hops2 i = hops i) (e8 : ∀ i, i < 128 → since2 i = since i) (e9 : ∀ i, i < 8 → notes2 i = notes i) (e10 : ∀ i, i < 64 → lasts2 i = lasts i) (e11 : ∀ i, i < 16 → dAt2 i = dAt i) (e12 : ∀ i, i < 16 → dHops2 i = dHops i) : CI N K Z C rooms2 mrows2 lrows2 rules2 counts2 refused2 tokens2 hops2 since2 notes2 lasts2 dAt2 dHops2 := by
  obtain ⟨a1, a2, a3, a4, a5, a6, a7⟩ := hc
  refine ⟨?_, fun m hm => ?_, fun l hl => ?_, fun l h1 h2 => ?_, fun n l hn hl => ?_, fun n hn => ?_, fun a b ha hb => ?_⟩
  · rw [e3 0 (by omega), e3 1 (by omega), e3 2 (by omega), e3 3 (by omega)]; exact a1
  · rw [e1 (m * 4 + 0) (by omega), e1 (m * 4 + 1) (by omega), e1 (m * 4 + 2) (by omega)]; exact a2 m hm
  · rw [e2 (l * 6 + 0) (by omega), e2 (l * 6 + 1) (by omega), e2 (l * 6 + 2) (by omega), e2 (l * 6 + 3) (by omega), e2 (l * 6 + 4) (by omega), e2 (l * 6 + 5) (by omega)]; exact a3 l hl
  · rw [e11 l h2, e12 l h2]; exact a4 l h1 h2
  · rw [e6 _ (by omega)]; exact a5 n l hn hl
  · rw [e9 n hn]; exact a6 n hn
  · rw [e10 _ (by omega)]; exact a7 a b ha hb
end PZ
/-- a world of the class, and the page that tells it -/
def WR (B : Nat) (clock nodes meetings letters : Int32) (rooms mrows lrows rules counts refused tokens hops since notes lasts dAt dHops page : Nat → Int32) : Prop := ∃ N K Z C, C ≤ B ∧ clock = nI C ∧ nodes = nI N ∧ meetings = nI K ∧ letters = nI Z ∧ IW N K Z C rooms mrows lrows rules counts refused tokens hops since notes lasts dAt dHops page ∧ CI N K Z C rooms mrows lrows rules counts refused tokens hops since notes lasts dAt dHops
theorem WR_mono {B B2 : Nat} {clock nodes meetings letters : Int32} {rooms mrows lrows rules counts refused tokens hops since notes lasts dAt dHops page : Nat → Int32} (hB : B ≤ B2) (h : WR B clock nodes meetings letters rooms mrows lrows rules counts refused tokens hops since notes lasts dAt dHops page) : WR B2 clock nodes meetings letters rooms mrows lrows rules counts refused tokens hops since notes lasts dAt dHops page := by
  obtain ⟨N, K, Z, C, h1, h2⟩ := h
  exact ⟨N, K, Z, C, by omega, h2⟩
theorem WR_page {B : Nat} {clock nodes meetings letters : Int32} {rooms mrows lrows rules counts refused tokens hops since notes lasts dAt dHops page page2 : Nat → Int32} (ep : ∀ i, i < 831 → page2 i = page i) (h : WR B clock nodes meetings letters rooms mrows lrows rules counts refused tokens hops since notes lasts dAt dHops page) : WR B clock nodes meetings letters rooms mrows lrows rules counts refused tokens hops since notes lasts dAt dHops page2 := by
  obtain ⟨N, K, Z, C, h1, h2, h3, h4, h5, h6, h7⟩ := h
  exact ⟨N, K, Z, C, h1, h2, h3, h4, h5, IW_ext h6 (fun _ _ => rfl) (fun _ _ => rfl) (fun _ _ => rfl) (fun _ _ => rfl) (fun _ _ => rfl) (fun _ _ => rfl) (fun _ _ => rfl) (fun _ _ => rfl) (fun _ _ => rfl) (fun _ _ => rfl) (fun _ _ => rfl) (fun _ _ => rfl) (fun _ _ => rfl) ep, h7⟩
theorem c_take {n : Nat} (hn : n < 2 ^ 31) (f g : Nat → Int32) : fX4_take n n f g = some (va_cpy f g 0 0 n) := by
  unfold fX4_take cpg
  have e : (Int32.ofNat n).toNatClampNeg = n := nI_clamp hn
  have p : ¬ Int32.ofNat n < 0 := nI_pos hn
  have no : ¬ (Int32.ofNat n < 0 ∨ n < n ∨ n < n) := fun z => z.elim p (fun z => z.elim (Nat.lt_irrefl n) (Nat.lt_irrefl n))
  rw [ite_self, e, if_neg no]
  rfl
theorem cpy_at (f g : Nat → Int32) {n i : Nat} (h : i < n) : va_cpy f g 0 0 n i = f i := by
  rw [pk_cpy_in (Nat.zero_le _) (by omega), Nat.zero_add, Nat.sub_zero]
theorem copy_from {B : Nat} {clock nodes meetings letters : Int32} {rooms mrows lrows rules counts refused tokens hops since notes lasts dAt dHops page page2 : Nat → Int32} (c0 n0 m0 l0 : Int32) (rooms0 mrows0 lrows0 rules0 counts0 refused0 tokens0 hops0 since0 notes0 lasts0 dAt0 dHops0 : Nat → Int32) (h : WR B clock nodes meetings letters rooms mrows lrows rules counts refused tokens hops since notes lasts dAt dHops page) (ep : ∀ i, i < 831 → page2 i = page i) : ∃ q, fX4_copyFrom c0 n0 m0 l0 rooms0 mrows0 lrows0 rules0 counts0 refused0 tokens0 hops0 since0 notes0 lasts0 dAt0 dHops0 clock nodes meetings letters rooms mrows lrows rules counts refused tokens hops since notes lasts dAt dHops = some q ∧ q.1 = clock ∧ WR B q.1 q.2.1 q.2.2.1 q.2.2.2.1 q.2.2.2.2.1 q.2.2.2.2.2.1 q.2.2.2.2.2.2.1 q.2.2.2.2.2.2.2.1 q.2.2.2.2.2.2.2.2.1 q.2.2.2.2.2.2.2.2.2.1 q.2.2.2.2.2.2.2.2.2.2.1 q.2.2.2.2.2.2.2.2.2.2.2.1 q.2.2.2.2.2.2.2.2.2.2.2.2.1 q.2.2.2.2.2.2.2.2.2.2.2.2.2.1 q.2.2.2.2.2.2.2.2.2.2.2.2.2.2.1 q.2.2.2.2.2.2.2.2.2.2.2.2.2.2.2.1 q.2.2.2.2.2.2.2.2.2.2.2.2.2.2.2.2 page2 := by
  obtain ⟨N, K, Z, C, h1, h2, h3, h4, h5, h6, h7⟩ := h
  unfold fX4_copyFrom fX0_copyFrom
  simp only [nm_s, bd_s, c_take (show 4 < 2 ^ 31 by omega), c_take (show 8 < 2 ^ 31 by omega), c_take (show 6 < 2 ^ 31 by omega), c_take (show 128 < 2 ^ 31 by omega), c_take (show 64 < 2 ^ 31 by omega), c_take (show 16 < 2 ^ 31 by omega)]
  refine ⟨_, rfl, rfl, N, K, Z, C, h1, h2, h3, h4, h5, IW_ext h6 (fun i hi => cpy_at _ _ hi) (fun i hi => cpy_at _ _ hi) (fun i hi => cpy_at _ _ hi) (fun i hi => cpy_at _ _ hi) (fun i hi => cpy_at _ _ hi) (fun i hi => cpy_at _ _ hi) (fun i hi => cpy_at _ _ hi) (fun i hi => cpy_at _ _ hi) (fun i hi => cpy_at _ _ hi) (fun i hi => cpy_at _ _ hi) (fun i hi => cpy_at _ _ hi) (fun i hi => cpy_at _ _ hi) (fun i hi => cpy_at _ _ hi) ep, CI_ext h7 h6.hK h6.hZ (fun i hi => cpy_at _ _ hi) (fun i hi => cpy_at _ _ hi) (fun i hi => cpy_at _ _ hi) (fun i hi => cpy_at _ _ hi) (fun i hi => cpy_at _ _ hi) (fun i hi => cpy_at _ _ hi) (fun i hi => cpy_at _ _ hi) (fun i hi => cpy_at _ _ hi) (fun i hi => cpy_at _ _ hi) (fun i hi => cpy_at _ _ hi) (fun i hi => cpy_at _ _ hi) (fun i hi => cpy_at _ _ hi) (fun i hi => cpy_at _ _ hi)⟩
/-! what the reference keeps -/
theorem keep_loop (page : Nat → Int32) {i : Nat} (hi : i < 2) (y : Int32) : ∀ (f j : Nat) (k : Nat → Int32), j ≤ 831 → 831 < j + f → ∃ k', fX6_keep_29 page (nI i) y f k (nI j) = some k' ∧ (∀ c, j ≤ c → c < 831 → k' (831 * i + c) = page c) ∧ (∀ x, x < 831 * i + j ∨ 831 * i + 831 ≤ x → k' x = k x) := by
  intro f
  induction f with
  | zero => intro j k h1 h2; omega
  | succ f ih =>
    intro j k h1 h2
    rw [fX6_keep_29]
    by_cases hj : j = 831
    · subst hj
      rw [if_pos (show (831 : Int32) ≤ nI 831 by decide)]
      exact ⟨k, rfl, fun c h3 h4 => by omega, fun _ _ => rfl⟩
    · have e : ((831 : Int32) * nI i) + nI j = nI (831 * i + j) := ix3 831 i j
      rw [if_neg (show ¬ (831 : Int32) ≤ nI j from nI_ge (a := j) (b := 831) (by omega) (by omega)), gd_in (by omega) (by omega), gd_at e (by omega) (by omega), cl_at e (by omega), nI_clamp (by omega), nm_s, nI_1]
      obtain ⟨k', q1, q2, q3⟩ := ih (j + 1) (upd k (831 * i + j) (page j)) (by omega) (by omega)
      refine ⟨k', q1, fun c h3 h4 => ?_, fun x hx => ?_⟩
      · by_cases ec : c = j
        · subst ec
          rw [q3 _ (by omega), upd_eq]
        · exact q2 c (by omega) h4
      · rw [q3 x (by omega), upd_ne _ _ (by omega)]
theorem back_loop (k : Nat → Int32) {i : Nat} (hi : i < 2) : ∀ (f j : Nat) (page : Nat → Int32), j ≤ 831 → 831 < j + f → ∃ p', fX6_back_26 k (nI i) f page (nI j) = some p' ∧ (∀ c, c < 831 → p' c = if c < j then page c else k (831 * i + c)) := by
  intro f
  induction f with
  | zero => intro j page h1 h2; omega
  | succ f ih =>
    intro j page h1 h2
    rw [fX6_back_26]
    by_cases hj : j = 831
    · subst hj
      rw [if_pos (show (831 : Int32) ≤ nI 831 by decide)]
      exact ⟨page, rfl, fun c h3 => by rw [if_pos h3]⟩
    · have e : ((831 : Int32) * nI i) + nI j = nI (831 * i + j) := ix3 831 i j
      rw [if_neg (show ¬ (831 : Int32) ≤ nI j from nI_ge (a := j) (b := 831) (by omega) (by omega)), gd_at e (by omega) (by omega), gd_in (by omega) (by omega), cl_at e (by omega), nI_clamp (by omega), nm_s, nI_1]
      obtain ⟨p', q1, q2⟩ := ih (j + 1) (upd page j (k (831 * i + j))) (by omega) (by omega)
      refine ⟨p', q1, fun c h3 => ?_⟩
      rw [q2 c h3]
      by_cases ec : c = j
      · subst ec
        rw [if_pos (by omega), upd_eq, if_neg (by omega)]
      · by_cases e2 : c < j
        · rw [if_pos (by omega), if_pos e2, upd_ne _ _ ec]
        · rw [if_neg (by omega), if_neg e2]
/-- an image, and what the reference keeps of it -/
def KR (B : Nat) (k : Int32) (clock nodes meetings letters : Int32) (rooms mrows lrows rules counts refused tokens hops since notes lasts dAt dHops page : Nat → Int32) : Prop := k = 0 ∨ (k = 1 ∧ WR B clock nodes meetings letters rooms mrows lrows rules counts refused tokens hops since notes lasts dAt dHops page)
theorem KR_mono {B B2 : Nat} {k clock nodes meetings letters : Int32} {rooms mrows lrows rules counts refused tokens hops since notes lasts dAt dHops page : Nat → Int32} (hB : B ≤ B2) (h : KR B k clock nodes meetings letters rooms mrows lrows rules counts refused tokens hops since notes lasts dAt dHops page) : KR B2 k clock nodes meetings letters rooms mrows lrows rules counts refused tokens hops since notes lasts dAt dHops page := h.imp id (fun z => ⟨z.1, WR_mono hB z.2⟩)
theorem KR_page {B : Nat} {k clock nodes meetings letters : Int32} {rooms mrows lrows rules counts refused tokens hops since notes lasts dAt dHops page page2 : Nat → Int32} (ep : ∀ i, i < 831 → page2 i = page i) (h : KR B k clock nodes meetings letters rooms mrows lrows rules counts refused tokens hops since notes lasts dAt dHops page) : KR B k clock nodes meetings letters rooms mrows lrows rules counts refused tokens hops since notes lasts dAt dHops page2 := h.imp id (fun z => ⟨z.1, WR_page ep z.2⟩)
theorem KR_01 {B : Nat} {k clock nodes meetings letters : Int32} {rooms mrows lrows rules counts refused tokens hops since notes lasts dAt dHops page : Nat → Int32} (h : KR B k clock nodes meetings letters rooms mrows lrows rules counts refused tokens hops since notes lasts dAt dHops page) : k = 0 ∨ k = 1 := h.imp id (fun z => z.1)
