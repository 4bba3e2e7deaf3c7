/-- the three words -/
def wn (r : Nat) : Nat := ([4, 4, 6] : List Nat).getD r 0
def wc (r : Nat) : Nat := ([0, 4, 8, 14] : List Nat).getD r 0
def wv (r i : Nat) : Nat := (([[110, 111, 100, 101], [109, 101, 101, 116], [108, 101, 116, 116, 101, 114]] : List (List Nat)).getD r []).getD i 0
def MC (ends words : Nat → Int32) : Prop := (∀ r, r < 4 → ends r = nI (wc r)) ∧ ∀ r, r < 3 → ∀ i, i < wn r → words (wc r + i) = nI (wv r i)
def Mt (B : Nat → Nat) (s e r : Nat) : Prop := e - s = wn r ∧ ∀ i, i < wn r → B (s + i) = wv r i
theorem wn_6 : ∀ r, r < 3 → wn r ≤ 6 ∧ 1 ≤ wn r ∧ wc (r + 1) = wc r + wn r ∧ wc r + wn r ≤ 14 := by decide
theorem wv_128 : ∀ r, r < 3 → ∀ i, i < 6 → wv r i < 128 := by decide
section LW
variable {L : Nat} {B : Nat → Nat} {bytes tape : Nat → Int32}
theorem isWord_loop (h : TPE L B bytes tape) {s r : Nat} (hr : r < 3) (hs : s + wn r ≤ L) (tf : Nat → Int32) (ht : ∀ i, i < wn r → tf i = nI (wv r i)) : ∀ (f i : Nat), i ≤ wn r → wn r < i + f →
    ((∀ j, i ≤ j → j < wn r → B (s + j) = wv r j) → fX2_isWord_20 (wn r) tf (nI s) bytes f (nI i) = some (.inr ())) ∧ ((¬ ∀ j, i ≤ j → j < wn r → B (s + j) = wv r j) → fX2_isWord_20 (wn r) tf (nI s) bytes f (nI i) = some (.inl 0)) := by
  have w6 := wn_6 r hr
  have hL := h.1
  intro f
  induction f with
  | zero => intro i h1 h2; omega
  | succ f ih =>
    intro i h1 h2
    rw [fX2_isWord_20]
    by_cases hi : i = wn r
    · have e1 : Int32.ofNat (wn r) ≤ nI i := nI_le (a := wn r) (by omega) (by omega)
      rw [if_pos e1]
      exact ⟨fun _ => rfl, fun z => absurd (fun j h3 h4 => by omega) z⟩
    · have hlt : i < wn r := by omega
      have e1 : ¬ Int32.ofNat (wn r) ≤ nI i := nI_ge (b := wn r) hlt (by omega)
      have hB := (h.2 (s + i) (by omega)).1
      have hv := wv_128 r hr i (by omega)
      rw [if_neg e1, nI_add, c_byteAt h (by omega), bd_s]
      unfold chg
      rw [nI_clamp (show i < 2 ^ 31 by omega), ht i hlt, if_neg (by
        rintro (z | z | z | z | z)
        · exact nI_pos (by omega) z
        · omega
        · exact nI_pos (by omega) z
        · exact nI_nlt (a := 127) (b := wv r i) (by omega) (by omega) z
        · omega), nI_1]
      dsimp only
      obtain ⟨ih1, ih2⟩ := ih (i + 1) (by omega) (by omega)
      by_cases e : B (s + i) = wv r i
      · rw [if_pos (show nI (B (s + i)) = nI (wv r i) by rw [e])]
        refine ⟨fun q => ih1 (fun j h3 h4 => q j (by omega) h4), fun q => ih2 (fun w => q (fun j h3 h4 => ?_))⟩
        by_cases z : j = i
        · subst z; exact e
        · exact w j (by omega) h4
      · rw [if_neg (fun z => e (nI_inj (by omega) (by omega) z))]
        exact ⟨fun q => absurd (q i (Nat.le_refl _) hlt) e, fun _ => rfl⟩
theorem c_isWord (h : TPE L B bytes tape) {s e r : Nat} (hr : r < 3) (hse : s ≤ e) (he : e ≤ L) (tf : Nat → Int32) (ht : ∀ i, i < wn r → tf i = nI (wv r i)) : (Mt B s e r → fX2_isWord (wn r) tf (nI e) (nI s) bytes = some 1) ∧ (¬ Mt B s e r → fX2_isWord (wn r) tf (nI e) (nI s) bytes = some 0) := by
  have w6 := wn_6 r hr
  have hL := h.1
  unfold fX2_isWord
  rw [pk_sub hse]
  by_cases hl : e - s = wn r
  · have e1 : nI (e - s) = Int32.ofNat (wn r) := by rw [hl]; rfl
    obtain ⟨l1, l2⟩ := isWord_loop h hr (show s + wn r ≤ L by omega) tf ht FU 0 (Nat.zero_le _) (by unfold FU; omega)
    rw [show nI 0 = (0 : Int32) from rfl] at l1 l2
    rw [if_pos e1]
    refine ⟨fun m => ?_, fun m => ?_⟩
    · rw [l1 (fun j _ h4 => m.2 j h4)]; rfl
    · rw [l2 (fun q => m ⟨hl, fun i hi => q i (Nat.zero_le _) hi⟩)]; rfl
  · have e1 : ¬ nI (e - s) = Int32.ofNat (wn r) := fun z => hl (nI_inj (a := e - s) (b := wn r) (by omega) (by omega) z)
    rw [if_neg e1]
    exact ⟨fun m => absurd m.1 hl, fun _ => rfl⟩
theorem flag0 {ends words : Nat → Int32} {r : Nat} (hr : r < 3) (y here taped : Int32) (f : Nat) : fX6_wordNow_55 taped here tape ends words (nI r) (f + 1) 0 y = some 0 := by
  rw [fX6_wordNow_55, nI_1, gd_in (by omega) (by omega), if_pos p00, ite_self]
theorem word55 (h : TPE L B bytes tape) {ends words : Nat → Int32} (hm : MC ends words) {s r : Nat} (hr : r < 3) (hs : s + wn r ≤ L) : ∀ (f i : Nat), i ≤ wn r → wn r + 1 < i + f →
    ((∀ j, i ≤ j → j < wn r → B (s + j) = wv r j) → fX6_wordNow_55 (nI L) (nI s) tape ends words (nI r) f 1 (nI (wc r + i)) = some 1) ∧ ((¬ ∀ j, i ≤ j → j < wn r → B (s + j) = wv r j) → fX6_wordNow_55 (nI L) (nI s) tape ends words (nI r) f 1 (nI (wc r + i)) = some 0) := by
  have w6 := wn_6 r hr
  have hL := h.1
  intro f
  induction f with
  | zero => intro i h1 h2; omega
  | succ f ih =>
    intro i h1 h2
    rw [fX6_wordNow_55, nI_1, gd_in (by omega) (by omega), nI_clamp (show r + 1 < 2 ^ 31 by omega), hm.1 (r + 1) (by omega), w6.2.2.1]
    by_cases hi : i = wn r
    · rw [if_pos (nI_le (show wc r + wn r ≤ wc r + i by omega) (by omega))]
      exact ⟨fun _ => rfl, fun z => absurd (fun j h3 h4 => by omega) z⟩
    · have hlt : i < wn r := by omega
      have hB := (h.2 (s + i) (by omega)).1
      have hv := wv_128 r hr i (by omega)
      have e : nI s + nI (wc r + i) - nI (wc r) = nI (s + i) := by rw [nI_add, pk_sub (by omega)]; congr 1; omega
      rw [if_neg (nI_ge (show wc r + i < wc r + wn r by omega) (by omega)), if_neg n10, gd_in (by omega) (by omega), nI_clamp (show r < 2 ^ 31 by omega), hm.1 r (by omega), e, m_byteAt h (by omega), bd_s, gd_in (by omega) (by omega), nI_clamp (show wc r + i < 2 ^ 31 by omega), hm.2 r hr i hlt, nI_1]
      obtain ⟨ih1, ih2⟩ := ih (i + 1) (by omega) (by omega)
      by_cases q : B (s + i) = wv r i
      · rw [if_pos (show nI (B (s + i)) = nI (wv r i) by rw [q])]
        refine ⟨fun w => ih1 (fun j h3 h4 => w j (by omega) h4), fun w => ih2 (fun w2 => w (fun j h3 h4 => ?_))⟩
        by_cases z : j = i
        · subst z; exact q
        · exact w2 j (by omega) h4
      · rw [if_neg (fun z => q (nI_inj (by omega) (by omega) z))]
        refine ⟨fun w => absurd (w i (Nat.le_refl _) hlt) q, fun _ => ?_⟩
        obtain ⟨f, rfl⟩ : ∃ z, f = z + 1 := ⟨f - 1, by omega⟩
        exact flag0 hr _ _ _ f
theorem word_step (h : TPE L B bytes tape) {ends words : Nat → Int32} (hm : MC ends words) {s e k r : Nat} (hr : r < 3) (hse : s ≤ e) (he : e ≤ L) (hk : k ≤ 3) (f : Nat) : (k = 1 ∧ Mt B s e r → fX6_wordNow_2 (nI L) (nI e) (nI s) (nI k) tape ends words (f + 1) (nI r) = some (.inl (nI r))) ∧ (¬ (k = 1 ∧ Mt B s e r) → fX6_wordNow_2 (nI L) (nI e) (nI s) (nI k) tape ends words (f + 1) (nI r) = fX6_wordNow_2 (nI L) (nI e) (nI s) (nI k) tape ends words f (nI (r + 1))) := by
  have w6 := wn_6 r hr
  have hL := h.1
  rw [fX6_wordNow_2, if_neg (show ¬ (2 : Int32) < nI r from nI_nlt (a := 2) (b := r) (by omega) (by omega)), nI_1]
  simp only [gd_in (show r + 1 < 4 by omega) (show 4 < 2 ^ 31 by omega), gd_in (show r < 4 by omega) (show 4 < 2 ^ 31 by omega), nI_clamp (show r + 1 < 2 ^ 31 by omega), nI_clamp (show r < 2 ^ 31 by omega), hm.1 (r + 1) (show r + 1 < 4 by omega), hm.1 r (show r < 4 by omega), w6.2.2.1, pk_sub (show wc r ≤ wc r + wn r by omega), Nat.add_sub_cancel_left, pk_sub hse]
  have fl : ∀ y, fX6_wordNow_55 (nI L) (nI s) tape ends words (nI r) FU 0 y = some 0 := fun y => flag0 hr y _ _ 1999
  by_cases hk1 : k = 1
  · rw [if_pos (show nI k = 1 by rw [hk1]; rfl)]
    by_cases hl : e - s = wn r
    · obtain ⟨l1, l2⟩ := word55 h hm hr (show s + wn r ≤ L by omega) FU 0 (Nat.zero_le _) (by unfold FU; omega)
      rw [Nat.add_zero] at l1 l2
      rw [if_pos (show nI (e - s) = nI (wn r) by rw [hl]), bd_s]
      refine ⟨fun m => ?_, fun m => ?_⟩
      · rw [l1 (fun j _ h4 => m.2.2 j h4), bd_s, if_neg n10]
      · rw [l2 (fun q => m ⟨hk1, hl, fun i hi => q i (Nat.zero_le _) hi⟩), bd_s, if_pos p00]
    · rw [if_neg (fun z => hl (nI_inj (by omega) (by omega) z)), bd_s, fl, bd_s, if_pos p00]
      exact ⟨fun m => absurd m.2.1 hl, fun _ => rfl⟩
  · rw [if_neg (show ¬ nI k = 1 from fun z => hk1 (nI_inj (b := 1) (by omega) (by omega) z)), bd_s, fl, bd_s, if_pos p00]
    exact ⟨fun m => absurd m.1 hk1, fun _ => rfl⟩
/-- both know a line's first word alike -/
theorem word_sim (h : TPE L B bytes tape) {ends words : Nat → Int32} (hm : MC ends words) {s e k : Nat} (hse : s ≤ e) (he : e ≤ L) (hk : k ≤ 3) : (∃ r, r < 3 ∧ fX2_lineBegun (nI e) (nI k) (nI s) bytes = some (nI r) ∧ fX6_wordNow (nI L) (nI e) (nI s) (nI k) tape ends words = some (nI r)) ∨ (fX2_lineBegun (nI e) (nI k) (nI s) bytes = some (-1) ∧ fX6_wordNow (nI L) (nI e) (nI s) (nI k) tape ends words = some (-4)) := by
  have t0 : ∀ i, i < wn 0 → sw0 i = nI (wv 0 i) := by decide
  have t1 : ∀ i, i < wn 1 → sw1 i = nI (wv 1 i) := by decide
  have t2 : ∀ i, i < wn 2 → sw2 i = nI (wv 2 i) := by decide
  have i0 := c_isWord h (r := 0) (by omega) hse he sw0 t0
  have i1 := c_isWord h (r := 1) (by omega) hse he sw1 t1
  have i2 := c_isWord h (r := 2) (by omega) hse he sw2 t2
  have s0 := word_step h hm (r := 0) (by omega) hse he hk 1999
  have s1 := word_step h hm (r := 1) (by omega) hse he hk 1998
  have s2 := word_step h hm (r := 2) (by omega) hse he hk 1997
  rw [show wn 0 = 4 from rfl] at i0
  rw [show wn 1 = 4 from rfl] at i1
  rw [show wn 2 = 6 from rfl] at i2
  have last : fX6_wordNow_2 (nI L) (nI e) (nI s) (nI k) tape ends words 1997 (nI (2 + 1)) = some (.inr ()) := by
    rw [show 1997 = 1996 + 1 from rfl, fX6_wordNow_2, if_pos (show (2 : Int32) < nI (2 + 1) by decide)]
  unfold fX2_lineBegun fX6_wordNow
  rw [show FU = 1999 + 1 from rfl, show (0 : Int32) = nI 0 from rfl]
  by_cases hk1 : k = 1
  · have k1 : nI k = 1 := by rw [hk1]; rfl
    rw [if_pos k1]
    by_cases m0 : Mt B s e 0
    · refine Or.inl ⟨0, by omega, ?_, ?_⟩
      · rw [i0.1 m0, bd_s, if_neg (show ¬ (1 : Int32) = nI 0 by decide)]
      · rw [s0.1 ⟨hk1, m0⟩]; rfl
    · by_cases m1 : Mt B s e 1
      · refine Or.inl ⟨1, by omega, ?_, ?_⟩
        · rw [i0.2 m0, bd_s, if_pos (show (0 : Int32) = nI 0 from rfl), i1.1 m1, bd_s, if_neg (show ¬ (1 : Int32) = nI 0 by decide)]; rfl
        · rw [s0.2 (fun z => m0 z.2), s1.1 ⟨hk1, m1⟩]; rfl
      · by_cases m2 : Mt B s e 2
        · refine Or.inl ⟨2, by omega, ?_, ?_⟩
          · rw [i0.2 m0, bd_s, if_pos (show (0 : Int32) = nI 0 from rfl), i1.2 m1, bd_s, if_pos (show (0 : Int32) = nI 0 from rfl), i2.1 m2, bd_s, if_neg (show ¬ (1 : Int32) = nI 0 by decide)]; rfl
          · rw [s0.2 (fun z => m0 z.2), s1.2 (fun z => m1 z.2), s2.1 ⟨hk1, m2⟩]; rfl
        · refine Or.inr ⟨?_, ?_⟩
          · rw [i0.2 m0, bd_s, if_pos (show (0 : Int32) = nI 0 from rfl), i1.2 m1, bd_s, if_pos (show (0 : Int32) = nI 0 from rfl), i2.2 m2, bd_s, if_pos (show (0 : Int32) = nI 0 from rfl)]
          · rw [s0.2 (fun z => m0 z.2), s1.2 (fun z => m1 z.2), s2.2 (fun z => m2 z.2), last]; rfl
  · have k1 : ¬ nI k = 1 := fun z => hk1 (nI_inj (b := 1) (by omega) (by omega) z)
    rw [if_neg k1]
    refine Or.inr ⟨rfl, ?_⟩
    rw [s0.2 (fun z => hk1 z.1), s1.2 (fun z => hk1 z.1), s2.2 (fun z => hk1 z.1), last]; rfl
end LW
