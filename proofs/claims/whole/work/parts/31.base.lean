/-! plain facts of numbers -/
theorem bd_s {α β : Type} (a : α) (f : α → Option β) : bd (some a) f = f a := rfl
theorem nm_s {α β : Type} (a : α) (f : α → Option β) : nm a f = f a := rfl
theorem e10 : ((1 : Int32) = 0) = False := by decide
theorem e01 : ((0 : Int32) = 1) = False := by decide
theorem e00 : ((0 : Int32) = 0) = True := by decide
theorem e11 : ((1 : Int32) = 1) = True := by decide
theorem nI_mul (a b : Nat) : nI a * nI b = nI (a * b) := (Int32.ofNat_mul a b).symm
theorem gd_in {α : Type} {x n : Nat} (h : x < n) (hn : n < 2 ^ 31) (y : Option α) : gd (nI x) n y = y := by
  unfold gd
  rw [if_neg (nI_in h hn)]
theorem upd_eq (f : Nat → Int32) (k : Nat) (x : Int32) : upd f k x k = x := if_pos rfl
theorem upd_ne (f : Nat → Int32) {j k : Nat} (x : Int32) (h : j ≠ k) : upd f k x j = f j := if_neg h
theorem gd_at {α : Type} {i : Int32} {x n : Nat} (e : i = nI x) (h : x < n) (hn : n < 2 ^ 31) (y : Option α) : gd i n y = y := by
  rw [e]
  exact gd_in h hn y
theorem cl_at {i : Int32} {x : Nat} (e : i = nI x) (h : x < 2 ^ 31) : i.toNatClampNeg = x := by
  rw [e]
  exact nI_clamp h
theorem ix4 (a b c d : Nat) : nI a + nI b * nI c + nI d = nI (a + b * c + d) := by rw [nI_mul, nI_add, nI_add]
theorem ix3 (a b d : Nat) : nI a * nI b + nI d = nI (a * b + d) := by rw [nI_mul, nI_add]
/-! the reference's page -/
theorem m_ofLetter (page : Nat → Int32) {l w : Nat} (hl : l < 16) (hw : w < 8) : fX6_ofLetter page (nI l) (nI w) = some (page (127 + 8 * l + w)) := by
  have e : ((127 : Int32) + (8 : Int32) * nI l) + nI w = nI (127 + 8 * l + w) := ix4 127 8 l w
  unfold fX6_ofLetter
  rw [gd_at e (by omega) (by omega), cl_at e (by omega)]
theorem m_ofMeeting (page : Nat → Int32) {m w : Nat} (hm : m < 24) (hw : w < 4) : fX6_ofMeeting page (nI m) (nI w) = some (page (31 + 4 * m + w)) := by
  have e : ((31 : Int32) + (4 : Int32) * nI m) + nI w = nI (31 + 4 * m + w) := ix4 31 4 m w
  unfold fX6_ofMeeting
  rw [gd_at e (by omega) (by omega), cl_at e (by omega)]
theorem m_copyAt (n l : Nat) : fX6_copyAt (nI n) (nI l) = some (nI (255 + 3 * (16 * n + l))) := by
  have e : ((255 : Int32) + ((3 : Int32) * (((16 : Int32) * nI n) + nI l))) = nI (255 + 3 * (16 * n + l)) := by
    rw [show (16 : Int32) * nI n + nI l = nI (16 * n + l) from ix3 16 n l]
    show nI 255 + nI 3 * nI (16 * n + l) = _
    rw [nI_mul, nI_add]
  unfold fX6_copyAt
  rw [e]
theorem m_hasCopy (page : Nat → Int32) {n l : Nat} (hn : n < 8) (hl : l < 16) : fX6_hasCopy page (nI n) (nI l) = some (if page (255 + 3 * (16 * n + l)) ≤ 0 then 0 else 1) := by
  unfold fX6_hasCopy
  rw [m_copyAt, bd_s, gd_in (by omega) (by omega), nI_clamp (by omega)]
  split <;> rfl
theorem m_tokensOf (page : Nat → Int32) {n l : Nat} (hn : n < 8) (hl : l < 16) : fX6_tokensOf page (nI n) (nI l) = some (page (255 + 3 * (16 * n + l))) := by
  unfold fX6_tokensOf
  rw [m_copyAt, bd_s, gd_in (by omega) (by omega), nI_clamp (by omega)]
theorem m_hopsOf (page : Nat → Int32) {n l : Nat} (hn : n < 8) (hl : l < 16) : fX6_hopsOf page (nI n) (nI l) = some (page (255 + 3 * (16 * n + l) + 1)) := by
  unfold fX6_hopsOf
  have e : nI (255 + 3 * (16 * n + l)) + (1 : Int32) = nI (255 + 3 * (16 * n + l) + 1) := nI_1 _
  rw [m_copyAt, bd_s, gd_at e (by omega) (by omega), cl_at e (by omega)]
theorem m_sinceOf (page : Nat → Int32) {n l : Nat} (hn : n < 8) (hl : l < 16) : fX6_sinceOf page (nI n) (nI l) = some (page (255 + 3 * (16 * n + l) + 2)) := by
  unfold fX6_sinceOf
  have e : nI (255 + 3 * (16 * n + l)) + (2 : Int32) = nI (255 + 3 * (16 * n + l) + 2) := nI_add _ 2
  rw [m_copyAt, bd_s, gd_at e (by omega) (by omega), cl_at e (by omega)]
theorem m_comes (page : Nat → Int32) {n l : Nat} (hn : n < 8) (hl : l < 16) (t h : Int32) : fX6_comes page (nI n) (nI l) t h = some (upd (upd (upd page (255 + 3 * (16 * n + l)) t) (255 + 3 * (16 * n + l) + 1) h) (255 + 3 * (16 * n + l) + 2) (page 3)) := by
  unfold fX6_comes
  have e1 : nI (255 + 3 * (16 * n + l)) + (1 : Int32) = nI (255 + 3 * (16 * n + l) + 1) := nI_1 _
  have e2 : nI (255 + 3 * (16 * n + l)) + (2 : Int32) = nI (255 + 3 * (16 * n + l) + 2) := nI_add _ 2
  simp only [m_copyAt, bd_s, nm_s]
  rw [gd_in (by omega) (by omega), gd_at e1 (by omega) (by omega), gd_at e2 (by omega) (by omega), cl_at e1 (by omega), cl_at e2 (by omega), nI_clamp (by omega)]
  rw [upd_ne _ _ (show 3 ≠ 255 + 3 * (16 * n + l) + 1 by omega), upd_ne _ _ (show 3 ≠ 255 + 3 * (16 * n + l) by omega)]
theorem m_goes (page : Nat → Int32) {n l : Nat} (hn : n < 8) (hl : l < 16) : fX6_goes page (nI n) (nI l) = some (upd page (255 + 3 * (16 * n + l)) 0) := by
  unfold fX6_goes
  simp only [m_copyAt, bd_s, nm_s]
  rw [gd_in (by omega) (by omega), nI_clamp (by omega)]
theorem m_lastOf (page : Nat → Int32) {a b : Nat} (ha : a < 8) (hb : b < 8) : fX6_lastOf page (nI a) (nI b) = some (page (767 + 8 * a + b) - 1) := by
  have e : ((767 : Int32) + (8 : Int32) * nI a) + nI b = nI (767 + 8 * a + b) := ix4 767 8 a b
  unfold fX6_lastOf
  rw [gd_at e (by omega) (by omega), cl_at e (by omega)]
theorem m_hasNote (page : Nat → Int32) {n l : Nat} (hn : n < 8) (hl : l < 16) : fX6_hasNote page (nI n) (nI l) = some (if page (639 + 16 * n + l) = 1 then 1 else 0) := by
  have e : ((639 : Int32) + (16 : Int32) * nI n) + nI l = nI (639 + 16 * n + l) := ix4 639 16 n l
  unfold fX6_hasNote
  rw [gd_at e (by omega) (by omega), cl_at e (by omega)]
  split <;> rfl
theorem m_notes (page : Nat → Int32) {n l : Nat} (hn : n < 8) (hl : l < 16) : fX6_notes page (nI n) (nI l) = some (upd page (639 + 16 * n + l) 1) := by
  have e : ((639 : Int32) + (16 : Int32) * nI n) + nI l = nI (639 + 16 * n + l) := ix4 639 16 n l
  unfold fX6_notes
  rw [gd_at e (by omega) (by omega), cl_at e (by omega)]
  rfl
/-! the class's rows -/
theorem c_ofLetter (lrows : Nat → Int32) {l w : Nat} (hl : l < 16) (hw : w < 6) : fX0_ofLetter lrows (nI l) (nI w) = some (lrows (l * 6 + w)) := by
  have e : (nI l * (6 : Int32)) + nI w = nI (l * 6 + w) := ix3 l 6 w
  unfold fX0_ofLetter
  rw [gd_at e (by omega) (by omega), cl_at e (by omega)]
theorem c_ofMeeting (mrows : Nat → Int32) {m w : Nat} (hm : m < 24) (hw : w < 4) : fX0_ofMeeting mrows (nI m) (nI w) = some (mrows (m * 4 + w)) := by
  have e : (nI m * (4 : Int32)) + nI w = nI (m * 4 + w) := ix3 m 4 w
  unfold fX0_ofMeeting
  rw [gd_at e (by omega) (by omega), cl_at e (by omega)]
theorem c_endOf (lrows : Nat → Int32) {l : Nat} (hl : l < 16) : fX0_endOf lrows (nI l) = some (lrows (l * 6 + 0) + lrows (l * 6 + 5)) := by
  have e0 : (nI l * (6 : Int32)) + (0 : Int32) = nI (l * 6 + 0) := ix3 l 6 0
  have e5 : (nI l * (6 : Int32)) + (5 : Int32) = nI (l * 6 + 5) := ix3 l 6 5
  unfold fX0_endOf
  rw [gd_at e0 (by omega) (by omega), gd_at e5 (by omega) (by omega), cl_at e0 (by omega), cl_at e5 (by omega)]
theorem c_hasCopy (tokens : Nat → Int32) {n l : Nat} (hn : n < 8) (hl : l < 16) : fX4_hasCopy tokens (nI n) (nI l) = some (if tokens (n * 16 + l) ≤ 0 then 0 else 1) := by
  have e : (nI n * (16 : Int32)) + nI l = nI (n * 16 + l) := ix3 n 16 l
  unfold fX4_hasCopy
  rw [gd_at e (by omega) (by omega), cl_at e (by omega)]
  split <;> rfl
theorem c_place (n l : Nat) : fX4_place (nI n) (nI l) = some (nI (n * 16 + l)) := by
  unfold fX4_place
  rw [show (nI n * (16 : Int32)) + nI l = nI (n * 16 + l) from ix3 n 16 l]
theorem c_removeCopy (tokens : Nat → Int32) {n l : Nat} (hn : n < 8) (hl : l < 16) : fX4_removeCopy tokens (nI n) (nI l) = some (upd tokens (n * 16 + l) 0) := by
  unfold fX4_removeCopy
  simp only [c_place, bd_s, nm_s]
  rw [gd_in (by omega) (by omega), nI_clamp (by omega)]
theorem c_putCopy (clock : Int32) (tokens hops since : Nat → Int32) {n l : Nat} (hn : n < 8) (hl : l < 16) (t h : Int32) : fX4_putCopy clock tokens hops since (nI n) (nI l) t h = some (upd tokens (n * 16 + l) t, upd hops (n * 16 + l) h, upd since (n * 16 + l) clock) := by
  unfold fX4_putCopy
  simp only [c_place, bd_s, nm_s]
  rw [gd_in (by omega) (by omega), gd_in (by omega) (by omega), gd_in (by omega) (by omega), nI_clamp (by omega)]
theorem c_lastOf (lasts : Nat → Int32) {a b : Nat} (ha : a < 8) (hb : b < 8) : fX4_lastOf lasts (nI a) (nI b) = some (lasts (a * 8 + b)) := by
  have e : (nI a * (8 : Int32)) + nI b = nI (a * 8 + b) := ix3 a 8 b
  unfold fX4_lastOf
  rw [gd_at e (by omega) (by omega), cl_at e (by omega)]
theorem c_noteMet (clock : Int32) (lasts : Nat → Int32) {a b : Nat} (ha : a < 8) (hb : b < 8) : fX4_noteMet clock lasts (nI a) (nI b) = some (upd (upd lasts (a * 8 + b) clock) (b * 8 + a) clock) := by
  have e1 : (nI a * (8 : Int32)) + nI b = nI (a * 8 + b) := ix3 a 8 b
  have e2 : (nI b * (8 : Int32)) + nI a = nI (b * 8 + a) := ix3 b 8 a
  unfold fX4_noteMet
  simp only [nm_s]
  rw [gd_at e1 (by omega) (by omega), gd_at e2 (by omega) (by omega), cl_at e1 (by omega), cl_at e2 (by omega)]
