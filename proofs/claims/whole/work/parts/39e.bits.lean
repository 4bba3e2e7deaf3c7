def bc1 (x : Nat) : Nat := x - (x / 2 &&& 1431655765)
def bc2 (x : Nat) : Nat := (x &&& 858993459) + (x / 4 &&& 858993459)
def bc3 (x : Nat) : Nat := (x + x / 16) &&& 252645135
def bc4 (x : Nat) : Nat := x + x / 256
def bc5 (x : Nat) : Nat := (x + x / 65536) &&& 63
def bcN (v : Nat) : Nat := bc5 (bc4 (bc3 (bc2 (bc1 v))))
theorem and_split {x y m n : Nat} (hy : y < 256) (hn : n < 256) : (256 * x + y) &&& (256 * m + n) = 256 * (x &&& m) + (y &&& n) := by
  have h3 : y &&& n < 2 ^ 8 := Nat.lt_of_le_of_lt Nat.and_le_left (by omega)
  apply Nat.eq_of_testBit_eq
  intro i
  rw [Nat.testBit_and, show 256 = 2 ^ 8 from rfl, Nat.testBit_two_pow_mul_add x (by omega), Nat.testBit_two_pow_mul_add m (by omega), Nat.testBit_two_pow_mul_add (x &&& m) h3, Nat.testBit_and, Nat.testBit_and]
  split <;> rfl
theorem bc_b1 : ∀ a, a < 256 → (a / 2 &&& 5592405) ≤ a ∧ bc1 a < 256 := by decide +kernel
theorem bc_a1 : ∀ a, a < 256 → (a / 2 &&& 5592405) = (a / 2 &&& 1431655765) := by decide +kernel
theorem bc_c1 : ∀ p, p < 2 → ∀ b, b < 256 → (128 * p + b / 2) &&& 85 = (b / 2 &&& 1431655765) ∧ (b / 2 &&& 1431655765) ≤ b := by decide +kernel
theorem bc_s1 {a b : Nat} (ha : a < 256) (hb : b < 256) : bc1 (256 * a + b) = 256 * bc1 a + bc1 b ∧ ((256 * a + b) / 2 &&& 1431655765) ≤ 256 * a + b := by
  have e : (256 * a + b) / 2 = 256 * (a / 2) + (128 * (a % 2) + b / 2) := by omega
  have h1 := bc_c1 (a % 2) (by omega) b hb
  have h2 := bc_a1 a ha
  have h3 := (bc_b1 a ha).1
  have h : ((256 * a + b) / 2 &&& 1431655765) = 256 * (a / 2 &&& 1431655765) + (b / 2 &&& 1431655765) := by
    rw [e, show 1431655765 = 256 * 5592405 + 85 from rfl, and_split (by omega) (by omega)]
    rw [show 256 * 5592405 + 85 = 1431655765 from rfl, h1.1, h2]
  refine ⟨?_, ?_⟩
  · unfold bc1
    rw [h]
    omega
  · rw [h]; omega
theorem bc_a2 : ∀ a, a < 256 → (a &&& 3355443) = (a &&& 858993459) ∧ (a / 4 &&& 3355443) = (a / 4 &&& 858993459) ∧ a &&& 51 = a &&& 858993459 := by decide +kernel
theorem bc_c2 : ∀ p, p < 4 → ∀ b, b < 256 → (64 * p + b / 4) &&& 51 = (b / 4 &&& 858993459) := by decide +kernel
theorem bc_s2 {a b : Nat} (ha : a < 256) (hb : b < 256) : bc2 (256 * a + b) = 256 * bc2 a + bc2 b := by
  have e : (256 * a + b) / 4 = 256 * (a / 4) + (64 * (a % 4) + b / 4) := by omega
  have h1 := bc_c2 (a % 4) (by omega) b hb
  have h2 := bc_a2 a ha
  have h3 := bc_a2 b hb
  have h : ((256 * a + b) / 4 &&& 858993459) = 256 * (a / 4 &&& 858993459) + (b / 4 &&& 858993459) := by
    rw [e, show 858993459 = 256 * 3355443 + 51 from rfl, and_split (by omega) (by omega)]
    rw [show 256 * 3355443 + 51 = 858993459 from rfl, h1, h2.2.1]
  have h' : ((256 * a + b) &&& 858993459) = 256 * (a &&& 858993459) + (b &&& 858993459) := by
    rw [show 858993459 = 256 * 3355443 + 51 from rfl, and_split (by omega) (by omega)]
    rw [show 256 * 3355443 + 51 = 858993459 from rfl, h3.2.2, h2.1]
  unfold bc2
  rw [h, h']
  omega
def bs8 (a : Nat) : Nat := a % 2 + (a / 2 % 2 + (a / 4 % 2 + (a / 8 % 2 + (a / 16 % 2 + (a / 32 % 2 + (a / 64 % 2 + a / 128 % 2))))))
/-- what a byte's bits come to after two steps -/
theorem bc_t : ∀ a, a < 256 → bc1 a < 256 ∧ bc2 (bc1 a) ≤ 68 ∧ bc2 (bc1 a) % 16 ≤ 4 ∧ (bc2 (bc1 a) + bc2 (bc1 a) / 16) % 16 = bs8 a ∧ bs8 a ≤ 8 := by decide +kernel
theorem and15 (x : Nat) : x &&& 15 = x % 16 := Nat.and_two_pow_sub_one_eq_mod x 4
theorem and63 (x : Nat) : x &&& 63 = x % 64 := Nat.and_two_pow_sub_one_eq_mod x 6
theorem bc_a3 : ∀ x, x < 128 → x &&& 986895 = x % 16 := by decide +kernel
theorem bc_s3 {A B : Nat} (hA : A ≤ 68) (hA2 : A % 16 ≤ 4) (hB : B ≤ 68) : bc3 (256 * A + B) = 256 * ((A + A / 16) % 16) + (B + B / 16) % 16 := by
  unfold bc3
  rw [show 256 * A + B + (256 * A + B) / 16 = 256 * (A + A / 16) + (B + 16 * (A % 16) + B / 16) by omega, show 252645135 = 256 * 986895 + 15 from rfl, and_split (by omega) (by omega), bc_a3 _ (by omega), and15]
  omega
theorem bc_eq {a b : Nat} (ha : a < 256) (hb : b < 256) : bcN (256 * a + b) = bs8 a + bs8 b := by
  obtain ⟨a1, a2, a3, a4, a5⟩ := bc_t a ha
  obtain ⟨b1, b2, b3, b4, b5⟩ := bc_t b hb
  unfold bcN
  rw [(bc_s1 ha hb).1, bc_s2 a1 b1, bc_s3 a2 a3 b2, a4, b4]
  unfold bc5 bc4
  rw [and63]
  generalize bs8 a = x at *
  generalize bs8 b = y at *
  clear a1 a2 a3 a4 b1 b2 b3 b4
  rw [show (256 * x + y) / 256 = x by omega, show (256 * x + y + x) / 65536 = 0 by omega]
  omega
theorem bc_sz {a b : Nat} (ha : a < 256) (hb : b < 256) : bc1 (256 * a + b) < 65536 ∧ bc2 (bc1 (256 * a + b)) < 65536 ∧ bc3 (bc2 (bc1 (256 * a + b))) < 65536 := by
  obtain ⟨a1, a2, a3, a4, a5⟩ := bc_t a ha
  obtain ⟨b1, b2, b3, b4, b5⟩ := bc_t b hb
  rw [(bc_s1 ha hb).1, bc_s2 a1 b1, bc_s3 a2 a3 b2]
  omega
theorem bs8_hi (v : Nat) : bs8 (v / 256) = v / 256 % 2 + (v / 512 % 2 + (v / 1024 % 2 + (v / 2048 % 2 + (v / 4096 % 2 + (v / 8192 % 2 + (v / 16384 % 2 + v / 32768 % 2)))))) := by
  unfold bs8
  simp only [Nat.div_div_eq_div_mul]
theorem bs8_lo (v : Nat) : bs8 (v % 256) = v % 2 + (v / 2 % 2 + (v / 4 % 2 + (v / 8 % 2 + (v / 16 % 2 + (v / 32 % 2 + (v / 64 % 2 + v / 128 % 2)))))) := by
  unfold bs8
  rw [show v % 256 % 2 = v % 2 by omega, show v % 256 / 2 % 2 = v / 2 % 2 by omega, show v % 256 / 4 % 2 = v / 4 % 2 by omega, show v % 256 / 8 % 2 = v / 8 % 2 by omega, show v % 256 / 16 % 2 = v / 16 % 2 by omega, show v % 256 / 32 % 2 = v / 32 % 2 by omega, show v % 256 / 64 % 2 = v / 64 % 2 by omega, show v % 256 / 128 % 2 = v / 128 % 2 by omega]
theorem nI_and (a b : Nat) : nI a &&& nI b = nI (a &&& b) := by
  apply Int32.toBitVec_inj.mp
  show BitVec.ofNat 32 a &&& BitVec.ofNat 32 b = BitVec.ofNat 32 (a &&& b)
  apply BitVec.eq_of_toNat_eq
  simp [Nat.and_mod_two_pow]
theorem ush {n : Nat} (hn : n < 65536) : ((nI n).toUInt32 >>> ((1 : Int32).toUInt32 &&& Int32.toUInt32 31)).toInt32 = nI (n / 2) ∧ ((nI n).toUInt32 >>> ((2 : Int32).toUInt32 &&& Int32.toUInt32 31)).toInt32 = nI (n / 4) ∧ ((nI n).toUInt32 >>> ((4 : Int32).toUInt32 &&& Int32.toUInt32 31)).toInt32 = nI (n / 16) ∧ ((nI n).toUInt32 >>> ((8 : Int32).toUInt32 &&& Int32.toUInt32 31)).toInt32 = nI (n / 256) :=
  ⟨pk_ushrN (by omega) 1 1 (by decide), pk_ushrN (by omega) 2 2 (by decide), pk_ushrN (by omega) 4 4 (by decide), pk_ushrN (by omega) 8 8 (by decide)⟩
theorem c_bitCount {v : Nat} (hv : v < 65536) : fJ6_bitCount_0f7a4 (nI v) = some (nI (bs8 (v / 256) + bs8 (v % 256))) := by
  have ev : v = 256 * (v / 256) + v % 256 := by omega
  have sz := bc_sz (a := v / 256) (b := v % 256) (by omega) (by omega)
  have s1 := (bc_s1 (a := v / 256) (b := v % 256) (by omega) (by omega)).2
  have se := bc_eq (a := v / 256) (b := v % 256) (by omega) (by omega)
  rw [← ev] at sz s1 se
  have q1 : nI v - (((nI v).toUInt32 >>> ((1 : Int32).toUInt32 &&& Int32.toUInt32 31)).toInt32 &&& 1431655765) = nI (bc1 v) := by
    rw [(ush hv).1, show (1431655765 : Int32) = nI 1431655765 from rfl, nI_and, pk_sub s1]
    rfl
  have q2 : (nI (bc1 v) &&& 858993459) + (((nI (bc1 v)).toUInt32 >>> ((2 : Int32).toUInt32 &&& Int32.toUInt32 31)).toInt32 &&& 858993459) = nI (bc2 (bc1 v)) := by
    rw [(ush sz.1).2.1, show (858993459 : Int32) = nI 858993459 from rfl, nI_and, nI_and, nI_add]
    rfl
  have q3 : (nI (bc2 (bc1 v)) + ((nI (bc2 (bc1 v))).toUInt32 >>> ((4 : Int32).toUInt32 &&& Int32.toUInt32 31)).toInt32) &&& 252645135 = nI (bc3 (bc2 (bc1 v))) := by
    rw [(ush sz.2.1).2.2.1, show (252645135 : Int32) = nI 252645135 from rfl, nI_add, nI_and]
    rfl
  have q4 : nI (bc3 (bc2 (bc1 v))) + ((nI (bc3 (bc2 (bc1 v)))).toUInt32 >>> ((8 : Int32).toUInt32 &&& Int32.toUInt32 31)).toInt32 = nI (bc4 (bc3 (bc2 (bc1 v)))) := by
    rw [(ush sz.2.2).2.2.2, nI_add]
    rfl
  have l4 : bc4 (bc3 (bc2 (bc1 v))) < 2 ^ 32 := by
    unfold bc4
    omega
  have q5 : (nI (bc4 (bc3 (bc2 (bc1 v)))) + ((nI (bc4 (bc3 (bc2 (bc1 v))))).toUInt32 >>> ((16 : Int32).toUInt32 &&& Int32.toUInt32 31)).toInt32) &&& 63 = nI (bcN v) := by
    rw [pk_ushrN l4 16 16 (by decide), show (63 : Int32) = nI 63 from rfl, nI_add, nI_and]
    rfl
  unfold fJ6_bitCount_0f7a4
  simp only [q1, q2, q3, q4, q5, se]
theorem bit_n {v l : Nat} (hv : v < 65536) (hl : l < 16) : (nI v >>> (nI l &&& 31)) &&& 1 = nI (v / 2 ^ l % 2) := by
  rw [pk_shrN (by omega) _ l (s_l l (by omega)), pk_andN (Nat.lt_of_le_of_lt (Nat.div_le_self _ _) (by omega)) 1 (by decide)]
theorem bits_sum {v : Nat} (hv : v < 65536) : sumZ (fun l => (nI v >>> (nI l &&& 31)) &&& 1) 0 16 = nI (bs8 (v / 256) + bs8 (v % 256)) := by
  rw [sumZ_congr (h := fun l => nI (v / 2 ^ l % 2)) 16 0 (fun l _ hl => bit_n hv (by omega))]
  rw [show sumZ (fun l => nI (v / 2 ^ l % 2)) 0 16 = nI (v / 1 % 2) + (nI (v / 2 % 2) + (nI (v / 4 % 2) + (nI (v / 8 % 2) + (nI (v / 16 % 2) + (nI (v / 32 % 2) + (nI (v / 64 % 2) + (nI (v / 128 % 2) + (nI (v / 256 % 2) + (nI (v / 512 % 2) + (nI (v / 1024 % 2) + (nI (v / 2048 % 2) + (nI (v / 4096 % 2) + (nI (v / 8192 % 2) + (nI (v / 16384 % 2) + (nI (v / 32768 % 2) + 0))))))))))))))) from rfl]
  rw [Int32.add_zero, bs8_hi, bs8_lo, Nat.div_one]
  simp only [nI_add]
  congr 1
  generalize v % 2 = a0
  generalize v / 2 % 2 = a1
  generalize v / 4 % 2 = a2
  generalize v / 8 % 2 = a3
  generalize v / 16 % 2 = a4
  generalize v / 32 % 2 = a5
  generalize v / 64 % 2 = a6
  generalize v / 128 % 2 = a7
  generalize v / 256 % 2 = a8
  generalize v / 512 % 2 = a9
  generalize v / 1024 % 2 = b0
  generalize v / 2048 % 2 = b1
  generalize v / 4096 % 2 = b2
  generalize v / 8192 % 2 = b3
  generalize v / 16384 % 2 = b4
  generalize v / 32768 % 2 = b5
  omega
