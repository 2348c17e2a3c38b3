/-! more of bits -/
theorem and_any (a : Int) {b : Nat} (hb : b < 2147483648) : m_and a (b : Int) = (((a % 4294967296).toNat &&& b : Nat) : Int) := by
  have hx : (Int32.ofInt a).toBitVec.toNat = (a % 4294967296).toNat := by
    show (BitVec.ofInt 32 a).toNat = _
    rw [BitVec.toNat_ofInt]
    rfl
  have l : (a % 4294967296).toNat &&& b < 2147483648 := Nat.lt_of_le_of_lt Nat.and_le_right hb
  have e : ((Int32.ofInt a).toBitVec &&& BitVec.ofNat 32 b).toNat = (a % 4294967296).toNat &&& b := by
    rw [BitVec.toNat_and, hx, BitVec.toNat_ofNat, Nat.mod_eq_of_lt (by omega : b < 2 ^ 32)]
  unfold m_and
  show ((Int32.ofInt a).toBitVec &&& (Int32.ofInt (b : Int)).toBitVec).toInt = _
  rw [i32bv b (by omega), bvI _ (by omega), e]
theorem and_mask (a : Int) (k : Nat) (hk : k ≤ 31) : m_and a (((2 ^ k - 1 : Nat)) : Int) = a % (2 ^ k : Nat) := by
  have h1 : 2 ^ k ≤ 2 ^ 31 := Nat.pow_le_pow_right (by omega) hk
  have h2 : 0 < 2 ^ k := Nat.pos_of_ne_zero (by simp)
  rw [and_any a (by omega), Nat.and_two_pow_sub_one_eq_mod]
  have h3 : (a % 4294967296 : Int) = (((a % 4294967296).toNat : Nat) : Int) := by omega
  rw [Int.natCast_emod, ← h3]
  have h4 : ((2 ^ k : Nat) : Int) ∣ 4294967296 := by
    have : (2 ^ k : Nat) ∣ 4294967296 := (Nat.pow_dvd_pow 2 (by omega : k ≤ 32))
    exact Int.natCast_dvd_natCast.mpr this
  exact Int.emod_emod_of_dvd a h4
theorem and31 (a : Int) : m_and a 31 = a % 32 := and_mask a 5 (by omega)
theorem and255 (a : Int) : m_and a 255 = a % 256 := and_mask a 8 (by omega)
theorem andmax (a : Int) : m_and a 2147483647 = a % 2147483648 := and_mask a 31 (by omega)
theorem shl1 : ∀ n : Fin 31, m_shl 1 ((n : Nat) : Int) = ((2 ^ (n : Nat) : Nat) : Int) := by decide +kernel
theorem shl_one {n : Int} (h0 : 0 ≤ n) (h1 : n < 31) : m_shl 1 n = ((2 ^ n.toNat : Nat) : Int) := by
  have := shl1 ⟨n.toNat, by omega⟩
  simp only [Int.toNat_of_nonneg h0] at this
  exact this
theorem i32bvI (a : Int) : (Int32.ofInt a).toBitVec.toNat = (a % 4294967296).toNat := by
  show (BitVec.ofInt 32 a).toNat = _
  rw [BitVec.toNat_ofInt]
  rfl
theorem xor_m1 {b : Nat} (hb : b < 2147483648) : (Int32.ofInt (m_xor (b : Int) (-1))).toBitVec.toNat = 4294967295 - b := by
  unfold m_xor
  rw [Int32.ofInt_toInt]
  show ((Int32.ofInt (b : Int)).toBitVec ^^^ (Int32.ofInt (-1)).toBitVec).toNat = _
  rw [i32bv b (by omega)]
  have : (Int32.ofInt (-1)).toBitVec = BitVec.allOnes 32 := by decide +kernel
  rw [this, BitVec.xor_allOnes, BitVec.toNat_not, BitVec.toNat_ofNat, Nat.mod_eq_of_lt (by omega)]
theorem andn_iff (a : Int) {b : Nat} (hb : b < 2147483648) : m_and a (m_xor (b : Int) (-1)) = 0 ↔ ∀ i, i < 32 → (a % 4294967296).toNat.testBit i = true → b.testBit i = true := by
  have h1 : m_and a (m_xor (b : Int) (-1)) = 0 ↔ (a % 4294967296).toNat &&& (4294967295 - b) = 0 := by
    unfold m_and
    have e : ((Int32.ofInt a).toBitVec &&& (Int32.ofInt (m_xor (b : Int) (-1))).toBitVec).toNat = (a % 4294967296).toNat &&& (4294967295 - b) := by
      rw [BitVec.toNat_and, xor_m1 hb, i32bvI]
    constructor
    · intro z
      have z2 : ((Int32.ofInt a).toBitVec &&& (Int32.ofInt (m_xor (b : Int) (-1))).toBitVec).toInt = 0 := z
      have z3 : ((Int32.ofInt a).toBitVec &&& (Int32.ofInt (m_xor (b : Int) (-1))).toBitVec) = 0#32 := BitVec.eq_of_toInt_eq (by rw [z2]; rfl)
      rw [← e, z3]
      rfl
    · intro z
      rw [← e] at z
      have z3 : ((Int32.ofInt a).toBitVec &&& (Int32.ofInt (m_xor (b : Int) (-1))).toBitVec) = 0#32 := BitVec.eq_of_toNat_eq (by rw [z]; rfl)
      show ((Int32.ofInt a).toBitVec &&& (Int32.ofInt (m_xor (b : Int) (-1))).toBitVec).toInt = 0
      rw [z3]
      rfl
  rw [h1]
  have ht : ∀ i, (4294967295 - b).testBit i = (decide (i < 32) && !b.testBit i) := by
    intro i
    have : (4294967295 - b) = 2 ^ 32 - (b + 1) := by omega
    rw [this, Nat.testBit_two_pow_sub_succ (by omega)]
  constructor
  · intro z i hi hb1
    have z2 : ((a % 4294967296).toNat &&& (4294967295 - b)).testBit i = false := by rw [z]; exact Nat.zero_testBit i
    rw [Nat.testBit_and, ht, hb1] at z2
    simpa [hi] using z2
  · intro z
    apply Nat.eq_of_testBit_eq
    intro i
    rw [Nat.testBit_and, ht, Nat.zero_testBit]
    by_cases hi : i < 32
    · cases hx : (a % 4294967296).toNat.testBit i with
      | false => simp
      | true => simp [z i hi hx]
    · simp [hi]
theorem andn_all (a : Int) (ha : r32 a) (n : Nat) (hn : n ≤ 30) : m_and a (m_xor ((2 ^ n - 1 : Nat) : Int) (-1)) = 0 ↔ 0 ≤ a ∧ a < (2 ^ n : Nat) := by
  have h1 : 2 ^ n ≤ 2 ^ 30 := Nat.pow_le_pow_right (by omega) hn
  have h2 : 0 < 2 ^ n := Nat.pos_of_ne_zero (by simp)
  rw [andn_iff a (by omega)]
  unfold r32 at ha
  constructor
  · intro z
    by_cases h0 : (a % 4294967296).toNat < 2 ^ n
    · have : (a % 4294967296).toNat < 1073741824 := by omega
      refine ⟨by omega, ?_⟩
      have e : ((a % 4294967296).toNat : Int) = a % 4294967296 := by omega
      have e2 : (((a % 4294967296).toNat : Nat) : Int) < ((2 ^ n : Nat) : Int) := Int.ofNat_lt.mpr h0
      omega
    · exfalso
      obtain ⟨i, hi, hb⟩ := Nat.exists_ge_and_testBit_of_ge_two_pow (by omega : 2 ^ n ≤ (a % 4294967296).toNat)
      have hi2 : i < 32 := by
        by_cases h : i < 32
        · exact h
        · have : (a % 4294967296).toNat.testBit i = false := Nat.testBit_lt_two_pow (Nat.lt_of_lt_of_le (by omega : (a % 4294967296).toNat < 2 ^ 32) (Nat.pow_le_pow_right (by omega) (by omega)))
          rw [this] at hb
          cases hb
      have := z i hi2 hb
      rw [Nat.testBit_two_pow_sub_one] at this
      simp at this
      omega
  · rintro ⟨h0, h3⟩ i hi hb
    rw [Nat.testBit_two_pow_sub_one]
    have h4 : (a % 4294967296).toNat < 2 ^ n := by omega
    by_cases h : i < n
    · simp [h]
    · have : (a % 4294967296).toNat.testBit i = false := Nat.testBit_lt_two_pow (Nat.lt_of_lt_of_le h4 (Nat.pow_le_pow_right (by omega) (by omega)))
      rw [this] at hb
      cases hb
