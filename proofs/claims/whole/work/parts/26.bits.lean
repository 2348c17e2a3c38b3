/-! sets of people as numbers -/
theorem i32bv (a : Nat) (h : a < 4294967296) : (Int32.ofInt (a : Int)).toBitVec = BitVec.ofNat 32 a := by
  apply BitVec.eq_of_toNat_eq
  show (BitVec.ofInt 32 (a : Int)).toNat = _
  rw [BitVec.toNat_ofInt, BitVec.toNat_ofNat]
  omega
theorem bvI (x : BitVec 32) (h : x.toNat < 2147483648) : x.toInt = (x.toNat : Int) := BitVec.toInt_eq_toNat_of_lt (by omega)
theorem and_nat {a b : Nat} (ha : a < 2147483648) (hb : b < 2147483648) : m_and (a : Int) (b : Int) = ((a &&& b : Nat) : Int) := by
  have e : (BitVec.ofNat 32 a &&& BitVec.ofNat 32 b).toNat = a &&& b := by
    rw [BitVec.toNat_and, BitVec.toNat_ofNat, BitVec.toNat_ofNat, Nat.mod_eq_of_lt (by omega), Nat.mod_eq_of_lt (by omega)]
  have l : a &&& b < 2147483648 := Nat.lt_of_le_of_lt Nat.and_le_left ha
  unfold m_and
  show ((Int32.ofInt (a : Int)).toBitVec &&& (Int32.ofInt (b : Int)).toBitVec).toInt = _
  rw [i32bv a (by omega), i32bv b (by omega), bvI _ (by omega), e]
theorem or_nat {a b : Nat} (ha : a < 2147483648) (hb : b < 2147483648) : m_or (a : Int) (b : Int) = ((a ||| b : Nat) : Int) := by
  have e : (BitVec.ofNat 32 a ||| BitVec.ofNat 32 b).toNat = a ||| b := by
    rw [BitVec.toNat_or, BitVec.toNat_ofNat, BitVec.toNat_ofNat, Nat.mod_eq_of_lt (by omega), Nat.mod_eq_of_lt (by omega)]
  have l : a ||| b < 2147483648 := Nat.or_lt_two_pow (n := 31) ha hb
  unfold m_or
  show ((Int32.ofInt (a : Int)).toBitVec ||| (Int32.ofInt (b : Int)).toBitVec).toInt = _
  rw [i32bv a (by omega), i32bv b (by omega), bvI _ (by omega), e]
theorem shr_small : ∀ p : Fin 32, (Int32.ofInt ((p : Nat) : Int) &&& 31) = Int32.ofNat p := by decide +kernel
theorem shr_nat {a p : Nat} (ha : a < 2147483648) (hp : p < 32) : m_shr (a : Int) (p : Int) = ((a / 2 ^ p : Nat) : Int) := by
  unfold m_shr
  rw [shr_small ⟨p, hp⟩]
  show (BitVec.sshiftRight' (Int32.ofInt (a : Int)).toBitVec ((Int32.ofNat p).toBitVec.smod 32#32)).toInt = _
  have e : ((Int32.ofNat p).toBitVec.smod 32#32) = BitVec.ofNat 32 p := by
    have : ∀ p : Fin 32, ((Int32.ofNat p).toBitVec.smod 32#32) = BitVec.ofNat 32 p := by decide +kernel
    exact this ⟨p, hp⟩
  rw [e, i32bv a (by omega), BitVec.sshiftRight', BitVec.toInt_sshiftRight, bvI _ (by rw [BitVec.toNat_ofNat]; omega), BitVec.toNat_ofNat, BitVec.toNat_ofNat, Nat.mod_eq_of_lt (by omega), Nat.mod_eq_of_lt (by omega), Int.shiftRight_eq_div_pow]
  norm_cast
def bt (C p : Int) : Bool := C.toNat.testBit p.toNat
theorem and1 {a : Nat} (ha : a < 2147483648) : m_and (a : Int) 1 = ((a % 2 : Nat) : Int) := by
  have := and_nat (a := a) (b := 1) ha (by omega)
  rw [Nat.and_one_is_mod] at this
  exact this
theorem bit_at {a p : Nat} (ha : a < 2147483648) (hp : p < 32) : (m_and (m_shr (a : Int) (p : Int)) 1 = 1) ↔ a.testBit p = true := by
  have l : a / 2 ^ p < 2147483648 := Nat.lt_of_le_of_lt (Nat.div_le_self _ _) ha
  rw [shr_nat ha hp, and1 l, Nat.testBit_eq_decide_div_mod_eq, decide_eq_true_iff]
  exact ⟨fun h => by exact_mod_cast h, fun h => by exact_mod_cast h⟩
theorem hasBit_eq {C p : Int} (h0 : 0 ≤ C) (h1 : C < 2147483648) (hp : 0 ≤ p) (hp1 : p < 31) : fX11_hasBit C p = if bt C p then 1 else 0 := by
  obtain ⟨a, rfl⟩ := Int.eq_ofNat_of_zero_le h0
  obtain ⟨q, rfl⟩ := Int.eq_ofNat_of_zero_le hp
  unfold fX11_hasBit bt
  rw [if_neg (by omega), if_neg (by omega)]
  have := bit_at (a := a) (p := q) (by omega) (by omega)
  by_cases h : a.testBit q = true
  · rw [if_pos (this.mpr h)]
    simp [h]
  · rw [if_neg (fun z => h (this.mp z))]
    simp [h]
