/-! bits once more -/
theorem bit_and {w p : Nat} (hw : w < 2147483648) (hp : p < 31) : m_and (w : Int) (m_shl 1 (p : Int)) = 0 ↔ w.testBit p = false := by
  have h1 : 2 ^ p ≤ 2 ^ 30 := Nat.pow_le_pow_right (by omega) (by omega)
  rw [shl_one (by omega) (by omega), Int.toNat_natCast, and_nat hw (by omega)]
  have e : w &&& 2 ^ p = if w.testBit p then 2 ^ p else 0 := by
    apply Nat.eq_of_testBit_eq
    intro i
    rw [Nat.testBit_and, Nat.testBit_two_pow]
    by_cases c : p = i
    · subst c
      cases h : w.testBit p with
      | true => simp
      | false => simp
    · cases h : w.testBit p with
      | true => simp [c, Nat.testBit_two_pow]
      | false => simp [c]
  have h2 : 0 < 2 ^ p := Nat.pos_of_ne_zero (by simp)
  rw [e]
  cases h : w.testBit p with
  | true =>
    rw [if_pos rfl]
    constructor
    · intro z
      omega
    · intro z
      cases z
  | false => simp
theorem clrb {w p : Nat} (hw : w < 2147483648) (hp : p < 31) : ∃ w' : Nat, m_and (w : Int) (m_xor (m_shl 1 (p : Int)) (-1)) = (w' : Int) ∧ w' ≤ w ∧ ∀ i, w'.testBit i = (w.testBit i && !decide (i = p)) := by
  have h1 : 2 ^ p ≤ 2 ^ 30 := Nat.pow_le_pow_right (by omega) (by omega)
  refine ⟨w &&& (4294967295 - 2 ^ p), ?_, Nat.and_le_left, fun i => ?_⟩
  · rw [shl_one (by omega) (by omega), Int.toNat_natCast]
    have l : w &&& (4294967295 - 2 ^ p) < 2147483648 := Nat.lt_of_le_of_lt Nat.and_le_left hw
    unfold m_and
    show ((Int32.ofInt (w : Int)).toBitVec &&& (Int32.ofInt (m_xor ((2 ^ p : Nat) : Int) (-1))).toBitVec).toInt = _
    have e : ((Int32.ofInt (w : Int)).toBitVec &&& (Int32.ofInt (m_xor ((2 ^ p : Nat) : Int) (-1))).toBitVec).toNat = w &&& (4294967295 - 2 ^ p) := by
      rw [BitVec.toNat_and, xor_m1 (by omega), i32bvI]
      congr 1
      omega
    rw [bvI _ (by omega), e]
  · have ht : (4294967295 - 2 ^ p).testBit i = (decide (i < 32) && !(2 ^ p).testBit i) := by
      have : (4294967295 - 2 ^ p) = 2 ^ 32 - (2 ^ p + 1) := by omega
      rw [this, Nat.testBit_two_pow_sub_succ (by omega)]
    rw [Nat.testBit_and, ht, Nat.testBit_two_pow]
    by_cases c : i < 32
    · rw [decide_eq_true c, Bool.true_and]
      by_cases d : i = p
      · subst d; simp
      · rw [decide_eq_false d, decide_eq_false (show ¬ p = i by omega)]
    · have : w.testBit i = false := Nat.testBit_lt_two_pow (Nat.lt_of_lt_of_le (by omega : w < 2 ^ 31) (Nat.pow_le_pow_right (by omega) (by omega)))
      rw [this]
      simp
theorem bc512 : ∀ N : Fin 512, fJ6_bitCount_0f7a4 ((N : Nat) : Int) = cnt (fun p => (N : Nat).testBit p.toNat) 9 := by decide +kernel
theorem bc_eq {w : Nat} (hw : w < 512) : fJ6_bitCount_0f7a4 (w : Int) = cnt (fun p => w.testBit p.toNat) 9 := bc512 ⟨w, hw⟩
theorem cnt_ext {f : Int → Bool} {n : Nat} : ∀ d : Nat, (∀ i : Int, n ≤ i → i < n + d → f i = false) → cnt f (n + d) = cnt f n
  | 0, _ => rfl
  | d + 1, h => by
    show cnt f (n + d) + (if f ((n + d : Nat) : Int) then 1 else 0) = cnt f n
    rw [cnt_ext d (fun i a b => h i a (by omega)), h ((n + d : Nat) : Int) (by omega) (by omega)]
    rw [if_neg (by decide)]
    omega
theorem bc_p {w P : Nat} (hP : P ≤ 9) (hw : w < 2 ^ P) : fJ6_bitCount_0f7a4 (w : Int) = cnt (fun p => w.testBit p.toNat) P := by
  have h1 : 2 ^ P ≤ 2 ^ 9 := Nat.pow_le_pow_right (by omega) (by omega)
  rw [bc_eq (by omega)]
  have := cnt_ext (f := fun p => w.testBit p.toNat) (n := P) (9 - P) (fun i a b => Nat.testBit_lt_two_pow (Nat.lt_of_lt_of_le hw (Nat.pow_le_pow_right (by omega) (by omega))))
  rw [show P + (9 - P) = 9 by omega] at this
  exact this
theorem two_pow_int (n : Nat) : (2 : Int) ^ n = ((2 ^ n : Nat) : Int) := by norm_cast
theorem hasBit_n {w : Nat} {p : Int} (hw : w < 2147483648) (hp : 0 ≤ p) (hp1 : p < 31) : fX11_hasBit (w : Int) p = if w.testBit p.toNat then 1 else 0 := by
  rw [hasBit_eq (by omega) (by omega) hp hp1]
  rfl
