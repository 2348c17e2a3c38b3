/-! what the class reads of a hall -/
theorem i64bv (a : Nat) (h : a < 18446744073709551616) : (Int64.ofInt (a : Int)).toBitVec = BitVec.ofNat 64 a := by
  apply BitVec.eq_of_toNat_eq
  show (BitVec.ofInt 64 (a : Int)).toNat = _
  rw [BitVec.toNat_ofInt, BitVec.toNat_ofNat]
  omega
theorem bvI64 (x : BitVec 64) (h : x.toNat < 9223372036854775808) : x.toInt = (x.toNat : Int) := BitVec.toInt_eq_toNat_of_lt (by omega)
theorem lor_nat {a b : Nat} (ha : a < 9223372036854775808) (hb : b < 9223372036854775808) : m_lor (a : Int) (b : Int) = ((a ||| b : Nat) : Int) := by
  have e : (BitVec.ofNat 64 a ||| BitVec.ofNat 64 b).toNat = a ||| b := by
    rw [BitVec.toNat_or, BitVec.toNat_ofNat, BitVec.toNat_ofNat, Nat.mod_eq_of_lt (by omega), Nat.mod_eq_of_lt (by omega)]
  have l : a ||| b < 9223372036854775808 := Nat.or_lt_two_pow (n := 63) ha hb
  unfold m_lor
  show ((Int64.ofInt (a : Int)).toBitVec ||| (Int64.ofInt (b : Int)).toBitVec).toInt = _
  rw [i64bv a (by omega), i64bv b (by omega), bvI64 _ (by omega), e]
theorem land1 {a : Nat} (ha : a < 9223372036854775808) : m_land (a : Int) 1 = ((a % 2 : Nat) : Int) := by
  have e : (BitVec.ofNat 64 a &&& BitVec.ofNat 64 1).toNat = a % 2 := by
    rw [BitVec.toNat_and, BitVec.toNat_ofNat, BitVec.toNat_ofNat, Nat.mod_eq_of_lt (by omega), Nat.mod_eq_of_lt (by omega), Nat.and_one_is_mod]
  unfold m_land
  show ((Int64.ofInt (a : Int)).toBitVec &&& (Int64.ofInt ((1 : Nat) : Int)).toBitVec).toInt = _
  rw [i64bv a (by omega), i64bv 1 (by omega), bvI64 _ (by omega), e]
theorem lshl1 : ∀ n : Fin 63, m_lshl 1 ((n : Nat) : Int) = ((2 ^ (n : Nat) : Nat) : Int) := by decide +kernel
theorem lshl_one {n : Int} (h0 : 0 ≤ n) (h1 : n < 63) : m_lshl 1 n = ((2 ^ n.toNat : Nat) : Int) := by
  have := lshl1 ⟨n.toNat, by omega⟩
  simp only [Int.toNat_of_nonneg h0] at this
  exact this
theorem lshr_nat {a p : Nat} (ha : a < 9223372036854775808) (hp : p < 64) : m_lshr (a : Int) (p : Int) = ((a / 2 ^ p : Nat) : Int) := by
  have e1 : ∀ p : Fin 64, (((Int32.ofInt ((p : Nat) : Int)).toInt64 &&& 63).toBitVec.smod 64#64) = BitVec.ofNat 64 p := by decide +kernel
  unfold m_lshr
  show (BitVec.sshiftRight' (Int64.ofInt (a : Int)).toBitVec (((Int32.ofInt (p : Int)).toInt64 &&& 63).toBitVec.smod 64#64)).toInt = _
  rw [e1 ⟨p, hp⟩, i64bv a (by omega), BitVec.sshiftRight', BitVec.toInt_sshiftRight, bvI64 _ (by rw [BitVec.toNat_ofNat]; omega), BitVec.toNat_ofNat, BitVec.toNat_ofNat, Nat.mod_eq_of_lt (by omega), Nat.mod_eq_of_lt (by omega), Int.shiftRight_eq_div_pow]
  norm_cast
theorem lbit {a : Nat} {c : Int} (ha : a < 9223372036854775808) (c0 : 0 ≤ c) (c1 : c < 64) : (m_cmp (m_land (m_lshr (a : Int) c) 1) 1 = 0) ↔ a.testBit c.toNat = true := by
  obtain ⟨p, rfl⟩ := Int.eq_ofNat_of_zero_le c0
  have l : a / 2 ^ p < 9223372036854775808 := Nat.lt_of_le_of_lt (Nat.div_le_self _ _) ha
  rw [lshr_nat ha (by omega), land1 l, Int.toNat_natCast, Nat.testBit_eq_decide_div_mod_eq, decide_eq_true_iff]
  unfold m_cmp
  obtain ⟨x, hx⟩ : ∃ x : Nat, x = a / 2 ^ p % 2 := ⟨_, rfl⟩
  rw [← hx]
  by_cases h1 : ((x : Nat) : Int) < 1
  · rw [if_pos h1]; omega
  · rw [if_neg h1]
    by_cases h2 : ((x : Nat) : Int) = 1
    · rw [if_pos h2]; omega
    · rw [if_neg h2]; omega
section
variable {g : Int} {H : Hal} {M : Mem}
theorem acr (hc : Ch g H M) {c : Int} (hw : 0 < H 0 0) (h0 : 0 ≤ c) : fX1_across M g c = c % H 0 0 := by
  unfold fX1_across
  rw [hc.1.1, if_neg (by omega), Int.tmod_eq_emod_of_nonneg h0]
theorem dwn (hc : Ch g H M) {c : Int} (hw : 0 < H 0 0) (h0 : 0 ≤ c) (h1 : c < 1000) : fX1_down M g c = c / H 0 0 := by
  have := ediv_b h0 hw
  unfold fX1_down
  rw [hc.1.1, if_neg (by omega), Int.tdiv_eq_ediv_of_nonneg h0, wr32_id (by unfold r32; omega)]
theorem dist_c (ho : Hok H) (hc : Ch g H M) {a b : Int} (hw : 0 < H 0 0) (a0 : 0 ≤ a) (a1 : a < 1000) (b0 : 0 ≤ b) (b1 : b < 1000) : fX1_distance M g a b = far H a b := by
  have ea := ediv_b a0 hw
  have eb := ediv_b b0 hw
  have hw9 : H 0 0 ≤ 9 := by rcases ho.1 with z | z <;> omega
  unfold fX1_distance
  rw [acr hc hw a0, acr hc hw b0, dwn hc hw a0 a1, dwn hc hw b0 b1]
  obtain ⟨x, hx⟩ : ∃ x, x = a % H 0 0 - b % H 0 0 := ⟨_, rfl⟩
  obtain ⟨y, hy⟩ : ∃ y, y = a / H 0 0 - b / H 0 0 := ⟨_, rfl⟩
  unfold far
  rw [← hx, ← hy, wr32_id (x := x) (by unfold r32; omega), wr32_id (x := y) (by unfold r32; omega), wr32_id (x := 0 - x) (by unfold r32; omega), wr32_id (x := 0 - y) (by unfold r32; omega)]
  have e1 : (if 0 ≤ x then x else 0 - x) = iabs x := by
    unfold iabs
    by_cases z : 0 ≤ x
    · rw [if_pos z, if_pos z]
    · rw [if_neg z, if_neg z]; omega
  have e2 : (if 0 ≤ y then y else 0 - y) = iabs y := by
    unfold iabs
    by_cases z : 0 ≤ y
    · rw [if_pos z, if_pos z]
    · rw [if_neg z, if_neg z]; omega
  rw [e1, e2]
  have b1' : 0 ≤ iabs x ∧ iabs x ≤ 2000 := by
    unfold iabs
    by_cases z : 0 ≤ x
    · rw [if_pos z]; omega
    · rw [if_neg z]; omega
  have b2' : 0 ≤ iabs y ∧ iabs y ≤ 2000 := by
    unfold iabs
    by_cases z : 0 ≤ y
    · rw [if_pos z]; omega
    · rw [if_neg z]; omega
  exact wad (by omega) (by omega)
/-- the cells around one, as bits -/
def arn (H : Hal) (c r : Int) : Nat → Nat
  | 0 => 0
  | n + 1 => if r < far H c n then arn H c r n else (arn H c r n ||| 2 ^ n)
theorem arn_b (H : Hal) (c r : Int) : ∀ n : Nat, arn H c r n < 2 ^ n ∧ ∀ i : Nat, (arn H c r n).testBit i = (decide (i < n) && decide (far H c i ≤ r))
  | 0 => ⟨by show 0 < 1; decide, fun i => by show Nat.testBit 0 i = _; rw [Nat.zero_testBit]; simp⟩
  | n + 1 => by
    obtain ⟨h1, h2⟩ := arn_b H c r n
    have h3 : 2 ^ n < 2 ^ (n + 1) := Nat.pow_lt_pow_right (by omega) (by omega)
    have e : arn H c r (n + 1) = if r < far H c n then arn H c r n else (arn H c r n ||| 2 ^ n) := rfl
    rw [e]
    by_cases a : r < far H c n
    · rw [if_pos a]
      refine ⟨by omega, fun i => ?_⟩
      rw [h2]
      by_cases b : i = n
      · subst b
        simp
        omega
      · have : decide (i < n) = decide (i < n + 1) := by
          by_cases x : i < n
          · rw [decide_eq_true x, decide_eq_true (by omega)]
          · rw [decide_eq_false x, decide_eq_false (by omega)]
        rw [this]
    · rw [if_neg a]
      refine ⟨or_lt (by omega) h3, fun i => ?_⟩
      rw [Nat.testBit_or, h2, Nat.testBit_two_pow]
      by_cases b : i = n
      · subst b
        simp
        omega
      · have : decide (i < n) = decide (i < n + 1) := by
          by_cases x : i < n
          · rw [decide_eq_true x, decide_eq_true (by omega)]
          · rw [decide_eq_false x, decide_eq_false (by omega)]
        rw [this, decide_eq_false (show ¬ n = i by omega), Bool.or_false]
theorem arn_lp (ho : Hok H) (hc : Ch g H M) {c r : Int} (c0 : 0 ≤ c) (c1 : c < 1000) : ∀ (k n : Nat), (n : Int) + k = H 0 0 * H 0 1 → lX1_cellsAround_5 g k c r (arn H c r n : Nat) n M = (arn H c r (n + k) : Nat)
  | 0, n, _ => rfl
  | k + 1, n, h => by
    have hb := hcells ho
    have hw : 0 < H 0 0 := by
      rcases ho.1 with z | z
      · rw [z.1, z.2.1] at h; omega
      · omega
    have e : lX1_cellsAround_5 g (k + 1) c r (arn H c r n : Nat) n M = lX1_cellsAround_5 g k c r (if r < fX1_distance M g c n then ((arn H c r n : Nat) : Int) else m_lor (arn H c r n : Nat) (m_lshl 1 n)) (n + 1) M := rfl
    have ab := arn_b H c r n
    have h1 : 2 ^ n ≤ 2 ^ 54 := Nat.pow_le_pow_right (by omega) (by omega)
    rw [e, dist_c ho hc hw c0 c1 (by omega) (by omega)]
    have e2 : (if r < far H c n then ((arn H c r n : Nat) : Int) else m_lor (arn H c r n : Nat) (m_lshl 1 n)) = ((arn H c r (n + 1) : Nat) : Int) := by
      show _ = (((if r < far H c n then arn H c r n else (arn H c r n ||| 2 ^ n)) : Nat) : Int)
      by_cases a : r < far H c n
      · rw [if_pos a, if_pos a]
      · rw [if_neg a, if_neg a, lshl_one (by omega) (by omega), Int.toNat_natCast, lor_nat (by omega) (by omega)]
    have e3 : ((n : Int) + 1) = ((n + 1 : Nat) : Int) := by omega
    rw [e2, e3, arn_lp ho hc c0 c1 k (n + 1) (by omega), show n + 1 + k = n + (k + 1) by omega]
theorem arn_c (ho : Hok H) (hc : Ch g H M) {c r : Int} (c0 : 0 ≤ c) (c1 : c < 1000) : fX1_cellsAround M g c r = (arn H c r (H 0 0 * H 0 1).toNat : Nat) := by
  have hb := hcells ho
  unfold fX1_cellsAround
  rw [ccells ho hc, Int.sub_zero]
  have := arn_lp ho hc (r := r) c0 c1 (H 0 0 * H 0 1).toNat 0 (by omega)
  rw [Nat.zero_add] at this
  exact this
theorem arn_lt (ho : Hok H) (c r : Int) : arn H c r (H 0 0 * H 0 1).toNat < 9223372036854775808 := by
  have hb := hcells ho
  have h1 := (arn_b H c r (H 0 0 * H 0 1).toNat).1
  have h2 : 2 ^ (H 0 0 * H 0 1).toNat ≤ 2 ^ 54 := Nat.pow_le_pow_right (by omega) (by omega)
  omega
theorem arn_bit (ho : Hok H) (c r : Int) {d : Int} (d0 : 0 ≤ d) (d1 : d < H 0 0 * H 0 1) : (m_cmp (m_land (m_lshr (arn H c r (H 0 0 * H 0 1).toNat : Nat) d) 1) 1 = 0) ↔ far H c d ≤ r := by
  have hb := hcells ho
  rw [lbit (arn_lt ho c r) d0 (by omega), (arn_b H c r _).2, Bool.and_eq_true, decide_eq_true_iff, decide_eq_true_iff, Int.toNat_of_nonneg d0]
  omega
/-- a step -/
theorem stp_c (ho : Hok H) (hc : Ch g H M) {c : Int} (hf : fre H c) (s : Int) : fX1_stepFrom M g c s = if okc H (c % H 0 0 + dx s) (c / H 0 0 + dy s) then H 0 0 * (c / H 0 0 + dy s) + (c % H 0 0 + dx s) else -1 := by
  have fb := fre_b ho hf
  have e := ediv_b fb.1 (show 0 < H 0 0 by omega)
  have hcl := hcells ho
  have hdx : -1 ≤ dx s ∧ dx s ≤ 1 := by
    unfold dx
    by_cases a : s = 1
    · rw [if_pos a]; omega
    · rw [if_neg a]
      by_cases b : s = 3
      · rw [if_pos b]; omega
      · rw [if_neg b]; omega
  have hdy : -1 ≤ dy s ∧ dy s ≤ 1 := by
    unfold dy
    by_cases a : s = 2
    · rw [if_pos a]; omega
    · rw [if_neg a]
      by_cases b : s = 0
      · rw [if_pos b]; omega
      · rw [if_neg b]; omega
  have ex : (if s = 1 then (1 : Int) else (if s = 3 then ((-1) : Int) else 0)) = dx s := rfl
  have ey : (if s = 2 then (1 : Int) else (if s = 0 then ((-1) : Int) else 0)) = dy s := rfl
  obtain ⟨x, hx⟩ : ∃ x, x = c % H 0 0 + dx s := ⟨_, rfl⟩
  obtain ⟨y, hy⟩ : ∃ y, y = c / H 0 0 + dy s := ⟨_, rfl⟩
  unfold fX1_stepFrom
  rw [acr hc (by omega) fb.1, dwn hc (by omega) fb.1 (by omega), ex, ey, ← hx, ← hy, wr32_id (x := x) (by unfold r32; omega), wr32_id (x := y) (by unfold r32; omega), hc.1.1, hc.1.2.1]
  by_cases a1 : x < 0
  · rw [if_pos a1, if_neg (fun z => by have := z.1; omega)]
  rw [if_neg a1]
  by_cases a2 : H 0 0 ≤ x
  · rw [if_pos a2, if_neg (fun z => by have := z.2.1; omega)]
  rw [if_neg a2]
  by_cases a3 : y < 0
  · rw [if_pos a3, if_neg (fun z => by have := z.2.2.1; omega)]
  rw [if_neg a3]
  by_cases a4 : y < H 0 1
  · rw [if_pos a4]
    have ci := cell_in (w := H 0 0) (t := H 0 1) (x := x) (y := y) (by omega) (by omega) (by omega) a4
    have em : y * H 0 0 = H 0 0 * y := Int.mul_comm _ _
    have hm : 0 ≤ H 0 0 * y := Int.mul_nonneg (by omega) (by omega)
    rw [em, wr32_id (x := H 0 0 * y) (by unfold r32; omega), wr32_id (x := H 0 0 * y + x) (by unfold r32; omega)]
    rcases isFree_eq ho hc (H 0 0 * y + x) with ⟨z1, z2⟩ | ⟨z1, z2⟩
    · rw [z1, if_neg (by decide), if_pos ⟨by omega, by omega, by omega, a4, z2.2.2⟩]
    · rw [z1, if_pos rfl, if_neg (fun z => z2 ⟨ci.1, ci.2, z.2.2.2.2⟩)]
  · rw [if_neg a4, if_neg (fun z => by have := z.2.2.2.1; omega)]
theorem stp_c2 (ho : Hok H) (hc : Ch g H M) {c : Int} (hf : fre H c) (s : Int) : (if fX1_stepFrom M g c s = -1 then c else fX1_stepFrom M g c s) = stp H c s := by
  have fb := fre_b ho hf
  rw [stp_c ho hc hf]
  unfold stp
  by_cases a : okc H (c % H 0 0 + dx s) (c / H 0 0 + dy s)
  · have ci := cell_in a.1 a.2.1 a.2.2.1 a.2.2.2.1
    rw [if_pos a, if_neg (by omega), if_pos a]
  · rw [if_neg a, if_pos rfl, if_neg a]
theorem stepOf_c (ho : Hok H) (hc : Ch g H M) {p : Int} (p0 : 0 ≤ p) (p1 : p < H 0 4) (t : Nat) (ht : t < 1000) : fX4_stepOf M g p t = H 13 (12 * p + (t : Int) % H 12 p) := by
  have hb := ho.2.1
  have c5 := hc.2.2.2.2.1 p p0 p1
  have o7 := ho.2.2.2.2.2.2.1 p p0 p1
  have h12 := o7.2.2.2.2.2.2.2.2
  have e := ediv_b (a := (t : Int)) (b := H 12 p) (by omega) (by omega)
  unfold fX4_stepOf
  rw [rd_get p0 (by omega), c5.2.2.2.2.1, if_neg (by omega), Int.tmod_eq_emod_of_nonneg (by omega), wmu (a := p) (by omega) (by omega), wad (by omega) (by omega), rd_get (by omega) (by omega), show p * 12 + (t : Int) % H 12 p = 12 * p + (t : Int) % H 12 p by omega]
  exact hc.2.2.2.2.2.1 p _ p0 p1 (by omega) (by omega)
end
