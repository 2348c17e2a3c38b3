/-! the text of a hall: the class's statements -/
def tfr (g : Int) (M M' : Mem) : Prop := ∀ q, q ≠ 3 → (q < g ∨ g + 16 < q) → M' q = M q
section
variable {b : Int → Int} {n p e g w : Int} {H : Hal} {M M' : Mem} {Q : Int → Mem → Prop}
theorem tfr_c (h : cfr M M') : tfr g M M' := fun q x _ => h q x
theorem tfr_t {N : Mem} (h1 : tfr g M N) (h2 : tfr g N M') : tfr g M M' := fun q x y => (h2 q x y).trans (h1 q x y)
theorem tfr_r : tfr g M M := fun _ _ _ => rfl
theorem cK_d (hT : cK b n p e M) (h : ∀ q, q ≤ 3 → M' q = M q) : cK b n p e M' := by
  obtain ⟨⟨ok, t1, t2, t3, t4, t5⟩, k4, k5⟩ := hT
  refine ⟨⟨ok, by rw [h 1 (by decide)]; exact t1, fun k x y => by rw [h 2 (by decide)]; exact t2 k x y, by rw [h 3 (by decide)]; exact t3, by rw [h 3 (by decide)]; exact t4, by rw [h 3 (by decide)]; exact t5⟩, by rw [h 3 (by decide)]; exact k4, by rw [h 3 (by decide)]; exact k5⟩
theorem Dc_W (hg : isG g) (hd : DOK H w) (hD : Dc g H w M) (hw : w < 15) {c : Int} (c0 : 0 ≤ c ∧ c < H 0 0 * H 0 1) (e : M' = mset (mset M (g + 9) c 1) g 11 (w + 1)) : Dc g (uW H c) (w + 1) M' := by
  have hh : 31 < g := by rcases hg with rfl | rfl <;> decide
  obtain ⟨⟨c1, c2, c3, c4, c5, c6, c7⟩, d1, d2⟩ := hD
  have q : ∀ j, j ≠ g → j ≠ g + 9 → M' j = M j := fun j a d => by rw [e, mset_p a, mset_p d]
  have qg : ∀ j, j ≠ 11 → M' g j = M g j := fun j a => by rw [e, mset_k a, mset_o (by omega)]
  have e0 : uW H c 0 = H 0 := uW_o (by decide)
  refine ⟨⟨?_, fun i a d => ?_, ?_, ?_, ?_, ?_, ?_⟩, ?_, ?_⟩
  · rw [qg 9 (by decide), qg 10 (by decide), qg 12 (by decide), qg 13 (by decide), qg 14 (by decide), qg 15 (by decide), qg 16 (by decide), qg 17 (by decide), q (g + 1) (by omega) (by omega), e0]
    exact c1
  · rw [uW_1, e, mset_o (by omega)]
    by_cases z : i = c
    · rw [if_pos z, z, mset_e]
    · rw [if_neg z, mset_k z]; exact c2 i a d
  · rw [e0, q (g + 10) (by omega) (by omega), q (g + 11) (by omega) (by omega), uW_o (f := 2) (by decide), uW_o (f := 3) (by decide)]
    exact c3
  · rw [e0, q (g + 12) (by omega) (by omega), q (g + 13) (by omega) (by omega), q (g + 14) (by omega) (by omega), q (g + 15) (by omega) (by omega), uW_o (f := 4) (by decide), uW_o (f := 5) (by decide), uW_o (f := 6) (by decide), uW_o (f := 15) (by decide)]
    exact c4
  · rw [e0, q (g + 1) (by omega) (by omega), q (g + 2) (by omega) (by omega), q (g + 3) (by omega) (by omega), q (g + 4) (by omega) (by omega), q (g + 5) (by omega) (by omega), q (g + 6) (by omega) (by omega), q (g + 7) (by omega) (by omega), uW_o (f := 7) (by decide), uW_o (f := 8) (by decide), uW_o (f := 9) (by decide), uW_o (f := 10) (by decide), uW_o (f := 11) (by decide), uW_o (f := 12) (by decide), uW_o (f := 14) (by decide)]
    exact c5
  · rw [e0, q (g + 8) (by omega) (by omega), uW_o (f := 12) (by decide), uW_o (f := 13) (by decide)]
    exact c6
  · rw [q (g + 1) (by omega) (by omega)]; exact c7
  · rw [e, mset_e]
  · rw [q (g + 1) (by omega) (by omega), e0]; exact d2
theorem Dc_D (hg : isG g) (hd : DOK H w) (hD : Dc g H w M) (hw : H 0 2 < 6) {c : Int} (e : M' = mset (mset (mset M (g + 10) (H 0 2) c) (g + 11) (H 0 2) 0) g 12 (H 0 2 + 1)) : Dc g (uD H c) w M' := by
  have hh : 31 < g := by rcases hg with rfl | rfl <;> decide
  obtain ⟨⟨c1, c2, c3, c4, c5, c6, c7⟩, d1, d2⟩ := hD
  have hb := hd.1.2.1
  have q : ∀ j, j ≠ g → j ≠ g + 10 → j ≠ g + 11 → M' j = M j := fun j a d f => by rw [e, mset_p a, mset_p f, mset_p d]
  have qg : ∀ j, j ≠ 12 → M' g j = M g j := fun j a => by rw [e, mset_k a, mset_o (by omega), mset_o (by omega)]
  have u0 : ∀ i, i ≠ 2 → uD H c 0 i = H 0 i := fun i hi => by rw [uD_0, if_neg hi]
  have u2 : uD H c 0 2 = H 0 2 + 1 := by rw [uD_0, if_pos rfl]
  have uo : ∀ f : Nat, (f = 1 ∨ 3 < f) → uD H c f = H f := fun f hf => uD_o (by omega) (by omega) (by omega)
  refine ⟨⟨?_, ?_, fun k a d => ?_, ?_, ?_, ?_, ?_⟩, ?_, ?_⟩
  · rw [qg 9 (by decide), qg 10 (by decide), qg 13 (by decide), qg 14 (by decide), qg 15 (by decide), qg 16 (by decide), qg 17 (by decide), q (g + 1) (by omega) (by omega) (by omega), u0 0 (by decide), u0 1 (by decide), u0 3 (by decide), u0 4 (by decide), u0 5 (by decide), u0 6 (by decide), u0 7 (by decide), u0 8 (by decide), u2]
    exact ⟨c1.1, c1.2.1, by rw [e, mset_e], c1.2.2.2⟩
  · rw [q (g + 9) (by omega) (by omega) (by omega), uo 1 (by omega)]; exact c2
  · rw [u2] at d
    have f10 : M' (g + 10) k = if k = H 0 2 then c else M (g + 10) k := by
      rw [e, mset_o (by omega), mset_o (by omega)]
      by_cases z : k = H 0 2
      · rw [if_pos z, z, mset_e]
      · rw [if_neg z, mset_k z]
    have f11 : M' (g + 11) k = if k = H 0 2 then 0 else M (g + 11) k := by
      rw [e, mset_o (by omega)]
      by_cases z : k = H 0 2
      · rw [if_pos z, z, mset_e]
      · rw [if_neg z, mset_k z, mset_o (by omega)]
    rw [uD_2, uD_3, f10, f11]
    by_cases z : k = H 0 2
    · rw [if_pos z, if_pos z, if_pos z, if_pos z]
      exact ⟨rfl, rfl⟩
    · rw [if_neg z, if_neg z, if_neg z, if_neg z]
      exact c3 k a (by omega)
  · rw [u0 3 (by decide), q (g + 12) (by omega) (by omega) (by omega), q (g + 13) (by omega) (by omega) (by omega), q (g + 14) (by omega) (by omega) (by omega), q (g + 15) (by omega) (by omega) (by omega), uo 4 (by omega), uo 5 (by omega), uo 6 (by omega), uo 15 (by omega)]
    exact c4
  · rw [u0 4 (by decide), q (g + 1) (by omega) (by omega) (by omega), q (g + 2) (by omega) (by omega) (by omega), q (g + 3) (by omega) (by omega) (by omega), q (g + 4) (by omega) (by omega) (by omega), q (g + 5) (by omega) (by omega) (by omega), q (g + 6) (by omega) (by omega) (by omega), q (g + 7) (by omega) (by omega) (by omega), uo 7 (by omega), uo 8 (by omega), uo 9 (by omega), uo 10 (by omega), uo 11 (by omega), uo 12 (by omega), uo 14 (by omega)]
    exact c5
  · rw [u0 4 (by decide), q (g + 8) (by omega) (by omega) (by omega), uo 12 (by omega), uo 13 (by omega)]
    exact c6
  · rw [q (g + 1) (by omega) (by omega) (by omega)]; exact c7
  · rw [qg 11 (by decide)]; exact d1
  · rw [q (g + 1) (by omega) (by omega) (by omega), u0 4 (by decide)]; exact d2
theorem Dc_R (hg : isG g) (hD : Dc g H w M) {k v : Int} (hk : k = 5 ∨ k = 6 ∨ k = 7 ∨ k = 8 ∨ k = 0 ∨ k = 1) (e : M' = mset M g (k + 9) v) : Dc g (uR H k v) w M' := by
  have hh : 31 < g := by rcases hg with rfl | rfl <;> decide
  obtain ⟨⟨c1, c2, c3, c4, c5, c6, c7⟩, d1, d2⟩ := hD
  have q : ∀ j, j ≠ g → M' j = M j := fun j a => by rw [e, mset_p a]
  have u4 : uR H k v 0 4 = H 0 4 := by rw [uR_0, if_neg (by omega)]
  have u3 : uR H k v 0 3 = H 0 3 := by rw [uR_0, if_neg (by omega)]
  have u2 : uR H k v 0 2 = H 0 2 := by rw [uR_0, if_neg (by omega)]
  have uo : ∀ f : Nat, f ≠ 0 → uR H k v f = H f := fun f hf => uR_o hf
  have one : ∀ i : Int, M g (i + 9) = H 0 i → M' g (i + 9) = uR H k v 0 i := by
    intro i hi
    rw [uR_0, e]
    by_cases z : i = k
    · rw [if_pos z, z, mset_e]
    · rw [if_neg z, mset_k (by omega)]; exact hi
  refine ⟨⟨⟨one 0 c1.1, one 1 c1.2.1, ?_, ?_, ?_, one 5 c1.2.2.2.2.2.1, one 6 c1.2.2.2.2.2.2.1, one 7 c1.2.2.2.2.2.2.2.1, one 8 c1.2.2.2.2.2.2.2.2⟩, ?_, ?_, ?_, ?_, ?_, ?_⟩, ?_, ?_⟩
  · rw [u2, e, mset_k (by omega)]; exact c1.2.2.1
  · rw [u3, e, mset_k (by omega)]; exact c1.2.2.2.1
  · rw [u4, q (g + 1) (by omega)]; exact c1.2.2.2.2.1
  · rw [q (g + 9) (by omega), uo 1 (by decide)]; exact c2
  · rw [u2, q (g + 10) (by omega), q (g + 11) (by omega), uo 2 (by decide), uo 3 (by decide)]; exact c3
  · rw [u3, q (g + 12) (by omega), q (g + 13) (by omega), q (g + 14) (by omega), q (g + 15) (by omega), uo 4 (by decide), uo 5 (by decide), uo 6 (by decide), uo 15 (by decide)]; exact c4
  · rw [u4, q (g + 1) (by omega), q (g + 2) (by omega), q (g + 3) (by omega), q (g + 4) (by omega), q (g + 5) (by omega), q (g + 6) (by omega), q (g + 7) (by omega), uo 7 (by decide), uo 8 (by decide), uo 9 (by decide), uo 10 (by decide), uo 11 (by decide), uo 12 (by decide), uo 14 (by decide)]; exact c5
  · rw [u4, q (g + 8) (by omega), uo 12 (by decide), uo 13 (by decide)]; exact c6
  · rw [q (g + 1) (by omega)]; exact c7
  · rw [e, mset_k (by omega)]; exact d1
  · rw [q (g + 1) (by omega), u4]; exact d2
theorem Dc_G (hg : isG g) (hd : DOK H w) (hD : Dc g H w M) (hw : H 0 3 < 4) {a a' c s l : Int} (e : M' = mset (mset (mset (mset (mset M (g + 12) (H 0 3) a) (g + 13) (H 0 3) c) (g + 14) (H 0 3) s) (g + 15) (H 0 3) l) g 13 (H 0 3 + 1)) : Dc g (uG H a a' c s l) w M' := by
  have hh : 31 < g := by rcases hg with rfl | rfl <;> decide
  obtain ⟨⟨c1, c2, c3, c4, c5, c6, c7⟩, d1, d2⟩ := hD
  have hb := hd.1.2.1
  have q : ∀ j, j ≠ g → (j < g + 12 ∨ g + 15 < j) → M' j = M j := fun j x d => by rw [e, mset_p x, mset_p (by omega), mset_p (by omega), mset_p (by omega), mset_p (by omega)]
  have qg : ∀ j, j ≠ 13 → M' g j = M g j := fun j x => by rw [e, mset_k x, mset_o (by omega), mset_o (by omega), mset_o (by omega), mset_o (by omega)]
  have u : ∀ f : Nat, (f = 1 ∨ f = 2 ∨ f = 3 ∨ f = 7 ∨ f = 8 ∨ f = 9 ∨ f = 10 ∨ f = 11 ∨ f = 12 ∨ f = 13 ∨ f = 14) → uG H a a' c s l f = H f := fun f hf => uG_o (by omega) (by omega) (by omega) (by omega) (by omega) (by omega)
  refine ⟨⟨?_, ?_, ?_, fun k x d => ?_, ?_, ?_, ?_⟩, ?_, ?_⟩
  · rw [qg 9 (by decide), qg 10 (by decide), qg 12 (by decide), qg 14 (by decide), qg 15 (by decide), qg 16 (by decide), qg 17 (by decide), q (g + 1) (by omega) (by omega), uG_0 (by decide), uG_0 (by decide), uG_0 (by decide), uG_03, uG_0 (by decide), uG_0 (by decide), uG_0 (by decide), uG_0 (by decide), uG_0 (by decide)]
    exact ⟨c1.1, c1.2.1, c1.2.2.1, by rw [e, mset_e], c1.2.2.2.2⟩
  · rw [q (g + 9) (by omega) (by omega), u 1 (by decide)]; exact c2
  · rw [uG_0 (by decide), q (g + 10) (by omega) (by omega), q (g + 11) (by omega) (by omega), u 2 (by decide), u 3 (by decide)]; exact c3
  · rw [uG_03] at d
    rw [uG_4, uG_5, uG_6, uG_15, e]
    by_cases z : k = H 0 3
    · rw [if_pos z, if_pos z, if_pos z, if_pos z, z]
      refine ⟨?_, ?_, ?_, ?_⟩
      · rw [mset_o (by omega), mset_o (by omega), mset_o (by omega), mset_e]
      · rw [mset_o (by omega), mset_o (by omega), mset_e]
      · rw [mset_o (by omega), mset_e]
      · rw [mset_o (by omega), mset_o (by omega), mset_o (by omega), mset_o (by omega), mset_e]
    · rw [if_neg z, if_neg z, if_neg z, if_neg z]
      have o := c4 k x (by omega)
      refine ⟨?_, ?_, ?_, ?_⟩
      · rw [mset_o (by omega), mset_o (by omega), mset_o (by omega), mset_k z, mset_o (by omega)]; exact o.1
      · rw [mset_o (by omega), mset_o (by omega), mset_k z, mset_o (by omega), mset_o (by omega)]; exact o.2.1
      · rw [mset_o (by omega), mset_k z, mset_o (by omega), mset_o (by omega), mset_o (by omega)]; exact o.2.2.1
      · rw [mset_o (by omega), mset_o (by omega), mset_o (by omega), mset_o (by omega), mset_k z]; exact o.2.2.2
  · rw [uG_0 (by decide), q (g + 1) (by omega) (by omega), q (g + 2) (by omega) (by omega), q (g + 3) (by omega) (by omega), q (g + 4) (by omega) (by omega), q (g + 5) (by omega) (by omega), q (g + 6) (by omega) (by omega), q (g + 7) (by omega) (by omega), u 7 (by decide), u 8 (by decide), u 9 (by decide), u 10 (by decide), u 11 (by decide), u 12 (by decide), u 14 (by decide)]; exact c5
  · rw [uG_0 (by decide), q (g + 8) (by omega) (by omega), u 12 (by decide), u 13 (by decide)]; exact c6
  · rw [q (g + 1) (by omega) (by omega)]; exact c7
  · rw [qg 11 (by decide)]; exact d1
  · rw [q (g + 1) (by omega) (by omega), uG_0 (by decide)]; exact d2
/-- what holds of the class's rows behind a person -/
theorem Dc_P (hg : isG g) (hd : DOK H w) (hD : Dc g H w M) (hw : H 0 4 < 9) {a a' c w' d m q k : Int} {st : Int → Int} (k0 : k = 0 ∨ k = 1)
    (e0 : M' g = M g) (e9 : ∀ j, g + 9 ≤ j → j ≤ g + 16 → M' j = M j) (e18 : M' (g + 1) 8 = H 0 4 + 1) (e17 : M' (g + 1) 7 = if k = 1 then m_or (M (g + 1) 7) (m_shl 1 (H 0 4)) else M (g + 1) 7)
    (r : ∀ i, i < H 0 4 → M' (g + 2) i = M (g + 2) i ∧ M' (g + 3) i = M (g + 3) i ∧ M' (g + 4) i = M (g + 4) i ∧ M' (g + 5) i = M (g + 5) i ∧ M' (g + 6) i = M (g + 6) i ∧ M' (g + 7) i = M (g + 7) i)
    (rP : M' (g + 2) (H 0 4) = a ∧ M' (g + 3) (H 0 4) = c ∧ M' (g + 4) (H 0 4) = w' ∧ M' (g + 5) (H 0 4) = d ∧ M' (g + 6) (H 0 4) = m ∧ M' (g + 7) (H 0 4) = q) (s1 : ∀ i, i < 12 * H 0 4 → M' (g + 8) i = M (g + 8) i) (q0 : q ≤ 12) (s2 : ∀ i, 0 ≤ i → i < q → M' (g + 8) (12 * H 0 4 + i) = st i) : Dc g (uP H a a' c w' d m st q k) w M' := by
  have hh : 31 < g := by rcases hg with rfl | rfl <;> decide
  obtain ⟨⟨c1, c2, c3, c4, c5, c6, c7⟩, d1, d2⟩ := hD
  have hb := hd.1.2.1
  have b5 := bits_b hd.1
  have u : ∀ f : Nat, (f = 1 ∨ f = 2 ∨ f = 3 ∨ f = 4 ∨ f = 5 ∨ f = 6 ∨ f = 15) → uP H a a' c w' d m st q k f = H f := fun f hf => uP_o (by omega) (by omega)
  obtain ⟨o, ho⟩ : ∃ o : Nat, M (g + 1) 7 = (o : Int) := ⟨(M (g + 1) 7).toNat, by omega⟩
  have o2 : o < 2 ^ (H 0 4).toNat := by
    rw [ho, two_pow_int] at d2
    omega
  have P4 : (((H 0 4).toNat : Nat) : Int) = H 0 4 := by omega
  -- the bits
  obtain ⟨o', ho', ob, ot⟩ : ∃ o' : Nat, M' (g + 1) 7 = (o' : Int) ∧ o' < 2 ^ ((H 0 4).toNat + 1) ∧ ∀ i : Nat, o'.testBit i = (o.testBit i || (decide (k = 1) && decide (i = (H 0 4).toNat))) := by
    have pp : 2 ^ ((H 0 4).toNat + 1) = 2 ^ (H 0 4).toNat * 2 := Nat.pow_succ ..
    rcases k0 with z | z
    · refine ⟨o, by rw [e17, if_neg (by omega)]; exact ho, by omega, fun i => ?_⟩
      rw [decide_eq_false (show ¬ k = 1 by omega), Bool.false_and, Bool.or_false]
    · refine ⟨o ||| 2 ^ (H 0 4).toNat, ?_, ?_, fun i => ?_⟩
      · rw [e17, if_pos z, ho]
        have := or_bit o2 (show (H 0 4).toNat < 9 by omega)
        rw [P4] at this
        exact this
      · exact or_lt (by omega) (by have : 0 < 2 ^ (H 0 4).toNat := Nat.two_pow_pos _; omega)
      · rw [Nat.testBit_or, Nat.testBit_two_pow, decide_eq_true z, Bool.true_and]
        congr 1
        by_cases y : i = (H 0 4).toNat
        · rw [decide_eq_true y, decide_eq_true y.symm]
        · rw [decide_eq_false y, decide_eq_false (fun v => y v.symm)]
  have pow9 : 2 ^ ((H 0 4).toNat + 1) ≤ 2 ^ 9 := Nat.pow_le_pow_right (by decide) (by omega)
  refine ⟨⟨?_, ?_, ?_, ?_, fun i x y => ?_, fun i j x y z v => ?_, ?_⟩, ?_, ?_⟩
  · rw [e0, e18, uP_0 (by decide), uP_0 (by decide), uP_0 (by decide), uP_0 (by decide), uP_04, uP_0 (by decide), uP_0 (by decide), uP_0 (by decide), uP_0 (by decide)]
    exact ⟨c1.1, c1.2.1, c1.2.2.1, c1.2.2.2.1, rfl, c1.2.2.2.2.2⟩
  · rw [e9 _ (by omega) (by omega), u 1 (by decide)]; exact c2
  · rw [uP_0 (by decide), e9 (g + 10) (by omega) (by omega), e9 (g + 11) (by omega) (by omega), u 2 (by decide), u 3 (by decide)]; exact c3
  · rw [uP_0 (by decide), e9 (g + 12) (by omega) (by omega), e9 (g + 13) (by omega) (by omega), e9 (g + 14) (by omega) (by omega), e9 (g + 15) (by omega) (by omega), u 4 (by decide), u 5 (by decide), u 6 (by decide), u 15 (by decide)]; exact c4
  · rw [uP_04] at y
    rw [uP_7, uP_8, uP_9, uP_10, uP_11, uP_12, uP_14]
    have hbt : bt (M' (g + 1) 7) i = (bt (M (g + 1) 7) i || (decide (k = 1) && decide (i = H 0 4))) := by
      rw [ho', ho, bt_n, bt_n, ot]
      congr 2
      by_cases z : i = H 0 4
      · rw [decide_eq_true z, decide_eq_true (by omega)]
      · rw [decide_eq_false z, decide_eq_false (by omega)]
    rw [hbt]
    by_cases z : i = H 0 4
    · rw [if_pos z, if_pos z, if_pos z, if_pos z, if_pos z, if_pos z, if_pos z, z]
      refine ⟨rP.2.1, rP.2.2.1, rP.2.2.2.1, rP.2.2.2.2.1, rP.2.2.2.2.2, rP.1, ?_⟩
      have nb : bt (M (g + 1) 7) (H 0 4) = false := by
        rw [ho, bt_n]
        exact Nat.testBit_lt_two_pow o2
      rw [nb, Bool.false_or, decide_eq_true (rfl : H 0 4 = H 0 4), Bool.and_true]
      rcases k0 with v | v
      · rw [if_neg (fun t => by have := of_decide_eq_true t; omega)]; exact v
      · rw [if_pos (decide_eq_true v)]; exact v
    · rw [if_neg z, if_neg z, if_neg z, if_neg z, if_neg z, if_neg z, if_neg z]
      have rr := r i (by omega)
      rw [rr.1, rr.2.1, rr.2.2.1, rr.2.2.2.1, rr.2.2.2.2.1, rr.2.2.2.2.2, decide_eq_false z, Bool.and_false, Bool.or_false]
      exact c5 i x (by omega)
  · rw [uP_04] at y
    rw [uP_12] at v
    rw [uP_13]
    by_cases t : i = H 0 4
    · rw [if_pos t] at v
      rw [if_pos (by omega), show 12 * i + j - 12 * H 0 4 = j by omega, t]
      exact s2 j z v
    · rw [if_neg t] at v
      have ob := (hd.1.2.2.2.2.2.2.1 i x (by omega)).2.2.2.2.2.2.2.2
      rw [if_neg (by omega), s1 _ (by omega)]
      exact c6 i j x (by omega) z v
  · rw [ho']
    omega
  · rw [e0]; exact d1
  · rw [uP_04, ho', show (H 0 4 + 1).toNat = (H 0 4).toNat + 1 by omega, two_pow_int]
    omega
end
