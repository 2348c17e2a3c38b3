/-! the text of a hall: the reference's rows behind a statement -/
section
variable {b : Int → Int} {n p e w : Int} {H : Hal} {M M' : Mem} {Q : Int → Mem → Prop}
theorem rK_e (hT : rK b n p e M) (h : ∀ j, 2 ≤ j → j ≤ 6 → M' 66 j = M 66 j) (h67 : M' 67 = M 67) : rK b n p e M' := by
  unfold rK rT at hT ⊢
  rw [h 2 (by decide) (by decide), h 3 (by decide) (by decide), h 4 (by decide) (by decide), h 5 (by decide) (by decide), h 6 (by decide) (by decide), h67]
  exact hT
theorem tR_1 {q i x : Int} (h : (q = 66 ∧ (i = 35 ∨ i = 36 ∨ i = 37)) ∨ (q = 85 ∧ i < 3) ∨ (q = 86 ∧ i < 20) ∨ (q = 87 ∧ i < 54) ∨ (q = 88 ∧ i < 162) ∨ (q = 89 ∧ i < 12) ∨ (q = 90 ∧ i < 6) ∨ (q = 91 ∧ i < 4)) : tR M (mset M q i x) := by
  refine ⟨fun r a1 a2 a3 a4 a5 a6 a7 a8 => mset_p (by omega), fun j hj => ?_, fun j hj => ?_, fun j hj => ?_, fun j hj => ?_, fun j hj => ?_, fun j hj => ?_, fun j hj => ?_, fun j hj => ?_⟩ <;> (rw [ms, if_neg (by omega)])
theorem Dr_W (hD : Dr H w M) {c : Int} : Dr (uW H c) (w + 1) (mset (mset M 87 c 1) 66 37 (w + 1)) := by
  obtain ⟨N, hN⟩ : ∃ N, N = mset (mset M 87 c 1) 66 37 (w + 1) := ⟨_, rfl⟩
  rw [← hN]
  obtain ⟨d1, d2, d3, d4, d5, d6⟩ := hD
  have e0 : uW H c 0 = H 0 := uW_o (by decide)
  have q : ∀ j, j ≠ 66 → j ≠ 87 → N j = M j := fun j a1 a2 => by rw [hN, mset_p a1, mset_p a2]
  have qj : ∀ j, j ≠ 37 → N 66 j = M 66 j := fun j a1 => by rw [hN, mset_k a1, mset_o (by decide)]
  refine ⟨?_, fun i x y => ?_, ?_, ?_, ?_, ?_⟩
  · rw [qj 35 (by decide), qj 36 (by decide), q 85 (by decide) (by decide), q 91 (by decide) (by decide), e0]
    exact ⟨d1.1, d1.2.1, by rw [hN, mset_e], d1.2.2.2⟩
  · rw [uW_1, hN, mset_o (by decide)]
    by_cases z : i = c
    · rw [if_pos z, z, mset_e]
    · rw [if_neg z, mset_k z]; exact d2 i x y
  · rw [e0, q 90 (by decide) (by decide), uW_o (f := 2) (by decide)]; exact d3
  · rw [e0, q 89 (by decide) (by decide), q 86 (by decide) (by decide), uW_o (f := 4) (by decide), uW_o (f := 5) (by decide), uW_o (f := 6) (by decide), uW_o (f := 16) (by decide)]; exact d4
  · rw [e0, q 88 (by decide) (by decide), q 86 (by decide) (by decide), uW_o (f := 7) (by decide), uW_o (f := 8) (by decide), uW_o (f := 9) (by decide), uW_o (f := 10) (by decide), uW_o (f := 11) (by decide), uW_o (f := 12) (by decide), uW_o (f := 16) (by decide)]; exact d5
  · rw [e0, q 88 (by decide) (by decide), uW_o (f := 12) (by decide), uW_o (f := 13) (by decide)]; exact d6
theorem Dr_D (hD : Dr H w M) {c : Int} : Dr (uD H c) w (mset (mset M 90 (H 0 2) c) 85 2 (H 0 2 + 1)) := by
  obtain ⟨N, hN⟩ : ∃ N, N = mset (mset M 90 (H 0 2) c) 85 2 (H 0 2 + 1) := ⟨_, rfl⟩
  rw [← hN]
  obtain ⟨d1, d2, d3, d4, d5, d6⟩ := hD
  have u0 : ∀ i, i ≠ 2 → uD H c 0 i = H 0 i := fun i hi => by rw [uD_0, if_neg hi]
  have u2 : uD H c 0 2 = H 0 2 + 1 := by rw [uD_0, if_pos rfl]
  have uo : ∀ f : Nat, (f = 1 ∨ 3 < f) → uD H c f = H f := fun f hf => uD_o (by omega) (by omega) (by omega)
  have q : ∀ j, j ≠ 85 → j ≠ 90 → N j = M j := fun j a1 a2 => by rw [hN, mset_p a1, mset_p a2]
  have qj : ∀ j, j ≠ 2 → N 85 j = M 85 j := fun j a1 => by rw [hN, mset_k a1, mset_o (by decide)]
  refine ⟨?_, ?_, fun k x y => ?_, ?_, ?_, ?_⟩
  · rw [q 66 (by decide) (by decide), qj 1 (by decide), qj 0 (by decide), q 91 (by decide) (by decide), u0 0 (by decide), u0 1 (by decide), u0 3 (by decide), u0 4 (by decide), u0 5 (by decide), u0 6 (by decide), u0 7 (by decide), u0 8 (by decide), u2]
    exact ⟨d1.1, d1.2.1, d1.2.2.1, by rw [hN, mset_e], d1.2.2.2.2⟩
  · rw [q 87 (by decide) (by decide), uo 1 (by omega)]; exact d2
  · rw [u2] at y
    rw [uD_2, hN, mset_o (by decide)]
    by_cases z : k = H 0 2
    · rw [if_pos z, z, mset_e]
    · rw [if_neg z, mset_k z]; exact d3 k x (by omega)
  · rw [u0 3 (by decide), q 89 (by decide) (by decide), q 86 (by decide) (by decide), uo 4 (by omega), uo 5 (by omega), uo 6 (by omega), uo 16 (by omega)]; exact d4
  · rw [u0 4 (by decide), q 88 (by decide) (by decide), q 86 (by decide) (by decide), uo 7 (by omega), uo 8 (by omega), uo 9 (by omega), uo 10 (by omega), uo 11 (by omega), uo 12 (by omega), uo 16 (by omega)]; exact d5
  · rw [u0 4 (by decide), q 88 (by decide) (by decide), uo 12 (by omega), uo 13 (by omega)]; exact d6
theorem Dr_R (hD : Dr H w M) {k v : Int} (hk : k = 5 ∨ k = 6 ∨ k = 7 ∨ k = 8) : Dr (uR H k v) w (mset M 91 (k - 5) v) := by
  obtain ⟨N, hN⟩ : ∃ N, N = mset M 91 (k - 5) v := ⟨_, rfl⟩
  rw [← hN]
  obtain ⟨d1, d2, d3, d4, d5, d6⟩ := hD
  have u : ∀ i, i < 5 → uR H k v 0 i = H 0 i := fun i hi => by rw [uR_0, if_neg (by omega)]
  have uo : ∀ f : Nat, f ≠ 0 → uR H k v f = H f := fun f hf => uR_o hf
  have q : ∀ j, j ≠ 91 → N j = M j := fun j a1 => by rw [hN, mset_p a1]
  have one : ∀ i : Int, M 91 (i - 5) = H 0 i → N 91 (i - 5) = uR H k v 0 i := by
    intro i hi
    rw [uR_0, hN]
    by_cases z : i = k
    · rw [if_pos z, z, mset_e]
    · rw [if_neg z, mset_k (by omega)]; exact hi
  refine ⟨?_, ?_, ?_, ?_, ?_, ?_⟩
  · rw [q 66 (by decide), q 85 (by decide), u 0 (by decide), u 1 (by decide), u 2 (by decide), u 3 (by decide), u 4 (by decide)]
    exact ⟨d1.1, d1.2.1, d1.2.2.1, d1.2.2.2.1, d1.2.2.2.2.1, d1.2.2.2.2.2.1, one 5 d1.2.2.2.2.2.2.1, one 6 d1.2.2.2.2.2.2.2.1, one 7 d1.2.2.2.2.2.2.2.2.1, one 8 d1.2.2.2.2.2.2.2.2.2⟩
  · rw [q 87 (by decide), uo 1 (by decide)]; exact d2
  · rw [u 2 (by decide), q 90 (by decide), uo 2 (by decide)]; exact d3
  · rw [u 3 (by decide), q 89 (by decide), q 86 (by decide), uo 4 (by decide), uo 5 (by decide), uo 6 (by decide), uo 16 (by decide)]; exact d4
  · rw [u 4 (by decide), q 88 (by decide), q 86 (by decide), uo 7 (by decide), uo 8 (by decide), uo 9 (by decide), uo 10 (by decide), uo 11 (by decide), uo 12 (by decide), uo 16 (by decide)]; exact d5
  · rw [u 4 (by decide), q 88 (by decide), uo 12 (by decide), uo 13 (by decide)]; exact d6
theorem Dr_G (hD : Dr H w M) (h3 : 0 ≤ H 0 3 ∧ H 0 3 < 4) (h4 : H 0 4 ≤ 9) {a a' c s l : Int} : Dr (uG H a a' c s l) w (mset (mset (mset (mset (mset M 86 (10 + H 0 3) a') 89 (3 * H 0 3) c) 89 (3 * H 0 3 + 1) s) 89 (3 * H 0 3 + 2) l) 85 1 (H 0 3 + 1)) := by
  obtain ⟨N, hN⟩ : ∃ N, N = mset (mset (mset (mset (mset M 86 (10 + H 0 3) a') 89 (3 * H 0 3) c) 89 (3 * H 0 3 + 1) s) 89 (3 * H 0 3 + 2) l) 85 1 (H 0 3 + 1) := ⟨_, rfl⟩
  rw [← hN]
  obtain ⟨d1, d2, d3, d4, d5, d6⟩ := hD
  have u : ∀ f : Nat, (f = 1 ∨ f = 2 ∨ f = 3 ∨ f = 7 ∨ f = 8 ∨ f = 9 ∨ f = 10 ∨ f = 11 ∨ f = 12 ∨ f = 13 ∨ f = 14) → uG H a a' c s l f = H f := fun f hf => uG_o (by omega) (by omega) (by omega) (by omega) (by omega) (by omega)
  have q : ∀ j, j ≠ 85 → j ≠ 86 → j ≠ 89 → N j = M j := fun j a1 a2 a3 => by rw [hN, mset_p a1, mset_p a3, mset_p a3, mset_p a3, mset_p a2]
  have q85 : ∀ j, j ≠ 1 → N 85 j = M 85 j := fun j a1 => by rw [hN, mset_k a1, mset_o (by decide), mset_o (by decide), mset_o (by decide), mset_o (by decide)]
  have q86 : ∀ j, j ≠ 10 + H 0 3 → N 86 j = M 86 j := fun j a1 => by rw [hN, mset_o (by decide), mset_o (by decide), mset_o (by decide), mset_o (by decide), mset_k a1]
  have q89 : ∀ j, j < 3 * H 0 3 → N 89 j = M 89 j := fun j a1 => by rw [hN, mset_o (by decide), mset_k (by omega), mset_k (by omega), mset_k (by omega), mset_o (by decide)]
  refine ⟨?_, ?_, ?_, fun k x y => ?_, fun i x y => ?_, ?_⟩
  · rw [q 66 (by decide) (by decide) (by decide), q85 2 (by decide), q85 0 (by decide), q 91 (by decide) (by decide) (by decide), uG_0 (by decide), uG_0 (by decide), uG_0 (by decide), uG_03, uG_0 (by decide), uG_0 (by decide), uG_0 (by decide), uG_0 (by decide), uG_0 (by decide)]
    exact ⟨d1.1, d1.2.1, d1.2.2.1, d1.2.2.2.1, by rw [hN, mset_e], d1.2.2.2.2.2⟩
  · rw [q 87 (by decide) (by decide) (by decide), u 1 (by decide)]; exact d2
  · rw [uG_0 (by decide), q 90 (by decide) (by decide) (by decide), u 2 (by decide)]; exact d3
  · rw [uG_03] at y
    rw [uG_4, uG_5, uG_6, uG_16]
    by_cases z : k = H 0 3
    · rw [if_pos z, if_pos z, if_pos z, if_pos (by omega), z]
      refine ⟨?_, ?_, ?_, ?_⟩
      · rw [hN, mset_o (by decide), mset_k (by omega), mset_k (by omega), mset_e]
      · rw [hN, mset_o (by decide), mset_k (by omega), mset_e]
      · rw [hN, mset_o (by decide), mset_e]
      · rw [hN, mset_o (by decide), mset_o (by decide), mset_o (by decide), mset_o (by decide), mset_e]
    · rw [if_neg z, if_neg z, if_neg z, if_neg (by omega), q89 _ (by omega), q89 _ (by omega), q89 _ (by omega), q86 _ (by omega)]
      exact d4 k x (by omega)
  · rw [uG_0 (by decide)] at y
    rw [q 88 (by decide) (by decide) (by decide), u 7 (by decide), u 8 (by decide), u 9 (by decide), u 10 (by decide), u 11 (by decide), u 12 (by decide), uG_16, if_neg (by omega), q86 _ (by omega)]
    exact d5 i x y
  · rw [uG_0 (by decide), q 88 (by decide) (by decide) (by decide), u 12 (by decide), u 13 (by decide)]; exact d6
theorem Dr_P (hD : Dr H w M) (h4 : 0 ≤ H 0 4 ∧ H 0 4 < 9) (h3 : 0 ≤ H 0 3) {a a' c w' d m q k : Int} {st : Int → Int} (q0 : q ≤ 12) (hl : ∀ p, 0 ≤ p → p < H 0 4 → H 12 p ≤ 12)
    (e0 : ∀ j, j ≠ 85 → j ≠ 86 → j ≠ 88 → j ≠ 66 → M' j = M j) (e66 : M' 66 35 = M 66 35 ∧ M' 66 36 = M 66 36 ∧ M' 66 37 = M 66 37) (e85 : ∀ j, j ≠ 0 → M' 85 j = M 85 j) (e850 : M' 85 0 = H 0 4 + 1) (e86 : ∀ j, j ≠ H 0 4 → M' 86 j = M 86 j) (e86P : M' 86 (H 0 4) = a') (e88 : ∀ j, j < 18 * H 0 4 → M' 88 j = M 88 j)
    (rP : M' 88 (18 * H 0 4) = c ∧ M' 88 (18 * H 0 4 + 1) = w' - 60 ∧ M' 88 (18 * H 0 4 + 2) = d ∧ M' 88 (18 * H 0 4 + 3) = m ∧ M' 88 (18 * H 0 4 + 4) = k ∧ M' 88 (18 * H 0 4 + 5) = q) (s2 : ∀ i, 0 ≤ i → i < q → M' 88 (18 * H 0 4 + (6 + i)) = st i) : Dr (uP H a a' c w' d m st q k) w M' := by
  obtain ⟨d1, d2, d3, d4, d5, d6⟩ := hD
  have u : ∀ f : Nat, (f = 1 ∨ f = 2 ∨ f = 3 ∨ f = 4 ∨ f = 5 ∨ f = 6 ∨ f = 15) → uP H a a' c w' d m st q k f = H f := fun f hf => uP_o (by omega) (by omega)
  refine ⟨?_, ?_, ?_, fun i x y => ?_, fun i x y => ?_, fun i j x y z v => ?_⟩
  · rw [e66.1, e66.2.1, e66.2.2, e85 2 (by decide), e85 1 (by decide), e850, e0 91 (by decide) (by decide) (by decide) (by decide), uP_0 (by decide), uP_0 (by decide), uP_0 (by decide), uP_0 (by decide), uP_04, uP_0 (by decide), uP_0 (by decide), uP_0 (by decide), uP_0 (by decide)]
    exact ⟨d1.1, d1.2.1, d1.2.2.1, d1.2.2.2.1, d1.2.2.2.2.1, rfl, d1.2.2.2.2.2.2⟩
  · rw [e0 87 (by decide) (by decide) (by decide) (by decide), u 1 (by decide)]; exact d2
  · rw [uP_0 (by decide), e0 90 (by decide) (by decide) (by decide) (by decide), u 2 (by decide)]; exact d3
  · rw [uP_0 (by decide)] at y
    rw [e0 89 (by decide) (by decide) (by decide) (by decide), u 4 (by decide), u 5 (by decide), u 6 (by decide), uP_16, if_neg (by omega), e86 _ (by omega)]
    exact d4 i x y
  · rw [uP_04] at y
    rw [uP_7, uP_8, uP_9, uP_10, uP_11, uP_12, uP_16]
    by_cases z : i = H 0 4
    · rw [if_pos z, if_pos z, if_pos z, if_pos z, if_pos z, if_pos z, if_pos z, z]
      exact ⟨rP.1, rP.2.1, rP.2.2.1, rP.2.2.2.1, rP.2.2.2.2.1, rP.2.2.2.2.2, e86P⟩
    · rw [if_neg z, if_neg z, if_neg z, if_neg z, if_neg z, if_neg z, if_neg z, e88 _ (by omega), e88 _ (by omega), e88 _ (by omega), e88 _ (by omega), e88 _ (by omega), e88 _ (by omega), e86 _ z]
      exact d5 i x (by omega)
  · rw [uP_04] at y
    rw [uP_12] at v
    rw [uP_13]
    by_cases t : i = H 0 4
    · rw [if_pos t] at v
      rw [if_pos (by omega), show 12 * i + j - 12 * H 0 4 = j by omega, t]
      exact s2 j z v
    · rw [if_neg t] at v
      have := hl i x (by omega)
      rw [if_neg (by omega), e88 _ (by omega)]
      exact d6 i j x (by omega) z v
end
