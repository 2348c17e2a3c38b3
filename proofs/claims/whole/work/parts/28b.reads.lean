/-! what single reads say -/
theorem rd_get {M : Mem} {p i : Int} {n : Nat} (h0 : 0 ≤ i) (h1 : i < n) : fX11_get M p n i = M p i := by
  unfold fX11_get
  rw [if_neg (by omega), if_neg (by omega)]
theorem isIn_eq (v a b : Int) : fX12_isIn v a b = if a ≤ v ∧ v ≤ b then 1 else 0 := by
  unfold fX12_isIn m_cmp
  by_cases h1 : v < a
  · simp [h1]
    omega
  · by_cases h2 : v = a
    · subst h2
      by_cases h3 : v < b
      · simp [h3, show v ≤ b by omega]
      · by_cases h4 : v = b
        · simp [h4]
        · simp [h3, h4, show ¬ v ≤ b by omega]
    · by_cases h3 : v < b
      · simp [h1, h2, h3, show v ≤ b by omega, show a ≤ v by omega]
      · by_cases h4 : v = b
        · subst h4
          simp [h1, h2, show a ≤ v by omega]
        · simp [h1, h2, h3, h4, show ¬ v ≤ b by omega]
theorem ite01 {c : Prop} [Decidable c] : ((if c then (1 : Int) else 0) = 0) ↔ ¬ c := by
  by_cases h : c <;> simp [h]
theorem ite10 {c : Prop} [Decidable c] : ((if c then (1 : Int) else 0) = 1) ↔ c := by
  by_cases h : c <;> simp [h]
theorem has_eq {g : Int} {H : Hal} {M : Mem} (hc : Ch g H M) (p : Int) : fX4_has M g p = if 0 ≤ p ∧ p < H 0 4 then 1 else 0 := by
  unfold fX4_has
  rw [hc.1.2.2.2.2.1]
  by_cases h1 : p < 0
  · rw [if_pos h1, if_neg (by omega)]
  · by_cases h2 : H 0 4 ≤ p
    · rw [if_neg h1, if_pos h2, if_neg (by omega)]
    · simp [h1, h2, show 0 ≤ p by omega, show p < H 0 4 by omega]
theorem hasGuard_eq {g : Int} {H : Hal} {M : Mem} (hc : Ch g H M) (p : Int) : fX1_hasGuard M g p = if 0 ≤ p ∧ p < H 0 3 then 1 else 0 := by
  unfold fX1_hasGuard
  rw [hc.1.2.2.2.1]
  by_cases h1 : p < 0
  · rw [if_pos h1, if_neg (by omega)]
  · by_cases h2 : H 0 3 ≤ p
    · rw [if_neg h1, if_pos h2, if_neg (by omega)]
    · simp [h1, h2, show 0 ≤ p by omega, show p < H 0 3 by omega]
theorem hasDoor_eq {g : Int} {H : Hal} {M : Mem} (hc : Ch g H M) (p : Int) : fX1_hasDoor M g p = if 0 ≤ p ∧ p < H 0 2 then 1 else 0 := by
  unfold fX1_hasDoor
  rw [hc.1.2.2.1]
  by_cases h1 : p < 0
  · rw [if_pos h1, if_neg (by omega)]
  · by_cases h2 : H 0 2 ≤ p
    · rw [if_neg h1, if_pos h2, if_neg (by omega)]
    · simp [h1, h2, show 0 ≤ p by omega, show p < H 0 2 by omega]
theorem pMany {H : Hal} {M : Mem} (hr : Rh H M) : fX12_peopleMany M = H 0 4 := hr.1.2.2.2.2.1
theorem gMany {H : Hal} {M : Mem} (hr : Rh H M) : fX12_guardMany M = H 0 3 := hr.1.2.2.2.1
theorem dMany {H : Hal} {M : Mem} (hr : Rh H M) : fX12_doorMany M = H 0 2 := hr.1.2.2.1
theorem isPerson_eq {H : Hal} {M : Mem} (ho : Hok H) (hr : Rh H M) (p : Int) : fX12_isPerson M p = if 0 ≤ p ∧ p < H 0 4 then 1 else 0 := by
  have := ho.2.1
  unfold fX12_isPerson
  rw [isIn_eq, pMany hr, wr32_id (by unfold r32; omega)]
  by_cases h : 0 ≤ p ∧ p < H 0 4
  · rw [if_pos h, if_pos (by omega)]
  · rw [if_neg h, if_neg (by omega)]
theorem pOf {M : Mem} {p k : Int} (h0 : 0 ≤ p) (h1 : p < 9) (k0 : 0 ≤ k) (k1 : k < 18) : fX12_personOf M p k = M 88 (162 + 18 * p + k) ∧ nX12_personOf p k := by
  have e : wr32 (wr32 (162 + wr32 (18 * p)) + k) = 162 + 18 * p + k := by
    rw [wr32_id (x := 18 * p) (by unfold r32; omega), wr32_id (x := 162 + 18 * p) (by unfold r32; omega), wr32_id (by unfold r32; omega)]
  unfold fX12_personOf nX12_personOf
  rw [e]
  exact ⟨rfl, by omega, by omega⟩
theorem hcells {H : Hal} (ho : Hok H) : 0 ≤ H 0 0 * H 0 1 ∧ H 0 0 * H 0 1 ≤ 54 := by
  rcases ho.1 with z | z
  · rw [z.1, z.2.1]
    decide
  · refine ⟨Int.mul_nonneg (by omega) (by omega), ?_⟩
    have h1 : H 0 0 * H 0 1 ≤ 9 * H 0 1 := Int.mul_le_mul_of_nonneg_right (by omega) (by omega)
    omega
theorem ccells {g : Int} {H : Hal} {M : Mem} (ho : Hok H) (hc : Ch g H M) : fX1_cells M g = H 0 0 * H 0 1 := by
  have := hcells ho
  unfold fX1_cells
  rw [hc.1.1, hc.1.2.1, wr32_id (by unfold r32; omega)]
theorem rcells {H : Hal} {M : Mem} (ho : Hok H) (hr : Rh H M) : fX12_cells M = H 0 0 * H 0 1 := by
  have := hcells ho
  unfold fX12_cells
  rw [hr.1.1, hr.1.2.1, wr32_id (by unfold r32; omega)]
theorem wallNow {H : Hal} {M : Mem} (hr : Rh H M) {c : Int} (h0 : 0 ≤ c) (h1 : c < 54) : fX12_isWallNow M c = H 1 c ∧ nX12_isWallNow c := by
  have e : wr32 (54 + c) = 54 + c := wr32_id (by unfold r32; omega)
  unfold fX12_isWallNow nX12_isWallNow
  rw [e]
  exact ⟨hr.2.1 c h0 h1, by omega, by omega⟩
theorem isFree_eq {g : Int} {H : Hal} {M : Mem} (ho : Hok H) (hc : Ch g H M) (c : Int) : (fX1_isFree M g c = 1 ∧ fre H c) ∨ (fX1_isFree M g c = 0 ∧ ¬ fre H c) := by
  have hb := hcells ho
  unfold fX1_isFree fre
  rw [ccells ho hc]
  by_cases h1 : c < 0
  · exact Or.inr ⟨by simp [h1], by omega⟩
  · by_cases h2 : H 0 0 * H 0 1 ≤ c
    · exact Or.inr ⟨by simp [h2], by omega⟩
    · rw [if_neg h1, if_neg h2, rd_get (by omega) (by omega), hc.2.1 c (by omega) (by omega)]
      by_cases h3 : H 1 c = 0
      · exact Or.inl ⟨by simp [h3], by omega⟩
      · exact Or.inr ⟨by simp [h3], fun z => h3 z.2.2⟩
theorem nPOf {p k : Int} (h0 : 0 ≤ p) (h1 : p < 9) (k0 : 0 ≤ k) (k1 : k < 18) : nX12_personOf p k := (pOf (M := fun _ _ => 0) h0 h1 k0 k1).2
