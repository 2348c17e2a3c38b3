/-! an image is taken on -/
def okk (H : Hal) (b : Int → Int) (i : Int) : Prop := if i < 3 * H 0 4 then (if i % 3 = 0 then b i ≤ 120 else if i % 3 = 1 then b i ≤ 9 else fre H (b i)) else b i ≤ 1
theorem byteAt_eq {M : Mem} {k : Int} (h0 : 0 ≤ k) (h1 : k < M 1 1) (h2 : M 1 1 ≤ 1600) : fX8_byteAt M k = M 2 k := by
  unfold fX8_byteAt
  rw [if_neg (by omega), if_neg (by omega), if_neg (by omega)]
theorem isi {g : Int} {H : Hal} (ho : Hok H) {M : Mem} (hc : Ch g H M) (hT : iT M) (hl : M 1 1 = ilen H + 1) : ∀ (k : Nat) (v : Int), 0 ≤ v → v + k = ilen H →
    (lX1_isImage_26 g k (ilen H) (chk (M 2) v.toNat) v M = 1 ∧ ((∀ i, v ≤ i → i < ilen H → okk H (M 2) i) ∧ M 2 (ilen H) = chk (M 2) (ilen H).toNat)) ∨ (lX1_isImage_26 g k (ilen H) (chk (M 2) v.toNat) v M = 0 ∧ ¬ ((∀ i, v ≤ i → i < ilen H → okk H (M 2) i) ∧ M 2 (ilen H) = chk (M 2) (ilen H).toNat)) := by
  have hb := ho.2.1
  obtain ⟨t1, t2, t3, t4⟩ := hT
  intro k
  induction k with
  | zero =>
    intro v h0 h1
    have : v = ilen H := by omega
    subst this
    show ((if fX8_byteAt M (ilen H) = chk (M 2) (ilen H).toNat then (1 : Int) else 0) = 1 ∧ _) ∨ ((if fX8_byteAt M (ilen H) = chk (M 2) (ilen H).toNat then (1 : Int) else 0) = 0 ∧ _)
    rw [byteAt_eq h0 (by omega) t2]
    by_cases c : M 2 (ilen H) = chk (M 2) (ilen H).toNat
    · rw [if_pos c]
      exact Or.inl ⟨rfl, fun i a b => by omega, c⟩
    · rw [if_neg c]
      exact Or.inr ⟨rfl, fun z => c z.2⟩
  | succ k ih =>
    intro v h0 h1
    have hv : v < ilen H := by omega
    have b1 := t4 v h0 (by omega)
    have c1 := chk_b (M 2) v.toNat
    have e2 : fX1_checkWith (chk (M 2) v.toNat) (M 2 v) = chk (M 2) (v + 1).toNat := by
      have : (v + 1).toNat = v.toNat + 1 := by omega
      rw [this, chkW c1.1 c1.2 b1.2.1 b1.2.2]
      show _ = (3 * chk (M 2) v.toNat + M 2 (v.toNat : Int)) % 253
      rw [Int.toNat_of_nonneg h0]
    have step : ∃ f : Int, (f = 1 ∧ okk H (M 2) v ∨ f = 0 ∧ ¬ okk H (M 2) v) ∧ lX1_isImage_26 g (k + 1) (ilen H) (chk (M 2) v.toNat) v M = if f = 0 then 0 else lX1_isImage_26 g k (ilen H) (chk (M 2) (v + 1).toNat) (v + 1) M := by
      refine ⟨(if (M (g + 1) 8) ≤ (wr32 (Int.tdiv v 3)) then (if (fX8_byteAt M v) = 0 then (1 : Int) else (if (fX8_byteAt M v) = 1 then (1 : Int) else 0)) else (fX1_mayBe M g (Int.tmod v 3) (fX8_byteAt M v))), ?_, ?_⟩
      · rw [byteAt_eq h0 (by omega) t2, hc.1.2.2.2.2.1, Int.tdiv_eq_ediv_of_nonneg h0, Int.tmod_eq_emod_of_nonneg h0, wr32_id (x := v / 3) (by unfold ilen at hv; unfold r32; omega)]
        unfold okk
        by_cases a : v < 3 * H 0 4
        · rw [if_neg (by omega), if_pos a]
          rcases mayBe_eq ho hc (v % 3) (M 2 v) with ⟨m1, m2⟩ | ⟨m1, m2⟩
          · refine Or.inl ⟨m1, ?_⟩
            rcases m2 with z | z | z
            · rw [if_pos z.1]; omega
            · rw [if_neg (by omega), if_pos z.1]; omega
            · rw [if_neg (by omega), if_neg (by omega)]; exact z.2
          · refine Or.inr ⟨m1, fun y => m2 ?_⟩
            have : v % 3 = 0 ∨ v % 3 = 1 ∨ v % 3 = 2 := by omega
            rcases this with z | z | z
            · rw [if_pos z] at y
              exact Or.inl ⟨z, b1.2.1, y⟩
            · rw [if_neg (by omega), if_pos z] at y
              exact Or.inr (Or.inl ⟨z, b1.2.1, y⟩)
            · rw [if_neg (by omega), if_neg (by omega)] at y
              exact Or.inr (Or.inr ⟨z, y⟩)
        · rw [if_pos (by omega), if_neg a]
          by_cases c0 : M 2 v = 0
          · rw [if_pos c0]
            exact Or.inl ⟨rfl, by omega⟩
          · rw [if_neg c0]
            by_cases c1 : M 2 v = 1
            · rw [if_pos c1]
              exact Or.inl ⟨rfl, by omega⟩
            · rw [if_neg c1]
              exact Or.inr ⟨rfl, by omega⟩
      · rw [← e2, ← byteAt_eq h0 (by omega) t2]
        rfl
    obtain ⟨f, hf, hs⟩ := step
    rw [hs]
    rcases hf with ⟨f1, f2⟩ | ⟨f1, f2⟩
    · rw [f1, if_neg (by decide)]
      rcases ih (v + 1) (by omega) (by omega) with ⟨z1, z2⟩ | ⟨z1, z2⟩
      · refine Or.inl ⟨z1, fun i a b => ?_, z2.2⟩
        by_cases c : i = v
        · rw [c]; exact f2
        · exact z2.1 i (by omega) b
      · exact Or.inr ⟨z1, fun y => z2 ⟨fun i a b => y.1 i (by omega) b, y.2⟩⟩
    · rw [f1, if_pos rfl]
      exact Or.inr ⟨rfl, fun y => f2 (y.1 v (by omega) hv)⟩
theorem ist_d {H : Hal} (ho : Hok H) {M : Mem} {b : Int → Int} (hT : ∀ i, 0 ≤ i → i ≤ ilen H → M 67 i = b i) (v1 : Int) : ∀ (k : Nat) (v : Int), 0 ≤ v → v + k = H 0 2 →
    nlX12_isTold_131 v1 k (3 * H 0 4) v M ∧ ((lX12_isTold_131 v1 k (3 * H 0 4) v M = 1 ∧ (∀ i, 3 * H 0 4 + v ≤ i → i < ilen H → b i ≤ 1)) ∨ (lX12_isTold_131 v1 k (3 * H 0 4) v M = 0 ∧ ¬ (∀ i, 3 * H 0 4 + v ≤ i → i < ilen H → b i ≤ 1))) := by
  have hb := ho.2.1
  have hi : ilen H = 3 * H 0 4 + H 0 2 := rfl
  intro k
  induction k with
  | zero =>
    intro v h0 h1
    exact ⟨trivial, Or.inl ⟨rfl, fun i a b => by omega⟩⟩
  | succ k ih =>
    intro v h0 h1
    have e : wr32 (3 * H 0 4 + v) = 3 * H 0 4 + v := wad (by omega) (by omega)
    have tv := hT (3 * H 0 4 + v) (by omega) (by omega)
    have i1 := ih (v + 1) (by omega) (by omega)
    show ((0 ≤ wr32 (3 * H 0 4 + v) ∧ wr32 (3 * H 0 4 + v) < 1600) ∧ (M 67 (wr32 (3 * H 0 4 + v)) ≤ 1 → nlX12_isTold_131 v1 k (3 * H 0 4) (v + 1) M)) ∧ (((if M 67 (wr32 (3 * H 0 4 + v)) ≤ 1 then lX12_isTold_131 v1 k (3 * H 0 4) (v + 1) M else 0) = 1 ∧ _) ∨ ((if M 67 (wr32 (3 * H 0 4 + v)) ≤ 1 then lX12_isTold_131 v1 k (3 * H 0 4) (v + 1) M else 0) = 0 ∧ _))
    rw [e, tv]
    refine ⟨⟨⟨by omega, by omega⟩, fun _ => i1.1⟩, ?_⟩
    by_cases c : b (3 * H 0 4 + v) ≤ 1
    · rw [if_pos c]
      rcases i1.2 with ⟨z1, z2⟩ | ⟨z1, z2⟩
      · refine Or.inl ⟨z1, fun i a d => ?_⟩
        by_cases ci : i = 3 * H 0 4 + v
        · rw [ci]; exact c
        · exact z2 i (by omega) d
      · exact Or.inr ⟨z1, fun y => z2 (fun i a d => y i (by omega) d)⟩
    · rw [if_neg c]
      exact Or.inr ⟨rfl, fun y => c (y _ (by omega) (by omega))⟩
theorem ist_p {H : Hal} (ho : Hok H) {M : Mem} (hr : Rh H M) {b : Int → Int} (hT : ∀ i, 0 ≤ i → i ≤ ilen H → M 67 i = b i) (hbb : ∀ i, 0 ≤ i → i ≤ ilen H → 0 ≤ b i) (v1 : Int) : ∀ (k : Nat) (v : Int), 0 ≤ v → v + k = H 0 4 →
    nlX12_isTold_51 v1 k (3 * H 0 4) v M ∧ ((lX12_isTold_51 v1 k (3 * H 0 4) v M = 1 ∧ (∀ i, 3 * v ≤ i → i < ilen H → okk H b i)) ∨ (lX12_isTold_51 v1 k (3 * H 0 4) v M = 0 ∧ ¬ (∀ i, 3 * v ≤ i → i < ilen H → okk H b i))) := by
  have hb := ho.2.1
  have hcl := hcells ho
  have hi : ilen H = 3 * H 0 4 + H 0 2 := rfl
  intro k
  induction k with
  | zero =>
    intro v h0 h1
    have hv : v = H 0 4 := by omega
    have d := ist_d ho hT v1 (H 0 2).toNat 0 (by omega) (by omega)
    have eq : (∀ i, 3 * v ≤ i → i < ilen H → okk H b i) ↔ (∀ i, 3 * H 0 4 + 0 ≤ i → i < ilen H → b i ≤ 1) := by
      constructor
      · intro y i a c
        have := y i (by omega) c
        unfold okk at this
        rwa [if_neg (by omega)] at this
      · intro y i a c
        unfold okk
        rw [if_neg (by omega)]
        exact y i (by omega) c
    show nlX12_isTold_131 v1 (fX12_doorMany M - 0).toNat (3 * H 0 4) 0 M ∧ ((lX12_isTold_131 v1 (fX12_doorMany M - 0).toNat (3 * H 0 4) 0 M = 1 ∧ _) ∨ (lX12_isTold_131 v1 (fX12_doorMany M - 0).toNat (3 * H 0 4) 0 M = 0 ∧ _))
    rw [dMany hr, Int.sub_zero, eq]
    exact d
  | succ k ih =>
    intro v h0 h1
    have hvP : v < H 0 4 := by omega
    have e0 : wr32 (3 * v) = 3 * v := wmu (by omega) (by omega)
    have e1 : wr32 (3 * v + 1) = 3 * v + 1 := wad (by omega) (by omega)
    have e2 : wr32 (3 * v + 2) = 3 * v + 2 := wad (by omega) (by omega)
    have t0 := hT (3 * v) (by omega) (by omega)
    have t1 := hT (3 * v + 1) (by omega) (by omega)
    have t2 := hT (3 * v + 2) (by omega) (by omega)
    have b2 := hbb (3 * v + 2) (by omega) (by omega)
    have i1 := ih (v + 1) (by omega) (by omega)
    have k0 : okk H b (3 * v) ↔ b (3 * v) ≤ 120 := by unfold okk; rw [if_pos (by omega), if_pos (by omega)]
    have k1 : okk H b (3 * v + 1) ↔ b (3 * v + 1) ≤ 9 := by unfold okk; rw [if_pos (by omega), if_neg (by omega), if_pos (by omega)]
    have k2 : okk H b (3 * v + 2) ↔ fre H (b (3 * v + 2)) := by unfold okk; rw [if_pos (by omega), if_neg (by omega), if_neg (by omega)]
    have no : ∀ j, 3 * v ≤ j → j < ilen H → ¬ okk H b j → ¬ (∀ i, 3 * v ≤ i → i < ilen H → okk H b i) := fun j a c d y => d (y j a c)
    have ex : ∃ c : Int, c = lX12_isTold_51 v1 (k + 1) (3 * H 0 4) v M ∧ c = (if 120 < M 67 (wr32 (3 * v)) then 0 else (if 9 < M 67 (wr32 (wr32 (3 * v) + 1)) then 0 else (if fX12_isCell M (M 67 (wr32 (wr32 (3 * v) + 2))) = 0 then 0 else (if fX12_isWallNow M (M 67 (wr32 (wr32 (3 * v) + 2))) = 0 then lX12_isTold_51 v1 k (3 * H 0 4) (v + 1) M else 0)))) := ⟨_, rfl, rfl⟩
    obtain ⟨c, c1, c2⟩ := ex
    have nx : nlX12_isTold_51 v1 (k + 1) (3 * H 0 4) v M = ((0 ≤ (wr32 (3 * v)) ∧ (wr32 (3 * v)) < 1600) ∧ (¬ (120 < (M 67 (wr32 (3 * v)))) → 0 ≤ (wr32 ((wr32 (3 * v)) + 1)) ∧ (wr32 ((wr32 (3 * v)) + 1)) < 1600) ∧ (¬ (120 < (M 67 (wr32 (3 * v)))) → ¬ (9 < (M 67 (wr32 ((wr32 (3 * v)) + 1)))) → 0 ≤ (wr32 ((wr32 (3 * v)) + 2)) ∧ (wr32 ((wr32 (3 * v)) + 2)) < 1600) ∧ (¬ (120 < (M 67 (wr32 (3 * v)))) → ¬ (9 < (M 67 (wr32 ((wr32 (3 * v)) + 1)))) → ¬ ((fX12_isCell M (M 67 (wr32 ((wr32 (3 * v)) + 2)))) = 0) → 0 ≤ (wr32 ((wr32 (3 * v)) + 2)) ∧ (wr32 ((wr32 (3 * v)) + 2)) < 1600) ∧ (¬ (120 < (M 67 (wr32 (3 * v)))) → ¬ (9 < (M 67 (wr32 ((wr32 (3 * v)) + 1)))) → ¬ ((fX12_isCell M (M 67 (wr32 ((wr32 (3 * v)) + 2)))) = 0) → (nX12_isWallNow (M 67 (wr32 ((wr32 (3 * v)) + 2))))) ∧ (¬ (120 < (M 67 (wr32 (3 * v)))) → ¬ (9 < (M 67 (wr32 ((wr32 (3 * v)) + 1)))) → ¬ ((fX12_isCell M (M 67 (wr32 ((wr32 (3 * v)) + 2)))) = 0) → (fX12_isWallNow M (M 67 (wr32 ((wr32 (3 * v)) + 2)))) = 0 → (nlX12_isTold_51 v1 k (3 * H 0 4) (v + 1) M))) := rfl
    rw [← c1, c2, nx, e0, e1, e2, t0, t1, t2, Rh_isCell ho hr]
    refine ⟨⟨⟨by omega, by omega⟩, fun _ => ⟨by omega, by omega⟩, fun _ _ => ⟨by omega, by omega⟩, fun _ _ _ => ⟨by omega, by omega⟩, fun _ _ z => ?_, fun _ _ _ _ => i1.1⟩, ?_⟩
    · rw [ite01] at z
      exact (wallNow hr (by omega) (by omega)).2
    by_cases a0 : 120 < b (3 * v)
    · rw [if_pos a0]
      exact Or.inr ⟨rfl, no (3 * v) (by omega) (by omega) (fun y => by have := k0.mp y; omega)⟩
    rw [if_neg a0]
    by_cases a1 : 9 < b (3 * v + 1)
    · rw [if_pos a1]
      exact Or.inr ⟨rfl, no (3 * v + 1) (by omega) (by omega) (fun y => by have := k1.mp y; omega)⟩
    rw [if_neg a1]
    by_cases a2 : 0 ≤ b (3 * v + 2) ∧ b (3 * v + 2) < H 0 0 * H 0 1
    · rw [if_pos a2, if_neg (by decide)]
      have wn := wallNow hr (c := b (3 * v + 2)) a2.1 (by omega)
      rw [wn.1]
      by_cases a3 : H 1 (b (3 * v + 2)) = 0
      · rw [if_pos a3]
        rcases i1.2 with ⟨z1, z2⟩ | ⟨z1, z2⟩
        · refine Or.inl ⟨z1, fun i d f => ?_⟩
          by_cases i0 : i = 3 * v
          · rw [i0]; exact k0.mpr (by omega)
          by_cases i1' : i = 3 * v + 1
          · rw [i1']; exact k1.mpr (by omega)
          by_cases i2 : i = 3 * v + 2
          · rw [i2]; exact k2.mpr ⟨a2.1, a2.2, a3⟩
          exact z2 i (by omega) f
        · exact Or.inr ⟨z1, fun y => z2 (fun i d f => y i (by omega) f)⟩
      · rw [if_neg a3]
        exact Or.inr ⟨rfl, no (3 * v + 2) (by omega) (by omega) (fun y => a3 (k2.mp y).2.2)⟩
    · rw [if_neg a2, if_pos rfl]
      exact Or.inr ⟨rfl, no (3 * v + 2) (by omega) (by omega) (fun y => a2 ⟨(k2.mp y).1, (k2.mp y).2.1⟩)⟩
/-- the i-th number of an image, as the class has it in its rows -/
def cvl (g : Int) (H : Hal) (M : Mem) (i : Int) : Int := if i < 3 * H 0 4 then M (fX4_rowOf g (i % 3)) (i / 3) else M (g + 11) (i - 3 * H 0 4)
theorem rowOf_c (g k : Int) : (k = 0 ∧ fX4_rowOf g k = g + 4) ∨ (k = 1 ∧ fX4_rowOf g k = g + 5) ∨ (k ≠ 0 ∧ k ≠ 1 ∧ fX4_rowOf g k = g + 3) := by
  unfold fX4_rowOf
  by_cases a : k = 0
  · rw [if_pos a]; exact Or.inl ⟨a, rfl⟩
  · rw [if_neg a]
    by_cases b : k = 1
    · rw [if_pos b]; exact Or.inr (Or.inl ⟨b, rfl⟩)
    · rw [if_neg b]; exact Or.inr (Or.inr ⟨a, b, rfl⟩)
theorem tki {g : Int} {H : Hal} (hg : isG g) (ho : Hok H) {b : Int → Int} : ∀ (k : Nat) (v : Int) (M : Mem), M (g + 1) 8 = H 0 4 → 0 ≤ v → v + k = ilen H → ilen H < M 1 1 → M 1 1 ≤ 1600 → (∀ i, 0 ≤ i → i < ilen H → M 2 i = b i) →
    (∀ i, v ≤ i → i < ilen H → cvl g H (lmX1_takeImage_2 g k v M) i = b i) ∧ (∀ i, 0 ≤ i → i < v → cvl g H (lmX1_takeImage_2 g k v M) i = cvl g H M i) := by
  have hb := ho.2.1
  have hh2 : 32 ≤ g ∧ g ≤ 49 := by rcases hg with z | z <;> rw [z] <;> decide
  have hi : ilen H = 3 * H 0 4 + H 0 2 := rfl
  intro k
  induction k with
  | zero => exact fun v M _ _ _ _ _ _ => ⟨fun i a b => by omega, fun _ _ _ => rfl⟩
  | succ k ih =>
    intro v M hP h0 h1 hl hl2 hM
    have hv : v < ilen H := by omega
    obtain ⟨N, hN⟩ : ∃ m : Mem, m = (if (M (g + 1) 8) ≤ (wr32 (Int.tdiv v 3)) then (fmX11_put M (g + 11) 6 (wr32 (v - (wr32 (3 * (M (g + 1) 8))))) (fX8_byteAt M v)) else (fmX4_change M g (wr32 (Int.tdiv v 3)) (Int.tmod v 3) (fX8_byteAt M v))) := ⟨_, rfl⟩
    have hs : lmX1_takeImage_2 g (k + 1) v M = lmX1_takeImage_2 g k (v + 1) N := by rw [hN]; rfl
    have hN2 : N = if v < 3 * H 0 4 then mset M (fX4_rowOf g (v % 3)) (v / 3) (b v) else mset M (g + 11) (v - 3 * H 0 4) (b v) := by
      rw [hN, byteAt_eq h0 (by omega) hl2, hM v h0 hv, hP, Int.tdiv_eq_ediv_of_nonneg h0, Int.tmod_eq_emod_of_nonneg h0, wr32_id (x := v / 3) (by unfold r32; omega), wmu (a := 3) (by omega) (by omega), wsu (a := v) (by omega) (by omega)]
      by_cases a : v < 3 * H 0 4
      · rw [if_neg (by omega), if_pos a]
        unfold fmX4_change
        rw [rd_put (by omega) (by omega)]
      · rw [if_pos (by omega), if_neg a, rd_put (by omega) (by omega)]
    have fr : ∀ q, q ≠ g + 3 → q ≠ g + 4 → q ≠ g + 5 → q ≠ g + 11 → N q = M q := by
      intro q a1 a2 a3 a4
      rw [hN2]
      by_cases a : v < 3 * H 0 4
      · rw [if_pos a]
        have := rowOf_c g (v % 3)
        exact mset_p (by omega)
      · rw [if_neg a]
        exact mset_p a4
    have cv : ∀ i, 0 ≤ i → i < ilen H → cvl g H N i = if i = v then b v else cvl g H M i := by
      intro i i0 i1
      have r1 := rowOf_c g (v % 3)
      have r2 := rowOf_c g (i % 3)
      unfold cvl
      rw [hN2]
      by_cases c : i = v
      · subst c
        rw [if_pos rfl]
        by_cases a : i < 3 * H 0 4
        · simp only [if_pos a]
          exact mset_e
        · simp only [if_neg a]
          exact mset_e
      · rw [if_neg c]
        by_cases a : v < 3 * H 0 4
        · simp only [if_pos a]
          by_cases a2 : i < 3 * H 0 4
          · simp only [if_pos a2, ms]
            rw [if_neg (by omega)]
          · simp only [if_neg a2]
            exact mset_o (by omega)
        · simp only [if_neg a]
          by_cases a2 : i < 3 * H 0 4
          · simp only [if_pos a2]
            exact mset_o (by omega)
          · simp only [if_neg a2]
            exact mset_k (by omega)
    have i1 := ih (v + 1) N (by rw [fr (g + 1) (by omega) (by omega) (by omega) (by omega), hP]) (by omega) (by omega) (by rw [fr 1 (by omega) (by omega) (by omega) (by omega)]; exact hl) (by rw [fr 1 (by omega) (by omega) (by omega) (by omega)]; exact hl2) (fun i a c => by rw [fr 2 (by omega) (by omega) (by omega) (by omega)]; exact hM i a c)
    rw [hs]
    refine ⟨fun i a c => ?_, fun i a c => ?_⟩
    · by_cases e : i = v
      · subst e
        rw [i1.2 i h0 (by omega), cv i h0 c, if_pos rfl]
      · exact i1.1 i (by omega) c
    · rw [i1.2 i a (by omega), cv i a (by omega), if_neg (by omega)]
/-- the reference takes an image on -/
theorem ond {H : Hal} (ho : Hok H) {b : Int → Int} : ∀ (k : Nat) (v : Int) (M : Mem), M 85 3 = H 0 4 → 0 ≤ v → v + k = H 0 2 → (∀ i, 0 ≤ i → i < ilen H → M 67 i = b i) →
    nlX12_on_87 k v M ∧ lX12_on_87 k v M = 1 ∧ (∀ j, j ≠ 54 → lmX12_on_87 k v M 66 j = M 66 j) ∧ lmX12_on_87 k v M 66 54 = 0 ∧ (∀ q, q ≠ 66 → q ≠ 92 → lmX12_on_87 k v M q = M q) ∧ (∀ i, v ≤ i → i < H 0 2 → lmX12_on_87 k v M 92 i = b (3 * H 0 4 + i)) ∧ (∀ i, i < v → lmX12_on_87 k v M 92 i = M 92 i) := by
  have hb := ho.2.1
  have hi : ilen H = 3 * H 0 4 + H 0 2 := rfl
  intro k
  induction k with
  | zero =>
    intro v M _ h0 h1 _
    refine ⟨trivial, rfl, fun j hj => mset_k hj, mset_e, fun q a _ => mset_p a, fun i a c => by omega, fun i _ => mset_o (by decide)⟩
  | succ k ih =>
    intro v M hP h0 h1 hM
    have eP : fX12_peopleMany M = H 0 4 := hP
    have e : wr32 (wr32 (3 * fX12_peopleMany M) + v) = 3 * H 0 4 + v := by rw [eP, wmu (by omega) (by omega), wad (by omega) (by omega)]
    obtain ⟨N, hN⟩ : ∃ m : Mem, m = mset M 92 v (b (3 * H 0 4 + v)) := ⟨_, rfl⟩
    have hN2 : mset M 92 v (M 67 (wr32 (wr32 (3 * fX12_peopleMany M) + v))) = N := by rw [e, hM _ (by omega) (by omega), hN]
    have i1 := ih (v + 1) N (by rw [hN, mset_o (by decide), hP]) (by omega) (by omega) (fun i a c => by rw [hN, mset_o (by decide)]; exact hM i a c)
    have s1 : lmX12_on_87 (k + 1) v M = lmX12_on_87 k (v + 1) N := by rw [← hN2]; rfl
    have s2 : lX12_on_87 (k + 1) v M = lX12_on_87 k (v + 1) N := by rw [← hN2]; rfl
    have s3 : nlX12_on_87 (k + 1) v M = ((0 ≤ wr32 (wr32 (3 * fX12_peopleMany M) + v) ∧ wr32 (wr32 (3 * fX12_peopleMany M) + v) < 1600) ∧ (0 ≤ v ∧ v < 6) ∧ nlX12_on_87 k (v + 1) N) := by rw [← hN2]; rfl
    rw [s1, s2, s3, e]
    refine ⟨⟨⟨by omega, by omega⟩, ⟨h0, by omega⟩, i1.1⟩, i1.2.1, fun j hj => ?_, i1.2.2.2.1, fun q a c => ?_, fun i a c => ?_, fun i a => ?_⟩
    · rw [i1.2.2.1 j hj, hN, mset_o (by decide)]
    · rw [i1.2.2.2.2.1 q a c, hN, mset_p c]
    · by_cases x : i = v
      · rw [x, i1.2.2.2.2.2.2 v (by omega), hN, mset_e]
      · exact i1.2.2.2.2.2.1 i (by omega) c
    · rw [i1.2.2.2.2.2.2 i (by omega), hN, mset_k (by omega)]
theorem onp {H : Hal} (ho : Hok H) {b : Int → Int} (hbb : ∀ i, 0 ≤ i → i < ilen H → 0 ≤ b i ∧ b i ≤ 255) : ∀ (k : Nat) (v : Int) (M : Mem), Rh H M ∨ (M 85 3 = H 0 4 ∧ M 85 5 = H 0 2) → 0 ≤ v → v + k = H 0 4 → (∀ i, 0 ≤ i → i < ilen H → M 67 i = b i) →
    nlX12_on_22 k v M ∧ lX12_on_22 k v M = 1 ∧ (∀ j, j ≠ 54 → lmX12_on_22 k v M 66 j = M 66 j) ∧ lmX12_on_22 k v M 66 54 = 0 ∧ (∀ q, q ≠ 66 → q ≠ 92 → q ≠ 88 → lmX12_on_22 k v M q = M q) ∧ (∀ i, 0 ≤ i → i < H 0 2 → lmX12_on_22 k v M 92 i = b (3 * H 0 4 + i)) ∧
    (∀ p j, v ≤ p → p < H 0 4 → 0 ≤ j → j < 18 → lmX12_on_22 k v M 88 (162 + 18 * p + j) = if j = 0 then b (3 * p + 2) else if j = 1 then b (3 * p) - 60 else if j = 2 then b (3 * p + 1) else M 88 (162 + 18 * p + j)) ∧ (∀ i, i < 162 + 18 * v → lmX12_on_22 k v M 88 i = M 88 i) := by
  have hb := ho.2.1
  have hi : ilen H = 3 * H 0 4 + H 0 2 := rfl
  intro k
  induction k with
  | zero =>
    intro v M hr h0 h1 hM
    have r85 : M 85 3 = H 0 4 ∧ M 85 5 = H 0 2 := by
      rcases hr with z | z
      · exact ⟨z.1.2.2.2.2.1, z.1.2.2.1⟩
      · exact z
    have eD : fX12_doorMany M = H 0 2 := r85.2
    have d := ond ho (b := b) (H 0 2).toNat 0 M r85.1 (by omega) (by omega) hM
    have s1 : lmX12_on_22 0 v M = lmX12_on_87 (H 0 2).toNat 0 M := by
      show lmX12_on_87 (fX12_doorMany M - 0).toNat 0 M = _
      rw [eD, Int.sub_zero]
    have s2 : lX12_on_22 0 v M = lX12_on_87 (H 0 2).toNat 0 M := by
      show lX12_on_87 (fX12_doorMany M - 0).toNat 0 M = _
      rw [eD, Int.sub_zero]
    have s3 : nlX12_on_22 0 v M = nlX12_on_87 (H 0 2).toNat 0 M := by
      show nlX12_on_87 (fX12_doorMany M - 0).toNat 0 M = _
      rw [eD, Int.sub_zero]
    rw [s1, s2, s3]
    exact ⟨d.1, d.2.1, d.2.2.1, d.2.2.2.1, fun q a c _ => d.2.2.2.2.1 q a c, fun i a c => d.2.2.2.2.2.1 i a c, fun p j _ _ _ _ => by omega, fun i _ => by rw [d.2.2.2.2.1 88 (by decide) (by decide)]⟩
  | succ k ih =>
    intro v M hr h0 h1 hM
    have r85 : M 85 3 = H 0 4 ∧ M 85 5 = H 0 2 := by
      rcases hr with z | z
      · exact ⟨z.1.2.2.2.2.1, z.1.2.2.1⟩
      · exact z
    have e0 : wr32 (3 * v) = 3 * v := wmu (by omega) (by omega)
    have e1 : wr32 (3 * v + 1) = 3 * v + 1 := wad (by omega) (by omega)
    have e2 : wr32 (3 * v + 2) = 3 * v + 2 := wad (by omega) (by omega)
    have t0 := hM (3 * v) (by omega) (by omega)
    have t1 := hM (3 * v + 1) (by omega) (by omega)
    have t2 := hM (3 * v + 2) (by omega) (by omega)
    have bb := hbb (3 * v) (by omega) (by omega)
    have x0 : wr32 (M 67 (wr32 (3 * v)) - 60) = b (3 * v) - 60 := by rw [e0, t0, wsu (by omega) (by omega)]
    obtain ⟨M1, hM1⟩ : ∃ m : Mem, m = mset M 88 (162 + 18 * v + 1) (b (3 * v) - 60) := ⟨_, rfl⟩
    have y1 : fmX12_makes M v 1 (wr32 (M 67 (wr32 (3 * v)) - 60)) = M1 := by rw [x0, (mk_eq h0 (by omega) (by omega) (by omega)).1, hM1]
    have x1 : M1 67 (wr32 (wr32 (3 * v) + 1)) = b (3 * v + 1) := by rw [e0, e1, hM1, mset_o (by decide), t1]
    obtain ⟨M2, hM2⟩ : ∃ m : Mem, m = mset M1 88 (162 + 18 * v + 2) (b (3 * v + 1)) := ⟨_, rfl⟩
    have y2 : fmX12_makes M1 v 2 (M1 67 (wr32 (wr32 (3 * v) + 1))) = M2 := by rw [x1, (mk_eq h0 (by omega) (by omega) (by omega)).1, hM2]
    have x2 : M2 67 (wr32 (wr32 (3 * v) + 2)) = b (3 * v + 2) := by rw [e0, e2, hM2, mset_o (by decide), hM1, mset_o (by decide), t2]
    obtain ⟨M3, hM3⟩ : ∃ m : Mem, m = mset M2 88 (162 + 18 * v + 0) (b (3 * v + 2)) := ⟨_, rfl⟩
    have y3 : fmX12_makes M2 v 0 (M2 67 (wr32 (wr32 (3 * v) + 2))) = M3 := by rw [x2, (mk_eq h0 (by omega) (by omega) (by omega)).1, hM3]
    have big : (fmX12_makes (fmX12_makes (fmX12_makes M v 1 (wr32 ((M 67 (wr32 (3 * v))) - 60))) v 2 ((fmX12_makes M v 1 (wr32 ((M 67 (wr32 (3 * v))) - 60))) 67 (wr32 ((wr32 (3 * v)) + 1)))) v 0 ((fmX12_makes (fmX12_makes M v 1 (wr32 ((M 67 (wr32 (3 * v))) - 60))) v 2 ((fmX12_makes M v 1 (wr32 ((M 67 (wr32 (3 * v))) - 60))) 67 (wr32 ((wr32 (3 * v)) + 1)))) 67 (wr32 ((wr32 (3 * v)) + 2)))) = M3 := by rw [y1, y2, y3]
    have fr : ∀ q, q ≠ 88 → M3 q = M q := fun q a => by rw [hM3, mset_p a, hM2, mset_p a, hM1, mset_p a]
    have f88 : ∀ i, M3 88 i = if i = 162 + 18 * v then b (3 * v + 2) else if i = 162 + 18 * v + 1 then b (3 * v) - 60 else if i = 162 + 18 * v + 2 then b (3 * v + 1) else M 88 i := by
      intro i
      rw [hM3, Int.add_zero]
      by_cases c0 : i = 162 + 18 * v
      · rw [if_pos c0, c0, mset_e]
      rw [if_neg c0, mset_k c0, hM2]
      by_cases c1 : i = 162 + 18 * v + 1
      · rw [if_pos c1, mset_k (by omega), hM1, c1, mset_e]
      rw [if_neg c1]
      by_cases c2 : i = 162 + 18 * v + 2
      · rw [if_pos c2, c2, mset_e]
      rw [if_neg c2, mset_k c2, hM1, mset_k c1]
    have i1 := ih (v + 1) M3 (Or.inr (by rw [fr 85 (by decide)]; exact r85)) (by omega) (by omega) (fun i a c => by rw [fr 67 (by decide)]; exact hM i a c)
    have s1 : lmX12_on_22 (k + 1) v M = lmX12_on_22 k (v + 1) M3 := by rw [← big]; rfl
    have s2 : lX12_on_22 (k + 1) v M = lX12_on_22 k (v + 1) M3 := by rw [← big]; rfl
    have s3 : nlX12_on_22 (k + 1) v M = ((0 ≤ (wr32 (3 * v)) ∧ (wr32 (3 * v)) < 1600) ∧ ((nX12_makes v 1)) ∧ (0 ≤ (wr32 ((wr32 (3 * v)) + 1)) ∧ (wr32 ((wr32 (3 * v)) + 1)) < 1600) ∧ ((nX12_makes v 2)) ∧ (0 ≤ (wr32 ((wr32 (3 * v)) + 2)) ∧ (wr32 ((wr32 (3 * v)) + 2)) < 1600) ∧ ((nX12_makes v 0)) ∧ nlX12_on_22 k (v + 1) M3) := by rw [← big]; rfl
    rw [s1, s2, s3, e0, e1, e2]
    refine ⟨⟨⟨by omega, by omega⟩, nmk h0 (by omega) (by omega) (by omega), ⟨by omega, by omega⟩, nmk h0 (by omega) (by omega) (by omega), ⟨by omega, by omega⟩, nmk h0 (by omega) (by omega) (by omega), i1.1⟩, i1.2.1, fun j hj => ?_, i1.2.2.2.1, fun q a c d => ?_, i1.2.2.2.2.2.1, fun p j p0 p1 j0 j1 => ?_, fun i a => ?_⟩
    · rw [i1.2.2.1 j hj, fr 66 (by decide)]
    · rw [i1.2.2.2.2.1 q a c d, fr q d]
    · by_cases x : p = v
      · subst x
        rw [i1.2.2.2.2.2.2.2 _ (by omega), f88]
        by_cases c0 : j = 0
        · rw [if_pos (by omega), if_pos c0]
        rw [if_neg (by omega), if_neg c0]
        by_cases c1 : j = 1
        · rw [if_pos (by omega), if_pos c1]
        rw [if_neg (by omega), if_neg c1]
        by_cases c2 : j = 2
        · rw [if_pos (by omega), if_pos c2]
        rw [if_neg (by omega), if_neg c2]
      · have f : M3 88 (162 + 18 * p + j) = M 88 (162 + 18 * p + j) := by rw [f88, if_neg (by omega), if_neg (by omega), if_neg (by omega)]
        rw [i1.2.2.2.2.2.2.1 p j (by omega) p1 j0 j1, f]
    · rw [i1.2.2.2.2.2.2.2 i (by omega), f88, if_neg (by omega), if_neg (by omega), if_neg (by omega)]
