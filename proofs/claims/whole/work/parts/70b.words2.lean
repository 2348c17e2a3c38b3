/-- the class at a word -/
def cT (b : Int → Int) (n p e : Int) (M : Mem) : Prop := bOK b n p ∧ M 1 1 = n ∧ (∀ k, 0 ≤ k → k < n → M 2 k = b k) ∧ M 3 1 = knd b n p e ∧ M 3 2 = p ∧ M 3 3 = tnd b n p
section
variable {b : Int → Int} {n p e : Int} {M : Mem} {Q : Int → Mem → Prop}
theorem byte_c {k : Int} (hb : 0 ≤ n ∧ n ≤ 1600) (h1 : M 1 1 = n) (h2 : ∀ k, 0 ≤ k → k < n → M 2 k = b k) (k0 : 0 ≤ k) : fX8_byteAt M k = if n ≤ k then -1 else b k := by
  unfold fX8_byteAt
  rw [h1, if_neg (by omega)]
  by_cases z : n ≤ k
  · rw [if_pos z, if_pos z]
  · rw [if_neg z, if_neg z, if_neg (by omega), h2 k k0 (by omega)]
theorem kof {x : Int} (h : 0 ≤ x) : fX9_kindOf x = if ltr x = true then 1 else if dgt x = true then 2 else 3 := by
  unfold fX9_kindOf
  rw [if_neg (by omega)]
  by_cases l : ltr x = true
  · have a := ltr_b l
    rw [if_pos l, if_neg (by omega), if_neg (by omega)]
  · have a := ltr_n l
    rw [if_neg l]
    by_cases d : dgt x = true
    · have c := dgt_b d
      rw [if_pos d, if_pos (by omega), if_neg (by omega), if_neg (by omega)]
    · have c := dgt_n d
      rw [if_neg d]
      by_cases u : x < 97
      · rw [if_pos u]
        by_cases v : x < 48
        · rw [if_pos v]
        · rw [if_neg v, if_pos (by omega)]
      · rw [if_neg u, if_pos (by omega), if_neg (by omega), if_pos (by omega)]
theorem kof_m : fX9_kindOf (-1) = 0 := by unfold fX9_kindOf; rw [if_pos rfl]
theorem nx15 {K : Mem → Prop} (hn : 0 ≤ n ∧ n ≤ 1600) (h1 : M 1 1 = n) (h2 : ∀ k, 0 ≤ k → k < n → M 2 k = b k) (hK : ∀ M' : Mem, (∀ q, q ≠ 3 → M' q = M q) → (∀ j, j ≠ 2 → M' 3 j = M 3 j) → M' 3 2 = fwd blk b n (M 3 2) → K M') : ∀ (k : Nat) (N : Mem), (∀ q, q ≠ 3 → N q = M q) → (∀ j, j ≠ 2 → N 3 j = M 3 j) → 0 ≤ N 3 2 → N 3 2 ≤ n → n < N 3 2 + k → fwd blk b n (N 3 2) = fwd blk b n (M 3 2) → PX9_next_15 K Q k N := by
  intro k
  induction k with
  | zero => intro N _ _ _ a c; omega
  | succ k ih =>
    intro N e1 e2 a0 a1 a2 a3
    have n1 : N 1 1 = n := by rw [e1 1 (by decide)]; exact h1
    have by_ := byte_c (b := b) (M := N) hn n1 (fun k x y => by rw [e1 2 (by decide)]; exact h2 k x y) a0
    refine ⟨fun z => ?_, fun z => ?_⟩
    · rw [n1] at z
      refine hK N e1 e2 ?_
      rw [← a3]
      exact (fwd_u (Int.le_refl _) a1 (fun j x y => by omega) (fun y => by omega)).symm
    · rw [n1] at z
      rw [if_neg z] at by_
      rw [by_]
      have bl : fX9_isBlank (b (N 3 2)) = if blk (b (N 3 2)) = true then 1 else 0 := by
        unfold fX9_isBlank blk
        by_cases u : b (N 3 2) = 10
        · rw [if_pos u, if_pos (decide_eq_true (Or.inl u))]
        · rw [if_neg u]
          by_cases v : b (N 3 2) = 32
          · rw [if_pos v, if_pos (decide_eq_true (Or.inr v))]
          · rw [if_neg v, if_neg]
            intro w
            rcases of_decide_eq_true w with x | x
            · exact u x
            · exact v x
      rw [bl]
      refine ⟨fun y => ?_, fun y => ?_⟩
      · refine hK N e1 e2 ?_
        rw [← a3]
        refine (fwd_u (Int.le_refl _) a1 (fun j x y => by omega) (fun _ => ?_)).symm
        cases w : blk (b (N 3 2)) with
        | false => rfl
        | true => rw [if_pos w] at y; exact absurd y (by decide)
      · have w : blk (b (N 3 2)) = true := Classical.byContradiction (fun w => y (by rw [if_neg w]))
        intro M6 h6
        have es : Hid (wr32 (N 3 2 + 1) = N 3 2 + 1) := hid (wad (by omega) (by omega))
        rw [es.out] at h6
        have e6 : M6 3 2 = N 3 2 + 1 := by rw [h6, mset_e]
        refine ih M6 (fun q x => by rw [h6, mset_p x]; exact e1 q x) (fun j x => by rw [h6, mset_k x]; exact e2 j x) (by omega) (by omega) (by omega) ?_
        rw [e6, ← a3]
        exact (fwd_1 (by omega) w).symm
theorem nx117 {K : Mem → Prop} {g : Int → Bool} {kd : Int} (hn : 0 ≤ n ∧ n ≤ 1600) (h1 : M 1 1 = n) (h2 : ∀ k, 0 ≤ k → k < n → M 2 k = b k) (h3 : M 3 1 = kd) (hg : ∀ k, 0 ≤ k → k < n → (fX9_kindOf (b k) = kd ↔ g (b k) = true)) (hK : ∀ M' : Mem, (∀ q, q ≠ 3 → M' q = M q) → (∀ j, j ≠ 3 → M' 3 j = M 3 j) → M' 3 3 = fwd g b n (M 3 3) → K M') : ∀ (k : Nat) (N : Mem), (∀ q, q ≠ 3 → N q = M q) → (∀ j, j ≠ 3 → N 3 j = M 3 j) → 0 ≤ N 3 3 → N 3 3 ≤ n → n < N 3 3 + k → fwd g b n (N 3 3) = fwd g b n (M 3 3) → PX9_next_117 K Q k N := by
  intro k
  induction k with
  | zero => intro N _ _ _ a c; omega
  | succ k ih =>
    intro N e1 e2 a0 a1 a2 a3
    have n1 : N 1 1 = n := by rw [e1 1 (by decide)]; exact h1
    have n31 : N 3 1 = kd := by rw [e2 1 (by decide)]; exact h3
    have by_ := byte_c (b := b) (M := N) hn n1 (fun k x y => by rw [e1 2 (by decide)]; exact h2 k x y) a0
    refine ⟨fun z => ?_, fun z => ?_⟩
    · rw [n1] at z
      refine hK N e1 e2 ?_
      rw [← a3]
      exact (fwd_u (Int.le_refl _) a1 (fun j x y => by omega) (fun y => by omega)).symm
    · rw [n1] at z
      rw [if_neg z] at by_
      rw [by_, n31]
      have gg := hg (N 3 3) a0 (by omega)
      refine ⟨fun y => ?_, fun y => ?_⟩
      · intro M6 h6
        have es : Hid (wr32 (N 3 3 + 1) = N 3 3 + 1) := hid (wad (by omega) (by omega))
        rw [es.out] at h6
        have e6 : M6 3 3 = N 3 3 + 1 := by rw [h6, mset_e]
        refine ih M6 (fun q x => by rw [h6, mset_p x]; exact e1 q x) (fun j x => by rw [h6, mset_k x]; exact e2 j x) (by omega) (by omega) (by omega) ?_
        rw [e6, ← a3]
        exact (fwd_1 (by omega) (gg.mp y)).symm
      · refine hK N e1 e2 ?_
        rw [← a3]
        refine (fwd_u (Int.le_refl _) a1 (fun j x y => by omega) (fun _ => ?_)).symm
        cases w : g (b (N 3 3)) with
        | false => rfl
        | true => exact absurd (gg.mpr w) y
end
