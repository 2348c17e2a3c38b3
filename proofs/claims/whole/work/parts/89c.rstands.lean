/-! the text of a hall: the draft becomes the hall of the reference -/
def cpl (q d : Int) : Nat → Int → Mem → Mem
  | 0, _, M => M
  | k + 1, v, M => cpl q d k (v + 1) (mset M q (d + v) (M q v))
def cp9 : Nat → Int → Mem → Mem
  | 0, _, M => M
  | k + 1, v, M => cp9 k (v + 1) (mset (mset M 90 (6 + v) (M 90 v)) 92 v 0)
section
variable {M M' : Mem} {H : Hal} {w : Int}
theorem cpl_v {q d : Int} : ∀ (k : Nat) (v : Int) (M : Mem), 0 ≤ v → v + k = d → (∀ x, x ≠ q → cpl q d k v M x = M x) ∧ ∀ j, cpl q d k v M q j = if d + v ≤ j ∧ j < d + d then M q (j - d) else M q j
  | 0, v, M, v0, h => ⟨fun _ _ => rfl, fun j => (if_neg (by have := h; omega)).symm⟩
  | k + 1, v, M, v0, h => by
    have ih := cpl_v (q := q) (d := d) k (v + 1) (mset M q (d + v) (M q v)) (by omega) (by omega)
    refine ⟨fun x hx => (ih.1 x hx).trans (mset_p hx), fun j => (ih.2 j).trans ?_⟩
    by_cases z : d + v ≤ j ∧ j < d + d
    · rw [if_pos z]
      by_cases y : j = d + v
      · rw [if_neg (by omega), y, mset_e, show d + v - d = v by omega]
      · rw [if_pos (by omega), mset_k (by omega)]
    · rw [if_neg z, if_neg (by omega), mset_k (by omega)]
theorem cp9_v : ∀ (k : Nat) (v : Int) (M : Mem), 0 ≤ v → v + k = 6 → (∀ x, x ≠ 90 → x ≠ 92 → cp9 k v M x = M x) ∧ (∀ j, cp9 k v M 90 j = if 6 + v ≤ j ∧ j < 12 then M 90 (j - 6) else M 90 j) ∧ ∀ j, v ≤ j → j < 6 → cp9 k v M 92 j = 0
  | 0, v, M, v0, h => ⟨fun _ _ _ => rfl, fun j => (if_neg (by have := h; omega)).symm, fun j a b => by have := h; omega⟩
  | k + 1, v, M, v0, h => by
    have ih := cp9_v k (v + 1) (mset (mset M 90 (6 + v) (M 90 v)) 92 v 0) (by omega) (by omega)
    have keep : ∀ (k : Nat) (v : Int) (M : Mem) (j : Int), j < v → cp9 k v M 92 j = M 92 j := by
      intro k
      induction k with
      | zero => intro v M j _; rfl
      | succ k ih => intro v M j hj; exact (ih (v + 1) _ j (by omega)).trans (by rw [mset_k (by omega), mset_o (by decide)])
    refine ⟨fun x hx hy => (ih.1 x hx hy).trans (by rw [mset_p hy, mset_p hx]), fun j => (ih.2.1 j).trans ?_, fun j a c => ?_⟩
    · rw [show mset (mset M 90 (6 + v) (M 90 v)) 92 v 0 90 = mset M 90 (6 + v) (M 90 v) 90 from mset_p (by decide)]
      by_cases z : 6 + v ≤ j ∧ j < 12
      · rw [if_pos z]
        by_cases y : j = 6 + v
        · rw [if_neg (by omega), y, mset_e, show 6 + v - 6 = v by omega]
        · rw [if_pos (by omega), mset_k (by omega)]
      · rw [if_neg z, if_neg (by omega), mset_k (by omega)]
    · by_cases y : j = v
      · rw [y]
        exact (keep k (v + 1) _ v (by omega)).trans mset_e
      · exact ih.2.2 j (by omega) c
theorem l18 : ∀ (k : Nat) (v : Int) (M : Mem), 0 ≤ v → v + k = 3 → lmX12_stands_18 k v M = lmX12_stands_45 20 0 (cpl 85 3 k v M) ∧ (nlX12_stands_45 20 0 (cpl 85 3 k v M) → nlX12_stands_18 k v M)
  | 0, _, _, _, _ => ⟨rfl, fun h => h⟩
  | k + 1, v, M, v0, h => by
    have e : wr32 (3 + v) = 3 + v := wad (by omega) (by omega)
    have ih := l18 k (v + 1) (mset M 85 (3 + v) (M 85 v)) (by omega) (by omega)
    show lmX12_stands_18 k (v + 1) (mset M 85 (wr32 (3 + v)) (M 85 v)) = _ ∧ (_ → (0 ≤ v ∧ v < 6) ∧ (0 ≤ (wr32 (3 + v)) ∧ (wr32 (3 + v)) < 6) ∧ nlX12_stands_18 k (v + 1) (mset M 85 (wr32 (3 + v)) (M 85 v)))
    rw [e]
    exact ⟨ih.1, fun h => ⟨by omega, by omega, ih.2 h⟩⟩
theorem l45 : ∀ (k : Nat) (v : Int) (M : Mem), 0 ≤ v → v + k = 20 → lmX12_stands_45 k v M = lmX12_stands_74 54 0 (cpl 86 20 k v M) ∧ (nlX12_stands_74 54 0 (cpl 86 20 k v M) → nlX12_stands_45 k v M)
  | 0, _, _, _, _ => ⟨rfl, fun h => h⟩
  | k + 1, v, M, v0, h => by
    have e : wr32 (20 + v) = 20 + v := wad (by omega) (by omega)
    have ih := l45 k (v + 1) (mset M 86 (20 + v) (M 86 v)) (by omega) (by omega)
    show lmX12_stands_45 k (v + 1) (mset M 86 (wr32 (20 + v)) (M 86 v)) = _ ∧ (_ → (0 ≤ v ∧ v < 40) ∧ (0 ≤ (wr32 (20 + v)) ∧ (wr32 (20 + v)) < 40) ∧ nlX12_stands_45 k (v + 1) (mset M 86 (wr32 (20 + v)) (M 86 v)))
    rw [e]
    exact ⟨ih.1, fun h => ⟨by omega, by omega, ih.2 h⟩⟩
theorem l74 : ∀ (k : Nat) (v : Int) (M : Mem), 0 ≤ v → v + k = 54 → (∀ c, 0 ≤ c → c < 54 → 0 ≤ M 87 c ∧ M 87 c ≤ 1) → lmX12_stands_74 k v M = lmX12_stands_103 162 0 (cpl 87 54 k v M) ∧ (nlX12_stands_103 162 0 (cpl 87 54 k v M) → nlX12_stands_74 k v M)
  | 0, _, _, _, _, _ => ⟨rfl, fun h => h⟩
  | k + 1, v, M, v0, h, hc => by
    have e : wr32 (54 + v) = 54 + v := wad (by omega) (by omega)
    have ih := l74 k (v + 1) (mset M 87 (54 + v) (M 87 v)) (by omega) (by omega) (fun c c0 c1 => by rw [mset_k (by omega)]; exact hc c c0 c1)
    show lmX12_stands_74 k (v + 1) (mset M 87 (wr32 (54 + v)) (M 87 v)) = _ ∧ (_ → (0 ≤ v ∧ v < 108) ∧ (0 ≤ (wr32 (54 + v)) ∧ (wr32 (54 + v)) < 108) ∧ (0 ≤ (M 87 v) ∧ (M 87 v) ≤ 1) ∧ nlX12_stands_74 k (v + 1) (mset M 87 (wr32 (54 + v)) (M 87 v)))
    rw [e]
    exact ⟨ih.1, fun h => ⟨by omega, by omega, hc v v0 (by omega), ih.2 h⟩⟩
theorem l103 : ∀ (k : Nat) (v : Int) (M : Mem), 0 ≤ v → v + k = 162 → lmX12_stands_103 k v M = lmX12_stands_134 12 0 (cpl 88 162 k v M) ∧ (nlX12_stands_134 12 0 (cpl 88 162 k v M) → nlX12_stands_103 k v M)
  | 0, _, _, _, _ => ⟨rfl, fun h => h⟩
  | k + 1, v, M, v0, h => by
    have e : wr32 (162 + v) = 162 + v := wad (by omega) (by omega)
    have ih := l103 k (v + 1) (mset M 88 (162 + v) (M 88 v)) (by omega) (by omega)
    show lmX12_stands_103 k (v + 1) (mset M 88 (wr32 (162 + v)) (M 88 v)) = _ ∧ (_ → (0 ≤ v ∧ v < 324) ∧ (0 ≤ (wr32 (162 + v)) ∧ (wr32 (162 + v)) < 324) ∧ nlX12_stands_103 k (v + 1) (mset M 88 (wr32 (162 + v)) (M 88 v)))
    rw [e]
    exact ⟨ih.1, fun h => ⟨by omega, by omega, ih.2 h⟩⟩
theorem l134 : ∀ (k : Nat) (v : Int) (M : Mem), 0 ≤ v → v + k = 12 → lmX12_stands_134 k v M = lmX12_stands_163 6 0 (cpl 89 12 k v M) ∧ (nlX12_stands_163 6 0 (cpl 89 12 k v M) → nlX12_stands_134 k v M)
  | 0, _, _, _, _ => ⟨rfl, fun h => h⟩
  | k + 1, v, M, v0, h => by
    have e : wr32 (12 + v) = 12 + v := wad (by omega) (by omega)
    have ih := l134 k (v + 1) (mset M 89 (12 + v) (M 89 v)) (by omega) (by omega)
    show lmX12_stands_134 k (v + 1) (mset M 89 (wr32 (12 + v)) (M 89 v)) = _ ∧ (_ → (0 ≤ v ∧ v < 24) ∧ (0 ≤ (wr32 (12 + v)) ∧ (wr32 (12 + v)) < 24) ∧ nlX12_stands_134 k (v + 1) (mset M 89 (wr32 (12 + v)) (M 89 v)))
    rw [e]
    exact ⟨ih.1, fun h => ⟨by omega, by omega, ih.2 h⟩⟩
theorem l163 : ∀ (k : Nat) (v : Int) (M : Mem), 0 ≤ v → v + k = 6 → lmX12_stands_163 k v M = lmX12_stands_199 4 0 (cp9 k v M) ∧ (nlX12_stands_199 4 0 (cp9 k v M) → nlX12_stands_163 k v M)
  | 0, _, _, _, _ => ⟨rfl, fun h => h⟩
  | k + 1, v, M, v0, h => by
    have e : wr32 (6 + v) = 6 + v := wad (by omega) (by omega)
    have ih := l163 k (v + 1) (mset (mset M 90 (6 + v) (M 90 v)) 92 v 0) (by omega) (by omega)
    show lmX12_stands_163 k (v + 1) (mset (mset M 90 (wr32 (6 + v)) (M 90 v)) 92 v 0) = _ ∧ (_ → (0 ≤ v ∧ v < 12) ∧ (0 ≤ (wr32 (6 + v)) ∧ (wr32 (6 + v)) < 12) ∧ (0 ≤ v ∧ v < 6) ∧ nlX12_stands_163 k (v + 1) (mset (mset M 90 (wr32 (6 + v)) (M 90 v)) 92 v 0))
    rw [e]
    exact ⟨ih.1, fun h => ⟨by omega, by omega, by omega, ih.2 h⟩⟩
def sE (M : Mem) : Mem := mset (mset M 66 42 (wr32 ((m_shl 1 (M 85 0)) - 1))) 66 54 0
theorem l199 : ∀ (k : Nat) (v : Int) (M : Mem), 0 ≤ v → v + k = 4 → lmX12_stands_199 k v M = sE (cpl 91 4 k v M) ∧ nlX12_stands_199 k v M
  | 0, _, _, _, _ => ⟨rfl, trivial⟩
  | k + 1, v, M, v0, h => by
    have e : wr32 (4 + v) = 4 + v := wad (by omega) (by omega)
    have ih := l199 k (v + 1) (mset M 91 (4 + v) (M 91 v)) (by omega) (by omega)
    show lmX12_stands_199 k (v + 1) (mset M 91 (wr32 (4 + v)) (M 91 v)) = _ ∧ (0 ≤ v ∧ v < 8) ∧ (0 ≤ (wr32 (4 + v)) ∧ (wr32 (4 + v)) < 8) ∧ nlX12_stands_199 k (v + 1) (mset M 91 (wr32 (4 + v)) (M 91 v))
    rw [e]
    exact ⟨ih.1, by omega, by omega, ih.2⟩
theorem sE_v : (∀ q, q ≠ 66 → sE M q = M q) ∧ (∀ j, j ≠ 42 → j ≠ 54 → sE M 66 j = M 66 j) ∧ sE M 66 42 = wr32 ((m_shl 1 (M 85 0)) - 1) ∧ sE M 66 54 = 0 := by
  unfold sE
  exact ⟨fun q h => by rw [mset_p h, mset_p h], fun j x y => by rw [mset_k y, mset_k x], by rw [mset_k (by decide), mset_e], mset_e⟩
theorem stands_v (hc : ∀ c, 0 ≤ c → c < 54 → 0 ≤ M 87 c ∧ M 87 c ≤ 1) : nX12_stands M ∧ ∃ N : Mem, fmX12_stands M = N ∧ (∀ q, q ≠ 66 → q ≠ 85 → q ≠ 86 → q ≠ 87 → q ≠ 88 → q ≠ 89 → q ≠ 90 → q ≠ 91 → q ≠ 92 → N q = M q) ∧ (∀ j, j ≠ 38 → j ≠ 39 → j ≠ 42 → j ≠ 54 → N 66 j = M 66 j) ∧ N 66 38 = M 66 35 ∧ N 66 39 = M 66 36 ∧ N 66 42 = wr32 ((m_shl 1 (M 85 0)) - 1) ∧ N 66 54 = 0 ∧
    (∀ j, 3 ≤ j → j < 6 → N 85 j = M 85 (j - 3)) ∧ (∀ j, 20 ≤ j → j < 40 → N 86 j = M 86 (j - 20)) ∧ (∀ j, 54 ≤ j → j < 108 → N 87 j = M 87 (j - 54)) ∧ (∀ j, 162 ≤ j → j < 324 → N 88 j = M 88 (j - 162)) ∧ (∀ j, 12 ≤ j → j < 24 → N 89 j = M 89 (j - 12)) ∧ (∀ j, 6 ≤ j → j < 12 → N 90 j = M 90 (j - 6)) ∧ (∀ j, 4 ≤ j → j < 8 → N 91 j = M 91 (j - 4)) ∧ (∀ j, 0 ≤ j → j < 6 → N 92 j = 0) := by
  obtain ⟨A, hA⟩ : ∃ A, A = (mset (mset M 66 38 (M 66 35)) 66 39 ((mset M 66 38 (M 66 35)) 66 36)) := ⟨_, rfl⟩
  have qA : ∀ q, q ≠ 66 → A q = M q := fun q h => by rw [hA, mset_p h, mset_p h]
  have jA : ∀ j, j ≠ 38 → j ≠ 39 → A 66 j = M 66 j := fun j x y => by rw [hA, mset_k y, mset_k x]
  have a1 : A 66 38 = M 66 35 := by rw [hA, mset_k (by decide), mset_e]
  have a2 : A 66 39 = M 66 36 := by rw [hA, mset_e, mset_k (by decide)]
  have ef : fmX12_stands M = lmX12_stands_18 3 0 A := by rw [hA]; rfl
  have en : nX12_stands M = nlX12_stands_18 3 0 A := by rw [hA]; rfl
  rw [ef, en]
  clear ef en hA
  have b1 := l18 3 0 A (by decide) (by decide)
  have v1 := cpl_v (q := 85) (d := 3) 3 0 A (by decide) (by decide)
  revert b1 v1; generalize cpl 85 3 3 0 A = B1; intro b1 v1
  have b2 := l45 20 0 B1 (by decide) (by decide)
  have v2 := cpl_v (q := 86) (d := 20) 20 0 B1 (by decide) (by decide)
  revert b2 v2; generalize cpl 86 20 20 0 B1 = B2; intro b2 v2
  have b3 := l74 54 0 B2 (by decide) (by decide) (fun c x y => by rw [v2.1 87 (by decide), v1.1 87 (by decide), qA 87 (by decide)]; exact hc c x y)
  have v3 := cpl_v (q := 87) (d := 54) 54 0 B2 (by decide) (by decide)
  revert b3 v3; generalize cpl 87 54 54 0 B2 = B3; intro b3 v3
  have b4 := l103 162 0 B3 (by decide) (by decide)
  have v4 := cpl_v (q := 88) (d := 162) 162 0 B3 (by decide) (by decide)
  revert b4 v4; generalize cpl 88 162 162 0 B3 = B4; intro b4 v4
  have b5 := l134 12 0 B4 (by decide) (by decide)
  have v5 := cpl_v (q := 89) (d := 12) 12 0 B4 (by decide) (by decide)
  revert b5 v5; generalize cpl 89 12 12 0 B4 = B5; intro b5 v5
  have b6 := l163 6 0 B5 (by decide) (by decide)
  have v6 := cp9_v 6 0 B5 (by decide) (by decide)
  revert b6 v6; generalize cp9 6 0 B5 = B6; intro b6 v6
  have b7 := l199 4 0 B6 (by decide) (by decide)
  have v7 := cpl_v (q := 91) (d := 4) 4 0 B6 (by decide) (by decide)
  revert b7 v7; generalize cpl 91 4 4 0 B6 = B7; intro b7 v7
  refine ⟨b1.2 (b2.2 (b3.2 (b4.2 (b5.2 (b6.2 b7.2))))), sE B7, ?_, ?_⟩
  · rw [b1.1, b2.1, b3.1, b4.1, b5.1, b6.1, b7.1]
  have e := sE_v (M := B7)
  have e85 : B7 85 0 = M 85 0 := by
    rw [v7.1 85 (by decide), v6.1 85 (by decide) (by decide), v5.1 85 (by decide), v4.1 85 (by decide), v3.1 85 (by decide), v2.1 85 (by decide), v1.2 0, if_neg (by decide), qA 85 (by decide)]
  have k66 : B7 66 = A 66 := by rw [v7.1 66 (by decide), v6.1 66 (by decide) (by decide), v5.1 66 (by decide), v4.1 66 (by decide), v3.1 66 (by decide), v2.1 66 (by decide), v1.1 66 (by decide)]
  rw [e85] at e
  refine ⟨fun q h1 h2 h3 h4 h5 h6 h7 h8 h9 => ?_, fun j h1 h2 h3 h4 => ?_, ?_, ?_, e.2.2.1, e.2.2.2, fun j x y => ?_, fun j x y => ?_, fun j x y => ?_, fun j x y => ?_, fun j x y => ?_, fun j x y => ?_, fun j x y => ?_, fun j x y => ?_⟩
  · rw [e.1 q h1, v7.1 q h8, v6.1 q h7 h9, v5.1 q h6, v4.1 q h5, v3.1 q h4, v2.1 q h3, v1.1 q h2, qA q h1]
  · rw [e.2.1 j h3 h4, k66, jA j h1 h2]
  · rw [e.2.1 38 (by decide) (by decide), k66, a1]
  · rw [e.2.1 39 (by decide) (by decide), k66, a2]
  · rw [e.1 85 (by decide), v7.1 85 (by decide), v6.1 85 (by decide) (by decide), v5.1 85 (by decide), v4.1 85 (by decide), v3.1 85 (by decide), v2.1 85 (by decide), v1.2 j, if_pos (by omega), qA 85 (by decide)]
  · rw [e.1 86 (by decide), v7.1 86 (by decide), v6.1 86 (by decide) (by decide), v5.1 86 (by decide), v4.1 86 (by decide), v3.1 86 (by decide), v2.2 j, if_pos (by omega), v1.1 86 (by decide), qA 86 (by decide)]
  · rw [e.1 87 (by decide), v7.1 87 (by decide), v6.1 87 (by decide) (by decide), v5.1 87 (by decide), v4.1 87 (by decide), v3.2 j, if_pos (by omega), v2.1 87 (by decide), v1.1 87 (by decide), qA 87 (by decide)]
  · rw [e.1 88 (by decide), v7.1 88 (by decide), v6.1 88 (by decide) (by decide), v5.1 88 (by decide), v4.2 j, if_pos (by omega), v3.1 88 (by decide), v2.1 88 (by decide), v1.1 88 (by decide), qA 88 (by decide)]
  · rw [e.1 89 (by decide), v7.1 89 (by decide), v6.1 89 (by decide) (by decide), v5.2 j, if_pos (by omega), v4.1 89 (by decide), v3.1 89 (by decide), v2.1 89 (by decide), v1.1 89 (by decide), qA 89 (by decide)]
  · rw [e.1 90 (by decide), v7.1 90 (by decide), v6.2.1 j, if_pos (by omega), v5.1 90 (by decide), v4.1 90 (by decide), v3.1 90 (by decide), v2.1 90 (by decide), v1.1 90 (by decide), qA 90 (by decide)]
  · rw [e.1 91 (by decide), v7.2 j, if_pos (by omega), v6.1 91 (by decide) (by decide), v5.1 91 (by decide), v4.1 91 (by decide), v3.1 91 (by decide), v2.1 91 (by decide), v1.1 91 (by decide), qA 91 (by decide)]
  · rw [e.1 92 (by decide), v7.1 92 (by decide), v6.2.2 j x y]
end
