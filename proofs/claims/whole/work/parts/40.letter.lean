/-! letter, lot -/
theorem n27_b {l : Nat → Int} {n : Nat} (hl : ∀ i, i < n → 1 ≤ l i ∧ l i ≤ 26) : ∀ j, j ≤ n → 0 ≤ n27 l j ∧ n27 l j < ((27 ^ j : Nat) : Int) := by
  intro j
  induction j with
  | zero => exact fun _ => (show (0 : Int) ≤ 0 ∧ (0 : Int) < ((27 ^ 0 : Nat) : Int) by decide)
  | succ j ih =>
    intro hj
    have h1 := ih (by omega)
    have h2 := hl j (by omega)
    show 0 ≤ 27 * n27 l j + l j ∧ 27 * n27 l j + l j < ((27 ^ (j + 1) : Nat) : Int)
    rw [Nat.pow_succ, Int.natCast_mul]
    omega
theorem n27_pos {l : Nat → Int} {n : Nat} (hl : ∀ i, i < n → 1 ≤ l i ∧ l i ≤ 26) {j : Nat} (h0 : 0 < j) (hj : j ≤ n) : 0 < n27 l j := by
  obtain ⟨i, rfl⟩ : ∃ i, j = i + 1 := ⟨j - 1, by omega⟩
  have h1 := n27_b hl i (by omega)
  have h2 := hl i (by omega)
  show 0 < 27 * n27 l i + l i
  omega
theorem n27_div {l : Nat → Int} {n : Nat} (hl : ∀ i, i < n → 1 ≤ l i ∧ l i ≤ 26) {j : Nat} (hj : j < n) : Int.tdiv (n27 l (j + 1)) 27 = n27 l j ∧ Int.tmod (n27 l (j + 1)) 27 = l j := by
  have h1 := n27_b hl j (by omega)
  have h2 := hl j hj
  have e : n27 l (j + 1) = 27 * n27 l j + l j := rfl
  rw [e, Int.tdiv_eq_ediv_of_nonneg (by omega), Int.tmod_eq_emod_of_nonneg (by omega)]
  omega
theorem n27_s {l : Nat → Int} {n : Nat} (hl : ∀ i, i < n → 1 ≤ l i ∧ l i ≤ 26) (hn : n ≤ 6) {j : Nat} (hj : j ≤ n) : 0 ≤ n27 l j ∧ n27 l j < 1000000000 := by
  have h1 := n27_b hl j hj
  have h2 : 27 ^ j ≤ 27 ^ 6 := Nat.pow_le_pow_right (by decide) (by omega)
  have h3 : 27 ^ 6 = 387420489 := by decide
  omega
theorem lt67 {l : Nat → Int} {n : Nat} (hl : ∀ i, i < n → 1 ≤ l i ∧ l i ≤ 26) (hn : n ≤ 6) {K : Int → Mem → Prop} {Q : Int → Mem → Prop} {M : Mem} : ∀ (j k : Nat) (c : Int), j < k → j ≤ n → 0 ≤ c → c + j ≤ 10 → K (c + j) M → PX12_letter_67 K Q k c (n27 l j) M := by
  intro j
  induction j with
  | zero =>
    intro k c hk _ _ _ hK
    obtain ⟨k, rfl⟩ : ∃ i, k = i + 1 := ⟨k - 1, by omega⟩
    refine ⟨fun _ => by simpa using hK, fun z => absurd (show m_cmp 0 0 ≤ 0 by decide) z⟩
  | succ j ih =>
    intro k c hk hj c0 c1 hK
    obtain ⟨k, rfl⟩ : ∃ i, k = i + 1 := ⟨k - 1, by omega⟩
    have hp := n27_pos hl (show 0 < j + 1 by omega) hj
    have hd := n27_div hl (show j < n by omega)
    have hs := n27_s hl hn (show j ≤ n by omega)
    refine ⟨fun z => ?_, fun _ => ?_⟩
    · unfold m_cmp at z
      rw [if_neg (by omega), if_neg (by omega)] at z
      omega
    · rw [hd.1, wr64_id (by unfold r64; omega), wad (a := c) (by omega) (by omega)]
      refine ih k (c + 1) (by omega) (by omega) (by omega) ?_ ?_
      · omega
      · have : c + 1 + (j : Int) = c + ((j + 1 : Nat) : Int) := by omega
        rw [this]
        exact hK
theorem lt102 {l : Nat → Int} {n : Nat} (hl : ∀ i, i < n → 1 ≤ l i ∧ l i ≤ 26) (hn : n ≤ 6) {K : Int → Mem → Prop} {Q : Int → Mem → Prop} {M : Mem} {v3 : Nat} (h3 : v3 < n) : ∀ (j k : Nat), j < k → v3 + 1 + j ≤ n → K (n27 l (v3 + 1)) M → PX12_letter_102 (v3 : Int) K Q k (n27 l (v3 + 1 + j)) ((v3 + j : Nat) : Int) M := by
  intro j
  induction j with
  | zero =>
    intro k hk _ hK
    obtain ⟨k, rfl⟩ : ∃ i, k = i + 1 := ⟨k - 1, by omega⟩
    exact ⟨fun _ => hK, fun z => absurd (by omega) z⟩
  | succ j ih =>
    intro k hk hj hK
    obtain ⟨k, rfl⟩ : ∃ i, k = i + 1 := ⟨k - 1, by omega⟩
    refine ⟨fun z => by omega, fun _ => ?_⟩
    have hd := n27_div hl (show v3 + 1 + j < n by omega)
    have hs := n27_s hl hn (show v3 + 1 + j ≤ n by omega)
    rw [show v3 + 1 + (j + 1) = v3 + 1 + j + 1 by omega, hd.1, wr64_id (by unfold r64; omega), wr32_id (by unfold r32; omega)]
    have : (((v3 + (j + 1) : Nat) : Int) + -1) = ((v3 + j : Nat) : Int) := by omega
    rw [this]
    exact ih k (by omega) (by omega) hK
theorem n32_f (l : Nat → Int) (n : Nat) : n32 l n 6 = ((((((if 0 < n then l 0 else 0) * 32 + (if 1 < n then l 1 else 0)) * 32 + (if 2 < n then l 2 else 0)) * 32 + (if 3 < n then l 3 else 0)) * 32 + (if 4 < n then l 4 else 0)) * 32 + (if 5 < n then l 5 else 0)) := by
  simp only [n32]
  omega
theorem lof {l : Nat → Int} {n : Nat} (hl : ∀ i, i < n → 1 ≤ l i ∧ l i ≤ 26) {k : Nat} (hk : k < 6) : fX11_letterOf (n32 l n 6) (k : Int) = if k < n then l k else 0 := by
  have hb : ∀ i, 0 ≤ (if i < n then l i else 0) ∧ (if i < n then l i else 0) ≤ 26 := by
    intro i
    by_cases c : i < n
    · rw [if_pos c]
      have := hl i c
      omega
    · rw [if_neg c]
      omega
  have b0 := hb 0
  have b1 := hb 1
  have b2 := hb 2
  have b3 := hb 3
  have b4 := hb 4
  have b5 := hb 5
  unfold fX11_letterOf
  rw [wsu (a := 5) (by omega) (by omega), wmu (a := 5) (by omega) (by omega), and31, n32_f]
  obtain ⟨x0, h0⟩ : ∃ x, x = (if 0 < n then l 0 else 0) := ⟨_, rfl⟩
  obtain ⟨x1, h1⟩ : ∃ x, x = (if 1 < n then l 1 else 0) := ⟨_, rfl⟩
  obtain ⟨x2, h2⟩ : ∃ x, x = (if 2 < n then l 2 else 0) := ⟨_, rfl⟩
  obtain ⟨x3, h3⟩ : ∃ x, x = (if 3 < n then l 3 else 0) := ⟨_, rfl⟩
  obtain ⟨x4, h4⟩ : ∃ x, x = (if 4 < n then l 4 else 0) := ⟨_, rfl⟩
  obtain ⟨x5, h5⟩ : ∃ x, x = (if 5 < n then l 5 else 0) := ⟨_, rfl⟩
  rw [← h0] at b0 ⊢
  rw [← h1] at b1 ⊢
  rw [← h2] at b2 ⊢
  rw [← h3] at b3 ⊢
  rw [← h4] at b4 ⊢
  rw [← h5] at b5 ⊢
  obtain ⟨N, hN⟩ : ∃ N : Nat, (N : Int) = (((((x0 * 32 + x1) * 32 + x2) * 32 + x3) * 32 + x4) * 32 + x5) := ⟨(((((x0 * 32 + x1) * 32 + x2) * 32 + x3) * 32 + x4) * 32 + x5).toNat, by omega⟩
  rw [← hN]
  have hN2 : N < 2147483648 := by omega
  have kk : k = 0 ∨ k = 1 ∨ k = 2 ∨ k = 3 ∨ k = 4 ∨ k = 5 := by omega
  rcases kk with rfl | rfl | rfl | rfl | rfl | rfl
  · rw [← h0]
    have := shr_nat (a := N) (p := 25) hN2 (by omega)
    rw [show (5 * (5 - ((0 : Nat) : Int))) = ((25 : Nat) : Int) by decide, this]
    omega
  · rw [← h1]
    have := shr_nat (a := N) (p := 20) hN2 (by omega)
    rw [show (5 * (5 - ((1 : Nat) : Int))) = ((20 : Nat) : Int) by decide, this]
    omega
  · rw [← h2]
    have := shr_nat (a := N) (p := 15) hN2 (by omega)
    rw [show (5 * (5 - ((2 : Nat) : Int))) = ((15 : Nat) : Int) by decide, this]
    omega
  · rw [← h3]
    have := shr_nat (a := N) (p := 10) hN2 (by omega)
    rw [show (5 * (5 - ((3 : Nat) : Int))) = ((10 : Nat) : Int) by decide, this]
    omega
  · rw [← h4]
    have := shr_nat (a := N) (p := 5) hN2 (by omega)
    rw [show (5 * (5 - ((4 : Nat) : Int))) = ((5 : Nat) : Int) by decide, this]
    omega
  · rw [← h5]
    have := shr_nat (a := N) (p := 0) hN2 (by omega)
    rw [show (5 * (5 - ((5 : Nat) : Int))) = ((0 : Nat) : Int) by decide, this]
    omega
theorem lt_ref {a b : Int} (hn : nmr a b) {v3 : Nat} (h3 : v3 < 6) {Q : Int → Mem → Prop} {M : Mem} (hQ : Q (fX11_letterOf a v3) M) :
    ∃ k7 : Nat, PX12_letter_67 (fun u8 M9 => (((v3 : Int) < u8 → (∃ k12 : Nat, PX12_letter_102 (v3 : Int) (fun u13 M14 => Q (wr32 (Int.tmod u13 27)) M14) Q k12 b (wr32 (u8 - 1)) M9)) ∧ (¬ ((v3 : Int) < u8) → Q 0 M9))) Q k7 0 b M := by
  obtain ⟨n, l, h1, h2, hl, ha, hb⟩ := hn
  rw [ha, lof hl h3] at hQ
  rw [hb]
  refine ⟨7, lt67 hl h2 n 7 0 (by omega) (by omega) (by omega) (by omega) ⟨fun z => ?_, fun z => ?_⟩⟩
  · have hv : v3 < n := by omega
    rw [if_pos hv] at hQ
    refine ⟨7, ?_⟩
    have hw : wr32 (0 + (n : Int) - 1) = ((v3 + (n - 1 - v3) : Nat) : Int) := by
      rw [wr32_id (by unfold r32; omega)]
      omega
    rw [hw]
    have hj : n27 l n = n27 l (v3 + 1 + (n - 1 - v3)) := by
      congr 1
      omega
    rw [hj]
    refine lt102 hl h2 hv (n - 1 - v3) 7 (by omega) (by omega) ?_
    have hd := n27_div hl hv
    have hx := hl v3 hv
    rw [hd.2, wr32_id (by unfold r32; omega)]
    exact hQ
  · rw [if_neg (by omega)] at hQ
    exact hQ
theorem inv_letter : ∀ E, Two_letter E Inv := by
  intro E
  refine two_letter (fun v1 v2 v3 M hI hkk hr1 hr2 hr3 => ?_)
  obtain ⟨h, H, hG, hI⟩ := hI
  have hI' := hI
  obtain ⟨hok, hc, hr, _⟩ := hI
  have hb := hok.2.1
  refine ⟨h, hG, ?_⟩
  intro _
  have fin : ∀ x : Int, x = fX11_letter M h v1 v2 v3 → (fun b M2 => G h M2 → b = fX11_letter M h v1 v2 v3 ∧ Inv M2) x M := fun x hx hG2 => ⟨hx, h, H, hG2, hI'⟩
  unfold PX12_letter
  rw [isIn_eq, isIn_eq, isIn_eq, ite01, ite01, ite01]
  have cv : fX11_letter M h v1 v2 v3 = if v3 < 0 then (-1) else if v3 < 6 then (if v1 = 0 then (if 0 ≤ v2 ∧ v2 < H 0 4 then fX11_letterOf (H 14 v2) v3 else -1) else (if v1 = 1 then (if 0 ≤ v2 ∧ v2 < H 0 3 then fX11_letterOf (H 15 v2) v3 else -1) else -1)) else -1 := by
    unfold fX11_letter
    rw [has_eq hc, hasGuard_eq hc]
    by_cases a0 : v3 < 0
    · rw [if_pos a0, if_pos a0]
    rw [if_neg a0, if_neg a0]
    by_cases a1 : v3 < 6
    · rw [if_pos a1, if_pos a1]
      by_cases b0 : v1 = 0
      · rw [if_pos b0, if_pos b0]
        by_cases c : 0 ≤ v2 ∧ v2 < H 0 4
        · rw [if_pos c, if_neg (by decide), if_pos c, rd_get c.1 (by omega), (hc.2.2.2.2.1 v2 c.1 c.2).2.2.2.2.2.1]
        · rw [if_neg c, if_pos rfl, if_neg (by omega), if_neg c]
      · rw [if_neg b0, if_neg b0]
        by_cases b1 : v1 = 1
        · rw [if_pos b1, if_pos b1]
          by_cases c : 0 ≤ v2 ∧ v2 < H 0 3
          · rw [if_pos c, if_neg (by decide), if_pos c, rd_get c.1 (by omega), (hc.2.2.2.1 v2 c.1 c.2).2.2.2]
          · rw [if_neg c, if_pos rfl, if_neg c]
        · rw [if_neg b1, if_neg b1]
    · rw [if_neg a1, if_neg a1]
  refine ⟨fun z => fin _ ?_, fun z => ?_⟩
  · rw [cv]
    by_cases a0 : v3 < 0
    · rw [if_pos a0]
    rw [if_neg a0]
    by_cases a1 : v3 < 6
    · rw [if_pos a1, if_neg (by omega), if_neg (by omega)]
    · rw [if_neg a1]
  · have z1 : v1 = 0 ∨ v1 = 1 := by omega
    have w3 : wr32 (3 + v1) = 3 + v1 := wad (by omega) (by omega)
    rw [w3]
    refine ⟨by omega, by omega, ?_⟩
    have em : M 85 (3 + v1) = if v1 = 0 then H 0 4 else H 0 3 := by
      rcases z1 with y | y
      · rw [y, if_pos rfl]
        exact hr.1.2.2.2.2.1
      · rw [y, if_neg (by decide)]
        exact hr.1.2.2.2.1
    have emb : 0 ≤ M 85 (3 + v1) ∧ M 85 (3 + v1) ≤ 9 := by
      rw [em]
      rcases z1 with y | y
      · rw [if_pos y]; omega
      · rw [if_neg (by omega)]; omega
    rw [wsu (a := M 85 (3 + v1)) (by omega) (by omega)]
    refine ⟨fun y => fin _ ?_, fun y => ⟨fun x => fin _ ?_, fun x => ?_⟩⟩
    · rw [cv]
      rw [em] at y
      by_cases a0 : v3 < 0
      · rw [if_pos a0]
      rw [if_neg a0]
      by_cases a1 : v3 < 6
      · rw [if_pos a1]
        rcases z1 with u | u
        · rw [if_pos u] at y ⊢
          rw [if_neg (by omega)]
        · rw [if_neg (by omega)] at y
          rw [if_neg (by omega), if_pos u, if_neg (by omega)]
      · rw [if_neg a1]
    · rw [cv]
      by_cases a0 : v3 < 0
      · rw [if_pos a0]
      · rw [if_neg a0, if_neg (by omega)]
    · have hx : 0 ≤ v3 ∧ v3 ≤ 5 := by omega
      have hy : 0 ≤ v2 ∧ v2 < M 85 (3 + v1) := by omega
      have wi : wr32 (wr32 (20 + wr32 (10 * v1)) + v2) = 20 + 10 * v1 + v2 := by
        rw [wmu (a := 10) (by omega) (by omega), wad (a := 20) (by omega) (by omega), wad (by omega) (by omega)]
      rw [wi]
      refine ⟨by omega, by omega, ?_⟩
      obtain ⟨k, rfl⟩ := Int.eq_ofNat_of_zero_le hx.1
      rw [em] at hy
      refine lt_ref (a := if v1 = 0 then H 14 v2 else H 15 v2) (v3 := k) (Q := fun b M2 => G h M2 → b = fX11_letter M h v1 v2 (k : Int) ∧ Inv M2) (M := M) ?_ (by omega) (fin _ ?_)
      · rcases z1 with u | u
        · rw [if_pos u] at hy ⊢
          rw [u, show (20 + 10 * (0 : Int) + v2) = 20 + v2 by omega, (hr.2.2.2.2.1 v2 hy.1 hy.2).2.2.2.2.2.2]
          exact (hok.2.2.2.2.2.2.1 v2 hy.1 hy.2).2.2.2.2.2.2.2.2.2.2
        · rw [if_neg (by omega)] at hy ⊢
          rw [u, show (20 + 10 * (1 : Int) + v2) = 30 + v2 by omega, (hr.2.2.2.1 v2 hy.1 hy.2).2.2.2]
          exact (hok.2.2.2.2.2.1 v2 hy.1 hy.2).2.2.2.2.2
      · rw [cv, if_neg (show ¬ ((k : Int) < 0) by omega), if_pos (show (k : Int) < 6 by omega)]
        rcases z1 with u | u
        · rw [if_pos u] at hy
          simp only [if_pos u, if_pos hy]
        · have u0 : ¬ v1 = 0 := by omega
          rw [if_neg u0] at hy
          simp only [if_neg u0, if_pos u, if_pos hy]
