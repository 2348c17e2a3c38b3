/-! feed -/
def bsel (v1 v2 v3 v4 v5 j : Int) : Int := if 4 ≤ j then (if 8 ≤ j then (if 12 ≤ j then (if 16 ≤ j then v5 else v4) else v3) else v2) else v1
def byt (v1 v2 v3 v4 v5 j : Int) : Int := m_and (m_shr (bsel v1 v2 v3 v4 v5 j) (24 - 8 * (j % 4))) 255
theorem ad4 {v : Int} : ∀ (k : Nat) (s : Int) (M : Mem), 0 ≤ M 1 1 → M 1 1 + k ≤ 1600 →
    (lmX8_addNumber_3 k v s M 1 1 = M 1 1 + k) ∧ (∀ i, lmX8_addNumber_3 k v s M 2 i = if M 1 1 ≤ i ∧ i < M 1 1 + k then m_and (m_shr v (s - 8 * (i - M 1 1))) 255 else M 2 i) ∧ (∀ j, j ≠ 1 → lmX8_addNumber_3 k v s M 1 j = M 1 j) := by
  intro k
  induction k with
  | zero =>
    intro s M h0 h1
    refine ⟨by show M 1 1 = M 1 1 + ((0 : Nat) : Int); omega, fun i => ?_, fun _ _ => rfl⟩
    rw [if_neg (by omega)]
    rfl
  | succ k ih =>
    intro s M h0 h1
    obtain ⟨N, hN⟩ : ∃ m : Mem, m = mset (mset M 2 (M 1 1) (m_and (m_shr v s) 255)) 1 1 (M 1 1 + 1) := ⟨_, rfl⟩
    have e : (mset (fmX11_put M 2 1600 (M 1 1) (m_and (m_shr v s) 255)) 1 1 (wr32 (((fmX11_put M 2 1600 (M 1 1) (m_and (m_shr v s) 255)) 1 1) + 1))) = N := by
      rw [rd_put h0 (by omega), mset_o (by decide), wad (by omega) (by omega), hN]
    have st : lmX8_addNumber_3 (k + 1) v s M = lmX8_addNumber_3 k v (s - 8) N := by rw [← e]; rfl
    have n11 : N 1 1 = M 1 1 + 1 := by rw [hN, mset_e]
    have i1 := ih (s - 8) N (by omega) (by omega)
    rw [st]
    refine ⟨by omega, fun i => ?_, fun j hj => ?_⟩
    · rw [i1.2.1 i, n11]
      by_cases c : i = M 1 1
      · rw [if_neg (by omega), if_pos (by omega), hN, mset_o (by decide), c, mset_e, show s - 8 * (M 1 1 - M 1 1) = s by omega]
      · by_cases d : M 1 1 + 1 ≤ i ∧ i < M 1 1 + 1 + k
        · rw [if_pos d, if_pos (by omega), show s - 8 - 8 * (i - (M 1 1 + 1)) = s - 8 * (i - M 1 1) by omega]
        · rw [if_neg d, if_neg (by omega), hN, mset_o (by decide), mset_k c]
    · rw [i1.2.2 j hj, hN, mset_k hj, mset_o (by decide)]
theorem fd20 {v1 v2 v3 v4 v5 : Int} : ∀ (k : Nat) (j : Int) (M : Mem), 0 ≤ j → j + k = 20 → 0 ≤ M 66 1 → M 66 1 + k ≤ 1600 →
    nlX12_feed_18 k v1 v2 v3 v4 v5 j M ∧ lX12_feed_18 k v1 v2 v3 v4 v5 j M = M 66 1 + k ∧ lmX12_feed_18 k v1 v2 v3 v4 v5 j M 66 1 = M 66 1 + k ∧ (∀ i, lmX12_feed_18 k v1 v2 v3 v4 v5 j M 67 i = if M 66 1 ≤ i ∧ i < M 66 1 + k then byt v1 v2 v3 v4 v5 (j + (i - M 66 1)) else M 67 i) ∧ (∀ x, x ≠ 1 → lmX12_feed_18 k v1 v2 v3 v4 v5 j M 66 x = M 66 x) := by
  intro k
  induction k with
  | zero =>
    intro j M j0 j1 h0 h1
    refine ⟨trivial, ?_, ?_, fun i => ?_, fun _ _ => rfl⟩
    · show M 66 1 = M 66 1 + ((0 : Nat) : Int)
      omega
    · show M 66 1 = M 66 1 + ((0 : Nat) : Int)
      omega
    · rw [if_neg (by omega)]
      rfl
  | succ k ih =>
    intro j M j0 j1 h0 h1
    obtain ⟨b, hb⟩ : ∃ b : Int, b = (m_and (m_shr (if 4 ≤ j then (if 8 ≤ j then (if 12 ≤ j then (if 16 ≤ j then v5 else v4) else v3) else v2) else v1) (wr32 (8 * (wr32 (3 - (Int.tmod j 4)))))) 255) := ⟨_, rfl⟩
    have hb2 : b = byt v1 v2 v3 v4 v5 j := by
      rw [hb, Int.tmod_eq_emod_of_nonneg j0, wsu (a := 3) (by omega) (by omega), wmu (a := 8) (by omega) (by omega), show 8 * (3 - j % 4) = 24 - 8 * (j % 4) by omega]
      rfl
    obtain ⟨N, hN⟩ : ∃ m : Mem, m = mset (mset M 67 (M 66 1) b) 66 1 (M 66 1 + 1) := ⟨_, rfl⟩
    have e : (mset (mset M 67 (M 66 1) b) 66 1 (wr32 (((mset M 67 (M 66 1) b) 66 1) + 1))) = N := by
      rw [mset_o (by decide), wad (by omega) (by omega), hN]
    have st : lmX12_feed_18 (k + 1) v1 v2 v3 v4 v5 j M = lmX12_feed_18 k v1 v2 v3 v4 v5 (j + 1) N := by rw [← e, hb]; rfl
    have st2 : lX12_feed_18 (k + 1) v1 v2 v3 v4 v5 j M = lX12_feed_18 k v1 v2 v3 v4 v5 (j + 1) N := by rw [← e, hb]; rfl
    have st3 : nlX12_feed_18 (k + 1) v1 v2 v3 v4 v5 j M = ((0 ≤ M 66 1 ∧ M 66 1 < 1600) ∧ nlX12_feed_18 k v1 v2 v3 v4 v5 (j + 1) N) := by rw [← e, hb]; rfl
    have n11 : N 66 1 = M 66 1 + 1 := by rw [hN, mset_e]
    have i1 := ih (j + 1) N (by omega) (by omega) (by omega) (by omega)
    rw [st, st2, st3]
    refine ⟨⟨⟨h0, by omega⟩, i1.1⟩, by omega, by omega, fun i => ?_, fun x hx => ?_⟩
    · rw [i1.2.2.2.1 i, n11]
      by_cases c : i = M 66 1
      · rw [if_neg (by omega), if_pos (by omega), hN, mset_o (by decide), c, mset_e, hb2, show j + (M 66 1 - M 66 1) = j by omega]
      · by_cases d : M 66 1 + 1 ≤ i ∧ i < M 66 1 + 1 + k
        · rw [if_pos d, if_pos (by omega), show j + 1 + (i - (M 66 1 + 1)) = j + (i - M 66 1) by omega]
        · rw [if_neg d, if_neg (by omega), hN, mset_o (by decide), mset_k c]
    · rw [i1.2.2.2.2 x hx, hN, mset_k hx, mset_o (by decide)]
theorem add4 {v : Int} {M : Mem} (h0 : 0 ≤ M 1 1) (h1 : M 1 1 + 4 ≤ 1600) : fmX8_addNumber M v 1 1 = M 1 1 + 4 ∧ (∀ i, fmX8_addNumber M v 2 i = if M 1 1 ≤ i ∧ i < M 1 1 + 4 then m_and (m_shr v (24 - 8 * (i - M 1 1))) 255 else M 2 i) := by
  have := ad4 (v := v) 4 24 M h0 (by omega)
  exact ⟨this.1, this.2.1⟩
theorem inv_feed : ∀ E, Two_feed E Inv := by
  intro E
  refine two_feed (fun v1 v2 v3 v4 v5 M hI hkk _ _ _ _ _ => ?_)
  obtain ⟨h, H, hG, hI⟩ := hI
  have hI' := hI
  obtain ⟨hok, hc, hr, hT, hF, hK, hC, hS, hO, hA, hW⟩ := hI
  have hh := hG.2.2.2
  obtain ⟨t1, t2, t3, t4⟩ := hT
  refine ⟨h, hG, ?_⟩
  unfold PX11_feed PX12_feed fX11_feed fmX11_feed fX8_hasRoom
  rw [wad (a := M 1 1) (by omega) (by omega)]
  by_cases a : 1600 < M 1 1 + 20
  · simp only [if_pos a, if_true]
    intro _
    have na : ¬ (wr32 (M 66 1 + 20) ≤ 1600) := by rw [t3, wad (by omega) (by omega)]; omega
    refine ⟨?_, ?_⟩
    · unfold nX12_feed
      exact fun z => absurd z na
    · unfold fX12_feed fmX12_feed
      rw [if_neg na, if_neg na]
      exact fun hG2 => ⟨rfl, h, H, hG2, hI'⟩
  · simp only [if_neg a, (by decide : ¬ (1 : Int) = 0), if_false]
    obtain ⟨A1, hA1⟩ : ∃ m : Mem, m = fmX8_addNumber M v1 := ⟨_, rfl⟩
    have a1 := add4 (v := v1) (M := M) t1 (by omega)
    rw [← hA1] at a1 ⊢
    obtain ⟨A2, hA2⟩ : ∃ m : Mem, m = fmX8_addNumber A1 v2 := ⟨_, rfl⟩
    have a2 := add4 (v := v2) (M := A1) (by omega) (by omega)
    rw [← hA2] at a2 ⊢
    obtain ⟨A3, hA3⟩ : ∃ m : Mem, m = fmX8_addNumber A2 v3 := ⟨_, rfl⟩
    have a3 := add4 (v := v3) (M := A2) (by omega) (by omega)
    rw [← hA3] at a3 ⊢
    obtain ⟨A4, hA4⟩ : ∃ m : Mem, m = fmX8_addNumber A3 v4 := ⟨_, rfl⟩
    have a4 := add4 (v := v4) (M := A3) (by omega) (by omega)
    rw [← hA4] at a4 ⊢
    obtain ⟨A5, hA5⟩ : ∃ m : Mem, m = fmX8_addNumber A4 v5 := ⟨_, rfl⟩
    have a5 := add4 (v := v5) (M := A4) (by omega) (by omega)
    rw [← hA5] at a5 ⊢
    have q1 : ∀ q, q ≠ 1 → q ≠ 2 → A5 q = M q := fun q x y => by
      rw [hA5, frX8_addNumber y x, hA4, frX8_addNumber y x, hA3, frX8_addNumber y x, hA2, frX8_addNumber y x, hA1, frX8_addNumber y x]
    have L5 : A5 1 1 = M 1 1 + 20 := by omega
    have B5 : ∀ i, A5 2 i = if M 1 1 ≤ i ∧ i < M 1 1 + 20 then byt v1 v2 v3 v4 v5 (0 + (i - M 1 1)) else M 2 i := by
      intro i
      rw [a5.2, a4.2, a3.2, a2.2, a1.2, a4.1, a3.1, a2.1, a1.1]
      unfold byt bsel
      by_cases c5 : M 1 1 + 4 + 4 + 4 + 4 ≤ i ∧ i < M 1 1 + 4 + 4 + 4 + 4 + 4
      · rw [if_pos c5, if_pos (by omega), if_pos (by omega), if_pos (by omega), if_pos (by omega), if_pos (by omega), show 24 - 8 * (i - (M 1 1 + 4 + 4 + 4 + 4)) = 24 - 8 * ((0 + (i - M 1 1)) % 4) by omega]
      rw [if_neg c5]
      by_cases c4 : M 1 1 + 4 + 4 + 4 ≤ i ∧ i < M 1 1 + 4 + 4 + 4 + 4
      · rw [if_pos c4, if_pos (by omega), if_pos (by omega), if_pos (by omega), if_pos (by omega), if_neg (by omega), show 24 - 8 * (i - (M 1 1 + 4 + 4 + 4)) = 24 - 8 * ((0 + (i - M 1 1)) % 4) by omega]
      rw [if_neg c4]
      by_cases c3 : M 1 1 + 4 + 4 ≤ i ∧ i < M 1 1 + 4 + 4 + 4
      · rw [if_pos c3, if_pos (by omega), if_pos (by omega), if_pos (by omega), if_neg (by omega), show 24 - 8 * (i - (M 1 1 + 4 + 4)) = 24 - 8 * ((0 + (i - M 1 1)) % 4) by omega]
      rw [if_neg c3]
      by_cases c2 : M 1 1 + 4 ≤ i ∧ i < M 1 1 + 4 + 4
      · rw [if_pos c2, if_pos (by omega), if_pos (by omega), if_neg (by omega), show 24 - 8 * (i - (M 1 1 + 4)) = 24 - 8 * ((0 + (i - M 1 1)) % 4) by omega]
      rw [if_neg c2]
      by_cases c1 : M 1 1 ≤ i ∧ i < M 1 1 + 4
      · rw [if_pos c1, if_pos (by omega), if_neg (by omega), show 24 - 8 * (i - M 1 1) = 24 - 8 * ((0 + (i - M 1 1)) % 4) by omega]
      rw [if_neg c1, if_neg (by omega)]
    have z66 : A5 66 = M 66 := q1 66 (by decide) (by decide)
    have z67 : A5 67 = M 67 := q1 67 (by decide) (by decide)
    have pa : wr32 (A5 66 1 + 20) ≤ 1600 := by rw [z66, t3, wad (by omega) (by omega)]; omega
    have r := fd20 (v1 := v1) (v2 := v2) (v3 := v3) (v4 := v4) (v5 := v5) 20 0 A5 (by omega) (by omega) (by rw [z66]; omega) (by rw [z66]; omega)
    rw [z66, z67, t3] at r
    intro _
    refine ⟨?_, ?_⟩
    · unfold nX12_feed
      exact fun _ => r.1
    · have rm : ∀ q, q ≠ 67 → q ≠ 66 → fmX12_feed A5 v1 v2 v3 v4 v5 q = A5 q := fun q x y => frX12_feed (by first | exact x | exact y) (by first | exact x | exact y)
      unfold fX12_feed
      unfold fmX12_feed at rm ⊢
      rw [if_pos pa] at rm ⊢
      rw [if_pos pa]
      intro hG2
      refine ⟨by omega, h, H, hG2, ?_⟩
      obtain ⟨M2, hM2⟩ : ∃ m : Mem, m = lmX12_feed_18 20 v1 v2 v3 v4 v5 0 A5 := ⟨_, rfl⟩
      rw [← hM2] at r rm ⊢
      have hE : ∀ q, q ∉ ([1, 2, 66, 67] : List Int) → M2 q = M q := by
        intro q hq
        simp only [List.mem_cons, List.mem_nil_iff, or_false, not_or] at hq
        rw [rm q hq.2.2.2 hq.2.2.1, q1 q hq.1 hq.2.1]
      have f66 : ∀ j, j ≠ 1 → M2 66 j = M 66 j := r.2.2.2.2
      have eH := hEq h M M2 hh _ hE (by simp) (f66 _ (by decide)) (f66 _ (by decide))
      have eC : eqC M M2 := ⟨f66 _ (by decide), by rw [hE 0 (by simp)]⟩
      have e2 : M2 2 = A5 2 := rm 2 (by decide) (by decide)
      have e11 : M2 1 1 = M 1 1 + 20 := by rw [rm 1 (by decide) (by decide), L5]
      refine ⟨hok, Ch_fr eH hc, Rh_fr eH hr, ?_, iF_fr ⟨f66 _ (by decide), f66 _ (by decide), by rw [hE 0 (by simp)], by rw [hE 0 (by simp)]⟩ hF, iK_fr (eqK_of _ hE (by simp)) hK, iC_fr eC hC, iS_fr ⟨f66 _ (by decide), by rw [hE 0 (by simp)]⟩ hS, iO_fr ⟨f66 _ (by decide), by rw [hE 0 (by simp)], hE 31 (by simp), hE 125 (by simp)⟩ hO, iA_fr ⟨by rw [hE 27 (by simp)], hE 28 (by simp), hE 29 (by simp), hE 30 (by simp), f66 _ (by decide), f66 _ (by decide), hE 100 (by simp)⟩ hA, iW_fr eH eC ⟨by rw [hE 0 (by simp)], by rw [hE 0 (by simp)], hE 10 (by simp), hE 11 (by simp), fun q a b => hE q (by simp; omega)⟩ hW⟩
      refine ⟨by omega, by omega, by rw [r.2.2.1, e11]; rfl, fun k k0 k1 => ?_⟩
      rw [e2, r.2.2.2.1, B5]
      have bb := and255 (m_shr (bsel v1 v2 v3 v4 v5 (0 + (k - M 1 1))) (24 - 8 * ((0 + (k - M 1 1)) % 4)))
      by_cases c : M 1 1 ≤ k ∧ k < M 1 1 + 20
      · rw [if_pos (by omega), if_pos c]
        unfold byt
        rw [bb]
        exact ⟨rfl, by omega, by omega⟩
      · rw [if_neg (by omega), if_neg c]
        exact t4 k k0 (by omega)
