theorem or_lt {a b n : Nat} (ha : a < 2 ^ n) (hb : b < 2 ^ n) : a ||| b < 2 ^ n := Nat.or_lt_two_pow ha hb
theorem draw_c {M : Mem} (h0 : 0 ≤ M 0 13) (h1 : M 0 13 < 2147483648) : ∃ s : Int, s = (1103515245 * M 0 13 + 12345) % 2147483648 ∧ fmX11_draw M = mset M 0 13 s ∧ fX11_draw M 4 = s / 64 % 4 := by
  refine ⟨_, rfl, ?_, ?_⟩
  · unfold fmX11_draw
    rw [andmax]
    congr 1
    unfold wr32
    omega
  · unfold fX11_draw
    rw [if_neg (by decide), mset_e, andmax]
    have e : wr32 (wr32 (1103515245 * M 0 13) + 12345) % 2147483648 = (1103515245 * M 0 13 + 12345) % 2147483648 := by
      unfold wr32
      omega
    rw [e, Int.tdiv_eq_ediv_of_nonneg (by omega), wr32_id (by unfold r32; omega), Int.tmod_eq_emod_of_nonneg (by omega)]
theorem draw_r {M : Mem} (h0 : 0 ≤ M 66 56) (h1 : M 66 56 < 2147483648) : fmX12_drawOf M = mset M 66 56 ((1103515245 * M 66 56 + 12345) % 2147483648) ∧ fX12_drawOf M 4 = (1103515245 * M 66 56 + 12345) % 2147483648 / 64 % 4 ∧ nX12_drawOf 4 := by
  have e : Int.tmod (wr64 (wr64 (1103515245 * M 66 56) + 12345)) 2147483648 = (1103515245 * M 66 56 + 12345) % 2147483648 := by
    rw [wr64_id (x := 1103515245 * M 66 56) (by unfold r64; omega), wr64_id (by unfold r64; omega), Int.tmod_eq_emod_of_nonneg (by omega)]
  refine ⟨?_, ?_, by unfold nX12_drawOf; decide⟩
  · unfold fmX12_drawOf
    rw [e]
  · unfold fX12_drawOf
    rw [mset_e, e, Int.tdiv_eq_ediv_of_nonneg (by omega), wr64_id (by unfold r64; omega), Int.tmod_eq_emod_of_nonneg (by omega), wr32_id (by unfold r32; omega)]
/-- the seed behind k draws, the set that k draws give -/
def sdk (s : Int) : Nat → Int
  | 0 => s
  | k + 1 => (1103515245 * sdk s k + 12345) % 2147483648
def ltk (H : Hal) (s : Int) : Nat → Nat
  | 0 => 0
  | k + 1 => if H 10 k ≤ sdk s (k + 1) / 64 % 4 then ltk H s k else (ltk H s k ||| 2 ^ k)
theorem ltk_b (H : Hal) (s : Int) : ∀ k : Nat, ltk H s k < 2 ^ k
  | 0 => by show 0 < 1; decide
  | k + 1 => by
    have h := ltk_b H s k
    have h2 : 2 ^ k ≤ 2 ^ (k + 1) := Nat.pow_le_pow_right (by omega) (by omega)
    have h3 : 2 ^ k < 2 ^ (k + 1) := Nat.pow_lt_pow_right (by omega) (by omega)
    show (if H 10 k ≤ sdk s (k + 1) / 64 % 4 then ltk H s k else (ltk H s k ||| 2 ^ k)) < 2 ^ (k + 1)
    by_cases c : H 10 k ≤ sdk s (k + 1) / 64 % 4
    · rw [if_pos c]
      omega
    · rw [if_neg c]
      exact or_lt (by omega) h3
theorem sdk_b {s : Int} (h0 : 0 ≤ s) (h1 : s < 2147483648) : ∀ k : Nat, 0 ≤ sdk s k ∧ sdk s k < 2147483648
  | 0 => ⟨h0, h1⟩
  | k + 1 => by
    show 0 ≤ (1103515245 * sdk s k + 12345) % 2147483648 ∧ (1103515245 * sdk s k + 12345) % 2147483648 < 2147483648
    omega
theorem or_bit {a k : Nat} (ha : a < 2 ^ k) (hk : k < 9) : m_or (a : Int) (m_shl 1 (k : Int)) = ((a ||| 2 ^ k : Nat) : Int) := by
  have h1 : 2 ^ k ≤ 2 ^ 9 := Nat.pow_le_pow_right (by omega) (by omega)
  rw [shl_one (by omega) (by omega), Int.toNat_natCast, or_nat (by omega) (by omega)]
theorem lot_c {g : Int} {H : Hal} (hg : isG g) (ho : Hok H) {s : Int} (s0 : 0 ≤ s) (s1 : s < 2147483648) : ∀ (k j : Nat) (M : Mem), Ch g H M → (j : Int) + k = H 0 4 → M 0 13 = sdk s j →
    lX11_lot_4 g k (ltk H s j) j M = (ltk H s (j + k) : Nat) ∧ lmX11_lot_4 g k (ltk H s j) j M = fmX11_changed (mset (mset M 0 13 (sdk s (j + k))) 0 12 (ltk H s (j + k) : Nat)) 0 := by
  have hb := ho.2.1
  intro k
  induction k with
  | zero =>
    intro j M hc h1 h2
    refine ⟨rfl, ?_⟩
    have : mset M 0 13 (sdk s (j + 0)) = M := by
      rw [Nat.add_zero, ← h2]
      funext q i
      rw [ms]
      by_cases c : q = 0 ∧ i = 13
      · rw [if_pos c, c.1, c.2]
      · rw [if_neg c]
    rw [this]
    rfl
  | succ k ih =>
    intro j M hc h1 h2
    have sb := sdk_b s0 s1 j
    obtain ⟨s', hs', d1, d2⟩ := draw_c (M := M) (by omega) (by omega)
    have e1 : s' = sdk s (j + 1) := by rw [hs', h2]; rfl
    rw [e1] at d1 d2
    have hcN : Ch g H (mset M 0 13 (sdk s (j + 1))) := Ch_put hg hc _ _ (by omega)
    have gg : fX11_get (mset M 0 13 (sdk s (j + 1))) (g + 6) 9 j = H 10 j := by
      rw [rd_get (by omega) (by omega)]
      exact (hcN.2.2.2.2.1 j (by omega) (by omega)).2.2.2.1
    have bits : (if fX11_get (fmX11_draw M) (g + 6) 9 j ≤ fX11_draw M 4 then ((ltk H s j : Nat) : Int) else m_or (ltk H s j : Nat) (m_shl 1 j)) = ((ltk H s (j + 1) : Nat) : Int) := by
      rw [d1, d2, gg]
      show _ = (((if H 10 j ≤ sdk s (j + 1) / 64 % 4 then ltk H s j else (ltk H s j ||| 2 ^ j)) : Nat) : Int)
      by_cases c : H 10 j ≤ sdk s (j + 1) / 64 % 4
      · rw [if_pos c, if_pos c]
      · rw [if_neg c, if_neg c, or_bit (ltk_b H s j) (by omega)]
    have i1 := ih (j + 1) (mset M 0 13 (sdk s (j + 1))) hcN (by omega) mset_e
    have st1 : lX11_lot_4 g (k + 1) (ltk H s j : Nat) j M = lX11_lot_4 g k (if fX11_get (fmX11_draw M) (g + 6) 9 j ≤ fX11_draw M 4 then ((ltk H s j : Nat) : Int) else m_or (ltk H s j : Nat) (m_shl 1 j)) (j + 1) (fmX11_draw M) := rfl
    have st2 : lmX11_lot_4 g (k + 1) (ltk H s j : Nat) j M = lmX11_lot_4 g k (if fX11_get (fmX11_draw M) (g + 6) 9 j ≤ fX11_draw M 4 then ((ltk H s j : Nat) : Int) else m_or (ltk H s j : Nat) (m_shl 1 j)) (j + 1) (fmX11_draw M) := rfl
    rw [st1, st2, bits, d1]
    have ej : ((j : Int) + 1) = ((j + 1 : Nat) : Int) := by omega
    rw [ej]
    have ek : j + 1 + k = j + (k + 1) := by omega
    rw [ek] at i1
    refine ⟨i1.1, i1.2.trans ?_⟩
    congr 2
    funext q i
    rw [ms, ms, ms]
    by_cases c : q = 0 ∧ i = 13
    · rw [if_pos c, if_pos c]
    · rw [if_neg c, if_neg c, if_neg c]
theorem lot_r {H : Hal} (ho : Hok H) {s : Int} (s0 : 0 ≤ s) (s1 : s < 2147483648) : ∀ (k j : Nat) (M : Mem), Rh H M → (j : Int) + k = H 0 4 → M 66 56 = sdk s j → M 66 42 = (ltk H s j : Nat) →
    nlX12_lot_7 k j M ∧ lX12_lot_7 k j M = (ltk H s (j + k) : Nat) ∧ lmX12_lot_7 k j M 66 56 = sdk s (j + k) ∧ lmX12_lot_7 k j M 66 42 = (ltk H s (j + k) : Nat) ∧ (∀ q, q ≠ 66 → lmX12_lot_7 k j M q = M q) ∧ (∀ x, x ≠ 56 → x ≠ 42 → lmX12_lot_7 k j M 66 x = M 66 x) := by
  have hb := ho.2.1
  intro k
  induction k with
  | zero => exact fun j M _ _ h2 h3 => ⟨trivial, h3, h2, h3, fun _ _ => rfl, fun _ _ _ => rfl⟩
  | succ k ih =>
    intro j M hr h1 h2 h3
    have sb := sdk_b s0 s1 j
    have d := draw_r (M := M) (by omega) (by omega)
    have e1 : (1103515245 * M 66 56 + 12345) % 2147483648 = sdk s (j + 1) := by rw [h2]; rfl
    rw [e1] at d
    obtain ⟨N, hN⟩ : ∃ m : Mem, m = mset M 66 56 (sdk s (j + 1)) := ⟨_, rfl⟩
    rw [← hN] at d
    have hrN : Rh H N := by
      rw [hN]
      exact Rh_fr (g := 32) ⟨fun q a c => mset_p (by omega), mset_k (by decide), mset_k (by decide), fun q a c => mset_p (by omega)⟩ hr
    have pp : fX12_personOf N j 3 = H 10 j := by
      rw [(pOf (by omega) (by omega) (by omega) (by omega)).1]
      exact (hrN.2.2.2.2.1 j (by omega) (by omega)).2.2.2.1
    have n42 : N 66 42 = (ltk H s j : Nat) := by rw [hN, mset_k (by decide), h3]
    obtain ⟨N2, hN2⟩ : ∃ m : Mem, m = (if (fX12_personOf (fmX12_drawOf M) j 3) ≤ (fX12_drawOf M 4) then (fmX12_drawOf M) else (mset (fmX12_drawOf M) 66 42 (m_or ((fmX12_drawOf M) 66 42) (m_shl 1 j)))) := ⟨_, rfl⟩
    have hN3 : N2 = mset N 66 42 (ltk H s (j + 1) : Nat) := by
      rw [hN2, d.1, d.2.1, pp, n42]
      show _ = mset N 66 42 (((if H 10 j ≤ sdk s (j + 1) / 64 % 4 then ltk H s j else (ltk H s j ||| 2 ^ j)) : Nat) : Int)
      by_cases c : H 10 j ≤ sdk s (j + 1) / 64 % 4
      · rw [if_pos c, if_pos c, ← n42]
        funext q i
        rw [ms]
        by_cases c2 : q = 66 ∧ i = 42
        · rw [if_pos c2, c2.1, c2.2]
        · rw [if_neg c2]
      · rw [if_neg c, if_neg c, or_bit (ltk_b H s j) (by omega)]
    have hr2 : Rh H N2 := by
      rw [hN3]
      exact Rh_fr (g := 32) ⟨fun q a c => mset_p (by omega), mset_k (by decide), mset_k (by decide), fun q a c => mset_p (by omega)⟩ hrN
    have i1 := ih (j + 1) N2 hr2 (by omega) (by rw [hN3, mset_k (by decide), hN, mset_e]) (by rw [hN3, mset_e])
    have st1 : lX12_lot_7 (k + 1) j M = lX12_lot_7 k (j + 1) N2 := by rw [hN2]; rfl
    have st2 : lmX12_lot_7 (k + 1) j M = lmX12_lot_7 k (j + 1) N2 := by rw [hN2]; rfl
    have st3 : nlX12_lot_7 (k + 1) j M = (nX12_drawOf 4 ∧ nX12_personOf j 3 ∧ nlX12_lot_7 k (j + 1) N2) := by rw [hN2]; rfl
    have ej : ((j : Int) + 1) = ((j + 1 : Nat) : Int) := by omega
    have ek : j + 1 + k = j + (k + 1) := by omega
    rw [st1, st2, st3, ej]
    rw [ek] at i1
    refine ⟨⟨d.2.2, nPOf (by omega) (by omega) (by omega) (by omega), i1.1⟩, i1.2.1, i1.2.2.1, i1.2.2.2.1, fun q hq => ?_, fun x a c => ?_⟩
    · rw [i1.2.2.2.2.1 q hq, hN3, mset_p hq, hN, mset_p hq]
    · rw [i1.2.2.2.2.2 x a c, hN3, mset_k c, hN, mset_k a]
theorem inv_lot : ∀ E, Two_lot E Inv := by
  intro E
  refine two_lot (fun M hI hkk => ?_)
  obtain ⟨h, H, hG, hI⟩ := hI
  obtain ⟨hok, hc, hr, hT, hF, hK, hC, hS, hO, hA, hW⟩ := hI
  have hh := hG.2.2.2
  have hb := hok.2.1
  refine ⟨h, hG, ?_⟩
  have sb := sdk_b hS.2.1 hS.2.2 (H 0 4).toNat
  obtain ⟨P, hP⟩ : ∃ P : Nat, (P : Int) = H 0 4 := ⟨(H 0 4).toNat, by omega⟩
  have c := lot_c hh hok hS.2.1 hS.2.2 P 0 M hc (by omega) rfl
  have e1 : fX11_lot M h = (ltk H (M 0 13) P : Nat) := by
    unfold fX11_lot
    rw [hc.1.2.2.2.2.1, Int.sub_zero, ← hP, Int.toNat_natCast]
    have := c.1
    rw [Nat.zero_add] at this
    exact this
  have e2 : fmX11_lot M h = fmX11_changed (mset (mset M 0 13 (sdk (M 0 13) P)) 0 12 (ltk H (M 0 13) P : Nat)) 0 := by
    unfold fmX11_lot
    rw [hc.1.2.2.2.2.1, Int.sub_zero, ← hP, Int.toNat_natCast]
    have := c.2
    rw [Nat.zero_add] at this
    exact this
  unfold PX11_lot
  rw [e1, e2, chd]
  have y16 : mset (mset M 0 13 (sdk (M 0 13) P)) 0 12 (ltk H (M 0 13) P : Nat) 0 16 = M 0 16 := by simp [ms]
  rw [y16]
  obtain ⟨M1, hM1⟩ : ∃ m : Mem, m = mset (mset (mset (mset M 0 13 (sdk (M 0 13) P)) 0 12 (ltk H (M 0 13) P : Nat)) 0 16 (if M 0 16 = 0 then (if (0 : Int) = 0 then (0 : Int) else 1) else 1)) 0 17 1 := ⟨_, rfl⟩
  rw [← hM1]
  intro _
  have q1 : ∀ q, q ≠ 0 → M1 q = M q := fun q a => by rw [hM1, mset_p a, mset_p a, mset_p a, mset_p a]
  have hr1 : Rh H (mset M1 66 42 0) := by
    refine Rh_fr (g := h) ⟨fun q a c => ?_, by rw [mset_k (by decide), q1 66 (by decide)], by rw [mset_k (by decide), q1 66 (by decide)], fun q a c => by rw [mset_p (by omega), q1 q (by omega)]⟩ hr
    have hh2 : 32 ≤ h ∧ h ≤ 49 := by rcases hh with z | z <;> rw [z] <;> decide
    rw [mset_p (by omega), q1 q (by omega)]
  have r := lot_r hok hS.2.1 hS.2.2 P 0 (mset M1 66 42 0) hr1 (by omega) (by rw [mset_k (by decide), q1 66 (by decide), hS.1]; rfl) (by rw [mset_e]; rfl)
  rw [Nat.zero_add] at r
  have e0 : (fX12_peopleMany (mset M1 66 42 0) - 0).toNat = P := by rw [pMany hr1, Int.sub_zero, ← hP, Int.toNat_natCast]
  unfold PX12_lot nX12_lot fX12_lot fmX12_lot
  rw [e0]
  obtain ⟨N, hN⟩ : ∃ m : Mem, m = lmX12_lot_7 P 0 (mset M1 66 42 0) := ⟨_, rfl⟩
  have r' : nlX12_lot_7 P 0 (mset M1 66 42 0) ∧ lX12_lot_7 P 0 (mset M1 66 42 0) = (ltk H (M 0 13) P : Nat) ∧ N 66 56 = sdk (M 0 13) P ∧ N 66 42 = (ltk H (M 0 13) P : Nat) ∧ (∀ q, q ≠ 66 → N q = mset M1 66 42 0 q) ∧ (∀ x, x ≠ 56 → x ≠ 42 → N 66 x = mset M1 66 42 0 66 x) := by rw [hN]; exact r
  rw [← hN]
  obtain ⟨r1, r2, r3, r4, r5, r6⟩ := r'
  refine ⟨r1, fun hG2 => ⟨r2, h, H, hG2, ?_⟩⟩
  have hE : ∀ q, q ∉ ([0, 66] : List Int) → N q = M q := by
    intro q hq
    simp only [List.mem_cons, List.mem_nil_iff, or_false, not_or] at hq
    rw [r5 q hq.2, mset_p hq.2, q1 q hq.1]
  have f66 : ∀ x, x ≠ 56 → x ≠ 42 → N 66 x = M 66 x := fun x a c => by rw [r6 x a c, mset_k c, q1 66 (by decide)]
  have f0 : ∀ x, N 0 x = M1 0 x := fun x => by rw [r5 0 (by decide), mset_o (by decide)]
  have f0' : ∀ x, x ≠ 12 → x ≠ 13 → x ≠ 16 → x ≠ 17 → N 0 x = M 0 x := fun x a c d e => by rw [f0, hM1, mset_k e, mset_k d, mset_k a, mset_k c]
  have eH := hEq h M N hh _ hE (by simp) (f66 _ (by decide) (by decide)) (f66 _ (by decide) (by decide))
  have lb := ltk_b H (M 0 13) P
  refine ⟨hok, Ch_fr eH hc, Rh_fr eH hr, iT_fr ⟨by rw [hE 1 (by simp)], hE 2 (by simp), f66 _ (by decide) (by decide), hE 67 (by simp)⟩ hT, iF_fr ⟨f66 _ (by decide) (by decide), f66 _ (by decide) (by decide), f0' _ (by decide) (by decide) (by decide) (by decide), f0' _ (by decide) (by decide) (by decide) (by decide)⟩ hF, iK_fr (eqK_of _ hE (by simp)) hK, ?_, ?_, iO_fr ⟨f66 _ (by decide) (by decide), f0' _ (by decide) (by decide) (by decide) (by decide), hE 31 (by simp), hE 125 (by simp)⟩ hO, iA_fr ⟨by rw [hE 27 (by simp)], hE 28 (by simp), hE 29 (by simp), hE 30 (by simp), f66 _ (by decide) (by decide), f66 _ (by decide) (by decide), hE 100 (by simp)⟩ hA, ?_⟩
  · have e12 : N 0 12 = (ltk H (M 0 13) P : Nat) := by rw [f0, hM1, mset_k (by decide), mset_k (by decide), mset_e]
    have eP : (H 0 4).toNat = P := by omega
    refine ⟨by rw [r4, e12], by omega, ?_⟩
    rw [e12, eP]
    have : (2 : Int) ^ P = ((2 ^ P : Nat) : Int) := by norm_cast
    rw [this]
    omega
  · have e13 : N 0 13 = sdk (M 0 13) P := by rw [f0, hM1, mset_k (by decide), mset_k (by decide), mset_k (by decide), mset_e]
    have eP : (H 0 4).toNat = P := by omega
    rw [eP] at sb
    exact ⟨by rw [r3, e13], by omega, by omega⟩
  · obtain ⟨w1, w2, w3, w4, w5⟩ := hW
    have x16 : N 0 16 = M 0 16 := by
      rw [f0, hM1, mset_k (by decide), mset_e]
      rcases w1 with z | z <;> rw [z] <;> rfl
    have x17 : N 0 17 = 1 := by rw [f0, hM1, mset_e]
    refine ⟨by rw [x16]; exact w1, Or.inr x17, ?_, ?_, fun z => by omega⟩
    · unfold nOK fX1_isNear at w3 ⊢
      rw [eH.1 (h + 16) (by omega) (by omega)]
      exact w3
    · rw [x16]
      intro z
      have := w4 z
      unfold wOK at this ⊢
      rw [hE 10 (by simp), hE 11 (by simp)]
      exact this
