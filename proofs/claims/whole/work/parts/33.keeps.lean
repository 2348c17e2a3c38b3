/-! the reference keeps a state -/
theorem wad {a b : Int} (h1 : -2147483648 ≤ a + b) (h2 : a + b < 2147483648) : wr32 (a + b) = a + b := wr32_id ⟨h1, h2⟩
theorem wmu {a b : Int} (h1 : -2147483648 ≤ a * b) (h2 : a * b < 2147483648) : wr32 (a * b) = a * b := wr32_id ⟨h1, h2⟩
theorem wsu {a b : Int} (h1 : -2147483648 ≤ a - b) (h2 : a - b < 2147483648) : wr32 (a - b) = a - b := wr32_id ⟨h1, h2⟩
theorem kp25 {v1 w : Int} {K : Mem → Prop} {Q : Int → Mem → Prop} (h0 : 0 ≤ v1) (h1 : v1 < 9) (w0 : 0 ≤ w) (w1 : w < 20) : ∀ (k : Nat) (v2 : Int) (M : Mem), M 66 55 = w → 0 ≤ v2 → v2 ≤ 3 → 3 - v2 < k →
    (∀ M' : Mem, (∀ q, q ≠ 100 → M' q = M q) → (∀ i, M' 100 i = if 33 * w + 3 * v1 + v2 ≤ i ∧ i < 33 * w + 3 * v1 + 3 then M 88 (162 + 18 * v1 + (i - (33 * w + 3 * v1))) else M 100 i) → K M') → PX12_keeps_25 v1 K Q k v2 M := by
  intro k
  induction k with
  | zero => intro v2 M _ a b c; omega
  | succ k ih =>
    intro v2 M hw a b c hK
    refine ⟨fun z => ?_, fun z => ?_⟩
    · refine hK M (fun _ _ => rfl) (fun i => ?_)
      rw [if_neg (by omega)]
    · have e : wr32 (wr32 (wr32 (33 * M 66 55) + wr32 (3 * v1)) + v2) = 33 * w + 3 * v1 + v2 := by
        rw [hw, wmu (a := 33) (b := w) (by omega) (by omega), wmu (a := 3) (b := v1) (by omega) (by omega), wad (a := 33 * w) (by omega) (by omega), wad (by omega) (by omega)]
      rw [e]
      refine ⟨nPOf h0 h1 a (by omega), by omega, by omega, ?_⟩
      intro M5 hM5
      rw [wad (a := v2) (by omega) (by omega)]
      have x66 : M5 66 55 = w := by rw [hM5, mset_o (by decide), hw]
      refine ih (v2 + 1) M5 x66 (by omega) (by omega) (by omega) (fun M' f1 f2 => hK M' (fun q hq => (f1 q hq).trans (by rw [hM5, mset_p hq])) (fun i => ?_))
      rw [f2 i, (pOf h0 h1 a (by omega)).1] at *
      by_cases ci : i = 33 * w + 3 * v1 + v2
      · subst ci
        rw [if_neg (by omega), if_pos (by omega), hM5, mset_e]
        congr 1
        omega
      · by_cases cj : 33 * w + 3 * v1 + (v2 + 1) ≤ i ∧ i < 33 * w + 3 * v1 + 3
        · rw [if_pos cj, if_pos (by omega), hM5, mset_o (by decide)]
        · rw [if_neg cj, if_neg (by omega), hM5, mset_k ci]
theorem kp15 {w : Int} {H : Hal} {K : Mem → Prop} {Q : Int → Mem → Prop} (ho : Hok H) (w0 : 0 ≤ w) (w1 : w < 20) : ∀ (k : Nat) (v1 : Int) (M : Mem), M 66 55 = w → M 85 3 = H 0 4 → 0 ≤ v1 → v1 ≤ H 0 4 → H 0 4 - v1 < k →
    (∀ M' : Mem, (∀ q, q ≠ 100 → M' q = M q) → (∀ i, M' 100 i = if 33 * w + 3 * v1 ≤ i ∧ i < 33 * w + 3 * H 0 4 then M 88 (162 + 18 * ((i - 33 * w) / 3) + (i - 33 * w) % 3) else M 100 i) → K M') → PX12_keeps_15 K Q k v1 M := by
  have hb := ho.2.1
  intro k
  induction k with
  | zero => intro v1 M _ _ a b c; omega
  | succ k ih =>
    intro v1 M hw hP a b c hK
    have eP : fX12_peopleMany M = H 0 4 := hP
    refine ⟨fun z => ?_, fun z => ?_⟩
    · rw [eP] at z
      refine hK M (fun _ _ => rfl) (fun i => ?_)
      rw [if_neg (by omega)]
    · rw [eP] at z
      refine ⟨4, kp25 a (by omega) w0 w1 4 0 M hw (by omega) (by omega) (by omega) (fun M1 f1 f2 => ?_)⟩
      rw [wad (a := v1) (by omega) (by omega)]
      refine ih (v1 + 1) M1 (by rw [f1 66 (by decide), hw]) (by rw [f1 85 (by decide), hP]) (by omega) (by omega) (by omega) (fun M' g1 g2 => hK M' (fun q hq => (g1 q hq).trans (f1 q hq)) (fun i => ?_))
      rw [g2 i]
      by_cases cj : 33 * w + 3 * (v1 + 1) ≤ i ∧ i < 33 * w + 3 * H 0 4
      · rw [if_pos cj, if_pos (by omega), f1 88 (by decide)]
      · rw [if_neg cj, f2 i]
        by_cases ci : 33 * w + 3 * v1 + 0 ≤ i ∧ i < 33 * w + 3 * v1 + 3
        · rw [if_pos ci, if_pos (by omega)]
          have d1 : (i - 33 * w) / 3 = v1 := by omega
          have d2 : (i - 33 * w) % 3 = i - (33 * w + 3 * v1) := by omega
          rw [d1, d2]
        · rw [if_neg ci, if_neg (by omega)]
theorem kp68 {w : Int} {K : Mem → Prop} {Q : Int → Mem → Prop} (w0 : 0 ≤ w) (w1 : w < 20) : ∀ (k : Nat) (v1 : Int) (M : Mem), M 66 55 = w → 0 ≤ v1 → v1 ≤ 6 → 6 - v1 < k →
    (∀ M' : Mem, (∀ q, q ≠ 100 → M' q = M q) → (∀ i, M' 100 i = if 33 * w + 27 + v1 ≤ i ∧ i < 33 * w + 33 then M 92 (i - (33 * w + 27)) else M 100 i) → K M') → PX12_keeps_68 K Q k v1 M := by
  intro k
  induction k with
  | zero => intro v1 M _ a b c; omega
  | succ k ih =>
    intro v1 M hw a b c hK
    refine ⟨fun z => ?_, fun z => ?_⟩
    · refine hK M (fun _ _ => rfl) (fun i => ?_)
      rw [if_neg (by omega)]
    · have e : wr32 (wr32 (wr32 (33 * M 66 55) + 27) + v1) = 33 * w + 27 + v1 := by
        rw [hw, wmu (a := 33) (b := w) (by omega) (by omega), wad (a := 33 * w) (by omega) (by omega), wad (by omega) (by omega)]
      rw [e]
      refine ⟨a, by omega, by omega, by omega, ?_⟩
      intro M5 hM5
      rw [wad (a := v1) (by omega) (by omega)]
      refine ih (v1 + 1) M5 (by rw [hM5, mset_o (by decide), hw]) (by omega) (by omega) (by omega) (fun M' f1 f2 => hK M' (fun q hq => (f1 q hq).trans (by rw [hM5, mset_p hq])) (fun i => ?_))
      rw [f2 i]
      by_cases ci : i = 33 * w + 27 + v1
      · subst ci
        rw [if_neg (by omega), if_pos (by omega), hM5, mset_e]
        congr 1
        omega
      · by_cases cj : 33 * w + 27 + (v1 + 1) ≤ i ∧ i < 33 * w + 33
        · rw [if_pos cj, if_pos (by omega), hM5, mset_o (by decide)]
        · rw [if_neg cj, if_neg (by omega), hM5, mset_k ci]
theorem keeps_ev {H : Hal} {M : Mem} (ho : Hok H) (hr : Rh H M) (n0 : 0 ≤ M 66 54) (n1 : M 66 54 ≤ 20) (w0 : 0 ≤ M 66 55) (w1 : M 66 55 < 20) : ∃ M' : Mem, Ev (PX12_keeps M) 0 M' ∧ (∀ q, q ≠ 66 → q ≠ 100 → M' q = M q) ∧ (∀ j, j ≠ 54 → j ≠ 55 → M' 66 j = M 66 j) ∧ M' 66 55 = (M 66 55 + 1) % 20 ∧ M' 66 54 = (if M 66 54 < 20 then M 66 54 + 1 else 20) ∧
    (∀ x i, 0 ≤ x → x < 20 → x ≠ (M 66 55 + 1) % 20 → 0 ≤ i → i < 33 → M' 100 (33 * x + i) = M 100 (33 * x + i)) ∧
    (∀ p, 0 ≤ p → p < H 0 4 → M' 100 (33 * ((M 66 55 + 1) % 20) + 3 * p + 0) = H 7 p ∧ M' 100 (33 * ((M 66 55 + 1) % 20) + 3 * p + 1) = H 8 p - 60 ∧ M' 100 (33 * ((M 66 55 + 1) % 20) + 3 * p + 2) = H 9 p) ∧ (∀ k, 0 ≤ k → k < H 0 2 → M' 100 (33 * ((M 66 55 + 1) % 20) + 27 + k) = H 3 k) := by
  have hb := ho.2.1
  obtain ⟨w, hw⟩ : ∃ w, w = (M 66 55 + 1) % 20 := ⟨_, rfl⟩
  have hw0 : 0 ≤ w ∧ w < 20 := by omega
  have et : Int.tmod (wr32 (M 66 55 + 1)) 20 = w := by
    rw [wad (by omega) (by omega), Int.tmod_eq_emod_of_nonneg (by omega), hw]
  obtain ⟨f2, hf2⟩ : ∃ f2 : Int → Int, f2 = fun i => if 33 * w + 27 ≤ i ∧ i < 33 * w + 33 then M 92 (i - (33 * w + 27)) else if 33 * w ≤ i ∧ i < 33 * w + 3 * H 0 4 then M 88 (162 + 18 * ((i - 33 * w) / 3) + (i - 33 * w) % 3) else M 100 i := ⟨_, rfl⟩
  obtain ⟨M', hM'⟩ : ∃ m : Mem, m = fun q => if q = 100 then f2 else if q = 66 then (fun j => if j = 54 then (if M 66 54 < 20 then M 66 54 + 1 else 20) else if j = 55 then w else M 66 j) else M q := ⟨_, rfl⟩
  refine ⟨M', ?_, ?_, ?_, ?_, ?_, ?_, ?_, ?_⟩
  · intro Q hQ M2 hM2
    rw [et] at hM2
    refine ⟨11, kp15 ho hw0.1 hw0.2 11 0 M2 (by rw [hM2, mset_e]) (by rw [hM2, mset_o (by decide)]; exact hr.1.2.2.2.2.1) (by omega) (by omega) (by omega) (fun M4 g1 g2 => ?_)⟩
    refine ⟨7, kp68 hw0.1 hw0.2 7 0 M4 (by rw [g1 66 (by decide), hM2, mset_e]) (by omega) (by omega) (by omega) (fun M7 k1 k2 => ?_)⟩
    have x66 : ∀ j, M7 66 j = mset M 66 55 w 66 j := fun j => by rw [k1 66 (by decide), g1 66 (by decide), hM2]
    have x54 : M7 66 54 = M 66 54 := by rw [x66]; simp [ms]
    have x100 : M7 100 = f2 := by
      funext i
      rw [k2 i, hf2, g1 92 (by decide), hM2, mset_o (by decide), g2 i, hM2, mset_o (by decide), mset_o (by decide)]
      by_cases c1 : 33 * w + 27 ≤ i ∧ i < 33 * w + 33
      · rw [if_pos (by omega)]
        simp only [if_pos c1]
      · rw [if_neg (by omega)]
        simp only [if_neg c1]
        by_cases c2 : 33 * w ≤ i ∧ i < 33 * w + 3 * H 0 4
        · rw [if_pos (by omega), if_pos c2]
        · rw [if_neg (by omega), if_neg c2]
    have xq : ∀ q, q ≠ 100 → q ≠ 66 → M7 q = M q := fun q a b => by rw [k1 q a, g1 q a, hM2, mset_p b]
    refine ⟨fun z => ?_, fun z => ?_⟩
    · have : M7 = M' := by
        rw [hM']
        funext q
        by_cases c1 : q = 100
        · subst c1
          simp only [if_true]
          exact x100
        · by_cases c2 : q = 66
          · subst c2
            simp only [(by decide : ¬ (66 : Int) = 100), if_false, if_true]
            funext j
            rw [x66]
            by_cases c3 : j = 54
            · subst c3
              simp [ms]
              omega
            · by_cases c4 : j = 55
              · subst c4
                simp [ms]
              · simp [ms, c3, c4]
          · simp only [if_neg c1, if_neg c2]
            exact xq q c1 c2
      rw [this]
      exact hQ
    · intro M11 hM11
      have : M11 = M' := by
        rw [hM11, hM', x54, wad (by omega) (by omega)]
        funext q
        by_cases c1 : q = 100
        · subst c1
          rw [mset_p (by decide)]
          simp only [if_true]
          exact x100
        · by_cases c2 : q = 66
          · subst c2
            simp only [(by decide : ¬ (66 : Int) = 100), if_false, if_true]
            funext j
            by_cases c3 : j = 54
            · subst c3
              rw [mset_e]
              simp
              omega
            · rw [mset_k c3, x66]
              by_cases c4 : j = 55
              · subst c4
                simp [ms]
              · simp [ms, c3, c4]
          · rw [mset_p c2]
            simp only [if_neg c1, if_neg c2]
            exact xq q c1 c2
      rw [this]
      exact hQ
  · intro q a b
    rw [hM']
    simp only [if_neg a, if_neg b]
  · intro j a b
    rw [hM']
    simp [a, b]
  · rw [hM', ← hw]
    simp
  · rw [hM']
    simp
  · intro x i x0 x1 x2 i0 i1
    rw [hM', hf2]
    rw [← hw] at x2
    simp only [if_true]
    rw [if_neg (by omega), if_neg (by omega)]
  · intro p p0 p1
    have r5 := hr.2.2.2.2.1 p p0 p1
    rw [hM', hf2, ← hw]
    simp only [if_true]
    refine ⟨?_, ?_, ?_⟩
    · rw [if_neg (by omega), if_pos (by omega), show (33 * w + 3 * p + 0 - 33 * w) / 3 = p by omega, show (33 * w + 3 * p + 0 - 33 * w) % 3 = 0 by omega, Int.add_zero]
      exact r5.1
    · rw [if_neg (by omega), if_pos (by omega), show (33 * w + 3 * p + 1 - 33 * w) / 3 = p by omega, show (33 * w + 3 * p + 1 - 33 * w) % 3 = 1 by omega]
      exact r5.2.1
    · rw [if_neg (by omega), if_pos (by omega), show (33 * w + 3 * p + 2 - 33 * w) / 3 = p by omega, show (33 * w + 3 * p + 2 - 33 * w) % 3 = 2 by omega]
      exact r5.2.2.1
  · intro k k0 k1
    have r3 := hr.2.2.1 k k0 k1
    rw [hM', hf2, ← hw]
    simp only [if_true]
    rw [if_pos (by omega), show 33 * w + 27 + k - (33 * w + 27) = k by omega]
    exact r3.2
