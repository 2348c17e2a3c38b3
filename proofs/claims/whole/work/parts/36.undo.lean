/-! undo -/
theorem ud21 {v1 w : Int} {K : Mem → Prop} {Q : Int → Mem → Prop} (h0 : 0 ≤ v1) (h1 : v1 < 9) (w0 : 0 ≤ w) (w1 : w < 20) : ∀ (k : Nat) (v2 : Int) (M : Mem), M 66 55 = w → 0 ≤ v2 → v2 ≤ 3 → 3 - v2 < k →
    (∀ M' : Mem, (∀ q, q ≠ 88 → M' q = M q) → (∀ i, M' 88 i = if 162 + 18 * v1 + v2 ≤ i ∧ i < 162 + 18 * v1 + 3 then M 100 (33 * w + 3 * v1 + (i - (162 + 18 * v1))) else M 88 i) → K M') → PX12_undo_21 v1 K Q k v2 M := by
  intro k
  induction k with
  | zero => intro v2 M _ a b c; omega
  | succ k ih =>
    intro v2 M hw a b c hK
    refine ⟨fun z => ?_, fun z => ?_⟩
    · refine hK M (fun _ _ => rfl) (fun i => ?_)
      rw [if_neg (by omega)]
    · have e : wr32 (wr32 (wr32 (33 * M 66 55) + wr32 (3 * v1)) + v2) = 33 * w + 3 * v1 + v2 := by
        rw [hw, wmu (a := 33) (b := w) (by omega) (by omega), wmu (a := 3) (b := v1) (by omega) (by omega), wad (a := 33 * w) (by omega) (by omega), wad (by omega) (by omega)]
      rw [e]
      refine ⟨by omega, by omega, nmk h0 h1 a (by omega), ?_⟩
      intro M5 hM5
      rw [(mk_eq h0 h1 a (by omega)).1] at hM5
      rw [wad (a := v2) (by omega) (by omega)]
      have x66 : M5 66 55 = w := by rw [hM5, mset_o (by decide), hw]
      refine ih (v2 + 1) M5 x66 (by omega) (by omega) (by omega) (fun M' f1 f2 => hK M' (fun q hq => (f1 q hq).trans (by rw [hM5, mset_p hq])) (fun i => ?_))
      rw [f2 i]
      by_cases ci : i = 162 + 18 * v1 + v2
      · subst ci
        rw [if_neg (by omega), if_pos (by omega), hM5, mset_e]
        congr 1
        omega
      · by_cases cj : 162 + 18 * v1 + (v2 + 1) ≤ i ∧ i < 162 + 18 * v1 + 3
        · rw [if_pos cj, if_pos (by omega), hM5, mset_o (by decide)]
        · rw [if_neg cj, if_neg (by omega), hM5, mset_k ci]
theorem ud11 {w : Int} {H : Hal} {K : Mem → Prop} {Q : Int → Mem → Prop} (ho : Hok H) (w0 : 0 ≤ w) (w1 : w < 20) : ∀ (k : Nat) (v1 : Int) (M : Mem), M 66 55 = w → M 85 3 = H 0 4 → 0 ≤ v1 → v1 ≤ H 0 4 → H 0 4 - v1 < k →
    (∀ M' : Mem, (∀ q, q ≠ 88 → M' q = M q) → (∀ i, (i < 162 + 18 * v1 ∨ 162 + 18 * H 0 4 ≤ i) → M' 88 i = M 88 i) → (∀ p j, v1 ≤ p → p < H 0 4 → 0 ≤ j → j < 18 → M' 88 (162 + 18 * p + j) = if j < 3 then M 100 (33 * w + 3 * p + j) else M 88 (162 + 18 * p + j)) → K M') → PX12_undo_11 K Q k v1 M := by
  have hb := ho.2.1
  intro k
  induction k with
  | zero => intro v1 M _ _ a b c; omega
  | succ k ih =>
    intro v1 M hw hP a b c hK
    have eP : fX12_peopleMany M = H 0 4 := hP
    refine ⟨fun z => ?_, fun z => ?_⟩
    · rw [eP] at z
      exact hK M (fun _ _ => rfl) (fun i _ => rfl) (fun p j _ _ _ _ => by omega)
    · rw [eP] at z
      refine ⟨4, ud21 a (by omega) w0 w1 4 0 M hw (by omega) (by omega) (by omega) (fun M1 f1 f2 => ?_)⟩
      rw [wad (a := v1) (by omega) (by omega)]
      refine ih (v1 + 1) M1 (by rw [f1 66 (by decide), hw]) (by rw [f1 85 (by decide), hP]) (by omega) (by omega) (by omega) (fun M' g1 g2 g3 => hK M' (fun q hq => (g1 q hq).trans (f1 q hq)) (fun i hi => ?_) (fun p j p0 p1 j0 j1 => ?_))
      · rw [g2 i (by omega), f2 i, if_neg (by omega)]
      · by_cases cp : v1 + 1 ≤ p
        · rw [g3 p j cp p1 j0 j1, f1 100 (by decide), f2 (162 + 18 * p + j), if_neg (show ¬ (162 + 18 * v1 + 0 ≤ 162 + 18 * p + j ∧ 162 + 18 * p + j < 162 + 18 * v1 + 3) by omega)]
        · have : p = v1 := by omega
          subst this
          rw [g2 _ (by omega), f2]
          by_cases c3 : j < 3
          · rw [if_pos (by omega), if_pos c3]
            congr 1
            omega
          · rw [if_neg (by omega), if_neg c3]
theorem ud64 {w : Int} {K : Mem → Prop} {Q : Int → Mem → Prop} (w0 : 0 ≤ w) (w1 : w < 20) : ∀ (k : Nat) (v1 : Int) (M : Mem), M 66 55 = w → 0 ≤ v1 → v1 ≤ 6 → 6 - v1 < k →
    (∀ M' : Mem, (∀ q, q ≠ 92 → M' q = M q) → (∀ i, v1 ≤ i → i < 6 → M' 92 i = M 100 (33 * w + 27 + i)) → (∀ i, i < v1 → M' 92 i = M 92 i) → K M') → PX12_undo_64 K Q k v1 M := by
  intro k
  induction k with
  | zero => intro v1 M _ a b c; omega
  | succ k ih =>
    intro v1 M hw a b c hK
    refine ⟨fun z => ?_, fun z => ?_⟩
    · exact hK M (fun _ _ => rfl) (fun i _ _ => by omega) (fun _ _ => rfl)
    · have e : wr32 (wr32 (wr32 (33 * M 66 55) + 27) + v1) = 33 * w + 27 + v1 := by
        rw [hw, wmu (a := 33) (b := w) (by omega) (by omega), wad (a := 33 * w) (by omega) (by omega), wad (by omega) (by omega)]
      rw [e]
      refine ⟨by omega, by omega, a, by omega, ?_⟩
      intro M5 hM5
      rw [wad (a := v1) (by omega) (by omega)]
      refine ih (v1 + 1) M5 (by rw [hM5, mset_o (by decide), hw]) (by omega) (by omega) (by omega) (fun M' f1 f2 f3 => hK M' (fun q hq => (f1 q hq).trans (by rw [hM5, mset_p hq])) (fun i i0 i1 => ?_) (fun i hi => by rw [f3 i (by omega), hM5, mset_k (by omega)]))
      by_cases ci : i = v1
      · subst ci
        rw [f3 _ (by omega), hM5, mset_e]
      · rw [f2 i (by omega) i1, hM5, mset_o (by decide)]
theorem undo_ev {H : Hal} {M : Mem} (ho : Hok H) (hr : Rh H M) (n0 : 0 < M 66 54) (n1 : M 66 54 ≤ 20) (w0 : 0 ≤ M 66 55) (w1 : M 66 55 < 20) (Q : Int → Mem → Prop)
    (hQ : ∀ M' : Mem, (∀ q, q ≠ 66 → q ≠ 88 → q ≠ 92 → M' q = M q) → (∀ j, j ≠ 54 → j ≠ 55 → M' 66 j = M 66 j) → M' 66 55 = (M 66 55 + 19) % 20 → M' 66 54 = M 66 54 - 1 →
      (∀ p j, 0 ≤ p → p < H 0 4 → 0 ≤ j → j < 18 → M' 88 (162 + 18 * p + j) = if j < 3 then M 100 (33 * M 66 55 + 3 * p + j) else M 88 (162 + 18 * p + j)) → (∀ i, 0 ≤ i → i < 6 → M' 92 i = M 100 (33 * M 66 55 + 27 + i)) → Q 1 M') : PX12_undo M Q := by
  have hb := ho.2.1
  refine ⟨fun z => by omega, fun _ => ⟨11, ud11 ho w0 w1 11 0 M rfl hr.1.2.2.2.2.1 (by omega) (by omega) (by omega) (fun M3 f1 f2 f3 => ⟨7, ud64 w0 w1 7 0 M3 (by rw [f1 66 (by decide)]) (by omega) (by omega) (by omega) (fun M6 g1 g2 g3 => ?_)⟩)⟩⟩
  have x66 : M6 66 = M 66 := by rw [g1 66 (by decide), f1 66 (by decide)]
  intro M9 h9 M11 h11
  have e1 : Int.tmod (wr32 (wr32 (M6 66 55 + 20) - 1)) 20 = (M 66 55 + 19) % 20 := by
    rw [x66, wad (by omega) (by omega), wsu (by omega) (by omega), Int.tmod_eq_emod_of_nonneg (by omega)]
    omega
  have e2 : wr32 (M9 66 54 - 1) = M 66 54 - 1 := by
    rw [h9, mset_k (by decide), x66, wsu (by omega) (by omega)]
  rw [e1] at h9
  rw [e2] at h11
  refine hQ M11 (fun q a b c => by rw [h11, mset_p a, h9, mset_p a, g1 q c, f1 q b]) (fun j a b => by rw [h11, mset_k a, h9, mset_k b, x66]) (by rw [h11, mset_k (by decide), h9, mset_e]) (by rw [h11, mset_e]) (fun p j p0 p1 j0 j1 => by rw [h11, mset_o (by decide), h9, mset_o (by decide), g1 88 (by decide)]; exact f3 p j p0 p1 j0 j1) (fun i i0 i1 => by rw [h11, mset_o (by decide), h9, mset_o (by decide), g2 i i0 i1, f1 100 (by decide)])
/-- an act less -/
theorem iA_pop {H : Hal} {M M' : Mem} {c w d cl : Int → Int} (hA : iA H M) (hn : 0 < M 66 54) (h1 : M' 27 3 = M 66 54 - 1) (h2 : M' 66 54 = M 66 54 - 1) (h3 : M' 66 55 = (M 66 55 + 19) % 20)
    (h28 : M' 28 = M 28 ∧ M' 29 = M 29 ∧ M' 30 = M 30) (h100 : M' 100 = M 100) (hc : ∀ p, 0 ≤ p → p < H 0 4 → c p = snp M H (M 66 54 - 1) 0 p ∧ w p - 60 = snp M H (M 66 54 - 1) 1 p ∧ d p = snp M H (M 66 54 - 1) 2 p) (hd : ∀ k, 0 ≤ k → k < H 0 2 → cl k = snd1 M H (M 66 54 - 1) k) : iA (hst H c w d cl) M' := by
  obtain ⟨a1, a2, a3, a4, a5, a6, a7⟩ := hA
  have S : ∀ j, 0 ≤ j → j ≤ M 66 54 - 1 → (∀ p, 0 ≤ p → p < H 0 4 → snp M' (hst H c w d cl) j 0 p = snp M H j 0 p ∧ snp M' (hst H c w d cl) j 1 p = snp M H j 1 p ∧ snp M' (hst H c w d cl) j 2 p = snp M H j 2 p) ∧ (∀ k, 0 ≤ k → k < H 0 2 → snd1 M' (hst H c w d cl) j k = snd1 M H j k) := by
    intro j j0 j1
    by_cases e : j = M 66 54 - 1
    · subst e
      refine ⟨fun p p0 p1 => ?_, fun k k0 k1 => ?_⟩
      · have := hc p p0 p1
        rw [← this.1, ← this.2.1, ← this.2.2]
        unfold snp
        rw [h2]
        simp only [Int.lt_irrefl, if_false]
        exact ⟨by simp [hst7], by simp [hst8], by simp [hst9]⟩
      · rw [← hd k k0 k1]
        unfold snd1
        rw [h2, if_neg (by omega)]
        rfl
    · have sl : slt (M 66 54 - 1) ((M 66 55 + 19) % 20) j = slt (M 66 54) (M 66 55) j := by
        unfold slt
        omega
      unfold snp snd1
      rw [h2, h3, h100, sl]
      simp only [if_pos (show j < M 66 54 - 1 by omega), if_pos (show j < M 66 54 by omega)]
      exact ⟨fun _ _ _ => ⟨trivial, trivial, trivial⟩, fun _ _ _ => trivial⟩
  refine ⟨by rw [h1, h2], by omega, by omega, by omega, by omega, ?_, ?_⟩
  · rw [h2]
    intro j j0 j1
    have s1 := S j j0 (by omega)
    have o := a6 j j0 (by omega)
    refine ⟨fun p p0 p1 => ?_, fun k k0 k1 => ?_⟩
    · have e := s1.1 p p0 p1
      rw [e.1, e.2.1, e.2.2]
      exact o.1 p p0 p1
    · rw [s1.2 k k0 k1]
      exact o.2 k k0 k1
  · rw [h2, h28.1, h28.2.1, h28.2.2]
    intro j j0 j1
    have s1 := S j j0 (by omega)
    have s2 := S (j + 1) (by omega) (by omega)
    have o := a7 j j0 (by omega)
    refine ⟨o.1, o.2.1, o.2.2.1, o.2.2.2.1, fun p p0 p1 => ?_, fun k k0 k1 => ?_⟩
    · have e := s1.1 p p0 p1
      have f := s2.1 p p0 p1
      rw [e.1, e.2.1, e.2.2, f.1, f.2.1, f.2.2]
      exact o.2.2.2.2.1 p p0 p1
    · rw [s1.2 k k0 k1, s2.2 k k0 k1]
      exact o.2.2.2.2.2 k k0 k1
theorem inv_undo : ∀ E, Two_undo E Inv := by
  intro E
  refine two_undo (fun M hI hkk => ?_)
  obtain ⟨h, H, hG, hI⟩ := hI
  have hI' := hI
  obtain ⟨hok, hc, hr, hT, hF, hK, hC, hS, hO, hA, hW⟩ := hI
  have hh := hG.2.2.2
  have hb := hok.2.1
  have hA' := hA
  obtain ⟨n1, n2, n3, n4, n5, n6, n7⟩ := hA
  refine ⟨h, hG, ?_⟩
  unfold PX11_undo fX11_undo fmX11_undo
  by_cases a : M 27 3 = 0
  · simp only [if_pos a]
    intro _
    exact ⟨fun _ hG2 => ⟨rfl, h, H, hG2, hI'⟩, fun z => absurd (n1.symm.trans a) z⟩
  · simp only [if_neg a]
    obtain ⟨n, hn⟩ : ∃ n : Int, n = M 66 54 - 1 := ⟨_, rfl⟩
    have hh2 : 32 ≤ h ∧ h ≤ 49 := by rcases hh with z | z <;> rw [z] <;> decide
    have rel := n7 n (by omega) (by omega)
    have val := n6 n (by omega) (by omega)
    have en : n + 1 = M 66 54 := by omega
    rw [en] at rel
    have Hn : (∀ p, snp M H (M 66 54) 0 p = H 7 p ∧ snp M H (M 66 54) 1 p = H 8 p - 60 ∧ snp M H (M 66 54) 2 p = H 9 p) ∧ (∀ k, snd1 M H (M 66 54) k = H 3 k) := by
      unfold snp snd1
      simp only [Int.lt_irrefl, if_false]
      exact ⟨fun p => ⟨by simp, by simp, by simp⟩, fun k => trivial⟩
    obtain ⟨X, hX⟩ : ∃ m : Mem, m = mset M 27 3 n := ⟨_, rfl⟩
    have e27 : mset M 27 3 (wr32 (M 27 3 - 1)) = X := by rw [wsu (by omega) (by omega), hX, hn, n1]
    have X27 : X 27 3 = n := by rw [hX, mset_e]
    have X28 : X 28 = M 28 ∧ X 29 = M 29 ∧ X 30 = M 30 := by rw [hX]; exact ⟨mset_p (by decide), mset_p (by decide), mset_p (by decide)⟩
    obtain ⟨kd, hkd⟩ : ∃ x : Int, x = M 28 n := ⟨_, rfl⟩
    obtain ⟨wh, hwh⟩ : ∃ x : Int, x = M 29 n := ⟨_, rfl⟩
    obtain ⟨fo, hfo⟩ : ∃ x : Int, x = M 30 n := ⟨_, rfl⟩
    rw [← hkd, ← hwh, ← hfo] at rel
    obtain ⟨rl1, rl2, rl3, rl4, rl5, rl6⟩ := rel
    -- what the class has behind it
    have hB : ∃ (R : Int), fmX0_takeBack M h = mset X R wh fo ∧ ((kd = 3 ∧ R = h + 11) ∨ (kd = 0 ∧ R = h + 4) ∨ (kd = 1 ∧ R = h + 5) ∨ (kd = 2 ∧ R = h + 3)) := by
      unfold fmX0_takeBack
      rw [e27, X27, rd_get (by omega) (by omega), rd_get (by omega) (by omega), rd_get (by omega) (by omega), X28.1, X28.2.1, X28.2.2, ← hkd, ← hwh, ← hfo]
      by_cases k3 : kd = 3
      · rw [if_pos k3, rd_put (by omega) (by omega)]
        exact ⟨h + 11, rfl, Or.inl ⟨k3, rfl⟩⟩
      · rw [if_neg k3]
        unfold fmX4_change
        have := rl4 k3
        rw [rd_put (by omega) (by omega)]
        refine ⟨_, rfl, Or.inr ?_⟩
        have : kd = 0 ∨ kd = 1 ∨ kd = 2 := by omega
        rcases this with z | z | z
        · exact Or.inl ⟨z, by rw [z, rowOf0]⟩
        · exact Or.inr (Or.inl ⟨z, by rw [z, rowOf1]⟩)
        · exact Or.inr (Or.inr ⟨z, by rw [z, rowOf2]⟩)
    obtain ⟨R, hB1, hRc⟩ := hB
    rw [hB1, chd]
    have y16 : mset X R wh fo 0 16 = M 0 16 := by rw [mset_o (by omega), hX, mset_o (by decide)]
    rw [y16]
    obtain ⟨M1, hM1⟩ : ∃ m : Mem, m = mset (mset (mset X R wh fo) 0 16 (if M 0 16 = 0 then (if (1 : Int) = 0 then (0 : Int) else 1) else 1)) 0 17 1 := ⟨_, rfl⟩
    rw [← hM1]
    have q1 : ∀ q, q ≠ 0 → q ≠ 27 → q ≠ R → M1 q = M q := fun q a b c => by rw [hM1, mset_p a, mset_p a, mset_p c, hX, mset_p b]
    have z66 : M1 66 = M 66 := q1 66 (by decide) (by decide) (by omega)
    have hr1 : Rh H M1 := Rh_fr (g := 66) ⟨fun q a b => q1 q (by omega) (by omega) (by omega), by rw [z66], by rw [z66], fun q a b => q1 q (by omega) (by omega) (by omega)⟩ hr
    intro hG1
    refine undo_ev hok hr1 (by rw [z66]; omega) (by rw [z66]; omega) (by rw [z66]; omega) (by rw [z66]; omega) _ (fun M2 f1 f2 f3 f4 f5 f6 hG2 => ⟨rfl, ?_⟩)
    rw [z66] at f3 f4 f5 f6
    have p1 : ∀ q, q ≠ 0 → q ≠ 27 → q ≠ R → q ≠ 66 → q ≠ 88 → q ≠ 92 → M2 q = M q := fun q a b c d e f => (f1 q d e f).trans (q1 q a b c)
    have p66 : ∀ j, j ≠ 54 → j ≠ 55 → M2 66 j = M 66 j := fun j a b => (f2 j a b).trans (by rw [z66])
    have p0 : ∀ j, M2 0 j = M1 0 j := fun j => by rw [f1 0 (by decide) (by decide) (by decide)]
    have p0' : ∀ j, j ≠ 16 → j ≠ 17 → M2 0 j = M 0 j := fun j a b => by rw [p0, hM1, mset_k b, mset_k a, mset_o (by omega), hX, mset_o (by decide)]
    have gR : ∀ q, h + 3 ≤ q → q ≤ h + 11 → ∀ k, M2 q k = if q = R ∧ k = wh then fo else M q k := fun q qa qb k => by
      rw [f1 q (by omega) (by omega) (by omega), hM1, mset_o (by omega), mset_o (by omega), ms, hX, mset_o (by omega)]
    have sl : slt (M 66 54) (M 66 55) n = M 66 55 := by
      unfold slt
      omega
    have K100 : (∀ p k, snp M H n k p = M 100 (33 * M 66 55 + 3 * p + k)) ∧ (∀ k, snd1 M H n k = M 100 (33 * M 66 55 + 27 + k)) := by
      unfold snp snd1
      rw [sl]
      simp only [if_pos (show n < M 66 54 by omega)]
      exact ⟨fun _ _ => trivial, fun _ => trivial⟩
    have e100 : M1 100 = M 100 := q1 100 (by decide) (by decide) (by omega)
    rw [e100] at f5 f6
    refine Inv_acts (H' := hst H (fun p => snp M H n 0 p) (fun p => snp M H n 1 p + 60) (fun p => snp M H n 2 p) (fun k => snd1 M H n k)) hh hG2 hI' ?_ ?_ ?_ rfl ?_ ?_ ?_ p0' p66
    · refine Hok_hst hok (fun p pa pb => ?_) (fun k ka kb => val.2 k ka kb)
      have o := val.1 p pa pb
      exact ⟨o.1, by omega, by omega, by omega, by omega⟩
    · refine Ch_hst hc (fun q a1 a2 a3 a4 a5 a6 => p1 q (by omega) (by omega) (by omega) (by omega) (by omega) (by omega)) (fun p pa pb => ?_) (fun k ka kb => ?_)
      · have c5 := hc.2.2.2.2.1 p pa pb
        have r := rl5 p pa pb
        have hh' := Hn.1 p
        rw [gR _ (by omega) (by omega), gR _ (by omega) (by omega), gR _ (by omega) (by omega), c5.1, c5.2.1, c5.2.2.1]
        rw [r.1, r.2.1, r.2.2, hh'.1, hh'.2.1, hh'.2.2]
        refine ⟨?_, ?_, ?_⟩
        · by_cases y : kd = 2 ∧ wh = p
          · rw [if_pos (by omega), if_pos y]
          · rw [if_neg (by omega), if_neg y]
        · by_cases y : kd = 0 ∧ wh = p
          · rw [if_pos (by omega), if_pos y]
            omega
          · rw [if_neg (by omega), if_neg y]
            omega
        · by_cases y : kd = 1 ∧ wh = p
          · rw [if_pos (by omega), if_pos y]
          · rw [if_neg (by omega), if_neg y]
      · have c3 := (hc.2.2.1 k ka kb).2
        rw [gR _ (by omega) (by omega), c3]
        rw [rl6 k ka kb, Hn.2]
        by_cases y : kd = 3 ∧ wh = k
        · rw [if_pos (by omega), if_pos y]
        · rw [if_neg (by omega), if_neg y]
    · refine Rh_hst hok hr (p66 _ (by decide) (by decide)) (p66 _ (by decide) (by decide)) (fun q a b c => p1 q (by omega) (by omega) (by omega) (by omega) (by omega) (by omega)) (fun p k pa pb ka kb => ?_) (fun p pa pb => ?_) (fun k k0 k9 => ?_)
      · rw [f5 p k pa pb (by omega) kb, if_neg (by omega), q1 88 (by decide) (by decide) (by omega)]
      · have m0 := f5 p 0 pa pb (by omega) (by omega)
        have m1 := f5 p 1 pa pb (by omega) (by omega)
        have m2 := f5 p 2 pa pb (by omega) (by omega)
        rw [if_pos (by omega)] at m0 m1 m2
        rw [Int.add_zero (162 + 18 * p)] at m0
        rw [m0, m1, m2]
        rw [K100.1, K100.1, K100.1]
        refine ⟨rfl, by omega, rfl⟩
      · have := hb
        rw [f6 k k0 (by omega)]
        exact (K100.2 k).symm
    · refine iA_pop hA' (by omega) ?_ f4 f3 ⟨?_, ?_, ?_⟩ ?_ (fun p _ _ => ⟨by rw [← hn], by rw [← hn]; omega, by rw [← hn]⟩) (fun k _ _ => by rw [← hn])
      · rw [f1 27 (by decide) (by decide) (by decide), hM1, mset_o (by decide), mset_o (by decide), mset_o (by omega), X27, hn]
      · exact p1 28 (by decide) (by decide) (by omega) (by decide) (by decide) (by decide)
      · exact p1 29 (by decide) (by decide) (by omega) (by decide) (by decide) (by decide)
      · exact p1 30 (by decide) (by decide) (by omega) (by decide) (by decide) (by decide)
      · exact p1 100 (by decide) (by decide) (by omega) (by decide) (by decide) (by decide)
    · refine chd_w (v := 1) hW ?_ ?_ (p1 _ (by omega) (by omega) (by omega) (by omega) (by omega) (by omega)) (p1 _ (by omega) (by omega) (by omega) (by omega) (by omega) (by omega)) (p1 _ (by omega) (by omega) (by omega) (by omega) (by omega) (by omega)) (fun z p _ _ => by cases z)
      · rw [p0, hM1, mset_k (by decide), mset_e]
      · rw [p0, hM1, mset_e]
    · intro q b1 b2 b3 b4 b5 b6 b7 b8 b9 b10
      exact p1 q b2 b3 (by omega) b7 b8 b9
