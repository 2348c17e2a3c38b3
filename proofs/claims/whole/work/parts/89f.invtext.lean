/-! the text of a hall: text() keeps the coupling -/
section
variable {b : Int → Int} {n p e w g : Int} {H : Hal} {M M' N : Mem} {Q : Int → Mem → Prop}
theorem Rh_X (t : tX M M') (h : Rh H M) : Rh H M' := by
  obtain ⟨r1, r2, r3, r4, r5, r6⟩ := h
  obtain ⟨q, j, t85, t86, t87, t88, t89, t90, t91⟩ := t
  unfold Rh
  rw [j 38 (by omega), j 39 (by omega), t85 5 (by decide), t85 4 (by decide), t85 3 (by decide), t91 4 (by decide), t91 5 (by decide), t91 6 (by decide), t91 7 (by decide), q 92 (by decide) (by decide) (by decide) (by decide) (by decide) (by decide) (by decide) (by decide)]
  refine ⟨r1, fun c a d => ?_, fun k a d => ?_, fun k a d => ?_, fun i a d => ?_, fun i k a d x y => ?_⟩
  · rw [t87 (54 + c) (by omega)]; exact r2 c a d
  · rw [t90 (6 + k) (by omega)]; exact r3 k a d
  · rw [t89 (12 + 3 * k) (by omega), t89 (12 + 3 * k + 1) (by omega), t89 (12 + 3 * k + 2) (by omega), t86 (30 + k) (by omega)]; exact r4 k a d
  · rw [t88 (162 + 18 * i) (by omega), t88 (162 + 18 * i + 1) (by omega), t88 (162 + 18 * i + 2) (by omega), t88 (162 + 18 * i + 3) (by omega), t88 (162 + 18 * i + 4) (by omega), t88 (162 + 18 * i + 5) (by omega), t86 (20 + i) (by omega)]; exact r5 i a d
  · rw [t88 (162 + 18 * i + (6 + k)) (by omega)]; exact r6 i k a d x y
theorem Rh_N (hd : DOK H w) (hD : Dr H w M) (e38 : N 66 38 = M 66 35) (e39 : N 66 39 = M 66 36) (v85 : ∀ j, 3 ≤ j → j < 6 → N 85 j = M 85 (j - 3)) (v86 : ∀ j, 20 ≤ j → j < 40 → N 86 j = M 86 (j - 20)) (v87 : ∀ j, 54 ≤ j → j < 108 → N 87 j = M 87 (j - 54)) (v88 : ∀ j, 162 ≤ j → j < 324 → N 88 j = M 88 (j - 162)) (v89 : ∀ j, 12 ≤ j → j < 24 → N 89 j = M 89 (j - 12)) (v90 : ∀ j, 6 ≤ j → j < 12 → N 90 j = M 90 (j - 6)) (v91 : ∀ j, 4 ≤ j → j < 8 → N 91 j = M 91 (j - 4)) (v92 : ∀ j, 0 ≤ j → j < 6 → N 92 j = 0) : Rh H N := by
  have hb := hd.1.2.1
  have hl : ∀ i, 0 ≤ i → i < H 0 4 → H 12 i ≤ 12 := fun i x y => (hd.1.2.2.2.2.2.2.1 i x y).2.2.2.2.2.2.2.2.2.1
  have hz := hd.2.2.2.2
  obtain ⟨d1, d2, d3, d4, d5, d6⟩ := hD
  have a5 := v85 5 (by decide) (by decide)
  have a4 := v85 4 (by decide) (by decide)
  have a3 := v85 3 (by decide) (by decide)
  have b4 := v91 4 (by decide) (by decide)
  have b5 := v91 5 (by decide) (by decide)
  have b6 := v91 6 (by decide) (by decide)
  have b7 := v91 7 (by decide) (by decide)
  rw [show (5 : Int) - 3 = 2 by decide] at a5
  rw [show (4 : Int) - 3 = 1 by decide] at a4
  rw [show (3 : Int) - 3 = 0 by decide] at a3
  rw [show (4 : Int) - 4 = 0 by decide] at b4
  rw [show (5 : Int) - 4 = 1 by decide] at b5
  rw [show (6 : Int) - 4 = 2 by decide] at b6
  rw [show (7 : Int) - 4 = 3 by decide] at b7
  unfold Rh
  rw [e38, e39, a5, a4, a3, b4, b5, b6, b7]
  clear a5 a4 a3 b4 b5 b6 b7 e38 e39
  refine ⟨⟨d1.1, d1.2.1, d1.2.2.2⟩, fun c a d => ?_, fun k a d => ?_, fun k a d => ?_, fun i a d => ?_, fun i k a d x y => ?_⟩
  · rw [v87 (54 + c) (by omega) (by omega), show 54 + c - 54 = c by omega]; exact d2 c a d
  · rw [v90 (6 + k) (by omega) (by omega), show 6 + k - 6 = k by omega, v92 k a (by omega), hz k a d]; exact ⟨d3 k a d, rfl⟩
  · rw [v89 (12 + 3 * k) (by omega) (by omega), v89 (12 + 3 * k + 1) (by omega) (by omega), v89 (12 + 3 * k + 2) (by omega) (by omega), v86 (30 + k) (by omega) (by omega), show 12 + 3 * k - 12 = 3 * k by omega, show 12 + 3 * k + 1 - 12 = 3 * k + 1 by omega, show 12 + 3 * k + 2 - 12 = 3 * k + 2 by omega, show 30 + k - 20 = 10 + k by omega]; exact d4 k a d
  · rw [v88 (162 + 18 * i) (by omega) (by omega), v88 (162 + 18 * i + 1) (by omega) (by omega), v88 (162 + 18 * i + 2) (by omega) (by omega), v88 (162 + 18 * i + 3) (by omega) (by omega), v88 (162 + 18 * i + 4) (by omega) (by omega), v88 (162 + 18 * i + 5) (by omega) (by omega), v86 (20 + i) (by omega) (by omega), show 162 + 18 * i - 162 = 18 * i by omega, show 162 + 18 * i + 1 - 162 = 18 * i + 1 by omega, show 162 + 18 * i + 2 - 162 = 18 * i + 2 by omega, show 162 + 18 * i + 3 - 162 = 18 * i + 3 by omega, show 162 + 18 * i + 4 - 162 = 18 * i + 4 by omega, show 162 + 18 * i + 5 - 162 = 18 * i + 5 by omega, show 20 + i - 20 = i by omega]; exact d5 i a d
  · have := hl i a d
    rw [v88 (162 + 18 * i + (6 + k)) (by omega) (by omega), show 162 + 18 * i + (6 + k) - 162 = 18 * i + (6 + k) by omega]; exact d6 i k a d x y
theorem iW_f2 (e16 : M' (g + 16) = M (g + 16)) (e0 : M' 0 16 = M 0 16 ∧ M' 0 17 = M 0 17 ∧ M' 0 12 = M 0 12) (e1 : M' 10 = M 10 ∧ M' 11 = M 11) (e5 : ∀ q, 16 ≤ q → q ≤ 22 → M' q = M q) (h : iW g H M) : iW g H M' := by
  have f16 := e5 16 (by omega) (by omega)
  have f17 := e5 17 (by omega) (by omega)
  have f18 := e5 18 (by omega) (by omega)
  have f19 := e5 19 (by omega) (by omega)
  have f20 := e5 20 (by omega) (by omega)
  have f21 := e5 21 (by omega) (by omega)
  have f22 := e5 22 (by omega) (by omega)
  unfold iW nOK wOK mOK fX1_isNear at h ⊢
  rw [e0.1, e0.2.1, e1.1, e1.2, e16, f16, f17, f18, f19, f20, f21, f22, e0.2.2]
  exact h
theorem nOK_f2 (e16 : M' (g + 16) = M (g + 16)) (h : nOK g H M) : nOK g H M' := by
  unfold nOK fX1_isNear at h ⊢
  rw [e16]
  exact h
theorem isG_o (hg : isG g) : isG (81 - g) := by
  rcases hg with rfl | rfl
  · exact Or.inr rfl
  · exact Or.inl rfl
theorem Ch_f3 (e : ∀ q, g ≤ q → q ≤ g + 16 → M' q = M q) (h : Ch g H M) : Ch g H M' := by
  unfold Ch at h ⊢
  rw [e g (by omega) (by omega), e (g + 1) (by omega) (by omega), e (g + 2) (by omega) (by omega), e (g + 3) (by omega) (by omega), e (g + 4) (by omega) (by omega), e (g + 5) (by omega) (by omega), e (g + 6) (by omega) (by omega), e (g + 7) (by omega) (by omega), e (g + 8) (by omega) (by omega), e (g + 9) (by omega) (by omega), e (g + 10) (by omega) (by omega), e (g + 11) (by omega) (by omega), e (g + 12) (by omega) (by omega), e (g + 13) (by omega) (by omega), e (g + 14) (by omega) (by omega), e (g + 15) (by omega) (by omega)]
  exact h
theorem inv_text : ∀ E, Two_text E Inv := by
  intro E
  refine two_text (fun M hI _ => ?_)
  obtain ⟨h, H, hG, hok, hc, hr, hT, hF, hK, hC, hS, hO, hA, hW⟩ := hI
  have hh := hG.2.2.2
  have hg := isG_o hh
  obtain ⟨hd, ed⟩ : ∃ hd, hd = 81 - h := ⟨_, rfl⟩
  refine ⟨h, hG, ?_⟩
  rw [← ed] at hg ⊢
  have lo : (h = 32 ∧ hd = 49) ∨ (h = 49 ∧ hd = 32) := by rcases hh with z | z <;> omega
  have bn : ∀ k, 0 ≤ k → k < M 1 1 → 0 ≤ M 2 k ∧ M 2 k ≤ 255 := fun k x y => (hT.2.2.2 k x y).2
  have c66 : M 66 1 = M 1 1 := hT.2.2.1
  have G0 : ∀ {N : Mem} {g' : Int}, G g' N → N 0 10 = g' := fun z => z.2.1
  have cut : ∀ N : Mem, N 1 1 = M 1 1 → fmX8_cutTo N 0 = mset N 1 1 0 := fun N z => by
    unfold fmX8_cutTo
    rw [if_neg (by decide), z, if_pos hT.1]
  refine read_c (b := M 2) hg ⟨hT.1, hT.2.1⟩ bn rfl (fun _ _ _ => rfl) ⟨fun f pl hp M2 t2 c2 M5 h5 M7 h7 => ⟨fun _ => ?_, fun z => absurd rfl z⟩, fun x hp M2 t2 x4 x5 x41 xC xD xN xd M5 h5 M7 h7 => ⟨fun z => absurd z (by decide), fun _ M10 h10 M13 h13 M15 h15 M17 h17 => ?_⟩⟩
  · -- a fault
    unfold fmX11_takeFault at h5
    rw [c2.1, mset_o (by decide), c2.2] at h5
    have m11 : M5 1 1 = M 1 1 := by rw [h5, mset_o (by decide), mset_o (by decide), t2 1 (by decide) (by decide) (by omega)]
    rw [cut M5 m11] at h7
    have q7 : ∀ q, q ≠ 0 → q ≠ 1 → q ≠ 3 → q ≠ 4 → (q < hd ∨ hd + 16 < q) → M7 q = M q := fun q a0 a1 a3 a4 a5 => by rw [h7, mset_p a1, h5, mset_p a0, mset_p a0, t2 q a3 a4 a5]
    have j7 : ∀ j, j ≠ 14 → j ≠ 15 → M7 0 j = M 0 j := fun j x y => by rw [h7, mset_o (by decide), h5, mset_k y, mset_k x, t2 0 (by decide) (by decide) (by omega)]
    have f14 : M7 0 14 = f := by rw [h7, mset_o (by decide), h5, mset_k (by decide), mset_e]
    have f15 : M7 0 15 = pl := by rw [h7, mset_o (by decide), h5, mset_e]
    have f11 : M7 1 1 = 0 := by rw [h7, mset_e]
    clear h5 h7
    rintro ⟨h', G7⟩
    have K7 : iK M7 := iK_fr (fun q hq => q7 q (by omega) (by omega) (by omega) (by omega) (by omega)) hK
    have hq66 : hd + 16 < 66 := by omega
    refine text_r (n := M 1 1) (b := M 2) K7 ⟨hT.1, hT.2.1⟩ bn (by rw [q7 66 (by decide) (by decide) (by decide) (by decide) (Or.inr hq66)]; exact c66) (fun k x y => by rw [q7 67 (by decide) (by decide) (by decide) (by decide) (by omega)]; exact (hT.2.2.2 k x y).1) (fun f' pl' hp' M' t x1 x7 x8 => ?_) (fun x hp' => absurd (hp.symm.trans hp') (by intro z; cases z))
    rintro ⟨h'', G'⟩
    refine ⟨rfl, h, H, ?_, ?_⟩
    · have a := G0 G'
      rw [t.1 0 (by decide) (by decide) (by decide) (by decide) (by decide) (by decide) (by decide) (by decide), j7 10 (by decide) (by decide), G0 hG] at a
      rw [a]; exact G'
    have ff : f' = f ∧ pl' = pl := by
      have z := hp.symm.trans hp'
      cases z
      exact ⟨rfl, rfl⟩
    have qX : ∀ q, q ≠ 66 → q ≠ 85 → q ≠ 86 → q ≠ 87 → q ≠ 88 → q ≠ 89 → q ≠ 90 → q ≠ 91 → q ≠ 0 → q ≠ 1 → q ≠ 3 → q ≠ 4 → (q < hd ∨ hd + 16 < q) → M' q = M q := fun q i1 i2 i3 i4 i5 i6 i7 i8 a0 a1 a3 a4 a5 => (t.1 q i1 i2 i3 i4 i5 i6 i7 i8).trans (q7 q a0 a1 a3 a4 a5)
    have q0 : M' 0 = M7 0 := t.1 0 (by decide) (by decide) (by decide) (by decide) (by decide) (by decide) (by decide) (by decide)
    have qj : ∀ j, ((9 < j ∧ j < 27) ∨ (27 < j ∧ j < 35) ∨ j = 38 ∨ j = 39 ∨ 40 < j) → M' 66 j = M 66 j := fun j hj => by rw [t.2.1 j hj, q7 66 (by decide) (by decide) (by decide) (by decide) (Or.inr hq66)]
    have q1 : M' 1 1 = 0 := by rw [t.1 1 (by decide) (by decide) (by decide) (by decide) (by decide) (by decide) (by decide) (by decide)]; exact f11
    refine ⟨hok, Ch_f3 (fun q a d => ?_) hc, ?_, ?_, ?_, iK_fr (fun q hq => by refine qX q ?_ ?_ ?_ ?_ ?_ ?_ ?_ ?_ ?_ ?_ ?_ ?_ ?_ <;> omega) hK, iC_fr ⟨qj 42 (by omega), by rw [q0]; exact j7 12 (by decide) (by decide)⟩ hC, iS_fr ⟨qj 56 (by omega), by rw [q0]; exact j7 13 (by decide) (by decide)⟩ hS, iO_fr ⟨qj 89 (by omega), by rw [q0]; exact j7 9 (by decide) (by decide), ?_, ?_⟩ hO, iA_fr ⟨?_, ?_, ?_, ?_, qj 54 (by omega), qj 55 (by omega), ?_⟩ hA, iW_f2 ?_ ⟨by rw [q0]; exact j7 16 (by decide) (by decide), by rw [q0]; exact j7 17 (by decide) (by decide), by rw [q0]; exact j7 12 (by decide) (by decide)⟩ ⟨?_, ?_⟩ (fun q a d => ?_) hW⟩
    · refine qX q ?_ ?_ ?_ ?_ ?_ ?_ ?_ ?_ ?_ ?_ ?_ ?_ ?_ <;> omega
    · have hr7 : Rh H M7 := by
        have i66 := q7 66 (by decide) (by decide) (by decide) (by decide) (Or.inr hq66)
        have i85 := q7 85 (by decide) (by decide) (by decide) (by decide) (by omega)
        have i86 := q7 86 (by decide) (by decide) (by decide) (by decide) (by omega)
        have i87 := q7 87 (by decide) (by decide) (by decide) (by decide) (by omega)
        have i88 := q7 88 (by decide) (by decide) (by decide) (by decide) (by omega)
        have i89 := q7 89 (by decide) (by decide) (by decide) (by decide) (by omega)
        have i90 := q7 90 (by decide) (by decide) (by decide) (by decide) (by omega)
        have i91 := q7 91 (by decide) (by decide) (by decide) (by decide) (by omega)
        have i92 := q7 92 (by decide) (by decide) (by decide) (by decide) (by omega)
        unfold Rh at hr ⊢
        rw [i66, i85, i86, i87, i88, i89, i90, i91, i92]
        exact hr
      exact Rh_X t hr7
    · refine ⟨by rw [q1]; decide, by rw [q1]; decide, by rw [q1]; exact x1, fun k x y => ?_⟩
      rw [q1] at y; omega
    · unfold iF
      rw [q0, f14, f15, x7, x8]; exact ff
    · refine qX 31 ?_ ?_ ?_ ?_ ?_ ?_ ?_ ?_ ?_ ?_ ?_ ?_ ?_ <;> omega
    · refine qX 125 ?_ ?_ ?_ ?_ ?_ ?_ ?_ ?_ ?_ ?_ ?_ ?_ ?_ <;> omega
    · rw [qX 27 (by decide) (by decide) (by decide) (by decide) (by decide) (by decide) (by decide) (by decide) (by decide) (by decide) (by decide) (by decide) (by omega)]
    · refine qX 28 ?_ ?_ ?_ ?_ ?_ ?_ ?_ ?_ ?_ ?_ ?_ ?_ ?_ <;> omega
    · refine qX 29 ?_ ?_ ?_ ?_ ?_ ?_ ?_ ?_ ?_ ?_ ?_ ?_ ?_ <;> omega
    · refine qX 30 ?_ ?_ ?_ ?_ ?_ ?_ ?_ ?_ ?_ ?_ ?_ ?_ ?_ <;> omega
    · refine qX 100 ?_ ?_ ?_ ?_ ?_ ?_ ?_ ?_ ?_ ?_ ?_ ?_ ?_ <;> omega
    · refine qX (h + 16) ?_ ?_ ?_ ?_ ?_ ?_ ?_ ?_ ?_ ?_ ?_ ?_ ?_ <;> omega
    · refine qX 10 ?_ ?_ ?_ ?_ ?_ ?_ ?_ ?_ ?_ ?_ ?_ ?_ ?_ <;> omega
    · refine qX 11 ?_ ?_ ?_ ?_ ?_ ?_ ?_ ?_ ?_ ?_ ?_ ?_ ?_ <;> omega
    · refine qX q ?_ ?_ ?_ ?_ ?_ ?_ ?_ ?_ ?_ ?_ ?_ ?_ ?_ <;> omega
  · -- a hall
    unfold fmX11_takeFault at h5
    rw [x4, mset_o (by decide), x5] at h5
    have m11 : M5 1 1 = M 1 1 := by rw [h5, mset_o (by decide), mset_o (by decide), t2 1 (by decide) (by decide) (by omega)]
    rw [cut M5 m11] at h7
    unfold fmX0_forget at h15
    have q10 : ∀ q, q ≠ 0 → q ≠ 1 → M10 q = M2 q := fun q a0 a1 => by rw [h10, mset_p a0, mset_p a0, h7, mset_p a1, h5, mset_p a0, mset_p a0]
    have j10 : ∀ j, j ≠ 10 → j ≠ 11 → j ≠ 14 → j ≠ 15 → M10 0 j = M 0 j := fun j a0 a1 a2 a3 => by rw [h10, mset_k a1, mset_k a0, h7, mset_o (by decide), h5, mset_k a3, mset_k a2, t2 0 (by decide) (by decide) (by omega)]
    have g10 : M10 0 10 = hd ∧ M10 0 14 = 0 ∧ M10 0 15 = -1 ∧ M10 1 1 = 0 := by
      refine ⟨?_, ?_, ?_, ?_⟩
      · rw [h10, mset_k (by decide), mset_e]
      · rw [h10, mset_k (by decide), mset_k (by decide), h7, mset_o (by decide), h5, mset_k (by decide), mset_e]
      · rw [h10, mset_k (by decide), mset_k (by decide), h7, mset_o (by decide), h5, mset_e]
      · rw [h10, mset_o (by decide), mset_o (by decide), h7, mset_e]
    have xo : Hok x.1 := by obtain ⟨w, d⟩ := xd; exact d.1
    have C10 : Ch hd x.1 M10 := Ch_f3 (fun q a d => q10 q (by omega) (by omega)) xC
    have al := all_eq xo C10
    have e17 : M17 = mset (mset (mset (mset M10 0 12 (fX4_all M10 hd)) 27 3 0) 0 16 1) 0 17 1 := by
      rw [h17, ← h13, ← h15]
      unfold fmX11_changed
      rw [if_neg (show ¬ (1 : Int) = 0 by decide)]
      by_cases z : M15 0 16 = 0
      · rw [if_pos z]
      · rw [if_neg z]
    clear h5 h7 h10 h13 h15 h17
    have q17 : ∀ q, q ≠ 0 → q ≠ 1 → q ≠ 27 → M17 q = M2 q := fun q a0 a1 a2 => by rw [e17, mset_p a0, mset_p a0, mset_p a2, mset_p a0]; exact q10 q a0 a1
    have j17 : ∀ j, j ≠ 12 → j ≠ 16 → j ≠ 17 → M17 0 j = M10 0 j := fun j a0 a1 a2 => by rw [e17, mset_k a2, mset_k a1, mset_o (by decide), mset_k a0]
    have g17 : M17 0 12 = fX4_all M10 hd ∧ M17 0 16 = 1 ∧ M17 0 17 = 1 ∧ M17 27 3 = 0 ∧ M17 1 1 = 0 := by
      refine ⟨?_, ?_, ?_, ?_, ?_⟩
      · rw [e17, mset_k (by decide), mset_k (by decide), mset_o (by decide), mset_e]
      · rw [e17, mset_k (by decide), mset_e]
      · rw [e17, mset_e]
      · rw [e17, mset_o (by decide), mset_o (by decide), mset_e]
      · rw [e17, mset_o (by decide), mset_o (by decide), mset_o (by decide), mset_o (by decide)]; exact g10.2.2.2
    clear e17
    have qo : ∀ q, q ≠ 0 → q ≠ 1 → q ≠ 27 → q ≠ 3 → q ≠ 4 → (q < hd ∨ hd + 16 < q) → M17 q = M q := fun q a0 a1 a2 a3 a4 a5 => (q17 q a0 a1 a2).trans (t2 q a3 a4 a5)
    rintro ⟨h', G17⟩
    have K17 : iK M17 := iK_fr (fun q hq => qo q (by omega) (by omega) (by omega) (by omega) (by omega) (by omega)) hK
    have hq66 : hd + 16 < 66 := by omega
    have i66 : M17 66 = M 66 := qo 66 (by decide) (by decide) (by decide) (by decide) (by decide) (Or.inr hq66)
    refine text_r (n := M 1 1) (b := M 2) K17 ⟨hT.1, hT.2.1⟩ bn (by rw [i66]; exact c66) (fun k u v => by rw [qo 67 (by decide) (by decide) (by decide) (by decide) (by decide) (by omega)]; exact (hT.2.2.2 k u v).1) (fun f' pl' hp' => absurd (hp.symm.trans hp') (by intro z; cases z)) (fun x' hp' M' t x1 x7 x8 x40 wd => ?_)
    have xx : x' = x := by
      have z := hp.symm.trans hp'
      cases z
      rfl
    rw [xx] at x40 wd
    obtain ⟨w, wd, wD⟩ := wd
    obtain ⟨ns, N, eN, nq, nj, n38, n39, n42, n54, v85, v86, v87, v88, v89, v90, v91, v92⟩ := stands_v (M := M') (fun c a d => by
      rw [wD.2.1 c a d]
      rcases xo.2.2.1 c a d with z | z <;> rw [z] <;> decide)
    refine ⟨ns, fun M57 h57 => ?_⟩
    rw [eN] at h57
    rw [h57]
    clear h57 eN ns
    have tq : ∀ q, q ≠ 66 → (q < 85 ∨ 92 < q) → N q = M17 q := fun q a1 a2 => (nq q a1 (by omega) (by omega) (by omega) (by omega) (by omega) (by omega) (by omega) (by omega)).trans (t.1 q a1 (by omega) (by omega) (by omega) (by omega) (by omega) (by omega) (by omega))
    have n0 := tq 0 (by decide) (by decide)
    have qN : ∀ q, q ≠ 66 → (q < 85 ∨ 92 < q) → q ≠ 0 → q ≠ 1 → q ≠ 27 → q ≠ 3 → q ≠ 4 → (q < hd ∨ hd + 16 < q) → N q = M q := fun q b1 b2 a0 a1 a2 a3 a4 a5 => (tq q b1 b2).trans (qo q a0 a1 a2 a3 a4 a5)
    rintro ⟨h'', G'⟩
    refine ⟨?_, hd, x.1, ?_, xo, ?_, ?_, ?_, ?_, ?_, ?_, ?_, ?_, ?_, ?_⟩
    · rw [nj 40 (by decide) (by decide) (by decide) (by decide), x40, q17 4 (by decide) (by decide) (by decide)]; exact x41.symm
    · have a := G0 G'
      rw [n0, j17 10 (by decide) (by decide) (by decide), g10.1] at a
      rw [a]; exact G'
    · exact Ch_f3 (fun q a d => by rw [tq q (by omega) (by omega)]; exact q17 q (by omega) (by omega) (by omega)) xC
    · exact Rh_N wd wD n38 n39 v85 v86 v87 v88 v89 v90 v91 v92
    · have y1 : N 1 1 = 0 := by rw [tq 1 (by decide) (by decide)]; exact g17.2.2.2.2
      refine ⟨by rw [y1]; decide, by rw [y1]; decide, by rw [y1, nj 1 (by decide) (by decide) (by decide) (by decide)]; exact x1, fun k u v => ?_⟩
      rw [y1] at v; omega
    · unfold iF
      rw [n0, j17 14 (by decide) (by decide) (by decide), j17 15 (by decide) (by decide) (by decide), g10.2.1, g10.2.2.1, nj 7 (by decide) (by decide) (by decide) (by decide), nj 8 (by decide) (by decide) (by decide) (by decide)]
      exact ⟨x7, x8⟩
    · exact iK_fr (fun q hq => qN q (by omega) (by omega) (by omega) (by omega) (by omega) (by omega) (by omega) (by omega)) hK
    · have al' := al
      unfold fX4_all at al'
      rw [C10.1.2.2.2.2.1] at al'
      have p0 : 0 < 2 ^ (x.1 0 4).toNat := Nat.two_pow_pos _
      have pc : (((2 : Nat) ^ (x.1 0 4).toNat : Nat) : Int) = (2 : Int) ^ (x.1 0 4).toNat := by simp
      unfold iC
      rw [n42, wD.1.2.2.2.2.2.1, al', n0, g17.1, al, ← pc]
      clear al al' n42
      revert p0
      generalize (2 : Nat) ^ (x.1 0 4).toNat = z
      intro p0
      exact ⟨rfl, by omega, by omega⟩
    · exact iS_fr ⟨by rw [nj 56 (by decide) (by decide) (by decide) (by decide), t.2.1 56 (by omega), i66], by rw [n0, j17 13 (by decide) (by decide) (by decide), j10 13 (by decide) (by decide) (by decide) (by decide)]⟩ hS
    · exact iO_fr ⟨by rw [nj 89 (by decide) (by decide) (by decide) (by decide), t.2.1 89 (by omega), i66], by rw [n0, j17 9 (by decide) (by decide) (by decide), j10 9 (by decide) (by decide) (by decide) (by decide)], qN 31 (by decide) (by decide) (by decide) (by decide) (by decide) (by decide) (by decide) (by omega), qN 125 (by decide) (by decide) (by decide) (by decide) (by decide) (by decide) (by decide) (by omega)⟩ hO
    · have y3 : N 27 3 = 0 := by rw [tq 27 (by decide) (by decide)]; exact g17.2.2.2.1
      have y55 : N 66 55 = M 66 55 := by rw [nj 55 (by decide) (by decide) (by decide) (by decide), t.2.1 55 (by omega), i66]
      obtain ⟨_, _, _, a4, a5, _⟩ := hA
      unfold iA
      rw [y3, n54, y55]
      exact ⟨rfl, by decide, by decide, a4, a5, fun j u v => by omega, fun j u v => by omega⟩
    · have y16 : N 0 16 = 1 := by rw [n0]; exact g17.2.1
      have y17 : N 0 17 = 1 := by rw [n0]; exact g17.2.2.1
      refine ⟨Or.inr y16, Or.inr y17, nOK_f2 (M := M2) ?_ xN, fun z => by rw [y16] at z; exact absurd z (by decide), fun z => by rw [y17] at z; exact absurd z (by decide)⟩
      rw [tq (hd + 16) (by omega) (by omega)]; exact q17 _ (by omega) (by omega) (by omega)
end
