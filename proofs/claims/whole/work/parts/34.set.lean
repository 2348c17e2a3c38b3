/-! set, close -/
theorem add_ev {M : Mem} (a b c : Int) (n0 : 0 ≤ M 27 3) (n1 : M 27 3 ≤ 20) : ∃ s n' : Int, ((M 27 3 < 20 ∧ s = 0 ∧ n' = M 27 3 + 1) ∨ (M 27 3 = 20 ∧ s = 1 ∧ n' = 20)) ∧ fmX0_add M a b c 27 3 = n' ∧
    (∀ j, 0 ≤ j → j < n' - 1 → fmX0_add M a b c 28 j = M 28 (j + s) ∧ fmX0_add M a b c 29 j = M 29 (j + s) ∧ fmX0_add M a b c 30 j = M 30 (j + s)) ∧ (fmX0_add M a b c 28 (n' - 1) = a ∧ fmX0_add M a b c 29 (n' - 1) = b ∧ fmX0_add M a b c 30 (n' - 1) = c) := by
  have key : ∃ (s m : Int) (X : Mem), ((M 27 3 < 20 ∧ s = 0 ∧ m = M 27 3) ∨ (M 27 3 = 20 ∧ s = 1 ∧ m = 19)) ∧ X 27 3 = m ∧ (∀ j, 0 ≤ j → j < m → X 28 j = M 28 (j + s) ∧ X 29 j = M 29 (j + s) ∧ X 30 j = M 30 (j + s)) ∧ fmX0_add M a b c = mset (mset (mset (mset X 28 m a) 29 m b) 30 m c) 27 3 (m + 1) := by
    have fin : ∀ (X : Mem) (m : Int), X 27 3 = m → 0 ≤ m → m < 20 → (mset (fmX11_put (fmX11_put (fmX11_put X 28 20 (X 27 3) a) 29 20 ((fmX11_put X 28 20 (X 27 3) a) 27 3) b) 30 20 ((fmX11_put (fmX11_put X 28 20 (X 27 3) a) 29 20 ((fmX11_put X 28 20 (X 27 3) a) 27 3) b) 27 3) c) 27 3 (wr32 (((fmX11_put (fmX11_put (fmX11_put X 28 20 (X 27 3) a) 29 20 ((fmX11_put X 28 20 (X 27 3) a) 27 3) b) 30 20 ((fmX11_put (fmX11_put X 28 20 (X 27 3) a) 29 20 ((fmX11_put X 28 20 (X 27 3) a) 27 3) b) 27 3) c) 27 3) + 1))) = mset (mset (mset (mset X 28 m a) 29 m b) 30 m c) 27 3 (m + 1) := by
      intro X m hX m0 m1
      rw [hX, rd_put (M := X) m0 (by omega), mset_o (by decide), hX, rd_put (M := mset X 28 m a) m0 (by omega), mset_o (by decide), mset_o (by decide), hX, rd_put m0 (by omega), mset_o (by decide), mset_o (by decide), mset_o (by decide), hX, wad (by omega) (by omega)]
    by_cases h : M 27 3 = 20
    · obtain ⟨X, hX⟩ : ∃ X : Mem, X = (mset (mcpy (mcpy (mcpy M 28 1 28 0 19) 29 1 29 0 19) 30 1 30 0 19) 27 3 (wr32 (((mcpy (mcpy (mcpy M 28 1 28 0 19) 29 1 29 0 19) 30 1 30 0 19) 27 3) - 1))) := ⟨_, rfl⟩
      have e27 : (mcpy (mcpy (mcpy M 28 1 28 0 19) 29 1 29 0 19) 30 1 30 0 19) 27 3 = 20 := by rw [mcpy_p (by decide), mcpy_p (by decide), mcpy_p (by decide), h]
      have x27 : X 27 3 = 19 := by rw [hX, mset_e, e27]; decide
      refine ⟨1, 19, X, Or.inr ⟨h, rfl, rfl⟩, x27, fun j j0 j1 => ?_, ?_⟩
      · rw [hX, mset_p (by decide), mset_p (by decide), mset_p (by decide)]
        refine ⟨?_, ?_, ?_⟩
        · rw [mcpy_p (by decide), mcpy_p (by decide)]
          unfold mcpy
          simp only [if_true]
          rw [if_pos (by omega)]
          congr 1
          omega
        · rw [mcpy_p (by decide)]
          unfold mcpy
          simp only [if_true, (by decide : ¬ (29 : Int) = 28), if_false]
          rw [if_pos (by omega)]
          congr 1
          omega
        · unfold mcpy
          simp only [if_true, (by decide : ¬ (30 : Int) = 28), (by decide : ¬ (30 : Int) = 29), if_false]
          rw [if_pos (by omega)]
          congr 1
          omega
      · have := fin X 19 x27 (by omega) (by omega)
        rw [← this]
        unfold fmX0_add
        simp only [if_pos h]
        rw [← hX]
    · refine ⟨0, M 27 3, M, Or.inl ⟨by omega, rfl, rfl⟩, rfl, fun j _ _ => by rw [Int.add_zero]; exact ⟨rfl, rfl, rfl⟩, ?_⟩
      have := fin M (M 27 3) rfl n0 (by omega)
      rw [← this]
      unfold fmX0_add
      simp only [if_neg h]
  obtain ⟨s, m, X, h1, h2, h3, h4⟩ := key
  refine ⟨s, m + 1, by omega, ?_, ?_, ?_⟩
  · rw [h4, mset_e]
  · intro j j0 j1
    have e := h3 j j0 (by omega)
    rw [h4, ← e.1, ← e.2.1, ← e.2.2]
    refine ⟨?_, ?_, ?_⟩ <;> simp [ms] <;> omega
  · rw [h4]
    refine ⟨?_, ?_, ?_⟩ <;> simp [ms]
theorem mk_eq {M : Mem} {p k x : Int} (h0 : 0 ≤ p) (h1 : p < 9) (k0 : 0 ≤ k) (k1 : k < 18) : fmX12_makes M p k x = mset M 88 (162 + 18 * p + k) x ∧ nX12_makes p k := by
  have e : wr32 (wr32 (162 + wr32 (18 * p)) + k) = 162 + 18 * p + k := by
    rw [wmu (a := 18) (by omega) (by omega), wad (a := 162) (by omega) (by omega), wad (by omega) (by omega)]
  unfold fmX12_makes nX12_makes
  rw [e]
  exact ⟨rfl, by omega, by omega⟩
theorem nmk {p k : Int} (h0 : 0 ≤ p) (h1 : p < 9) (k0 : 0 ≤ k) (k1 : k < 18) : nX12_makes p k := (mk_eq (M := fun _ _ => 0) (x := 0) h0 h1 k0 k1).2
theorem mayBe_eq {g : Int} {H : Hal} {M : Mem} (ho : Hok H) (hc : Ch g H M) (k n : Int) : ((fX1_mayBe M g k n = 1 ∧ ((k = 0 ∧ 0 ≤ n ∧ n ≤ 120) ∨ (k = 1 ∧ 0 ≤ n ∧ n ≤ 9) ∨ (k = 2 ∧ fre H n))) ∨ (fX1_mayBe M g k n = 0 ∧ ¬ ((k = 0 ∧ 0 ≤ n ∧ n ≤ 120) ∨ (k = 1 ∧ 0 ≤ n ∧ n ≤ 9) ∨ (k = 2 ∧ fre H n)))) := by
  unfold fX1_mayBe
  by_cases k0 : k = 0
  · subst k0
    simp only [if_true]
    by_cases a : n < 0
    · rw [if_pos a]
      exact Or.inr ⟨rfl, by omega⟩
    · rw [if_neg a]
      by_cases b : 120 < n
      · rw [if_pos b]
        exact Or.inr ⟨rfl, by omega⟩
      · rw [if_neg b]
        exact Or.inl ⟨rfl, Or.inl ⟨by trivial, by omega, by omega⟩⟩
  · rw [if_neg k0]
    by_cases k1 : k = 1
    · subst k1
      simp only [if_true]
      by_cases a : n < 0
      · rw [if_pos a]
        exact Or.inr ⟨rfl, by omega⟩
      · rw [if_neg a]
        by_cases b : 9 < n
        · rw [if_pos b]
          exact Or.inr ⟨rfl, by omega⟩
        · rw [if_neg b]
          exact Or.inl ⟨rfl, Or.inr (Or.inl ⟨by trivial, by omega, by omega⟩)⟩
    · rw [if_neg k1]
      by_cases k2 : k = 2
      · subst k2
        simp only [if_true]
        rcases isFree_eq ho hc n with z | z
        · exact Or.inl ⟨z.1, Or.inr (Or.inr ⟨by trivial, z.2⟩)⟩
        · refine Or.inr ⟨z.1, fun y => ?_⟩
          rcases y with y | y | y
          · omega
          · omega
          · exact z.2 y.2
      · rw [if_neg k2]
        exact Or.inr ⟨rfl, by omega⟩
theorem Rh_isCell {H : Hal} {M : Mem} (ho : Hok H) (hr : Rh H M) (n : Int) : fX12_isCell M n = if 0 ≤ n ∧ n < H 0 0 * H 0 1 then 1 else 0 := by
  have hb := hcells ho
  unfold fX12_isCell
  rw [rcells ho hr, isIn_eq, wsu (by omega) (by omega)]
  by_cases z : 0 ≤ n ∧ n < H 0 0 * H 0 1
  · rw [if_pos z, if_pos (by omega)]
  · rw [if_neg z, if_neg (by omega)]
/-- the coupling from its pieces, where the class has changed a hall and both have kept an act -/
theorem Inv_acts {h : Int} {H H' : Hal} {M M' : Mem} (hg : isG h) (hG : G h M') (hI : InvH h H M) (hok : Hok H') (hc : Ch h H' M') (hr : Rh H' M') (hP : H' 0 4 = H 0 4) (hA : iA H' M') (hW : iW h H' M')
    (e : ∀ q, (q < 32 ∨ 65 < q) → q ≠ 0 → q ≠ 27 → q ≠ 28 → q ≠ 29 → q ≠ 30 → q ≠ 66 → q ≠ 88 → q ≠ 92 → q ≠ 100 → M' q = M q) (e0 : ∀ j, j ≠ 16 → j ≠ 17 → M' 0 j = M 0 j) (e66 : ∀ j, j ≠ 54 → j ≠ 55 → M' 66 j = M 66 j) : Inv M' := by
  obtain ⟨_, _, _, hT, hF, hK, hC, hS, hO, _, _⟩ := hI
  refine ⟨h, H', hG, hok, hc, hr, iT_fr ⟨by rw [e 1 (by omega) (by decide) (by decide) (by decide) (by decide) (by decide) (by decide) (by decide) (by decide) (by decide)], e 2 (by omega) (by decide) (by decide) (by decide) (by decide) (by decide) (by decide) (by decide) (by decide) (by decide), e66 1 (by decide) (by decide), e 67 (by omega) (by decide) (by decide) (by decide) (by decide) (by decide) (by decide) (by decide) (by decide) (by decide)⟩ hT, iF_fr ⟨e66 _ (by decide) (by decide), e66 _ (by decide) (by decide), e0 _ (by decide) (by decide), e0 _ (by decide) (by decide)⟩ hF, iK_fr (fun q z => e q (by omega) (by omega) (by omega) (by omega) (by omega) (by omega) (by omega) (by omega) (by omega) (by omega)) hK, ?_, iS_fr ⟨e66 _ (by decide) (by decide), e0 _ (by decide) (by decide)⟩ hS, iO_fr ⟨e66 _ (by decide) (by decide), e0 _ (by decide) (by decide), e 31 (by omega) (by decide) (by decide) (by decide) (by decide) (by decide) (by decide) (by decide) (by decide) (by decide), e 125 (by omega) (by decide) (by decide) (by decide) (by decide) (by decide) (by decide) (by decide) (by decide) (by decide)⟩ hO, hA, hW⟩
  unfold iC at hC ⊢
  rw [e66 _ (by decide) (by decide), e0 _ (by decide) (by decide), hP]
  exact hC
theorem chd {M : Mem} (v : Int) : fmX11_changed M v = mset (mset M 0 16 (if M 0 16 = 0 then (if v = 0 then (0 : Int) else 1) else 1)) 0 17 1 := rfl
theorem chd_w {g : Int} {H : Hal} {M M' : Mem} {v : Int} {c w d cl : Int → Int} (hW : iW g H M) (e16 : M' 0 16 = if M 0 16 = 0 then (if v = 0 then (0 : Int) else 1) else 1) (e17 : M' 0 17 = 1) (en : M' (g + 16) = M (g + 16)) (h10 : M' 10 = M 10) (h11 : M' 11 = M 11) (hc : v = 0 → ∀ p, 0 ≤ p → p < H 0 4 → c p = H 7 p) : iW g (hst H c w d cl) M' := by
  obtain ⟨w1, w2, w3, w4, w5⟩ := hW
  refine ⟨?_, Or.inr e17, nOK_fr w3 en, fun z => ?_, fun z => ?_⟩
  · rw [e16]
    by_cases a : M 0 16 = 0
    · rw [if_pos a]
      by_cases b : v = 0
      · rw [if_pos b]; exact Or.inl rfl
      · rw [if_neg b]; exact Or.inr rfl
    · rw [if_neg a]; exact Or.inr rfl
  · rw [e16] at z
    by_cases a : M 0 16 = 0
    · rw [if_pos a] at z
      by_cases b : v = 0
      · exact wOK_hst (w4 a) h10 h11 (hc b)
      · rw [if_neg b] at z
        omega
    · rw [if_neg a] at z
      omega
  · rw [e17] at z
    omega
theorem inv_close : ∀ E, Two_close E Inv := by
  intro E
  refine two_close (fun v1 v2 M hz hI hkk _ _ => ?_)
  obtain ⟨h, H, hG, hI⟩ := hI
  have hI' := hI
  obtain ⟨hok, hc, hr, hT, hF, hK, hC, hS, hO, hA, hW⟩ := hI
  have hh := hG.2.2.2
  have hb := hok.2.1
  refine ⟨h, hG, ?_⟩
  have hv : (if v2 = 0 then (0 : Int) else 1) = v2 := by rcases hz with z | z <;> simp [z]
  unfold PX11_close fX11_close fmX11_close
  rw [hasDoor_eq hc, hv]
  have e0 : ∀ N : Mem, Rh H N → fX12_isIn v1 0 (wr32 (fX12_doorMany N - 1)) = if 0 ≤ v1 ∧ v1 < H 0 2 then 1 else 0 := by
    intro N hN
    rw [dMany hN, isIn_eq, wsu (by omega) (by omega)]
    by_cases z : 0 ≤ v1 ∧ v1 < H 0 2
    · rw [if_pos z, if_pos (by omega)]
    · rw [if_neg z, if_neg (by omega)]
  by_cases a : 0 ≤ v1 ∧ v1 < H 0 2
  · have c3 := hc.2.2.1 v1 a.1 a.2
    have r3 := hr.2.2.1 v1 a.1 a.2
    have o3 := (hok.2.2.2.1 v1 a.1 a.2).2
    simp only [if_pos a, (by decide : ¬ (1 : Int) = 0), if_false]
    rw [rd_get a.1 (by omega), c3.2]
    by_cases b : H 3 v1 = v2
    · simp only [if_pos b]
      intro _
      refine ⟨fun z => absurd z (by rw [e0 M hr, if_pos a]; decide), fun _ => ⟨a.1, by omega, fun _ hG2 => ⟨rfl, h, H, hG2, hI'⟩, fun z => absurd ?_ z⟩⟩
      rw [r3.2, b]
      rcases hz with z | z <;> simp [z]
    · simp only [if_neg b]
      obtain ⟨n1, n2, n3, n4, n5, _, _⟩ := hA
      obtain ⟨s, n', hs, x27, x28, x28n⟩ := add_ev (M := M) 3 v1 (1 - v2) (by omega) (by omega)
      have ew : wr32 (1 - v2) = 1 - v2 := wsu (by omega) (by omega)
      rw [ew]
      have fA : ∀ q, q ≠ 27 → q ≠ 28 → q ≠ 29 → q ≠ 30 → fmX0_add M 3 v1 (1 - v2) q = M q := fun q a b c d => frX0_add (by first | exact a | exact b | exact c | exact d) (by first | exact a | exact b | exact c | exact d) (by first | exact a | exact b | exact c | exact d) (by first | exact a | exact b | exact c | exact d)
      obtain ⟨A, hA0⟩ : ∃ m : Mem, m = fmX0_add M 3 v1 (1 - v2) := ⟨_, rfl⟩
      rw [← hA0] at x27 x28 x28n fA ⊢
      rw [rd_put a.1 (by omega), chd]
      obtain ⟨M1, hM1⟩ : ∃ m : Mem, m = mset (mset (mset A (h + 11) v1 v2) 0 16 (if mset A (h + 11) v1 v2 0 16 = 0 then (if (0 : Int) = 0 then (0 : Int) else 1) else 1)) 0 17 1 := ⟨_, rfl⟩
      rw [← hM1]
      have hh2 : 43 ≤ h + 11 ∧ h + 11 ≤ 60 := by rcases hh with z | z <;> rw [z] <;> decide
      have y16 : mset A (h + 11) v1 v2 0 16 = M 0 16 := by rw [mset_o (by omega), fA 0 (by decide) (by decide) (by decide) (by decide)]
      rw [y16] at hM1
      have q1 : ∀ q, q ≠ 0 → q ≠ 27 → q ≠ 28 → q ≠ 29 → q ≠ 30 → q ≠ h + 11 → M1 q = M q := fun q a b c d e f => by rw [hM1, mset_p a, mset_p a, mset_p f, fA q b c d e]
      have hr1 : Rh H M1 := Rh_fr (g := 66) ⟨fun q a b => q1 q (by omega) (by omega) (by omega) (by omega) (by omega) (by omega), by rw [q1 66 (by decide) (by decide) (by decide) (by decide) (by decide) (by omega)], by rw [q1 66 (by decide) (by decide) (by decide) (by decide) (by decide) (by omega)], fun q a b => q1 q (by omega) (by omega) (by omega) (by omega) (by omega) (by omega)⟩ hr
      have z66 : M1 66 = M 66 := q1 66 (by decide) (by decide) (by decide) (by decide) (by decide) (by omega)
      have r31 := (hr1.2.2.1 v1 a.1 a.2).2
      intro hG1
      refine ⟨fun z => absurd z (by rw [e0 M1 hr1, if_pos a]; decide), fun _ => ⟨a.1, by omega, fun z => absurd z ?_, fun _ => ?_⟩⟩
      · rw [r31]
        intro z
        apply b
        rw [← z]
        rcases o3 with y | y <;> simp [y]
      obtain ⟨M7, ev, k1, k2, k3, k4, k5, k6, k7⟩ := keeps_ev hok hr1 (by rw [z66]; omega) (by rw [z66]; omega) (by rw [z66]; omega) (by rw [z66]; omega)
      refine ev _ ⟨a.1, by omega, ?_⟩
      intro M11 hM11 hG2
      refine ⟨rfl, ?_⟩
      rw [hv] at hM11
      obtain ⟨cl, hcl⟩ : ∃ f : Int → Int, f = fun k => if k = v1 then v2 else H 3 k := ⟨_, rfl⟩
      have p1 : ∀ q, q ≠ 0 → q ≠ 27 → q ≠ 28 → q ≠ 29 → q ≠ 30 → q ≠ h + 11 → q ≠ 66 → q ≠ 92 → q ≠ 100 → M11 q = M q := fun q a1 a2 a3 a4 a5 a6 a7 a8 a9 => by rw [hM11, mset_p a8, k1 q a7 a9, q1 q a1 a2 a3 a4 a5 a6]
      have p66 : ∀ j, j ≠ 54 → j ≠ 55 → M11 66 j = M 66 j := fun j a b => by rw [hM11, mset_o (by decide), k2 j a b, z66]
      have p0 : ∀ j, M11 0 j = M1 0 j := fun j => by rw [hM11, mset_o (by decide), k1 0 (by decide) (by decide)]
      have p0' : ∀ j, j ≠ 16 → j ≠ 17 → M11 0 j = M 0 j := fun j a b => by rw [p0, hM1, mset_k b, mset_k a, mset_o (by omega), fA 0 (by decide) (by decide) (by decide) (by decide)]
      have g11 : ∀ k, M11 (h + 11) k = if k = v1 then v2 else M (h + 11) k := fun k => by
        rw [hM11, mset_o (by omega), k1 _ (by omega) (by omega), hM1, mset_o (by omega), mset_o (by omega)]
        by_cases y : k = v1
        · rw [if_pos y, y, mset_e]
        · rw [if_neg y, mset_k y, fA _ (by omega) (by omega) (by omega) (by omega)]
      have pA : ∀ q, q = 27 ∨ q = 28 ∨ q = 29 ∨ q = 30 → M11 q = A q := fun q z => by rw [hM11, mset_p (by omega), k1 q (by omega) (by omega), hM1, mset_p (by omega), mset_p (by omega), mset_p (by omega)]
      have hnn : n' = if M 66 54 < 20 then M 66 54 + 1 else 20 := by
        rw [n1] at hs
        rcases hs with ⟨u, _, u3⟩ | ⟨u, _, u3⟩
        · rw [if_pos u, u3]
        · rw [if_neg (by omega), u3]
      have hcl2 : ∀ k, 0 ≤ k → k < H 0 2 → M11 (h + 11) k = cl k := fun k k0 k1' => by
        rw [g11, hcl]
        by_cases y : k = v1
        · simp only [if_pos y]
        · simp only [if_neg y]
          exact (hc.2.2.1 k k0 k1').2
      refine Inv_acts (H' := hst H (H 7) (H 8) (H 9) cl) hh hG2 hI' ?_ ?_ ?_ rfl ?_ ?_ ?_ p0' p66
      · refine Hok_hst hok (fun p a b => ?_) (fun k a b => ?_)
        · have := hok.2.2.2.2.2.2.1 p a b
          exact ⟨this.1, this.2.1, this.2.2.1, this.2.2.2.1, this.2.2.2.2.1⟩
        · rw [hcl]
          by_cases y : k = v1
          · simp only [if_pos y]
            exact hz
          · simp only [if_neg y]
            exact (hok.2.2.2.1 k a b).2
      · refine Ch_hst hc (fun q a1 a2 a3 a4 a5 a6 => p1 q (by omega) (by omega) (by omega) (by omega) (by omega) a6 (by omega) (by omega) (by omega)) (fun p a b => ?_) hcl2
        have c5 := hc.2.2.2.2.1 p a b
        rw [p1 (h + 3) (by omega) (by omega) (by omega) (by omega) (by omega) (by omega) (by omega) (by omega) (by omega), p1 (h + 4) (by omega) (by omega) (by omega) (by omega) (by omega) (by omega) (by omega) (by omega) (by omega), p1 (h + 5) (by omega) (by omega) (by omega) (by omega) (by omega) (by omega) (by omega) (by omega) (by omega)]
        exact ⟨c5.1, c5.2.1, c5.2.2.1⟩
      · have e88 : M11 88 = M 88 := p1 88 (by decide) (by decide) (by decide) (by decide) (by decide) (by omega) (by decide) (by decide) (by decide)
        refine Rh_hst hok hr (p66 _ (by decide) (by decide)) (p66 _ (by decide) (by decide)) (fun q a b c => p1 q (by omega) (by omega) (by omega) (by omega) (by omega) (by omega) (by omega) (by omega) (by omega)) (fun p k _ _ _ _ => by rw [e88]) (fun p a b => ?_) (fun k k0 k9 => ?_)
        · have r5 := hr.2.2.2.2.1 p a b
          rw [e88]
          exact ⟨r5.1, r5.2.1, r5.2.2.1⟩
        · rw [hM11, hcl]
          by_cases y : k = v1
          · simp only [if_pos y]
            rw [y, mset_e]
          · simp only [if_neg y]
            rw [mset_k y, k1 92 (by decide) (by decide), q1 92 (by decide) (by decide) (by decide) (by decide) (by decide) (by omega)]
            exact (hr.2.2.1 k k0 k9).2
      · have e54 : M11 66 54 = n' := by rw [hM11, mset_o (by decide), k4, z66, hnn]
        have e55 : M11 66 55 = (M 66 55 + 1) % 20 := by rw [hM11, mset_o (by decide), k3, z66]
        have e100 : M11 100 = M7 100 := by rw [hM11, mset_p (by decide)]
        rw [z66] at k5 k6 k7
        have eM1 : M1 100 = M 100 := q1 100 (by decide) (by decide) (by decide) (by decide) (by decide) (by omega)
        refine iA_push hok ⟨n1, n2, n3, n4, n5, by assumption, by assumption⟩ 3 v1 (1 - v2) s n' (by rw [n1] at hs; exact hs) (by rw [pA 27 (by omega), x27]) e54 e55 (fun j a b => by rw [pA 28 (by omega), pA 29 (by omega), pA 30 (by omega)]; exact x28 j a b) (by rw [pA 28 (by omega), pA 29 (by omega), pA 30 (by omega)]; exact x28n) (fun x i a b c d e => by rw [e100, k5 x i a b c d e, eM1]) ⟨fun p a b => by rw [e100]; exact k6 p a b, fun k a b => by rw [e100]; exact k7 k a b⟩ ⟨by decide, by decide, fun _ => a, fun z => absurd rfl z⟩ (fun p _ _ => ⟨by simp, by simp, by simp⟩) (fun k _ _ => ?_)
        rw [hcl]
        by_cases y : k = v1
        · simp only [if_pos y, y, and_self, if_true]
          omega
        · simp only [if_neg y]
          rw [if_neg (fun z => y z.2.symm)]
      · refine chd_w (v := 0) hW ?_ ?_ (p1 _ (by omega) (by omega) (by omega) (by omega) (by omega) (by omega) (by omega) (by omega) (by omega)) (p1 _ (by omega) (by omega) (by omega) (by omega) (by omega) (by omega) (by omega) (by omega) (by omega)) (p1 _ (by omega) (by omega) (by omega) (by omega) (by omega) (by omega) (by omega) (by omega) (by omega)) (fun _ _ _ _ => rfl)
        · rw [p0, hM1, mset_k (by decide), mset_e]
        · rw [p0, hM1, mset_e]
      · intro q b1 b2 b3 b4 b5 b6 b7 b8 b9 b10
        exact p1 q b2 b3 b4 b5 b6 (by omega) b7 b9 b10
  · simp only [if_neg a, if_true]
    intro _
    refine ⟨fun _ hG2 => ⟨rfl, h, H, hG2, hI'⟩, fun z => absurd ?_ z⟩
    rw [e0 M hr, if_neg a]
