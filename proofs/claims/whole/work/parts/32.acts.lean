/-! what acts change -/
def hst (H : Hal) (c w d cl : Int → Int) : Hal := fun f i => if f = 7 then c i else if f = 8 then w i else if f = 9 then d i else if f = 3 then cl i else H f i
theorem hst_o {H : Hal} {c w d cl : Int → Int} {f : Nat} (h7 : f ≠ 7) (h8 : f ≠ 8) (h9 : f ≠ 9) (h3 : f ≠ 3) : hst H c w d cl f = H f := by
  funext i
  unfold hst
  rw [if_neg h7, if_neg h8, if_neg h9, if_neg h3]
theorem hst7 {H : Hal} {c w d cl : Int → Int} : hst H c w d cl 7 = c := rfl
theorem hst8 {H : Hal} {c w d cl : Int → Int} : hst H c w d cl 8 = w := rfl
theorem hst9 {H : Hal} {c w d cl : Int → Int} : hst H c w d cl 9 = d := rfl
theorem hst3 {H : Hal} {c w d cl : Int → Int} : hst H c w d cl 3 = cl := rfl
theorem hst0 {H : Hal} {c w d cl : Int → Int} : hst H c w d cl 0 = H 0 := rfl
theorem hst1 {H : Hal} {c w d cl : Int → Int} : hst H c w d cl 1 = H 1 := rfl
theorem fre_hst {H : Hal} {c w d cl : Int → Int} (x : Int) : fre (hst H c w d cl) x = fre H x := rfl
theorem Hok_hst {H : Hal} {c w d cl : Int → Int} (ho : Hok H) (hp : ∀ p, 0 ≤ p → p < H 0 4 → fre H (c p) ∧ 0 ≤ w p ∧ w p ≤ 120 ∧ 0 ≤ d p ∧ d p ≤ 9) (hd : ∀ k, 0 ≤ k → k < H 0 2 → cl k = 0 ∨ cl k = 1) : Hok (hst H c w d cl) := by
  obtain ⟨o1, o2, o3, o4, o5, o6, o7, o8⟩ := ho
  refine ⟨o1, o2, o3, fun k a b => ⟨(o4 k a b).1, hd k a b⟩, o5, o6, fun p a b => ?_, o8⟩
  have x := o7 p a b
  have y := hp p a b
  exact ⟨y.1, y.2.1, y.2.2.1, y.2.2.2.1, y.2.2.2.2, x.2.2.2.2.2⟩
theorem Ch_hst {g : Int} {H : Hal} {M M' : Mem} {c w d cl : Int → Int} (hc : Ch g H M) (e : ∀ q, g ≤ q → q ≤ g + 16 → q ≠ g + 3 → q ≠ g + 4 → q ≠ g + 5 → q ≠ g + 11 → M' q = M q)
    (hp : ∀ p, 0 ≤ p → p < H 0 4 → M' (g + 3) p = c p ∧ M' (g + 4) p = w p ∧ M' (g + 5) p = d p) (hd : ∀ k, 0 ≤ k → k < H 0 2 → M' (g + 11) k = cl k) : Ch g (hst H c w d cl) M' := by
  have e0 := e g (by omega) (by omega) (by omega) (by omega) (by omega) (by omega)
  have e1 := e (g + 1) (by omega) (by omega) (by omega) (by omega) (by omega) (by omega)
  have e2 := e (g + 2) (by omega) (by omega) (by omega) (by omega) (by omega) (by omega)
  have e6 := e (g + 6) (by omega) (by omega) (by omega) (by omega) (by omega) (by omega)
  have e7 := e (g + 7) (by omega) (by omega) (by omega) (by omega) (by omega) (by omega)
  have e8 := e (g + 8) (by omega) (by omega) (by omega) (by omega) (by omega) (by omega)
  have e9 := e (g + 9) (by omega) (by omega) (by omega) (by omega) (by omega) (by omega)
  have e10 := e (g + 10) (by omega) (by omega) (by omega) (by omega) (by omega) (by omega)
  have e12 := e (g + 12) (by omega) (by omega) (by omega) (by omega) (by omega) (by omega)
  have e13 := e (g + 13) (by omega) (by omega) (by omega) (by omega) (by omega) (by omega)
  have e14 := e (g + 14) (by omega) (by omega) (by omega) (by omega) (by omega) (by omega)
  have e15 := e (g + 15) (by omega) (by omega) (by omega) (by omega) (by omega) (by omega)
  obtain ⟨c1, c2, c3, c4, c5, c6, c7⟩ := hc
  unfold Ch
  rw [e0, e1, e2, e6, e7, e8, e9, e10, e12, e13, e14, e15]
  refine ⟨c1, c2, fun k a b => ⟨(c3 k a b).1, hd k a b⟩, c4, fun p a b => ?_, c6, c7⟩
  have x := c5 p a b
  have y := hp p a b
  exact ⟨y.1, y.2.1, y.2.2, x.2.2.2.1, x.2.2.2.2.1, x.2.2.2.2.2.1, x.2.2.2.2.2.2⟩
theorem Rh_hst {H : Hal} {M M' : Mem} {c w d cl : Int → Int} (ho : Hok H) (hr : Rh H M) (e38 : M' 66 38 = M 66 38) (e39 : M' 66 39 = M 66 39) (e : ∀ q, 85 ≤ q → q ≤ 91 → q ≠ 88 → M' q = M q)
    (e88 : ∀ p k, 0 ≤ p → p < H 0 4 → 3 ≤ k → k < 18 → M' 88 (162 + 18 * p + k) = M 88 (162 + 18 * p + k))
    (hp : ∀ p, 0 ≤ p → p < H 0 4 → M' 88 (162 + 18 * p) = c p ∧ M' 88 (162 + 18 * p + 1) = w p - 60 ∧ M' 88 (162 + 18 * p + 2) = d p) (hd : ∀ k, 0 ≤ k → k < H 0 2 → M' 92 k = cl k) : Rh (hst H c w d cl) M' := by
  have e5 := e 85 (by omega) (by omega) (by omega)
  have e6 := e 86 (by omega) (by omega) (by omega)
  have e7 := e 87 (by omega) (by omega) (by omega)
  have e9 := e 89 (by omega) (by omega) (by omega)
  have e10 := e 90 (by omega) (by omega) (by omega)
  have e11 := e 91 (by omega) (by omega) (by omega)
  obtain ⟨c1, c2, c3, c4, c5, c6⟩ := hr
  unfold Rh
  rw [e38, e39, e5, e6, e7, e9, e10, e11]
  refine ⟨c1, c2, fun k a b => ⟨(c3 k a b).1, hd k a b⟩, c4, fun p a b => ?_, fun p k a b k0 k1 => ?_⟩
  · have x := c5 p a b
    have y := hp p a b
    rw [e88 p 3 a b (by omega) (by omega), e88 p 4 a b (by omega) (by omega), e88 p 5 a b (by omega) (by omega)]
    exact ⟨y.1, y.2.1, y.2.2, x.2.2.2.1, x.2.2.2.2.1, x.2.2.2.2.2.1, x.2.2.2.2.2.2⟩
  · have := ho.2.2.2.2.2.2.1 p a b
    have k1' : k < H 12 p := k1
    rw [e88 p (6 + k) a b (by omega) (by omega)]
    exact c6 p k a b k0 k1
theorem wlk_hst {H : Hal} {c w d cl : Int → Int} {p : Int} (h : c p = H 7 p) : ∀ t : Nat, wlk (hst H c w d cl) p t = wlk H p t
  | 0 => h
  | t + 1 => by
    show stp (hst H c w d cl) (wlk (hst H c w d cl) p t) _ = stp H (wlk H p t) _
    rw [wlk_hst h t]
    rfl
theorem wOK_hst {H : Hal} {M M' : Mem} {c w d cl : Int → Int} (hw : wOK H M) (h10 : M' 10 = M 10) (h11 : M' 11 = M 11) (h : ∀ p, 0 ≤ p → p < H 0 4 → c p = H 7 p) : wOK (hst H c w d cl) M' := by
  unfold wOK at hw ⊢
  rw [h10, h11]
  refine ⟨fun p a b t ht => ?_, fun g a b t ht => ?_⟩
  · rw [wlk_hst (h p a b)]
    exact hw.1 p a b t ht
  · have := hw.2 g a b t ht
    refine ⟨this.1, this.2.1, fun p p0 p1 => ?_⟩
    rw [wlk_hst (h p p0 p1)]
    exact this.2.2 p p0 p1
theorem nOK_fr {g : Int} {H : Hal} {M M' : Mem} {c w d cl : Int → Int} (hn : nOK g H M) (e : M' (g + 16) = M (g + 16)) : nOK g (hst H c w d cl) M' := by
  unfold nOK fX1_isNear at hn ⊢
  rw [e]
  exact hn
/-- an act more -/
theorem iA_push {H : Hal} {M M' : Mem} {c w d cl : Int → Int} (ho : Hok H) (hA : iA H M) (kd wh fo s n' : Int) (hs : (M 66 54 < 20 ∧ s = 0 ∧ n' = M 66 54 + 1) ∨ (M 66 54 = 20 ∧ s = 1 ∧ n' = 20))
    (h1 : M' 27 3 = n') (h2 : M' 66 54 = n') (h3 : M' 66 55 = (M 66 55 + 1) % 20)
    (h28 : ∀ j, 0 ≤ j → j < n' - 1 → M' 28 j = M 28 (j + s) ∧ M' 29 j = M 29 (j + s) ∧ M' 30 j = M 30 (j + s)) (h28n : M' 28 (n' - 1) = kd ∧ M' 29 (n' - 1) = wh ∧ M' 30 (n' - 1) = fo)
    (h100 : ∀ x i, 0 ≤ x → x < 20 → x ≠ (M 66 55 + 1) % 20 → 0 ≤ i → i < 33 → M' 100 (33 * x + i) = M 100 (33 * x + i))
    (h100n : (∀ p, 0 ≤ p → p < H 0 4 → M' 100 (33 * ((M 66 55 + 1) % 20) + 3 * p + 0) = H 7 p ∧ M' 100 (33 * ((M 66 55 + 1) % 20) + 3 * p + 1) = H 8 p - 60 ∧ M' 100 (33 * ((M 66 55 + 1) % 20) + 3 * p + 2) = H 9 p) ∧ (∀ k, 0 ≤ k → k < H 0 2 → M' 100 (33 * ((M 66 55 + 1) % 20) + 27 + k) = H 3 k))
    (hk : 0 ≤ kd ∧ kd ≤ 3 ∧ (kd = 3 → 0 ≤ wh ∧ wh < H 0 2) ∧ (kd ≠ 3 → 0 ≤ wh ∧ wh < H 0 4))
    (hp : ∀ p, 0 ≤ p → p < H 0 4 → H 7 p = (if kd = 2 ∧ wh = p then fo else c p) ∧ H 8 p - 60 = (if kd = 0 ∧ wh = p then fo - 60 else w p - 60) ∧ H 9 p = (if kd = 1 ∧ wh = p then fo else d p))
    (hd : ∀ k, 0 ≤ k → k < H 0 2 → H 3 k = if kd = 3 ∧ wh = k then fo else cl k) : iA (hst H c w d cl) M' := by
  have hb := ho.2.1
  obtain ⟨a1, a2, a3, a4, a5, a6, a7⟩ := hA
  have sl : ∀ j, 0 ≤ j → j < n' - 1 → slt n' ((M 66 55 + 1) % 20) j = slt (M 66 54) (M 66 55) (j + s) ∧ slt (M 66 54) (M 66 55) (j + s) ≠ (M 66 55 + 1) % 20 := by
    intro j j0 j1
    unfold slt
    rcases hs with ⟨z1, z2, z3⟩ | ⟨z1, z2, z3⟩ <;> omega
  have sln : slt n' ((M 66 55 + 1) % 20) (n' - 1) = (M 66 55 + 1) % 20 := by
    unfold slt
    omega
  have slr : ∀ j, 0 ≤ slt (M 66 54) (M 66 55) j ∧ slt (M 66 54) (M 66 55) j < 20 := by
    intro j
    unfold slt
    omega
  have S : ∀ j, 0 ≤ j → j < n' → (∀ p, 0 ≤ p → p < H 0 4 → snp M' (hst H c w d cl) j 0 p = snp M H (j + s) 0 p ∧ snp M' (hst H c w d cl) j 1 p = snp M H (j + s) 1 p ∧ snp M' (hst H c w d cl) j 2 p = snp M H (j + s) 2 p) ∧ (∀ k, 0 ≤ k → k < H 0 2 → snd1 M' (hst H c w d cl) j k = snd1 M H (j + s) k) := by
    intro j j0 j1
    by_cases hj : j < n' - 1
    · have hjs : j + s < M 66 54 := by omega
      have x := sl j j0 hj
      have y := slr (j + s)
      unfold snp snd1
      rw [h2, h3]
      simp only [if_pos j1, if_pos hjs, x.1]
      refine ⟨fun p p0 p1 => ⟨?_, ?_, ?_⟩, fun k k0 k1 => ?_⟩
      · have := h100 _ (3 * p + 0) y.1 y.2 x.2 (by omega) (by omega)
        rw [Int.add_assoc, this, ← Int.add_assoc]
      · have := h100 _ (3 * p + 1) y.1 y.2 x.2 (by omega) (by omega)
        rw [Int.add_assoc, this, ← Int.add_assoc]
      · have := h100 _ (3 * p + 2) y.1 y.2 x.2 (by omega) (by omega)
        rw [Int.add_assoc, this, ← Int.add_assoc]
      · have := h100 _ (27 + k) y.1 y.2 x.2 (by omega) (by omega)
        rw [Int.add_assoc, this, ← Int.add_assoc]
    · have hjn : j = n' - 1 := by omega
      have hjs : ¬ (j + s < M 66 54) := by omega
      subst hjn
      unfold snp snd1
      rw [h2, h3, sln]
      simp only [if_pos j1, if_neg hjs]
      refine ⟨fun p p0 p1 => ?_, fun k k0 k1 => h100n.2 k k0 k1⟩
      have := h100n.1 p p0 p1
      refine ⟨?_, ?_, ?_⟩
      · rw [this.1]; simp
      · rw [this.2.1]; simp
      · rw [this.2.2]; simp
  have Sn : (∀ p, 0 ≤ p → p < H 0 4 → snp M' (hst H c w d cl) n' 0 p = c p ∧ snp M' (hst H c w d cl) n' 1 p = w p - 60 ∧ snp M' (hst H c w d cl) n' 2 p = d p) ∧ (∀ k, 0 ≤ k → k < H 0 2 → snd1 M' (hst H c w d cl) n' k = cl k) := by
    unfold snp snd1
    rw [h2]
    simp only [Int.lt_irrefl, if_false]
    exact ⟨fun p _ _ => ⟨by simp [hst7], by simp [hst8], by simp [hst9]⟩, fun k _ _ => by simp [hst3]⟩
  have Hn : (∀ p, 0 ≤ p → p < H 0 4 → snp M H (M 66 54) 0 p = H 7 p ∧ snp M H (M 66 54) 1 p = H 8 p - 60 ∧ snp M H (M 66 54) 2 p = H 9 p) ∧ (∀ k, 0 ≤ k → k < H 0 2 → snd1 M H (M 66 54) k = H 3 k) := by
    unfold snp snd1
    simp only [Int.lt_irrefl, if_false]
    exact ⟨fun p _ _ => ⟨by simp, by simp, by simp⟩, fun k _ _ => trivial⟩
  refine ⟨by rw [h1, h2], by omega, by omega, by omega, by omega, ?_, ?_⟩
  · rw [h2]
    intro j j0 j1
    have s1 := S j j0 j1
    by_cases hj : j < n' - 1
    · have o1 := a6 (j + s) (by omega) (by omega)
      refine ⟨fun p p0 p1 => ?_, fun k k0 k1 => ?_⟩
      · have e := s1.1 p p0 p1
        rw [e.1, e.2.1, e.2.2]
        exact o1.1 p p0 p1
      · rw [s1.2 k k0 k1]
        exact o1.2 k k0 k1
    · have ej : j + s = M 66 54 := by omega
      rw [ej] at s1
      refine ⟨fun p p0 p1 => ?_, fun k k0 k1 => ?_⟩
      · have e := s1.1 p p0 p1
        have f := Hn.1 p p0 p1
        have o7 := ho.2.2.2.2.2.2.1 p p0 p1
        rw [e.1, e.2.1, e.2.2, f.1, f.2.1, f.2.2]
        exact ⟨o7.1, by omega, by omega, by omega, by omega⟩
      · rw [s1.2 k k0 k1, Hn.2 k k0 k1]
        exact (ho.2.2.2.1 k k0 k1).2
  · rw [h2]
    intro j j0 j1
    have s1 := S j j0 j1
    by_cases hj : j < n' - 1
    · have o1 := a7 (j + s) (by omega) (by omega)
      have s2 := S (j + 1) (by omega) (by omega)
      have e28 := h28 j j0 hj
      rw [e28.1, e28.2.1, e28.2.2]
      have ea : j + 1 + s = j + s + 1 := by omega
      rw [ea] at s2
      refine ⟨o1.1, o1.2.1, o1.2.2.1, o1.2.2.2.1, fun p p0 p1 => ?_, fun k k0 k1 => ?_⟩
      · have e := s1.1 p p0 p1
        have f := s2.1 p p0 p1
        rw [e.1, e.2.1, e.2.2, f.1, f.2.1, f.2.2]
        exact o1.2.2.2.2.1 p p0 p1
      · rw [s1.2 k k0 k1, s2.2 k k0 k1]
        exact o1.2.2.2.2.2 k k0 k1
    · have hjn : j = n' - 1 := by omega
      have ej : j + s = M 66 54 := by omega
      have ej1 : j + 1 = n' := by omega
      rw [ej] at s1
      rw [ej1, hjn, h28n.1, h28n.2.1, h28n.2.2]
      rw [hjn] at s1
      refine ⟨hk.1, hk.2.1, hk.2.2.1, hk.2.2.2, fun p p0 p1 => ?_, fun k k0 k1 => ?_⟩
      · have e := s1.1 p p0 p1
        have f := Hn.1 p p0 p1
        have g := Sn.1 p p0 p1
        rw [e.1, e.2.1, e.2.2, f.1, f.2.1, f.2.2, g.1, g.2.1, g.2.2]
        exact hp p p0 p1
      · rw [s1.2 k k0 k1, Hn.2 k k0 k1, Sn.2 k k0 k1]
        exact hd k k0 k1
