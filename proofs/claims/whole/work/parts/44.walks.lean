/-! the class's walks and sights -/
theorem Ch_fr2 {g : Int} {H : Hal} {M M' : Mem} (hg : isG g) (e : ∀ q, 32 ≤ q → q ≤ 65 → M' q = M q) (h : Ch g H M) : Ch g H M' := by
  have hb : 32 ≤ g ∧ g ≤ 49 := by rcases hg with z | z <;> rw [z] <;> decide
  unfold Ch at h ⊢
  rw [e g (by omega) (by omega), e (g + 1) (by omega) (by omega), e (g + 2) (by omega) (by omega), e (g + 3) (by omega) (by omega), e (g + 4) (by omega) (by omega), e (g + 5) (by omega) (by omega), e (g + 6) (by omega) (by omega), e (g + 7) (by omega) (by omega), e (g + 8) (by omega) (by omega), e (g + 9) (by omega) (by omega), e (g + 10) (by omega) (by omega), e (g + 11) (by omega) (by omega), e (g + 12) (by omega) (by omega), e (g + 13) (by omega) (by omega), e (g + 14) (by omega) (by omega), e (g + 15) (by omega) (by omega)]
  exact h
theorem ix10 {p t : Int} (p0 : 0 ≤ p) (p1 : p < 9) (t0 : 0 ≤ t) (t1 : t < 201) : wr32 (wr32 (p * 201) + t) = 201 * p + t := by
  rw [wmu (a := p) (by omega) (by omega), wad (by omega) (by omega)]
  omega
theorem fw_lp {g : Int} {H : Hal} (hg : isG g) (ho : Hok H) {p : Int} (p0 : 0 ≤ p) (p1 : p < H 0 4) : ∀ (k t : Nat) (M : Mem), Ch g H M → t + 1 + k = 201 →
    (∀ q, q ≠ 10 → lmX7_fillWalk_28 g k p (wlk H p t) ((t + 1 : Nat) : Int) M q = M q) ∧ (∀ i : Int, (i < 201 * p + t + 1 ∨ 201 * p + 201 ≤ i) → lmX7_fillWalk_28 g k p (wlk H p t) ((t + 1 : Nat) : Int) M 10 i = M 10 i) ∧ (∀ s : Nat, t < s → s < 201 → lmX7_fillWalk_28 g k p (wlk H p t) ((t + 1 : Nat) : Int) M 10 (201 * p + s) = wlk H p s) := by
  have hb := ho.2.1
  intro k
  induction k with
  | zero =>
    intro t M _ h
    exact ⟨fun _ _ => rfl, fun _ _ => rfl, fun s a b => by omega⟩
  | succ k ih =>
    intro t M hc h
    have hf := wlk_fre ho p0 p1 t
    have e1 : wr32 (((t + 1 : Nat) : Int) - 1) = (t : Int) := by rw [wsu (by omega) (by omega)]; omega
    have e2 : (if (fX1_stepFrom M g (wlk H p t) (fX4_stepOf M g p (wr32 (((t + 1 : Nat) : Int) - 1)))) = (-1) then (wlk H p t) else (fX1_stepFrom M g (wlk H p t) (fX4_stepOf M g p (wr32 (((t + 1 : Nat) : Int) - 1))))) = wlk H p (t + 1) := by
      rw [e1, stepOf_c ho hc p0 p1 t (by omega), stp_c2 ho hc hf]
      rfl
    have e3 : wr32 (wr32 (p * 201) + ((t + 1 : Nat) : Int)) = 201 * p + (t + 1 : Nat) := ix10 p0 (by omega) (by omega) (by omega)
    obtain ⟨N, hN⟩ : ∃ m : Mem, m = mset M 10 (201 * p + (t + 1 : Nat)) (wlk H p (t + 1)) := ⟨_, rfl⟩
    have st : lmX7_fillWalk_28 g (k + 1) p (wlk H p t) ((t + 1 : Nat) : Int) M = lmX7_fillWalk_28 g k p (wlk H p (t + 1)) (((t + 1 : Nat) : Int) + 1) N := by
      rw [hN, ← rd_put (n := 1809) (by omega) (by omega), ← e3, ← e2]
      rfl
    have e4 : (((t + 1 : Nat) : Int) + 1) = ((t + 1 + 1 : Nat) : Int) := by omega
    have i1 := ih (t + 1) N (by rw [hN]; exact Ch_put hg hc _ _ (by omega)) (by omega)
    rw [st, e4]
    refine ⟨fun q hq => by rw [i1.1 q hq, hN, mset_p hq], fun i hi => ?_, fun s a b => ?_⟩
    · rw [i1.2.1 i (by omega), hN, mset_k (by omega)]
    · by_cases c : s = t + 1
      · rw [c, i1.2.1 _ (by omega), hN, mset_e]
      · exact i1.2.2 s (by omega) b
theorem fw {g : Int} {H : Hal} {M : Mem} (hg : isG g) (ho : Hok H) (hc : Ch g H M) {p : Int} (p0 : 0 ≤ p) (p1 : p < H 0 4) : (∀ q, q ≠ 10 → fmX7_fillWalk M g p q = M q) ∧ (∀ i : Int, (i < 201 * p ∨ 201 * p + 201 ≤ i) → fmX7_fillWalk M g p 10 i = M 10 i) ∧ (∀ s : Nat, s < 201 → fmX7_fillWalk M g p 10 (201 * p + s) = wlk H p s) := by
  have hb := ho.2.1
  have e0 : fX11_get M (g + 3) 9 p = wlk H p 0 := by
    rw [rd_get p0 (by omega)]
    exact (hc.2.2.2.2.1 p p0 p1).1
  have e1 : wr32 (p * 201) = 201 * p := by rw [wmu (by omega) (by omega)]; omega
  obtain ⟨N, hN⟩ : ∃ m : Mem, m = mset M 10 (201 * p) (wlk H p 0) := ⟨_, rfl⟩
  have st : fmX7_fillWalk M g p = lmX7_fillWalk_28 g 200 p (wlk H p 0) ((0 + 1 : Nat) : Int) N := by
    unfold fmX7_fillWalk
    rw [e0, e1, rd_put (by omega) (by omega), hN]
    rfl
  have i1 := fw_lp hg ho p0 p1 200 0 N (by rw [hN]; exact Ch_put hg hc _ _ (by omega)) (by omega)
  rw [st]
  refine ⟨fun q hq => by rw [i1.1 q hq, hN, mset_p hq], fun i hi => by rw [i1.2.1 i (by omega), hN, mset_k (by omega)], fun s hs => ?_⟩
  by_cases c : s = 0
  · subst c
    rw [i1.2.1 _ (by omega), hN, show 201 * p + ((0 : Nat) : Int) = 201 * p by omega, mset_e]
  · exact i1.2.2 s (by omega) hs
/-- the people that a guard sees, as bits -/
def smk (H : Hal) (c r : Int) (t : Nat) : Nat → Nat
  | 0 => 0
  | n + 1 => if far H c (wlk H n t) ≤ r then (smk H c r t n ||| 2 ^ n) else smk H c r t n
theorem smk_b (H : Hal) (c r : Int) (t : Nat) : ∀ n : Nat, smk H c r t n < 2 ^ n ∧ ∀ i : Nat, (smk H c r t n).testBit i = (decide (i < n) && decide (far H c (wlk H i t) ≤ r))
  | 0 => ⟨by show 0 < 1; decide, fun i => by show Nat.testBit 0 i = _; rw [Nat.zero_testBit]; simp⟩
  | n + 1 => by
    obtain ⟨h1, h2⟩ := smk_b H c r t n
    have h3 : 2 ^ n < 2 ^ (n + 1) := Nat.pow_lt_pow_right (by omega) (by omega)
    have e : smk H c r t (n + 1) = if far H c (wlk H n t) ≤ r then (smk H c r t n ||| 2 ^ n) else smk H c r t n := rfl
    have dec : ∀ i, i ≠ n → decide (i < n) = decide (i < n + 1) := by
      intro i b
      by_cases x : i < n
      · rw [decide_eq_true x, decide_eq_true (by omega)]
      · rw [decide_eq_false x, decide_eq_false (by omega)]
    rw [e]
    by_cases a : far H c (wlk H n t) ≤ r
    · rw [if_pos a]
      refine ⟨or_lt (by omega) h3, fun i => ?_⟩
      rw [Nat.testBit_or, h2, Nat.testBit_two_pow]
      by_cases b : i = n
      · subst b
        simp [a]
      · rw [dec i b, decide_eq_false (show ¬ n = i by omega), Bool.or_false]
    · rw [if_neg a]
      refine ⟨by omega, fun i => ?_⟩
      rw [h2]
      by_cases b : i = n
      · subst b
        simp [a]
      · rw [dec i b]
theorem wc_eq {H : Hal} {M : Mem} (ho : Hok H) {p : Int} {t : Nat} (p0 : 0 ≤ p) (p1 : p < H 0 4) (ht : t < 201) (hw : M 10 (201 * p + t) = wlk H p t) : fX7_walkCell M p t = wlk H p t := by
  have hb := ho.2.1
  unfold fX7_walkCell
  rw [ix10 p0 (by omega) (by omega) (by omega), rd_get (by omega) (by omega), hw]
theorem fs37 {g : Int} {H : Hal} {M : Mem} {t : Nat} {c r : Int} {K : Int → Mem → Prop} {Q : Int → Mem → Prop} (ho : Hok H) (hc : Ch g H M) (ht : t < 201) (hw : ∀ p, 0 ≤ p → p < H 0 4 → M 10 (201 * p + t) = wlk H p t) (hK : K (smk H c r t (H 0 4).toNat : Nat) M) : ∀ (k n : Nat), (n : Int) ≤ H 0 4 → H 0 4 < (n : Int) + k → PX7_fillSight_37 g (arn H c r (H 0 0 * H 0 1).toNat : Nat) t K Q k (smk H c r t n : Nat) n M := by
  have hb := ho.2.1
  intro k
  induction k with
  | zero => intro n a b; omega
  | succ k ih =>
    intro n a b
    refine ⟨fun z => ?_, fun z => ?_⟩
    · rw [hc.1.2.2.2.2.1] at z
      have : n = (H 0 4).toNat := by omega
      rw [this]
      exact hK
    · rw [hc.1.2.2.2.2.1] at z
      have hf := wlk_fre ho (p := n) (by omega) (by omega) t
      have ab := arn_bit ho c r hf.1 hf.2.1
      have sb := smk_b H c r t n
      have h1 : 2 ^ n ≤ 2 ^ 9 := Nat.pow_le_pow_right (by omega) (by omega)
      rw [wc_eq ho (by omega) (by omega) ht (hw n (by omega) (by omega)), wad (a := (n : Int)) (by omega) (by omega)]
      have e2 : (if (m_cmp (m_land (m_lshr ((arn H c r (H 0 0 * H 0 1).toNat : Nat) : Int) (wlk H n t)) 1) 1) = 0 then (m_or ((smk H c r t n : Nat) : Int) (m_shl 1 n)) else ((smk H c r t n : Nat) : Int)) = ((smk H c r t (n + 1) : Nat) : Int) := by
        show _ = (((if far H c (wlk H n t) ≤ r then (smk H c r t n ||| 2 ^ n) else smk H c r t n) : Nat) : Int)
        by_cases x : far H c (wlk H n t) ≤ r
        · rw [if_pos (ab.mpr x), if_pos x, or_bit sb.1 (by omega)]
        · rw [if_neg (fun y => x (ab.mp y)), if_neg x]
      rw [e2]
      have e3 : ((n : Int) + 1) = ((n + 1 : Nat) : Int) := by omega
      rw [e3]
      exact ih (n + 1) (by omega) (by omega)
theorem fs25 {g : Int} {H : Hal} {gd c r : Int} {u : Nat} {K : Mem → Prop} {Q : Int → Mem → Prop} (hg : isG g) (ho : Hok H) (g0 : 0 ≤ gd) (g1 : gd < 4) (hu : u ≤ 201) : ∀ (k t : Nat) (M : Mem), Ch g H M → (∀ p, 0 ≤ p → p < H 0 4 → ∀ s : Nat, s < u → M 10 (201 * p + s) = wlk H p s) → t ≤ u → u < t + k →
    (∀ M' : Mem, (∀ q, q ≠ 11 → M' q = M q) → (∀ i : Int, (i < 201 * gd + t ∨ 201 * gd + u ≤ i) → M' 11 i = M 11 i) → (∀ s : Nat, t ≤ s → s < u → M' 11 (201 * gd + s) = (smk H c r s (H 0 4).toNat : Nat)) → K M') →
    PX7_fillSight_25 g gd u (arn H c r (H 0 0 * H 0 1).toNat : Nat) K Q k t M := by
  have hb := ho.2.1
  intro k
  induction k with
  | zero => intro t M _ _ a b; omega
  | succ k ih =>
    intro t M hc hw a b hK
    refine ⟨fun z => hK M (fun _ _ => rfl) (fun _ _ => rfl) (fun s x y => by omega), fun z => ⟨10, ?_⟩⟩
    have f := fs37 (g := g) (M := M) (t := t) (c := c) (r := r) (Q := Q) (K := fun u3 M4 => (∀ M7 : Mem, M7 = (fmX11_put M4 11 804 (wr32 ((wr32 (gd * 201)) + (t : Int))) u3) → PX7_fillSight_25 g gd u (arn H c r (H 0 0 * H 0 1).toNat : Nat) K Q k (wr32 ((t : Int) + 1)) M7)) ho hc (by omega) (fun p x y => hw p x y t (by omega)) ?_ 10 0 (by omega) (by omega)
    · exact f
    · intro M7 hM7
      rw [ix10 g0 (by omega) (by omega) (by omega), rd_put (by omega) (by omega)] at hM7
      rw [wad (a := (t : Int)) (by omega) (by omega)]
      have e3 : ((t : Int) + 1) = ((t + 1 : Nat) : Int) := by omega
      rw [e3]
      refine ih (t + 1) M7 (by rw [hM7]; exact Ch_put hg hc _ _ (by omega)) (fun p x y s hs => by rw [hM7, mset_o (by decide)]; exact hw p x y s hs) (by omega) (by omega) (fun M' f1 f2 f3 => hK M' (fun q hq => by rw [f1 q hq, hM7, mset_p hq]) (fun i hi => by rw [f2 i (by omega), hM7, mset_k (by omega)]) (fun s x y => ?_))
      by_cases d : s = t
      · rw [d, f2 _ (by omega), hM7, mset_e]
      · exact f3 s (by omega) y
theorem fsight {g : Int} {H : Hal} {M : Mem} {gd : Int} {u : Nat} {Q : Int → Mem → Prop} (hg : isG g) (ho : Hok H) (hc : Ch g H M) (g0 : 0 ≤ gd) (g1 : gd < H 0 3) (hu : u ≤ 201) (hw : ∀ p, 0 ≤ p → p < H 0 4 → ∀ s : Nat, s < u → M 10 (201 * p + s) = wlk H p s)
    (hQ : ∀ M' : Mem, (∀ q, q ≠ 11 → M' q = M q) → (∀ i : Int, (i < 201 * gd ∨ 201 * gd + u ≤ i) → M' 11 i = M 11 i) → (∀ s : Nat, s < u → M' 11 (201 * gd + s) = (smk H (H 4 gd) (H 5 gd) s (H 0 4).toNat : Nat)) → Q 0 M') : PX7_fillSight g gd u M Q := by
  have hb := ho.2.1
  have c4 := hc.2.2.2.1 gd g0 g1
  have o4 := ho.2.2.2.2.2.1 gd g0 g1
  have fb := fre_b ho o4.1
  intro a4 ha4
  rw [rd_get g0 (by omega), rd_get g0 (by omega), c4.1, c4.2.1, arn_c ho hc (by omega) (by omega)] at ha4
  rw [ha4]
  refine ⟨202, ?_⟩
  have f := fs25 (g := g) (c := H 4 gd) (r := H 5 gd) (Q := Q) (K := fun M6 => Q 0 M6) (u := u) hg ho g0 (by omega) hu 202 0 M hc hw (by omega) (by omega) (fun M' f1 f2 f3 => hQ M' f1 (fun i hi => f2 i (by omega)) (fun s hs => f3 s (by omega) hs))
  exact f
theorem smk_ok {H : Hal} (ho : Hok H) (c r : Int) (s : Nat) : 0 ≤ ((smk H c r s (H 0 4).toNat : Nat) : Int) ∧ ((smk H c r s (H 0 4).toNat : Nat) : Int) < 2 ^ (H 0 4).toNat ∧ ∀ p, 0 ≤ p → p < H 0 4 → bt (smk H c r s (H 0 4).toNat : Nat) p = decide (far H c (wlk H p s) ≤ r) := by
  have sb := smk_b H c r s (H 0 4).toNat
  have e : (2 : Int) ^ (H 0 4).toNat = ((2 ^ (H 0 4).toNat : Nat) : Int) := by norm_cast
  refine ⟨by omega, by rw [e]; omega, fun p p0 p1 => ?_⟩
  unfold bt
  rw [Int.toNat_natCast, sb.2, decide_eq_true (by omega : p.toNat < (H 0 4).toNat), Bool.true_and, Int.toNat_of_nonneg p0]
theorem prep {g : Int} {H : Hal} {M : Mem} {Q : Int → Mem → Prop} (hg : isG g) (ho : Hok H) (hc : Ch g H M) (hQ : ∀ M' : Mem, (∀ q, q ≠ 10 → q ≠ 11 → M' q = M q) → wOK H M' → Q 0 M') : PX7_prepare g M Q := by
  have hb := ho.2.1
  have l2 : ∀ (k n : Nat) (N : Mem), (∀ q, q ≠ 10 → q ≠ 11 → N q = M q) → (∀ p, 0 ≤ p → p < H 0 4 → ∀ t : Nat, t < 201 → N 10 (201 * p + t) = wlk H p t) → (∀ gd : Int, 0 ≤ gd → gd < n → ∀ s : Nat, s < 201 → N 11 (201 * gd + s) = (smk H (H 4 gd) (H 5 gd) s (H 0 4).toNat : Nat)) → (n : Int) ≤ H 0 3 → H 0 3 < (n : Int) + k → PX7_prepare_27 g (fun M5 => Q 0 M5) Q k n N := by
    intro k
    induction k with
    | zero => intro n N _ _ _ a b; omega
    | succ k ih =>
      intro n N f1 f2 f3 a b
      have hcN : Ch g H N := Ch_fr2 hg (fun q x y => f1 q (by omega) (by omega)) hc
      refine ⟨fun z => ?_, fun z => ?_⟩
      · rw [hcN.1.2.2.2.1] at z
        refine hQ N f1 ⟨f2, fun gd x y t ht => ?_⟩
        rw [f3 gd x (by omega) t ht]
        exact smk_ok ho _ _ t
      · rw [hcN.1.2.2.2.1] at z
        refine fsight (u := 201) hg ho hcN (by omega) (by omega) (by omega) f2 (fun N' e1 e2 e3 => ?_)
        rw [wad (a := (n : Int)) (by omega) (by omega)]
        have e4 : ((n : Int) + 1) = ((n + 1 : Nat) : Int) := by omega
        rw [e4]
        refine ih (n + 1) N' (fun q x y => by rw [e1 q y, f1 q x y]) (fun p x y t ht => by rw [e1 10 (by decide)]; exact f2 p x y t ht) (fun gd x y s hs => ?_) (by omega) (by omega)
        by_cases c : gd = n
        · rw [c]; exact e3 s hs
        · rw [e2 _ (by omega)]
          exact f3 gd x (by omega) s hs
  have l1 : ∀ (k n : Nat) (N : Mem), (∀ q, q ≠ 10 → q ≠ 11 → N q = M q) → (∀ p : Int, 0 ≤ p → p < n → ∀ t : Nat, t < 201 → N 10 (201 * p + t) = wlk H p t) → (n : Int) ≤ H 0 4 → H 0 4 < (n : Int) + k → PX7_prepare_2 g (fun M2 => (∃ k4 : Nat, PX7_prepare_27 g (fun M5 => Q 0 M5) Q k4 0 M2)) Q k n N := by
    intro k
    induction k with
    | zero => intro n N _ _ a b; omega
    | succ k ih =>
      intro n N f1 f2 a b
      have hcN : Ch g H N := Ch_fr2 hg (fun q x y => f1 q (by omega) (by omega)) hc
      refine ⟨fun z => ?_, fun z => ?_⟩
      · rw [hcN.1.2.2.2.2.1] at z
        have := l2 5 0 N f1 (fun p x y t ht => f2 p x (by omega) t ht) (fun gd x y => by omega) (by omega) (by omega)
        exact ⟨5, this⟩
      · rw [hcN.1.2.2.2.2.1] at z
        intro M3 hM3
        have w := fw hg ho hcN (p := n) (by omega) (by omega)
        rw [← hM3] at w
        rw [wad (a := (n : Int)) (by omega) (by omega)]
        have e4 : ((n : Int) + 1) = ((n + 1 : Nat) : Int) := by omega
        rw [e4]
        refine ih (n + 1) M3 (fun q x y => by rw [w.1 q x, f1 q x y]) (fun p x y t ht => ?_) (by omega) (by omega)
        by_cases c : p = n
        · rw [c]; exact w.2.2 t ht
        · rw [w.2.1 _ (by omega)]
          exact f2 p x (by omega) t ht
  exact ⟨10, l1 10 0 M (fun _ _ _ => rfl) (fun p x y => by omega) (by omega) (by omega)⟩
theorem fresh_w {h : Int} {H : Hal} {M : Mem} {Q : Int → Mem → Prop} (hg : isG h) (ho : Hok H) (hc : Ch h H M) (hW : M 0 16 = 0 → wOK H M) (hQ : ∀ M' : Mem, (∀ q, q ≠ 10 → q ≠ 11 → q ≠ 0 → M' q = M q) → (∀ j, j ≠ 16 → M' 0 j = M 0 j) → M' 0 16 = 0 → wOK H M' → Q 0 M') : PX11_freshWalks h M Q := by
  refine ⟨fun z => hQ M (fun _ _ _ _ => rfl) (fun _ _ => rfl) z (hW z), fun z => ?_⟩
  refine prep hg ho hc (fun M' f1 f2 => ?_)
  intro M6 hM6
  refine hQ M6 (fun q a b c => by rw [hM6, mset_p c, f1 q a b]) (fun j hj => by rw [hM6, mset_k hj, f1 0 (by decide) (by decide)]) (by rw [hM6, mset_e]) ?_
  unfold wOK at f2 ⊢
  rw [hM6, mset_p (by decide), mset_p (by decide)]
  exact f2
