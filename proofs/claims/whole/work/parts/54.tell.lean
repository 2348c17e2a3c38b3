/-! the morning is told -/
theorem bt_hi {H : Hal} {C p : Int} (C0 : 0 ≤ C) (C1 : C < 2 ^ (H 0 4).toNat) (hp : 0 ≤ p) (h : H 0 4 ≤ p) : bt C p = false := by
  rw [two_pow_int] at C1
  unfold bt
  exact Nat.testBit_lt_two_pow (Nat.lt_of_lt_of_le (by omega : C.toNat < 2 ^ (H 0 4).toNat) (Nat.pow_le_pow_right (by omega) (by omega)))
theorem doing_b {H : Hal} {C p t : Int} : (bt C p = false ∧ doing H C p t = 0) ∨ (bt C p = true ∧ (doing H C p t = 1 ∨ doing H C p t = 2 ∨ doing H C p t = 3 ∨ doing H C p t = 4)) := by
  unfold doing
  cases hx : bt C p with
  | false => exact Or.inl ⟨rfl, by simp⟩
  | true =>
    refine Or.inr ⟨rfl, ?_⟩
    rw [if_neg (by decide)]
    by_cases a : oo H C p = -1 ∨ t < oo H C p
    · rw [if_pos a]; exact Or.inl rfl
    rw [if_neg a]
    by_cases b : t < oo H C p + H 0 6
    · rw [if_pos b]; exact Or.inr (Or.inl rfl)
    rw [if_neg b]
    by_cases c : gout H C p = -1 ∨ t < gout H C p
    · rw [if_pos c]; exact Or.inr (Or.inr (Or.inl rfl))
    · rw [if_neg c]; exact Or.inr (Or.inr (Or.inr rfl))
def onw (w : Int) : Int := if w = 0 then 2 else if w = 1 then 1 else if w = 2 then 3 else 4
theorem many_w {H : Hal} {C : Int} (ho : Hok H) (C0 : 0 ≤ C) (C1 : C < 2 ^ (H 0 4).toNat) {w t : Int} (w0 : 0 ≤ w) (w1 : w ≤ 3) : cnt (fun p => bt C p && decide (onc (doing H C p t) = w)) 9 = many H C (onw w) t := by
  have hb := ho.2.1
  have e := cnt_ext (f := fun p => bt C p && decide (onc (doing H C p t) = w)) (n := (H 0 4).toNat) (9 - (H 0 4).toNat) (fun i a b => by
    show (bt C i && _) = false
    rw [bt_hi C0 C1 (by omega) (by omega), Bool.false_and])
  rw [show (H 0 4).toNat + (9 - (H 0 4).toNat) = 9 by omega] at e
  rw [e]
  unfold many
  refine cnt_c _ (fun i a b => ?_)
  have hw : w = 0 ∨ w = 1 ∨ w = 2 ∨ w = 3 := by omega
  rcases doing_b (H := H) (C := C) (p := i) (t := t) with ⟨h1, h2⟩ | ⟨h1, h2⟩
  · rw [h1, h2, Bool.false_and]
    rcases hw with rfl | rfl | rfl | rfl <;> rfl
  · rw [h1, Bool.true_and]
    rcases h2 with h2 | h2 | h2 | h2 <;> rw [h2] <;> rcases hw with rfl | rfl | rfl | rfl <;> rfl
def tST (H : Hal) (C : Int) (B : Mem) (n : Nat) (M : Mem) : Prop :=
  (∀ q, (q < 17 ∨ 22 < q) → M q = B q) ∧
  (∀ p : Int, 0 ≤ p → p < n → M 19 p = oo H C p ∧ M 20 p = hw H C p ∧ M 21 p = (if bt C p then gout H C p else -1) ∧ M 22 p = (if bt C p then godr H C p else -1)) ∧
  (∀ p : Int, 0 ≤ p → p < n → bt C p = true → ∀ t : Nat, t < 201 → M 17 (201 * p + t) = valf H C p t) ∧
  (∀ w, 0 ≤ w → w ≤ 3 → ∀ t : Nat, t < 201 → M 18 (201 * w + t) = cnt (fun p => bt C p && decide (onc (doing H C p t) = w)) n)
theorem tl_1 {g : Int} {H : Hal} {C : Int} {B : Mem} (hg : isG g) (ho : Hok H) (hc : Ch g H B) (C0 : 0 ≤ C) (C1 : C < 2 ^ (H 0 4).toNat) (b8 : B 16 8 = C) (b9 : B 16 9 = H 0 6) (b13 : ∀ p, 0 ≤ p → p < 9 → B 13 p = oo H C p ∧ B 15 p = hw H C p)
    (h23 : ∀ c, 0 ≤ c → c < 54 → B 23 c = if dst H c = 1000 then -1 else dst H c) (h10 : ∀ p, 0 ≤ p → p < H 0 4 → ∀ s : Nat, s < 201 → B 10 (201 * p + s) = wlk H p s) {n : Nat} (hn : n < 9) {M N : Mem} (h : tST H C B n M) (q : Int) (hq : q = n) (hN : N = mset (mset (mset (mset M 19 q (oo H C q)) 20 q (hw H C q)) 21 q (-1)) 22 q (-1)) :
    (bt C q = false → tST H C B (n + 1) N) ∧ (bt C q = true → tST H C B (n + 1) (fmX3_follow N g q)) := by
  have hb := ho.2.1
  have h1' : 2 ^ (H 0 4).toNat ≤ 2 ^ 9 := Nat.pow_le_pow_right (by omega) (by omega)
  have C512 : C < 512 := by
    rw [two_pow_int] at C1
    omega
  obtain ⟨h1, h2, h3, h4⟩ := h
  have fN : ∀ r, r ≠ 19 → r ≠ 20 → r ≠ 21 → r ≠ 22 → N r = M r := fun r a b c d => by rw [hN, mset_p d, mset_p c, mset_p b, mset_p a]
  have kN : ∀ r j, j ≠ q → N r j = M r j := fun r j hj => by
    rw [hN, ms, ms, ms, ms, if_neg (fun z => hj z.2), if_neg (fun z => hj z.2), if_neg (fun z => hj z.2), if_neg (fun z => hj z.2)]
  have n19 : N 19 q = oo H C q := by rw [hN, mset_o (by decide), mset_o (by decide), mset_o (by decide), mset_e]
  have n20 : N 20 q = hw H C q := by rw [hN, mset_o (by decide), mset_o (by decide), mset_e]
  have n21 : N 21 q = -1 := by rw [hN, mset_o (by decide), mset_e]
  have n22 : N 22 q = -1 := by rw [hN, mset_e]
  have fB : ∀ r, (r < 17 ∨ 22 < r) → N r = B r := fun r a => by rw [fN r (by omega) (by omega) (by omega) (by omega), h1 r a]
  refine ⟨fun hx => ?_, fun hx => ?_⟩
  · refine ⟨fB, fun p a b => ?_, fun p a b c t ht => ?_, fun w a b t ht => ?_⟩
    · by_cases e : p = q
      · rw [e, n19, n20, n21, n22, hx]
        exact ⟨rfl, rfl, rfl, rfl⟩
      · rw [kN 19 p e, kN 20 p e, kN 21 p e, kN 22 p e]
        exact h2 p a (by omega)
    · have e : p ≠ q := fun z => by rw [z, hx] at c; cases c
      rw [fN 17 (by decide) (by decide) (by decide) (by decide)]
      exact h3 p a (by omega) c t ht
    · rw [fN 18 (by decide) (by decide) (by decide) (by decide), h4 w a b t ht]
      show _ = cnt (fun p => bt C p && decide (onc (doing H C p t) = w)) n + (if (bt C n && decide (onc (doing H C n t) = w)) = true then 1 else 0)
      rw [← hq, hx, Bool.false_and]
      rw [if_neg (by decide), Int.add_zero]
  · have qP : q < H 0 4 := by
      refine Classical.byContradiction (fun z => ?_)
      rw [bt_hi C0 C1 (by omega) (by omega)] at hx
      cases hx
    have f := fol (B := N) (C := C) (p := q) hg ho (Ch_fr2 hg (fun r a b => fB r (by omega)) hc) (by omega) qP C0 C512 hx (by rw [fB 16 (by omega)]; exact b8) (by rw [fB 16 (by omega)]; exact b9) n19 n21 n22 (fun c a b => by rw [fB 23 (by omega)]; exact h23 c a b) (fun s hs => by rw [fB 10 (by omega)]; exact h10 q (by omega) qP s hs) (fun i i0 i1 => by
      rw [fN 18 (by decide) (by decide) (by decide) (by decide)]
      have := h4 (i / 201) (by omega) (by omega) (i % 201).toNat (by omega)
      rw [show 201 * (i / 201) + (((i % 201).toNat : Nat) : Int) = i by omega] at this
      rw [this]
      have b := cnt_b (fun p => bt C p && decide (onc (doing H C p ((i % 201).toNat : Nat)) = i / 201)) n
      omega)
    obtain ⟨g1, g2, g3, g4, g5, g6⟩ := f
    have gs : gout H C q ≠ -1 → gout H C q < ((201 : Nat) : Int) := fun z => by
      by_cases y : oo H C q = -1
      · unfold gout at z
        rw [if_pos y] at z
        exact absurd rfl z
      · rcases gout_s ho y with u | u
        · exact absurd u.1 z
        · omega
    refine ⟨fun r a => by rw [g1 r (by omega) (by omega) (by omega) (by omega), fB r a], fun p a b => ?_, fun p a b c t ht => ?_, fun w a b t ht => ?_⟩
    · rw [g1 19 (by decide) (by decide) (by decide) (by decide), g1 20 (by decide) (by decide) (by decide) (by decide)]
      by_cases e : p = q
      · rw [e, n19, n20, g3.1, g3.2, if_pos hx, if_pos hx]
        refine ⟨rfl, rfl, ?_, ?_⟩
        · by_cases z : gout H C q = -1
          · rw [if_neg (fun y => y.1 z), z]
          · rw [if_pos ⟨z, gs z⟩]
        · by_cases z : gout H C q = -1
          · rw [if_neg (fun y => y.1 z)]
            unfold godr
            rw [if_pos z]
          · rw [if_pos ⟨z, gs z⟩]
      · rw [kN 19 p e, kN 20 p e, (g2 p e).1, (g2 p e).2, kN 21 p e, kN 22 p e]
        exact h2 p a (by omega)
    · by_cases e : p = q
      · rw [e]
        exact g4 t ht
      · rw [g5 _ (by omega), fN 17 (by decide) (by decide) (by decide) (by decide)]
        exact h3 p a (by omega) c t ht
    · rw [g6 w a b t ht, fN 18 (by decide) (by decide) (by decide) (by decide), h4 w a b t ht]
      show _ = cnt (fun p => bt C p && decide (onc (doing H C p t) = w)) n + (if (bt C n && decide (onc (doing H C n t) = w)) = true then 1 else 0)
      rw [← hq, hx, Bool.true_and]
      congr 1
      by_cases d : onc (doing H C q t) = w
      · rw [if_pos ⟨ht, d⟩, if_pos (decide_eq_true d)]
      · rw [if_neg (fun z => d z.2), if_neg (fun z => d (of_decide_eq_true z))]
theorem tl71 {g : Int} {H : Hal} {C : Int} {B : Mem} {K : Mem → Prop} {Q : Int → Mem → Prop} (hg : isG g) (ho : Hok H) (hc : Ch g H B) (C0 : 0 ≤ C) (C1 : C < 2 ^ (H 0 4).toNat) (b8 : B 16 8 = C) (b9 : B 16 9 = H 0 6) (b13 : ∀ p, 0 ≤ p → p < 9 → B 13 p = oo H C p ∧ B 15 p = hw H C p)
    (h23 : ∀ c, 0 ≤ c → c < 54 → B 23 c = if dst H c = 1000 then -1 else dst H c) (h10 : ∀ p, 0 ≤ p → p < H 0 4 → ∀ s : Nat, s < 201 → B 10 (201 * p + s) = wlk H p s) (hK : ∀ M, tST H C B 9 M → K M) : ∀ (k n : Nat) (M : Mem), n ≤ 9 → 9 < n + k → tST H C B n M → PX3_tell_71 g K Q k n M := by
  have hb := ho.2.1
  have h1' : 2 ^ (H 0 4).toNat ≤ 2 ^ 9 := Nat.pow_le_pow_right (by omega) (by omega)
  have C512 : C < 512 := by
    rw [two_pow_int] at C1
    omega
  intro k
  induction k with
  | zero => intro n M a b; omega
  | succ k ih =>
    intro n M a b h
    refine ⟨fun z => hK M (by have : n = 9 := (by omega); rw [← this]; exact h), fun z => ?_⟩
    intro M4 h4 M7 h7 M9 h9 M11 h11
    have m13 : fX11_get M 13 9 (n : Int) = oo H C n := by
      rw [rd_get (by omega) (by omega), h.1 13 (by omega)]
      exact (b13 n (by omega) (by omega)).1
    rw [m13, rd_put (by omega) (by omega)] at h4
    have m15 : fX11_get M4 15 9 (n : Int) = hw H C n := by
      rw [rd_get (by omega) (by omega), h4, mset_o (by decide), h.1 15 (by omega)]
      exact (b13 n (by omega) (by omega)).2
    rw [m15, rd_put (by omega) (by omega)] at h7
    rw [rd_put (by omega) (by omega)] at h9 h11
    have t1 := tl_1 (N := M11) hg ho hc C0 C1 b8 b9 b13 h23 h10 (n := n) (by omega) h n rfl (by rw [h11, h9, h7, h4])
    have m16 : M11 16 8 = C := by
      rw [h11, mset_o (by decide), h9, mset_o (by decide), h7, mset_o (by decide), h4, mset_o (by decide), h.1 16 (by omega)]
      exact b8
    rw [m16, hasBit_eq C0 (by omega) (by omega) (by omega), wad (a := (n : Int)) (by omega) (by omega)]
    have e3 : ((n : Int) + 1) = ((n + 1 : Nat) : Int) := by omega
    rw [e3]
    refine ⟨fun y => ?_, fun y => ?_⟩
    · have : bt C n = false := by
        cases hx : bt C n with
        | false => rfl
        | true => rw [if_pos hx] at y; cases y
      exact ih (n + 1) M11 (by omega) (by omega) (t1.1 this)
    · intro M15 h15
      have : bt C n = true := by
        cases hx : bt C n with
        | true => rfl
        | false => rw [if_neg (by rw [hx]; decide)] at y; exact absurd rfl y
      rw [h15]
      exact ih (n + 1) _ (by omega) (by omega) (t1.2 this)
theorem tl39 {K : Mem → Prop} {Q : Int → Mem → Prop} : ∀ (k n : Nat) (M : Mem), n ≤ 804 → 804 < n + k → (∀ M' : Mem, (∀ q, q ≠ 18 → M' q = M q) → (∀ i : Int, n ≤ i → i < 804 → M' 18 i = 0) → (∀ i : Int, i < n → M' 18 i = M 18 i) → K M') → PX3_tell_39 K Q k n M := by
  intro k
  induction k with
  | zero => intro n M a b; omega
  | succ k ih =>
    intro n M a b hK
    refine ⟨fun z => hK M (fun _ _ => rfl) (fun i x y => by omega) (fun _ _ => rfl), fun z => ⟨by omega, by omega, ?_⟩⟩
    intro M3 h3
    rw [wad (a := (n : Int)) (by omega) (by omega)]
    have e3 : ((n : Int) + 1) = ((n + 1 : Nat) : Int) := by omega
    rw [e3]
    refine ih (n + 1) M3 (by omega) (by omega) (fun M' f1 f2 f3 => hK M' (fun q x => by rw [f1 q x, h3, mset_p x]) (fun i x y => ?_) (fun i x => by rw [f3 i (by omega), h3, mset_k (by omega)]))
    by_cases e : i = n
    · rw [e, f3 _ (by omega), h3, mset_e]
    · exact f2 i (by omega) y
theorem tell_s {g : Int} {H : Hal} {C : Int} {M : Mem} {Q : Int → Mem → Prop} (hg : isG g) (ho : Hok H) (C0 : 0 ≤ C) (C1 : C < 2 ^ (H 0 4).toNat) (hc : Ch g H M) (hn : nOK g H M) (hwk : wOK H M)
    (hQ : ∀ M' : Mem, (∀ q, (q < 9 ∨ q = 10 ∨ q = 11 ∨ 24 < q) → M' q = M q) → (∀ j, (j < 8 ∨ 11 < j) → M' 16 j = M 16 j) → (∀ j, j < 6 ∨ 10 < j → M' 9 j = M 9 j) → mOK H C M' → Q 0 M') : PX3_tell g C M Q := by
  have hb := ho.2.1
  refine run_s hg ho C0 C1 hc hn hwk (fun M2 f1 f2 f3 => ?_)
  obtain ⟨r1, r2, r3, r4⟩ := f3
  have r13 := (r4 rfl).1
  intro M5 h5 M7 h7 M9 h9 M11 h11
  have c2 : Ch g H M2 := Ch_fr2 hg (fun q a b => f1 q (by omega) (by omega) (by omega) (by omega) (by omega)) hc
  have hh2 : 32 ≤ g ∧ g ≤ 49 := by rcases hg with z | z <;> rw [z] <;> decide
  have g15 : M5 g 15 = H 0 6 := by
    rw [h5, mset_o (by omega)]
    exact c2.1.2.2.2.2.2.2.1
  have a9 : M7 9 9 = alrm H C := by rw [h7, mset_o (by decide), h5, mset_o (by decide), r1]
  have a10 : M9 9 10 = algd H C := by rw [h9, mset_o (by decide), h7, mset_o (by decide), h5, mset_o (by decide), r2]
  rw [g15] at h7
  rw [a9] at h9
  rw [a10] at h11
  have q11 : ∀ q, q ≠ 16 → M11 q = M2 q := fun q a => by rw [h11, mset_p a, h9, mset_p a, h7, mset_p a, h5, mset_p a]
  refine ⟨805, tl39 805 0 M11 (by omega) (by omega) (fun M13 e1 e2 _ => ?_)⟩
  have c13 : Ch g H M13 := Ch_fr2 hg (fun q a b => by rw [e1 q (by omega), q11 q (by omega)]) c2
  refine fways hg ho c13 (fun M16 g1 g2 => ?_)
  have qq : ∀ q, q ≠ 16 → q ≠ 18 → q ≠ 23 → q ≠ 24 → M16 q = M2 q := fun q a b c d => by rw [g1 q c d, e1 q b, q11 q a]
  have q16 : M16 16 = M11 16 := by rw [g1 16 (by decide) (by decide), e1 16 (by decide)]
  have v8 : M16 16 8 = C := by rw [q16, h11, mset_k (by decide), h9, mset_k (by decide), h7, mset_k (by decide), h5, mset_e]
  have v9 : M16 16 9 = H 0 6 := by rw [q16, h11, mset_k (by decide), h9, mset_k (by decide), h7, mset_e]
  have v10 : M16 16 10 = alrm H C := by rw [q16, h11, mset_k (by decide), h9, mset_e]
  have v11 : M16 16 11 = algd H C := by rw [q16, h11, mset_e]
  have c16 : Ch g H M16 := Ch_fr2 hg (fun q a b => g1 q (by omega) (by omega)) c13
  have t0 : tST H C M16 0 M16 := by
    refine ⟨fun _ _ => rfl, fun p a b => by omega, fun p a b => by omega, fun w a b t ht => ?_⟩
    rw [g1 18 (by decide) (by decide), e2 _ (by omega) (by omega)]
    rfl
  refine ⟨10, tl71 (B := M16) hg ho c16 C0 C1 v8 v9 (fun p a b => by rw [qq 13 (by decide) (by decide) (by decide) (by decide), qq 15 (by decide) (by decide) (by decide) (by decide)]; exact r13 p a b) g2 (fun p a b s hs => by rw [qq 10 (by decide) (by decide) (by decide) (by decide), f1 10 (by decide) (by decide) (by decide) (by decide) (by decide)]; exact hwk.1 p a b s hs) (fun M19 ht => ?_) 10 0 M16 (by omega) (by omega) t0⟩
  obtain ⟨t1, t2, t3, t4⟩ := ht
  refine hQ M19 (fun q a => by rw [t1 q (by omega), qq q (by omega) (by omega) (by omega) (by omega), f1 q (by omega) (by omega) (by omega) (by omega) (by omega)]) (fun j a => ?_) (fun j a => ?_) ?_
  · rw [t1 16 (by omega), q16, h11, mset_k (by omega), h9, mset_k (by omega), h7, mset_k (by omega), h5, mset_k (by omega), f1 16 (by decide) (by decide) (by decide) (by decide) (by decide)]
  · rw [t1 9 (by omega), qq 9 (by decide) (by decide) (by decide) (by decide), f2 j a]
  · refine ⟨by rw [t1 16 (by omega), v8], by rw [t1 16 (by omega), v9], by rw [t1 16 (by omega), v10], by rw [t1 16 (by omega), v11], fun p a b => t2 p a (by omega), fun p a b c t ht => t3 p a (by omega) c t ht, fun t ht => ?_⟩
    have w0 := t4 0 (by omega) (by omega) t ht
    have w1 := t4 1 (by omega) (by omega) t ht
    have w2 := t4 2 (by omega) (by omega) t ht
    have w3 := t4 3 (by omega) (by omega) t ht
    rw [many_w ho C0 C1 (by omega) (by omega)] at w0 w1 w2 w3
    exact ⟨w0, w1, w2, w3⟩
theorem fresh_m {h : Int} {H : Hal} {M : Mem} {Q : Int → Mem → Prop} (hg : isG h) (ho : Hok H) (hc : Ch h H M) (hC : iC H M) (hW : iW h H M) (hQ : ∀ M' : Mem, (∀ q, q ≠ 0 → (q < 9 ∨ 24 < q) → M' q = M q) → (∀ j, j ≠ 16 → j ≠ 17 → M' 0 j = M 0 j) → (∀ j, (j < 8 ∨ 11 < j) → M' 16 j = M 16 j) → (∀ j, j < 6 ∨ 10 < j → M' 9 j = M 9 j) → iW h H M' → mOK H (M 0 12) M' → Q 0 M') : PX11_freshMorning h M Q := by
  obtain ⟨w1, w2, w3, w4, w5⟩ := hW
  refine ⟨fun z => hQ M (fun _ _ _ => rfl) (fun _ _ _ => rfl) (fun _ _ => rfl) (fun _ _ => rfl) ⟨w1, w2, w3, w4, w5⟩ (w5 z), fun z => ?_⟩
  refine fresh_w hg ho hc w4 (fun M3 f1 f2 f3 f4 => ?_)
  have hh2 : 32 ≤ h ∧ h ≤ 49 := by rcases hg with z | z <;> rw [z] <;> decide
  have c3 : Ch h H M3 := Ch_fr2 hg (fun q a b => f1 q (by omega) (by omega) (by omega)) hc
  have n3 : nOK h H M3 := by
    unfold nOK fX1_isNear at w3 ⊢
    rw [f1 (h + 16) (by omega) (by omega) (by omega)]
    exact w3
  have e12 : M3 0 12 = M 0 12 := f2 12 (by decide)
  rw [e12]
  refine tell_s hg ho hC.2.1 hC.2.2 c3 n3 f4 (fun M6 g1 g2 g3 g4 => ?_)
  intro M9 h9
  have q9 : ∀ q, q ≠ 0 → M9 q = M6 q := fun q a => by rw [h9, mset_p a]
  have q69 : ∀ q, q ≠ 0 → (q < 9 ∨ 24 < q) → M9 q = M q := fun q a b => by rw [q9 q a, g1 q (by omega), f1 q (by omega) (by omega) a]
  have z0 : ∀ j, j ≠ 17 → M9 0 j = M3 0 j := fun j a => by rw [h9, mset_k a, g1 0 (by omega)]
  refine hQ M9 q69 (fun j a b => by rw [z0 j b, f2 j a]) (fun j a => by rw [q9 16 (by decide), g2 j a, f1 16 (by decide) (by decide) (by decide)]) (fun j a => by rw [q9 9 (by decide), g3 j a, f1 9 (by decide) (by decide) (by decide)]) ?_ ?_
  · have e16 : M9 0 16 = 0 := by rw [z0 16 (by decide), f3]
    have e17 : M9 0 17 = 0 := by rw [h9, mset_e]
    refine ⟨Or.inl e16, Or.inl e17, ?_, fun _ => ?_, fun _ => ?_⟩
    · unfold nOK fX1_isNear at w3 ⊢
      rw [q69 (h + 16) (by omega) (by omega)]
      exact w3
    · unfold wOK at f4 ⊢
      rw [q9 10 (by decide), q9 11 (by decide), g1 10 (by omega), g1 11 (by omega)]
      exact f4
    · rw [z0 12 (by decide), e12]
      unfold mOK at g4 ⊢
      rw [q9 16 (by decide), q9 17 (by decide), q9 18 (by decide), q9 19 (by decide), q9 20 (by decide), q9 21 (by decide), q9 22 (by decide)]
      exact g4
  · unfold mOK at g4 ⊢
    rw [q9 16 (by decide), q9 17 (by decide), q9 18 (by decide), q9 19 (by decide), q9 20 (by decide), q9 21 (by decide), q9 22 (by decide)]
    exact g4
