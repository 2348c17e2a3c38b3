/-! the class's strokes: first strike, alarm -/
theorem strk_c {g : Int} {H : Hal} {M : Mem} (ho : Hok H) (hc : Ch g H M) {p : Int} (p0 : 0 ≤ p) (p1 : p < H 0 4) : (if (fX11_hasBit (M (g + 1) 7) p) = 0 then (if 1 < (wr32 ((wr32 ((M g 14) + (fX11_get M (g + 4) 9 p))) - 60)) then (wr32 ((wr32 ((M g 14) + (fX11_get M (g + 4) 9 p))) - 60)) else 1) else 201) = strk H p := by
  have hb := ho.2.1
  have c5 := hc.2.2.2.2.1 p p0 p1
  have o7 := ho.2.2.2.2.2.2.1 p p0 p1
  rw [hasBit_eq hc.2.2.2.2.2.2.1 (by have := hc.2.2.2.2.2.2.2; omega) p0 (by omega), ← c5.2.2.2.2.2.2, rd_get p0 (by omega), c5.2.1, hc.1.2.2.2.2.2.1, wad (a := H 0 5) (by omega) (by omega), wsu (by omega) (by omega)]
  unfold strk
  rcases o7.2.2.2.2.2.2.2.1 with z | z
  · rw [if_pos z, if_neg (show ¬ H 11 p = 1 by omega)]
  · rw [if_neg (show ¬ H 11 p = 0 by omega), if_pos z]
theorem ffst_lp {g : Int} {H : Hal} (hg : isG g) (ho : Hok H) {C : Int} (C0 : 0 ≤ C) (C1 : C < 512) : ∀ (k n : Nat) (M : Mem), Ch g H M → (n : Int) + k = H 0 4 →
    lX7_findFirst_7 g k C (frst H C n) n M = frst H C (n + k) ∧ (∀ q, q ≠ 12 → lmX7_findFirst_7 g k C (frst H C n) n M q = M q) ∧ (∀ i : Int, i < n → lmX7_findFirst_7 g k C (frst H C n) n M 12 i = M 12 i) ∧ (∀ p : Int, n ≤ p → p < H 0 4 → lmX7_findFirst_7 g k C (frst H C n) n M 12 p = strk H p) := by
  have hb := ho.2.1
  intro k
  induction k with
  | zero => exact fun n M _ _ => ⟨rfl, fun _ _ => rfl, fun _ _ => rfl, fun p a b => by omega⟩
  | succ k ih =>
    intro n M hc h
    have sc := strk_c ho hc (p := n) (by omega) (by omega)
    obtain ⟨N, hN⟩ : ∃ m : Mem, m = mset M 12 n (strk H n) := ⟨_, rfl⟩
    have hN2 : fmX11_put M 12 9 n (if (fX11_hasBit (M (g + 1) 7) n) = 0 then (if 1 < (wr32 ((wr32 ((M g 14) + (fX11_get M (g + 4) 9 n))) - 60)) then (wr32 ((wr32 ((M g 14) + (fX11_get M (g + 4) 9 n))) - 60)) else 1) else 201) = N := by
      rw [sc, rd_put (by omega) (by omega), hN]
    have hF : (if (fX11_hasBit C n) = 0 then frst H C n else (if (if (fX11_hasBit (M (g + 1) 7) n) = 0 then (if 1 < (wr32 ((wr32 ((M g 14) + (fX11_get M (g + 4) 9 n))) - 60)) then (wr32 ((wr32 ((M g 14) + (fX11_get M (g + 4) 9 n))) - 60)) else 1) else 201) < frst H C n then (if (fX11_hasBit (M (g + 1) 7) n) = 0 then (if 1 < (wr32 ((wr32 ((M g 14) + (fX11_get M (g + 4) 9 n))) - 60)) then (wr32 ((wr32 ((M g 14) + (fX11_get M (g + 4) 9 n))) - 60)) else 1) else 201) else frst H C n)) = frst H C (n + 1) := by
      rw [sc, hasBit_eq C0 (by omega) (by omega) (by omega)]
      show _ = if bt C n then (if strk H n < frst H C n then strk H n else frst H C n) else frst H C n
      by_cases a : bt C n = true
      · rw [if_pos a, if_neg (by decide), if_pos a]
      · rw [if_neg a, if_pos rfl, if_neg a]
    have s1 : lX7_findFirst_7 g (k + 1) C (frst H C n) n M = lX7_findFirst_7 g k C (frst H C (n + 1)) ((n : Int) + 1) N := by rw [← hF, ← hN2]; rfl
    have s2 : lmX7_findFirst_7 g (k + 1) C (frst H C n) n M = lmX7_findFirst_7 g k C (frst H C (n + 1)) ((n : Int) + 1) N := by rw [← hF, ← hN2]; rfl
    have e3 : ((n : Int) + 1) = ((n + 1 : Nat) : Int) := by omega
    have i1 := ih (n + 1) N (by rw [hN]; exact Ch_put hg hc _ _ (by omega)) (by omega)
    rw [s1, s2, e3]
    rw [show n + 1 + k = n + (k + 1) by omega] at i1
    refine ⟨i1.1, fun q hq => by rw [i1.2.1 q hq, hN, mset_p hq], fun i hi => by rw [i1.2.2.1 i (by omega), hN, mset_k (by omega)], fun p a b => ?_⟩
    by_cases c : p = n
    · rw [c, i1.2.2.1 _ (by omega), hN, mset_e]
    · exact i1.2.2.2 p (by omega) b
theorem ffst {g : Int} {H : Hal} {M : Mem} (hg : isG g) (ho : Hok H) (hc : Ch g H M) {C : Int} (C0 : 0 ≤ C) (C1 : C < 512) : fX7_findFirst M g C = ff H C ∧ (∀ q, q ≠ 12 → fmX7_findFirst M g C q = M q) ∧ (∀ p : Int, 0 ≤ p → p < H 0 4 → fmX7_findFirst M g C 12 p = strk H p) := by
  have hb := ho.2.1
  have i1 := ffst_lp hg ho C0 C1 (H 0 4).toNat 0 M hc (by omega)
  rw [Nat.zero_add] at i1
  have e1 : fX7_findFirst M g C = lX7_findFirst_7 g (H 0 4).toNat C (frst H C 0) ((0 : Nat) : Int) M := by
    unfold fX7_findFirst
    rw [hc.1.2.2.2.2.1, Int.sub_zero]
    rfl
  have e2 : fmX7_findFirst M g C = lmX7_findFirst_7 g (H 0 4).toNat C (frst H C 0) ((0 : Nat) : Int) M := by
    unfold fmX7_findFirst
    rw [hc.1.2.2.2.2.1, Int.sub_zero]
    rfl
  rw [e1, e2]
  exact ⟨i1.1, i1.2.1, fun p a b => i1.2.2.2 p (by omega) b⟩
/-- what a guard sees of those who come -/
theorem gs_c {H : Hal} (ho : Hok H) {C w g : Int} {t : Nat} (C0 : 0 ≤ C) (C1 : C < 2 ^ (H 0 4).toNat) (w0 : 0 ≤ w) (w1 : w < 2 ^ (H 0 4).toNat) (hw : ∀ p, 0 ≤ p → p < H 0 4 → bt w p = decide (far H (H 4 g) (wlk H p t) ≤ H 5 g)) : fJ6_bitCount_0f7a4 (m_and w C) = gseen H C g t := by
  have hb := ho.2.1
  rw [two_pow_int] at C1 w1
  obtain ⟨a, rfl⟩ := Int.eq_ofNat_of_zero_le C0
  obtain ⟨b, rfl⟩ := Int.eq_ofNat_of_zero_le w0
  have h1 : 2 ^ (H 0 4).toNat ≤ 2 ^ 9 := Nat.pow_le_pow_right (by omega) (by omega)
  have l : b &&& a < 2 ^ (H 0 4).toNat := Nat.lt_of_le_of_lt Nat.and_le_left (by omega)
  rw [and_nat (by omega) (by omega), bc_p (by omega) l]
  refine cnt_c _ (fun i i0 i1 => ?_)
  have := hw i i0 (by omega)
  rw [Nat.testBit_and, ← this]
  unfold bt
  rw [Int.toNat_natCast, Int.toNat_natCast, Bool.and_comm]
def alrU (H : Hal) (C u : Int) : Int := fst1 (fun t => decide (glook H C t.toNat ≠ -1)) 0 u.toNat
/-- the sights of all guards, for the seconds ahead of u -/
def sOK (H : Hal) (u : Nat) (M : Mem) : Prop := ∀ g, 0 ≤ g → g < H 0 3 → ∀ t : Nat, t < u → 0 ≤ M 11 (201 * g + t) ∧ M 11 (201 * g + t) < 2 ^ (H 0 4).toNat ∧ ∀ p, 0 ≤ p → p < H 0 4 → bt (M 11 (201 * g + t)) p = decide (far H (H 4 g) (wlk H p t) ≤ H 5 g)
theorem fal {g : Int} {H : Hal} {M : Mem} {Q : Int → Mem → Prop} (hg : isG g) (ho : Hok H) (hc : Ch g H M) {C : Int} (C0 : 0 ≤ C) (C1 : C < 2 ^ (H 0 4).toNat) {u : Nat} (hu : u ≤ 201) (hs : sOK H u M)
    (hQ : ∀ M' : Mem, (∀ q, q ≠ 9 → M' q = M q) → (∀ j, j ≠ 9 → j ≠ 10 → M' 9 j = M 9 j) → M' 9 9 = alrU H C u → M' 9 10 = (if alrU H C u = -1 then -1 else glook H C (alrU H C u).toNat) → Q 0 M') : PX7_findAlarm g C u M Q := by
  have hb := ho.2.1
  -- one second: which guard
  have one : ∀ (t : Nat), t < u → ∀ (K : Mem → Prop) (k n : Nat) (N : Mem), (∀ q, q ≠ 9 → N q = M q) → (∀ j, j ≠ 9 → j ≠ 10 → N 9 j = M 9 j) → N 9 9 = -1 → N 9 10 = -1 → (n : Int) ≤ H 0 3 → H 0 3 < (n : Int) + k →
      (∀ N' : Mem, (∀ q, q ≠ 9 → N' q = M q) → (∀ j, j ≠ 9 → j ≠ 10 → N' 9 j = M 9 j) → ((fst1 (fun g => decide (H 6 g ≤ gseen H C g t)) n (H 0 3 - n).toNat = -1 ∧ N' 9 9 = -1 ∧ N' 9 10 = -1) ∨ (fst1 (fun g => decide (H 6 g ≤ gseen H C g t)) n (H 0 3 - n).toNat ≠ -1 ∧ N' 9 9 = t ∧ N' 9 10 = fst1 (fun g => decide (H 6 g ≤ gseen H C g t)) n (H 0 3 - n).toNat)) → K N') → PX7_findAlarm_30 g C t K Q k n N := by
    intro t ht K k
    induction k with
    | zero => intro n N _ _ _ _ a b; omega
    | succ k ih =>
      intro n N f1 f2 f3 f4 a b hK
      have hcN : Ch g H N := Ch_fr2 hg (fun q x y => f1 q (by omega)) hc
      refine ⟨fun z => ?_, fun z => ?_⟩
      · rw [hcN.1.2.2.2.1] at z
        refine hK N f1 f2 (Or.inl ⟨?_, f3, f4⟩)
        rw [show (H 0 3 - n).toNat = 0 by omega]
        rfl
      · rw [hcN.1.2.2.2.1] at z
        refine ⟨fun _ => ?_, fun y => absurd f3 y⟩
        have so := hs n (by omega) (by omega) t ht
        intro a5 ha5
        rw [ix10 (by omega) (by omega) (by omega) (by omega), rd_get (by omega) (by omega), f1 11 (by decide), gs_c ho C0 C1 so.1 so.2.1 so.2.2] at ha5
        rw [rd_get (M := N) (by omega) (by omega), (hcN.2.2.2.1 n (by omega) (by omega)).2.2.1, ha5, wad (a := (n : Int)) (by omega) (by omega)]
        have e3 : ((n : Int) + 1) = ((n + 1 : Nat) : Int) := by omega
        have ef : fst1 (fun g => decide (H 6 g ≤ gseen H C g t)) n (H 0 3 - n).toNat = if H 6 n ≤ gseen H C n t then (n : Int) else fst1 (fun g => decide (H 6 g ≤ gseen H C g t)) ((n : Int) + 1) (H 0 3 - ((n : Int) + 1)).toNat := by
          rw [show (H 0 3 - n).toNat = (H 0 3 - ((n : Int) + 1)).toNat + 1 by omega]
          show (if decide (H 6 n ≤ gseen H C n t) = true then (n : Int) else _) = _
          by_cases c : H 6 n ≤ gseen H C n t
          · rw [if_pos (decide_eq_true c), if_pos c]
          · rw [if_neg (fun y => c (of_decide_eq_true y)), if_neg c]
        refine ⟨fun y => ?_, fun y => ?_⟩
        · rw [e3]
          refine ih (n + 1) N f1 f2 f3 f4 (by omega) (by omega) (fun N' g1 g2 g3 => hK N' g1 g2 ?_)
          rw [ef, if_neg (by omega), e3]
          exact g3
        · intro M9 h9 M11 h11
          rw [e3]
          -- the next head leaves at once
          have m99 : M11 9 9 = t := by rw [h11, mset_k (by decide), h9, mset_e]
          have m9a : M11 9 10 = n := by rw [h11, mset_e]
          have fin : K M11 := by
            refine hK M11 (fun q hq => by rw [h11, mset_p hq, h9, mset_p hq, f1 q hq]) (fun j a b => by rw [h11, mset_k b, h9, mset_k a, f2 j a b]) (Or.inr ?_)
            rw [ef, if_pos (by omega)]
            exact ⟨by omega, m99, m9a⟩
          cases k with
          | zero => omega
          | succ k => exact ⟨fun _ => fin, fun _ => ⟨fun x => by omega, fun _ => fin⟩⟩
  have all : ∀ (k t : Nat) (N : Mem), (∀ q, q ≠ 9 → N q = M q) → (∀ j, j ≠ 9 → j ≠ 10 → N 9 j = M 9 j) → N 9 9 = -1 → N 9 10 = -1 → t ≤ u → u < t + k → (∀ s : Nat, s < t → glook H C s = -1) → PX7_findAlarm_13 g C u (fun M6 => Q 0 M6) Q k t N := by
    intro k
    induction k with
    | zero => intro t N _ _ _ _ a b; omega
    | succ k ih =>
      intro t N f1 f2 f3 f4 a b hl
      have fin0 : t = u → Q 0 N := by
        intro e
        have ea : alrU H C u = -1 := by
          unfold alrU
          rcases fst1_s (f := fun t => decide (glook H C t.toNat ≠ -1)) (u : Int).toNat 0 (by omega) with ⟨z, _⟩ | ⟨z1, z2, z3, _⟩
          · exact z
          · exfalso
            have := hl (fst1 (fun t => decide (glook H C t.toNat ≠ -1)) 0 (u : Int).toNat).toNat (by omega)
            exact (of_decide_eq_true z3) this
        exact hQ N f1 f2 (by rw [ea, f3]) (by rw [ea, if_pos rfl, f4])
      refine ⟨fun z => fin0 (by omega), fun z => ⟨fun _ => ⟨6, ?_⟩, fun y => absurd f3 y⟩⟩
      refine one t (by omega) _ 6 0 N f1 f2 f3 f4 (by omega) (by omega) (fun N' g1 g2 g3 => ?_)
      rw [wad (a := (t : Int)) (by omega) (by omega)]
      have e3 : ((t : Int) + 1) = ((t + 1 : Nat) : Int) := by omega
      rw [e3]
      have eg : fst1 (fun g => decide (H 6 g ≤ gseen H C g t)) ((0 : Nat) : Int) (H 0 3 - ((0 : Nat) : Int)).toNat = glook H C t := by
        rw [show (H 0 3 - ((0 : Nat) : Int)).toNat = (H 0 3).toNat by omega]
        rfl
      rw [eg] at g3
      rcases g3 with ⟨z1, z2, z3⟩ | ⟨z1, z2, z3⟩
      · refine ih (t + 1) N' g1 g2 z2 z3 (by omega) (by omega) (fun s hs => ?_)
        by_cases c : s = t
        · rw [c]; exact z1
        · exact hl s (by omega)
      · have ea : alrU H C u = t := by
          unfold alrU
          rcases fst1_s (f := fun t => decide (glook H C t.toNat ≠ -1)) (u : Int).toNat 0 (by omega) with ⟨_, y⟩ | ⟨y1, y2, y3, y4⟩
          · exfalso
            have := of_decide_eq_false (y t (by omega) (by omega))
            rw [Int.toNat_natCast] at this
            exact this z1
          · have c1 : ¬ fst1 (fun t => decide (glook H C t.toNat ≠ -1)) 0 (u : Int).toNat < t := by
              intro x
              have := hl (fst1 (fun t => decide (glook H C t.toNat ≠ -1)) 0 (u : Int).toNat).toNat (by omega)
              exact (of_decide_eq_true y3) this
            have c2 : ¬ (t : Int) < fst1 (fun t => decide (glook H C t.toNat ≠ -1)) 0 (u : Int).toNat := by
              intro x
              have := of_decide_eq_false (y4 t (by omega) x)
              rw [Int.toNat_natCast] at this
              exact this z1
            omega
        have fin : Q 0 N' := hQ N' g1 g2 (by rw [ea, z2]) (by rw [ea, if_neg (by omega), z3, Int.toNat_natCast])
        cases k with
        | zero => omega
        | succ k => exact ⟨fun _ => fin, fun _ => ⟨fun x => by omega, fun _ => fin⟩⟩
  intro M2 h2 M4 h4
  refine ⟨202, all 202 0 M4 (fun q hq => by rw [h4, mset_p hq, h2, mset_p hq]) (fun j a b => by rw [h4, mset_k b, h2, mset_k a]) (by rw [h4, mset_k (by decide), h2, mset_e]) (by rw [h4, mset_e]) (by omega) (by omega) (fun s hs => by omega)⟩
