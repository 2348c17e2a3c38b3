/-! a second of strokes -/
def opc (H : Hal) (C : Int) (s : Nat) : Int := cnt (fun p => isop H (opn H C s) p s) (H 0 4).toNat
def hitb (H : Hal) (C p : Int) : Nat → Bool
  | 0 => false
  | s + 1 => hitb H C p s || (isop H (opn H C (s + 1)) p ((s + 1 : Nat) : Int) && decide (H 0 8 ≤ opc H C (s + 1)))
def bmask (P : Nat) (x : Int) (f : Int → Bool) : Prop := ∃ w : Nat, x = (w : Int) ∧ w < 2 ^ P ∧ ∀ p : Int, 0 ≤ p → p < P → w.testBit p.toNat = f p
def mixn (n : Int) (f h : Int → Int) : Int → Int := fun p => if p < n then f p else h p
/-- the strokes in the midst of second t + 1: n people are done -/
def gST (H : Hal) (C : Int) (t : Nat) (n : Int) (M : Mem) : Prop :=
  (∀ p, 0 ≤ p → p < 9 → M 13 p = mixn n (opn H C (t + 1)) (opn H C t) p ∧ M 15 p = mixn n (hws H C (t + 1)) (hws H C t) p) ∧
  (∀ p, 0 ≤ p → p < H 0 4 → mixn n (opn H C (t + 1)) (opn H C t) p ≠ -1 → M 14 p = wlk H p (mixn n (opn H C (t + 1)) (opn H C t) p - 1).toNat) ∧
  bmask (H 0 4).toNat (M 9 6) (fun p => bt C p && decide (mixn n (opn H C (t + 1)) (opn H C t) p = -1)) ∧
  bmask (H 0 4).toNat (M 9 7) (fun p => if p < n then isop H (opn H C (t + 1)) p ((t + 1 : Nat) : Int) else isop H (opn H C t) p t)
theorem bt_n {w : Nat} {p : Int} : bt (w : Int) p = w.testBit p.toNat := by
  unfold bt
  rw [Int.toNat_natCast]
def snf (H : Hal) (C : Int) (n : Int) (t : Nat) (q : Int) : Bool := bt C q && isop H (opn H C t) q t && decide (far H (wlk H n t) (wlk H q (opn H C t q - 1).toNat) ≤ H 0 7)
theorem sees_f (H : Hal) (C : Int) (n : Int) (t : Nat) : sees H C (opn H C t) n t = cnt (snf H C n t) (H 0 4).toNat := rfl
theorem obn_st {H : Hal} {M : Mem} {C : Int} {g : Int} {t m : Nat} {n : Int} {A : Nat} {x : Int} (ho : Hok H) (hn : nOK g H M) (n0 : 0 ≤ n) (hnP : n < H 0 4) (hmP : (m : Int) < H 0 4) (x0 : 0 ≤ x) (x1 : x ≤ m)
    (hA : A < 512) (hA2 : A.testBit m = isop H (opn H C t) m t) (h14 : opn H C t m ≠ -1 → M 14 m = wlk H m (opn H C t m - 1).toNat) :
    (if (fX11_hasBit A m) = 0 then x else (if (fX1_isNear M g (wlk H n t) (fX11_get M 14 9 m)) = 0 then x else (wr32 (x + 1)))) = x + (if snf H C n t m = true then 1 else 0) := by
  have hb := ho.2.1
  have fn := wlk_fre ho (p := n) n0 hnP t
  have e1 : fX11_hasBit (A : Int) (m : Int) = if isop H (opn H C t) m t = true then 1 else 0 := by
    rw [hasBit_n (by omega) (by omega) (by omega), Int.toNat_natCast, hA2]
  rw [e1]
  unfold snf
  cases hi : isop H (opn H C t) m t with
  | false => simp
  | true =>
    have hi2 := of_decide_eq_true hi
    have hbt : bt C m = true := by
      cases hx : bt C m with
      | true => rfl
      | false => exact absurd (opn_out (fun z => by rw [hx] at z; exact absurd z.2.2 (by decide)) t) hi2.1
    have fm := wlk_fre ho (p := m) (by omega) hmP (opn H C t m - 1).toNat
    have e2 : fX11_get M 14 9 (m : Int) = wlk H m (opn H C t m - 1).toNat := (rd_get (by omega) (by omega)).trans (h14 hi2.1)
    rw [e2, hn _ _ fn.1 fn.2.1 fm.1 fm.2.1, hbt, wad (by omega) (by omega)]
    obtain ⟨fr, hfr⟩ : ∃ z : Int, z = far H (wlk H n t) (wlk H m (opn H C t m - 1).toNat) := ⟨_, rfl⟩
    rw [← hfr]
    by_cases y : fr ≤ H 0 7
    · simp [y]
    · simp [y]
theorem obn_lp {H : Hal} {M : Mem} {C : Int} {g : Int} {t : Nat} {n : Int} {A : Nat} (ho : Hok H) (hn : nOK g H M) (n0 : 0 ≤ n) (hnP : n < H 0 4)
    (hA : A < 512) (hA2 : ∀ p : Int, 0 ≤ p → p < H 0 4 → A.testBit p.toNat = isop H (opn H C t) p t) (h14 : ∀ q, 0 ≤ q → q < H 0 4 → opn H C t q ≠ -1 → M 14 q = wlk H q (opn H C t q - 1).toNat) : ∀ (k m : Nat), (m : Int) + k = H 0 4 →
    lX7_opensBy_68 g n ((t + 1 : Nat) : Int) k A (H 9 n) (wlk H n t) (cnt (snf H C n t) m) m M = if sees H C (opn H C t) n t < H 9 n then 0 else 2 := by
  have hb := ho.2.1
  intro k
  induction k with
  | zero =>
    intro m hm
    have : m = (H 0 4).toNat := by omega
    rw [this, ← sees_f]
    rfl
  | succ k ih =>
    intro m hm
    have cb := cnt_b (snf H C n t) m
    have st := obn_st (M := M) (g := g) (C := C) (A := A) (x := cnt (snf H C n t) m) ho hn n0 hnP (m := m) (t := t) (by omega) cb.1 cb.2 hA (by have := hA2 m (by omega) (by omega); rw [Int.toNat_natCast] at this; exact this) (h14 m (by omega) (by omega))
    have e : lX7_opensBy_68 g n ((t + 1 : Nat) : Int) (k + 1) A (H 9 n) (wlk H n t) (cnt (snf H C n t) m) m M = lX7_opensBy_68 g n ((t + 1 : Nat) : Int) k A (H 9 n) (wlk H n t) (if (fX11_hasBit A m) = 0 then (cnt (snf H C n t) m) else (if (fX1_isNear M g (wlk H n t) (fX11_get M 14 9 m)) = 0 then (cnt (snf H C n t) m) else (wr32 ((cnt (snf H C n t) m) + 1)))) ((m : Int) + 1) M := rfl
    have e3 : ((m : Int) + 1) = ((m + 1 : Nat) : Int) := by omega
    rw [e, st, e3]
    exact ih (m + 1) (by omega)
theorem cnt_le {f h : Int → Bool} (e : ∀ i : Int, f i = true → h i = true) : ∀ m : Nat, cnt f m ≤ cnt h m
  | 0 => Int.le_refl _
  | m + 1 => by
    have := cnt_le e m
    show cnt f m + (if f m = true then 1 else 0) ≤ cnt h m + (if h m = true then 1 else 0)
    by_cases a : f m = true
    · rw [if_pos a, if_pos (e _ a)]
      omega
    · rw [if_neg a]
      by_cases b : h m = true
      · rw [if_pos b]; omega
      · rw [if_neg b]; omega
theorem obn_le {H : Hal} {C : Int} {t : Nat} {n : Int} {A : Nat} (ho : Hok H) (hA : A < 2 ^ (H 0 4).toNat) (hA2 : ∀ p : Int, 0 ≤ p → p < H 0 4 → A.testBit p.toNat = isop H (opn H C t) p t) : sees H C (opn H C t) n t ≤ fJ6_bitCount_0f7a4 (A : Int) := by
  have hb := ho.2.1
  rw [bc_p (by omega) hA, sees_f, cnt_c (g := fun p => isop H (opn H C t) p t) (f := fun p => A.testBit p.toNat) _ (fun i a b => hA2 i a (by omega))]
  refine cnt_le (fun i hi => ?_) _
  unfold snf at hi
  rw [Bool.and_eq_true, Bool.and_eq_true] at hi
  exact hi.1.2
theorem obn_l0 {H : Hal} {M : Mem} {C : Int} {g : Int} {t : Nat} {n : Int} {A : Nat} (ho : Hok H) (hn : nOK g H M) (n0 : 0 ≤ n) (hnP : n < H 0 4)
    (hA : A < 512) (hA2 : ∀ p : Int, 0 ≤ p → p < H 0 4 → A.testBit p.toNat = isop H (opn H C t) p t) (h14 : ∀ q, 0 ≤ q → q < H 0 4 → opn H C t q ≠ -1 → M 14 q = wlk H q (opn H C t q - 1).toNat) :
    lX7_opensBy_68 g n ((t + 1 : Nat) : Int) (H 0 4).toNat A (H 9 n) (wlk H n t) 0 0 M = if sees H C (opn H C t) n t < H 9 n then 0 else 2 := by
  have hb := ho.2.1
  have l0 := obn_lp (A := A) (n := n) ho hn n0 hnP hA hA2 h14 (H 0 4).toNat 0 (by omega)
  rw [show cnt (snf H C n t) 0 = 0 from rfl, show ((0 : Nat) : Int) = 0 from rfl] at l0
  exact l0
theorem obn_fin {a9 s9 bc sn tt L u : Int} (hu : u = tt + 1) (sle : sn ≤ bc) (l1 : L = if sn < a9 then 0 else 2) : (if u < s9 then (if a9 ≤ 0 then 0 else if a9 ≤ bc then L else 0) else 1) = (if s9 ≤ tt + 1 then (1 : Int) else if 0 < a9 ∧ a9 ≤ sn then 2 else 0) := by
  rw [l1, hu]
  by_cases a : tt + 1 < s9
  · rw [if_pos a, if_neg (show ¬ s9 ≤ tt + 1 by omega)]
    by_cases b : a9 ≤ 0
    · rw [if_pos b, if_neg (show ¬ (0 < a9 ∧ a9 ≤ sn) by omega)]
    · rw [if_neg b]
      by_cases d : a9 ≤ bc
      · rw [if_pos d]
        by_cases f : sn < a9
        · rw [if_pos f, if_neg (show ¬ (0 < a9 ∧ a9 ≤ sn) by omega)]
        · rw [if_neg f, if_pos (show 0 < a9 ∧ a9 ≤ sn by omega)]
      · rw [if_neg d, if_neg (show ¬ (0 < a9 ∧ a9 ≤ sn) by omega)]
  · rw [if_neg a, if_pos (show s9 ≤ tt + 1 by omega)]
theorem obn {H : Hal} {M : Mem} {C : Int} {g : Int} {t : Nat} {n : Int} {A : Nat} (ho : Hok H) (hc : Ch g H M) (hn : nOK g H M) (n0 : 0 ≤ n) (hnP : n < H 0 4) (ht : t < 200) (h12 : M 12 n = strk H n) (hw : M 10 (201 * n + t) = wlk H n t)
    (hA : A < 2 ^ (H 0 4).toNat) (hA2 : ∀ p : Int, 0 ≤ p → p < H 0 4 → A.testBit p.toNat = isop H (opn H C t) p t) (h14 : ∀ q, 0 ≤ q → q < H 0 4 → opn H C t q ≠ -1 → M 14 q = wlk H q (opn H C t q - 1).toNat) :
    fX7_opensBy M g n ((t + 1 : Nat) : Int) A = bys H C (opn H C t) n t := by
  have hb := ho.2.1
  have h1 : 2 ^ (H 0 4).toNat ≤ 512 := (show 2 ^ (H 0 4).toNat ≤ 2 ^ 9 from Nat.pow_le_pow_right (by omega) (by omega))
  have c5 := hc.2.2.2.2.1 n n0 hnP
  have ei : wr32 (wr32 (wr32 (n * 201) + ((t + 1 : Nat) : Int)) - 1) = 201 * n + t := by
    rw [wmu (a := n) (by omega) (by omega), wad (by omega) (by omega), wsu (by omega) (by omega)]
    omega
  have g1 : fX11_get M 12 9 n = strk H n := (rd_get (by omega) (by omega)).trans h12
  have g2 : fX11_get M (g + 5) 9 n = H 9 n := (rd_get (by omega) (by omega)).trans c5.2.2.1
  have g3 : fX11_get M 10 1809 (201 * n + t) = wlk H n t := (rd_get (by omega) (by omega)).trans hw
  have g4 : (M (g + 1) 8 - 0).toNat = (H 0 4).toNat := by rw [hc.1.2.2.2.2.1, Int.sub_zero]
  have e : fX7_opensBy M g n ((t + 1 : Nat) : Int) A = (if ((t + 1 : Nat) : Int) < fX11_get M 12 9 n then (if fX11_get M (g + 5) 9 n ≤ 0 then 0 else (if fX11_get M (g + 5) 9 n ≤ fJ6_bitCount_0f7a4 (A : Int) then lX7_opensBy_68 g n ((t + 1 : Nat) : Int) (M (g + 1) 8 - 0).toNat A (fX11_get M (g + 5) 9 n) (fX11_get M 10 1809 (wr32 (wr32 (wr32 (n * 201) + ((t + 1 : Nat) : Int)) - 1))) 0 0 M else 0)) else 1) := rfl
  rw [e, g1, g2, ei, g3, g4]
  unfold bys
  exact obn_fin (by omega) (obn_le (n := n) ho hA hA2) (obn_l0 (A := A) (n := n) (g := g) (M := M) (t := t) ho hn n0 hnP (Nat.lt_of_lt_of_le hA h1) hA2 h14)
theorem bmask_c {P : Nat} {x : Int} {f h : Int → Bool} (e : ∀ p : Int, 0 ≤ p → p < P → f p = h p) (hm : bmask P x f) : bmask P x h := by
  obtain ⟨w, h1, h2, h3⟩ := hm
  exact ⟨w, h1, h2, fun p a b => (h3 p a b).trans (e p a b)⟩
theorem bmask_set {P : Nat} {x n : Int} {f : Int → Bool} (hP : P ≤ 9) (n0 : 0 ≤ n) (hn : n < P) (hm : bmask P x f) : bmask P (m_or x (m_shl 1 n)) (fun p => f p || decide (p = n)) := by
  obtain ⟨w, h1, h2, h3⟩ := hm
  have e1 : 2 ^ P ≤ 2 ^ 9 := Nat.pow_le_pow_right (by omega) (by omega)
  have e2 : 2 ^ n.toNat < 2 ^ P := Nat.pow_lt_pow_right (by omega) (by omega)
  refine ⟨w ||| 2 ^ n.toNat, ?_, or_lt h2 e2, fun p a b => ?_⟩
  · rw [h1, shl_one n0 (by omega), or_nat (by omega) (by omega)]
  · rw [Nat.testBit_or, h3 p a b, Nat.testBit_two_pow]
    congr 1
    by_cases c : p = n
    · rw [decide_eq_true c, decide_eq_true (by omega)]
    · rw [decide_eq_false c, decide_eq_false (by omega)]
theorem bmask_clr {P : Nat} {x n : Int} {f : Int → Bool} (hP : P ≤ 9) (n0 : 0 ≤ n) (hn : n < P) (hm : bmask P x f) : bmask P (m_and x (m_xor (m_shl 1 n) (-1))) (fun p => f p && !decide (p = n)) := by
  obtain ⟨w, h1, h2, h3⟩ := hm
  obtain ⟨k, rfl⟩ := Int.eq_ofNat_of_zero_le n0
  have e1 : 2 ^ P ≤ 2 ^ 9 := Nat.pow_le_pow_right (by omega) (by omega)
  obtain ⟨w', a1, a2, a3⟩ := clrb (w := w) (p := k) (by omega) (by omega)
  refine ⟨w', by rw [h1, a1], by omega, fun p a b => ?_⟩
  rw [a3, h3 p a b]
  congr 2
  by_cases c : p = k
  · rw [decide_eq_true c, decide_eq_true (by omega)]
  · rw [decide_eq_false c, decide_eq_false (by omega)]
theorem bmask_tst {P : Nat} {x n : Int} {f : Int → Bool} (hP : P ≤ 9) (n0 : 0 ≤ n) (hn : n < P) (hm : bmask P x f) : m_and x (m_shl 1 n) = 0 ↔ f n = false := by
  obtain ⟨w, h1, h2, h3⟩ := hm
  obtain ⟨k, rfl⟩ := Int.eq_ofNat_of_zero_le n0
  have e1 : 2 ^ P ≤ 2 ^ 9 := Nat.pow_le_pow_right (by omega) (by omega)
  rw [h1, bit_and (by omega) (by omega), ← h3 k (by omega) (by omega), Int.toNat_natCast]
