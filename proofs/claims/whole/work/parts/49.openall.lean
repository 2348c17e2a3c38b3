/-! all strokes -/
theorem bmask_bc {P : Nat} {x : Int} {f : Int → Bool} (hP : P ≤ 9) (hm : bmask P x f) : fJ6_bitCount_0f7a4 x = cnt f P := by
  obtain ⟨w, h1, h2, h3⟩ := hm
  rw [h1, bc_p hP h2]
  exact cnt_c _ (fun i a b => h3 i a b)
theorem bmask_or {P : Nat} {x y : Int} {f h : Int → Bool} (hP : P ≤ 9) (hx : bmask P x f) (hy : bmask P y h) : bmask P (m_or x y) (fun p => f p || h p) := by
  obtain ⟨w, a1, a2, a3⟩ := hx
  obtain ⟨v, b1, b2, b3⟩ := hy
  have e1 : 2 ^ P ≤ 2 ^ 9 := Nat.pow_le_pow_right (by omega) (by omega)
  refine ⟨w ||| v, by rw [a1, b1, or_nat (by omega) (by omega)], or_lt a2 b2, fun p c d => ?_⟩
  rw [Nat.testBit_or, a3 p c d, b3 p c d]
theorem bmask_0 {P : Nat} {x : Int} {f : Int → Bool} (hm : bmask P x f) : x = 0 ↔ ∀ p : Int, 0 ≤ p → p < P → f p = false := by
  obtain ⟨w, h1, h2, h3⟩ := hm
  constructor
  · intro z p a b
    have : w = 0 := by omega
    rw [← h3 p a b, this, Nat.zero_testBit]
  · intro z
    have : w = 0 := by
      apply Nat.eq_of_testBit_eq
      intro i
      rw [Nat.zero_testBit]
      by_cases c : i < P
      · have := h3 (i : Int) (by omega) (by omega)
        rw [Int.toNat_natCast] at this
        rw [this]
        exact z i (by omega) (by omega)
      · exact Nat.testBit_lt_two_pow (Nat.lt_of_lt_of_le h2 (Nat.pow_le_pow_right (by omega) (by omega)))
    omega
def oST (H : Hal) (C : Int) (t : Nat) (M : Mem) : Prop :=
  (∀ p, 0 ≤ p → p < 9 → M 13 p = opn H C t p ∧ M 15 p = hws H C t p) ∧
  (∀ p, 0 ≤ p → p < H 0 4 → opn H C t p ≠ -1 → M 14 p = wlk H p (opn H C t p - 1).toNat) ∧
  bmask (H 0 4).toNat (M 9 6) (fun p => bt C p && decide (opn H C t p = -1)) ∧
  bmask (H 0 4).toNat (M 9 7) (fun p => isop H (opn H C t) p t) ∧
  bmask (H 0 4).toNat (M 9 8) (fun p => hitb H C p t)
/-- what the strokes stand on -/
def kST (g : Int) (H : Hal) (M : Mem) : Prop := Ch g H M ∧ nOK g H M ∧ (∀ p, 0 ≤ p → p < H 0 4 → M 12 p = strk H p) ∧ (∀ p, 0 ≤ p → p < H 0 4 → ∀ t : Nat, t < 201 → M 10 (201 * p + t) = wlk H p t)
theorem kST_fr {g : Int} {H : Hal} {M M' : Mem} (hg : isG g) (h : kST g H M) (e : ∀ q, q ≠ 9 → q ≠ 13 → q ≠ 14 → q ≠ 15 → M' q = M q) : kST g H M' := by
  have hb : 32 ≤ g ∧ g ≤ 49 := by rcases hg with z | z <;> rw [z] <;> decide
  obtain ⟨h1, h2, h3, h4⟩ := h
  refine ⟨Ch_fr2 hg (fun q a b => e q (by omega) (by omega) (by omega) (by omega)) h1, ?_, fun p a b => by rw [e 12 (by decide) (by decide) (by decide) (by decide)]; exact h3 p a b, fun p a b t ht => by rw [e 10 (by decide) (by decide) (by decide) (by decide)]; exact h4 p a b t ht⟩
  unfold nOK fX1_isNear at h2 ⊢
  rw [e (g + 16) (by omega) (by omega) (by omega) (by omega)]
  exact h2
theorem hit_e {P : Nat} {x y u : Int} {f h : Int → Bool} {op : Int} (hP : P ≤ 9) (hx : bmask P x f) (hy : bmask P y h) (ho : op = cnt h P) : bmask P (if op < u then x else m_or x y) (fun p => f p || (h p && decide (u ≤ op))) := by
  by_cases a : op < u
  · rw [if_pos a]
    refine bmask_c (fun p _ _ => ?_) hx
    rw [decide_eq_false (by omega)]
    simp
  · rw [if_neg a]
    refine bmask_c (fun p _ _ => ?_) (bmask_or hP hx hy)
    rw [decide_eq_true (by omega)]
    simp
theorem go_lp {g : Int} {H : Hal} {C : Int} {t A : Nat} (hg : isG g) (ho : Hok H) (ht : t < 200) (hA : A < 2 ^ (H 0 4).toNat) (hA2 : ∀ p : Int, 0 ≤ p → p < H 0 4 → A.testBit p.toNat = isop H (opn H C t) p t) : ∀ (k n : Nat) (M : Mem), kST g H M → (n : Int) + k = H 0 4 → gST H C t n M → bmask (H 0 4).toNat (M 9 8) (fun p => hitb H C p t) →
    oST H C (t + 1) (lmX7_goOn_8 g k ((t + 1 : Nat) : Int) A n M) ∧ (∀ q, q ≠ 9 → q ≠ 13 → q ≠ 14 → q ≠ 15 → lmX7_goOn_8 g k ((t + 1 : Nat) : Int) A n M q = M q) ∧ (∀ j, j ≠ 6 → j ≠ 7 → j ≠ 8 → lmX7_goOn_8 g k ((t + 1 : Nat) : Int) A n M 9 j = M 9 j) := by
  have hb := ho.2.1
  intro k
  induction k with
  | zero =>
    intro n M hk hn hS hh
    obtain ⟨s1, s2, s3, s4⟩ := hS
    have hnP : (n : Int) = H 0 4 := by omega
    rw [hnP] at s1 s2 s3 s4
    have mx : ∀ p, 0 ≤ p → p < H 0 4 → mixn (H 0 4) (opn H C (t + 1)) (opn H C t) p = opn H C (t + 1) p := fun p a b => by unfold mixn; rw [if_pos b]
    have mx2 : ∀ p, ¬ p < H 0 4 → opn H C (t + 1) p = opn H C t p ∧ hws H C (t + 1) p = hws H C t p := fun p a => by
      rw [opn_e, hws_e, if_neg (fun z => a z.2.1), if_neg (fun z => a z.2.1)]
      exact ⟨rfl, rfl⟩
    have s4' : bmask (H 0 4).toNat (M 9 7) (fun p => isop H (opn H C (t + 1)) p ((t + 1 : Nat) : Int)) := bmask_c (fun p a b => by rw [if_pos (by omega)]) s4
    have ebc : fJ6_bitCount_0f7a4 (M 9 7) = opc H C (t + 1) := bmask_bc (by omega) s4'
    have e0 : lmX7_goOn_8 g 0 ((t + 1 : Nat) : Int) A n M = if fJ6_bitCount_0f7a4 (M 9 7) < M g 17 then M else mset M 9 8 (m_or (M 9 8) (M 9 7)) := rfl
    rw [e0, ebc, hk.1.1.2.2.2.2.2.2.2.2]
    have hhit := hit_e (P := (H 0 4).toNat) (u := H 0 8) (op := opc H C (t + 1)) (by omega) hh s4' rfl
    have core : ∀ N : Mem, N 13 = M 13 → N 14 = M 14 → N 15 = M 15 → N 9 6 = M 9 6 → N 9 7 = M 9 7 → bmask (H 0 4).toNat (N 9 8) (fun p => hitb H C p (t + 1)) → oST H C (t + 1) N := by
      intro N n1 n2 n3 n4 n5 n6
      refine ⟨fun p a b => ?_, fun p a b c => ?_, ?_, ?_, n6⟩
      · rw [n1, n3]
        have := s1 p a b
        unfold mixn at this
        by_cases d : p < H 0 4
        · rw [if_pos d, if_pos d] at this
          exact this
        · rw [if_neg d, if_neg d] at this
          rw [(mx2 p d).1, (mx2 p d).2]
          exact this
      · rw [n2]
        have := s2 p a b (by rw [mx p a b]; exact c)
        rw [mx p a b] at this
        exact this
      · rw [n4]
        exact bmask_c (fun p a b => by rw [mx p a (by omega)]) s3
      · rw [n5]
        exact s4'
    by_cases c : opc H C (t + 1) < H 0 8
    · rw [if_pos c]
      rw [if_pos c] at hhit
      exact ⟨core M rfl rfl rfl rfl rfl hhit, fun _ _ _ _ _ => rfl, fun _ _ _ _ => rfl⟩
    · rw [if_neg c]
      rw [if_neg c] at hhit
      refine ⟨core _ (mset_p (by decide)) (mset_p (by decide)) (mset_p (by decide)) (mset_k (by decide)) (mset_k (by decide)) (by rw [mset_e]; exact hhit), fun q a _ _ _ => mset_p a, fun j _ _ a => mset_k a⟩
  | succ k ih =>
    intro n M hk hn hS hh
    have g1 := gst_1 (A := A) (p := (n : Int)) hg ho hk.1 hk.2.1 (by omega) (by omega) ht (hk.2.2.1 n (by omega) (by omega)) (hk.2.2.2 n (by omega) (by omega) t (by omega)) hA hA2 hS
    have e : lmX7_goOn_8 g (k + 1) ((t + 1 : Nat) : Int) A n M = lmX7_goOn_8 g k ((t + 1 : Nat) : Int) A ((n : Int) + 1) (gstep M g ((t + 1 : Nat) : Int) A n) := rfl
    have e3 : ((n : Int) + 1) = ((n + 1 : Nat) : Int) := by omega
    rw [e, e3]
    rw [e3] at g1
    have i1 := ih (n + 1) _ (kST_fr hg hk g1.2.1) (by omega) g1.1 (by rw [g1.2.2 8 (by decide) (by decide)]; exact hh)
    refine ⟨i1.1, fun q a b c d => by rw [i1.2.1 q a b c d, g1.2.1 q a b c d], fun j a b c => by rw [i1.2.2 j a b c, g1.2.2 j a b]⟩
theorem go_all {g : Int} {H : Hal} {C : Int} {t : Nat} {M : Mem} (hg : isG g) (ho : Hok H) (ht : t < 200) (hk : kST g H M) (hS : oST H C t M) : oST H C (t + 1) (fmX7_goOn M g ((t + 1 : Nat) : Int)) ∧ (∀ q, q ≠ 9 → q ≠ 13 → q ≠ 14 → q ≠ 15 → fmX7_goOn M g ((t + 1 : Nat) : Int) q = M q) ∧ (∀ j, j ≠ 6 → j ≠ 7 → j ≠ 8 → fmX7_goOn M g ((t + 1 : Nat) : Int) 9 j = M 9 j) := by
  have hb := ho.2.1
  obtain ⟨s1, s2, s3, s4, s5⟩ := hS
  obtain ⟨A, a1, a2, a3⟩ := s4
  have m0 : ∀ p : Int, 0 ≤ p → mixn ((0 : Nat) : Int) (opn H C (t + 1)) (opn H C t) p = opn H C t p ∧ mixn ((0 : Nat) : Int) (hws H C (t + 1)) (hws H C t) p = hws H C t p := fun p a => by
    unfold mixn
    rw [if_neg (by omega), if_neg (by omega)]
    exact ⟨rfl, rfl⟩
  have gS : gST H C t ((0 : Nat) : Int) M := by
    refine ⟨fun p a b => ?_, fun p a b c => ?_, bmask_c (fun p a b => by rw [(m0 p a).1]) s3, ⟨A, a1, a2, fun p a b => ?_⟩⟩
    · rw [(m0 p a).1, (m0 p a).2]
      exact s1 p a b
    · rw [(m0 p a).1] at c ⊢
      exact s2 p a b c
    · show _ = (if p < ((0 : Nat) : Int) then isop H (opn H C (t + 1)) p ((t + 1 : Nat) : Int) else isop H (opn H C t) p t)
      rw [if_neg (by omega)]
      exact a3 p a b
  have l := go_lp (A := A) hg ho ht a2 (fun p a b => a3 p a (by omega)) (H 0 4).toNat 0 M hk (by omega) gS s5
  have e : fmX7_goOn M g ((t + 1 : Nat) : Int) = lmX7_goOn_8 g (H 0 4).toNat ((t + 1 : Nat) : Int) A ((0 : Nat) : Int) M := by
    unfold fmX7_goOn
    rw [hk.1.1.2.2.2.2.1, Int.sub_zero, a1]
    rfl
  rw [e]
  exact l
/-- the next strike among those who wait -/
theorem nxs {g : Int} {H : Hal} {C : Int} {t : Nat} {M : Mem} (ho : Hok H) (hk : kST g H M) (hS : oST H C t M) : ∃ N : Int, fX7_nextStrike M g = N ∧ 1 ≤ N ∧ N ≤ 201 ∧ ∀ p, 0 ≤ p → p < H 0 4 → bt C p = true → opn H C t p = -1 → N ≤ strk H p := by
  have hb := ho.2.1
  obtain ⟨w, w1, w2, w3⟩ := hS.2.2.1
  have h1 : 2 ^ (H 0 4).toNat ≤ 2 ^ 9 := Nat.pow_le_pow_right (by omega) (by omega)
  have lp : ∀ (k n : Nat) (x : Int), (n : Int) + k = H 0 4 → 1 ≤ x → x ≤ 201 → (∀ p : Int, 0 ≤ p → p < n → bt C p = true → opn H C t p = -1 → x ≤ strk H p) → ∃ N : Int, lX7_nextStrike_6 g k x n M = N ∧ 1 ≤ N ∧ N ≤ 201 ∧ ∀ p, 0 ≤ p → p < H 0 4 → bt C p = true → opn H C t p = -1 → N ≤ strk H p := by
    intro k
    induction k with
    | zero => exact fun n x hn x0 x1 hx => ⟨x, rfl, x0, x1, fun p a b => hx p a (by omega)⟩
    | succ k ih =>
      intro n x hn x0 x1 hx
      have sb := strk_b ho (p := n) (by omega) (by omega)
      have e : lX7_nextStrike_6 g (k + 1) x n M = lX7_nextStrike_6 g k (if (fX11_hasBit (M 9 6) n) = 0 then x else (if (fX11_get M 12 9 n) < x then (fX11_get M 12 9 n) else x)) ((n : Int) + 1) M := rfl
      have e3 : ((n : Int) + 1) = ((n + 1 : Nat) : Int) := by omega
      have e12 : fX11_get M 12 9 (n : Int) = strk H n := (rd_get (by omega) (by omega)).trans (hk.2.2.1 n (by omega) (by omega))
      have eh : fX11_hasBit (M 9 6) (n : Int) = if (bt C n && decide (opn H C t n = -1)) = true then 1 else 0 := by
        rw [w1, hasBit_n (by omega) (by omega) (by omega), w3 n (by omega) (by omega)]
      rw [e, e12, eh, e3]
      by_cases c : (bt C n && decide (opn H C t n = -1)) = true
      · rw [if_pos c, if_neg (by decide)]
        by_cases d : strk H n < x
        · rw [if_pos d]
          refine ih (n + 1) _ (by omega) sb.1 sb.2 (fun p a b y z => ?_)
          by_cases f : p = n
          · rw [f]; omega
          · have := hx p a (by omega) y z
            omega
        · rw [if_neg d]
          refine ih (n + 1) _ (by omega) x0 x1 (fun p a b y z => ?_)
          by_cases f : p = n
          · rw [f]; omega
          · exact hx p a (by omega) y z
      · rw [if_neg c, if_pos rfl]
        refine ih (n + 1) _ (by omega) x0 x1 (fun p a b y z => ?_)
        by_cases f : p = n
        · exfalso
          apply c
          rw [← f, y, z]
          rfl
        · exact hx p a (by omega) y z
  have := lp (H 0 4).toNat 0 201 (by omega) (by omega) (by omega) (fun p a b => by omega)
  have e : fX7_nextStrike M g = lX7_nextStrike_6 g (H 0 4).toNat 201 ((0 : Nat) : Int) M := by
    unfold fX7_nextStrike
    rw [hk.1.1.2.2.2.2.1, Int.sub_zero]
    rfl
  rw [e]
  exact this
theorem hit_mono {H : Hal} {C p : Int} {s : Nat} (h : hitb H C p s = true) : ∀ d : Nat, hitb H C p (s + d) = true
  | 0 => h
  | d + 1 => by
    show (hitb H C p (s + d) || _) = true
    rw [hit_mono h d, Bool.true_or]
theorem oST_skip {H : Hal} {C : Int} {t : Nat} {M : Mem} (ho : Hok H) (hS : oST H C t M) (h0 : M 9 7 = 0) (d : Nat) (hs : ∀ p, 0 ≤ p → p < H 0 4 → bt C p = true → opn H C t p = -1 → (t : Int) + d < strk H p) : oST H C (t + d) M := by
  have hb := ho.2.1
  obtain ⟨s1, s2, s3, s4, s5⟩ := hS
  have z := (bmask_0 s4).mp h0
  have sk := opn_skip ho (C := C) (s := t) (fun q a b _ => z q a (by omega))
  have k := sk d hs
  refine ⟨by rw [k.1, k.2.1]; exact s1, by rw [k.1]; exact s2, by rw [k.1]; exact s3, ⟨0, h0, Nat.pos_of_ne_zero (by simp), fun p a b => ?_⟩, bmask_c (fun p a b => ?_) s5⟩
  · rw [Nat.zero_testBit, k.1]
    have := k.2.2 p a (by omega)
    cases hx : bt C p with
    | true => exact (this hx).symm
    | false =>
      show false = isop H (opn H C t) p ((t + d : Nat) : Int)
      unfold isop
      rw [opn_out (fun y => by rw [hx] at y; exact absurd y.2.2 (by decide)) t]
      rfl
  · have : ∀ e : Nat, e ≤ d → hitb H C p (t + e) = hitb H C p t := by
      intro e
      induction e with
      | zero => exact fun _ => rfl
      | succ e ih =>
        intro he
        have ke := sk (e + 1) (fun p a b c f => by have := hs p a b c f; omega)
        show (hitb H C p (t + e) || (isop H (opn H C (t + e + 1)) p ((t + e + 1 : Nat) : Int) && _)) = hitb H C p t
        have io : isop H (opn H C (t + e + 1)) p ((t + e + 1 : Nat) : Int) = false := by
          cases hx : bt C p with
          | true =>
            have := ke.2.2 p a (by omega) hx
            rw [← ke.1] at this
            exact this
          | false =>
            unfold isop
            rw [opn_out (fun y => by rw [hx] at y; exact absurd y.2.2 (by decide))]
            rfl
        rw [io, ih (by omega), Bool.false_and, Bool.or_false]
    exact (this d (Nat.le_refl _)).symm
theorem cnt_none {H : Hal} {C : Int} {t : Nat} : (∀ p, 0 ≤ p → p < H 0 4 → hitb H C p t = false) ↔ ∀ p, 0 ≤ p → p < ((H 0 4).toNat : Int) → hitb H C p t = false := by
  constructor
  · intro h p a b; exact h p a (by omega)
  · intro h p a b; exact h p a (by omega)
theorem oa63 {g : Int} {H : Hal} {C v4 : Int} {Q : Int → Mem → Prop} (hg : isG g) (ho : Hok H) {M0 : Mem}
    (hQ : ∀ M' : Mem, (∀ q, q ≠ 9 → q ≠ 13 → q ≠ 14 → q ≠ 15 → M' q = M0 q) → (∀ j, j ≠ 6 → j ≠ 7 → j ≠ 8 → M' 9 j = M0 9 j) → (v4 = 0 → oST H C 200 M') → (M' 9 8 = 0 ↔ ∀ p, 0 ≤ p → p < H 0 4 → hitb H C p 200 = false) → Q 0 M') : ∀ (k t : Nat) (M : Mem), kST g H M → oST H C t M → t ≤ 200 → 200 < t + k → (∀ q, q ≠ 9 → q ≠ 13 → q ≠ 14 → q ≠ 15 → M q = M0 q) → (∀ j, j ≠ 6 → j ≠ 7 → j ≠ 8 → M 9 j = M0 9 j) →
    PX7_openAll_63 g v4 (fun M12 => Q 0 M12) Q k ((t + 1 : Nat) : Int) M := by
  have hb := ho.2.1
  intro k
  induction k with
  | zero => intro t M _ _ a b; omega
  | succ k ih =>
    intro t M hk hS ht hkk f1 f2
    refine ⟨fun z => ?_, fun z => ?_⟩
    · have : t = 200 := by omega
      rw [this] at hS
      refine hQ M f1 f2 (fun _ => hS) ?_
      rw [bmask_0 hS.2.2.2.2, cnt_none]
    · intro M3 hM3
      have ga := go_all hg ho (t := t) (by omega) hk hS
      rw [← hM3] at ga
      obtain ⟨o1, e1, e2⟩ := ga
      have k3 := kST_fr hg hk e1
      have f13 : ∀ q, q ≠ 9 → q ≠ 13 → q ≠ 14 → q ≠ 15 → M3 q = M0 q := fun q a b c d => by rw [e1 q a b c d, f1 q a b c d]
      have f23 : ∀ j, j ≠ 6 → j ≠ 7 → j ≠ 8 → M3 9 j = M0 9 j := fun j a b c => by rw [e2 j a b c, f2 j a b c]
      obtain ⟨N, n1, n2, n3, n4⟩ := nxs ho k3 o1
      -- the next second that is looked at
      have nx : ∃ s : Nat, t + 1 ≤ s ∧ s ≤ 200 ∧ oST H C s M3 ∧ wr32 ((if M3 9 7 = 0 then (if ((t + 1 : Nat) : Int) < wr32 (fX7_nextStrike M3 g - 1) then wr32 (fX7_nextStrike M3 g - 1) else ((t + 1 : Nat) : Int)) else ((t + 1 : Nat) : Int)) + 1) = ((s + 1 : Nat) : Int) := by
        rw [n1, wsu (a := N) (by omega) (by omega)]
        by_cases a : M3 9 7 = 0
        · rw [if_pos a]
          by_cases b : ((t + 1 : Nat) : Int) < N - 1
          · rw [if_pos b]
            refine ⟨(N - 1).toNat, by omega, by omega, ?_, ?_⟩
            · have := oST_skip ho o1 a ((N - 1).toNat - (t + 1)) (fun p p0 p1 p2 p3 => by have := n4 p p0 p1 p2 p3; omega)
              rw [show t + 1 + ((N - 1).toNat - (t + 1)) = (N - 1).toNat by omega] at this
              exact this
            · rw [wad (by omega) (by omega)]
              omega
          · rw [if_neg b, wad (by omega) (by omega)]
            exact ⟨t + 1, by omega, by omega, o1, by omega⟩
        · rw [if_neg a, wad (by omega) (by omega)]
          exact ⟨t + 1, by omega, by omega, o1, by omega⟩
      obtain ⟨s, s1, s2, s3, s4⟩ := nx
      have go : PX7_openAll_63 g v4 (fun M12 => Q 0 M12) Q k (wr32 ((if M3 9 7 = 0 then (if ((t + 1 : Nat) : Int) < wr32 (fX7_nextStrike M3 g - 1) then wr32 (fX7_nextStrike M3 g - 1) else ((t + 1 : Nat) : Int)) else ((t + 1 : Nat) : Int)) + 1)) M3 := by
        rw [s4]
        exact ih s M3 k3 s3 s2 (by omega) f13 f23
      refine ⟨fun _ => go, fun y => ⟨fun _ => go, fun x => ?_⟩⟩
      refine hQ M3 f13 f23 (fun w => absurd w y) ?_
      constructor
      · exact fun w => absurd w x
      · intro w
        rw [bmask_0 o1.2.2.2.2]
        intro p a b
        cases hx : hitb H C p (t + 1) with
        | false => rfl
        | true =>
          have := hit_mono hx (200 - (t + 1))
          rw [show t + 1 + (200 - (t + 1)) = 200 by omega, w p a (by omega)] at this
          cases this
theorem oa18 {K : Mem → Prop} {Q : Int → Mem → Prop} : ∀ (k n : Nat) (M : Mem), n ≤ 9 → 9 < n + k → (∀ M' : Mem, (∀ q, q ≠ 13 → q ≠ 15 → M' q = M q) → (∀ p : Int, n ≤ p → p < 9 → M' 13 p = -1 ∧ M' 15 p = 0) → (∀ p : Int, p < n → M' 13 p = M 13 p ∧ M' 15 p = M 15 p) → K M') → PX7_openAll_18 K Q k n M := by
  intro k
  induction k with
  | zero => intro n M a b; omega
  | succ k ih =>
    intro n M a b hK
    refine ⟨fun z => hK M (fun _ _ _ => rfl) (fun p x y => by omega) (fun _ _ => ⟨rfl, rfl⟩), fun z => ?_⟩
    intro M3 h3 M5 h5
    rw [rd_put (by omega) (by omega)] at h3 h5
    rw [wad (a := (n : Int)) (by omega) (by omega)]
    have e3 : ((n : Int) + 1) = ((n + 1 : Nat) : Int) := by omega
    rw [e3]
    refine ih (n + 1) M5 (by omega) (by omega) (fun M' f1 f2 f3 => hK M' (fun q x y => by rw [f1 q x y, h5, mset_p y, h3, mset_p x]) (fun p x y => ?_) (fun p x => ?_))
    · by_cases c : p = n
      · rw [c, (f3 _ (by omega)).1, (f3 _ (by omega)).2, h5, mset_o (by decide), mset_e, h3, mset_e]
        exact ⟨rfl, rfl⟩
      · exact f2 p (by omega) y
    · rw [(f3 p (by omega)).1, (f3 p (by omega)).2, h5, mset_o (by decide), mset_k (by omega), h3, mset_k (by omega), mset_o (by decide)]
      exact ⟨rfl, rfl⟩
/-- what comes of the first strike and the alarm -/
theorem oall {g : Int} {H : Hal} {C v4 : Int} {Q : Int → Mem → Prop} {M : Mem} (hg : isG g) (ho : Hok H) (C0 : 0 ≤ C) (C1 : C < 2 ^ (H 0 4).toNat) (hk : kST g H M)
    (hQ : ∀ M' : Mem, (∀ q, q ≠ 9 → q ≠ 13 → q ≠ 14 → q ≠ 15 → M' q = M q) → (∀ j, j ≠ 6 → j ≠ 7 → j ≠ 8 → M' 9 j = M 9 j) → (M 9 9 = -1 → (v4 = 0 → oST H C 200 M') ∧ (M' 9 8 = 0 ↔ ∀ p, 0 ≤ p → p < H 0 4 → hitb H C p 200 = false)) → (M 9 9 ≠ -1 → M' 9 8 = 0 ∧ ∀ p, 0 ≤ p → p < 9 → M' 13 p = -1 ∧ M' 15 p = 0) → Q 0 M') : PX7_openAll g C (ff H C) v4 M Q := by
  have hb := ho.2.1
  have f := ff_s ho C
  intro M2 h2 M4 h4 M6 h6
  have q6 : ∀ q, q ≠ 9 → M6 q = M q := fun q a => by rw [h6, mset_p a, h4, mset_p a, h2, mset_p a]
  have j6 : ∀ j, j ≠ 6 → j ≠ 7 → j ≠ 8 → M6 9 j = M 9 j := fun j a b c => by rw [h6, mset_k c, h4, mset_k b, h2, mset_k a]
  refine ⟨10, oa18 10 0 M6 (by omega) (by omega) (fun M8 e1 e2 _ => ?_)⟩
  have q8 : ∀ q, q ≠ 9 → q ≠ 13 → q ≠ 15 → M8 q = M q := fun q a b c => by rw [e1 q b c, q6 q a]
  have j8 : M8 9 = M6 9 := e1 9 (by decide) (by decide)
  have a9 : M8 9 9 = M 9 9 := by rw [j8, j6 9 (by decide) (by decide) (by decide)]
  have x8 : M8 9 8 = 0 := by rw [j8, h6, mset_e]
  refine ⟨fun z => ?_, fun z => ?_⟩
  · rw [a9] at z
    obtain ⟨t, ht⟩ : ∃ t : Nat, ((t + 1 : Nat) : Int) = ff H C := ⟨(ff H C - 1).toNat, by omega⟩
    have pre := opn_pre ho C (s := t) (by omega)
    have hit0 : ∀ p, hitb H C p t = false := by
      intro p
      have : ∀ s : Nat, s ≤ t → hitb H C p s = false := by
        intro s
        induction s with
        | zero => exact fun _ => rfl
        | succ s ih =>
          intro hs
          have pr := opn_pre ho C (s := s + 1) (by omega)
          show (hitb H C p s || (isop H (opn H C (s + 1)) p ((s + 1 : Nat) : Int) && _)) = false
          rw [ih (by omega), pr.1]
          unfold isop
          simp
      exact this t (Nat.le_refl _)
    obtain ⟨c, hc⟩ := Int.eq_ofNat_of_zero_le C0
    have hS : oST H C t M8 := by
      refine ⟨fun p a b => ?_, fun p a b d => ?_, ?_, ⟨0, ?_, Nat.pos_of_ne_zero (by simp), fun p a b => ?_⟩, ⟨0, x8, Nat.pos_of_ne_zero (by simp), fun p a b => ?_⟩⟩
      · rw [pre.1, pre.2]
        exact e2 p (by omega) b
      · rw [pre.1] at d
        exact absurd rfl d
      · refine ⟨c, ?_, ?_, fun p a b => ?_⟩
        · rw [j8, h6, mset_k (by decide), h4, mset_k (by decide), h2, mset_e, hc]
        · rw [two_pow_int, hc] at C1
          omega
        · rw [pre.1]
          show c.testBit p.toNat = (bt C p && decide ((-1 : Int) = -1))
          rw [decide_eq_true (rfl : (-1 : Int) = -1), Bool.and_true, hc, bt_n]
      · rw [j8, h6, mset_k (by decide), h4, mset_e]
        rfl
      · rw [Nat.zero_testBit, pre.1]
        unfold isop
        simp
      · rw [Nat.zero_testBit]
        exact (hit0 p).symm
    have k8 : kST g H M8 := kST_fr hg hk (fun q a b _ d => q8 q a b d)
    refine ⟨202, ?_⟩
    rw [← ht]
    refine oa63 hg ho (M0 := M8) (fun M' g1 g2 g3 g4 => ?_) 202 t M8 k8 hS (by omega) (by omega) (fun _ _ _ _ _ => rfl) (fun _ _ _ _ => rfl)
    exact hQ M' (fun q a b c d => by rw [g1 q a b c d, q8 q a b d]) (fun j a b c => by rw [g2 j a b c, j8, j6 j a b c]) (fun _ => ⟨g3, g4⟩) (fun y => absurd z y)
  · rw [a9] at z
    exact hQ M8 (fun q a b _ d => q8 q a b d) (fun j a b c => by rw [j8, j6 j a b c]) (fun y => absurd y z) (fun _ => ⟨x8, fun p a b => e2 p (by omega) b⟩)
