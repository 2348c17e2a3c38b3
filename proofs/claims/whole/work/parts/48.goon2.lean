theorem opn_e (H : Hal) (C : Int) (s : Nat) (p : Int) : opn H C (s + 1) p = if 0 ≤ p ∧ p < H 0 4 ∧ bt C p = true ∧ opn H C s p = -1 ∧ bys H C (opn H C s) p s ≠ 0 then (s : Int) + 1 else opn H C s p := rfl
theorem hws_e (H : Hal) (C : Int) (s : Nat) (p : Int) : hws H C (s + 1) p = if 0 ≤ p ∧ p < H 0 4 ∧ bt C p = true ∧ opn H C s p = -1 then bys H C (opn H C s) p s else hws H C s p := rfl
theorem hws_0 {H : Hal} {C p : Int} : ∀ t : Nat, opn H C t p = -1 → hws H C t p = 0
  | 0, _ => rfl
  | t + 1, ht => by
    rw [opn_e] at ht
    rw [hws_e]
    by_cases y : 0 ≤ p ∧ p < H 0 4 ∧ bt C p = true ∧ opn H C t p = -1 ∧ bys H C (opn H C t) p t ≠ 0
    · rw [if_pos y] at ht
      omega
    · rw [if_neg y] at ht
      by_cases x : 0 ≤ p ∧ p < H 0 4 ∧ bt C p = true ∧ opn H C t p = -1
      · rw [if_pos x]
        exact Decidable.byContradiction (fun u => y ⟨x.1, x.2.1, x.2.2.1, x.2.2.2, u⟩)
      · rw [if_neg x]
        exact hws_0 t ht
theorem mix_s {n p : Int} {f h : Int → Int} (e : p ≠ n) : mixn (n + 1) f h p = mixn n f h p := by
  unfold mixn
  by_cases a : p < n
  · rw [if_pos a, if_pos (by omega)]
  · rw [if_neg a, if_neg (by omega)]
theorem mix_n {n : Int} {f h : Int → Int} : mixn (n + 1) f h n = f n ∧ mixn n f h n = h n := by
  unfold mixn
  rw [if_pos (by omega), if_neg (by omega)]
  exact ⟨rfl, rfl⟩
theorem ixm {p : Int} {t : Nat} (p0 : 0 ≤ p) (p1 : p < 9) (ht : t < 200) : wr32 (wr32 (wr32 (p * 201) + ((t + 1 : Nat) : Int)) - 1) = 201 * p + t := by
  rw [wmu (a := p) (by omega) (by omega), wad (by omega) (by omega), wsu (by omega) (by omega)]
  omega
/-- one of the people, one second -/
def gstep (M : Mem) (g u A p : Int) : Mem := (if (m_and (M 9 6) (m_shl 1 p)) = 0 then (if (m_and A (m_shl 1 p)) = 0 then M else (if u < (wr32 ((fX11_get M 13 9 p) + (M g 15))) then M else (mset M 9 7 (m_and (M 9 7) (m_xor (m_shl 1 p) (-1)))))) else (if (fX7_opensBy M g p u A) = 0 then M else (mset (mset (fmX11_put (fmX11_put (fmX11_put M 13 9 p u) 14 9 p (fX11_get (fmX11_put M 13 9 p u) 10 1809 (wr32 ((wr32 ((wr32 (p * 201)) + u)) - 1)))) 15 9 p (fX7_opensBy M g p u A)) 9 6 (m_and ((fmX11_put (fmX11_put (fmX11_put M 13 9 p u) 14 9 p (fX11_get (fmX11_put M 13 9 p u) 10 1809 (wr32 ((wr32 ((wr32 (p * 201)) + u)) - 1)))) 15 9 p (fX7_opensBy M g p u A)) 9 6) (m_xor (m_shl 1 p) (-1)))) 9 7 (m_or ((mset (fmX11_put (fmX11_put (fmX11_put M 13 9 p u) 14 9 p (fX11_get (fmX11_put M 13 9 p u) 10 1809 (wr32 ((wr32 ((wr32 (p * 201)) + u)) - 1)))) 15 9 p (fX7_opensBy M g p u A)) 9 6 (m_and ((fmX11_put (fmX11_put (fmX11_put M 13 9 p u) 14 9 p (fX11_get (fmX11_put M 13 9 p u) 10 1809 (wr32 ((wr32 ((wr32 (p * 201)) + u)) - 1)))) 15 9 p (fX7_opensBy M g p u A)) 9 6) (m_xor (m_shl 1 p) (-1)))) 9 7) (m_shl 1 p)))))
theorem gstep_e {M : Mem} {g A p b : Int} {t : Nat} (p0 : 0 ≤ p) (p1 : p < 9) (ht : t < 200) (hb : fX7_opensBy M g p ((t + 1 : Nat) : Int) A = b) : gstep M g ((t + 1 : Nat) : Int) A p = (if (m_and (M 9 6) (m_shl 1 p)) = 0 then (if (m_and A (m_shl 1 p)) = 0 then M else (if ((t + 1 : Nat) : Int) < (wr32 (M 13 p + (M g 15))) then M else (mset M 9 7 (m_and (M 9 7) (m_xor (m_shl 1 p) (-1)))))) else (if b = 0 then M else (mset (mset (mset (mset (mset M 13 p ((t + 1 : Nat) : Int)) 14 p (M 10 (201 * p + t))) 15 p b) 9 6 (m_and (M 9 6) (m_xor (m_shl 1 p) (-1)))) 9 7 (m_or (M 9 7) (m_shl 1 p))))) := by
  unfold gstep
  rw [hb, ixm p0 p1 ht, rd_get (M := M) p0 (by omega), rd_put (M := M) p0 (by omega), rd_get (M := mset M 13 p ((t + 1 : Nat) : Int)) (by omega) (by omega), mset_o (M := M) (p := 13) (q := 10) (by decide), rd_put p0 (by omega), rd_put p0 (by omega), mset_o (q := 9) (p := 15) (by decide), mset_o (q := 9) (p := 14) (by decide), mset_o (q := 9) (p := 13) (by decide), mset_k (p := 9) (j := 7) (k := 6) (by decide), mset_o (q := 9) (p := 15) (by decide), mset_o (q := 9) (p := 14) (by decide), mset_o (q := 9) (p := 13) (by decide)]
theorem gst_1 {H : Hal} {M : Mem} {C g : Int} {t : Nat} {p : Int} {A : Nat} (hg : isG g) (ho : Hok H) (hc : Ch g H M) (hn : nOK g H M) (p0 : 0 ≤ p) (p1 : p < H 0 4) (ht : t < 200) (h12 : M 12 p = strk H p) (hw : M 10 (201 * p + t) = wlk H p t)
    (hA : A < 2 ^ (H 0 4).toNat) (hA2 : ∀ p : Int, 0 ≤ p → p < H 0 4 → A.testBit p.toNat = isop H (opn H C t) p t) (hS : gST H C t p M) :
    gST H C t (p + 1) (gstep M g ((t + 1 : Nat) : Int) A p) ∧ (∀ q, q ≠ 9 → q ≠ 13 → q ≠ 14 → q ≠ 15 → gstep M g ((t + 1 : Nat) : Int) A p q = M q) ∧ (∀ j, j ≠ 6 → j ≠ 7 → gstep M g ((t + 1 : Nat) : Int) A p 9 j = M 9 j) := by
  have hb := ho.2.1
  obtain ⟨s1, s2, s3, s4⟩ := hS
  have oe := opn_e H C t p
  have he := hws_e H C t p
  have ob := opn_b H C p t
  have h14 : ∀ q, 0 ≤ q → q < H 0 4 → opn H C t q ≠ -1 → M 14 q = wlk H q (opn H C t q - 1).toNat := by
    intro q q0 q1 hq
    have e : mixn p (opn H C (t + 1)) (opn H C t) q = opn H C t q := by
      unfold mixn
      by_cases a : q < p
      · rw [if_pos a, opn_le (Nat.le_succ t) hq]
      · rw [if_neg a]
    have := s2 q q0 q1 (by rw [e]; exact hq)
    rw [e] at this
    exact this
  have hop := obn (g := g) (M := M) (C := C) (A := A) ho hc hn p0 p1 ht h12 hw hA hA2 h14
  have hP9 : (H 0 4).toNat ≤ 9 := by omega
  have hpP : p < ((H 0 4).toNat : Int) := by omega
  have tW := bmask_tst hP9 p0 hpP s3
  have mA : bmask (H 0 4).toNat ((A : Nat) : Int) (fun p => isop H (opn H C t) p t) := ⟨A, rfl, hA, fun q a b => hA2 q a (by omega)⟩
  have tA := bmask_tst hP9 p0 hpP mA
  obtain ⟨b, hbb⟩ : ∃ b : Int, b = bys H C (opn H C t) p t := ⟨_, rfl⟩
  rw [← hbb] at hop oe he
  rw [gstep_e p0 (by omega) ht hop]
  have ei : isop H (opn H C t) p t = decide (opn H C t p ≠ -1 ∧ opn H C t p ≤ (t : Int) ∧ (t : Int) < opn H C t p + H 0 6) := rfl
  have ej : isop H (opn H C (t + 1)) p ((t + 1 : Nat) : Int) = decide (opn H C (t + 1) p ≠ -1 ∧ opn H C (t + 1) p ≤ ((t + 1 : Nat) : Int) ∧ ((t + 1 : Nat) : Int) < opn H C (t + 1) p + H 0 6) := rfl
  have mn := mix_n (n := p) (f := opn H C (t + 1)) (h := opn H C t)
  -- where nothing is written: all but person p is as before
  have same : ∀ N : Mem, (∀ q, q ≠ p → N 13 q = M 13 q ∧ N 15 q = M 15 q ∧ N 14 q = M 14 q) → N 13 p = opn H C (t + 1) p → N 15 p = hws H C (t + 1) p → (opn H C (t + 1) p ≠ -1 → N 14 p = wlk H p (opn H C (t + 1) p - 1).toNat) →
      bmask (H 0 4).toNat (N 9 6) (fun q => bt C q && decide (mixn (p + 1) (opn H C (t + 1)) (opn H C t) q = -1)) → bmask (H 0 4).toNat (N 9 7) (fun q => if q < p + 1 then isop H (opn H C (t + 1)) q ((t + 1 : Nat) : Int) else isop H (opn H C t) q t) → gST H C t (p + 1) N := by
    intro N n1 n2 n3 n4 n5 n6
    refine ⟨fun q a c => ?_, fun q a c d => ?_, n5, n6⟩
    · by_cases e : q = p
      · rw [e, mn.1, (mix_n (n := p)).1, n2, n3]
        exact ⟨rfl, rfl⟩
      · rw [mix_s e, mix_s e, (n1 q e).1, (n1 q e).2.1]
        exact s1 q a c
    · by_cases e : q = p
      · rw [e, mn.1] at d ⊢
        exact n4 d
      · rw [mix_s e] at d ⊢
        rw [(n1 q e).2.2]
        exact s2 q a c d
  have o13 : M 13 p = opn H C t p := by rw [(s1 p p0 (by omega)).1, mn.2]
  have o15 : M 15 p = hws H C t p := by rw [(s1 p p0 (by omega)).2, (mix_n (n := p)).2]
  -- the masks where p's bits need no change
  have keepW : (bt C p && decide (opn H C (t + 1) p = -1)) = (bt C p && decide (opn H C t p = -1)) → bmask (H 0 4).toNat (M 9 6) (fun q => bt C q && decide (mixn (p + 1) (opn H C (t + 1)) (opn H C t) q = -1)) := by
    intro e
    refine bmask_c (fun q a c => ?_) s3
    by_cases d : q = p
    · rw [d, mn.1, mn.2, e]
    · rw [mix_s d]
  have keepA : isop H (opn H C (t + 1)) p ((t + 1 : Nat) : Int) = isop H (opn H C t) p t → bmask (H 0 4).toNat (M 9 7) (fun q => if q < p + 1 then isop H (opn H C (t + 1)) q ((t + 1 : Nat) : Int) else isop H (opn H C t) q t) := by
    intro e
    refine bmask_c (fun q a c => ?_) s4
    by_cases d : q = p
    · rw [d, if_neg (by omega), if_pos (by omega), e]
    · by_cases f : q < p
      · rw [if_pos f, if_pos (by omega)]
      · rw [if_neg f, if_neg (by omega)]
  by_cases cw : bt C p = true ∧ opn H C t p = -1
  · have nw : ¬ (m_and (M 9 6) (m_shl 1 p) = 0) := by
      rw [tW, mn.2, cw.1, cw.2]
      decide
    rw [if_neg nw]
    by_cases cb : b = 0
    · rw [if_pos cb]
      rw [if_neg (fun z => z.2.2.2.2 cb)] at oe
      rw [if_pos ⟨p0, p1, cw.1, cw.2⟩, cb] at he
      refine ⟨same M (fun _ _ => ⟨rfl, rfl, rfl⟩) (by rw [oe, o13]) (by rw [he, o15, hws_0 t cw.2]) (fun z => absurd (oe.trans cw.2) z) (keepW (by rw [oe])) (keepA ?_), fun _ _ _ _ _ => rfl, fun _ _ _ => rfl⟩
      rw [ei, ej, oe, cw.2]
      rfl
    · rw [if_neg cb]
      rw [if_pos ⟨p0, p1, cw.1, cw.2, cb⟩] at oe
      rw [if_pos ⟨p0, p1, cw.1, cw.2⟩] at he
      refine ⟨same _ (fun q hq => ?_) ?_ ?_ ?_ ?_ ?_, ?_, ?_⟩
      · refine ⟨?_, ?_, ?_⟩
        · rw [mset_o (by decide), mset_o (by decide), mset_o (by decide), mset_o (by decide), mset_k hq]
        · rw [mset_o (by decide), mset_o (by decide), mset_k hq, mset_o (by decide), mset_o (by decide)]
        · rw [mset_o (by decide), mset_o (by decide), mset_o (by decide), mset_k hq, mset_o (by decide)]
      · rw [mset_o (by decide), mset_o (by decide), mset_o (by decide), mset_o (by decide), mset_e, oe]
        omega
      · rw [mset_o (by decide), mset_o (by decide), mset_e, he]
      · intro _
        rw [mset_o (by decide), mset_o (by decide), mset_o (by decide), mset_e, hw, oe]
        congr 1
        omega
      · rw [mset_k (by decide), mset_e]
        refine bmask_c (fun q a c => ?_) (bmask_clr hP9 p0 hpP s3)
        by_cases d : q = p
        · rw [d, mn.1, oe, decide_eq_true (rfl : p = p), decide_eq_false (by omega : ¬ ((t : Int) + 1 = -1))]
          simp
        · rw [mix_s d, decide_eq_false d]
          simp
      · rw [mset_e]
        refine bmask_c (fun q a c => ?_) (bmask_set hP9 p0 hpP s4)
        by_cases d : q = p
        · rw [d, if_neg (by omega), if_pos (by omega), ej, oe, decide_eq_true (rfl : p = p), Bool.or_true, decide_eq_true (by omega)]
        · rw [decide_eq_false d, Bool.or_false]
          by_cases f : q < p
          · rw [if_pos f, if_pos (by omega)]
          · rw [if_neg f, if_neg (by omega)]
      · intro q a c d e
        rw [mset_p a, mset_p a, mset_p e, mset_p d, mset_p c]
      · intro j a c
        rw [mset_k c, mset_k a, mset_o (by decide), mset_o (by decide), mset_o (by decide)]
  · have nw : m_and (M 9 6) (m_shl 1 p) = 0 := by
      rw [tW, mn.2]
      cases hx : bt C p with
      | false => rfl
      | true => rw [decide_eq_false (fun z => cw ⟨hx, z⟩)]; rfl
    rw [if_pos nw]
    rw [if_neg (fun z => cw ⟨z.2.2.1, z.2.2.2.1⟩)] at oe
    rw [if_neg (fun z => cw ⟨z.2.2.1, z.2.2.2⟩)] at he
    have kW := keepW (by rw [oe])
    by_cases ca : isop H (opn H C t) p t = false
    · rw [if_pos (tA.mpr ca)]
      refine ⟨same M (fun _ _ => ⟨rfl, rfl, rfl⟩) (by rw [oe, o13]) (by rw [he, o15]) (fun z => ?_) kW (keepA ?_), fun _ _ _ _ _ => rfl, fun _ _ _ => rfl⟩
      · rw [oe] at z ⊢
        exact h14 p p0 p1 z
      · rw [ca, ej, oe]
        rw [ei, decide_eq_false_iff_not] at ca
        rw [decide_eq_false_iff_not]
        intro z
        exact ca ⟨z.1, by omega, by omega⟩
    · rw [if_neg (fun z => ca (tA.mp z))]
      have cat : isop H (opn H C t) p t = true := by
        cases hx : isop H (opn H C t) p t with
        | true => rfl
        | false => exact absurd hx ca
      have cat2 := cat
      rw [ei, decide_eq_true_iff] at cat2
      rw [o13, hc.1.2.2.2.2.2.2.1, wad (by omega) (by omega)]
      by_cases cl : ((t + 1 : Nat) : Int) < opn H C t p + H 0 6
      · rw [if_pos cl]
        refine ⟨same M (fun _ _ => ⟨rfl, rfl, rfl⟩) (by rw [oe, o13]) (by rw [he, o15]) (fun z => ?_) kW (keepA ?_), fun _ _ _ _ _ => rfl, fun _ _ _ => rfl⟩
        · rw [oe] at z ⊢
          exact h14 p p0 p1 z
        · rw [cat, ej, oe, decide_eq_true_iff]
          exact ⟨cat2.1, by omega, cl⟩
      · rw [if_neg cl]
        refine ⟨same _ (fun q hq => ?_) ?_ ?_ (fun z => ?_) ?_ ?_, ?_, ?_⟩
        · rw [mset_p (by decide), mset_p (by decide), mset_p (by decide)]
          exact ⟨rfl, rfl, rfl⟩
        · rw [mset_o (by decide), oe, o13]
        · rw [mset_o (by decide), he, o15]
        · rw [mset_o (by decide)]
          rw [oe] at z ⊢
          exact h14 p p0 p1 z
        · rw [mset_k (by decide)]
          exact kW
        · rw [mset_e]
          refine bmask_c (fun q a c => ?_) (bmask_clr hP9 p0 hpP s4)
          by_cases d : q = p
          · rw [d, if_neg (by omega), if_pos (by omega), ej, oe, decide_eq_true (rfl : p = p), decide_eq_false (show ¬ (opn H C t p ≠ -1 ∧ opn H C t p ≤ ((t + 1 : Nat) : Int) ∧ ((t + 1 : Nat) : Int) < opn H C t p + H 0 6) from fun z => cl z.2.2)]
            simp
          · rw [decide_eq_false d]
            simp only [Bool.not_false, Bool.and_true]
            by_cases f : q < p
            · rw [if_pos f, if_pos (by omega)]
            · rw [if_neg f, if_neg (by omega)]
        · intro q a c d e
          rw [mset_p a]
        · intro j a c
          rw [mset_k c]
