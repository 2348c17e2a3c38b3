/-! the text of a hall: what the class has read -/
def tf4 (g : Int) (M M' : Mem) : Prop := ∀ q, q ≠ 3 → q ≠ 4 → (q < g ∨ g + 16 < q) → M' q = M q
section
variable {b : Int → Int} {n p e g w : Int} {H : Hal} {M M' B : Mem} {Q : Int → Mem → Prop}
theorem near_lp (hg : isG g) (ho : Hok H) : ∀ (k m : Nat) (M : Mem), (m : Int) + k = H 0 0 * H 0 1 → Ch g H M → (∀ q, q ≠ g + 16 → lmX1_findNearCells_2 g k m M q = M q) ∧ (∀ c : Int, c < (m : Int) → lmX1_findNearCells_2 g k m M (g + 16) c = M (g + 16) c) ∧ (∀ c : Int, (m : Int) ≤ c → c < H 0 0 * H 0 1 → lmX1_findNearCells_2 g k m M (g + 16) c = (arn H c (H 0 7) (H 0 0 * H 0 1).toNat : Nat)) := by
  have cl := hcells ho
  have hh : 31 < g := by rcases hg with rfl | rfl <;> decide
  intro k
  induction k with
  | zero => intro m M h _; exact ⟨fun _ _ => rfl, fun _ _ => rfl, fun c x y => by omega⟩
  | succ k ih =>
    intro m M h hc
    have e : lmX1_findNearCells_2 g (k + 1) m M = (if 54 ≤ (m : Int) then M else (lmX1_findNearCells_2 g k ((m : Int) + 1) (mset M (g + 16) m (fX1_cellsAround M g m (M g 16))))) := rfl
    have ca : fX1_cellsAround M g m (M g 16) = (arn H m (H 0 7) (H 0 0 * H 0 1).toNat : Nat) := by
      rw [hc.1.2.2.2.2.2.2.2.1]
      exact arn_c ho hc (by omega) (by omega)
    rw [e, if_neg (by omega), ca, show (m : Int) + 1 = ((m + 1 : Nat) : Int) by omega]
    obtain ⟨N, hN⟩ : ∃ N, N = mset M (g + 16) m (arn H m (H 0 7) (H 0 0 * H 0 1).toNat : Nat) := ⟨_, rfl⟩
    have cN : Ch g H N := by
      obtain ⟨c1, c2, c3, c4, c5, c6, c7⟩ := hc
      have q : ∀ j, j ≠ g + 16 → N j = M j := fun j x => by rw [hN, mset_p x]
      unfold Ch
      rw [q g (by omega), q (g + 1) (by omega), q (g + 2) (by omega), q (g + 3) (by omega), q (g + 4) (by omega), q (g + 5) (by omega), q (g + 6) (by omega), q (g + 7) (by omega), q (g + 8) (by omega), q (g + 9) (by omega), q (g + 10) (by omega), q (g + 11) (by omega), q (g + 12) (by omega), q (g + 13) (by omega), q (g + 14) (by omega), q (g + 15) (by omega)]
      exact ⟨c1, c2, c3, c4, c5, c6, c7⟩
    rw [← hN]
    obtain ⟨i1, i2, i3⟩ := ih (m + 1) N (by omega) cN
    refine ⟨fun q x => by rw [i1 q x, hN, mset_p x], fun c x => by rw [i2 c (by omega), hN, mset_k (by omega)], fun c x y => ?_⟩
    by_cases z : c = (m : Int)
    · rw [z, i2 _ (by omega), hN, mset_e]
    · exact i3 c (by omega) y
theorem near_ok (hg : isG g) (ho : Hok H) (hc : Ch g H M) : (∀ q, q ≠ g + 16 → fmX1_findNearCells M g q = M q) ∧ nOK g H (fmX1_findNearCells M g) := by
  have cl := hcells ho
  have l := near_lp hg ho (H 0 0 * H 0 1).toNat 0 M (by omega) hc
  have e : fmX1_findNearCells M g = lmX1_findNearCells_2 g (H 0 0 * H 0 1).toNat ((0 : Nat) : Int) M := by
    unfold fmX1_findNearCells
    rw [ccells ho hc, Int.sub_zero]
    rfl
  rw [← e] at l
  refine ⟨l.1, fun c d c0 c1 d0 d1 => ?_⟩
  unfold fX1_isNear
  rw [if_neg (by omega), if_neg (by omega), l.2.2 c (by omega) c1]
  have ab := arn_bit ho c (H 0 7) d0 d1
  by_cases z : far H c d ≤ H 0 7
  · rw [if_pos (ab.mpr z), if_pos z]
  · rw [if_neg (fun y => z (ab.mp y)), if_neg z]
theorem tf4_t {N : Mem} (h1 : tf4 g M N) (h2 : tf4 g N M') : tf4 g M M' := fun q x y z => (h2 q x y z).trans (h1 q x y z)
theorem tf4_f (h : tfr g M M') : tf4 g M M' := fun q x _ z => h q x z
theorem Dc_4 (hg : isG g) (hD : Dc g H w M) (h : ∀ q, q ≠ 4 → M' q = M q) : Dc g H w M' := by
  have hh : 31 < g := by rcases hg with rfl | rfl <;> decide
  exact ⟨Ch_fr2 hg (fun q a c => h q (by omega)) hD.1, by rw [h g (by omega)]; exact hD.2.1, by rw [h (g + 1) (by omega)]; exact hD.2.2⟩
/-- what is read in the end -/
def rdF (b : Int → Int) (n g : Int) (B : Mem) (Q : Int → Mem → Prop) (r : Sum (Int × Int) (Hal × Int)) : Prop :=
  (∀ f pl, r = Sum.inl (f, pl) → ∀ M' : Mem, tf4 g B M' → cFl f pl M' → Q 0 M') ∧ (∀ x, r = Sum.inr x → ∀ M' : Mem, tf4 g B M' → M' 3 4 = 0 → M' 3 5 = -1 → M' 4 1 = x.2 → Ch g x.1 M' → M' (g + 1) 7 < 2 ^ (x.1 0 4).toNat → nOK g x.1 M' → (∃ w, DOK x.1 w) → Q 1 M')
theorem rd_K (hg : isG g) {s : Int} (s0 : s ≠ 0) (hT : cK b n p e M) (hD : Dc g H w M) (hd : DOK H w) (hs : M 4 1 = s) (t : tf4 g B M) (h : n ≤ p ∨ 70 ≤ s) (hR : rdF b n g B Q (if n ≤ p then Sum.inr (H, s) else Sum.inl (5, p))) :
    (((M 3 1) = 0 → (((M 4 1) = 0 → (∀ M16 : Mem, M16 = (fmX9_unasked M) → ((fX9_unasked : Int) = 0 ∨ (fX9_unasked : Int) = 1) ∧ Q fX9_unasked M16)) ∧ (¬ ((M 4 1) = 0) → (∀ M14 : Mem, M14 = (fmX1_findNearCells M g) → Q 1 M14)))) ∧ (¬ ((M 3 1) = 0) → (∀ M18 : Mem, M18 = (fmX9_fail M 5 (M 3 2)) → ((fX9_fail : Int) = 0 ∨ (fX9_fail : Int) = 1) ∧ Q fX9_fail M18))) := by
  have hh : 31 < g := by rcases hg with rfl | rfl <;> decide
  obtain ⟨ok, t1, t2, t3, t4, t5⟩ := id hT.1
  rw [t3, knd_0, hs]
  refine ⟨fun z => ⟨fun y => absurd y s0, fun _ M14 h14 => ?_⟩, fun z M18 h18 => ?_⟩
  · rw [if_pos z] at hR
    have nk := near_ok hg hd.1 hD.1
    rw [← h14] at nk
    have cN : Ch g H M14 := by
      obtain ⟨c1, c2, c3, c4, c5, c6, c7⟩ := hD.1
      have q := nk.1
      unfold Ch
      rw [q g (by omega), q (g + 1) (by omega), q (g + 2) (by omega), q (g + 3) (by omega), q (g + 4) (by omega), q (g + 5) (by omega), q (g + 6) (by omega), q (g + 7) (by omega), q (g + 8) (by omega), q (g + 9) (by omega), q (g + 10) (by omega), q (g + 11) (by omega), q (g + 12) (by omega), q (g + 13) (by omega), q (g + 14) (by omega), q (g + 15) (by omega)]
      exact ⟨c1, c2, c3, c4, c5, c6, c7⟩
    exact hR.2 _ rfl M14 (fun q x y v => by rw [nk.1 q (by omega)]; exact t q x y v) (by rw [nk.1 3 (by omega)]; exact hT.2.1) (by rw [nk.1 3 (by omega)]; exact hT.2.2) (by rw [nk.1 4 (by omega)]; exact hs) cN (by rw [nk.1 _ (by omega)]; exact hD.2.2) nk.2 ⟨w, hd⟩
  · rw [if_neg z] at hR
    rw [t4] at h18
    have fc := fail_c hT 5 p
    rw [h18]
    exact ⟨Or.inl rfl, hR.1 5 p rfl _ (tf4_t t (fun q x _ _ => fc.1 q x)) fc.2⟩
theorem rd16 (hg : isG g) : ∀ (j k : Nat) (s p e w : Int) (H : Hal) (M : Mem), s + j = 72 → 1 ≤ s → s ≤ 70 → j < k → cK b n p e M → Dc g H w M → DOK H w → M 4 1 = s → tf4 g B M → rdF b n g B Q (pZ b n j p e H w s) → PX2_read_16 g (fun M9 => (((M9 3 1) = 0 → (((M9 4 1) = 0 → (∀ M16 : Mem, M16 = (fmX9_unasked M9) → ((fX9_unasked : Int) = 0 ∨ (fX9_unasked : Int) = 1) ∧ Q fX9_unasked M16)) ∧ (¬ ((M9 4 1) = 0) → (∀ M14 : Mem, M14 = (fmX1_findNearCells M9 g) → Q 1 M14)))) ∧ (¬ ((M9 3 1) = 0) → (∀ M18 : Mem, M18 = (fmX9_fail M9 5 (M9 3 2)) → ((fX9_fail : Int) = 0 ∨ (fX9_fail : Int) = 1) ∧ Q fX9_fail M18)))) Q k M := by
  have hh : 31 < g := by rcases hg with rfl | rfl <;> decide
  intro j
  induction j with
  | zero => intro k s p e w H M a a1 a2; omega
  | succ j ih =>
    intro k s p e w H M a a1 a2 hk hT hD hd hs t hR
    obtain ⟨k, rfl⟩ : ∃ i, k = i + 1 := ⟨k - 1, by omega⟩
    have eZ : pZ b n (j + 1) p e H w s = if n ≤ p then Sum.inr (H, s) else if s = 70 then Sum.inl (5, p) else bnd (pA b n p e H w) (fun x => pZ b n j x.2.1 x.2.2 x.1.1 x.1.2 (s + 1)) := rfl
    rw [eZ] at hR
    refine ⟨fun z => ?_, fun z => ⟨fun y => ?_, fun y => ?_⟩⟩
    · rw [hs] at z
      have s70 : s = 70 := by omega
      refine rd_K hg (by omega) hT hD hd hs t (Or.inr z) ?_
      by_cases v : n ≤ p
      · rw [if_pos v] at hR ⊢; exact hR
      · rw [if_neg v, if_pos s70] at hR
        rw [if_neg v]; exact hR
    · rw [hT.1.2.2.2.1, knd_0] at y
      refine rd_K hg (by omega) hT hD hd hs t (Or.inl y) ?_
      rw [if_pos y] at hR ⊢; exact hR
    · rw [hT.1.2.2.2.1, knd_0] at y
      rw [hs] at z
      rw [if_neg y, if_neg (by omega)] at hR
      refine sta_c hg hd hT hD (by rw [hs]; omega) (fun f pl h M' t' c => ⟨fun _ => hR.1 f pl (bnd_l h) M' (tf4_t t (tf4_f t')) c, fun v => absurd rfl v⟩) (fun x h M' t' k' D' => ⟨fun v => absurd v (by decide), fun _ M8 h8 => ?_⟩)
      have s4 : M' 4 1 = s := by rw [t' 4 (by decide) (by omega)]; exact hs
      rw [s4, wad (by omega) (by omega)] at h8
      rw [bnd_r h] at hR
      refine ih k (s + 1) x.2.1 x.2.2 x.1.2 x.1.1 M8 (by omega) (by omega) (by omega) (by omega) (cK_d k' (fun q c => by rw [h8, mset_p (by omega)])) (Dc_4 hg D' (fun q c => by rw [h8, mset_p c])) (pA_ok hd hT.1.1 h) (by rw [h8, mset_e]) (tf4_t (tf4_t t (tf4_f t')) (fun q _ c _ => by rw [h8, mset_p c])) hR
theorem read_c (hg : isG g) (hn : 0 ≤ n ∧ n ≤ 1600) (hb : ∀ k, 0 ≤ k → k < n → 0 ≤ b k ∧ b k ≤ 255) (h1 : M 1 1 = n) (h2 : ∀ k, 0 ≤ k → k < n → M 2 k = b k) (hR : rdF b n g M Q (pText b n)) : PX2_read g M Q := by
  have hh : 31 < g := by rcases hg with rfl | rfl <;> decide
  intro M2 g2 M4 g4
  have cl := clr_c (M := M) hg
  rw [← g2] at cl
  have t4 : tf4 g M M4 := fun q x y z => by rw [g4, mset_p y]; exact cl.2.1 q x z
  refine beg_c hn hb (by rw [t4 1 (by decide) (by decide) (by omega)]; exact h1) (fun k x y => by rw [t4 2 (by decide) (by decide) (by omega)]; exact h2 k x y) (fun M6 r6 k6 => ⟨73, ?_⟩)
  have D6 : Dc g H00c 0 M6 := Dc_fr hg r6 (Dc_4 hg cl.1 (fun q c => by rw [g4, mset_p c]))
  have s6 : M6 4 1 = 0 := by rw [r6 4 (by decide), g4, mset_e]
  have T6 : tf4 g M M6 := tf4_t t4 (fun q x _ _ => r6 q x)
  unfold pText at hR
  have un := una_c k6
  refine ⟨fun z => by rw [s6] at z; exact absurd z (by decide), fun _ => ⟨fun z => ?_, fun z => ?_⟩⟩
  · have z' := z
    rw [k6.1.2.2.2.1] at z'
    refine ⟨fun _ => ⟨fun _ M16 h16 => ?_, fun v => absurd s6 v⟩, fun v => absurd z v⟩
    rw [h16]
    refine ⟨Or.inl rfl, hR.1 1 (fwd blk b n 0) ?_ _ (tf4_t T6 (fun q x _ _ => un.1 q x)) un.2⟩
    refine bnd_l ?_
    unfold p1
    refine bnd_l ?_
    unfold pW
    rw [if_neg]
    intro w
    have := (iswd_k w).1
    omega
  · refine st1_c hg k6 D6 s6 (fun f pl h M' t' c => ⟨fun _ => hR.1 f pl (bnd_l h) M' (tf4_t T6 (tf4_f t')) c, fun v => absurd rfl v⟩) (fun x h M' t' k' D' d' => ⟨fun v => absurd v (by decide), fun _ M8 h8 => ?_⟩)
    have s4 : M' 4 1 = 0 := by rw [t' 4 (by decide) (by omega)]; exact s6
    rw [s4] at h8
    have h8' : M8 = mset M' 4 1 1 := h8
    rw [bnd_r h] at hR
    exact rd16 hg 71 72 1 x.2.1 x.2.2 0 x.1 M8 (by decide) (by decide) (by decide) (by decide) (cK_d k' (fun q c => by rw [h8', mset_p (by omega)])) (Dc_4 hg D' (fun q c => by rw [h8', mset_p c])) d' (by rw [h8', mset_e]) (tf4_t (tf4_t T6 (tf4_f t')) (fun q _ c _ => by rw [h8', mset_p c])) hR
end
