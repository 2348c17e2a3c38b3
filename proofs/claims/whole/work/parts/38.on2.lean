theorem inv_on : ∀ E, Two_on E Inv := by
  intro E
  refine two_on (fun M hI hkk => ?_)
  obtain ⟨h, H, hG, hI⟩ := hI
  have hI' := hI
  obtain ⟨hok, hc, hr, hT, hF, hK, hC, hS, hO, hA, hW⟩ := hI
  have hh := hG.2.2.2
  have hb := hok.2.1
  have hT' := hT
  obtain ⟨t1, t2, t3, t4⟩ := hT
  have hh2 : 32 ≤ h ∧ h ≤ 49 := by rcases hh with z | z <;> rw [z] <;> decide
  have hi : ilen H = 3 * H 0 4 + H 0 2 := rfl
  refine ⟨h, hG, ?_⟩
  obtain ⟨P, hP⟩ : ∃ P : Prop, P = (¬ H 0 0 = 0 ∧ M 1 1 = ilen H + 1 ∧ (∀ i, 0 ≤ i → i < ilen H → okk H (M 2) i) ∧ M 2 (ilen H) = chk (M 2) (ilen H).toNat) := ⟨_, rfl⟩
  -- the class's answer
  have cls : (fX11_on M h = 1 ∧ fX1_isTold M h = 1 ∧ fX1_isImage M h = 1 ∧ P) ∨ (fX11_on M h = 0 ∧ (fX1_isTold M h = 0 ∨ fX1_isImage M h = 0) ∧ ¬ P) := by
    have e1 : fX1_isTold M h = if 0 < H 0 0 then 1 else 0 := by
      unfold fX1_isTold
      rw [hc.1.1]
      by_cases a : 0 < H 0 0
      · simp [a]
      · simp [a]
    unfold fX11_on
    by_cases a : 0 < H 0 0
    · rw [e1, if_pos a]
      simp only [(by decide : ¬ (1 : Int) = 0), if_false]
      have e2 : wr32 (fX1_imageLength M h - 1) = ilen H := by rw [imlen hok hc, wsu (by omega) (by omega)]; omega
      have e3 : fX1_isImage M h = if M 1 1 = ilen H + 1 then lX1_isImage_26 h (ilen H).toNat (ilen H) 151 0 M else 0 := by
        unfold fX1_isImage
        rw [e2, wad (by omega) (by omega), Int.sub_zero]
      by_cases b : M 1 1 = ilen H + 1
      · rw [e3, if_pos b]
        rcases isi hok hc hT' b (ilen H).toNat 0 (by omega) (by omega) with ⟨z1, z2⟩ | ⟨z1, z2⟩
        · have z1' : lX1_isImage_26 h (ilen H).toNat (ilen H) 151 0 M = 1 := z1
          rw [z1']
          exact Or.inl ⟨rfl, by trivial, by trivial, by rw [hP]; exact ⟨by omega, b, z2.1, z2.2⟩⟩
        · have z1' : lX1_isImage_26 h (ilen H).toNat (ilen H) 151 0 M = 0 := z1
          rw [z1']
          exact Or.inr ⟨rfl, Or.inr rfl, fun y => z2 (by rw [hP] at y; exact ⟨y.2.2.1, y.2.2.2⟩)⟩
      · rw [e3, if_neg b]
        exact Or.inr ⟨rfl, Or.inr rfl, fun y => b (by rw [hP] at y; exact y.2.1)⟩
    · rw [e1, if_neg a]
      exact Or.inr ⟨rfl, Or.inl rfl, fun y => by rw [hP] at y; have := hok.1; omega⟩
  -- the reference's answer
  have ref : ∀ N : Mem, Rh H N → (∀ i, N 67 i = M 67 i) → (nX12_isTold N (M 1 1) ∧ ((fX12_isTold N (M 1 1) = 1 ∧ P) ∨ (fX12_isTold N (M 1 1) = 0 ∧ ¬ P))) := by
    intro N hN h67
    have e0 : wr32 (wr32 (wr32 (3 * fX12_peopleMany N) + fX12_doorMany N) + 1) = ilen H + 1 := by
      rw [pMany hN, dMany hN, wmu (by omega) (by omega), wad (a := 3 * H 0 4) (by omega) (by omega), wad (by omega) (by omega)]
      rfl
    have e1 : wr32 (3 * fX12_peopleMany N) = 3 * H 0 4 := by rw [pMany hN, wmu (by omega) (by omega)]
    unfold nX12_isTold fX12_isTold
    rw [e0, e1, hN.1.1, pMany hN, Int.sub_zero]
    by_cases a : H 0 0 = 0
    · rw [if_pos a]
      exact ⟨⟨fun z => absurd a z, fun z => absurd a z, fun z => absurd a z⟩, Or.inr ⟨rfl, fun y => by rw [hP] at y; exact y.1 a⟩⟩
    rw [if_neg a]
    by_cases b : M 1 1 = ilen H + 1
    · rw [if_pos b, b]
      have e2 : wr32 (ilen H + 1 - 1) = ilen H := by rw [wsu (by omega) (by omega)]; omega
      rw [e2]
      have m67 : ∀ i, 0 ≤ i → i ≤ ilen H → N 67 i = M 2 i := fun i a c => (h67 i).trans (t4 i a (by omega)).1
      obtain ⟨f, hf⟩ : ∃ f : Int → Int, f = fun i => if 0 ≤ i ∧ i ≤ ilen H then M 2 i else 0 := ⟨_, rfl⟩
      have hfb : ∀ i : Int, 0 ≤ i → i < (1600 : Nat) → 0 ≤ f i ∧ f i ≤ 255 := by
        intro i a c
        rw [hf]
        by_cases c : 0 ≤ i ∧ i ≤ ilen H
        · have := t4 i c.1 (by omega)
          simp only [if_pos c]
          omega
        · simp only [if_neg c]
          omega
      have ck := ckd (P := 67) hfb (ilen H).toNat (ilen H) 0 N (fun i a c => by rw [m67 i a (by omega), hf]; simp only [if_pos (show 0 ≤ i ∧ i ≤ ilen H by omega)]) (by omega) (by omega)
      rw [show chk f (0 : Int).toNat = 151 from rfl, show (0 : Int).toNat + (ilen H).toNat = (ilen H).toNat from Nat.zero_add _] at ck
      have ec : chk f (ilen H).toNat = chk (M 2) (ilen H).toNat := chk_c _ (fun i a c => by rw [hf]; simp only [if_pos (show 0 ≤ i ∧ i ≤ ilen H by omega)])
      have e3 : fX12_checked N 67 1600 (ilen H) = chk (M 2) (ilen H).toNat := by
        unfold fX12_checked
        rw [Int.sub_zero, ck.1, ec]
      have e4 : nX12_checked N 67 1600 (ilen H) := by
        unfold nX12_checked
        rw [Int.sub_zero]
        exact ck.2
      rw [e3, m67 (ilen H) (by omega) (by omega)]
      have pp := ist_p hok hN (b := M 2) m67 (fun i a c => (t4 i a (by omega)).2.1) (ilen H + 1) (H 0 4).toNat 0 (by omega) (by omega)
      refine ⟨⟨fun _ _ => ⟨by omega, by omega⟩, fun _ _ => e4, fun _ _ _ => pp.1⟩, ?_⟩
      by_cases c : M 2 (ilen H) = chk (M 2) (ilen H).toNat
      · rw [if_pos c]
        rcases pp.2 with ⟨z1, z2⟩ | ⟨z1, z2⟩
        · exact Or.inl ⟨z1, by rw [hP]; exact ⟨a, b, fun i x y => z2 i (by omega) y, c⟩⟩
        · exact Or.inr ⟨z1, fun y => z2 (by rw [hP] at y; exact fun i x w => y.2.2.1 i (by omega) w)⟩
      · rw [if_neg c]
        exact Or.inr ⟨rfl, fun y => c (by rw [hP] at y; exact y.2.2.2)⟩
    · rw [if_neg b]
      exact ⟨⟨fun _ z => absurd z b, fun _ z => absurd z b, fun _ z => absurd z b⟩, Or.inr ⟨rfl, fun y => b (by rw [hP] at y; exact y.2.1)⟩⟩
  have cut0 : ∀ N : Mem, 0 ≤ N 1 1 → fmX8_cutTo N 0 = mset N 1 1 0 := by
    intro N hN
    unfold fmX8_cutTo
    rw [if_neg (by decide), if_pos hN]
  unfold PX11_on PX12_on
  rcases cls with ⟨c1, c2, c3, c4⟩ | ⟨c1, c2, c4⟩
  · -- taken on
    rw [c1]
    have f1 : fmX11_on M h = mset (mset (mset (mset (fmX1_takeImage M h) 27 3 0) 0 16 1) 0 17 1) 1 1 0 := by
      unfold fmX11_on
      rw [c2, c3]
      simp only [(by decide : ¬ (1 : Int) = 0), if_false]
      rw [cut0, chd]
      · unfold fmX0_forget
        have w1 := hW.1
        have : (mset (fmX1_takeImage M h) 27 3 0) 0 16 = M 0 16 := by rw [mset_o (by decide), frX1_takeImage (by omega) (by omega) (by omega) (by omega)]
        rw [this]
        congr 3
        rcases w1 with z | z <;> rw [z] <;> rfl
      · rw [chd, mset_o (by decide), mset_o (by decide)]
        unfold fmX0_forget
        rw [mset_o (by decide), frX1_takeImage (by omega) (by omega) (by omega) (by omega)]
        exact t1
    obtain ⟨p1, p2, p3, p4⟩ : _ := by rw [hP] at c4; exact c4
    obtain ⟨b, hbe⟩ : ∃ b : Int → Int, b = M 2 := ⟨_, rfl⟩
    have bb : ∀ i, 0 ≤ i → i < ilen H → 0 ≤ b i ∧ b i ≤ 255 := fun i a c => by rw [hbe]; exact (t4 i a (by omega)).2
    have tk := tki hh hok (b := b) (ilen H).toNat 0 M hc.1.2.2.2.2.1 (by omega) (by omega) (by omega) t2 (fun i _ _ => by rw [hbe])
    have etk : fmX1_takeImage M h = lmX1_takeImage_2 h (ilen H).toNat 0 M := by
      unfold fmX1_takeImage
      rw [imlen hok hc, wsu (by omega) (by omega), Int.sub_zero, show ilen H + 1 - 1 = ilen H by omega]
    rw [← etk] at tk
    obtain ⟨M1, hM1⟩ : ∃ m : Mem, m = fmX11_on M h := ⟨_, rfl⟩
    rw [← hM1] at f1 ⊢
    have q1 : ∀ q, q ≠ 0 → q ≠ 1 → q ≠ 27 → M1 q = fmX1_takeImage M h q := fun q a c d => by rw [f1, mset_p c, mset_p a, mset_p a, mset_p d]
    have q2 : ∀ q, q ≠ 0 → q ≠ 1 → q ≠ 27 → q ≠ h + 3 → q ≠ h + 4 → q ≠ h + 5 → q ≠ h + 11 → M1 q = M q := fun q a c d e f g i => by rw [q1 q a c d, frX1_takeImage i e f g]
    have z66 : M1 66 = M 66 := q2 66 (by decide) (by decide) (by decide) (by omega) (by omega) (by omega) (by omega)
    have hr1 : Rh H M1 := Rh_fr (g := 66) ⟨fun q a c => q2 q (by omega) (by omega) (by omega) (by omega) (by omega) (by omega) (by omega), by rw [z66], by rw [z66], fun q a c => q2 q (by omega) (by omega) (by omega) (by omega) (by omega) (by omega) (by omega)⟩ hr
    intro hG1
    have z1 : M1 66 1 = M 1 1 := by rw [z66, t3]
    obtain ⟨N, hN⟩ : ∃ m : Mem, m = mset M1 66 1 0 := ⟨_, rfl⟩
    have hrN : Rh H N := by
      rw [hN]
      exact Rh_fr (g := 32) ⟨fun q a c => mset_p (by omega), mset_k (by decide), mset_k (by decide), fun q a c => mset_p (by omega)⟩ hr1
    have N67 : ∀ i, N 67 i = M 67 i := fun i => by rw [hN, mset_o (by decide), q2 67 (by decide) (by decide) (by decide) (by omega) (by omega) (by omega) (by omega)]
    have rf := ref N hrN N67
    rcases rf.2 with ⟨r1, r2⟩ | ⟨r1, r2⟩
    · have o := onp hok bb (H 0 4).toNat 0 N (Or.inl hrN) (by omega) (by omega) (fun i a c => by rw [N67, (t4 i a (by omega)).1, hbe])
      have g1 : fX12_on M1 = 1 := by
        unfold fX12_on
        rw [z1, ← hN, r1, if_neg (by decide), pMany hrN, Int.sub_zero]
        exact o.2.1
      have g2 : fmX12_on M1 = lmX12_on_22 (H 0 4).toNat 0 N := by
        unfold fmX12_on
        rw [z1, ← hN, r1, if_neg (by decide), pMany hrN, Int.sub_zero]
      refine ⟨?_, ?_⟩
      · unfold nX12_on
        rw [z1, ← hN, pMany hrN, Int.sub_zero]
        exact ⟨rf.1, fun _ => o.1⟩
      rw [g1, g2]
      intro hG2
      refine ⟨rfl, ?_⟩
      obtain ⟨M2, hM2⟩ : ∃ m : Mem, m = lmX12_on_22 (H 0 4).toNat 0 N := ⟨_, rfl⟩
      rw [← hM2] at hG2 o ⊢
      obtain ⟨o1, o2, o3, o4, o5, o6, o7, o8⟩ := o
      have fq : ∀ q, q ≠ 0 → q ≠ 1 → q ≠ 27 → q ≠ h + 3 → q ≠ h + 4 → q ≠ h + 5 → q ≠ h + 11 → q ≠ 66 → q ≠ 88 → q ≠ 92 → M2 q = M q := fun q a c d e f g i j k l => by rw [o5 q j l k, hN, mset_p j, q2 q a c d e f g i]
      have f0 : ∀ j, M2 0 j = M1 0 j := fun j => by rw [o5 0 (by decide) (by decide) (by decide), hN, mset_o (by decide)]
      have f0' : ∀ j, j ≠ 16 → j ≠ 17 → M2 0 j = M 0 j := fun j a c => by rw [f0, f1, mset_o (by decide), mset_k c, mset_k a, mset_o (by decide), frX1_takeImage (by omega) (by omega) (by omega) (by omega)]
      have f66 : ∀ j, j ≠ 54 → j ≠ 1 → M2 66 j = M 66 j := fun j a c => by rw [o3 j a, hN, mset_k c, z66]
      have fh : ∀ q, h + 3 ≤ q → q ≤ h + 11 → M2 q = fmX1_takeImage M h q := fun q a c => by rw [o5 q (by omega) (by omega) (by omega), hN, mset_p (by omega), q1 q (by omega) (by omega) (by omega)]
      have cv : ∀ i, 0 ≤ i → i < ilen H → cvl h H M2 i = b i := by
        intro i a c
        have rc := rowOf_c h (i % 3)
        rw [← tk.1 i a c]
        unfold cvl
        rw [fh _ (by omega) (by omega), fh _ (by omega) (by omega)]
      have cvp : ∀ p, 0 ≤ p → p < H 0 4 → M2 (h + 3) p = b (3 * p + 2) ∧ M2 (h + 4) p = b (3 * p) ∧ M2 (h + 5) p = b (3 * p + 1) := by
        intro p a c
        have v0 := cv (3 * p) (by omega) (by omega)
        have v1 := cv (3 * p + 1) (by omega) (by omega)
        have v2 := cv (3 * p + 2) (by omega) (by omega)
        unfold cvl at v0 v1 v2
        rw [if_pos (by omega), show 3 * p % 3 = 0 by omega, show 3 * p / 3 = p by omega, rowOf0] at v0
        rw [if_pos (by omega), show (3 * p + 1) % 3 = 1 by omega, show (3 * p + 1) / 3 = p by omega, rowOf1] at v1
        rw [if_pos (by omega), show (3 * p + 2) % 3 = 2 by omega, show (3 * p + 2) / 3 = p by omega, rowOf2] at v2
        exact ⟨v2, v0, v1⟩
      have cvk : ∀ k, 0 ≤ k → k < H 0 2 → M2 (h + 11) k = b (3 * H 0 4 + k) := by
        intro k a c
        have v0 := cv (3 * H 0 4 + k) (by omega) (by omega)
        unfold cvl at v0
        rw [if_neg (by omega), show 3 * H 0 4 + k - 3 * H 0 4 = k by omega] at v0
        exact v0
      have okb : ∀ i, 0 ≤ i → i < ilen H → okk H b i := fun i a c => by rw [hbe]; exact p3 i a c
      have hE : ∀ q, q ∉ ([0, 1, 27, 66, 88, 92, h + 3, h + 4, h + 5, h + 11] : List Int) → M2 q = M q := by
        intro q hq
        simp only [List.mem_cons, List.mem_nil_iff, or_false, not_or] at hq
        exact fq q hq.1 hq.2.1 hq.2.2.1 hq.2.2.2.2.2.2.1 hq.2.2.2.2.2.2.2.1 hq.2.2.2.2.2.2.2.2.1 hq.2.2.2.2.2.2.2.2.2 hq.2.2.2.1 hq.2.2.2.2.1 hq.2.2.2.2.2.1
      have fqq : ∀ q, (q < 32 ∨ 65 < q) → q ≠ 0 → q ≠ 1 → q ≠ 27 → q ≠ 66 → q ≠ 88 → q ≠ 92 → M2 q = M q := fun q a c d e f g i => fq q c d e (by omega) (by omega) (by omega) (by omega) f g i
      refine ⟨h, hst H (fun p => b (3 * p + 2)) (fun p => b (3 * p)) (fun p => b (3 * p + 1)) (fun k => b (3 * H 0 4 + k)), hG2, ?_, ?_, ?_, ?_, ?_, ?_, ?_, ?_, ?_, ?_, ?_⟩
      · refine Hok_hst hok (fun p a c => ?_) (fun k a c => ?_)
        · have k0 := okb (3 * p) (by omega) (by omega)
          have k1 := okb (3 * p + 1) (by omega) (by omega)
          have k2 := okb (3 * p + 2) (by omega) (by omega)
          unfold okk at k0 k1 k2
          rw [if_pos (by omega), if_pos (by omega)] at k0
          rw [if_pos (by omega), if_neg (by omega), if_pos (by omega)] at k1
          rw [if_pos (by omega), if_neg (by omega), if_neg (by omega)] at k2
          exact ⟨k2, (bb _ (by omega) (by omega)).1, k0, (bb _ (by omega) (by omega)).1, k1⟩
        · have k0 := okb (3 * H 0 4 + k) (by omega) (by omega)
          have k1 := bb (3 * H 0 4 + k) (by omega) (by omega)
          unfold okk at k0
          rw [if_neg (by omega)] at k0
          omega
      · exact Ch_hst hc (fun q a1 a2 a3 a4 a5 a6 => fq q (by omega) (by omega) (by omega) a3 a4 a5 a6 (by omega) (by omega) (by omega)) cvp cvk
      · refine Rh_hst hok hr (f66 _ (by decide) (by decide)) (f66 _ (by decide) (by decide)) (fun q a c d => fqq q (by omega) (by omega) (by omega) (by omega) (by omega) (by omega) (by omega)) (fun p k pa pb ka kb => ?_) (fun p pa pb => ?_) (fun k k0 k1 => o6 k k0 k1)
        · rw [o7 p k pa pb (by omega) kb, if_neg (by omega), if_neg (by omega), if_neg (by omega), hN, mset_o (by decide), q2 88 (by decide) (by decide) (by decide) (by omega) (by omega) (by omega) (by omega)]
        · have m0 := o7 p 0 pa pb (by omega) (by omega)
          rw [Int.add_zero (162 + 18 * p)] at m0
          rw [m0, o7 p 1 pa pb (by omega) (by omega), o7 p 2 pa pb (by omega) (by omega)]
          exact ⟨by simp, by simp, by simp⟩
      · have e11 : M2 1 1 = 0 := by rw [o5 1 (by decide) (by decide) (by decide), hN, mset_o (by decide), f1, mset_e]
        have e61 : M2 66 1 = 0 := by rw [o3 1 (by decide), hN, mset_e]
        exact ⟨by omega, by omega, by omega, fun k a c => by omega⟩
      · exact iF_fr ⟨f66 _ (by decide) (by decide), f66 _ (by decide) (by decide), f0' _ (by decide) (by decide), f0' _ (by decide) (by decide)⟩ hF
      · exact iK_fr (fun q z => fqq q (by omega) (by omega) (by omega) (by omega) (by omega) (by omega) (by omega)) hK
      · unfold iC at hC ⊢
        rw [f66 _ (by decide) (by decide), f0' _ (by decide) (by decide)]
        exact hC
      · exact iS_fr ⟨f66 _ (by decide) (by decide), f0' _ (by decide) (by decide)⟩ hS
      · exact iO_fr ⟨f66 _ (by decide) (by decide), f0' _ (by decide) (by decide), fqq 31 (by omega) (by decide) (by decide) (by decide) (by decide) (by decide) (by decide), fqq 125 (by omega) (by decide) (by decide) (by decide) (by decide) (by decide) (by decide)⟩ hO
      · have e27 : M2 27 3 = 0 := by rw [o5 27 (by decide) (by decide) (by decide), hN, mset_o (by decide), f1, mset_o (by decide), mset_o (by decide), mset_o (by decide), mset_e]
        have hA2 := hA.2.2.2
        refine ⟨by rw [e27, o4], by omega, by omega, by rw [f66 55 (by decide) (by decide)]; exact hA2.1, by rw [f66 55 (by decide) (by decide)]; exact hA2.2.1, fun j a c => by omega, fun j a c => by omega⟩
      · have g16 : M2 0 16 = 1 := by rw [f0, f1, mset_o (by decide), mset_k (by decide), mset_e]
        have g17 : M2 0 17 = 1 := by rw [f0, f1, mset_o (by decide), mset_e]
        refine ⟨Or.inr g16, Or.inr g17, nOK_fr hW.2.2.1 (fq _ (by omega) (by omega) (by omega) (by omega) (by omega) (by omega) (by omega) (by omega) (by omega) (by omega)), fun z => by omega, fun z => by omega⟩
    · exact absurd c4 r2
  · -- not
    rw [c1]
    have f1 : fmX11_on M h = mset M 1 1 0 := by
      unfold fmX11_on
      rcases c2 with z | z
      · rw [z]
        simp only [if_true]
        exact cut0 M t1
      · rw [z]
        simp only [if_true]
        by_cases y : fX1_isTold M h = 0
        · simp only [if_pos y, if_true]
          exact cut0 M t1
        · simp only [if_neg y, if_true]
          exact cut0 M t1
    rw [f1]
    intro hG1
    have q1 : ∀ q, q ≠ 1 → mset M 1 1 0 q = M q := fun q a => mset_p a
    have z1 : mset M 1 1 0 66 1 = M 1 1 := by rw [mset_o (by decide), t3]
    obtain ⟨N, hN⟩ : ∃ m : Mem, m = mset (mset M 1 1 0) 66 1 0 := ⟨_, rfl⟩
    have hE : ∀ q, q ∉ ([1, 66] : List Int) → N q = M q := by
      intro q hq
      simp only [List.mem_cons, List.mem_nil_iff, or_false, not_or] at hq
      rw [hN, mset_p hq.2, mset_p hq.1]
    have f66 : ∀ j, j ≠ 1 → N 66 j = M 66 j := fun j a => by rw [hN, mset_k a, mset_o (by decide)]
    have eH := hEq h M N hh _ hE (by simp) (f66 _ (by decide)) (f66 _ (by decide))
    have hrN : Rh H N := Rh_fr eH hr
    have rf := ref N hrN (fun i => by rw [hE 67 (by simp)])
    rcases rf.2 with ⟨r1, r2⟩ | ⟨r1, r2⟩
    · exact absurd r2 c4
    · have g1 : fX12_on (mset M 1 1 0) = 0 := by
        unfold fX12_on
        rw [z1, ← hN, r1, if_pos rfl]
      have g2 : fmX12_on (mset M 1 1 0) = N := by
        unfold fmX12_on
        rw [z1, ← hN, r1, if_pos rfl]
      refine ⟨?_, ?_⟩
      · unfold nX12_on
        rw [z1, ← hN]
        exact ⟨rf.1, fun z => absurd r1 z⟩
      rw [g1, g2]
      intro hG2
      have eC : eqC M N := ⟨f66 _ (by decide), by rw [hE 0 (by simp)]⟩
      refine ⟨rfl, h, H, hG2, hok, Ch_fr eH hc, hrN, ?_, iF_fr ⟨f66 _ (by decide), f66 _ (by decide), by rw [hE 0 (by simp)], by rw [hE 0 (by simp)]⟩ hF, iK_fr (eqK_of _ hE (by simp)) hK, iC_fr eC hC, iS_fr ⟨f66 _ (by decide), by rw [hE 0 (by simp)]⟩ hS, iO_fr ⟨f66 _ (by decide), by rw [hE 0 (by simp)], hE 31 (by simp), hE 125 (by simp)⟩ hO, iA_fr ⟨by rw [hE 27 (by simp)], hE 28 (by simp), hE 29 (by simp), hE 30 (by simp), f66 _ (by decide), f66 _ (by decide), hE 100 (by simp)⟩ hA, iW_fr eH eC ⟨by rw [hE 0 (by simp)], by rw [hE 0 (by simp)], hE 10 (by simp), hE 11 (by simp), fun q a b => hE q (by simp; omega)⟩ hW⟩
      have e11 : N 1 1 = 0 := by rw [hN, mset_o (by decide), mset_e]
      have e61 : N 66 1 = 0 := by rw [hN, mset_e]
      exact ⟨by omega, by omega, by omega, fun k a c => by omega⟩
