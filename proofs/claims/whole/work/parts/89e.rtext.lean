/-! the text of a hall: the reference -/
def tX (M M' : Mem) : Prop := (∀ q, q ≠ 66 → q ≠ 85 → q ≠ 86 → q ≠ 87 → q ≠ 88 → q ≠ 89 → q ≠ 90 → q ≠ 91 → M' q = M q) ∧ (∀ j, ((9 < j ∧ j < 27) ∨ (27 < j ∧ j < 35) ∨ j = 38 ∨ j = 39 ∨ 40 < j) → M' 66 j = M 66 j) ∧
  (∀ j, 3 ≤ j → M' 85 j = M 85 j) ∧ (∀ j, 20 ≤ j → M' 86 j = M 86 j) ∧ (∀ j, 54 ≤ j → M' 87 j = M 87 j) ∧ (∀ j, 162 ≤ j → M' 88 j = M 88 j) ∧ (∀ j, 12 ≤ j → M' 89 j = M 89 j) ∧ (∀ j, 6 ≤ j → M' 90 j = M 90 j) ∧ (∀ j, 4 ≤ j → M' 91 j = M 91 j)
section
variable {b : Int → Int} {n p e w : Int} {H : Hal} {M M' : Mem} {Q : Int → Mem → Prop} {K : Mem → Prop}
theorem tX_t {M N O : Mem} (a : tX M N) (c : tX N O) : tX M O := ⟨fun q h1 h2 h3 h4 h5 h6 h7 h8 => (c.1 q h1 h2 h3 h4 h5 h6 h7 h8).trans (a.1 q h1 h2 h3 h4 h5 h6 h7 h8), fun j h => (c.2.1 j h).trans (a.2.1 j h), fun j h => (c.2.2.1 j h).trans (a.2.2.1 j h), fun j h => (c.2.2.2.1 j h).trans (a.2.2.2.1 j h), fun j h => (c.2.2.2.2.1 j h).trans (a.2.2.2.2.1 j h), fun j h => (c.2.2.2.2.2.1 j h).trans (a.2.2.2.2.2.1 j h), fun j h => (c.2.2.2.2.2.2.1 j h).trans (a.2.2.2.2.2.2.1 j h), fun j h => (c.2.2.2.2.2.2.2.1 j h).trans (a.2.2.2.2.2.2.2.1 j h), fun j h => (c.2.2.2.2.2.2.2.2 j h).trans (a.2.2.2.2.2.2.2.2 j h)⟩
theorem tX_s (h : tS M M') : tX M M' := ⟨h.1, fun j x => h.2.1 j (by omega), h.2.2⟩
theorem tX_1 {j x : Int} (h : j = 7 ∨ j = 8) : tX M (mset M 66 j x) := ⟨fun q h _ _ _ _ _ _ _ => mset_p h, fun i x => mset_k (by omega), fun _ _ => mset_o (by decide), fun _ _ => mset_o (by decide), fun _ _ => mset_o (by decide), fun _ _ => mset_o (by decide), fun _ _ => mset_o (by decide), fun _ _ => mset_o (by decide), fun _ _ => mset_o (by decide)⟩
theorem rX_m {f pl j a : Int} (x : rX f pl M) (hj : j ≠ 5 ∧ j ≠ 6) : rX f pl (mset M 66 j a) := by
  unfold rX at x ⊢
  rw [mset_k (Ne.symm hj.1), mset_k (Ne.symm hj.2)]; exact x
theorem Dr_0 {x y : Int} (h1 : M 66 35 = x) (h2 : M 66 36 = y) (h3 : M 66 37 = 0) (h85 : ∀ i, 0 ≤ i → i < 3 → M 85 i = 0) (h87 : ∀ i, 0 ≤ i → i < 54 → M 87 i = 0) (h91 : M 91 0 = 60 ∧ M 91 1 = 20 ∧ M 91 2 = 1 ∧ M 91 3 = 3) : Dr (uS H00c x y) 0 M := by
  have e : ∀ i, i ≠ 0 → i ≠ 1 → uS H00c x y 0 i = H00c 0 i := fun i a c => by unfold uS; rw [uR_0, if_neg c, uR_0, if_neg a]
  have e0 : uS H00c x y 0 0 = x := by unfold uS; rw [uR_0, if_neg (by decide), uR_0, if_pos rfl]
  have e1 : uS H00c x y 0 1 = y := by unfold uS; rw [uR_0, if_pos rfl]
  have eo : ∀ f : Nat, f ≠ 0 → uS H00c x y f = H00c f := fun f hf => by unfold uS; rw [uR_o hf, uR_o hf]
  have z2 : H00c 0 2 = 0 ∧ H00c 0 3 = 0 ∧ H00c 0 4 = 0 ∧ H00c 0 5 = 60 ∧ H00c 0 6 = 20 ∧ H00c 0 7 = 1 ∧ H00c 0 8 = 3 := by decide
  unfold Dr
  rw [e0, e1, e 2 (by decide) (by decide), e 3 (by decide) (by decide), e 4 (by decide) (by decide), e 5 (by decide) (by decide), e 6 (by decide) (by decide), e 7 (by decide) (by decide), e 8 (by decide) (by decide), z2.1, z2.2.1, z2.2.2.1, z2.2.2.2.1, z2.2.2.2.2.1, z2.2.2.2.2.2.1, z2.2.2.2.2.2.2]
  refine ⟨⟨h1, h2, h3, h85 2 (by decide) (by decide), h85 1 (by decide) (by decide), h85 0 (by decide) (by decide), h91⟩, fun c a d => ?_, fun k a d => by omega, fun k a d => by omega, fun k a d => by omega, fun k i a d => by omega⟩
  rw [eo 1 (by decide), h87 c a d]; rfl
theorem text_r (hK : iK M) (hn : 0 ≤ n ∧ n ≤ 1600) (hb : ∀ k, 0 ≤ k → k < n → 0 ≤ b k ∧ b k ≤ 255) (h1 : M 66 1 = n) (h2 : ∀ k, 0 ≤ k → k < n → M 67 k = b k)
    (hF : ∀ f pl, pText b n = Sum.inl (f, pl) → ∀ M' : Mem, tX M M' → M' 66 1 = 0 → M' 66 7 = f → M' 66 8 = pl → Q (-1) M')
    (hO : ∀ x, pText b n = Sum.inr x → ∀ M' : Mem, tX M M' → M' 66 1 = 0 → M' 66 7 = 0 → M' 66 8 = -1 → M' 66 40 = x.2 → (∃ w, DOK x.1 w ∧ Dr x.1 w M') → (nX12_stands M') ∧ (∀ M57 : Mem, M57 = (fmX12_stands M') → Q (M57 66 40) M57)) : PX12_text M Q := by
  intro M2 g2 M4 g4 M6 g6 M8 g8 M10 g10 M12 g12 M14 g14 M16 g16 M18 g18 M20 g20 M22 g22
  have q22 : ∀ q, q ≠ 66 → q ≠ 91 → M22 q = M q := fun q x y => by rw [g22, mset_p y, g20, mset_p y, g18, mset_p y, g16, mset_p y, g14, mset_p x, g12, mset_p x, g10, mset_p x, g8, mset_p x, g6, mset_p x, g4, mset_p x, g2, mset_p x]
  have k14 : M22 66 = M14 66 := by rw [g22, mset_p (by decide), g20, mset_p (by decide), g18, mset_p (by decide), g16, mset_p (by decide)]
  have j22 : ∀ j, 6 < j → j ≠ 37 → M22 66 j = M 66 j := fun j x y => by rw [k14, g14, mset_k y, g12, mset_k (by omega), g10, mset_k (by omega), g8, mset_k (by omega), g6, mset_k (by omega), g4, mset_k (by omega), g2, mset_k (by omega)]
  have m37 : M22 66 37 = 0 := by rw [k14, g14, mset_e]
  have m6 : M22 66 6 = -1 := by rw [k14, g14, mset_k (by decide), g12, mset_e]
  have m5 : M22 66 5 = 0 := by rw [k14, g14, mset_k (by decide), g12, mset_k (by decide), g10, mset_e]
  have m4 : M22 66 4 = -1 := by rw [k14, g14, mset_k (by decide), g12, mset_k (by decide), g10, mset_k (by decide), g8, mset_e]
  have m2 : M22 66 2 = 0 := by rw [k14, g14, mset_k (by decide), g12, mset_k (by decide), g10, mset_k (by decide), g8, mset_k (by decide), g6, mset_e]
  have m1 : M22 66 1 = 0 := by rw [k14, g14, mset_k (by decide), g12, mset_k (by decide), g10, mset_k (by decide), g8, mset_k (by decide), g6, mset_k (by decide), g4, mset_e]
  have m3 : M22 66 3 = n := by rw [k14, g14, mset_k (by decide), g12, mset_k (by decide), g10, mset_k (by decide), g8, mset_k (by decide), g6, mset_k (by decide), g4, mset_k (by decide), g2, mset_e]; exact h1
  have m91 : M22 91 0 = 60 ∧ M22 91 1 = 20 ∧ M22 91 2 = 1 ∧ M22 91 3 = 3 := by
    refine ⟨?_, ?_, ?_, ?_⟩
    · rw [g22, mset_k (by decide), g20, mset_k (by decide), g18, mset_k (by decide), g16, mset_e]
    · rw [g22, mset_k (by decide), g20, mset_k (by decide), g18, mset_e]
    · rw [g22, mset_k (by decide), g20, mset_e]
    · rw [g22, mset_e]
  have o91 : ∀ j, 4 ≤ j → M22 91 j = M 91 j := fun j x => by rw [g22, mset_k (by omega), g20, mset_k (by omega), g18, mset_k (by omega), g16, mset_k (by omega), g14, mset_o (by decide), g12, mset_o (by decide), g10, mset_o (by decide), g8, mset_o (by decide), g6, mset_o (by decide), g4, mset_o (by decide), g2, mset_o (by decide)]
  clear g22 g20 g18 g16 g14 g12 g10 g8 g6 g4 g2 k14
  refine ⟨4, z70 3 4 0 M22 (by decide) (by decide) (by decide) (fun M24 a1 a2 _ a4 => ⟨55, z90 54 55 0 M24 (by decide) (by decide) (by decide) (fun M27 b1 b2 _ b4 => ?_)⟩)⟩
  have s := fwd_s (f := blk) (b := b) (n := n) (i := 0) hn.1
  have c66 : M27 66 = M22 66 := by rw [b1 66 (by decide), a1 66 (by decide)]
  have X27 : tX M M27 := by
    refine ⟨fun q i1 i2 i3 i4 i5 i6 i7 i8 => ?_, fun j hj => ?_, fun j hj => ?_, fun j hj => ?_, fun j hj => ?_, fun j hj => ?_, fun j hj => ?_, fun j hj => ?_, fun j hj => ?_⟩
    · rw [b1 q i4, a1 q i2, q22 q i1 i8]
    · rw [c66]; exact j22 j (by omega) (by omega)
    · rw [b1 85 (by decide), a4 j hj, q22 85 (by decide) (by decide)]
    · rw [b1 86 (by decide), a1 86 (by decide), q22 86 (by decide) (by decide)]
    · rw [b4 j hj, a1 87 (by decide), q22 87 (by decide) (by decide)]
    · rw [b1 88 (by decide), a1 88 (by decide), q22 88 (by decide) (by decide)]
    · rw [b1 89 (by decide), a1 89 (by decide), q22 89 (by decide) (by decide)]
    · rw [b1 90 (by decide), a1 90 (by decide), q22 90 (by decide) (by decide)]
    · rw [b1 91 (by decide), a1 91 (by decide)]; exact o91 j hj
  have k27 : rK b n (fwd blk b n 0) (-1) M27 := by
    refine ⟨⟨⟨hn.1, hn.2, hb, s.1, s.2.1, s.2.2.2⟩, by rw [c66]; exact m3, fun k x y => ?_, by rw [c66, m2]; decide, by rw [c66, m2]; exact s.1, fun j x y => ?_, by rw [c66, m4], by rw [c66, m4]; exact Int.le_trans (by decide) s.1⟩, by rw [c66]; exact m5, by rw [c66]; exact m6⟩
    · rw [b1 67 (by decide), a1 67 (by decide), q22 67 (by decide) (by decide)]; exact h2 k x y
    · rw [c66, m2] at x; exact s.2.2.1 j x y
  have K27 : iK M27 := iK_fr (fun q hq => by rw [b1 q (by omega), a1 q (by omega), q22 q (by omega) (by omega)]) hK
  have n37 : M27 66 37 = 0 := by rw [c66]; exact m37
  have n1 : M27 66 1 = 0 := by rw [c66]; exact m1
  have n85 : ∀ i, 0 ≤ i → i < 3 → M27 85 i = 0 := fun i x y => by rw [b1 85 (by decide)]; exact a2 i x y
  have n91 : M27 91 0 = 60 ∧ M27 91 1 = 20 ∧ M27 91 2 = 1 ∧ M27 91 3 = 3 := by rw [b1 91 (by decide), a1 91 (by decide)]; exact m91
  obtain ⟨K, hKd⟩ : ∃ K : Mem → Prop, K = (fun M48 => (∀ M51 : Mem, M51 = (mset M48 66 7 (M48 66 5)) → (∀ M53 : Mem, M53 = (mset M51 66 8 (M51 66 6)) → (((M53 66 5) = 0 → (nX12_stands M53) ∧ (∀ M57 : Mem, M57 = (fmX12_stands M53) → Q (M57 66 40) M57)) ∧ (¬ ((M53 66 5) = 0) → Q (-1) M53))))) := ⟨_, rfl⟩
  rw [← hKd]
  have hR : rdR M27 K (pText b n) := by
    refine ⟨fun f pl h N t x => ?_, fun x h N t x5 x6 x40 hD => ?_⟩
    · rw [hKd]
      intro M51 h51 M53 h53
      have v5 : M53 66 5 = f := by rw [h53, mset_k (by decide), h51, mset_k (by decide)]; exact x.1
      refine ⟨fun z => absurd (v5.symm.trans z) x.2.2, fun _ => hF f pl h M53 (tX_t X27 (tX_t (tX_s t) ?_)) ?_ ?_ ?_⟩
      · rw [h53, h51]; exact tX_t (tX_1 (Or.inl rfl)) (tX_1 (Or.inr rfl))
      · rw [h53, mset_k (by decide), h51, mset_k (by decide), t.2.1 1 (by decide)]; exact n1
      · rw [h53, mset_k (by decide), h51, mset_e]; exact x.1
      · rw [h53, mset_e, h51, mset_k (by decide)]; exact x.2.1
    · rw [hKd]
      intro M51 h51 M53 h53
      have v5 : M53 66 5 = 0 := by rw [h53, mset_k (by decide), h51, mset_k (by decide)]; exact x5
      refine ⟨fun _ => hO x h M53 (tX_t X27 (tX_t (tX_s t) ?_)) ?_ ?_ ?_ ?_ ?_, fun z => absurd v5 z⟩
      · rw [h53, h51]; exact tX_t (tX_1 (Or.inl rfl)) (tX_1 (Or.inr rfl))
      · rw [h53, mset_k (by decide), h51, mset_k (by decide), t.2.1 1 (by decide)]; exact n1
      · rw [h53, mset_k (by decide), h51, mset_e]; exact x5
      · rw [h53, mset_e, h51, mset_k (by decide)]; exact x6
      · rw [h53, mset_k (by decide), h51, mset_k (by decide)]; exact x40
      · obtain ⟨w, d1, d2⟩ := hD
        refine ⟨w, d1, ?_⟩
        have j : ∀ j, j ≠ 7 → j ≠ 8 → M53 66 j = N 66 j := fun j x y => by rw [h53, mset_k y, h51, mset_k x]
        have q : ∀ q, q ≠ 66 → M53 q = N q := fun q x => by rw [h53, mset_p x, h51, mset_p x]
        unfold Dr at d2 ⊢
        rw [j 35 (by decide) (by decide), j 36 (by decide) (by decide), j 37 (by decide) (by decide), q 85 (by decide), q 86 (by decide), q 87 (by decide), q 88 (by decide), q 89 (by decide), q 90 (by decide), q 91 (by decide)]
        exact d2
  clear hF hO hKd
  unfold pText at hR
  have e3 : ∀ f pl, p1 b n (fwd blk b n 0) (-1) = Sum.inl (f, pl) → ∀ N, tS M27 N → rX f pl N → ∀ M46 : Mem, M46 = (mset N 66 40 1) → (∃ k47 : Nat, PX12_text_150 K Q k47 M46) := by
    intro f pl h N t x M46 h46
    have x46 : rX f pl M46 := by rw [h46]; exact rX_m x (by decide)
    exact ⟨1, x150 1 (by decide) x46 (hR.1 f pl (bnd_l h) M46 (tS_t t (by rw [h46]; exact tS_1)) x46)⟩
  have e2 : ∀ f pl, p1 b n (fwd blk b n 0) (-1) = Sum.inl (f, pl) → ∀ N, tS M27 N → rX f pl N → ∀ (a : Int) (M41 : Mem), M41 = (mset N 66 36 a) → PX12_asksSign 59 M41 (fun _ M43 => (∀ M46 : Mem, M46 = (mset M43 66 40 1) → (∃ k47 : Nat, PX12_text_150 K Q k47 M46))) := by
    intro f pl h N t x a M41 h41
    have x41 : rX f pl M41 := by rw [h41]; exact rX_m x (by decide)
    exact nb_sign (rX_b x41) (e3 f pl h M41 (tS_t t (by rw [h41]; exact tS_r (tR_1 (by omega)))) x41)
  have e1 : ∀ f pl, p1 b n (fwd blk b n 0) (-1) = Sum.inl (f, pl) → ∀ N, tS M27 N → rX f pl N → ∀ (a : Int) (M36 : Mem), M36 = (mset N 66 35 a) → PX12_number 2 6 M36 (fun a37 M38 => (∀ M41 : Mem, M41 = (mset M38 66 36 a37) → PX12_asksSign 59 M41 (fun _ M43 => (∀ M46 : Mem, M46 = (mset M43 66 40 1) → (∃ k47 : Nat, PX12_text_150 K Q k47 M46))))) := by
    intro f pl h N t x a M36 h36
    have x36 : rX f pl M36 := by rw [h36]; exact rX_m x (by decide)
    exact nb_num (rX_b x36) (e2 f pl h M36 (tS_t t (by rw [h36]; exact tS_r (tR_1 (by omega)))) x36 0)
  refine W_r (i := 68) k27 (rows K27 68 (by decide)) (by decide) (fun f pl h M30 r x => ?_) (fun t0 hW M30 r30 k30 => ?_)
  · exact nb_num (rX_b x) (e1 f pl (by unfold p1; exact bnd_l h) M30 (tS_f r) x 0)
  refine N_r k30 (fun f pl h M33 y r x => ?_) (fun x hX M33 r33 k33 _ M36 h36 => ?_)
  · exact e1 f pl (by unfold p1; rw [bnd_r hW]; exact bnd_l h) M33 (tS_t (tS_f r30) (tS_f r)) x y
  have T36 : tS M27 M36 := tS_t (tS_f r30) (tS_t (tS_f r33) (by rw [h36]; exact tS_r (tR_1 (by omega))))
  have k36 : rK b n x.2.1 x.2.2 M36 := rK_e k33 (fun j _ _ => by rw [h36, mset_k (by omega)]) (by rw [h36, mset_p (by decide)])
  refine N_r k36 (fun f pl h M38 y r v => ?_) (fun y hY M38 r38 k38 _ M41 h41 => ?_)
  · exact e2 f pl (by unfold p1; rw [bnd_r hW, bnd_r hX]; exact bnd_l h) M38 (tS_t T36 (tS_f r)) v y
  have T41 : tS M27 M41 := tS_t T36 (tS_t (tS_f r38) (by rw [h41]; exact tS_r (tR_1 (by omega))))
  have k41 : rK b n y.2.1 y.2.2 M41 := rK_e k38 (fun j _ _ => by rw [h41, mset_k (by omega)]) (by rw [h41, mset_p (by decide)])
  refine S_r k41 (fun f pl h M43 r v => ?_) (fun z hZ M43 r43 k43 M46 h46 => ⟨72, ?_⟩)
  · exact e3 f pl (by unfold p1; rw [bnd_r hW, bnd_r hX, bnd_r hY]; exact bnd_l h) M43 (tS_t T41 (tS_f r)) v
  have hp1 : p1 b n (fwd blk b n 0) (-1) = Sum.inr (uS H00c x.1 y.1, z.1, z.2) := by unfold p1; rw [bnd_r hW, bnd_r hX, bnd_r hY]; exact bnd_r hZ
  rw [bnd_r hp1] at hR
  have T46 : tS M27 M46 := tS_t T41 (tS_t (tS_f r43) (by rw [h46]; exact tS_1))
  have rj : ∀ {A B : Mem}, rfr A B → ∀ j, 30 < j → B 66 j = A 66 j := fun r j hj => r.2 j (by omega) (by omega) (by omega) (by omega) (by omega) (by omega)
  have q46 : ∀ q, q ≠ 66 → M46 q = M27 q := fun q c => by rw [h46, mset_p c, r43.1 q c, h41, mset_p c, r38.1 q c, h36, mset_p c, r33.1 q c, r30.1 q c]
  have D46 : Dr (uS H00c x.1 y.1) 0 M46 := by
    refine Dr_0 ?_ ?_ ?_ (fun i c d => by rw [q46 85 (by decide)]; exact n85 i c d) (fun i c d => by rw [q46 87 (by decide)]; exact b2 i c d) (by rw [q46 91 (by decide)]; exact n91)
    · rw [h46, mset_k (by decide), rj r43 35 (by decide), h41, mset_k (by decide), rj r38 35 (by decide), h36, mset_e]
    · rw [h46, mset_k (by decide), rj r43 36 (by decide), h41, mset_e]
    · rw [h46, mset_k (by decide), rj r43 37 (by decide), h41, mset_k (by decide), rj r38 37 (by decide), h36, mset_k (by decide), rj r33 37 (by decide), rj r30 37 (by decide)]; exact n37
  exact rd150 71 72 1 z.1 z.2 0 (uS H00c x.1 y.1) M46 (by decide) (by decide) (by decide) (by decide) (rK_e k43 (fun j _ _ => by rw [h46, mset_k (by omega)]) (by rw [h46, mset_p (by decide)])) D46 (uS_ok (pN_v hX) (pN_v hY)) (iK_s K27 T46) (by rw [h46, mset_e]) T46 hR
end
