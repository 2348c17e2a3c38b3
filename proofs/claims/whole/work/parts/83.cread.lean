/-! the text of a hall: the class reads all of it -/
section
variable {b : Int → Int} {n p e g w : Int} {H : Hal} {M M' : Mem} {Q : Int → Mem → Prop}
theorem clr_lp (hg : isG g) : ∀ (k m : Nat) (M : Mem), m + k = 54 → (∀ q, q ≠ g → q ≠ g + 9 → lmX1_clear_18 g k m M q = M q) ∧ (∀ i, (m : Int) ≤ i → i < 54 → lmX1_clear_18 g k m M (g + 9) i = 0) ∧ (∀ i, i < (m : Int) → lmX1_clear_18 g k m M (g + 9) i = M (g + 9) i) ∧ lmX1_clear_18 g k m M g 9 = 0 ∧ lmX1_clear_18 g k m M g 10 = 0 ∧ lmX1_clear_18 g k m M g 11 = 0 ∧ lmX1_clear_18 g k m M g 12 = 0 ∧ lmX1_clear_18 g k m M g 13 = 0 ∧ lmX1_clear_18 g k m M g 14 = 60 ∧ lmX1_clear_18 g k m M g 15 = 20 ∧ lmX1_clear_18 g k m M g 16 = 1 ∧ lmX1_clear_18 g k m M g 17 = 3 := by
  have hh : 31 < g := by rcases hg with rfl | rfl <;> decide
  intro k
  induction k with
  | zero =>
    intro m M h
    have e : lmX1_clear_18 g 0 m M = (mset (mset (mset (mset (mset (mset (mset (mset (mset M g 9 0) g 10 0) g 11 0) g 12 0) g 13 0) g 14 60) g 15 20) g 16 1) g 17 3) := rfl
    rw [e]
    refine ⟨fun q x y => by rw [mset_p x, mset_p x, mset_p x, mset_p x, mset_p x, mset_p x, mset_p x, mset_p x, mset_p x], fun i x y => by omega, fun i x => ?_, ?_⟩
    · have ne : g + 9 ≠ g := by omega
      rw [mset_o ne, mset_o ne, mset_o ne, mset_o ne, mset_o ne, mset_o ne, mset_o ne, mset_o ne, mset_o ne]
    · simp [ms]
  | succ k ih =>
    intro m M h
    have e : lmX1_clear_18 g (k + 1) m M = lmX1_clear_18 g k ((m : Int) + 1) (fmX11_put M (g + 9) 54 m 0) := rfl
    rw [e, rd_put (by omega) (by omega), show (m : Int) + 1 = ((m + 1 : Nat) : Int) by omega]
    obtain ⟨i1, i2, i3, i4⟩ := ih (m + 1) (mset M (g + 9) m 0) (by omega)
    refine ⟨fun q x y => by rw [i1 q x y, mset_p y], fun i x y => ?_, fun i x => ?_, i4⟩
    · by_cases z : i = (m : Int)
      · rw [z, i3 _ (by omega), mset_e]
      · exact i2 i (by omega) y
    · rw [i3 i (by omega), mset_k (by omega)]
theorem clr_c (hg : isG g) : Dc g H00c 0 (fmX1_clear M g) ∧ tfr g M (fmX1_clear M g) ∧ fmX1_clear M g 3 = M 3 := by
  have hh : 31 < g := by rcases hg with rfl | rfl <;> decide
  obtain ⟨i1, i2, i3, i4, i5, i6, i7, i8, i9, i10, i11, i12⟩ := clr_lp hg 54 0 (mset (mset M (g + 1) 8 0) (g + 1) 7 0) (by decide)
  have e : fmX1_clear M g = lmX1_clear_18 g 54 ((0 : Nat) : Int) (mset (mset M (g + 1) 8 0) (g + 1) 7 0) := rfl
  rw [← e] at i1 i2 i3 i4 i5 i6 i7 i8 i9 i10 i11 i12
  have h7 : fmX1_clear M g (g + 1) 7 = 0 := by rw [i1 _ (by omega) (by omega), mset_e]
  have h8 : fmX1_clear M g (g + 1) 8 = 0 := by rw [i1 _ (by omega) (by omega), mset_k (by decide), mset_e]
  refine ⟨⟨⟨⟨i4, i5, i7, i8, h8, i9, i10, i11, i12⟩, fun c x y => i2 c (by omega) y, fun k x y => ?_, fun k x y => ?_, fun k x y => ?_, fun k j x y => ?_, by rw [h7]; decide, by rw [h7]; decide⟩, i6, ?_⟩, fun q x y => by rw [i1 q (by omega) (by omega), mset_p (by omega), mset_p (by omega)], by rw [i1 3 (by omega) (by omega), mset_p (by omega), mset_p (by omega)]⟩
  · have y2 : k < 0 := y
    omega
  · have y2 : k < 0 := y
    omega
  · have y2 : k < 0 := y
    omega
  · have y2 : k < 0 := y
    omega
  · rw [h7]
    show (0 : Int) < 2 ^ (0 : Nat)
    decide
/-- at the tape's first word -/
theorem beg_c (hn : 0 ≤ n ∧ n ≤ 1600) (hb : ∀ k, 0 ≤ k → k < n → 0 ≤ b k ∧ b k ≤ 255) (h1 : M 1 1 = n) (h2 : ∀ k, 0 ≤ k → k < n → M 2 k = b k) (hQ : ∀ M' : Mem, cfr M M' → cK b n (fwd blk b n 0) (-1) M' → Q 0 M') : PX9_begin M Q := by
  intro M2 g2 M4 g4 M6 g6 M8 g8
  have q8 : ∀ q, q ≠ 3 → M8 q = M q := fun q x => by rw [g8, mset_p x, g6, mset_p x, g4, mset_p x, g2, mset_p x]
  have s := fwd_s (f := blk) (b := b) (n := n) (i := 0) hn.1
  refine nx_gen (e := -1) hn hb (by rw [q8 1 (by decide)]; exact h1) (fun k x y => by rw [q8 2 (by decide)]; exact h2 k x y) (sp := 0) (by rw [g8, mset_e]) (kd := 3) (by rw [g8, mset_k (by decide), g6, mset_e]) (Int.le_refl _) hn.1 rfl (Or.inr (Or.inr rfl)) (fun _ z => ?_) (fun z => absurd rfl z) (fun z => absurd z (by decide)) (fun z => absurd z (by decide)) (fun M' f1 f2 f3 => hQ M' (fun q x => by rw [f1 q x]; exact q8 q x) ⟨f3, by rw [f2 4 (by decide) (by decide) (by decide), g8, mset_k (by decide), g6, mset_k (by decide), g4, mset_k (by decide), g2, mset_e], by rw [f2 5 (by decide) (by decide) (by decide), g8, mset_k (by decide), g6, mset_k (by decide), g4, mset_e]⟩)
  have := s.1
  rw [← z] at this
  exact absurd this (by decide)
theorem uS_ok {x y : Int} (x0 : 2 ≤ x ∧ x ≤ 9) (y0 : 2 ≤ y ∧ y ≤ 6) : DOK (uS H00c x y) 0 := by
  have e : ∀ i, i ≠ 0 → i ≠ 1 → uS H00c x y 0 i = H00c 0 i := fun i a c => by unfold uS; rw [uR_0, if_neg c, uR_0, if_neg a]
  have e0 : uS H00c x y 0 0 = x := by unfold uS; rw [uR_0, if_neg (by decide), uR_0, if_pos rfl]
  have e1 : uS H00c x y 0 1 = y := by unfold uS; rw [uR_0, if_pos rfl]
  have eo : ∀ f : Nat, f ≠ 0 → uS H00c x y f = H00c f := fun f hf => by unfold uS; rw [uR_o hf, uR_o hf]
  have z2 : H00c 0 2 = 0 ∧ H00c 0 3 = 0 ∧ H00c 0 4 = 0 ∧ H00c 0 5 = 60 ∧ H00c 0 6 = 20 ∧ H00c 0 7 = 1 ∧ H00c 0 8 = 3 := by decide
  refine ⟨⟨Or.inr ?_, ?_, fun c a d => ?_, fun k a d => ?_, fun j k a d => ?_, fun k a d => ?_, fun k a d => ?_, fun k i a d => ?_⟩, ?_, by decide, by decide, fun k a d => ?_⟩
  · rw [e0, e1]; exact ⟨x0.1, x0.2, y0.1, y0.2⟩
  · rw [e 2 (by decide) (by decide), e 3 (by decide) (by decide), e 4 (by decide) (by decide), e 5 (by decide) (by decide), e 6 (by decide) (by decide), e 7 (by decide) (by decide), e 8 (by decide) (by decide), z2.1, z2.2.1, z2.2.2.1, z2.2.2.2.1, z2.2.2.2.2.1, z2.2.2.2.2.2.1, z2.2.2.2.2.2.2]
    decide
  · rw [eo 1 (by decide)]; exact Or.inl rfl
  · rw [e 2 (by decide) (by decide), z2.1] at d; omega
  · rw [e 2 (by decide) (by decide), z2.1] at d; omega
  · rw [e 3 (by decide) (by decide), z2.2.1] at d; omega
  · rw [e 4 (by decide) (by decide), z2.2.2.1] at d; omega
  · rw [e 4 (by decide) (by decide), z2.2.2.1] at d; omega
  · rw [e0]; exact x0.1
  · rw [e 2 (by decide) (by decide), z2.1] at d; omega
/-- the first statement -/
theorem st1_c (hg : isG g) (hT : cK b n p e M) (hD : Dc g H00c 0 M) (hs : M 4 1 = 0) (hF : ∀ f pl, p1 b n p e = Sum.inl (f, pl) → ∀ M' : Mem, tfr g M M' → cFl f pl M' → Q 0 M') (hO : ∀ x, p1 b n p e = Sum.inr x → ∀ M' : Mem, tfr g M M' → cK b n x.2.1 x.2.2 M' → Dc g x.1 0 M' → DOK x.1 0 → Q 1 M') : PX2_takeStatement g M Q := by
  have hh : 31 < g := by rcases hg with rfl | rfl <;> decide
  have un := una_c hT
  have fl0 : ∃ rest, fl 0 = 68 :: rest := ⟨_, rfl⟩
  obtain ⟨rest, hr⟩ := fl0
  have fd : fdx b n p e (fl 0) 0 = if iswd b n p e (wd 68) = true then 0 else fdx b n p e rest 1 := by rw [hr]; rfl
  intro a2 h2
  rw [find_c hT.1 (by decide), fd] at h2
  have bad : ¬ iswd b n p e (wd 68) = true → ∀ M5 : Mem, M5 = fmX9_unasked M → ((fX9_unasked : Int) = 0 ∨ (fX9_unasked : Int) = 1) ∧ Q fX9_unasked M5 := by
    intro z M5 h5
    rw [h5]
    refine ⟨Or.inl rfl, hF 1 p ?_ _ (tfr_c un.1) un.2⟩
    unfold p1
    exact bnd_l (by unfold pW; rw [if_neg z])
  have ne : ¬ a2 = 0 → ¬ iswd b n p e (wd 68) = true := fun z y => z (by rw [if_pos y] at h2; exact h2)
  refine ⟨fun z => bad (ne (by omega)), fun z => ⟨fun y => bad (ne (by omega)), fun y => ⟨fun x => ?_, fun x => bad (ne (fun v => ?_))⟩⟩⟩
  · rw [if_pos hs] at x
    have a0 : a2 = 0 := Classical.byContradiction (fun v => by rw [if_neg v] at x; exact absurd x (by decide))
    have iw : iswd b n p e (wd 68) = true := by
      refine Classical.byContradiction (fun v => ?_)
      rw [if_neg v] at h2
      rcases fdx_ge (b := b) (n := n) (p := p) (e := e) rest 1 with u | u
      · omega
      · omega
    have hW : pW b n p e 68 = Sum.inr (nxp b n p, nxe b n p) := by unfold pW; rw [if_pos iw]
    rw [full_c hD, a0]
    have fu : ¬ full H00c 0 0 = true := by decide
    rw [if_neg fu]
    refine ⟨fun _ => ?_, fun v => absurd rfl v⟩
    refine nx_k hT (Or.inl (iswd_k iw).1) (fun M15 r15 k15 => ⟨fun _ => ?_, fun v => absurd rfl v⟩)
    have D15 := Dc_fr hg r15 hD
    unfold PX2_takeSize
    rw [k15.1.2.2.2.2.1]
    refine N_c k15 (fun f pl h M2 r x M5 h5 => ⟨fun _ => ⟨fun _ => ?_, fun v => absurd rfl v⟩, fun v => ?_⟩) (fun x h M2 r k2 M5 h5 => ?_)
    · exact hF f pl (by unfold p1; rw [bnd_r hW]; exact bnd_l h) M5 (fun q a c => by rw [h5, mset_p (by omega), r q a]; exact r15 q a) (cFl_3 x (by rw [h5, mset_p (by omega)]))
    · rw [h5, mset_e] at v; exact absurd rfl v
    · have xv := pN_v h
      have e5 : M5 g 9 = x.1 := by rw [h5, mset_e]
      have k5 : cK b n x.2.1 x.2.2 M5 := cK_d k2 (fun q a => by rw [h5, mset_p (by omega)])
      have D5 : Dc g (uR H00c 0 x.1) 0 M5 := Dc_R hg (Dc_fr hg r D15) (k := 0) (by omega) h5
      rw [e5, k5.1.2.2.2.2.1]
      refine ⟨fun v => by omega, fun _ => ?_⟩
      refine N_c k5 (fun f pl h' M8 r8 c8 M11 h11 => ?_) (fun y h' M8 r8 k8 M11 h11 => ?_)
      · have e11 : M11 g 10 = -1 := by rw [h11, mset_e]
        rw [e11, if_pos rfl]
        refine ⟨Or.inl rfl, fun _ => ?_, fun v => absurd rfl v⟩
        exact hF f pl (by unfold p1; rw [bnd_r hW, bnd_r h]; exact bnd_l h') M11 (fun q a c => by rw [h11, mset_p (by omega), r8 q a, h5, mset_p (by omega), r q a]; exact r15 q a) (cFl_3 c8 (by rw [h11, mset_p (by omega)]))
      · have yv := pN_v h'
        have e11 : M11 g 10 = y.1 := by rw [h11, mset_e]
        rw [e11, if_neg (by omega)]
        have k11 : cK b n y.2.1 y.2.2 M11 := cK_d k8 (fun q a => by rw [h11, mset_p (by omega)])
        have D11 : Dc g (uS H00c x.1 y.1) 0 M11 := Dc_R hg (Dc_fr hg r8 D5) (k := 1) (by omega) h11
        have T11 : tfr g M M11 := fun q a c => by rw [h11, mset_p (by omega), r8 q a, h5, mset_p (by omega), r q a]; exact r15 q a
        refine ⟨Or.inr rfl, fun v => absurd v (by decide), fun _ => ?_⟩
        refine S_c k11 (fun f pl hs' M23 r23 c23 => ⟨Or.inl rfl, hF f pl (by unfold p1; rw [bnd_r hW, bnd_r h, bnd_r h']; exact bnd_l hs') M23 (tfr_t T11 (tfr_c r23)) c23⟩) (fun z' hs' M23 r23 k23 => ⟨Or.inr rfl, hO (uS H00c x.1 y.1, z'.1, z'.2) (by unfold p1; rw [bnd_r hW, bnd_r h, bnd_r h']; exact bnd_r hs') M23 (tfr_t T11 (tfr_c r23)) k23 (Dc_fr hg r23 D11) (uS_ok xv yv)⟩)
  · rw [if_pos hs, if_pos v] at x
    exact absurd rfl x
end
