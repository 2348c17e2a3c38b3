/-! the text of a hall: the class's person, a statement, all -/
section
variable {b : Int → Int} {n p e g w : Int} {H : Hal} {M M' : Mem} {Q : Int → Mem → Prop}
theorem prs_c (hg : isG g) (hd : DOK H w) (hw : H 0 4 < 9) (hT : cK b n p e M) (hD : Dc g H w M) (hF : ∀ f pl, pB b n p e H w 3 = Sum.inl (f, pl) → ∀ M' : Mem, tfr g M M' → cFl f pl M' → Q 0 M') (hO : ∀ x, pB b n p e H w 3 = Sum.inr x → ∀ M' : Mem, tfr g M M' → cK b n x.2.1 x.2.2 M' → Dc g x.1.1 x.1.2 M' → Q 1 M') : PX2_takePerson g M Q := by
  have hh : 31 < g := by rcases hg with rfl | rfl <;> decide
  have eB : pB b n p e H w 3 = bnd (pP b n p e H) (fun c => Sum.inr ((c.1, w), c.2.1, c.2.2)) := by unfold pB; rw [if_neg (by decide), if_neg (by decide), if_pos rfl]
  rw [eB] at hF hO
  have hb := hd.1.2.1
  have e18 : M (g + 1) 8 = H 0 4 := hD.1.1.2.2.2.2.1
  have F : ∀ f pl, pP b n p e H = Sum.inl (f, pl) → ∀ M' : Mem, tfr g M M' → cFl f pl M' → Q 0 M' := fun f pl h M' r x => hF f pl (bnd_l h) M' r x
  unfold PX2_takePerson
  rw [e18]
  refine nam_c hg hd hT hD (fun f pl h M2 r x => ⟨fun _ => F f pl (by unfold pP; exact bnd_l h) M2 (tfr_c r) x, fun z => absurd rfl z⟩) (fun a h1 M2 r2 k2 => ?_)
  have av := pM_v hT.1.1 h1
  refine ⟨fun z => by have := av.2.1; omega, fun _ => ?_⟩
  refine W_c (i := 72) (by decide) rfl k2 (fun f pl h M6 r x => ⟨fun _ => F f pl (by unfold pP; rw [bnd_r h1]; exact bnd_l h) M6 (tfr_c (cfr_t r2 r)) x, fun z => absurd rfl z⟩) (fun t1 h2 M6 r6 k6 => ⟨fun z => absurd z (by decide), fun _ => ?_⟩)
  have R6 := cfr_t r2 r6
  have D6 := Dc_fr hg R6 hD
  refine cel_c hg hd k6 D6 (fun f pl h M10 r x => ⟨fun _ => F f pl (by unfold pP; rw [bnd_r h1, bnd_r h2]; exact bnd_l h) M10 (tfr_c (cfr_t R6 r)) x, fun z => absurd rfl z⟩) (fun c h3 M10 r10 k10 => ?_)
  have cv := pC_b hd h3
  have R10 := cfr_t R6 r10
  refine ⟨fun z => by have := cv.1; omega, fun _ => ?_⟩
  refine slw_c hg k10 hb.2.2.2.2.1 hw (fun f pl h M14 r x => ⟨fun _ => F f pl (by unfold pP; rw [bnd_r h1, bnd_r h2, bnd_r h3]; exact bnd_2 h) M14 (tfr_c (cfr_t R10 r)) x, fun z => absurd rfl z⟩) (fun t2 h4 wt h5 M14 q14 i14 p14 k14 => ⟨fun z => absurd z (by decide), fun _ => ?_⟩)
  have T14 : tfr g M M14 := fun q x y => by rw [q14 q x (by omega)]; exact R10 q x
  refine nb_c (i := 74) (by decide) rfl k14 (fun f pl h M18 r x => ⟨fun _ => F f pl (by unfold pP; rw [bnd_r h1, bnd_r h2, bnd_r h3, bnd_r h4, bnd_r h5]; exact bnd_2 h) M18 (tfr_t T14 (tfr_c r)) x, fun z => absurd rfl z⟩) (fun t3 h6 d h7 M18 r18 k18 => ?_)
  have dv := pN_v h7
  refine ⟨fun z => by omega, fun _ => ?_⟩
  refine nb_c (i := 75) (by decide) rfl k18 (fun f pl h M22 r x => ⟨fun _ => F f pl (by unfold pP; rw [bnd_r h1, bnd_r h2, bnd_r h3, bnd_r h4, bnd_r h5, bnd_r h6, bnd_r h7]; exact bnd_2 h) M22 (tfr_t T14 (tfr_c (cfr_t r18 r))) x, fun z => absurd rfl z⟩) (fun t4 h8 m h9 M22 r22 k22 => ?_)
  have mv := pN_v h9
  refine ⟨fun z => by omega, fun _ => ?_⟩
  have R22 := cfr_t r18 r22
  refine tst_c hg k22 hb.2.2.2.2.1 hw (fun f pl h M26 t x => ⟨fun _ => F f pl (by unfold pP; rw [bnd_r h1, bnd_r h2, bnd_r h3, bnd_r h4, bnd_r h5, bnd_r h6, bnd_r h7, bnd_r h8, bnd_r h9]; exact bnd_2 h) M26 (tfr_t (tfr_t T14 (tfr_c R22)) t) x, fun z => absurd rfl z⟩) (fun t5 h10 q h11 M26 q26 i7 p7 i8 p8 k26 => ⟨fun z => absurd z (by decide), fun _ => ?_⟩)
  intro M30 g30 M32 g32 M34 g34 M36 g36
  rw [rd_put hb.2.2.2.2.1 (by omega)] at g30 g32 g34 g36
  have eF : M36 = mset (mset (mset (mset M26 (g + 2) (H 0 4) a.1) (g + 3) (H 0 4) c.1) (g + 5) (H 0 4) d.1) (g + 6) (H 0 4) m.1 := by rw [g36, g34, g32, g30]
  clear g30 g32 g34 g36
  have k36 : cK b n q.2.1 q.2.2 M36 := cK_d k26 (fun j x => by rw [eF, mset_p (by omega), mset_p (by omega), mset_p (by omega), mset_p (by omega)])
  -- the rows, from the beginning on
  have b10 : ∀ j, j ≠ 3 → j ≠ g + 4 → M22 j = M j := fun j x y => by rw [R22 j x, q14 j x y]; exact R10 j x
  have a36 : ∀ j, j ≠ 3 → (j < g + 2 ∨ g + 8 < j) → M36 j = M j := fun j x y => by rw [eF, mset_p (by omega), mset_p (by omega), mset_p (by omega), mset_p (by omega), q26 j x (by omega) (by omega)]; exact b10 j x (by omega)
  have f4 : M36 (g + 4) = M14 (g + 4) := by rw [eF, mset_p (by omega), mset_p (by omega), mset_p (by omega), mset_p (by omega), q26 _ (by omega) (by omega) (by omega), R22 _ (by omega)]
  have m4 : M10 (g + 4) = M (g + 4) := R10 _ (by omega)
  have f7 : M36 (g + 7) = M26 (g + 7) := by rw [eF, mset_p (by omega), mset_p (by omega), mset_p (by omega), mset_p (by omega)]
  have f8 : M36 (g + 8) = M26 (g + 8) := by rw [eF, mset_p (by omega), mset_p (by omega), mset_p (by omega), mset_p (by omega)]
  have row : ∀ (j : Int) (x : Int), (j = g + 2 ∨ j = g + 3 ∨ j = g + 5 ∨ j = g + 6) → x ≠ H 0 4 → M36 j x = M j x := by
    intro j x hj hx
    rw [eF, ← b10 j (by omega) (by omega), ← q26 j (by omega) (by omega) (by omega)]
    rw [ms, if_neg (fun z => hx z.2), ms, if_neg (fun z => hx z.2), ms, if_neg (fun z => hx z.2), ms, if_neg (fun z => hx z.2)]
  have r2P : M36 (g + 2) (H 0 4) = a.1 := by rw [eF, mset_o (by omega), mset_o (by omega), mset_o (by omega), mset_e]
  have r3P : M36 (g + 3) (H 0 4) = c.1 := by rw [eF, mset_o (by omega), mset_o (by omega), mset_e]
  have r5P : M36 (g + 5) (H 0 4) = d.1 := by rw [eF, mset_o (by omega), mset_e]
  have r6P : M36 (g + 6) (H 0 4) = m.1 := by rw [eF, mset_e]
  have e26 : ∀ i, i < 12 * H 0 4 → M26 (g + 8) i = M (g + 8) i := fun i x => by rw [i8 i x, b10 _ (by omega) (by omega)]
  have fin : ∀ (k : Int) (N : Mem), (k = 0 ∨ k = 1) → (∀ j, j ≠ 3 → j ≠ g + 1 → N j = M36 j) → N (g + 1) 8 = H 0 4 + 1 → N (g + 1) 7 = (if k = 1 then m_or (M (g + 1) 7) (m_shl 1 (H 0 4)) else M (g + 1) 7) → Dc g (uP H a.1 a.2.1 c.1 wt.1 d.1 m.1 (fun k => wof (b (t5.1 + k))) q.1 k) w N ∧ tfr g M N := by
    intro k N hk e1 e8 e7
    have ql : q.1 ≤ 12 := by
      unfold pT at h11
      by_cases z : knd b n t5.1 t5.2 = 1 ∧ tnd b n t5.1 - t5.1 ≤ 12 ∧ allw b t5.1 (tnd b n t5.1 - t5.1).toNat = true
      · rw [if_pos z] at h11
        have e1 : (tnd b n t5.1 - t5.1, nxp b n t5.1, nxe b n t5.1) = q := by injection h11
        rw [← e1]
        exact z.2.1
      · rw [if_neg z] at h11; cases h11
    refine ⟨Dc_P hg hd hD hw hk ?_ (fun j x y => ?_) e8 e7 (fun i hi => ?_) ?_ (fun i hi => ?_) ql (fun i x y => ?_), fun j x y => ?_⟩
    · rw [e1 g (by omega) (by omega)]; exact a36 g (by omega) (by omega)
    · rw [e1 j (by omega) (by omega)]; exact a36 j (by omega) (by omega)
    · rw [e1 _ (by omega) (by omega), e1 _ (by omega) (by omega), e1 _ (by omega) (by omega), e1 _ (by omega) (by omega), e1 _ (by omega) (by omega), e1 _ (by omega) (by omega), f4, f7]
      refine ⟨row _ i (by omega) (by omega), row _ i (by omega) (by omega), ?_, row _ i (by omega) (by omega), row _ i (by omega) (by omega), ?_⟩
      · rw [i14 i (by omega), m4]
      · rw [i7 i (by omega), b10 _ (by omega) (by omega)]
    · rw [e1 _ (by omega) (by omega), e1 _ (by omega) (by omega), e1 _ (by omega) (by omega), e1 _ (by omega) (by omega), e1 _ (by omega) (by omega), e1 _ (by omega) (by omega), f4, f7]
      exact ⟨r2P, r3P, p14, r5P, r6P, p7⟩
    · rw [e1 _ (by omega) (by omega), f8]; exact e26 i hi
    · rw [e1 _ (by omega) (by omega), f8]; exact p8 i x y
    · rw [e1 j x (by omega)]; exact a36 j x (by omega)
  have n18 : M36 (g + 1) = M (g + 1) := a36 _ (by omega) (by omega)
  intro a38 h38
  rw [find_c k36.1 (by decide), show fl 6 = [77] from rfl, fdx_1] at h38
  have eP : ∀ k : Int, (if iswd b n q.2.1 q.2.2 (wd 77) = true then k = 1 else k = 0) → pP b n p e H = Sum.inr (uP H a.1 a.2.1 c.1 wt.1 d.1 m.1 (fun k => wof (b (t5.1 + k))) q.1 k, if iswd b n q.2.1 q.2.2 (wd 77) = true then (nxp b n q.2.1, nxe b n q.2.1) else (q.2.1, q.2.2)) := by
    intro k hk
    unfold pP
    rw [bnd_r h1, bnd_r h2, bnd_r h3, bnd_r h4, bnd_r h5, bnd_r h6, bnd_r h7, bnd_r h8, bnd_r h9, bnd_r h10, bnd_r h11]
    by_cases z : iswd b n q.2.1 q.2.2 (wd 77) = true
    · rw [if_pos z] at hk
      rw [if_pos z, if_pos z, hk]
    · rw [if_neg z] at hk
      rw [if_neg z, if_neg z, hk]
  refine ⟨fun z => ?_, fun z => ?_⟩
  · have iw : iswd b n q.2.1 q.2.2 (wd 77) = true := by
      refine Classical.byContradiction (fun y => ?_)
      rw [if_neg y] at h38
      rw [h38] at z
      exact absurd z (by decide)
    have eP1 := eP 1 (by rw [if_pos iw])
    rw [if_pos iw] at eP1
    intro M43 g43
    have k43 : cK b n q.2.1 q.2.2 M43 := cK_d k36 (fun j x => by rw [g43, mset_p (by omega)])
    refine nx_k k43 (Or.inl (iswd_k iw).1) (fun M45 r45 k45 => ?_)
    intro M48 g48
    have f8' : M45 (g + 1) 8 = H 0 4 := by rw [r45 _ (by omega), g43, mset_k (by decide), n18]; exact e18
    rw [f8', wad (by omega) (by omega)] at g48
    have fn := fin 1 M48 (Or.inr rfl) (fun j x y => by rw [g48, mset_p y, r45 j x, g43, mset_p y]) (by rw [g48, mset_e]) (by rw [g48, mset_k (by decide), r45 _ (by omega), g43, mset_e, if_pos rfl, n18])
    exact hO _ (bnd_r eP1) M48 fn.2 (cK_d k45 (fun j x => by rw [g48, mset_p (by omega)])) fn.1
  · have iw : ¬ iswd b n q.2.1 q.2.2 (wd 77) = true := fun y => by
      rw [if_pos y] at h38
      exact z h38
    have eP1 := eP 0 (by rw [if_neg iw])
    rw [if_neg iw] at eP1
    intro M41 g41
    have f8' : M36 (g + 1) 8 = H 0 4 := by rw [n18]; exact e18
    rw [f8', wad (by omega) (by omega)] at g41
    have fn := fin 0 M41 (Or.inl rfl) (fun j x y => by rw [g41, mset_p y]) (by rw [g41, mset_e]) (by rw [g41, mset_k (by decide), if_neg (by decide), n18])
    exact hO _ (bnd_r eP1) M41 fn.2 (cK_d k36 (fun j x => by rw [g41, mset_p (by omega)])) fn.1
end
