/-! the text of a hall: the reference's statements -/
section
variable {b : Int → Int} {n p e w : Int} {H : Hal} {M M' : Mem} {Q : Int → Mem → Prop}
theorem rX_b {f pl : Int} (h : rX f pl M) : M 66 5 ≠ 0 := by rw [h.1]; exact h.2.2
theorem fail_X (hT : rK b n p e M) {f pl : Int} (hf : f ≠ 0) : rfr M (fmX12_fail M f pl) ∧ rX f pl (fmX12_fail M f pl) := by
  have r := rfail hT f pl
  exact ⟨r.1, r.2.1, r.2.2, hf⟩
theorem wal_r {v1 : Int} (hd : DOK H w) (hT : rK b n p e M) (hD : Dr H w M) (hU : full H w 1 = true → ∀ M' : Mem, tR M M' → rX 5 v1 M' → Q 0 M') (hF : full H w 1 = false → ∀ f pl, pB b n p e H w 1 = Sum.inl (f, pl) → ∀ M' : Mem, tR M M' → rX f pl M' → Q 0 M') (hO : full H w 1 = false → ∀ x, pB b n p e H w 1 = Sum.inr x → ∀ M' : Mem, tR M M' → rK b n x.2.1 x.2.2 M' → Dr x.1.1 x.1.2 M' → Q 0 M') : PX12_wallTold v1 M Q := by
  have eB : pB b n p e H w 1 = bnd (pC b n p e H 1) (fun c => Sum.inr ((uW H c.1, w + 1), c.2.1, c.2.2)) := by unfold pB; rw [if_pos rfl]
  have sz := hd_sz hd
  have cl := hcells hd.1
  have w37 := hD.1.2.2.1
  have fu : full H w 1 = decide (15 ≤ w) := by unfold full; rw [if_pos rfl]
  have tail : ∀ N : Mem, rX 5 v1 N → tR M N → full H w 1 = true → PX12_cellTold N (fun a4 M5 => (∃ j7 : Mem → Prop, (∀ (M8 : Mem), j7 M8 → (((M8 66 5) = 0 → 0 ≤ a4 ∧ a4 < 108 ∧ (∀ M12 : Mem, M12 = (mset M8 87 a4 1) → (∀ M14 : Mem, M14 = (mset M12 66 37 (wr32 ((M12 66 37) + 1))) → Q 0 M14))) ∧ (¬ ((M8 66 5) = 0) → Q 0 M8))) ∧ (((M5 66 5) = 0 → (nX12_doorAt M5 a4) ∧ (∀ a18 : Int, a18 = (fX12_doorAt M5 a4) → ((a18 = (-1) → (nX12_isSomebody M5 a4) ∧ (∀ a24 : Int, a24 = (fX12_isSomebody M5 a4) → ((a24 = 0 → j7 M5) ∧ (¬ (a24 = 0) → (∀ M27 : Mem, M27 = (fmX12_fail M5 2 (M5 66 9)) → j7 M27))))) ∧ (¬ (a18 = (-1)) → (∀ M21 : Mem, M21 = (fmX12_fail M5 2 (M5 66 9)) → j7 M21))))) ∧ (¬ ((M5 66 5) = 0) → j7 M5)))) := by
    intro N x t u
    refine nb_cell (rX_b x) ⟨fun M8 => M8 = N, fun M8 j => ?_, fun z => absurd z (rX_b x), fun _ => rfl⟩
    rw [j]
    exact ⟨fun z => absurd z (rX_b x), fun _ => hU u N t x⟩
  refine ⟨fun M2 => (rX 5 v1 M2 ∧ tR M M2 ∧ full H w 1 = true) ∨ (M2 = M ∧ full H w 1 = false), fun M2 j => ?_, fun _ => ⟨fun z M31 h31 => ?_, fun z => ?_⟩, fun z => absurd hT.2.1 z⟩
  · rcases j with j | j
    · exact tail M2 j.1 j.2.1 j.2.2
    · rw [j.1]
      have fr := hF j.2
      have fo := hO j.2
      rw [eB] at fr fo
      have wl : w < 15 := by
        have := j.2
        rw [fu] at this
        have := of_decide_eq_false this
        omega
      refine cel_r hd hT hD (fun f pl h M5 r x => ?_) (fun c p1 p2 e2 h c0 c1 M5 r k5 a9 => ?_)
      · refine ⟨fun M8 => M8 = M5, fun M8 j8 => ?_, fun z => absurd z (rX_b x), fun _ => rfl⟩
        rw [j8]
        exact ⟨fun z => absurd z (rX_b x), fun _ => fr f pl (bnd_l (h 1)) M5 (tR_f r) x⟩
      · have D5 := Dr_f r hD
        have dr := dat_r hd D5 c
        have sr := smb_r hd D5 c
        have h1 := h 1
        have fx := fail_X (pl := p1) k5 (show (2 : Int) ≠ 0 by decide)
        have bad : ¬ mst H 1 c = true → ∀ M27 : Mem, M27 = fmX12_fail M5 2 (M5 66 9) → rX 2 p1 M27 ∧ tR M M27 ∧ ¬ mst H 1 c = true := by
          intro z M27 h27
          rw [h27, a9]
          exact ⟨fx.2, tR_f (rfr_t r fx.1), z⟩
        have em : mst H 1 c = (decide (dat H c = -1) && !smb H c) := by unfold mst; rw [if_pos rfl]
        refine ⟨fun M8 => (rX 2 p1 M8 ∧ tR M M8 ∧ ¬ mst H 1 c = true) ∨ (M8 = M5 ∧ mst H 1 c = true), fun M8 j8 => ?_, fun _ => ⟨dr.2, fun a18 h18 => ⟨fun z => ⟨sr.2, fun a24 h24 => ⟨fun y => Or.inr ⟨rfl, ?_⟩, fun y M27 h27 => Or.inl (bad ?_ M27 h27)⟩⟩, fun z M21 h21 => Or.inl (bad ?_ M21 h21)⟩⟩, fun z => absurd k5.2.1 z⟩
        · rcases j8 with j8 | j8
          · refine ⟨fun z => absurd z (rX_b j8.1), fun _ => fr 2 p1 ?_ M8 j8.2.1 j8.1⟩
            rw [if_neg j8.2.2] at h1
            exact bnd_l h1
          · rw [j8.1]
            rw [if_pos j8.2] at h1
            refine ⟨fun _ => ⟨c0, by omega, fun M12 g12 M14 g14 => ?_⟩, fun z => absurd k5.2.1 z⟩
            have e37 : M12 66 37 = w := by rw [g12, mset_o (by decide)]; exact D5.1.2.2.1
            rw [e37, wad (by have := hd.2.2.1; omega) (by omega), g12] at g14
            refine fo _ (bnd_r h1) M14 (tR_t (tR_f r) (by rw [g14]; exact tR_t (tR_1 (by omega)) (tR_1 (by omega)))) (rK_e k5 (fun j x y => by rw [g14, mset_k (by omega), mset_o (by decide)]) (by rw [g14, mset_p (by decide), mset_p (by decide)])) (by rw [g14]; exact Dr_W D5)
        · rw [em, ← dr.1, ← h18, decide_eq_true z, Bool.true_and]
          rw [sr.1] at h24
          by_cases s : smb H c = true
          · rw [if_pos s] at h24
            rw [h24] at y
            exact absurd y (by decide)
          · rw [Bool.eq_false_iff.mpr s]; rfl
        · intro u
          rw [em, Bool.and_eq_true] at u
          rw [sr.1] at h24
          have s : smb H c = false := by
            cases hs : smb H c with
            | false => rfl
            | true => rw [hs] at u; exact absurd u.2 (by decide)
          rw [s] at h24
          exact y h24
        · intro u
          rw [em, Bool.and_eq_true] at u
          exact z (by rw [h18, dr.1]; exact of_decide_eq_true u.1)
  · have fx := fail_X (pl := v1) hT (show (5 : Int) ≠ 0 by decide)
    rw [h31]
    exact Or.inl ⟨fx.2, tR_f fx.1, by rw [fu]; exact decide_eq_true (by omega)⟩
  · refine Or.inr ⟨rfl, ?_⟩
    rw [fu]
    refine decide_eq_false (fun y => z ?_)
    have := hd.2.2.2.1
    omega
theorem isF_r {k room v1 : Int} (hT : rK b n p e M) : (M 85 k = room → fmX12_isFull M k room v1 = fmX12_fail M 5 v1 ∧ fX12_isFull M k room v1 = 1) ∧ (M 85 k ≠ room → fmX12_isFull M k room v1 = M ∧ fX12_isFull M k room v1 = 0) := by
  have g := hT.2.1
  unfold fmX12_isFull fX12_isFull
  rw [if_pos g]
  refine ⟨fun z => ?_, fun z => ?_⟩
  · rw [if_pos z]
    refine ⟨rfl, ?_⟩
    have f := (rfail hT 5 v1).2.1
    rw [f, if_neg (by decide)]
  · rw [if_neg z]
    exact ⟨rfl, by rw [if_pos g]⟩
theorem sF_tR {V : Int} (h : sF V M M') (V0 : V + 12 ≤ 162) : tR M M' := ⟨fun q a1 _ _ _ a5 _ _ _ => h.1 q a1 a5, fun j hj => h.2.1 j (by omega) (by omega) (by omega) (by omega) (by omega) (by omega), fun j _ => by rw [h.1 85 (by decide) (by decide)], fun j _ => by rw [h.1 86 (by decide) (by decide)], fun j _ => by rw [h.1 87 (by decide) (by decide)], fun j hj => h.2.2 j (by omega), fun j _ => by rw [h.1 89 (by decide) (by decide)], fun j _ => by rw [h.1 90 (by decide) (by decide)], fun j _ => by rw [h.1 91 (by decide) (by decide)]⟩
theorem dor_r {v1 : Int} (hd : DOK H w) (hT : rK b n p e M) (hD : Dr H w M) (hU : full H w 2 = true → ∀ M' : Mem, tR M M' → rX 5 v1 M' → Q 0 M') (hF : full H w 2 = false → ∀ f pl, pB b n p e H w 2 = Sum.inl (f, pl) → ∀ M' : Mem, tR M M' → rX f pl M' → Q 0 M') (hO : full H w 2 = false → ∀ x, pB b n p e H w 2 = Sum.inr x → ∀ M' : Mem, tR M M' → rK b n x.2.1 x.2.2 M' → Dr x.1.1 x.1.2 M' → Q 0 M') : PX12_doorTold v1 M Q := by
  have eB : pB b n p e H w 2 = bnd (pC b n p e H 2) (fun c => Sum.inr ((uD H c.1, w), c.2.1, c.2.2)) := by unfold pB; rw [if_neg (by decide), if_pos rfl]
  have cl := hcells hd.1
  have hb := hd.1.2.1
  have fu : full H w 2 = decide (6 ≤ H 0 2) := by unfold full; rw [if_neg (by decide), if_pos rfl]
  have d2 : M 85 2 = H 0 2 := hD.1.2.2.2.1
  have is := isF_r (k := 2) (room := 6) (v1 := v1) hT
  refine ⟨fun _ => by decide, fun M3 h3 => ?_⟩
  by_cases z6 : M 85 2 = 6
  · have i := is.1 z6
    rw [i.1] at h3
    rw [i.2]
    refine ⟨fun z => absurd z (by decide), fun _ => ?_⟩
    have fx := fail_X (pl := v1) hT (show (5 : Int) ≠ 0 by decide)
    rw [h3]
    exact hU (by rw [fu]; exact decide_eq_true (by omega)) _ (tR_f fx.1) fx.2
  · have i := is.2 z6
    rw [i.1] at h3
    rw [i.2, h3]
    have f0 : full H w 2 = false := by rw [fu]; exact decide_eq_false (by omega)
    have fr := hF f0
    have fo := hO f0
    rw [eB] at fr fo
    refine ⟨fun _ => ?_, fun z => absurd rfl z⟩
    refine cel_r hd hT hD (fun f pl h M5 r x => ?_) (fun c p1 p2 e2 h c0 c1 M5 r k5 a9 => ?_)
    · refine ⟨fun M8 => M8 = M5, fun M8 j8 => ?_, fun z => absurd z (rX_b x), fun _ => rfl⟩
      rw [j8]
      exact ⟨fun z => absurd z (rX_b x), fun _ => fr f pl (bnd_l (h 2)) M5 (tR_f r) x⟩
    · have D5 := Dr_f r hD
      have dr := dat_r hd D5 c
      have h1 := h 2
      have fx := fail_X (pl := p1) k5 (show (2 : Int) ≠ 0 by decide)
      have e87 : M5 87 c = H 1 c := D5.2.1 c c0 (by omega)
      have em : mst H 2 c = (decide (dat H c = -1) && decide (H 1 c = 0)) := by unfold mst; rw [if_neg (by decide), if_pos rfl]
      have bad : ¬ mst H 2 c = true → ∀ M27 : Mem, M27 = fmX12_fail M5 2 (M5 66 9) → rX 2 p1 M27 ∧ tR M M27 ∧ ¬ mst H 2 c = true := by
        intro z M27 h27
        rw [h27, a9]
        exact ⟨fx.2, tR_f (rfr_t r fx.1), z⟩
      refine ⟨fun M8 => (rX 2 p1 M8 ∧ tR M M8 ∧ ¬ mst H 2 c = true) ∨ (M8 = M5 ∧ mst H 2 c = true), fun M8 j8 => ?_, fun _ => ⟨c0, by omega, fun z => ⟨dr.2, fun a23 h23 => ⟨fun y => Or.inr ⟨rfl, ?_⟩, fun y M26 h26 => Or.inl (bad ?_ M26 h26)⟩⟩, fun z M20 h20 => Or.inl (bad ?_ M20 h20)⟩, fun z => absurd k5.2.1 z⟩
      · rcases j8 with j8 | j8
        · refine ⟨fun z => absurd z (rX_b j8.1), fun _ => fr 2 p1 ?_ M8 j8.2.1 j8.1⟩
          rw [if_neg j8.2.2] at h1
          exact bnd_l h1
        · rw [j8.1]
          rw [if_pos j8.2] at h1
          have f2 : M5 85 2 = H 0 2 := D5.1.2.2.2.1
          rw [f2]
          refine ⟨fun _ => ⟨by omega, by omega, fun M13 g13 M15 g15 => ?_⟩, fun z => absurd k5.2.1 z⟩
          have e85 : M13 85 2 = H 0 2 := by rw [g13, mset_o (by decide)]; exact f2
          rw [e85, wad (by omega) (by omega), g13] at g15
          exact fo _ (bnd_r h1) M15 (tR_t (tR_f r) (by rw [g15]; exact tR_t (tR_1 (by omega)) (tR_1 (by omega)))) (rK_e k5 (fun j x y => by rw [g15, mset_o (by decide), mset_o (by decide)]) (by rw [g15, mset_p (by decide), mset_p (by decide)])) (by rw [g15]; exact Dr_D D5)
      · rw [em, ← dr.1, ← h23, decide_eq_true y, Bool.true_and]
        exact decide_eq_true (e87.symm.trans z)
      · intro u
        rw [em, Bool.and_eq_true] at u
        exact y (by rw [h23, dr.1]; exact of_decide_eq_true u.1)
      · intro u
        rw [em, Bool.and_eq_true] at u
        exact z (e87.trans (of_decide_eq_true u.2))
theorem iK_r (hK : iK M) (r : rfr M M') : iK M' := iK_fr (fun q hq => r.1 q (by omega)) hK
theorem iK_t (hK : iK M) (r : tR M M') : iK M' := iK_fr (fun q hq => r.1 q (by omega) (by omega) (by omega) (by omega) (by omega) (by omega) (by omega) (by omega)) hK
theorem grd_r {v1 : Int} (hd : DOK H w) (hK : iK M) (hT : rK b n p e M) (hD : Dr H w M) (hU : full H w 4 = true → ∀ M' : Mem, tR M M' → rX 5 v1 M' → Q 0 M') (hF : full H w 4 = false → ∀ f pl, pB b n p e H w 4 = Sum.inl (f, pl) → ∀ M' : Mem, tR M M' → rX f pl M' → Q 0 M') (hO : full H w 4 = false → ∀ x, pB b n p e H w 4 = Sum.inr x → ∀ M' : Mem, tR M M' → rK b n x.2.1 x.2.2 M' → Dr x.1.1 x.1.2 M' → Q 0 M') : PX12_guardTold v1 M Q := by
  have eB : pB b n p e H w 4 = bnd (pG b n p e H) (fun c => Sum.inr ((c.1, w), c.2.1, c.2.2)) := by unfold pB; rw [if_neg (by decide), if_neg (by decide), if_neg (by decide), if_pos rfl]
  have cl := hcells hd.1
  have hb := hd.1.2.1
  have fu : full H w 4 = decide (4 ≤ H 0 3) := by unfold full; rw [if_neg (by decide), if_neg (by decide), if_neg (by decide), if_pos rfl]
  have d1 : M 85 1 = H 0 3 := hD.1.2.2.2.2.1
  have is := isF_r (k := 1) (room := 4) (v1 := v1) hT
  refine ⟨fun _ => by decide, fun M3 h3 => ?_⟩
  by_cases z6 : M 85 1 = 4
  · have i := is.1 z6
    rw [i.1] at h3
    rw [i.2]
    refine ⟨fun z => absurd z (by decide), fun _ => ?_⟩
    have fx := fail_X (pl := v1) hT (show (5 : Int) ≠ 0 by decide)
    rw [h3]
    exact hU (by rw [fu]; exact decide_eq_true (by omega)) _ (tR_f fx.1) fx.2
  · have i := is.2 z6
    rw [i.1] at h3
    rw [i.2, h3, d1]
    have f0 : full H w 4 = false := by rw [fu]; exact decide_eq_false (by omega)
    have fr0 := hF f0
    have fo := hO f0
    rw [eB] at fr0 fo
    have F : ∀ f pl, pG b n p e H = Sum.inl (f, pl) → ∀ N : Mem, tR M N → rX f pl N → Q 0 N := fun f pl h N t x => fr0 f pl (bnd_l h) N t x
    refine ⟨fun _ => ?_, fun z => absurd rfl z⟩
    have i10 : wr32 (10 + H 0 3) = 10 + H 0 3 := wad (by omega) (by omega)
    have i3 : wr32 (3 * H 0 3) = 3 * H 0 3 := wmu (by omega) (by omega)
    have i31 : wr32 (3 * H 0 3 + 1) = 3 * H 0 3 + 1 := wad (by omega) (by omega)
    have i32 : wr32 (3 * H 0 3 + 2) = 3 * H 0 3 + 2 := wad (by omega) (by omega)
    rw [i10, i3, i31, i32]
    clear i10 i3 i31 i32
    refine nnm_r hd hK hT hD (fun f pl h M6 a5 r x => ?_) (fun a h1 M6 r6 k6 => ?_)
    · have hbad := rX_b x
      refine nb_asks hbad (nb_cell hbad ⟨fun M15 => M15 = M6, fun M15 j => ?_, fun z => absurd z hbad, fun _ => rfl⟩)
      rw [j]
      exact nb_asks hbad (nb_num hbad (nb_asks hbad (nb_num hbad ⟨fun z => absurd z hbad, fun _ => F f pl (by unfold pG; exact bnd_l h) M6 (tR_f r) x⟩)))
    refine W_r (i := 72) k6 (rows (iK_r hK r6) 72 (by decide)) (by decide) (fun f pl h M9 r x => ?_) (fun t1 h2 M9 r9 k9 => ?_)
    · have hbad := rX_b x
      refine nb_cell hbad ⟨fun M15 => M15 = M9, fun M15 j => ?_, fun z => absurd z hbad, fun _ => rfl⟩
      rw [j]
      exact nb_asks hbad (nb_num hbad (nb_asks hbad (nb_num hbad ⟨fun z => absurd z hbad, fun _ => F f pl (by unfold pG; rw [bnd_r h1]; exact bnd_l h) M9 (tR_f (rfr_t r6 r)) x⟩)))
    have R9 := rfr_t r6 r9
    have D9 := Dr_f R9 hD
    refine cel_r hd k9 D9 (fun f pl h M12 r x => ?_) (fun c p1 p2 e2 h c0 c1 M12 r12 k12 a9 => ?_)
    · have hbad := rX_b x
      refine ⟨fun M15 => M15 = M12, fun M15 j => ?_, fun z => absurd z hbad, fun _ => rfl⟩
      rw [j]
      exact nb_asks hbad (nb_num hbad (nb_asks hbad (nb_num hbad ⟨fun z => absurd z hbad, fun _ => F f pl (by unfold pG; rw [bnd_r h1, bnd_r h2]; exact bnd_l (h 4)) M12 (tR_f (rfr_t R9 r)) x⟩)))
    have R12 := rfr_t R9 r12
    have D12 := Dr_f R12 hD
    have h3' := h 4
    have fx := fail_X (pl := p1) k12 (show (2 : Int) ≠ 0 by decide)
    have e87 : M12 87 c = H 1 c := D12.2.1 c c0 (by omega)
    have em : mst H 4 c = decide (H 1 c = 0) := by unfold mst; rw [if_neg (by decide), if_neg (by decide)]
    refine ⟨fun M15 => (rX 2 p1 M15 ∧ tR M M15 ∧ ¬ mst H 4 c = true) ∨ (M15 = M12 ∧ mst H 4 c = true), fun M15 j => ?_, fun _ => ⟨c0, by omega, fun z => Or.inr ⟨rfl, by rw [em]; exact decide_eq_true (e87.symm.trans z)⟩, fun z M44 h44 => Or.inl ?_⟩, fun z => absurd k12.2.1 z⟩
    · rcases j with j | j
      · have hbad := rX_b j.1
        rw [if_neg j.2.2] at h3'
        exact nb_asks hbad (nb_num hbad (nb_asks hbad (nb_num hbad ⟨fun z => absurd z hbad, fun _ => F 2 p1 (by unfold pG; rw [bnd_r h1, bnd_r h2]; exact bnd_l h3') M15 j.2.1 j.1⟩)))
      · rw [j.1]
        rw [if_pos j.2] at h3'
        refine W_r (i := 79) k12 (rows (iK_r hK R12) 79 (by decide)) (by decide) (fun f pl h M18 r x => ?_) (fun t2 h4 M18 r18 k18 => ?_)
        · have hbad := rX_b x
          exact nb_num hbad (nb_asks hbad (nb_num hbad ⟨fun z => absurd z hbad, fun _ => F f pl (by unfold pG; rw [bnd_r h1, bnd_r h2, bnd_r h3']; exact bnd_l h) M18 (tR_f (rfr_t R12 r)) x⟩))
        have R18 := rfr_t R12 r18
        refine N_r k18 (fun f pl h M21 y r x => ?_) (fun s h5 M21 r21 k21 _ => ?_)
        · have hbad := rX_b x
          exact nb_asks hbad (nb_num hbad ⟨fun z => absurd z hbad, fun _ => F f pl (by unfold pG; rw [bnd_r h1, bnd_r h2, bnd_r h3', bnd_r h4]; exact bnd_l h) M21 (tR_f (rfr_t R18 r)) x⟩)
        have R21 := rfr_t R18 r21
        refine W_r (i := 80) k21 (rows (iK_r hK R21) 80 (by decide)) (by decide) (fun f pl h M24 r x => ?_) (fun t3 h6 M24 r24 k24 => ?_)
        · have hbad := rX_b x
          exact nb_num hbad ⟨fun z => absurd z hbad, fun _ => F f pl (by unfold pG; rw [bnd_r h1, bnd_r h2, bnd_r h3', bnd_r h4, bnd_r h5]; exact bnd_l h) M24 (tR_f (rfr_t R21 r)) x⟩
        have R24 := rfr_t R21 r24
        refine N_r k24 (fun f pl h M27 y r x => ?_) (fun l h7 M27 r27 k27 _ => ?_)
        · have hbad := rX_b x
          exact ⟨fun z => absurd z hbad, fun _ => F f pl (by unfold pG; rw [bnd_r h1, bnd_r h2, bnd_r h3', bnd_r h4, bnd_r h5, bnd_r h6]; exact bnd_l h) M27 (tR_f (rfr_t R24 r)) x⟩
        have R27 := rfr_t R24 r27
        have D27 := Dr_f R27 hD
        refine ⟨fun _ => ⟨by omega, by omega, fun M31 g31 => ⟨by omega, by omega, fun M33 g33 => ⟨by omega, by omega, fun M35 g35 => ⟨by omega, by omega, fun M37 g37 M39 g39 => ?_⟩⟩⟩⟩, fun z => absurd k27.2.1 z⟩
        have e85 : M37 85 1 = H 0 3 := by rw [g37, mset_o (by decide), g35, mset_o (by decide), g33, mset_o (by decide), g31, mset_o (by decide)]; exact D27.1.2.2.2.2.1
        rw [e85, wad (by omega) (by omega), g37, g35, g33, g31] at g39
        have eG : pG b n p e H = Sum.inr (uG H a.1 a.2.1 c s.1 l.1, l.2.1, l.2.2) := by
          unfold pG
          rw [bnd_r h1, bnd_r h2, bnd_r h3', bnd_r h4, bnd_r h5, bnd_r h6, bnd_r h7]
        exact fo _ (bnd_r eG) M39 (tR_t (tR_f R27) (by rw [g39]; exact tR_t (tR_t (tR_t (tR_t (tR_1 (by omega)) (tR_1 (by omega))) (tR_1 (by omega))) (tR_1 (by omega))) (tR_1 (by omega)))) (rK_e k27 (fun j x y => by rw [g39, mset_o (by decide), mset_o (by decide), mset_o (by decide), mset_o (by decide), mset_o (by decide)]) (by rw [g39, mset_p (by decide), mset_p (by decide), mset_p (by decide), mset_p (by decide), mset_p (by decide)])) (by rw [g39]; exact Dr_G D27 ⟨by omega, by omega⟩ (by omega))
    · rw [h44, a9]
      refine ⟨fx.2, tR_f (rfr_t R12 fx.1), fun u => z ?_⟩
      rw [em] at u
      rw [e87]
      exact of_decide_eq_true u
end
