/-! the text of a hall: the reference's person -/
section
variable {b : Int → Int} {n p e w : Int} {H : Hal} {M M' : Mem} {Q : Int → Mem → Prop}
theorem T_r2 {i : Nat} (hT : rK b n p e M) (hw : ∀ j : Nat, j < (wd i).length → M (i : Nat) j = (wd i).getD j 0) (hi : (i : Int) ≠ 66) (hF : iswd b n p e (wd i) = false → ∀ M' : Mem, rfr M M' → rK b n p e M' → Q 0 M') (hO : iswd b n p e (wd i) = true → ∀ M' : Mem, rfr M M' → rK b n (nxp b n p) (nxe b n p) M' → Q 1 M') : PX12_takes (i : Nat) (wd i).length M Q :=
  takes_r hT hw hi (fun h M' r k _ => hF h M' r k) hO
theorem pbig {a2 c wt d m q k q2 e2 V a1 : Int} {st : Int → Int} {M42 : Mem} (hd : DOK H w) (h9 : H 0 4 < 9) (hD : Dr H w M) (T42 : tR M M42) (hV : V = 18 * H 0 4) (e850 : M42 85 0 = H 0 4) (q12 : q ≤ 12) (k42 : rK b n q2 e2 M42)
    (m36 : ∀ j, j ≠ 66 → j ≠ 88 → M42 j = M j) (m66 : ∀ j, (j = 35 ∨ j = 36 ∨ j = 37) → M42 66 j = M 66 j) (m88 : ∀ j, j < V → M42 88 j = M 88 j) (s88 : ∀ i, 0 ≤ i → i < q → M42 88 (V + 6 + i) = st i)
    (hO : ∀ N : Mem, tR M N → rK b n q2 e2 N → Dr (uP H a1 a2 c wt d m st q k) w N → Q 0 N) :
    (((M42 66 5) = 0 → 0 ≤ (M42 85 0) ∧ (M42 85 0) < 40 ∧ (∀ M47 : Mem, M47 = (mset M42 86 (M42 85 0) a2) → 0 ≤ V + 0 ∧ V + 0 < 324 ∧ (∀ M49 : Mem, M49 = (mset M47 88 (V + 0) c) → 0 ≤ V + 1 ∧ V + 1 < 324 ∧ (∀ M51 : Mem, M51 = (mset M49 88 (V + 1) (wt - 60)) → 0 ≤ V + 2 ∧ V + 2 < 324 ∧ (∀ M53 : Mem, M53 = (mset M51 88 (V + 2) d) → 0 ≤ V + 3 ∧ V + 3 < 324 ∧ (∀ M55 : Mem, M55 = (mset M53 88 (V + 3) m) → 0 ≤ V + 4 ∧ V + 4 < 324 ∧ (∀ M57 : Mem, M57 = (mset M55 88 (V + 4) k) → 0 ≤ V + 5 ∧ V + 5 < 324 ∧ (∀ M59 : Mem, M59 = (mset M57 88 (V + 5) q) → (∀ M61 : Mem, M61 = (mset M59 85 0 (wr32 ((M59 85 0) + 1))) → Q 0 M61))))))))) ∧ (¬ ((M42 66 5) = 0) → Q 0 M42)) := by
  have hb := hd.1.2.1
  rw [e850]
  refine ⟨fun _ => ⟨by omega, by omega, fun M47 g47 => ⟨by omega, by omega, fun M49 g49 => ⟨by omega, by omega, fun M51 g51 => ⟨by omega, by omega, fun M53 g53 => ⟨by omega, by omega, fun M55 g55 => ⟨by omega, by omega, fun M57 g57 => ⟨by omega, by omega, fun M59 g59 M61 g61 => ?_⟩⟩⟩⟩⟩⟩⟩, fun z => absurd k42.2.1 z⟩
  have f850 : M59 85 0 = H 0 4 := by rw [g59, mset_o (by decide), g57, mset_o (by decide), g55, mset_o (by decide), g53, mset_o (by decide), g51, mset_o (by decide), g49, mset_o (by decide), g47, mset_o (by decide)]; exact e850
  rw [f850, wad (by omega) (by omega), g59, g57, g55, g53, g51, g49, g47, Int.add_zero] at g61
  clear g59 g57 g55 g53 g51 g49 g47 f850
  have q61 : ∀ j, j ≠ 85 → j ≠ 86 → j ≠ 88 → M61 j = M42 j := fun j x y z => by rw [g61, mset_p x, mset_p z, mset_p z, mset_p z, mset_p z, mset_p z, mset_p z, mset_p y]
  have t61 : tR M42 M61 := by
    rw [g61]
    exact tR_t (tR_t (tR_t (tR_t (tR_t (tR_t (tR_t (tR_1 (by omega)) (tR_1 (by omega))) (tR_1 (by omega))) (tR_1 (by omega))) (tR_1 (by omega))) (tR_1 (by omega))) (tR_1 (by omega))) (tR_1 (by omega))
  have n66 : ∀ j, (j = 35 ∨ j = 36 ∨ j = 37) → M61 66 j = M 66 j := fun j hj => by
    rw [q61 66 (by decide) (by decide) (by decide)]; exact m66 j hj
  refine hO M61 (tR_t T42 t61) (rK_e k42 (fun j _ _ => by rw [q61 66 (by decide) (by decide) (by decide)]) (q61 67 (by decide) (by decide) (by decide))) ?_
  refine Dr_P (a' := a2) (c := c) (w' := wt) (d := d) (m := m) (q := q) (k := k) (st := st) hD ⟨by omega, h9⟩ (by omega) q12 (fun i x y => (hd.1.2.2.2.2.2.2.1 i x y).2.2.2.2.2.2.2.2.2.1) (fun j x y z v => by rw [q61 j x y z]; exact m36 j v z) ⟨n66 35 (by omega), n66 36 (by omega), n66 37 (by omega)⟩ (fun j x => by rw [g61, mset_k x, mset_o (by decide), mset_o (by decide), mset_o (by decide), mset_o (by decide), mset_o (by decide), mset_o (by decide), mset_o (by decide), m36 85 (by decide) (by decide)]) (by rw [g61, mset_e]) (fun j x => by rw [g61, mset_o (by decide), mset_o (by decide), mset_o (by decide), mset_o (by decide), mset_o (by decide), mset_o (by decide), mset_o (by decide), mset_k x, m36 86 (by decide) (by decide)]) (by rw [g61, mset_o (by decide), mset_o (by decide), mset_o (by decide), mset_o (by decide), mset_o (by decide), mset_o (by decide), mset_o (by decide), mset_e]) (fun j x => ?_) ⟨?_, ?_, ?_, ?_, ?_, ?_⟩ (fun i x y => ?_)
  · rw [g61, mset_o (by decide), mset_k (by omega), mset_k (by omega), mset_k (by omega), mset_k (by omega), mset_k (by omega), mset_k (by omega), mset_o (by decide)]
    exact m88 j (by omega)
  · rw [← hV, g61, mset_o (by decide), mset_k (by omega), mset_k (by omega), mset_k (by omega), mset_k (by omega), mset_k (by omega), mset_e]
  · rw [← hV, g61, mset_o (by decide), mset_k (by omega), mset_k (by omega), mset_k (by omega), mset_k (by omega), mset_e]
  · rw [← hV, g61, mset_o (by decide), mset_k (by omega), mset_k (by omega), mset_k (by omega), mset_e]
  · rw [← hV, g61, mset_o (by decide), mset_k (by omega), mset_k (by omega), mset_e]
  · rw [← hV, g61, mset_o (by decide), mset_k (by omega), mset_e]
  · rw [← hV, g61, mset_o (by decide), mset_e]
  · rw [← hV, g61, mset_o (by decide), mset_k (by omega), mset_k (by omega), mset_k (by omega), mset_k (by omega), mset_k (by omega), mset_k (by omega), mset_o (by decide), show V + (6 + i) = V + 6 + i by omega]
    exact s88 i x y
theorem prs_r {v1 : Int} (hd : DOK H w) (hK : iK M) (hT : rK b n p e M) (hD : Dr H w M) (hU : full H w 3 = true → ∀ M' : Mem, tR M M' → rX 5 v1 M' → Q 0 M') (hF : full H w 3 = false → ∀ f pl, pB b n p e H w 3 = Sum.inl (f, pl) → ∀ M' : Mem, tR M M' → rX f pl M' → Q 0 M') (hO : full H w 3 = false → ∀ x, pB b n p e H w 3 = Sum.inr x → ∀ M' : Mem, tR M M' → rK b n x.2.1 x.2.2 M' → Dr x.1.1 x.1.2 M' → Q 0 M') : PX12_personTold v1 M Q := by
  have eB : pB b n p e H w 3 = bnd (pP b n p e H) (fun c => Sum.inr ((c.1, w), c.2.1, c.2.2)) := by unfold pB; rw [if_neg (by decide), if_neg (by decide), if_pos rfl]
  have cl := hcells hd.1
  have hb := hd.1.2.1
  have fu : full H w 3 = decide (9 ≤ H 0 4) := by unfold full; rw [if_neg (by decide), if_neg (by decide), if_pos rfl]
  have d1 : M 85 0 = H 0 4 := hD.1.2.2.2.2.2.1
  have is := isF_r (k := 0) (room := 9) (v1 := v1) hT
  refine ⟨fun _ => by decide, fun M3 h3 => ?_⟩
  by_cases z6 : M 85 0 = 9
  · have i := is.1 z6
    rw [i.1] at h3
    rw [i.2]
    refine ⟨fun z => absurd z (by decide), fun _ => ?_⟩
    have fx := fail_X (pl := v1) hT (show (5 : Int) ≠ 0 by decide)
    rw [h3]
    exact hU (by rw [fu]; exact decide_eq_true (by omega)) _ (tR_f fx.1) fx.2
  · have i := is.2 z6
    rw [i.1] at h3
    rw [i.2, h3, d1]
    have f0 : full H w 3 = false := by rw [fu]; exact decide_eq_false (by omega)
    have fr0 := hF f0
    have fo := hO f0
    rw [eB] at fr0 fo
    have F : ∀ f pl, pP b n p e H = Sum.inl (f, pl) → ∀ N : Mem, tR M N → rX f pl N → Q 0 N := fun f pl h N t x => fr0 f pl (bnd_l h) N t x
    refine ⟨fun _ => ?_, fun z => absurd rfl z⟩
    have ii : ∀ k : Int, 0 ≤ k → k < 20 → wr32 (wr32 (18 * H 0 4) + k) = 18 * H 0 4 + k := fun k k0 k1 => by rw [wmu (by omega) (by omega), wad (by omega) (by omega)]
    rw [ii 0 (by decide) (by decide), ii 1 (by decide) (by decide), ii 2 (by decide) (by decide), ii 3 (by decide) (by decide), ii 4 (by decide) (by decide), ii 5 (by decide) (by decide), ii 6 (by decide) (by decide)]
    clear ii
    refine nnm_r hd hK hT hD (fun f pl h M6 a5 r x => ?_) (fun a h1 M6 r6 k6 => ?_)
    · have hbad := rX_b x
      refine nb_asks hbad (nb_cell hbad ⟨fun M15 => M15 = M6, fun M15 j => ?_, fun z => absurd z hbad, fun _ => rfl⟩)
      rw [j]
      exact nb_asks hbad (nb_signed hbad (nb_asks hbad (nb_num hbad (nb_asks hbad (nb_num hbad (nb_asks hbad (nb_steps hbad (nb_takes hbad ⟨fun z => absurd z hbad, fun _ => F f pl (by unfold pP; exact bnd_l h) M6 (tR_f r) x⟩))))))))
    refine W_r (i := 72) k6 (rows (iK_r hK r6) 72 (by decide)) (by decide) (fun f pl h M9 r x => ?_) (fun t1 h2 M9 r9 k9 => ?_)
    · have hbad := rX_b x
      refine nb_cell hbad ⟨fun M15 => M15 = M9, fun M15 j => ?_, fun z => absurd z hbad, fun _ => rfl⟩
      rw [j]
      exact nb_asks hbad (nb_signed hbad (nb_asks hbad (nb_num hbad (nb_asks hbad (nb_num hbad (nb_asks hbad (nb_steps hbad (nb_takes hbad ⟨fun z => absurd z hbad, fun _ => F f pl (by unfold pP; rw [bnd_r h1]; exact bnd_l h) M9 (tR_f (rfr_t r6 r)) x⟩))))))))
    have R9 := rfr_t r6 r9
    have D9 := Dr_f R9 hD
    refine cel_r hd k9 D9 (fun f pl h M12 r x => ?_) (fun c q1 q2 e2 h c0 c1 M12 r12 k12 a9 => ?_)
    · have hbad := rX_b x
      refine ⟨fun M15 => M15 = M12, fun M15 j => ?_, fun z => absurd z hbad, fun _ => rfl⟩
      rw [j]
      exact nb_asks hbad (nb_signed hbad (nb_asks hbad (nb_num hbad (nb_asks hbad (nb_num hbad (nb_asks hbad (nb_steps hbad (nb_takes hbad ⟨fun z => absurd z hbad, fun _ => F f pl (by unfold pP; rw [bnd_r h1, bnd_r h2]; exact bnd_l (h 3)) M12 (tR_f (rfr_t R9 r)) x⟩))))))))
    have R12 := rfr_t R9 r12
    have D12 := Dr_f R12 hD
    have h3' := h 3
    have fx := fail_X (pl := q1) k12 (show (2 : Int) ≠ 0 by decide)
    have e87 : M12 87 c = H 1 c := D12.2.1 c c0 (by omega)
    have em : mst H 3 c = decide (H 1 c = 0) := by unfold mst; rw [if_neg (by decide), if_neg (by decide)]
    refine ⟨fun M15 => (rX 2 q1 M15 ∧ tR M M15 ∧ ¬ mst H 3 c = true) ∨ (M15 = M12 ∧ mst H 3 c = true), fun M15 j => ?_, fun _ => ⟨c0, by omega, fun z => Or.inr ⟨rfl, by rw [em]; exact decide_eq_true (e87.symm.trans z)⟩, fun z M44 h44 => Or.inl ?_⟩, fun z => absurd k12.2.1 z⟩
    · rcases j with j | j
      · have hbad := rX_b j.1
        rw [if_neg j.2.2] at h3'
        exact nb_asks hbad (nb_signed hbad (nb_asks hbad (nb_num hbad (nb_asks hbad (nb_num hbad (nb_asks hbad (nb_steps hbad (nb_takes hbad ⟨fun z => absurd z hbad, fun _ => F 2 q1 (by unfold pP; rw [bnd_r h1, bnd_r h2]; exact bnd_l h3') M15 j.2.1 j.1⟩))))))))
      · rw [j.1]
        rw [if_pos j.2] at h3'
        refine W_r (i := 73) k12 (rows (iK_r hK R12) 73 (by decide)) (by decide) (fun f pl h M18 r x => ?_) (fun t2 h4 M18 r18 k18 => ?_)
        · have hbad := rX_b x
          exact nb_signed hbad (nb_asks hbad (nb_num hbad (nb_asks hbad (nb_num hbad (nb_asks hbad (nb_steps hbad (nb_takes hbad ⟨fun z => absurd z hbad, fun _ => F f pl (by unfold pP; rw [bnd_r h1, bnd_r h2, bnd_r h3']; exact bnd_l h) M18 (tR_f (rfr_t R12 r)) x⟩)))))))
        have R18 := rfr_t R12 r18
        refine L_r k18 (fun f pl h M21 y r x => ?_) (fun wt h5 M21 r21 k21 => ?_)
        · have hbad := rX_b x
          exact nb_asks hbad (nb_num hbad (nb_asks hbad (nb_num hbad (nb_asks hbad (nb_steps hbad (nb_takes hbad ⟨fun z => absurd z hbad, fun _ => F f pl (by unfold pP; rw [bnd_r h1, bnd_r h2, bnd_r h3', bnd_r h4]; exact bnd_l h) M21 (tR_f (rfr_t R18 r)) x⟩))))))
        have R21 := rfr_t R18 r21
        refine W_r (i := 74) k21 (rows (iK_r hK R21) 74 (by decide)) (by decide) (fun f pl h M24 r x => ?_) (fun t3 h6 M24 r24 k24 => ?_)
        · have hbad := rX_b x
          exact nb_num hbad (nb_asks hbad (nb_num hbad (nb_asks hbad (nb_steps hbad (nb_takes hbad ⟨fun z => absurd z hbad, fun _ => F f pl (by unfold pP; rw [bnd_r h1, bnd_r h2, bnd_r h3', bnd_r h4, bnd_r h5]; exact bnd_l h) M24 (tR_f (rfr_t R21 r)) x⟩)))))
        have R24 := rfr_t R21 r24
        refine N_r k24 (fun f pl h M27 y r x => ?_) (fun d h7 M27 r27 k27 _ => ?_)
        · have hbad := rX_b x
          exact nb_asks hbad (nb_num hbad (nb_asks hbad (nb_steps hbad (nb_takes hbad ⟨fun z => absurd z hbad, fun _ => F f pl (by unfold pP; rw [bnd_r h1, bnd_r h2, bnd_r h3', bnd_r h4, bnd_r h5, bnd_r h6]; exact bnd_l h) M27 (tR_f (rfr_t R24 r)) x⟩))))
        have R27 := rfr_t R24 r27
        refine W_r (i := 75) k27 (rows (iK_r hK R27) 75 (by decide)) (by decide) (fun f pl h M30 r x => ?_) (fun t4 h8 M30 r30 k30 => ?_)
        · have hbad := rX_b x
          exact nb_num hbad (nb_asks hbad (nb_steps hbad (nb_takes hbad ⟨fun z => absurd z hbad, fun _ => F f pl (by unfold pP; rw [bnd_r h1, bnd_r h2, bnd_r h3', bnd_r h4, bnd_r h5, bnd_r h6, bnd_r h7]; exact bnd_l h) M30 (tR_f (rfr_t R27 r)) x⟩)))
        have R30 := rfr_t R27 r30
        refine N_r k30 (fun f pl h M33 y r x => ?_) (fun m h9 M33 r33 k33 _ => ?_)
        · have hbad := rX_b x
          exact nb_asks hbad (nb_steps hbad (nb_takes hbad ⟨fun z => absurd z hbad, fun _ => F f pl (by unfold pP; rw [bnd_r h1, bnd_r h2, bnd_r h3', bnd_r h4, bnd_r h5, bnd_r h6, bnd_r h7, bnd_r h8]; exact bnd_l h) M33 (tR_f (rfr_t R30 r)) x⟩))
        have R33 := rfr_t R30 r33
        refine W_r (i := 76) k33 (rows (iK_r hK R33) 76 (by decide)) (by decide) (fun f pl h M36 r x => ?_) (fun t5 h10 M36 r36 k36 => ?_)
        · have hbad := rX_b x
          exact nb_steps hbad (nb_takes hbad ⟨fun z => absurd z hbad, fun _ => F f pl (by unfold pP; rw [bnd_r h1, bnd_r h2, bnd_r h3', bnd_r h4, bnd_r h5, bnd_r h6, bnd_r h7, bnd_r h8, bnd_r h9]; exact bnd_l h) M36 (tR_f (rfr_t R33 r)) x⟩)
        have R36 := rfr_t R33 r36
        refine T_r (V := 18 * H 0 4 + 6) (by omega) (by omega) k36 (fun f pl h M39 s x => ?_) (fun q h11 M39 s39 st39 k39 => ?_)
        · have hbad := rX_b x
          exact nb_takes hbad ⟨fun z => absurd z hbad, fun _ => F f pl (by unfold pP; rw [bnd_r h1, bnd_r h2, bnd_r h3', bnd_r h4, bnd_r h5, bnd_r h6, bnd_r h7, bnd_r h8, bnd_r h9, bnd_r h10]; exact bnd_l h) M39 (tR_t (tR_f R36) (sF_tR s (by omega))) x⟩
        have T39 : tR M M39 := tR_t (tR_f R36) (sF_tR s39 (by omega))
        have D36 := Dr_f R36 hD
        have qv := pT_v h11
        have go : ∀ (k : Int) (q2 e2 : Int) (M42 : Mem), rfr M39 M42 → rK b n q2 e2 M42 → pP b n p e H = Sum.inr (uP H a.1 a.2.1 c wt.1 d.1 m.1 (fun k => wof (b (t5.1 + k))) q.1 k, q2, e2) → (((M42 66 5) = 0 → 0 ≤ (M42 85 0) ∧ (M42 85 0) < 40 ∧ (∀ M47 : Mem, M47 = (mset M42 86 (M42 85 0) a.2.1) → 0 ≤ 18 * H 0 4 + 0 ∧ 18 * H 0 4 + 0 < 324 ∧ (∀ M49 : Mem, M49 = (mset M47 88 (18 * H 0 4 + 0) c) → 0 ≤ 18 * H 0 4 + 1 ∧ 18 * H 0 4 + 1 < 324 ∧ (∀ M51 : Mem, M51 = (mset M49 88 (18 * H 0 4 + 1) (wt.1 - 60)) → 0 ≤ 18 * H 0 4 + 2 ∧ 18 * H 0 4 + 2 < 324 ∧ (∀ M53 : Mem, M53 = (mset M51 88 (18 * H 0 4 + 2) d.1) → 0 ≤ 18 * H 0 4 + 3 ∧ 18 * H 0 4 + 3 < 324 ∧ (∀ M55 : Mem, M55 = (mset M53 88 (18 * H 0 4 + 3) m.1) → 0 ≤ 18 * H 0 4 + 4 ∧ 18 * H 0 4 + 4 < 324 ∧ (∀ M57 : Mem, M57 = (mset M55 88 (18 * H 0 4 + 4) k) → 0 ≤ 18 * H 0 4 + 5 ∧ 18 * H 0 4 + 5 < 324 ∧ (∀ M59 : Mem, M59 = (mset M57 88 (18 * H 0 4 + 5) q.1) → (∀ M61 : Mem, M61 = (mset M59 85 0 (wr32 ((M59 85 0) + 1))) → Q 0 M61))))))))) ∧ (¬ ((M42 66 5) = 0) → Q 0 M42)) := by
          intro k q2 e2 M42 r42 k42 hP
          have h9 : H 0 4 < 9 := by
            have z7 := z6
            rw [d1] at z7
            clear h1 h2 h3' h4 h5 h6 h7 h8 h9 h10 h11 hP k42 st39 qv eB fu
            omega
          refine pbig (V := 18 * H 0 4) (a1 := a.1) (st := fun k => wof (b (t5.1 + k))) hd h9 hD (tR_t T39 (tR_f r42)) rfl ?_ qv.1.2 k42 (fun j x y => by rw [r42.1 j x, s39.1 j x y, R36.1 j x]) (fun j hj => ?_) (fun j hj => ?_) (fun i x y => by rw [r42.1 88 (by decide)]; exact st39 i x y) (fun N t kN dN => fo _ (bnd_r hP) N t kN dN)
          · rw [r42.1 85 (by decide), s39.1 85 (by decide) (by decide)]; exact D36.1.2.2.2.2.2.1
          · rcases hj with rfl | rfl | rfl
            · rw [r42.2 35 (by decide) (by decide) (by decide) (by decide) (by decide) (by decide), s39.2.1 35 (by decide) (by decide) (by decide) (by decide) (by decide) (by decide), R36.2 35 (by decide) (by decide) (by decide) (by decide) (by decide) (by decide)]
            · rw [r42.2 36 (by decide) (by decide) (by decide) (by decide) (by decide) (by decide), s39.2.1 36 (by decide) (by decide) (by decide) (by decide) (by decide) (by decide), R36.2 36 (by decide) (by decide) (by decide) (by decide) (by decide) (by decide)]
            · rw [r42.2 37 (by decide) (by decide) (by decide) (by decide) (by decide) (by decide), s39.2.1 37 (by decide) (by decide) (by decide) (by decide) (by decide) (by decide), R36.2 37 (by decide) (by decide) (by decide) (by decide) (by decide) (by decide)]
          · rw [r42.1 88 (by decide), s39.2.2 j (Or.inl (Int.lt_trans hj (Int.lt_add_of_pos_right _ (by decide)))), R36.1 88 (by decide)]
        refine T_r2 (i := 77) k39 (rows (iK_t hK T39) 77 (by decide)) (by decide) (fun iw M42 r42 k42 => ?_) (fun iw M42 r42 k42 => ?_)
        · exact go 0 q.2.1 q.2.2 M42 r42 k42 (by
            unfold pP
            rw [bnd_r h1, bnd_r h2, bnd_r h3', bnd_r h4, bnd_r h5, bnd_r h6, bnd_r h7, bnd_r h8, bnd_r h9, bnd_r h10, bnd_r h11]
            exact if_neg (by rw [iw]; decide))
        · exact go 1 (nxp b n q.2.1) (nxe b n q.2.1) M42 r42 k42 (by
            unfold pP
            rw [bnd_r h1, bnd_r h2, bnd_r h3', bnd_r h4, bnd_r h5, bnd_r h6, bnd_r h7, bnd_r h8, bnd_r h9, bnd_r h10, bnd_r h11]
            exact if_pos iw)
    · rw [h44, a9]
      refine ⟨fx.2, tR_f (rfr_t R12 fx.1), fun u => z ?_⟩
      rw [em] at u
      rw [e87]
      exact of_decide_eq_true u
end
