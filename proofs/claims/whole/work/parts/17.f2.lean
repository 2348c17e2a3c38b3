/-! methods by program, 2 -/
def lmX1_takeImage_2 (g : Int) : Nat → Int → Mem → Mem
  | 0, v2, M => M
  | k + 1, v2, M => (lmX1_takeImage_2 g k (v2 + 1) (if (M (g + 1) 8) ≤ (wr32 (Int.tdiv v2 3)) then (fmX11_put M (g + 11) 6 (wr32 (v2 - (wr32 (3 * (M (g + 1) 8))))) (fX8_byteAt M v2)) else (fmX4_change M g (wr32 (Int.tdiv v2 3)) (Int.tmod v2 3) (fX8_byteAt M v2))))
theorem frlX1_takeImage_2 {g : Int} {q : Int} (hq0 : q ≠ (g + 11)) (hq1 : q ≠ (g + 3)) (hq2 : q ≠ (g + 4)) (hq3 : q ≠ (g + 5)) : ∀ {k : Nat} {v2 : Int} {M : Mem}, (lmX1_takeImage_2 g k v2 M) q = M q := by
  intro k
  induction k with
  | zero =>
    intro v2 M
    show M q = M q
    exact rfl
  | succ k ih =>
    intro v2 M
    show (lmX1_takeImage_2 g k (v2 + 1) (if (M (g + 1) 8) ≤ (wr32 (Int.tdiv v2 3)) then (fmX11_put M (g + 11) 6 (wr32 (v2 - (wr32 (3 * (M (g + 1) 8))))) (fX8_byteAt M v2)) else (fmX4_change M g (wr32 (Int.tdiv v2 3)) (Int.tmod v2 3) (fX8_byteAt M v2)))) q = M q
    exact ((ih).trans (ite_q ((frX11_put hq0).trans rfl) ((frX4_change hq1 hq2 hq3).trans rfl)))
theorem glX1_takeImage_2 {h : Int} {g : Int} (hg : isG g) : ∀ {k : Nat} {v2 : Int} {M : Mem}, G h M → G h (lmX1_takeImage_2 g k v2 M) := by
  intro k
  induction k with
  | zero =>
    intro v2 M hG
    show G h M
    exact hG
  | succ k ih =>
    intro v2 M hG
    show G h (lmX1_takeImage_2 g k (v2 + 1) (if (M (g + 1) 8) ≤ (wr32 (Int.tdiv v2 3)) then (fmX11_put M (g + 11) 6 (wr32 (v2 - (wr32 (3 * (M (g + 1) 8))))) (fX8_byteAt M v2)) else (fmX4_change M g (wr32 (Int.tdiv v2 3)) (Int.tmod v2 3) (fX8_byteAt M v2))))
    exact (ih (G_ite (gX11_put (h := h) (M := M) (p0 := (g + 11)) (np0 := 6) (v1 := (wr32 (v2 - (wr32 (3 * (M (g + 1) 8)))))) (v2 := (fX8_byteAt M v2)) (pog11 hg) (shg11 hg) (by decide) hG) (gX4_change (h := h) (M := M) (g := g) (v1 := (wr32 (Int.tdiv v2 3))) (v2 := (Int.tmod v2 3)) (v3 := (fX8_byteAt M v2)) hg hG)))
set_option maxRecDepth 100000 in
set_option maxHeartbeats 2000000 in
theorem qX1_takeImage_2 {E : EV} {h : Int} {Q : Option MV → Mem → Prop} {g : Int} (hg : isG g) : ∀ (k : Nat) (v2 : Int) (M : Mem), 0 ≤ v2 → (((wr32 ((fX1_imageLength M g) - 1))) - v2).toNat = k → Q none (lmX1_takeImage_2 g k v2 M) → G h M → TG E miX1_takeImage 3 h Q 2 [(2, g), (2, 1), (0, v2), (3, 0)] [] M := by
  intro k
  induction k with
  | zero =>
    intro v2 M hv0 hk hQ hG
    have hQ : Q none M := hQ
    refine T_iload_n (i := 2) (pc' := 3) dX1_takeImage_2 rfl rfl rfl ?_
    refine T_aload_n (i := 0) (pc' := 4) dX1_takeImage_3 rfl rfl rfl ?_
    refine T_callV (av := []) (st := [(0, v2)]) (d2 := 1) (nc2 := 0) (ns2 := 0) (pc' := 7) dX1_takeImage_4 rfl mtX1_imageLength mvX1_imageLength mlX1_126 cl1 (shg0 hg) rfl rfl (Nat.le_of_ble_eq_true rfl) (by decide) ⟨by decide, by decide⟩ rfl (pX1_imageLength (E := E) (h := h) (M := M) (g := g) hg hG) (kF (st2 := [(0, (fX1_imageLength M g)), (0, v2)]) rfl (fun hG1 => ?_))
    refine T_iconst (pc' := 8) dX1_takeImage_7 (by decide) rfl ?_
    refine T_isub (pc' := 9) dX1_takeImage_8 rfl ?_
    refine T_rng (fun _ z9 _ => ?_)
    have hB : r32 (wr32 ((fX1_imageLength M g) - 1)) := (ok_cons.mp z9).1
    unfold r32 at hB
    refine T_icmp_ge (pc' := 75) dX1_takeImage_9 (by decide) (pf := 12) rfl (fun c2 => ?_) (fun c2 => ?_)
    · skip
      exact T_vret dX1_takeImage_75 rfl ⟨rfl, hG, hQ⟩
    · exact absurd c2 (by omega)
  | succ k ih =>
    intro v2 M hv0 hk hQ hG
    have hQ : Q none (lmX1_takeImage_2 g k (v2 + 1) (if (M (g + 1) 8) ≤ (wr32 (Int.tdiv v2 3)) then (fmX11_put M (g + 11) 6 (wr32 (v2 - (wr32 (3 * (M (g + 1) 8))))) (fX8_byteAt M v2)) else (fmX4_change M g (wr32 (Int.tdiv v2 3)) (Int.tmod v2 3) (fX8_byteAt M v2)))) := hQ
    refine T_iload_n (i := 2) (pc' := 3) dX1_takeImage_2 rfl rfl rfl ?_
    refine T_aload_n (i := 0) (pc' := 4) dX1_takeImage_3 rfl rfl rfl ?_
    refine T_callV (av := []) (st := [(0, v2)]) (d2 := 1) (nc2 := 0) (ns2 := 0) (pc' := 7) dX1_takeImage_4 rfl mtX1_imageLength mvX1_imageLength mlX1_126 cl1 (shg0 hg) rfl rfl (Nat.le_of_ble_eq_true rfl) (by decide) ⟨by decide, by decide⟩ rfl (pX1_imageLength (E := E) (h := h) (M := M) (g := g) hg hG) (kF (st2 := [(0, (fX1_imageLength M g)), (0, v2)]) rfl (fun hG1 => ?_))
    refine T_iconst (pc' := 8) dX1_takeImage_7 (by decide) rfl ?_
    refine T_isub (pc' := 9) dX1_takeImage_8 rfl ?_
    refine T_rng (fun _ z9 _ => ?_)
    have hB : r32 (wr32 ((fX1_imageLength M g) - 1)) := (ok_cons.mp z9).1
    unfold r32 at hB
    refine T_icmp_ge (pc' := 75) dX1_takeImage_9 (by decide) (pf := 12) rfl (fun c2 => ?_) (fun c2 => ?_)
    · exact absurd c2 (by omega)
    · skip
      have hw : wr32 (v2 + 1) = v2 + 1 := wr32_id (by unfold r32; omega)
      refine T_iload_n (i := 2) (pc' := 13) dX1_takeImage_12 rfl rfl rfl ?_
      refine T_iconst (pc' := 14) dX1_takeImage_13 (by decide) rfl ?_
      refine T_idiv (pc' := 15) dX1_takeImage_14 (by decide) rfl ?_
      refine T_istore_n (i := 3) (L' := [(2, g), (2, 1), (0, v2), (0, (wr32 (Int.tdiv v2 3)))]) (pc' := 16) dX1_takeImage_15 rfl (by decide) rfl rfl ?_
      refine T_iload_n (i := 3) (pc' := 17) dX1_takeImage_16 rfl rfl rfl ?_
      refine T_aload_n (i := 0) (pc' := 18) dX1_takeImage_17 rfl rfl rfl ?_
      refine U_gr (q := (g + 1)) (k := 0) (kI := 0) (pc' := 21) dX1_takeImage_18 rfl cl1 (pog0 hg) (shg0 hg) (by decide) flX1_12 rfl rfl rfl (grg0_0 hg hG) (pog1 hg) rfl ?_
      refine U_gfN (v := (0, (M (g + 1) 8))) (k := 8) (kI := 8) (pc' := 24) dX1_takeImage_21 rfl cl4 (pog1 hg) (shg1 hg) (by decide) flX1_47 rfl rfl (by decide) rfl rfl ?_
      have HJ3 : T E miX1_takeImage 3 126 0 0 (fun r S M' => S = S0 ∧ G h M' ∧ Q r M') 69 [(2, g), (2, 1), (0, v2), (3, 0)] [] S0 (if (M (g + 1) 8) ≤ (wr32 (Int.tdiv v2 3)) then (fmX11_put M (g + 11) 6 (wr32 (v2 - (wr32 (3 * (M (g + 1) 8))))) (fX8_byteAt M v2)) else (fmX4_change M g (wr32 (Int.tdiv v2 3)) (Int.tmod v2 3) (fX8_byteAt M v2))) 0 0 := by
        refine T_iinc (L' := [(2, g), (2, 1), (0, (wr32 (v2 + 1))), (3, 0)]) (pc' := 72) dX1_takeImage_69 rfl (by decide) rfl rfl ?_
        refine T_goto (pc' := 2) dX1_takeImage_72 (by decide) ?_
        rw [hw]
        have hp0 : (if (M (g + 1) 8) ≤ (wr32 (Int.tdiv v2 3)) then (fmX11_put M (g + 11) 6 (wr32 (v2 - (wr32 (3 * (M (g + 1) 8))))) (fX8_byteAt M v2)) else (fmX4_change M g (wr32 (Int.tdiv v2 3)) (Int.tmod v2 3) (fX8_byteAt M v2))) (g + 1) = M (g + 1) := by
          exact (ite_q ((frX11_put (by first | decide | (unfold isG at *; omega) | exact rowne (by unfold isG at *; omega) (by unfold isG at *; omega) (by unfold isG at *; omega))).trans rfl) ((frX4_change (by first | decide | (unfold isG at *; omega) | exact rowne (by unfold isG at *; omega) (by unfold isG at *; omega) (by unfold isG at *; omega)) (by first | decide | (unfold isG at *; omega) | exact rowne (by unfold isG at *; omega) (by unfold isG at *; omega) (by unfold isG at *; omega)) (by first | decide | (unfold isG at *; omega) | exact rowne (by unfold isG at *; omega) (by unfold isG at *; omega) (by unfold isG at *; omega))).trans rfl))
        have hp1 : (if (M (g + 1) 8) ≤ (wr32 (Int.tdiv v2 3)) then (fmX11_put M (g + 11) 6 (wr32 (v2 - (wr32 (3 * (M (g + 1) 8))))) (fX8_byteAt M v2)) else (fmX4_change M g (wr32 (Int.tdiv v2 3)) (Int.tmod v2 3) (fX8_byteAt M v2))) g = M g := by
          exact (ite_q ((frX11_put (by first | decide | (unfold isG at *; omega) | exact rowne (by unfold isG at *; omega) (by unfold isG at *; omega) (by unfold isG at *; omega))).trans rfl) ((frX4_change (by first | decide | (unfold isG at *; omega) | exact rowne (by unfold isG at *; omega) (by unfold isG at *; omega) (by unfold isG at *; omega)) (by first | decide | (unfold isG at *; omega) | exact rowne (by unfold isG at *; omega) (by unfold isG at *; omega) (by unfold isG at *; omega)) (by first | decide | (unfold isG at *; omega) | exact rowne (by unfold isG at *; omega) (by unfold isG at *; omega) (by unfold isG at *; omega))).trans rfl))
        have hbd : (wr32 ((fX1_imageLength (if (M (g + 1) 8) ≤ (wr32 (Int.tdiv v2 3)) then (fmX11_put M (g + 11) 6 (wr32 (v2 - (wr32 (3 * (M (g + 1) 8))))) (fX8_byteAt M v2)) else (fmX4_change M g (wr32 (Int.tdiv v2 3)) (Int.tmod v2 3) (fX8_byteAt M v2))) g) - 1)) = (wr32 ((fX1_imageLength M g) - 1)) := by
          simp only [fX1_imageLength, hp0, hp1]
        exact T_wk (ih (v2 + 1) _ (by omega) (by rw [hbd]; omega) hQ (G_ite (gX11_put (h := h) (M := M) (p0 := (g + 11)) (np0 := 6) (v1 := (wr32 (v2 - (wr32 (3 * (M (g + 1) 8)))))) (v2 := (fX8_byteAt M v2)) (pog11 hg) (shg11 hg) (by decide) hG) (gX4_change (h := h) (M := M) (g := g) (v1 := (wr32 (Int.tdiv v2 3))) (v2 := (Int.tmod v2 3)) (v3 := (fX8_byteAt M v2)) hg hG))) ⟨Or.inr rfl, Or.inr rfl, Or.inr rfl, Or.inl rfl, trivial⟩
      refine T_icmp_ge (pc' := 46) dX1_takeImage_24 (by decide) (pf := 27) rfl (fun c4 => ?_) (fun c4 => ?_)
      · skip
        refine T_aload_n (i := 0) (pc' := 47) dX1_takeImage_46 rfl rfl rfl ?_
        refine U_gr (q := (g + 11)) (k := 3) (kI := 3) (pc' := 50) dX1_takeImage_47 rfl cl1 (pog0 hg) (shg0 hg) (by decide) flX1_25 rfl rfl rfl (grg0_3 hg hG) (pog11 hg) rfl ?_
        refine T_iload_n (i := 2) (pc' := 51) dX1_takeImage_50 rfl rfl rfl ?_
        refine T_iconst (pc' := 52) dX1_takeImage_51 (by decide) rfl ?_
        refine T_aload_n (i := 0) (pc' := 53) dX1_takeImage_52 rfl rfl rfl ?_
        refine U_gr (q := (g + 1)) (k := 0) (kI := 0) (pc' := 56) dX1_takeImage_53 rfl cl1 (pog0 hg) (shg0 hg) (by decide) flX1_12 rfl rfl rfl (grg0_0 hg hG) (pog1 hg) rfl ?_
        refine U_gfN (v := (0, (M (g + 1) 8))) (k := 8) (kI := 8) (pc' := 59) dX1_takeImage_56 rfl cl4 (pog1 hg) (shg1 hg) (by decide) flX1_47 rfl rfl (by decide) rfl rfl ?_
        refine T_imul (pc' := 60) dX1_takeImage_59 rfl ?_
        refine T_isub (pc' := 61) dX1_takeImage_60 rfl ?_
        refine T_aload_n (i := 1) (pc' := 62) dX1_takeImage_61 rfl rfl rfl ?_
        refine T_iload_n (i := 2) (pc' := 63) dX1_takeImage_62 rfl rfl rfl ?_
        refine T_callV (av := [(0, v2)]) (st := [(0, (wr32 (v2 - (wr32 (3 * (M (g + 1) 8)))))), (2, (g + 11))]) (d2 := 1) (nc2 := 0) (ns2 := 0) (pc' := 66) dX1_takeImage_63 rfl mtX8_byteAt mvX8_byteAt mlX1_140 cl8 rfl rfl rfl (Nat.le_of_ble_eq_true rfl) (by decide) ⟨by decide, by decide⟩ rfl (pX8_byteAt (E := E) (h := h) (M := M) (v1 := v2) hG) (kF (st2 := [(0, (fX8_byteAt M v2)), (0, (wr32 (v2 - (wr32 (3 * (M (g + 1) 8)))))), (2, (g + 11))]) rfl (fun hG5 => ?_))
        refine T_callSN (av := [(2, (g + 11)), (0, (wr32 (v2 - (wr32 (3 * (M (g + 1) 8)))))), (0, (fX8_byteAt M v2))]) (st := []) (d2 := 1) (nc2 := 0) (ns2 := 0) (pc' := 69) dX1_takeImage_66 rfl mtX11_put mvX11_put mlX1_54 rfl rfl (Nat.le_of_ble_eq_true rfl) (by decide) ⟨by decide, by decide⟩ rfl (pX11_put (E := E) (h := h) (M := M) (p0 := (g + 11)) (np0 := 6) (v1 := (wr32 (v2 - (wr32 (3 * (M (g + 1) 8)))))) (v2 := (fX8_byteAt M v2)) (pog11 hg) (shg11 hg) (by decide) hG) (kF (st2 := []) rfl (fun hG6 => ?_))
        exact T_wk (L' := [(2, g), (2, 1), (0, v2), (3, 0)]) (by have q := HJ3; try simp only [if_pos c4] at q; exact q) ⟨Or.inr rfl, Or.inr rfl, Or.inr rfl, Or.inl rfl, trivial⟩
      · skip
        refine T_aload_n (i := 0) (pc' := 28) dX1_takeImage_27 rfl rfl rfl ?_
        refine U_gr (q := (g + 1)) (k := 0) (kI := 0) (pc' := 31) dX1_takeImage_28 rfl cl1 (pog0 hg) (shg0 hg) (by decide) flX1_12 rfl rfl rfl (grg0_0 hg hG) (pog1 hg) rfl ?_
        refine T_iload_n (i := 3) (pc' := 32) dX1_takeImage_31 rfl rfl rfl ?_
        refine T_iload_n (i := 2) (pc' := 33) dX1_takeImage_32 rfl rfl rfl ?_
        refine T_iconst (pc' := 34) dX1_takeImage_33 (by decide) rfl ?_
        refine T_irem (pc' := 35) dX1_takeImage_34 (by decide) rfl ?_
        refine T_aload_n (i := 1) (pc' := 36) dX1_takeImage_35 rfl rfl rfl ?_
        refine T_iload_n (i := 2) (pc' := 37) dX1_takeImage_36 rfl rfl rfl ?_
        refine T_callV (av := [(0, v2)]) (st := [(0, (Int.tmod v2 3)), (0, (wr32 (Int.tdiv v2 3))), (2, (g + 1))]) (d2 := 1) (nc2 := 0) (ns2 := 0) (pc' := 40) dX1_takeImage_37 rfl mtX8_byteAt mvX8_byteAt mlX1_140 cl8 rfl rfl rfl (Nat.le_of_ble_eq_true rfl) (by decide) ⟨by decide, by decide⟩ rfl (pX8_byteAt (E := E) (h := h) (M := M) (v1 := v2) hG) (kF (st2 := [(0, (fX8_byteAt M v2)), (0, (Int.tmod v2 3)), (0, (wr32 (Int.tdiv v2 3))), (2, (g + 1))]) rfl (fun hG7 => ?_))
        refine T_callV (av := [(0, (wr32 (Int.tdiv v2 3))), (0, (Int.tmod v2 3)), (0, (fX8_byteAt M v2))]) (st := []) (d2 := 2) (nc2 := 0) (ns2 := 0) (pc' := 43) dX1_takeImage_40 rfl mtX4_change mvX4_change mlX1_147 cl4 (shg1 hg) rfl rfl (Nat.le_of_ble_eq_true rfl) (by decide) ⟨by decide, by decide⟩ rfl (pX4_change (E := E) (h := h) (M := M) (g := g) (v1 := (wr32 (Int.tdiv v2 3))) (v2 := (Int.tmod v2 3)) (v3 := (fX8_byteAt M v2)) hg hG) (kF (st2 := []) rfl (fun hG8 => ?_))
        refine T_goto (pc' := 69) dX1_takeImage_43 (by decide) ?_
        exact T_wk (L' := [(2, g), (2, 1), (0, v2), (3, 0)]) (by have q := HJ3; try simp only [if_neg c4] at q; exact q) ⟨Or.inr rfl, Or.inr rfl, Or.inr rfl, Or.inl rfl, trivial⟩
def fmX1_takeImage (M : Mem) (g : Int) : Mem :=
  (lmX1_takeImage_2 g ((((wr32 ((fX1_imageLength M g) - 1))) : Int) - 0).toNat 0 M)
theorem frX1_takeImage {M : Mem} {g : Int} {q : Int} (hq0 : q ≠ (g + 11)) (hq1 : q ≠ (g + 3)) (hq2 : q ≠ (g + 4)) (hq3 : q ≠ (g + 5)) : (fmX1_takeImage M g) q = M q := by
  unfold fmX1_takeImage
  exact ((frlX1_takeImage_2 hq0 hq1 hq2 hq3).trans rfl)
theorem gX1_takeImage {h : Int} {M : Mem} {g : Int} (hg : isG g) (hG : G h M) : G h (fmX1_takeImage M g) := by
  unfold fmX1_takeImage
  exact (glX1_takeImage_2 hg hG)
set_option maxRecDepth 100000 in
theorem pX1_takeImage {E : EV} {h : Int} {M : Mem} {g : Int} (hg : isG g) : C2 E miX1_takeImage 3 h [(2, g), (2, 1)] M (fun r M' => r = none ∧ M' = (fmX1_takeImage M g)) := by
  obtain ⟨Q, hQ0⟩ : ∃ Q : Option MV → Mem → Prop, Q = (fun r M' => r = none ∧ M' = (fmX1_takeImage M g)) := ⟨_, rfl⟩
  rw [← hQ0]
  have hQ : Q none (lmX1_takeImage_2 g ((((wr32 ((fX1_imageLength M g) - 1))) : Int) - 0).toNat 0 M) := by rw [hQ0]; exact ⟨rfl, rfl⟩
  refine C2_of (L := [(2, g), (2, 1), (3, 0), (3, 0)]) (by decide +kernel) (Nat.le_of_ble_eq_true rfl) rfl (fun hG => ?_)
  refine T_iconst (pc' := 1) dX1_takeImage_0 (by decide) rfl ?_
  refine T_istore_n (i := 2) (L' := [(2, g), (2, 1), (0, 0), (3, 0)]) (pc' := 2) dX1_takeImage_1 rfl (by decide) rfl rfl ?_
  exact T_wk (qX1_takeImage_2 hg _ 0 _ (by first | decide | omega) rfl hQ hG) ⟨Or.inr rfl, Or.inr rfl, Or.inr rfl, Or.inl rfl, trivial⟩
def fX2_isFull (M : Mem) (g : Int) (v1 : Int) : Int :=
  (if v1 = 1 then (if (M g 11) < 15 then (0 : Int) else 1) else (if v1 = 2 then (if (M g 12) < 6 then (0 : Int) else 1) else (if v1 = 3 then (if (M (g + 1) 8) < 9 then (0 : Int) else 1) else (if v1 = 4 then (if (M g 13) < 4 then (0 : Int) else 1) else 0))))
set_option maxRecDepth 100000 in
theorem pX2_isFull {E : EV} {h : Int} {M : Mem} {g : Int} {v1 : Int} (hg : isG g) : C2 E miX2_isFull 1 h [(2, g), (0, v1)] M (fun r M' => r = some (0, (fX2_isFull M g v1)) ∧ M' = M) := by
  obtain ⟨Q, hQ⟩ : ∃ Q : Option MV → Mem → Prop, Q = (fun r M' => r = some (0, (fX2_isFull M g v1)) ∧ M' = M) := ⟨_, rfl⟩
  rw [← hQ]
  refine C2_of (L := [(2, g), (0, v1)]) (by decide +kernel) (Nat.le_of_ble_eq_true rfl) rfl (fun hG => ?_)
  refine T_iload_n (i := 1) (pc' := 1) dX2_isFull_0 rfl rfl rfl ?_
  by_cases c1 : v1 = 1
  · skip
    refine T_tableIn (pc' := 32) dX2_isFull_1 (by omega) (by omega) (by rw [c1]; rfl) (by decide) ?_
    refine T_aload_n (i := 0) (pc' := 33) dX2_isFull_32 rfl rfl rfl ?_
    refine U_gfN (v := (0, (M g 11))) (k := 11) (kI := 11) (pc' := 36) dX2_isFull_33 rfl cl1 (pog0 hg) (shg0 hg) (by decide) flX2_85 rfl rfl (by decide) rfl rfl ?_
    refine T_bipush (pc' := 38) dX2_isFull_36 rfl (by decide) rfl ?_
    have HJ2 : T E miX2_isFull 1 126 0 0 (fun r S M' => S = S0 ∧ G h M' ∧ Q r M') 46 [(3, 0), (3, 0)] [(0, (if (M g 11) < 15 then (0 : Int) else 1))] S0 M 0 0 := by
      exact T_zret dX2_isFull_46 rfl (by repeat' (first | apply bi | exact Or.inl rfl | exact Or.inr rfl)) ⟨rfl, hG, (by rw [hQ]; exact ⟨(by unfold fX2_isFull; simp only [if_pos c1]), rfl⟩)⟩
    refine T_icmp_lt (pc' := 45) dX2_isFull_38 (by decide) (pf := 41) rfl (fun c3 => ?_) (fun c3 => ?_)
    · skip
      refine T_iconst (pc' := 46) dX2_isFull_45 (by decide) rfl ?_
      exact T_wk (L' := [(3, 0), (3, 0)]) (by have q := HJ2; try simp only [if_pos c3] at q; exact q) ⟨Or.inl rfl, Or.inl rfl, trivial⟩
    · skip
      refine T_iconst (pc' := 42) dX2_isFull_41 (by decide) rfl ?_
      refine T_goto (pc' := 46) dX2_isFull_42 (by decide) ?_
      exact T_wk (L' := [(3, 0), (3, 0)]) (by have q := HJ2; try simp only [if_neg c3] at q; exact q) ⟨Or.inl rfl, Or.inl rfl, trivial⟩
  · skip
    by_cases c4 : v1 = 2
    · skip
      refine T_tableIn (pc' := 47) dX2_isFull_1 (by omega) (by omega) (by rw [c4]; rfl) (by decide) ?_
      refine T_aload_n (i := 0) (pc' := 48) dX2_isFull_47 rfl rfl rfl ?_
      refine U_gfN (v := (0, (M g 12))) (k := 12) (kI := 12) (pc' := 51) dX2_isFull_48 rfl cl1 (pog0 hg) (shg0 hg) (by decide) flX2_88 rfl rfl (by decide) rfl rfl ?_
      refine T_bipush (pc' := 53) dX2_isFull_51 rfl (by decide) rfl ?_
      have HJ5 : T E miX2_isFull 1 126 0 0 (fun r S M' => S = S0 ∧ G h M' ∧ Q r M') 61 [(3, 0), (3, 0)] [(0, (if (M g 12) < 6 then (0 : Int) else 1))] S0 M 0 0 := by
        exact T_zret dX2_isFull_61 rfl (by repeat' (first | apply bi | exact Or.inl rfl | exact Or.inr rfl)) ⟨rfl, hG, (by rw [hQ]; exact ⟨(by unfold fX2_isFull; simp only [if_neg c1, if_pos c4]), rfl⟩)⟩
      refine T_icmp_lt (pc' := 60) dX2_isFull_53 (by decide) (pf := 56) rfl (fun c6 => ?_) (fun c6 => ?_)
      · skip
        refine T_iconst (pc' := 61) dX2_isFull_60 (by decide) rfl ?_
        exact T_wk (L' := [(3, 0), (3, 0)]) (by have q := HJ5; try simp only [if_pos c6] at q; exact q) ⟨Or.inl rfl, Or.inl rfl, trivial⟩
      · skip
        refine T_iconst (pc' := 57) dX2_isFull_56 (by decide) rfl ?_
        refine T_goto (pc' := 61) dX2_isFull_57 (by decide) ?_
        exact T_wk (L' := [(3, 0), (3, 0)]) (by have q := HJ5; try simp only [if_neg c6] at q; exact q) ⟨Or.inl rfl, Or.inl rfl, trivial⟩
    · skip
      by_cases c7 : v1 = 3
      · skip
        refine T_tableIn (pc' := 62) dX2_isFull_1 (by omega) (by omega) (by rw [c7]; rfl) (by decide) ?_
        refine T_aload_n (i := 0) (pc' := 63) dX2_isFull_62 rfl rfl rfl ?_
        refine U_grN (q := (g + 1)) (k := 0) (kI := 0) (pc' := 66) dX2_isFull_63 rfl cl1 (pog0 hg) (shg0 hg) (by decide) flX2_91 rfl rfl rfl (grg0_0 hg hG) (pog1 hg) rfl ?_
        refine U_gfN (v := (0, (M (g + 1) 8))) (k := 8) (kI := 8) (pc' := 69) dX2_isFull_66 rfl cl4 (pog1 hg) (shg1 hg) (by decide) flX2_95 rfl rfl (by decide) rfl rfl ?_
        refine T_bipush (pc' := 71) dX2_isFull_69 rfl (by decide) rfl ?_
        have HJ8 : T E miX2_isFull 1 126 0 0 (fun r S M' => S = S0 ∧ G h M' ∧ Q r M') 79 [(3, 0), (3, 0)] [(0, (if (M (g + 1) 8) < 9 then (0 : Int) else 1))] S0 M 0 0 := by
          exact T_zret dX2_isFull_79 rfl (by repeat' (first | apply bi | exact Or.inl rfl | exact Or.inr rfl)) ⟨rfl, hG, (by rw [hQ]; exact ⟨(by unfold fX2_isFull; simp only [if_neg c1, if_neg c4, if_pos c7]), rfl⟩)⟩
        refine T_icmp_lt (pc' := 78) dX2_isFull_71 (by decide) (pf := 74) rfl (fun c9 => ?_) (fun c9 => ?_)
        · skip
          refine T_iconst (pc' := 79) dX2_isFull_78 (by decide) rfl ?_
          exact T_wk (L' := [(3, 0), (3, 0)]) (by have q := HJ8; try simp only [if_pos c9] at q; exact q) ⟨Or.inl rfl, Or.inl rfl, trivial⟩
        · skip
          refine T_iconst (pc' := 75) dX2_isFull_74 (by decide) rfl ?_
          refine T_goto (pc' := 79) dX2_isFull_75 (by decide) ?_
          exact T_wk (L' := [(3, 0), (3, 0)]) (by have q := HJ8; try simp only [if_neg c9] at q; exact q) ⟨Or.inl rfl, Or.inl rfl, trivial⟩
      · skip
        by_cases c10 : v1 = 4
        · skip
          refine T_tableIn (pc' := 80) dX2_isFull_1 (by omega) (by omega) (by rw [c10]; rfl) (by decide) ?_
          refine T_aload_n (i := 0) (pc' := 81) dX2_isFull_80 rfl rfl rfl ?_
          refine U_gfN (v := (0, (M g 13))) (k := 13) (kI := 13) (pc' := 84) dX2_isFull_81 rfl cl1 (pog0 hg) (shg0 hg) (by decide) flX2_100 rfl rfl (by decide) rfl rfl ?_
          refine T_iconst (pc' := 85) dX2_isFull_84 (by decide) rfl ?_
          have HJ11 : T E miX2_isFull 1 126 0 0 (fun r S M' => S = S0 ∧ G h M' ∧ Q r M') 93 [(3, 0), (3, 0)] [(0, (if (M g 13) < 4 then (0 : Int) else 1))] S0 M 0 0 := by
            exact T_zret dX2_isFull_93 rfl (by repeat' (first | apply bi | exact Or.inl rfl | exact Or.inr rfl)) ⟨rfl, hG, (by rw [hQ]; exact ⟨(by unfold fX2_isFull; simp only [if_neg c1, if_neg c4, if_neg c7, if_pos c10]), rfl⟩)⟩
          refine T_icmp_lt (pc' := 92) dX2_isFull_85 (by decide) (pf := 88) rfl (fun c12 => ?_) (fun c12 => ?_)
          · skip
            refine T_iconst (pc' := 93) dX2_isFull_92 (by decide) rfl ?_
            exact T_wk (L' := [(3, 0), (3, 0)]) (by have q := HJ11; try simp only [if_pos c12] at q; exact q) ⟨Or.inl rfl, Or.inl rfl, trivial⟩
          · skip
            refine T_iconst (pc' := 89) dX2_isFull_88 (by decide) rfl ?_
            refine T_goto (pc' := 93) dX2_isFull_89 (by decide) ?_
            exact T_wk (L' := [(3, 0), (3, 0)]) (by have q := HJ11; try simp only [if_neg c12] at q; exact q) ⟨Or.inl rfl, Or.inl rfl, trivial⟩
        · skip
          refine T_tableOut (pc' := 94) dX2_isFull_1 (by omega) (by decide) ?_
          refine T_iconst (pc' := 95) dX2_isFull_94 (by decide) rfl ?_
          exact T_zret dX2_isFull_95 rfl (by decide) ⟨rfl, hG, (by rw [hQ]; exact ⟨(by unfold fX2_isFull; simp only [if_neg c1, if_neg c4, if_neg c7, if_neg c10]), rfl⟩)⟩
theorem fbX2_isFull (M : Mem) (g : Int) (v1 : Int) : (fX2_isFull M g v1) = 0 ∨ (fX2_isFull M g v1) = 1 := by
  unfold fX2_isFull
  repeat' (first | apply bi | exact Or.inl rfl | exact Or.inr rfl)
def fX2_mayStand (M : Mem) (g : Int) (v1 : Int) (v2 : Int) : Int :=
  (if v1 = 1 then (if (fX1_doorIn M g v2) = (-1) then (if (fX1_isTaken M g v2) = 0 then (1 : Int) else 0) else 0) else (if v1 = 2 then (if (fX1_doorIn M g v2) = (-1) then (if (fX1_isFree M g v2) = 0 then (0 : Int) else 1) else 0) else (fX1_isFree M g v2)))
set_option maxRecDepth 100000 in
theorem pX2_mayStand {E : EV} {h : Int} {M : Mem} {g : Int} {v1 : Int} {v2 : Int} (hg : isG g) : C2 E miX2_mayStand 3 h [(2, g), (0, v1), (0, v2)] M (fun r M' => r = some (0, (fX2_mayStand M g v1 v2)) ∧ M' = M) := by
  obtain ⟨Q, hQ⟩ : ∃ Q : Option MV → Mem → Prop, Q = (fun r M' => r = some (0, (fX2_mayStand M g v1 v2)) ∧ M' = M) := ⟨_, rfl⟩
  rw [← hQ]
  refine C2_of (L := [(2, g), (0, v1), (0, v2)]) (by decide +kernel) (Nat.le_of_ble_eq_true rfl) rfl (fun hG => ?_)
  refine T_iload_n (i := 1) (pc' := 1) dX2_mayStand_0 rfl rfl rfl ?_
  by_cases c1 : v1 = 1
  · skip
    refine T_lookup (pc' := 28) dX2_mayStand_1 (by decide) (by rw [c1] <;> rfl) (by decide) ?_
    refine T_aload_n (i := 0) (pc' := 29) dX2_mayStand_28 rfl rfl rfl ?_
    refine T_iload_n (i := 2) (pc' := 30) dX2_mayStand_29 rfl rfl rfl ?_
    refine T_callV (av := [(0, v2)]) (st := []) (d2 := 2) (nc2 := 0) (ns2 := 0) (pc' := 33) dX2_mayStand_30 rfl mtX1_doorIn mvX1_doorIn mlX2_133 cl1 (shg0 hg) rfl rfl (Nat.le_of_ble_eq_true rfl) (by decide) ⟨by decide, by decide⟩ rfl (pX1_doorIn (E := E) (h := h) (M := M) (g := g) (v1 := v2) hg hG) (kF (st2 := [(0, (fX1_doorIn M g v2))]) rfl (fun hG2 => ?_))
    refine T_iconst (pc' := 34) dX2_mayStand_33 (by decide) rfl ?_
    have HJ3 : T E miX2_mayStand 3 126 0 0 (fun r S M' => S = S0 ∧ G h M' ∧ Q r M') 50 [(3, 0), (3, 0), (3, 0)] [(0, (if (fX1_doorIn M g v2) = (-1) then (if (fX1_isTaken M g v2) = 0 then (1 : Int) else 0) else 0))] S0 M 0 0 := by
      exact T_zret dX2_mayStand_50 rfl (by repeat' (first | apply bi | exact Or.inl rfl | exact Or.inr rfl | apply fbX1_isFree)) ⟨rfl, hG, (by rw [hQ]; exact ⟨(by unfold fX2_mayStand; simp only [if_pos c1]), rfl⟩)⟩
    refine T_icmp_ne (pc' := 49) dX2_mayStand_34 (by decide) (pf := 37) rfl (fun c4 => ?_) (fun c4 => ?_)
    · skip
      refine T_iconst (pc' := 50) dX2_mayStand_49 (by decide) rfl ?_
      exact T_wk (L' := [(3, 0), (3, 0), (3, 0)]) (by have q := HJ3; try simp only [if_neg c4] at q; exact q) ⟨Or.inl rfl, Or.inl rfl, Or.inl rfl, trivial⟩
    · skip
      refine T_aload_n (i := 0) (pc' := 38) dX2_mayStand_37 rfl rfl rfl ?_
      refine T_iload_n (i := 2) (pc' := 39) dX2_mayStand_38 rfl rfl rfl ?_
      refine T_callV (av := [(0, v2)]) (st := []) (d2 := 2) (nc2 := 0) (ns2 := 0) (pc' := 42) dX2_mayStand_39 rfl mtX1_isTaken mvX1_isTaken mlX2_137 cl1 (shg0 hg) rfl rfl (Nat.le_of_ble_eq_true rfl) (by decide) ⟨by decide, by decide⟩ rfl (pX1_isTaken (E := E) (h := h) (M := M) (g := g) (v1 := v2) hg hG) (kF (st2 := [(0, (fX1_isTaken M g v2))]) rfl (fun hG5 => ?_))
      refine T_if_ne (pc' := 49) dX2_mayStand_42 (by decide) (pf := 45) rfl (fun c6 => ?_) (fun c6 => ?_)
      · skip
        refine T_iconst (pc' := 50) dX2_mayStand_49 (by decide) rfl ?_
        exact T_wk (L' := [(3, 0), (3, 0), (3, 0)]) (by have q := HJ3; try simp only [if_pos c4] at q; try simp only [if_neg c6] at q; exact q) ⟨Or.inl rfl, Or.inl rfl, Or.inl rfl, trivial⟩
      · skip
        refine T_iconst (pc' := 46) dX2_mayStand_45 (by decide) rfl ?_
        refine T_goto (pc' := 50) dX2_mayStand_46 (by decide) ?_
        exact T_wk (L' := [(3, 0), (3, 0), (3, 0)]) (by have q := HJ3; try simp only [if_pos c4] at q; try simp only [if_pos c6] at q; exact q) ⟨Or.inl rfl, Or.inl rfl, Or.inl rfl, trivial⟩
  · skip
    by_cases c7 : v1 = 2
    · skip
      refine T_lookup (pc' := 51) dX2_mayStand_1 (by decide) (by rw [c7] <;> rfl) (by decide) ?_
      refine T_aload_n (i := 0) (pc' := 52) dX2_mayStand_51 rfl rfl rfl ?_
      refine T_iload_n (i := 2) (pc' := 53) dX2_mayStand_52 rfl rfl rfl ?_
      refine T_callV (av := [(0, v2)]) (st := []) (d2 := 2) (nc2 := 0) (ns2 := 0) (pc' := 56) dX2_mayStand_53 rfl mtX1_doorIn mvX1_doorIn mlX2_133 cl1 (shg0 hg) rfl rfl (Nat.le_of_ble_eq_true rfl) (by decide) ⟨by decide, by decide⟩ rfl (pX1_doorIn (E := E) (h := h) (M := M) (g := g) (v1 := v2) hg hG) (kF (st2 := [(0, (fX1_doorIn M g v2))]) rfl (fun hG8 => ?_))
      refine T_iconst (pc' := 57) dX2_mayStand_56 (by decide) rfl ?_
      have HJ9 : T E miX2_mayStand 3 126 0 0 (fun r S M' => S = S0 ∧ G h M' ∧ Q r M') 73 [(3, 0), (3, 0), (3, 0)] [(0, (if (fX1_doorIn M g v2) = (-1) then (if (fX1_isFree M g v2) = 0 then (0 : Int) else 1) else 0))] S0 M 0 0 := by
        exact T_zret dX2_mayStand_73 rfl (by repeat' (first | apply bi | exact Or.inl rfl | exact Or.inr rfl | apply fbX1_isFree)) ⟨rfl, hG, (by rw [hQ]; exact ⟨(by unfold fX2_mayStand; simp only [if_neg c1, if_pos c7]), rfl⟩)⟩
      refine T_icmp_ne (pc' := 72) dX2_mayStand_57 (by decide) (pf := 60) rfl (fun c10 => ?_) (fun c10 => ?_)
      · skip
        refine T_iconst (pc' := 73) dX2_mayStand_72 (by decide) rfl ?_
        exact T_wk (L' := [(3, 0), (3, 0), (3, 0)]) (by have q := HJ9; try simp only [if_neg c10] at q; exact q) ⟨Or.inl rfl, Or.inl rfl, Or.inl rfl, trivial⟩
      · skip
        refine T_aload_n (i := 0) (pc' := 61) dX2_mayStand_60 rfl rfl rfl ?_
        refine T_iload_n (i := 2) (pc' := 62) dX2_mayStand_61 rfl rfl rfl ?_
        refine T_callV (av := [(0, v2)]) (st := []) (d2 := 2) (nc2 := 0) (ns2 := 0) (pc' := 65) dX2_mayStand_62 rfl mtX1_isFree mvX1_isFree mlX2_141 cl1 (shg0 hg) rfl rfl (Nat.le_of_ble_eq_true rfl) (by decide) ⟨by decide, by decide⟩ rfl (pX1_isFree (E := E) (h := h) (M := M) (g := g) (v1 := v2) hg hG) (kF (st2 := [(0, (fX1_isFree M g v2))]) rfl (fun hG11 => ?_))
        refine T_if_eq (pc' := 72) dX2_mayStand_65 (by decide) (pf := 68) rfl (fun c12 => ?_) (fun c12 => ?_)
        · skip
          refine T_iconst (pc' := 73) dX2_mayStand_72 (by decide) rfl ?_
          exact T_wk (L' := [(3, 0), (3, 0), (3, 0)]) (by have q := HJ9; try simp only [if_pos c10] at q; try simp only [if_pos c12] at q; exact q) ⟨Or.inl rfl, Or.inl rfl, Or.inl rfl, trivial⟩
        · skip
          refine T_iconst (pc' := 69) dX2_mayStand_68 (by decide) rfl ?_
          refine T_goto (pc' := 73) dX2_mayStand_69 (by decide) ?_
          exact T_wk (L' := [(3, 0), (3, 0), (3, 0)]) (by have q := HJ9; try simp only [if_pos c10] at q; try simp only [if_neg c12] at q; exact q) ⟨Or.inl rfl, Or.inl rfl, Or.inl rfl, trivial⟩
    · skip
      refine T_lookup (off := 73) (pc' := 74) dX2_mayStand_1 (by decide) (by show (if 1 = v1 then 27 else if 2 = v1 then 50 else 73) = 73; rw [if_neg (fun z => c1 z.symm), if_neg (fun z => c7 z.symm)]) (by decide) ?_
      refine T_aload_n (i := 0) (pc' := 75) dX2_mayStand_74 rfl rfl rfl ?_
      refine T_iload_n (i := 2) (pc' := 76) dX2_mayStand_75 rfl rfl rfl ?_
      refine T_callV (av := [(0, v2)]) (st := []) (d2 := 2) (nc2 := 0) (ns2 := 0) (pc' := 79) dX2_mayStand_76 rfl mtX1_isFree mvX1_isFree mlX2_141 cl1 (shg0 hg) rfl rfl (Nat.le_of_ble_eq_true rfl) (by decide) ⟨by decide, by decide⟩ rfl (pX1_isFree (E := E) (h := h) (M := M) (g := g) (v1 := v2) hg hG) (kF (st2 := [(0, (fX1_isFree M g v2))]) rfl (fun hG13 => ?_))
      exact T_zret dX2_mayStand_79 rfl (by repeat' (first | apply bi | exact Or.inl rfl | exact Or.inr rfl | apply fbX1_isFree)) ⟨rfl, hG, (by rw [hQ]; exact ⟨(by unfold fX2_mayStand; simp only [if_neg c1, if_neg c7]), rfl⟩)⟩
theorem fbX2_mayStand (M : Mem) (g : Int) (v1 : Int) (v2 : Int) : (fX2_mayStand M g v1 v2) = 0 ∨ (fX2_mayStand M g v1 v2) = 1 := by
  unfold fX2_mayStand
  repeat' (first | apply bi | exact Or.inl rfl | exact Or.inr rfl | apply fbX1_isFree)
def fX9_fail  : Int :=
  0
def fmX9_fail (M : Mem) (v1 : Int) (v2 : Int) : Mem :=
  (if (M 3 4) = 0 then (mset (mset M 3 4 v1) 3 5 v2) else M)
theorem gX9_fail {h : Int} {M : Mem} {v1 : Int} {v2 : Int}  (hG : G h M) : G h (fmX9_fail M v1 v2) := by
  unfold fmX9_fail
  exact (G_ite (G_fld (x := 3) (i := 5) (y := v2) rfl (by decide) (by decide) (by decide) (G_fld (x := 3) (i := 4) (y := v1) rfl (by decide) (by decide) (by decide) hG)) hG)
set_option maxRecDepth 100000 in
theorem pX9_fail {E : EV} {h : Int} {M : Mem} {v1 : Int} {v2 : Int}  : C2 E miX9_fail 1 h [(2, 3), (0, v1), (0, v2)] M (fun r M' => r = some (0, fX9_fail) ∧ M' = (fmX9_fail M v1 v2)) := by
  obtain ⟨Q, hQ⟩ : ∃ Q : Option MV → Mem → Prop, Q = (fun r M' => r = some (0, fX9_fail) ∧ M' = (fmX9_fail M v1 v2)) := ⟨_, rfl⟩
  rw [← hQ]
  refine C2_of (L := [(2, 3), (0, v1), (0, v2)]) (by decide +kernel) (Nat.le_of_ble_eq_true rfl) rfl (fun hG => ?_)
  refine T_aload_n (i := 0) (pc' := 1) dX9_fail_0 rfl rfl rfl ?_
  refine U_gf (v := (0, (M 3 4))) (k := 4) (kI := 4) (pc' := 4) dX9_fail_1 rfl cl9 (by decide) rfl (by decide) flX9_25 rfl rfl (by decide) rfl rfl ?_
  have HJ1 : T E miX9_fail 1 126 0 0 (fun r S M' => S = S0 ∧ G h M' ∧ Q r M') 17 [(3, 0), (3, 0), (3, 0)] [] S0 (if (M 3 4) = 0 then (mset (mset M 3 4 v1) 3 5 v2) else M) 0 0 := by
    refine T_iconst (pc' := 18) dX9_fail_17 (by decide) rfl ?_
    exact T_zret dX9_fail_18 rfl (by decide) ⟨rfl, (G_ite (G_fld (x := 3) (i := 5) (y := v2) rfl (by decide) (by decide) (by decide) (G_fld (x := 3) (i := 4) (y := v1) rfl (by decide) (by decide) (by decide) hG)) hG), (by rw [hQ]; exact ⟨rfl, rfl⟩)⟩
  refine T_if_ne (pc' := 17) dX9_fail_4 (by decide) (pf := 7) rfl (fun c2 => ?_) (fun c2 => ?_)
  · skip
    exact T_wk (L' := [(3, 0), (3, 0), (3, 0)]) (by have q := HJ1; try simp only [if_neg c2] at q; exact q) ⟨Or.inl rfl, Or.inl rfl, Or.inl rfl, trivial⟩
  · skip
    refine T_aload_n (i := 0) (pc' := 8) dX9_fail_7 rfl rfl rfl ?_
    refine T_iload_n (i := 1) (pc' := 9) dX9_fail_8 rfl rfl rfl ?_
    refine U_pf (y := v1) (k := 4) (kI := 4) (pc' := 12) dX9_fail_9 rfl cl9 (by decide) rfl (by decide) flX9_25 rfl rfl rfl rfl rfl (by decide) (fun z => z) rfl ?_
    refine T_aload_n (i := 0) (pc' := 13) dX9_fail_12 rfl rfl rfl ?_
    refine T_iload_n (i := 2) (pc' := 14) dX9_fail_13 rfl rfl rfl ?_
    refine U_pf (y := v2) (k := 5) (kI := 5) (pc' := 17) dX9_fail_14 rfl cl9 (by decide) rfl (by decide) flX9_28 rfl rfl rfl rfl rfl (by decide) (fun z => z) rfl ?_
    exact T_wk (L' := [(3, 0), (3, 0), (3, 0)]) (by have q := HJ1; try simp only [if_pos c2] at q; exact q) ⟨Or.inl rfl, Or.inl rfl, Or.inl rfl, trivial⟩
theorem frX9_fail {M : Mem} {v1 : Int} {v2 : Int} {q : Int} (hq0 : q ≠ 3) : (fmX9_fail M v1 v2) q = M q := by
  unfold fmX9_fail
  exact (ite_q ((mset_p hq0).trans ((mset_p hq0).trans rfl)) rfl)
theorem fbX9_fail  : fX9_fail = 0 ∨ fX9_fail = 1 := by
  unfold fX9_fail
  repeat' (first | apply bi | exact Or.inl rfl | exact Or.inr rfl)
def fX9_letters (M : Mem) : Int :=
  (wr32 ((M 3 3) - (M 3 2)))
set_option maxRecDepth 100000 in
theorem pX9_letters {E : EV} {h : Int} {M : Mem}   : C2 E miX9_letters 1 h [(2, 3)] M (fun r M' => r = some (0, (fX9_letters M)) ∧ M' = M) := by
  obtain ⟨Q, hQ⟩ : ∃ Q : Option MV → Mem → Prop, Q = (fun r M' => r = some (0, (fX9_letters M)) ∧ M' = M) := ⟨_, rfl⟩
  rw [← hQ]
  refine C2_of (L := [(2, 3)]) (by decide +kernel) (Nat.le_of_ble_eq_true rfl) rfl (fun hG => ?_)
  refine T_aload_n (i := 0) (pc' := 1) dX9_letters_0 rfl rfl rfl ?_
  refine U_gf (v := (0, (M 3 3))) (k := 3) (kI := 3) (pc' := 4) dX9_letters_1 rfl cl9 (by decide) rfl (by decide) flX9_22 rfl rfl (by decide) rfl rfl ?_
  refine T_aload_n (i := 0) (pc' := 5) dX9_letters_4 rfl rfl rfl ?_
  refine U_gf (v := (0, (M 3 2))) (k := 2) (kI := 2) (pc' := 8) dX9_letters_5 rfl cl9 (by decide) rfl (by decide) flX9_19 rfl rfl (by decide) rfl rfl ?_
  refine T_isub (pc' := 9) dX9_letters_8 rfl ?_
  exact T_iret dX9_letters_9 rfl ⟨rfl, hG, (by rw [hQ]; exact ⟨rfl, rfl⟩)⟩
def fX9_isBlank (v0 : Int) : Int :=
  (if v0 = 10 then (1 : Int) else (if v0 = 32 then (1 : Int) else 0))
set_option maxRecDepth 100000 in
theorem pX9_isBlank {E : EV} {h : Int} {M : Mem} {v0 : Int}  : C2 E miX9_isBlank 1 h [(0, v0)] M (fun r M' => r = some (0, (fX9_isBlank v0)) ∧ M' = M) := by
  obtain ⟨Q, hQ⟩ : ∃ Q : Option MV → Mem → Prop, Q = (fun r M' => r = some (0, (fX9_isBlank v0)) ∧ M' = M) := ⟨_, rfl⟩
  rw [← hQ]
  refine C2_of (L := [(0, v0)]) (by decide +kernel) (Nat.le_of_ble_eq_true rfl) rfl (fun hG => ?_)
  refine T_iload_n (i := 0) (pc' := 1) dX9_isBlank_0 rfl rfl rfl ?_
  refine T_bipush (pc' := 3) dX9_isBlank_1 rfl (by decide) rfl ?_
  have HJ1 : T E miX9_isBlank 1 126 0 0 (fun r S M' => S = S0 ∧ G h M' ∧ Q r M') 17 [(3, 0)] [(0, (if v0 = 10 then (1 : Int) else (if v0 = 32 then (1 : Int) else 0)))] S0 M 0 0 := by
    exact T_zret dX9_isBlank_17 rfl (by repeat' (first | apply bi | exact Or.inl rfl | exact Or.inr rfl)) ⟨rfl, hG, (by rw [hQ]; exact ⟨rfl, rfl⟩)⟩
  refine T_icmp_eq (pc' := 12) dX9_isBlank_3 (by decide) (pf := 6) rfl (fun c2 => ?_) (fun c2 => ?_)
  · skip
    refine T_iconst (pc' := 13) dX9_isBlank_12 (by decide) rfl ?_
    refine T_goto (pc' := 17) dX9_isBlank_13 (by decide) ?_
    exact T_wk (L' := [(3, 0)]) (by have q := HJ1; try simp only [if_pos c2] at q; exact q) ⟨Or.inl rfl, trivial⟩
  · skip
    refine T_iload_n (i := 0) (pc' := 7) dX9_isBlank_6 rfl rfl rfl ?_
    refine T_bipush (pc' := 9) dX9_isBlank_7 rfl (by decide) rfl ?_
    refine T_icmp_ne (pc' := 16) dX9_isBlank_9 (by decide) (pf := 12) rfl (fun c3 => ?_) (fun c3 => ?_)
    · skip
      refine T_iconst (pc' := 17) dX9_isBlank_16 (by decide) rfl ?_
      exact T_wk (L' := [(3, 0)]) (by have q := HJ1; try simp only [if_neg c2] at q; try simp only [if_neg c3] at q; exact q) ⟨Or.inl rfl, trivial⟩
    · skip
      refine T_iconst (pc' := 13) dX9_isBlank_12 (by decide) rfl ?_
      refine T_goto (pc' := 17) dX9_isBlank_13 (by decide) ?_
      exact T_wk (L' := [(3, 0)]) (by have q := HJ1; try simp only [if_neg c2] at q; try simp only [if_pos c3] at q; exact q) ⟨Or.inl rfl, trivial⟩
theorem fbX9_isBlank (v0 : Int) : (fX9_isBlank v0) = 0 ∨ (fX9_isBlank v0) = 1 := by
  unfold fX9_isBlank
  repeat' (first | apply bi | exact Or.inl rfl | exact Or.inr rfl)
def fX9_kindOf (v0 : Int) : Int :=
  (if v0 = (-1) then 0 else (if v0 < 97 then (if v0 < 48 then (3 : Int) else (if 57 < v0 then (3 : Int) else 2)) else (if 122 < v0 then (if v0 < 48 then (3 : Int) else (if 57 < v0 then (3 : Int) else 2)) else 1)))
set_option maxRecDepth 100000 in
theorem pX9_kindOf {E : EV} {h : Int} {M : Mem} {v0 : Int}  : C2 E miX9_kindOf 1 h [(0, v0)] M (fun r M' => r = some (0, (fX9_kindOf v0)) ∧ M' = M) := by
  obtain ⟨Q, hQ⟩ : ∃ Q : Option MV → Mem → Prop, Q = (fun r M' => r = some (0, (fX9_kindOf v0)) ∧ M' = M) := ⟨_, rfl⟩
  rw [← hQ]
  refine C2_of (L := [(0, v0)]) (by decide +kernel) (Nat.le_of_ble_eq_true rfl) rfl (fun hG => ?_)
  refine T_iload_n (i := 0) (pc' := 1) dX9_kindOf_0 rfl rfl rfl ?_
  refine T_iconst (pc' := 2) dX9_kindOf_1 (by decide) rfl ?_
  refine T_icmp_ne (pc' := 7) dX9_kindOf_2 (by decide) (pf := 5) rfl (fun c1 => ?_) (fun c1 => ?_)
  · skip
    refine T_iload_n (i := 0) (pc' := 8) dX9_kindOf_7 rfl rfl rfl ?_
    refine T_bipush (pc' := 10) dX9_kindOf_8 rfl (by decide) rfl ?_
    refine T_icmp_lt (pc' := 21) dX9_kindOf_10 (by decide) (pf := 13) rfl (fun c2 => ?_) (fun c2 => ?_)
    · skip
      refine T_iload_n (i := 0) (pc' := 22) dX9_kindOf_21 rfl rfl rfl ?_
      refine T_bipush (pc' := 24) dX9_kindOf_22 rfl (by decide) rfl ?_
      have HJ3 : T E miX9_kindOf 1 126 0 0 (fun r S M' => S = S0 ∧ G h M' ∧ Q r M') 38 [(3, 0)] [(0, (if v0 < 48 then (3 : Int) else (if 57 < v0 then (3 : Int) else 2)))] S0 M 0 0 := by
        exact T_iret dX9_kindOf_38 rfl ⟨rfl, hG, (by rw [hQ]; exact ⟨(by unfold fX9_kindOf; simp only [if_neg c1, if_pos c2]), rfl⟩)⟩
      refine T_icmp_lt (pc' := 37) dX9_kindOf_24 (by decide) (pf := 27) rfl (fun c4 => ?_) (fun c4 => ?_)
      · skip
        refine T_iconst (pc' := 38) dX9_kindOf_37 (by decide) rfl ?_
        exact T_wk (L' := [(3, 0)]) (by have q := HJ3; try simp only [if_pos c4] at q; exact q) ⟨Or.inl rfl, trivial⟩
      · skip
        refine T_iload_n (i := 0) (pc' := 28) dX9_kindOf_27 rfl rfl rfl ?_
        refine T_bipush (pc' := 30) dX9_kindOf_28 rfl (by decide) rfl ?_
        refine T_icmp_gt (pc' := 37) dX9_kindOf_30 (by decide) (pf := 33) rfl (fun c5 => ?_) (fun c5 => ?_)
        · skip
          refine T_iconst (pc' := 38) dX9_kindOf_37 (by decide) rfl ?_
          exact T_wk (L' := [(3, 0)]) (by have q := HJ3; try simp only [if_neg c4] at q; try simp only [if_pos c5] at q; exact q) ⟨Or.inl rfl, trivial⟩
        · skip
          refine T_iconst (pc' := 34) dX9_kindOf_33 (by decide) rfl ?_
          refine T_goto (pc' := 38) dX9_kindOf_34 (by decide) ?_
          exact T_wk (L' := [(3, 0)]) (by have q := HJ3; try simp only [if_neg c4] at q; try simp only [if_neg c5] at q; exact q) ⟨Or.inl rfl, trivial⟩
    · skip
      refine T_iload_n (i := 0) (pc' := 14) dX9_kindOf_13 rfl rfl rfl ?_
      refine T_bipush (pc' := 16) dX9_kindOf_14 rfl (by decide) rfl ?_
      refine T_icmp_gt (pc' := 21) dX9_kindOf_16 (by decide) (pf := 19) rfl (fun c6 => ?_) (fun c6 => ?_)
      · skip
        refine T_iload_n (i := 0) (pc' := 22) dX9_kindOf_21 rfl rfl rfl ?_
        refine T_bipush (pc' := 24) dX9_kindOf_22 rfl (by decide) rfl ?_
        have HJ7 : T E miX9_kindOf 1 126 0 0 (fun r S M' => S = S0 ∧ G h M' ∧ Q r M') 38 [(3, 0)] [(0, (if v0 < 48 then (3 : Int) else (if 57 < v0 then (3 : Int) else 2)))] S0 M 0 0 := by
          exact T_iret dX9_kindOf_38 rfl ⟨rfl, hG, (by rw [hQ]; exact ⟨(by unfold fX9_kindOf; simp only [if_neg c1, if_neg c2, if_pos c6]), rfl⟩)⟩
        refine T_icmp_lt (pc' := 37) dX9_kindOf_24 (by decide) (pf := 27) rfl (fun c8 => ?_) (fun c8 => ?_)
        · skip
          refine T_iconst (pc' := 38) dX9_kindOf_37 (by decide) rfl ?_
          exact T_wk (L' := [(3, 0)]) (by have q := HJ7; try simp only [if_pos c8] at q; exact q) ⟨Or.inl rfl, trivial⟩
        · skip
          refine T_iload_n (i := 0) (pc' := 28) dX9_kindOf_27 rfl rfl rfl ?_
          refine T_bipush (pc' := 30) dX9_kindOf_28 rfl (by decide) rfl ?_
          refine T_icmp_gt (pc' := 37) dX9_kindOf_30 (by decide) (pf := 33) rfl (fun c9 => ?_) (fun c9 => ?_)
          · skip
            refine T_iconst (pc' := 38) dX9_kindOf_37 (by decide) rfl ?_
            exact T_wk (L' := [(3, 0)]) (by have q := HJ7; try simp only [if_neg c8] at q; try simp only [if_pos c9] at q; exact q) ⟨Or.inl rfl, trivial⟩
          · skip
            refine T_iconst (pc' := 34) dX9_kindOf_33 (by decide) rfl ?_
            refine T_goto (pc' := 38) dX9_kindOf_34 (by decide) ?_
            exact T_wk (L' := [(3, 0)]) (by have q := HJ7; try simp only [if_neg c8] at q; try simp only [if_neg c9] at q; exact q) ⟨Or.inl rfl, trivial⟩
      · skip
        refine T_iconst (pc' := 20) dX9_kindOf_19 (by decide) rfl ?_
        exact T_iret dX9_kindOf_20 rfl ⟨rfl, hG, (by rw [hQ]; exact ⟨(by unfold fX9_kindOf; simp only [if_neg c1, if_neg c2, if_neg c6]), rfl⟩)⟩
  · skip
    refine T_iconst (pc' := 6) dX9_kindOf_5 (by decide) rfl ?_
    exact T_iret dX9_kindOf_6 rfl ⟨rfl, hG, (by rw [hQ]; exact ⟨(by unfold fX9_kindOf; simp only [if_pos c1]), rfl⟩)⟩
def fX9_unasked  : Int :=
  fX9_fail
def fmX9_unasked (M : Mem) : Mem :=
  (fmX9_fail M 1 (M 3 2))
theorem gX9_unasked {h : Int} {M : Mem}   (hG : G h M) : G h (fmX9_unasked M) := by
  unfold fmX9_unasked
  exact (gX9_fail (h := h) (M := M) (v1 := 1) (v2 := (M 3 2)) hG)
set_option maxRecDepth 100000 in
theorem pX9_unasked {E : EV} {h : Int} {M : Mem}   : C2 E miX9_unasked 2 h [(2, 3)] M (fun r M' => r = some (0, fX9_unasked) ∧ M' = (fmX9_unasked M)) := by
  obtain ⟨Q, hQ⟩ : ∃ Q : Option MV → Mem → Prop, Q = (fun r M' => r = some (0, fX9_unasked) ∧ M' = (fmX9_unasked M)) := ⟨_, rfl⟩
  rw [← hQ]
  refine C2_of (L := [(2, 3)]) (by decide +kernel) (Nat.le_of_ble_eq_true rfl) rfl (fun hG => ?_)
  refine T_aload_n (i := 0) (pc' := 1) dX9_unasked_0 rfl rfl rfl ?_
  refine T_iconst (pc' := 2) dX9_unasked_1 (by decide) rfl ?_
  refine T_aload_n (i := 0) (pc' := 3) dX9_unasked_2 rfl rfl rfl ?_
  refine U_gf (v := (0, (M 3 2))) (k := 2) (kI := 2) (pc' := 6) dX9_unasked_3 rfl cl9 (by decide) rfl (by decide) flX9_19 rfl rfl (by decide) rfl rfl ?_
  refine T_callV (av := [(0, 1), (0, (M 3 2))]) (st := []) (d2 := 1) (nc2 := 0) (ns2 := 0) (pc' := 9) dX9_unasked_6 rfl mtX9_fail mvX9_fail mlX9_50 cl9 rfl rfl rfl (Nat.le_of_ble_eq_true rfl) (by decide) ⟨by decide, by decide⟩ rfl (pX9_fail (E := E) (h := h) (M := M) (v1 := 1) (v2 := (M 3 2)) hG) (kF (st2 := [(0, fX9_fail)]) rfl (fun hG1 => ?_))
  exact T_zret dX9_unasked_9 rfl (by repeat' (first | apply bi | exact Or.inl rfl | exact Or.inr rfl | apply fbX9_fail)) ⟨rfl, (gX9_fail (h := h) (M := M) (v1 := 1) (v2 := (M 3 2)) hG), (by rw [hQ]; exact ⟨rfl, rfl⟩)⟩
theorem frX9_unasked {M : Mem} {q : Int} (hq0 : q ≠ 3) : (fmX9_unasked M) q = M q := by
  unfold fmX9_unasked
  exact ((frX9_fail hq0).trans rfl)
theorem fbX9_unasked  : fX9_unasked = 0 ∨ fX9_unasked = 1 := by
  unfold fX9_unasked
  repeat' (first | apply bi | exact Or.inl rfl | exact Or.inr rfl | apply fbX9_fail)
def lX9_find_20 (p1 : Int) (s1 : Nat) : Nat → Int → Int → Int → Int → Mem → Int
  | 0, v2, v3, v4, v5, M => (-1)
  | k + 1, v2, v3, v4, v5, M => (if (sch s1 v5) = 32 then (if v4 = 0 then (lX9_find_20 p1 s1 k (wr32 (v2 + 1)) 0 1 (v5 + 1) M) else (if v3 = (fX9_letters M) then v2 else (lX9_find_20 p1 s1 k (wr32 (v2 + 1)) 0 1 (v5 + 1) M))) else (lX9_find_20 p1 s1 k v2 (wr32 (v3 + 1)) (if v4 = 0 then (0 : Int) else (if (fX8_byteAt M (wr32 ((M 3 2) + v3))) = (sch s1 v5) then (1 : Int) else 0)) (v5 + 1) M))
set_option maxRecDepth 100000 in
set_option maxHeartbeats 2000000 in
theorem qX9_find_20 {E : EV} {h : Int} {Q : Option MV → Mem → Prop} {p1 : Int} {s1 : Nat} (hss1 : s1 < 15) (hps1 : p1.toNat = 1000 + s1) : ∀ (k : Nat) (v2 v3 v4 v5 : Int) (M : Mem), 0 ≤ v5 → (((slen s1)) - v5).toNat = k → Q (some (0, (lX9_find_20 p1 s1 k v2 v3 v4 v5 M))) M → G h M → TG E miX9_find 6 h Q 20 [(2, 3), (2, p1), (0, v2), (0, v3), (0, v4), (0, v5), (3, 0)] [] M := by
  intro k
  induction k with
  | zero =>
    intro v2 v3 v4 v5 M hv0 hk hQ hG
    have hQ : Q (some (0, (-1))) M := hQ
    refine T_iload (i := 5) (pc' := 22) dX9_find_20 rfl rfl ?_
    refine T_aload_n (i := 1) (pc' := 23) dX9_find_22 rfl rfl rfl ?_
    refine U_slen (i := s1) (pc' := 26) dX9_find_23 rfl mlX9_54 hss1 hps1 (Nat.le_of_ble_eq_true rfl) (by decide) ⟨by decide, by decide⟩ rfl ?_
    refine T_rng (fun _ z9 _ => ?_)
    have hB : r32 (slen s1) := (ok_cons.mp z9).1
    unfold r32 at hB
    refine T_icmp_ge (pc' := 109) dX9_find_26 (by decide) (pf := 29) rfl (fun c1 => ?_) (fun c1 => ?_)
    · skip
      refine T_iconst (pc' := 110) dX9_find_109 (by decide) rfl ?_
      exact T_iret dX9_find_110 rfl ⟨rfl, hG, hQ⟩
    · exact absurd c1 (by omega)
  | succ k ih =>
    intro v2 v3 v4 v5 M hv0 hk hQ hG
    have hQ : Q (some (0, (if (sch s1 v5) = 32 then (if v4 = 0 then (lX9_find_20 p1 s1 k (wr32 (v2 + 1)) 0 1 (v5 + 1) M) else (if v3 = (fX9_letters M) then v2 else (lX9_find_20 p1 s1 k (wr32 (v2 + 1)) 0 1 (v5 + 1) M))) else (lX9_find_20 p1 s1 k v2 (wr32 (v3 + 1)) (if v4 = 0 then (0 : Int) else (if (fX8_byteAt M (wr32 ((M 3 2) + v3))) = (sch s1 v5) then (1 : Int) else 0)) (v5 + 1) M)))) M := hQ
    refine T_iload (i := 5) (pc' := 22) dX9_find_20 rfl rfl ?_
    refine T_aload_n (i := 1) (pc' := 23) dX9_find_22 rfl rfl rfl ?_
    refine U_slen (i := s1) (pc' := 26) dX9_find_23 rfl mlX9_54 hss1 hps1 (Nat.le_of_ble_eq_true rfl) (by decide) ⟨by decide, by decide⟩ rfl ?_
    refine T_rng (fun _ z9 _ => ?_)
    have hB : r32 (slen s1) := (ok_cons.mp z9).1
    unfold r32 at hB
    refine T_icmp_ge (pc' := 109) dX9_find_26 (by decide) (pf := 29) rfl (fun c1 => ?_) (fun c1 => ?_)
    · exact absurd c1 (by omega)
    · skip
      have hw : wr32 (v5 + 1) = v5 + 1 := wr32_id (by unfold r32; omega)
      refine T_aload_n (i := 1) (pc' := 30) dX9_find_29 rfl rfl rfl ?_
      refine T_iload (i := 5) (pc' := 32) dX9_find_30 rfl rfl ?_
      refine U_schr (i := s1) (pc' := 35) dX9_find_32 rfl mlX9_59 hss1 hps1 (by omega) (by omega) (Nat.le_of_ble_eq_true rfl) (by decide) ⟨by decide, by decide⟩ rfl ?_
      refine T_istore (i := 6) (L' := [(2, 3), (2, p1), (0, v2), (0, v3), (0, v4), (0, v5), (0, (sch s1 v5))]) (pc' := 37) dX9_find_35 (by decide) rfl rfl ?_
      refine T_iload (i := 6) (pc' := 39) dX9_find_37 rfl rfl ?_
      refine T_bipush (pc' := 41) dX9_find_39 rfl (by decide) rfl ?_
      refine T_icmp_ne (pc' := 70) dX9_find_41 (by decide) (pf := 44) rfl (fun c2 => ?_) (fun c2 => ?_)
      · skip
        refine T_iload (i := 4) (pc' := 72) dX9_find_70 rfl rfl ?_
        have HJ3 : T E miX9_find 6 126 0 0 (fun r S M' => S = S0 ∧ G h M' ∧ Q r M') 98 [(2, 3), (2, p1), (0, v2), (0, v3), (3, 0), (0, v5), (3, 0)] [(0, (if v4 = 0 then (0 : Int) else (if (fX8_byteAt M (wr32 ((M 3 2) + v3))) = (sch s1 v5) then (1 : Int) else 0)))] S0 M 0 0 := by
          refine T_istore (i := 4) (L' := [(2, 3), (2, p1), (0, v2), (0, v3), (0, (if v4 = 0 then (0 : Int) else (if (fX8_byteAt M (wr32 ((M 3 2) + v3))) = (sch s1 v5) then (1 : Int) else 0))), (0, v5), (3, 0)]) (pc' := 100) dX9_find_98 (by decide) rfl rfl ?_
          refine T_iinc (L' := [(2, 3), (2, p1), (0, v2), (0, (wr32 (v3 + 1))), (0, (if v4 = 0 then (0 : Int) else (if (fX8_byteAt M (wr32 ((M 3 2) + v3))) = (sch s1 v5) then (1 : Int) else 0))), (0, v5), (3, 0)]) (pc' := 103) dX9_find_100 rfl (by decide) rfl rfl ?_
          refine T_iinc (L' := [(2, 3), (2, p1), (0, v2), (0, (wr32 (v3 + 1))), (0, (if v4 = 0 then (0 : Int) else (if (fX8_byteAt M (wr32 ((M 3 2) + v3))) = (sch s1 v5) then (1 : Int) else 0))), (0, (wr32 (v5 + 1))), (3, 0)]) (pc' := 106) dX9_find_103 rfl (by decide) rfl rfl ?_
          refine T_goto (pc' := 20) dX9_find_106 (by decide) ?_
          rw [hw]
          exact T_wk (ih _ _ _ (v5 + 1) _ (by omega) (by omega) (by have q := hQ; try simp only [if_neg c2] at q; exact q) hG) ⟨Or.inr rfl, Or.inr rfl, Or.inr rfl, Or.inr rfl, Or.inr rfl, Or.inr rfl, Or.inl rfl, trivial⟩
        refine T_if_eq (pc' := 97) dX9_find_72 (by decide) (pf := 75) rfl (fun c4 => ?_) (fun c4 => ?_)
        · skip
          refine T_iconst (pc' := 98) dX9_find_97 (by decide) rfl ?_
          exact T_wk (L' := [(2, 3), (2, p1), (0, v2), (0, v3), (3, 0), (0, v5), (3, 0)]) (by have q := HJ3; try simp only [if_pos c4] at q; exact q) ⟨Or.inr rfl, Or.inr rfl, Or.inr rfl, Or.inr rfl, Or.inl rfl, Or.inr rfl, Or.inl rfl, trivial⟩
        · skip
          refine T_aload_n (i := 0) (pc' := 76) dX9_find_75 rfl rfl rfl ?_
          refine U_gr (q := 1) (k := 0) (kI := 0) (pc' := 79) dX9_find_76 rfl cl9 (by decide) rfl (by decide) flX9_9 rfl rfl rfl (G_at hG 10 rfl) (by decide) rfl ?_
          refine T_aload_n (i := 0) (pc' := 80) dX9_find_79 rfl rfl rfl ?_
          refine U_gf (v := (0, (M 3 2))) (k := 2) (kI := 2) (pc' := 83) dX9_find_80 rfl cl9 (by decide) rfl (by decide) flX9_19 rfl rfl (by decide) rfl rfl ?_
          refine T_iload_n (i := 3) (pc' := 84) dX9_find_83 rfl rfl rfl ?_
          refine T_iadd (pc' := 85) dX9_find_84 rfl ?_
          refine T_callV (av := [(0, (wr32 ((M 3 2) + v3)))]) (st := []) (d2 := 1) (nc2 := 0) (ns2 := 0) (pc' := 88) dX9_find_85 rfl mtX8_byteAt mvX8_byteAt mlX9_39 cl8 rfl rfl rfl (Nat.le_of_ble_eq_true rfl) (by decide) ⟨by decide, by decide⟩ rfl (pX8_byteAt (E := E) (h := h) (M := M) (v1 := (wr32 ((M 3 2) + v3))) hG) (kF (st2 := [(0, (fX8_byteAt M (wr32 ((M 3 2) + v3))))]) rfl (fun hG5 => ?_))
          refine T_iload (i := 6) (pc' := 90) dX9_find_88 rfl rfl ?_
          refine T_icmp_ne (pc' := 97) dX9_find_90 (by decide) (pf := 93) rfl (fun c6 => ?_) (fun c6 => ?_)
          · skip
            refine T_iconst (pc' := 98) dX9_find_97 (by decide) rfl ?_
            exact T_wk (L' := [(2, 3), (2, p1), (0, v2), (0, v3), (3, 0), (0, v5), (3, 0)]) (by have q := HJ3; try simp only [if_neg c4] at q; try simp only [if_neg c6] at q; exact q) ⟨Or.inr rfl, Or.inr rfl, Or.inr rfl, Or.inr rfl, Or.inl rfl, Or.inr rfl, Or.inl rfl, trivial⟩
          · skip
            refine T_iconst (pc' := 94) dX9_find_93 (by decide) rfl ?_
            refine T_goto (pc' := 98) dX9_find_94 (by decide) ?_
            exact T_wk (L' := [(2, 3), (2, p1), (0, v2), (0, v3), (3, 0), (0, v5), (3, 0)]) (by have q := HJ3; try simp only [if_neg c4] at q; try simp only [if_pos c6] at q; exact q) ⟨Or.inr rfl, Or.inr rfl, Or.inr rfl, Or.inr rfl, Or.inl rfl, Or.inr rfl, Or.inl rfl, trivial⟩
      · skip
        refine T_iload (i := 4) (pc' := 46) dX9_find_44 rfl rfl ?_
        refine T_if_eq (pc' := 59) dX9_find_46 (by decide) (pf := 49) rfl (fun c7 => ?_) (fun c7 => ?_)
        · skip
          refine T_iinc (L' := [(2, 3), (2, p1), (0, (wr32 (v2 + 1))), (0, v3), (0, v4), (0, v5), (0, (sch s1 v5))]) (pc' := 62) dX9_find_59 rfl (by decide) rfl rfl ?_
          refine T_iconst (pc' := 63) dX9_find_62 (by decide) rfl ?_
          refine T_istore_n (i := 3) (L' := [(2, 3), (2, p1), (0, (wr32 (v2 + 1))), (0, 0), (0, v4), (0, v5), (0, (sch s1 v5))]) (pc' := 64) dX9_find_63 rfl (by decide) rfl rfl ?_
          refine T_iconst (pc' := 65) dX9_find_64 (by decide) rfl ?_
          refine T_istore (i := 4) (L' := [(2, 3), (2, p1), (0, (wr32 (v2 + 1))), (0, 0), (0, 1), (0, v5), (0, (sch s1 v5))]) (pc' := 67) dX9_find_65 (by decide) rfl rfl ?_
          refine T_goto (pc' := 103) dX9_find_67 (by decide) ?_
          refine T_iinc (L' := [(2, 3), (2, p1), (0, (wr32 (v2 + 1))), (0, 0), (0, 1), (0, (wr32 (v5 + 1))), (0, (sch s1 v5))]) (pc' := 106) dX9_find_103 rfl (by decide) rfl rfl ?_
          refine T_goto (pc' := 20) dX9_find_106 (by decide) ?_
          rw [hw]
          exact T_wk (ih _ _ _ (v5 + 1) _ (by omega) (by omega) (by have q := hQ; try simp only [if_pos c2] at q; try simp only [if_pos c7] at q; exact q) hG) ⟨Or.inr rfl, Or.inr rfl, Or.inr rfl, Or.inr rfl, Or.inr rfl, Or.inr rfl, Or.inl rfl, trivial⟩
        · skip
          refine T_iload_n (i := 3) (pc' := 50) dX9_find_49 rfl rfl rfl ?_
          refine T_aload_n (i := 0) (pc' := 51) dX9_find_50 rfl rfl rfl ?_
          refine T_callV (av := []) (st := [(0, v3)]) (d2 := 1) (nc2 := 0) (ns2 := 0) (pc' := 54) dX9_find_51 rfl mtX9_letters mvX9_letters mlX9_63 cl9 rfl rfl rfl (Nat.le_of_ble_eq_true rfl) (by decide) ⟨by decide, by decide⟩ rfl (pX9_letters (E := E) (h := h) (M := M) hG) (kF (st2 := [(0, (fX9_letters M)), (0, v3)]) rfl (fun hG8 => ?_))
          refine T_icmp_ne (pc' := 59) dX9_find_54 (by decide) (pf := 57) rfl (fun c9 => ?_) (fun c9 => ?_)
          · skip
            refine T_iinc (L' := [(2, 3), (2, p1), (0, (wr32 (v2 + 1))), (0, v3), (0, v4), (0, v5), (0, (sch s1 v5))]) (pc' := 62) dX9_find_59 rfl (by decide) rfl rfl ?_
            refine T_iconst (pc' := 63) dX9_find_62 (by decide) rfl ?_
            refine T_istore_n (i := 3) (L' := [(2, 3), (2, p1), (0, (wr32 (v2 + 1))), (0, 0), (0, v4), (0, v5), (0, (sch s1 v5))]) (pc' := 64) dX9_find_63 rfl (by decide) rfl rfl ?_
            refine T_iconst (pc' := 65) dX9_find_64 (by decide) rfl ?_
            refine T_istore (i := 4) (L' := [(2, 3), (2, p1), (0, (wr32 (v2 + 1))), (0, 0), (0, 1), (0, v5), (0, (sch s1 v5))]) (pc' := 67) dX9_find_65 (by decide) rfl rfl ?_
            refine T_goto (pc' := 103) dX9_find_67 (by decide) ?_
            refine T_iinc (L' := [(2, 3), (2, p1), (0, (wr32 (v2 + 1))), (0, 0), (0, 1), (0, (wr32 (v5 + 1))), (0, (sch s1 v5))]) (pc' := 106) dX9_find_103 rfl (by decide) rfl rfl ?_
            refine T_goto (pc' := 20) dX9_find_106 (by decide) ?_
            rw [hw]
            exact T_wk (ih _ _ _ (v5 + 1) _ (by omega) (by omega) (by have q := hQ; try simp only [if_pos c2] at q; try simp only [if_neg c7] at q; try simp only [if_neg c9] at q; exact q) hG) ⟨Or.inr rfl, Or.inr rfl, Or.inr rfl, Or.inr rfl, Or.inr rfl, Or.inr rfl, Or.inl rfl, trivial⟩
          · skip
            refine T_iload_n (i := 2) (pc' := 58) dX9_find_57 rfl rfl rfl ?_
            exact T_iret dX9_find_58 rfl ⟨rfl, hG, (by have q := hQ; try simp only [if_pos c2] at q; try simp only [if_neg c7] at q; try simp only [if_pos c9] at q; exact q)⟩
def fX9_find (M : Mem) (p1 : Int) (s1 : Nat) : Int :=
  (if (M 3 1) = 1 then (lX9_find_20 p1 s1 ((((slen s1)) : Int) - 0).toNat 0 0 1 0 M) else (-1))
set_option maxRecDepth 100000 in
theorem pX9_find {E : EV} {h : Int} {M : Mem} {p1 : Int} {s1 : Nat} (hss1 : s1 < 15) (hps1 : p1.toNat = 1000 + s1) : C2 E miX9_find 6 h [(2, 3), (2, p1)] M (fun r M' => r = some (0, (fX9_find M p1 s1)) ∧ M' = M) := by
  obtain ⟨Q, hQ0⟩ : ∃ Q : Option MV → Mem → Prop, Q = (fun r M' => r = some (0, (fX9_find M p1 s1)) ∧ M' = M) := ⟨_, rfl⟩
  rw [← hQ0]
  have hQ : Q (some (0, (if (M 3 1) = 1 then (lX9_find_20 p1 s1 ((((slen s1)) : Int) - 0).toNat 0 0 1 0 M) else (-1)))) M := by rw [hQ0]; exact ⟨rfl, rfl⟩
  refine C2_of (L := [(2, 3), (2, p1), (3, 0), (3, 0), (3, 0), (3, 0), (3, 0)]) (by decide +kernel) (Nat.le_of_ble_eq_true rfl) rfl (fun hG => ?_)
  refine T_aload_n (i := 0) (pc' := 1) dX9_find_0 rfl rfl rfl ?_
  refine U_gf (v := (0, (M 3 1))) (k := 1) (kI := 1) (pc' := 4) dX9_find_1 rfl cl9 (by decide) rfl (by decide) flX9_15 rfl rfl (by decide) rfl rfl ?_
  refine T_iconst (pc' := 5) dX9_find_4 (by decide) rfl ?_
  refine T_icmp_eq (pc' := 10) dX9_find_5 (by decide) (pf := 8) rfl (fun c1 => ?_) (fun c1 => ?_)
  · skip
    refine T_iconst (pc' := 11) dX9_find_10 (by decide) rfl ?_
    refine T_istore_n (i := 2) (L' := [(2, 3), (2, p1), (0, 0), (3, 0), (3, 0), (3, 0), (3, 0)]) (pc' := 12) dX9_find_11 rfl (by decide) rfl rfl ?_
    refine T_iconst (pc' := 13) dX9_find_12 (by decide) rfl ?_
    refine T_istore_n (i := 3) (L' := [(2, 3), (2, p1), (0, 0), (0, 0), (3, 0), (3, 0), (3, 0)]) (pc' := 14) dX9_find_13 rfl (by decide) rfl rfl ?_
    refine T_iconst (pc' := 15) dX9_find_14 (by decide) rfl ?_
    refine T_istore (i := 4) (L' := [(2, 3), (2, p1), (0, 0), (0, 0), (0, 1), (3, 0), (3, 0)]) (pc' := 17) dX9_find_15 (by decide) rfl rfl ?_
    refine T_iconst (pc' := 18) dX9_find_17 (by decide) rfl ?_
    refine T_istore (i := 5) (L' := [(2, 3), (2, p1), (0, 0), (0, 0), (0, 1), (0, 0), (3, 0)]) (pc' := 20) dX9_find_18 (by decide) rfl rfl ?_
    exact T_wk (qX9_find_20 hss1 hps1 _ 0 0 1 0 _ (by first | decide | omega) rfl (by have q := hQ; try simp only [if_pos c1] at q; exact q) hG) ⟨Or.inr rfl, Or.inr rfl, Or.inr rfl, Or.inr rfl, Or.inr rfl, Or.inr rfl, Or.inl rfl, trivial⟩
  · skip
    refine T_iconst (pc' := 9) dX9_find_8 (by decide) rfl ?_
    exact T_iret dX9_find_9 rfl ⟨rfl, hG, (by have q := hQ; try simp only [if_neg c1] at q; exact q)⟩
def fX9_byteIn (M : Mem) (v1 : Int) : Int :=
  (fX8_byteAt M (wr32 ((M 3 2) + v1)))
set_option maxRecDepth 100000 in
theorem pX9_byteIn {E : EV} {h : Int} {M : Mem} {v1 : Int}  : C2 E miX9_byteIn 2 h [(2, 3), (0, v1)] M (fun r M' => r = some (0, (fX9_byteIn M v1)) ∧ M' = M) := by
  obtain ⟨Q, hQ⟩ : ∃ Q : Option MV → Mem → Prop, Q = (fun r M' => r = some (0, (fX9_byteIn M v1)) ∧ M' = M) := ⟨_, rfl⟩
  rw [← hQ]
  refine C2_of (L := [(2, 3), (0, v1)]) (by decide +kernel) (Nat.le_of_ble_eq_true rfl) rfl (fun hG => ?_)
  refine T_aload_n (i := 0) (pc' := 1) dX9_byteIn_0 rfl rfl rfl ?_
  refine U_gr (q := 1) (k := 0) (kI := 0) (pc' := 4) dX9_byteIn_1 rfl cl9 (by decide) rfl (by decide) flX9_9 rfl rfl rfl (G_at hG 10 rfl) (by decide) rfl ?_
  refine T_aload_n (i := 0) (pc' := 5) dX9_byteIn_4 rfl rfl rfl ?_
  refine U_gf (v := (0, (M 3 2))) (k := 2) (kI := 2) (pc' := 8) dX9_byteIn_5 rfl cl9 (by decide) rfl (by decide) flX9_19 rfl rfl (by decide) rfl rfl ?_
  refine T_iload_n (i := 1) (pc' := 9) dX9_byteIn_8 rfl rfl rfl ?_
  refine T_iadd (pc' := 10) dX9_byteIn_9 rfl ?_
  refine T_callV (av := [(0, (wr32 ((M 3 2) + v1)))]) (st := []) (d2 := 1) (nc2 := 0) (ns2 := 0) (pc' := 13) dX9_byteIn_10 rfl mtX8_byteAt mvX8_byteAt mlX9_39 cl8 rfl rfl rfl (Nat.le_of_ble_eq_true rfl) (by decide) ⟨by decide, by decide⟩ rfl (pX8_byteAt (E := E) (h := h) (M := M) (v1 := (wr32 ((M 3 2) + v1))) hG) (kF (st2 := [(0, (fX8_byteAt M (wr32 ((M 3 2) + v1))))]) rfl (fun hG1 => ?_))
  exact T_iret dX9_byteIn_13 rfl ⟨rfl, hG, (by rw [hQ]; exact ⟨rfl, rfl⟩)⟩
def fX9_isSign (M : Mem) (v1 : Int) : Int :=
  (if (M 3 1) = 3 then (if (fX8_byteAt M (M 3 2)) = v1 then (1 : Int) else 0) else 0)
set_option maxRecDepth 100000 in
theorem pX9_isSign {E : EV} {h : Int} {M : Mem} {v1 : Int}  : C2 E miX9_isSign 2 h [(2, 3), (0, v1)] M (fun r M' => r = some (0, (fX9_isSign M v1)) ∧ M' = M) := by
  obtain ⟨Q, hQ⟩ : ∃ Q : Option MV → Mem → Prop, Q = (fun r M' => r = some (0, (fX9_isSign M v1)) ∧ M' = M) := ⟨_, rfl⟩
  rw [← hQ]
  refine C2_of (L := [(2, 3), (0, v1)]) (by decide +kernel) (Nat.le_of_ble_eq_true rfl) rfl (fun hG => ?_)
  refine T_aload_n (i := 0) (pc' := 1) dX9_isSign_0 rfl rfl rfl ?_
  refine U_gf (v := (0, (M 3 1))) (k := 1) (kI := 1) (pc' := 4) dX9_isSign_1 rfl cl9 (by decide) rfl (by decide) flX9_15 rfl rfl (by decide) rfl rfl ?_
  refine T_iconst (pc' := 5) dX9_isSign_4 (by decide) rfl ?_
  have HJ1 : T E miX9_isSign 2 126 0 0 (fun r S M' => S = S0 ∧ G h M' ∧ Q r M') 28 [(3, 0), (3, 0)] [(0, (if (M 3 1) = 3 then (if (fX8_byteAt M (M 3 2)) = v1 then (1 : Int) else 0) else 0))] S0 M 0 0 := by
    exact T_zret dX9_isSign_28 rfl (by repeat' (first | apply bi | exact Or.inl rfl | exact Or.inr rfl)) ⟨rfl, hG, (by rw [hQ]; exact ⟨rfl, rfl⟩)⟩
  refine T_icmp_ne (pc' := 27) dX9_isSign_5 (by decide) (pf := 8) rfl (fun c2 => ?_) (fun c2 => ?_)
  · skip
    refine T_iconst (pc' := 28) dX9_isSign_27 (by decide) rfl ?_
    exact T_wk (L' := [(3, 0), (3, 0)]) (by have q := HJ1; try simp only [if_neg c2] at q; exact q) ⟨Or.inl rfl, Or.inl rfl, trivial⟩
  · skip
    refine T_aload_n (i := 0) (pc' := 9) dX9_isSign_8 rfl rfl rfl ?_
    refine U_gr (q := 1) (k := 0) (kI := 0) (pc' := 12) dX9_isSign_9 rfl cl9 (by decide) rfl (by decide) flX9_9 rfl rfl rfl (G_at hG 10 rfl) (by decide) rfl ?_
    refine T_aload_n (i := 0) (pc' := 13) dX9_isSign_12 rfl rfl rfl ?_
    refine U_gf (v := (0, (M 3 2))) (k := 2) (kI := 2) (pc' := 16) dX9_isSign_13 rfl cl9 (by decide) rfl (by decide) flX9_19 rfl rfl (by decide) rfl rfl ?_
    refine T_callV (av := [(0, (M 3 2))]) (st := []) (d2 := 1) (nc2 := 0) (ns2 := 0) (pc' := 19) dX9_isSign_16 rfl mtX8_byteAt mvX8_byteAt mlX9_39 cl8 rfl rfl rfl (Nat.le_of_ble_eq_true rfl) (by decide) ⟨by decide, by decide⟩ rfl (pX8_byteAt (E := E) (h := h) (M := M) (v1 := (M 3 2)) hG) (kF (st2 := [(0, (fX8_byteAt M (M 3 2)))]) rfl (fun hG3 => ?_))
    refine T_iload_n (i := 1) (pc' := 20) dX9_isSign_19 rfl rfl rfl ?_
    refine T_icmp_ne (pc' := 27) dX9_isSign_20 (by decide) (pf := 23) rfl (fun c4 => ?_) (fun c4 => ?_)
    · skip
      refine T_iconst (pc' := 28) dX9_isSign_27 (by decide) rfl ?_
      exact T_wk (L' := [(3, 0), (3, 0)]) (by have q := HJ1; try simp only [if_pos c2] at q; try simp only [if_neg c4] at q; exact q) ⟨Or.inl rfl, Or.inl rfl, trivial⟩
    · skip
      refine T_iconst (pc' := 24) dX9_isSign_23 (by decide) rfl ?_
      refine T_goto (pc' := 28) dX9_isSign_24 (by decide) ?_
      exact T_wk (L' := [(3, 0), (3, 0)]) (by have q := HJ1; try simp only [if_pos c2] at q; try simp only [if_pos c4] at q; exact q) ⟨Or.inl rfl, Or.inl rfl, trivial⟩
theorem fbX9_isSign (M : Mem) (v1 : Int) : (fX9_isSign M v1) = 0 ∨ (fX9_isSign M v1) = 1 := by
  unfold fX9_isSign
  repeat' (first | apply bi | exact Or.inl rfl | exact Or.inr rfl)
def fX2_wayOf (v0 : Int) : Int :=
  (if v0 = 101 then 1 else (if v0 = 110 then 0 else (if v0 = 115 then 2 else (if v0 = 119 then 3 else (if v0 = 120 then 4 else (-1))))))
set_option maxRecDepth 100000 in
theorem pX2_wayOf {E : EV} {h : Int} {M : Mem} {v0 : Int}  : C2 E miX2_wayOf 1 h [(0, v0)] M (fun r M' => r = some (0, (fX2_wayOf v0)) ∧ M' = M) := by
  obtain ⟨Q, hQ⟩ : ∃ Q : Option MV → Mem → Prop, Q = (fun r M' => r = some (0, (fX2_wayOf v0)) ∧ M' = M) := ⟨_, rfl⟩
  rw [← hQ]
  refine C2_of (L := [(0, v0)]) (by decide +kernel) (Nat.le_of_ble_eq_true rfl) rfl (fun hG => ?_)
  refine T_iload_n (i := 0) (pc' := 1) dX2_wayOf_0 rfl rfl rfl ?_
  by_cases c1 : v0 = 101
  · skip
    refine T_lookup (pc' := 54) dX2_wayOf_1 (by decide) (by rw [c1] <;> rfl) (by decide) ?_
    refine T_iconst (pc' := 55) dX2_wayOf_54 (by decide) rfl ?_
    exact T_iret dX2_wayOf_55 rfl ⟨rfl, hG, (by rw [hQ]; exact ⟨(by unfold fX2_wayOf; simp only [if_pos c1]), rfl⟩)⟩
  · skip
    by_cases c2 : v0 = 110
    · skip
      refine T_lookup (pc' := 52) dX2_wayOf_1 (by decide) (by rw [c2] <;> rfl) (by decide) ?_
      refine T_iconst (pc' := 53) dX2_wayOf_52 (by decide) rfl ?_
      exact T_iret dX2_wayOf_53 rfl ⟨rfl, hG, (by rw [hQ]; exact ⟨(by unfold fX2_wayOf; simp only [if_neg c1, if_pos c2]), rfl⟩)⟩
    · skip
      by_cases c3 : v0 = 115
      · skip
        refine T_lookup (pc' := 56) dX2_wayOf_1 (by decide) (by rw [c3] <;> rfl) (by decide) ?_
        refine T_iconst (pc' := 57) dX2_wayOf_56 (by decide) rfl ?_
        exact T_iret dX2_wayOf_57 rfl ⟨rfl, hG, (by rw [hQ]; exact ⟨(by unfold fX2_wayOf; simp only [if_neg c1, if_neg c2, if_pos c3]), rfl⟩)⟩
      · skip
        by_cases c4 : v0 = 119
        · skip
          refine T_lookup (pc' := 58) dX2_wayOf_1 (by decide) (by rw [c4] <;> rfl) (by decide) ?_
          refine T_iconst (pc' := 59) dX2_wayOf_58 (by decide) rfl ?_
          exact T_iret dX2_wayOf_59 rfl ⟨rfl, hG, (by rw [hQ]; exact ⟨(by unfold fX2_wayOf; simp only [if_neg c1, if_neg c2, if_neg c3, if_pos c4]), rfl⟩)⟩
        · skip
          by_cases c5 : v0 = 120
          · skip
            refine T_lookup (pc' := 60) dX2_wayOf_1 (by decide) (by rw [c5] <;> rfl) (by decide) ?_
            refine T_iconst (pc' := 61) dX2_wayOf_60 (by decide) rfl ?_
            exact T_iret dX2_wayOf_61 rfl ⟨rfl, hG, (by rw [hQ]; exact ⟨(by unfold fX2_wayOf; simp only [if_neg c1, if_neg c2, if_neg c3, if_neg c4, if_pos c5]), rfl⟩)⟩
          · skip
            refine T_lookup (off := 61) (pc' := 62) dX2_wayOf_1 (by decide) (by show (if 101 = v0 then 53 else if 110 = v0 then 51 else if 115 = v0 then 55 else if 119 = v0 then 57 else if 120 = v0 then 59 else 61) = 61; rw [if_neg (fun z => c1 z.symm), if_neg (fun z => c2 z.symm), if_neg (fun z => c3 z.symm), if_neg (fun z => c4 z.symm), if_neg (fun z => c5 z.symm)]) (by decide) ?_
            refine T_iconst (pc' := 63) dX2_wayOf_62 (by decide) rfl ?_
            exact T_iret dX2_wayOf_63 rfl ⟨rfl, hG, (by rw [hQ]; exact ⟨(by unfold fX2_wayOf; simp only [if_neg c1, if_neg c2, if_neg c3, if_neg c4, if_neg c5]), rfl⟩)⟩
def fX11_hasBit (v0 : Int) (v1 : Int) : Int :=
  (if v1 < 0 then (0 : Int) else (if 31 ≤ v1 then (0 : Int) else (if (m_and (m_shr v0 v1) 1) = 1 then (1 : Int) else 0)))
set_option maxRecDepth 100000 in
theorem pX11_hasBit {E : EV} {h : Int} {M : Mem} {v0 : Int} {v1 : Int}  : C2 E miX11_hasBit 1 h [(0, v0), (0, v1)] M (fun r M' => r = some (0, (fX11_hasBit v0 v1)) ∧ M' = M) := by
  obtain ⟨Q, hQ⟩ : ∃ Q : Option MV → Mem → Prop, Q = (fun r M' => r = some (0, (fX11_hasBit v0 v1)) ∧ M' = M) := ⟨_, rfl⟩
  rw [← hQ]
  refine C2_of (L := [(0, v0), (0, v1)]) (by decide +kernel) (Nat.le_of_ble_eq_true rfl) rfl (fun hG => ?_)
  refine T_iload_n (i := 1) (pc' := 1) dX11_hasBit_0 rfl rfl rfl ?_
  have HJ1 : T E miX11_hasBit 1 126 0 0 (fun r S M' => S = S0 ∧ G h M' ∧ Q r M') 24 [(3, 0), (3, 0)] [(0, (if v1 < 0 then (0 : Int) else (if 31 ≤ v1 then (0 : Int) else (if (m_and (m_shr v0 v1) 1) = 1 then (1 : Int) else 0))))] S0 M 0 0 := by
    exact T_zret dX11_hasBit_24 rfl (by repeat' (first | apply bi | exact Or.inl rfl | exact Or.inr rfl)) ⟨rfl, hG, (by rw [hQ]; exact ⟨rfl, rfl⟩)⟩
  refine T_if_lt (pc' := 23) dX11_hasBit_1 (by decide) (pf := 4) rfl (fun c2 => ?_) (fun c2 => ?_)
  · skip
    refine T_iconst (pc' := 24) dX11_hasBit_23 (by decide) rfl ?_
    exact T_wk (L' := [(3, 0), (3, 0)]) (by have q := HJ1; try simp only [if_pos c2] at q; exact q) ⟨Or.inl rfl, Or.inl rfl, trivial⟩
  · skip
    refine T_iload_n (i := 1) (pc' := 5) dX11_hasBit_4 rfl rfl rfl ?_
    refine T_bipush (pc' := 7) dX11_hasBit_5 rfl (by decide) rfl ?_
    refine T_icmp_ge (pc' := 23) dX11_hasBit_7 (by decide) (pf := 10) rfl (fun c3 => ?_) (fun c3 => ?_)
    · skip
      refine T_iconst (pc' := 24) dX11_hasBit_23 (by decide) rfl ?_
      exact T_wk (L' := [(3, 0), (3, 0)]) (by have q := HJ1; try simp only [if_neg c2] at q; try simp only [if_pos c3] at q; exact q) ⟨Or.inl rfl, Or.inl rfl, trivial⟩
    · skip
      refine T_iload_n (i := 0) (pc' := 11) dX11_hasBit_10 rfl rfl rfl ?_
      refine T_iload_n (i := 1) (pc' := 12) dX11_hasBit_11 rfl rfl rfl ?_
      refine T_ishr (pc' := 13) dX11_hasBit_12 rfl ?_
      refine T_iconst (pc' := 14) dX11_hasBit_13 (by decide) rfl ?_
      refine T_iand (pc' := 15) dX11_hasBit_14 rfl ?_
      refine T_iconst (pc' := 16) dX11_hasBit_15 (by decide) rfl ?_
      refine T_icmp_ne (pc' := 23) dX11_hasBit_16 (by decide) (pf := 19) rfl (fun c4 => ?_) (fun c4 => ?_)
      · skip
        refine T_iconst (pc' := 24) dX11_hasBit_23 (by decide) rfl ?_
        exact T_wk (L' := [(3, 0), (3, 0)]) (by have q := HJ1; try simp only [if_neg c2] at q; try simp only [if_neg c3] at q; try simp only [if_neg c4] at q; exact q) ⟨Or.inl rfl, Or.inl rfl, trivial⟩
      · skip
        refine T_iconst (pc' := 20) dX11_hasBit_19 (by decide) rfl ?_
        refine T_goto (pc' := 24) dX11_hasBit_20 (by decide) ?_
        exact T_wk (L' := [(3, 0), (3, 0)]) (by have q := HJ1; try simp only [if_neg c2] at q; try simp only [if_neg c3] at q; try simp only [if_pos c4] at q; exact q) ⟨Or.inl rfl, Or.inl rfl, trivial⟩
theorem fbX11_hasBit (v0 : Int) (v1 : Int) : (fX11_hasBit v0 v1) = 0 ∨ (fX11_hasBit v0 v1) = 1 := by
  unfold fX11_hasBit
  repeat' (first | apply bi | exact Or.inl rfl | exact Or.inr rfl)
def fX3_doingOf (M : Mem) (v1 : Int) (v2 : Int) : Int :=
  (if v1 < 0 then 0 else (if (fX11_hasBit (M 16 8) v1) = 0 then 0 else (if (fX11_get M 19 9 v1) = (-1) then 1 else (if (fX11_get M 19 9 v1) ≤ v2 then (if (wr32 ((fX11_get M 19 9 v1) + (M 16 9))) ≤ v2 then (if (fX11_get M 21 9 v1) = (-1) then (3 : Int) else (if (fX11_get M 21 9 v1) ≤ v2 then (4 : Int) else 3)) else 2) else 1))))
set_option maxRecDepth 100000 in
theorem pX3_doingOf {E : EV} {h : Int} {M : Mem} {v1 : Int} {v2 : Int}  : C2 E miX3_doingOf 2 h [(2, 16), (0, v1), (0, v2)] M (fun r M' => r = some (0, (fX3_doingOf M v1 v2)) ∧ M' = M) := by
  obtain ⟨Q, hQ⟩ : ∃ Q : Option MV → Mem → Prop, Q = (fun r M' => r = some (0, (fX3_doingOf M v1 v2)) ∧ M' = M) := ⟨_, rfl⟩
  rw [← hQ]
  refine C2_of (L := [(2, 16), (0, v1), (0, v2), (3, 0), (3, 0)]) (by decide +kernel) (Nat.le_of_ble_eq_true rfl) rfl (fun hG => ?_)
  refine T_iload_n (i := 1) (pc' := 1) dX3_doingOf_0 rfl rfl rfl ?_
  refine T_if_lt (pc' := 15) dX3_doingOf_1 (by decide) (pf := 4) rfl (fun c1 => ?_) (fun c1 => ?_)
  · skip
    refine T_iconst (pc' := 16) dX3_doingOf_15 (by decide) rfl ?_
    exact T_iret dX3_doingOf_16 rfl ⟨rfl, hG, (by rw [hQ]; exact ⟨(by unfold fX3_doingOf; simp only [if_pos c1]), rfl⟩)⟩
  · skip
    refine T_aload_n (i := 0) (pc' := 5) dX3_doingOf_4 rfl rfl rfl ?_
    refine U_gf (v := (0, (M 16 8))) (k := 8) (kI := 8) (pc' := 8) dX3_doingOf_5 rfl cl3 (by decide) rfl (by decide) flX3_36 rfl rfl (by decide) rfl rfl ?_
    refine T_iload_n (i := 1) (pc' := 9) dX3_doingOf_8 rfl rfl rfl ?_
    refine T_callSN (av := [(0, (M 16 8)), (0, v1)]) (st := []) (d2 := 1) (nc2 := 0) (ns2 := 0) (pc' := 12) dX3_doingOf_9 rfl mtX11_hasBit mvX11_hasBit mlX3_76 rfl rfl (Nat.le_of_ble_eq_true rfl) (by decide) ⟨by decide, by decide⟩ rfl (pX11_hasBit (E := E) (h := h) (M := M) (v0 := (M 16 8)) (v1 := v1) hG) (kF (st2 := [(0, (fX11_hasBit (M 16 8) v1))]) rfl (fun hG2 => ?_))
    refine T_if_ne (pc' := 17) dX3_doingOf_12 (by decide) (pf := 15) rfl (fun c3 => ?_) (fun c3 => ?_)
    · skip
      refine T_aload_n (i := 0) (pc' := 18) dX3_doingOf_17 rfl rfl rfl ?_
      refine U_gr (q := 19) (k := 2) (kI := 2) (pc' := 21) dX3_doingOf_18 rfl cl3 (by decide) rfl (by decide) flX3_18 rfl rfl rfl (G_at hG 24 rfl) (by decide) rfl ?_
      refine T_iload_n (i := 1) (pc' := 22) dX3_doingOf_21 rfl rfl rfl ?_
      refine T_callSN (av := [(2, 19), (0, v1)]) (st := []) (d2 := 1) (nc2 := 0) (ns2 := 0) (pc' := 25) dX3_doingOf_22 rfl mtX11_get mvX11_get mlX3_67 rfl rfl (Nat.le_of_ble_eq_true rfl) (by decide) ⟨by decide, by decide⟩ rfl (pX11_get (E := E) (h := h) (M := M) (p0 := 19) (np0 := 9) (v1 := v1) (by decide) rfl (by decide) hG) (kF (st2 := [(0, (fX11_get M 19 9 v1))]) rfl (fun hG4 => ?_))
      refine T_istore_n (i := 3) (L' := [(2, 16), (0, v1), (0, v2), (0, (fX11_get M 19 9 v1)), (3, 0)]) (pc' := 26) dX3_doingOf_25 rfl (by decide) rfl rfl ?_
      refine T_iload_n (i := 3) (pc' := 27) dX3_doingOf_26 rfl rfl rfl ?_
      refine T_iconst (pc' := 28) dX3_doingOf_27 (by decide) rfl ?_
      refine T_icmp_eq (pc' := 36) dX3_doingOf_28 (by decide) (pf := 31) rfl (fun c5 => ?_) (fun c5 => ?_)
      · skip
        refine T_iconst (pc' := 37) dX3_doingOf_36 (by decide) rfl ?_
        exact T_iret dX3_doingOf_37 rfl ⟨rfl, hG, (by rw [hQ]; exact ⟨(by unfold fX3_doingOf; simp only [if_neg c1, if_neg c3, if_pos c5]), rfl⟩)⟩
      · skip
        refine T_iload_n (i := 2) (pc' := 32) dX3_doingOf_31 rfl rfl rfl ?_
        refine T_iload_n (i := 3) (pc' := 33) dX3_doingOf_32 rfl rfl rfl ?_
        refine T_icmp_ge (pc' := 38) dX3_doingOf_33 (by decide) (pf := 36) rfl (fun c6 => ?_) (fun c6 => ?_)
        · skip
          refine T_iload_n (i := 2) (pc' := 39) dX3_doingOf_38 rfl rfl rfl ?_
          refine T_iload_n (i := 3) (pc' := 40) dX3_doingOf_39 rfl rfl rfl ?_
          refine T_aload_n (i := 0) (pc' := 41) dX3_doingOf_40 rfl rfl rfl ?_
          refine U_gf (v := (0, (M 16 9))) (k := 9) (kI := 9) (pc' := 44) dX3_doingOf_41 rfl cl3 (by decide) rfl (by decide) flX3_40 rfl rfl (by decide) rfl rfl ?_
          refine T_iadd (pc' := 45) dX3_doingOf_44 rfl ?_
          refine T_icmp_ge (pc' := 50) dX3_doingOf_45 (by decide) (pf := 48) rfl (fun c7 => ?_) (fun c7 => ?_)
          · skip
            refine T_aload_n (i := 0) (pc' := 51) dX3_doingOf_50 rfl rfl rfl ?_
            refine U_gr (q := 21) (k := 4) (kI := 4) (pc' := 54) dX3_doingOf_51 rfl cl3 (by decide) rfl (by decide) flX3_24 rfl rfl rfl (G_at hG 26 rfl) (by decide) rfl ?_
            refine T_iload_n (i := 1) (pc' := 55) dX3_doingOf_54 rfl rfl rfl ?_
            refine T_callSN (av := [(2, 21), (0, v1)]) (st := []) (d2 := 1) (nc2 := 0) (ns2 := 0) (pc' := 58) dX3_doingOf_55 rfl mtX11_get mvX11_get mlX3_67 rfl rfl (Nat.le_of_ble_eq_true rfl) (by decide) ⟨by decide, by decide⟩ rfl (pX11_get (E := E) (h := h) (M := M) (p0 := 21) (np0 := 9) (v1 := v1) (by decide) rfl (by decide) hG) (kF (st2 := [(0, (fX11_get M 21 9 v1))]) rfl (fun hG8 => ?_))
            refine T_istore (i := 4) (L' := [(2, 16), (0, v1), (0, v2), (0, (fX11_get M 19 9 v1)), (0, (fX11_get M 21 9 v1))]) (pc' := 60) dX3_doingOf_58 (by decide) rfl rfl ?_
            refine T_iload (i := 4) (pc' := 62) dX3_doingOf_60 rfl rfl ?_
            refine T_iconst (pc' := 63) dX3_doingOf_62 (by decide) rfl ?_
            have HJ9 : T E miX3_doingOf 2 126 0 0 (fun r S M' => S = S0 ∧ G h M' ∧ Q r M') 77 [(3, 0), (3, 0), (3, 0), (3, 0), (3, 0)] [(0, (if (fX11_get M 21 9 v1) = (-1) then (3 : Int) else (if (fX11_get M 21 9 v1) ≤ v2 then (4 : Int) else 3)))] S0 M 0 0 := by
              exact T_iret dX3_doingOf_77 rfl ⟨rfl, hG, (by rw [hQ]; exact ⟨(by unfold fX3_doingOf; simp only [if_neg c1, if_neg c3, if_neg c5, if_pos c6, if_pos c7]), rfl⟩)⟩
            refine T_icmp_eq (pc' := 72) dX3_doingOf_63 (by decide) (pf := 66) rfl (fun c10 => ?_) (fun c10 => ?_)
            · skip
              refine T_iconst (pc' := 73) dX3_doingOf_72 (by decide) rfl ?_
              refine T_goto (pc' := 77) dX3_doingOf_73 (by decide) ?_
              exact T_wk (L' := [(3, 0), (3, 0), (3, 0), (3, 0), (3, 0)]) (by have q := HJ9; try simp only [if_pos c10] at q; exact q) ⟨Or.inl rfl, Or.inl rfl, Or.inl rfl, Or.inl rfl, Or.inl rfl, trivial⟩
            · skip
              refine T_iload_n (i := 2) (pc' := 67) dX3_doingOf_66 rfl rfl rfl ?_
              refine T_iload (i := 4) (pc' := 69) dX3_doingOf_67 rfl rfl ?_
              refine T_icmp_ge (pc' := 76) dX3_doingOf_69 (by decide) (pf := 72) rfl (fun c11 => ?_) (fun c11 => ?_)
              · skip
                refine T_iconst (pc' := 77) dX3_doingOf_76 (by decide) rfl ?_
                exact T_wk (L' := [(3, 0), (3, 0), (3, 0), (3, 0), (3, 0)]) (by have q := HJ9; try simp only [if_neg c10] at q; try simp only [if_pos c11] at q; exact q) ⟨Or.inl rfl, Or.inl rfl, Or.inl rfl, Or.inl rfl, Or.inl rfl, trivial⟩
              · skip
                refine T_iconst (pc' := 73) dX3_doingOf_72 (by decide) rfl ?_
                refine T_goto (pc' := 77) dX3_doingOf_73 (by decide) ?_
                exact T_wk (L' := [(3, 0), (3, 0), (3, 0), (3, 0), (3, 0)]) (by have q := HJ9; try simp only [if_neg c10] at q; try simp only [if_neg c11] at q; exact q) ⟨Or.inl rfl, Or.inl rfl, Or.inl rfl, Or.inl rfl, Or.inl rfl, trivial⟩
          · skip
            refine T_iconst (pc' := 49) dX3_doingOf_48 (by decide) rfl ?_
            exact T_iret dX3_doingOf_49 rfl ⟨rfl, hG, (by rw [hQ]; exact ⟨(by unfold fX3_doingOf; simp only [if_neg c1, if_neg c3, if_neg c5, if_pos c6, if_neg c7]), rfl⟩)⟩
        · skip
          refine T_iconst (pc' := 37) dX3_doingOf_36 (by decide) rfl ?_
          exact T_iret dX3_doingOf_37 rfl ⟨rfl, hG, (by rw [hQ]; exact ⟨(by unfold fX3_doingOf; simp only [if_neg c1, if_neg c3, if_neg c5, if_neg c6]), rfl⟩)⟩
    · skip
      refine T_iconst (pc' := 16) dX3_doingOf_15 (by decide) rfl ?_
      exact T_iret dX3_doingOf_16 rfl ⟨rfl, hG, (by rw [hQ]; exact ⟨(by unfold fX3_doingOf; simp only [if_neg c1, if_pos c3]), rfl⟩)⟩
def lX3_nearer_12 (g : Int) : Nat → Int → Int → Int → Mem → Int
  | 0, v2, v3, v4, M => v2
  | k + 1, v2, v3, v4, M => (if (fX1_stepFrom M g v2 v4) = (-1) then (lX3_nearer_12 g k v2 v3 (v4 + 1) M) else (if v3 = (-1) then (lX3_nearer_12 g k v2 v3 (v4 + 1) M) else (if v3 ≤ (fX11_get M 23 54 (fX1_stepFrom M g v2 v4)) then (lX3_nearer_12 g k v2 v3 (v4 + 1) M) else (fX1_stepFrom M g v2 v4))))
set_option maxRecDepth 100000 in
set_option maxHeartbeats 2000000 in
theorem qX3_nearer_12 {E : EV} {h : Int} {Q : Option MV → Mem → Prop} {g : Int} (hg : isG g) : ∀ (k : Nat) (v2 v3 v4 : Int) (M : Mem), 0 ≤ v4 → ((4) - v4).toNat = k → Q (some (0, (lX3_nearer_12 g k v2 v3 v4 M))) M → G h M → TG E miX3_nearer 4 h Q 12 [(2, 16), (2, g), (0, v2), (0, v3), (0, v4), (3, 0)] [] M := by
  intro k
  induction k with
  | zero =>
    intro v2 v3 v4 M hv0 hk hQ hG
    have hQ : Q (some (0, v2)) M := hQ
    refine T_iload (i := 4) (pc' := 14) dX3_nearer_12 rfl rfl ?_
    refine T_iconst (pc' := 15) dX3_nearer_14 (by decide) rfl ?_
    refine T_rng (fun _ z9 _ => ?_)
    have hB : r32 3 := (ok_cons.mp z9).1
    unfold r32 at hB
    refine T_icmp_gt (pc' := 60) dX3_nearer_15 (by decide) (pf := 18) rfl (fun c1 => ?_) (fun c1 => ?_)
    · skip
      refine T_iload_n (i := 2) (pc' := 61) dX3_nearer_60 rfl rfl rfl ?_
      exact T_iret dX3_nearer_61 rfl ⟨rfl, hG, hQ⟩
    · exact absurd c1 (by omega)
  | succ k ih =>
    intro v2 v3 v4 M hv0 hk hQ hG
    have hQ : Q (some (0, (if (fX1_stepFrom M g v2 v4) = (-1) then (lX3_nearer_12 g k v2 v3 (v4 + 1) M) else (if v3 = (-1) then (lX3_nearer_12 g k v2 v3 (v4 + 1) M) else (if v3 ≤ (fX11_get M 23 54 (fX1_stepFrom M g v2 v4)) then (lX3_nearer_12 g k v2 v3 (v4 + 1) M) else (fX1_stepFrom M g v2 v4)))))) M := hQ
    refine T_iload (i := 4) (pc' := 14) dX3_nearer_12 rfl rfl ?_
    refine T_iconst (pc' := 15) dX3_nearer_14 (by decide) rfl ?_
    refine T_rng (fun _ z9 _ => ?_)
    have hB : r32 3 := (ok_cons.mp z9).1
    unfold r32 at hB
    refine T_icmp_gt (pc' := 60) dX3_nearer_15 (by decide) (pf := 18) rfl (fun c1 => ?_) (fun c1 => ?_)
    · exact absurd c1 (by omega)
    · skip
      have hw : wr32 (v4 + 1) = v4 + 1 := wr32_id (by unfold r32; omega)
      refine T_aload_n (i := 1) (pc' := 19) dX3_nearer_18 rfl rfl rfl ?_
      refine T_iload_n (i := 2) (pc' := 20) dX3_nearer_19 rfl rfl rfl ?_
      refine T_iload (i := 4) (pc' := 22) dX3_nearer_20 rfl rfl ?_
      refine T_callV (av := [(0, v2), (0, v4)]) (st := []) (d2 := 3) (nc2 := 0) (ns2 := 0) (pc' := 25) dX3_nearer_22 rfl mtX1_stepFrom mvX1_stepFrom mlX3_93 cl1 (shg0 hg) rfl rfl (Nat.le_of_ble_eq_true rfl) (by decide) ⟨by decide, by decide⟩ rfl (pX1_stepFrom (E := E) (h := h) (M := M) (g := g) (v1 := v2) (v2 := v4) hg hG) (kF (st2 := [(0, (fX1_stepFrom M g v2 v4))]) rfl (fun hG2 => ?_))
      refine T_istore (i := 5) (L' := [(2, 16), (2, g), (0, v2), (0, v3), (0, v4), (0, (fX1_stepFrom M g v2 v4))]) (pc' := 27) dX3_nearer_25 (by decide) rfl rfl ?_
      refine T_iload (i := 5) (pc' := 29) dX3_nearer_27 rfl rfl ?_
      refine T_iconst (pc' := 30) dX3_nearer_29 (by decide) rfl ?_
      refine T_icmp_eq (pc' := 54) dX3_nearer_30 (by decide) (pf := 33) rfl (fun c3 => ?_) (fun c3 => ?_)
      · skip
        refine T_iinc (L' := [(2, 16), (2, g), (0, v2), (0, v3), (0, (wr32 (v4 + 1))), (0, (fX1_stepFrom M g v2 v4))]) (pc' := 57) dX3_nearer_54 rfl (by decide) rfl rfl ?_
        refine T_goto (pc' := 12) dX3_nearer_57 (by decide) ?_
        rw [hw]
        exact T_wk (ih _ _ (v4 + 1) _ (by omega) (by omega) (by have q := hQ; try simp only [if_pos c3] at q; exact q) hG) ⟨Or.inr rfl, Or.inr rfl, Or.inr rfl, Or.inr rfl, Or.inr rfl, Or.inl rfl, trivial⟩
      · skip
        refine T_iload_n (i := 3) (pc' := 34) dX3_nearer_33 rfl rfl rfl ?_
        refine T_iconst (pc' := 35) dX3_nearer_34 (by decide) rfl ?_
        refine T_icmp_eq (pc' := 54) dX3_nearer_35 (by decide) (pf := 38) rfl (fun c4 => ?_) (fun c4 => ?_)
        · skip
          refine T_iinc (L' := [(2, 16), (2, g), (0, v2), (0, v3), (0, (wr32 (v4 + 1))), (0, (fX1_stepFrom M g v2 v4))]) (pc' := 57) dX3_nearer_54 rfl (by decide) rfl rfl ?_
          refine T_goto (pc' := 12) dX3_nearer_57 (by decide) ?_
          rw [hw]
          exact T_wk (ih _ _ (v4 + 1) _ (by omega) (by omega) (by have q := hQ; try simp only [if_neg c3] at q; try simp only [if_pos c4] at q; exact q) hG) ⟨Or.inr rfl, Or.inr rfl, Or.inr rfl, Or.inr rfl, Or.inr rfl, Or.inl rfl, trivial⟩
        · skip
          refine T_aload_n (i := 0) (pc' := 39) dX3_nearer_38 rfl rfl rfl ?_
          refine U_gr (q := 23) (k := 6) (kI := 6) (pc' := 42) dX3_nearer_39 rfl cl3 (by decide) rfl (by decide) flX3_30 rfl rfl rfl (G_at hG 28 rfl) (by decide) rfl ?_
          refine T_iload (i := 5) (pc' := 44) dX3_nearer_42 rfl rfl ?_
          refine T_callSN (av := [(2, 23), (0, (fX1_stepFrom M g v2 v4))]) (st := []) (d2 := 1) (nc2 := 0) (ns2 := 0) (pc' := 47) dX3_nearer_44 rfl mtX11_get mvX11_get mlX3_67 rfl rfl (Nat.le_of_ble_eq_true rfl) (by decide) ⟨by decide, by decide⟩ rfl (pX11_get (E := E) (h := h) (M := M) (p0 := 23) (np0 := 54) (v1 := (fX1_stepFrom M g v2 v4)) (by decide) rfl (by decide) hG) (kF (st2 := [(0, (fX11_get M 23 54 (fX1_stepFrom M g v2 v4)))]) rfl (fun hG5 => ?_))
          refine T_iload_n (i := 3) (pc' := 48) dX3_nearer_47 rfl rfl rfl ?_
          refine T_icmp_ge (pc' := 54) dX3_nearer_48 (by decide) (pf := 51) rfl (fun c6 => ?_) (fun c6 => ?_)
          · skip
            refine T_iinc (L' := [(2, 16), (2, g), (0, v2), (0, v3), (0, (wr32 (v4 + 1))), (0, (fX1_stepFrom M g v2 v4))]) (pc' := 57) dX3_nearer_54 rfl (by decide) rfl rfl ?_
            refine T_goto (pc' := 12) dX3_nearer_57 (by decide) ?_
            rw [hw]
            exact T_wk (ih _ _ (v4 + 1) _ (by omega) (by omega) (by have q := hQ; try simp only [if_neg c3] at q; try simp only [if_neg c4] at q; try simp only [if_pos c6] at q; exact q) hG) ⟨Or.inr rfl, Or.inr rfl, Or.inr rfl, Or.inr rfl, Or.inr rfl, Or.inl rfl, trivial⟩
          · skip
            refine T_iload (i := 5) (pc' := 53) dX3_nearer_51 rfl rfl ?_
            exact T_iret dX3_nearer_53 rfl ⟨rfl, hG, (by have q := hQ; try simp only [if_neg c3] at q; try simp only [if_neg c4] at q; try simp only [if_neg c6] at q; exact q)⟩
def fX3_nearer (M : Mem) (g : Int) (v2 : Int) : Int :=
  (lX3_nearer_12 g 4 v2 (fX11_get M 23 54 v2) 0 M)
set_option maxRecDepth 100000 in
theorem pX3_nearer {E : EV} {h : Int} {M : Mem} {g : Int} {v2 : Int} (hg : isG g) : C2 E miX3_nearer 4 h [(2, 16), (2, g), (0, v2)] M (fun r M' => r = some (0, (fX3_nearer M g v2)) ∧ M' = M) := by
  obtain ⟨Q, hQ0⟩ : ∃ Q : Option MV → Mem → Prop, Q = (fun r M' => r = some (0, (fX3_nearer M g v2)) ∧ M' = M) := ⟨_, rfl⟩
  rw [← hQ0]
  have hQ : Q (some (0, (lX3_nearer_12 g 4 v2 (fX11_get M 23 54 v2) 0 M))) M := by rw [hQ0]; exact ⟨rfl, rfl⟩
  refine C2_of (L := [(2, 16), (2, g), (0, v2), (3, 0), (3, 0), (3, 0)]) (by decide +kernel) (Nat.le_of_ble_eq_true rfl) rfl (fun hG => ?_)
  refine T_aload_n (i := 0) (pc' := 1) dX3_nearer_0 rfl rfl rfl ?_
  refine U_gr (q := 23) (k := 6) (kI := 6) (pc' := 4) dX3_nearer_1 rfl cl3 (by decide) rfl (by decide) flX3_30 rfl rfl rfl (G_at hG 28 rfl) (by decide) rfl ?_
  refine T_iload_n (i := 2) (pc' := 5) dX3_nearer_4 rfl rfl rfl ?_
  refine T_callSN (av := [(2, 23), (0, v2)]) (st := []) (d2 := 1) (nc2 := 0) (ns2 := 0) (pc' := 8) dX3_nearer_5 rfl mtX11_get mvX11_get mlX3_67 rfl rfl (Nat.le_of_ble_eq_true rfl) (by decide) ⟨by decide, by decide⟩ rfl (pX11_get (E := E) (h := h) (M := M) (p0 := 23) (np0 := 54) (v1 := v2) (by decide) rfl (by decide) hG) (kF (st2 := [(0, (fX11_get M 23 54 v2))]) rfl (fun hG1 => ?_))
  refine T_istore_n (i := 3) (L' := [(2, 16), (2, g), (0, v2), (0, (fX11_get M 23 54 v2)), (3, 0), (3, 0)]) (pc' := 9) dX3_nearer_8 rfl (by decide) rfl rfl ?_
  refine T_iconst (pc' := 10) dX3_nearer_9 (by decide) rfl ?_
  refine T_istore (i := 4) (L' := [(2, 16), (2, g), (0, v2), (0, (fX11_get M 23 54 v2)), (0, 0), (3, 0)]) (pc' := 12) dX3_nearer_10 (by decide) rfl rfl ?_
  exact T_wk (qX3_nearer_12 hg 4 v2 (fX11_get M 23 54 v2) 0 _ (by first | decide | omega) rfl hQ hG) ⟨Or.inr rfl, Or.inr rfl, Or.inr rfl, Or.inr rfl, Or.inr rfl, Or.inl rfl, trivial⟩
def fX3_onesOf (v0 : Int) : Int :=
  (if v0 = 1 then 1 else (if v0 = 2 then 0 else (if v0 = 3 then 2 else 3)))
set_option maxRecDepth 100000 in
theorem pX3_onesOf {E : EV} {h : Int} {M : Mem} {v0 : Int}  : C2 E miX3_onesOf 1 h [(0, v0)] M (fun r M' => r = some (0, (fX3_onesOf v0)) ∧ M' = M) := by
  obtain ⟨Q, hQ⟩ : ∃ Q : Option MV → Mem → Prop, Q = (fun r M' => r = some (0, (fX3_onesOf v0)) ∧ M' = M) := ⟨_, rfl⟩
  rw [← hQ]
  refine C2_of (L := [(0, v0)]) (by decide +kernel) (Nat.le_of_ble_eq_true rfl) rfl (fun hG => ?_)
  refine T_iload_n (i := 0) (pc' := 1) dX3_onesOf_0 rfl rfl rfl ?_
  by_cases c1 : v0 = 1
  · skip
    refine T_tableIn (pc' := 28) dX3_onesOf_1 (by omega) (by omega) (by rw [c1]; rfl) (by decide) ?_
    refine T_iconst (pc' := 29) dX3_onesOf_28 (by decide) rfl ?_
    exact T_iret dX3_onesOf_29 rfl ⟨rfl, hG, (by rw [hQ]; exact ⟨(by unfold fX3_onesOf; simp only [if_pos c1]), rfl⟩)⟩
  · skip
    by_cases c2 : v0 = 2
    · skip
      refine T_tableIn (pc' := 30) dX3_onesOf_1 (by omega) (by omega) (by rw [c2]; rfl) (by decide) ?_
      refine T_iconst (pc' := 31) dX3_onesOf_30 (by decide) rfl ?_
      exact T_iret dX3_onesOf_31 rfl ⟨rfl, hG, (by rw [hQ]; exact ⟨(by unfold fX3_onesOf; simp only [if_neg c1, if_pos c2]), rfl⟩)⟩
    · skip
      by_cases c3 : v0 = 3
      · skip
        refine T_tableIn (pc' := 32) dX3_onesOf_1 (by omega) (by omega) (by rw [c3]; rfl) (by decide) ?_
        refine T_iconst (pc' := 33) dX3_onesOf_32 (by decide) rfl ?_
        exact T_iret dX3_onesOf_33 rfl ⟨rfl, hG, (by rw [hQ]; exact ⟨(by unfold fX3_onesOf; simp only [if_neg c1, if_neg c2, if_pos c3]), rfl⟩)⟩
      · skip
        refine T_tableOut (pc' := 34) dX3_onesOf_1 (by omega) (by decide) ?_
        refine T_iconst (pc' := 35) dX3_onesOf_34 (by decide) rfl ?_
        exact T_iret dX3_onesOf_35 rfl ⟨rfl, hG, (by rw [hQ]; exact ⟨(by unfold fX3_onesOf; simp only [if_neg c1, if_neg c2, if_neg c3]), rfl⟩)⟩
def fX7_walkCell (M : Mem) (v1 : Int) (v2 : Int) : Int :=
  (fX11_get M 10 1809 (wr32 ((wr32 (v1 * 201)) + v2)))
set_option maxRecDepth 100000 in
theorem pX7_walkCell {E : EV} {h : Int} {M : Mem} {v1 : Int} {v2 : Int}  : C2 E miX7_walkCell 2 h [(2, 9), (0, v1), (0, v2)] M (fun r M' => r = some (0, (fX7_walkCell M v1 v2)) ∧ M' = M) := by
  obtain ⟨Q, hQ⟩ : ∃ Q : Option MV → Mem → Prop, Q = (fun r M' => r = some (0, (fX7_walkCell M v1 v2)) ∧ M' = M) := ⟨_, rfl⟩
  rw [← hQ]
  refine C2_of (L := [(2, 9), (0, v1), (0, v2)]) (by decide +kernel) (Nat.le_of_ble_eq_true rfl) rfl (fun hG => ?_)
  refine T_aload_n (i := 0) (pc' := 1) dX7_walkCell_0 rfl rfl rfl ?_
  refine U_gr (q := 10) (k := 0) (kI := 0) (pc' := 4) dX7_walkCell_1 rfl cl7 (by decide) rfl (by decide) flX7_9 rfl rfl rfl (G_at hG 16 rfl) (by decide) rfl ?_
  refine T_iload_n (i := 1) (pc' := 5) dX7_walkCell_4 rfl rfl rfl ?_
  refine T_sipush (pc' := 8) dX7_walkCell_5 rfl (by decide) rfl ?_
  refine T_imul (pc' := 9) dX7_walkCell_8 rfl ?_
  refine T_iload_n (i := 2) (pc' := 10) dX7_walkCell_9 rfl rfl rfl ?_
  refine T_iadd (pc' := 11) dX7_walkCell_10 rfl ?_
  refine T_callSN (av := [(2, 10), (0, (wr32 ((wr32 (v1 * 201)) + v2)))]) (st := []) (d2 := 1) (nc2 := 0) (ns2 := 0) (pc' := 14) dX7_walkCell_11 rfl mtX11_get mvX11_get mlX7_71 rfl rfl (Nat.le_of_ble_eq_true rfl) (by decide) ⟨by decide, by decide⟩ rfl (pX11_get (E := E) (h := h) (M := M) (p0 := 10) (np0 := 1809) (v1 := (wr32 ((wr32 (v1 * 201)) + v2))) (by decide) rfl (by decide) hG) (kF (st2 := [(0, (fX11_get M 10 1809 (wr32 ((wr32 (v1 * 201)) + v2))))]) rfl (fun hG1 => ?_))
  exact T_iret dX7_walkCell_14 rfl ⟨rfl, hG, (by rw [hQ]; exact ⟨rfl, rfl⟩)⟩
def lmX3_follow_11 (g : Int) : Nat → Int → Int → Int → Mem → Mem
  | 0, v3, v4, v5, M => M
  | k + 1, v3, v4, v5, M => (lmX3_follow_11 g k v3 (if (fX3_doingOf M v3 v5) = 1 then (fX7_walkCell M v3 v5) else (if (fX3_doingOf M v3 v5) = 3 then (if (fX1_openDoorIn M g v4) = (-1) then (fX3_nearer M g v4) else (-1)) else v4)) (v5 + 1) (fmX11_put (fmX11_put (if (fX3_doingOf M v3 v5) = 1 then M else (if (fX3_doingOf M v3 v5) = 3 then (if (fX1_openDoorIn M g v4) = (-1) then M else (fmX11_put (fmX11_put M 21 9 v3 v5) 22 9 v3 (fX1_openDoorIn M g v4))) else M)) 17 1809 (wr32 ((wr32 (v3 * 201)) + v5)) (if (fX3_doingOf M v3 v5) = 1 then (fX7_walkCell M v3 v5) else (if (fX3_doingOf M v3 v5) = 3 then (if (fX1_openDoorIn M g v4) = (-1) then (fX3_nearer M g v4) else (-1)) else v4))) 18 804 (wr32 ((wr32 ((fX3_onesOf (if (fX3_doingOf M v3 v5) = 1 then (fX3_doingOf M v3 v5) else (if (fX3_doingOf M v3 v5) = 3 then (if (fX1_openDoorIn M g v4) = (-1) then (fX3_doingOf M v3 v5) else 4) else (fX3_doingOf M v3 v5)))) * 201)) + v5)) (wr32 ((fX11_get (fmX11_put (if (fX3_doingOf M v3 v5) = 1 then M else (if (fX3_doingOf M v3 v5) = 3 then (if (fX1_openDoorIn M g v4) = (-1) then M else (fmX11_put (fmX11_put M 21 9 v3 v5) 22 9 v3 (fX1_openDoorIn M g v4))) else M)) 17 1809 (wr32 ((wr32 (v3 * 201)) + v5)) (if (fX3_doingOf M v3 v5) = 1 then (fX7_walkCell M v3 v5) else (if (fX3_doingOf M v3 v5) = 3 then (if (fX1_openDoorIn M g v4) = (-1) then (fX3_nearer M g v4) else (-1)) else v4))) 18 804 (wr32 ((wr32 ((fX3_onesOf (if (fX3_doingOf M v3 v5) = 1 then (fX3_doingOf M v3 v5) else (if (fX3_doingOf M v3 v5) = 3 then (if (fX1_openDoorIn M g v4) = (-1) then (fX3_doingOf M v3 v5) else 4) else (fX3_doingOf M v3 v5)))) * 201)) + v5))) + 1))))
theorem frlX3_follow_11 {g : Int} {q : Int} (hq0 : q ≠ 21) (hq1 : q ≠ 22) (hq2 : q ≠ 17) (hq3 : q ≠ 18) : ∀ {k : Nat} {v3 v4 v5 : Int} {M : Mem}, (lmX3_follow_11 g k v3 v4 v5 M) q = M q := by
  intro k
  induction k with
  | zero =>
    intro v3 v4 v5 M
    show M q = M q
    exact rfl
  | succ k ih =>
    intro v3 v4 v5 M
    show (lmX3_follow_11 g k v3 (if (fX3_doingOf M v3 v5) = 1 then (fX7_walkCell M v3 v5) else (if (fX3_doingOf M v3 v5) = 3 then (if (fX1_openDoorIn M g v4) = (-1) then (fX3_nearer M g v4) else (-1)) else v4)) (v5 + 1) (fmX11_put (fmX11_put (if (fX3_doingOf M v3 v5) = 1 then M else (if (fX3_doingOf M v3 v5) = 3 then (if (fX1_openDoorIn M g v4) = (-1) then M else (fmX11_put (fmX11_put M 21 9 v3 v5) 22 9 v3 (fX1_openDoorIn M g v4))) else M)) 17 1809 (wr32 ((wr32 (v3 * 201)) + v5)) (if (fX3_doingOf M v3 v5) = 1 then (fX7_walkCell M v3 v5) else (if (fX3_doingOf M v3 v5) = 3 then (if (fX1_openDoorIn M g v4) = (-1) then (fX3_nearer M g v4) else (-1)) else v4))) 18 804 (wr32 ((wr32 ((fX3_onesOf (if (fX3_doingOf M v3 v5) = 1 then (fX3_doingOf M v3 v5) else (if (fX3_doingOf M v3 v5) = 3 then (if (fX1_openDoorIn M g v4) = (-1) then (fX3_doingOf M v3 v5) else 4) else (fX3_doingOf M v3 v5)))) * 201)) + v5)) (wr32 ((fX11_get (fmX11_put (if (fX3_doingOf M v3 v5) = 1 then M else (if (fX3_doingOf M v3 v5) = 3 then (if (fX1_openDoorIn M g v4) = (-1) then M else (fmX11_put (fmX11_put M 21 9 v3 v5) 22 9 v3 (fX1_openDoorIn M g v4))) else M)) 17 1809 (wr32 ((wr32 (v3 * 201)) + v5)) (if (fX3_doingOf M v3 v5) = 1 then (fX7_walkCell M v3 v5) else (if (fX3_doingOf M v3 v5) = 3 then (if (fX1_openDoorIn M g v4) = (-1) then (fX3_nearer M g v4) else (-1)) else v4))) 18 804 (wr32 ((wr32 ((fX3_onesOf (if (fX3_doingOf M v3 v5) = 1 then (fX3_doingOf M v3 v5) else (if (fX3_doingOf M v3 v5) = 3 then (if (fX1_openDoorIn M g v4) = (-1) then (fX3_doingOf M v3 v5) else 4) else (fX3_doingOf M v3 v5)))) * 201)) + v5))) + 1)))) q = M q
    exact ((ih).trans ((frX11_put hq3).trans ((frX11_put hq2).trans (ite_q rfl (ite_q (ite_q rfl ((frX11_put hq1).trans ((frX11_put hq0).trans rfl))) rfl)))))
theorem glX3_follow_11 {h : Int} {g : Int} (hg : isG g) : ∀ {k : Nat} {v3 v4 v5 : Int} {M : Mem}, G h M → G h (lmX3_follow_11 g k v3 v4 v5 M) := by
  intro k
  induction k with
  | zero =>
    intro v3 v4 v5 M hG
    show G h M
    exact hG
  | succ k ih =>
    intro v3 v4 v5 M hG
    show G h (lmX3_follow_11 g k v3 (if (fX3_doingOf M v3 v5) = 1 then (fX7_walkCell M v3 v5) else (if (fX3_doingOf M v3 v5) = 3 then (if (fX1_openDoorIn M g v4) = (-1) then (fX3_nearer M g v4) else (-1)) else v4)) (v5 + 1) (fmX11_put (fmX11_put (if (fX3_doingOf M v3 v5) = 1 then M else (if (fX3_doingOf M v3 v5) = 3 then (if (fX1_openDoorIn M g v4) = (-1) then M else (fmX11_put (fmX11_put M 21 9 v3 v5) 22 9 v3 (fX1_openDoorIn M g v4))) else M)) 17 1809 (wr32 ((wr32 (v3 * 201)) + v5)) (if (fX3_doingOf M v3 v5) = 1 then (fX7_walkCell M v3 v5) else (if (fX3_doingOf M v3 v5) = 3 then (if (fX1_openDoorIn M g v4) = (-1) then (fX3_nearer M g v4) else (-1)) else v4))) 18 804 (wr32 ((wr32 ((fX3_onesOf (if (fX3_doingOf M v3 v5) = 1 then (fX3_doingOf M v3 v5) else (if (fX3_doingOf M v3 v5) = 3 then (if (fX1_openDoorIn M g v4) = (-1) then (fX3_doingOf M v3 v5) else 4) else (fX3_doingOf M v3 v5)))) * 201)) + v5)) (wr32 ((fX11_get (fmX11_put (if (fX3_doingOf M v3 v5) = 1 then M else (if (fX3_doingOf M v3 v5) = 3 then (if (fX1_openDoorIn M g v4) = (-1) then M else (fmX11_put (fmX11_put M 21 9 v3 v5) 22 9 v3 (fX1_openDoorIn M g v4))) else M)) 17 1809 (wr32 ((wr32 (v3 * 201)) + v5)) (if (fX3_doingOf M v3 v5) = 1 then (fX7_walkCell M v3 v5) else (if (fX3_doingOf M v3 v5) = 3 then (if (fX1_openDoorIn M g v4) = (-1) then (fX3_nearer M g v4) else (-1)) else v4))) 18 804 (wr32 ((wr32 ((fX3_onesOf (if (fX3_doingOf M v3 v5) = 1 then (fX3_doingOf M v3 v5) else (if (fX3_doingOf M v3 v5) = 3 then (if (fX1_openDoorIn M g v4) = (-1) then (fX3_doingOf M v3 v5) else 4) else (fX3_doingOf M v3 v5)))) * 201)) + v5))) + 1))))
    exact (ih (gX11_put (h := h) (M := (fmX11_put (if (fX3_doingOf M v3 v5) = 1 then M else (if (fX3_doingOf M v3 v5) = 3 then (if (fX1_openDoorIn M g v4) = (-1) then M else (fmX11_put (fmX11_put M 21 9 v3 v5) 22 9 v3 (fX1_openDoorIn M g v4))) else M)) 17 1809 (wr32 ((wr32 (v3 * 201)) + v5)) (if (fX3_doingOf M v3 v5) = 1 then (fX7_walkCell M v3 v5) else (if (fX3_doingOf M v3 v5) = 3 then (if (fX1_openDoorIn M g v4) = (-1) then (fX3_nearer M g v4) else (-1)) else v4)))) (p0 := 18) (np0 := 804) (v1 := (wr32 ((wr32 ((fX3_onesOf (if (fX3_doingOf M v3 v5) = 1 then (fX3_doingOf M v3 v5) else (if (fX3_doingOf M v3 v5) = 3 then (if (fX1_openDoorIn M g v4) = (-1) then (fX3_doingOf M v3 v5) else 4) else (fX3_doingOf M v3 v5)))) * 201)) + v5))) (v2 := (wr32 ((fX11_get (fmX11_put (if (fX3_doingOf M v3 v5) = 1 then M else (if (fX3_doingOf M v3 v5) = 3 then (if (fX1_openDoorIn M g v4) = (-1) then M else (fmX11_put (fmX11_put M 21 9 v3 v5) 22 9 v3 (fX1_openDoorIn M g v4))) else M)) 17 1809 (wr32 ((wr32 (v3 * 201)) + v5)) (if (fX3_doingOf M v3 v5) = 1 then (fX7_walkCell M v3 v5) else (if (fX3_doingOf M v3 v5) = 3 then (if (fX1_openDoorIn M g v4) = (-1) then (fX3_nearer M g v4) else (-1)) else v4))) 18 804 (wr32 ((wr32 ((fX3_onesOf (if (fX3_doingOf M v3 v5) = 1 then (fX3_doingOf M v3 v5) else (if (fX3_doingOf M v3 v5) = 3 then (if (fX1_openDoorIn M g v4) = (-1) then (fX3_doingOf M v3 v5) else 4) else (fX3_doingOf M v3 v5)))) * 201)) + v5))) + 1))) (by decide) rfl (by decide) (gX11_put (h := h) (M := (if (fX3_doingOf M v3 v5) = 1 then M else (if (fX3_doingOf M v3 v5) = 3 then (if (fX1_openDoorIn M g v4) = (-1) then M else (fmX11_put (fmX11_put M 21 9 v3 v5) 22 9 v3 (fX1_openDoorIn M g v4))) else M))) (p0 := 17) (np0 := 1809) (v1 := (wr32 ((wr32 (v3 * 201)) + v5))) (v2 := (if (fX3_doingOf M v3 v5) = 1 then (fX7_walkCell M v3 v5) else (if (fX3_doingOf M v3 v5) = 3 then (if (fX1_openDoorIn M g v4) = (-1) then (fX3_nearer M g v4) else (-1)) else v4))) (by decide) rfl (by decide) (G_ite hG (G_ite (G_ite hG (gX11_put (h := h) (M := (fmX11_put M 21 9 v3 v5)) (p0 := 22) (np0 := 9) (v1 := v3) (v2 := (fX1_openDoorIn M g v4)) (by decide) rfl (by decide) (gX11_put (h := h) (M := M) (p0 := 21) (np0 := 9) (v1 := v3) (v2 := v5) (by decide) rfl (by decide) hG))) hG)))))
set_option maxRecDepth 100000 in
set_option maxHeartbeats 2000000 in
theorem qX3_follow_11 {E : EV} {h : Int} {Q : Option MV → Mem → Prop} {g : Int} (hg : isG g) : ∀ (k : Nat) (v3 v4 v5 : Int) (M : Mem), 0 ≤ v5 → ((201) - v5).toNat = k → Q none (lmX3_follow_11 g k v3 v4 v5 M) → G h M → TG E miX3_follow 5 h Q 11 [(2, 16), (2, g), (2, 9), (0, v3), (0, v4), (0, v5), (3, 0), (3, 0)] [] M := by
  intro k
  induction k with
  | zero =>
    intro v3 v4 v5 M hv0 hk hQ hG
    have hQ : Q none M := hQ
    refine T_iload (i := 5) (pc' := 13) dX3_follow_11 rfl rfl ?_
    refine T_sipush (pc' := 16) dX3_follow_13 rfl (by decide) rfl ?_
    refine T_rng (fun _ z9 _ => ?_)
    have hB : r32 201 := (ok_cons.mp z9).1
    unfold r32 at hB
    refine T_icmp_ge (pc' := 161) dX3_follow_16 (by decide) (pf := 19) rfl (fun c1 => ?_) (fun c1 => ?_)
    · skip
      exact T_vret dX3_follow_161 rfl ⟨rfl, hG, hQ⟩
    · exact absurd c1 (by omega)
  | succ k ih =>
    intro v3 v4 v5 M hv0 hk hQ hG
    have hQ : Q none (lmX3_follow_11 g k v3 (if (fX3_doingOf M v3 v5) = 1 then (fX7_walkCell M v3 v5) else (if (fX3_doingOf M v3 v5) = 3 then (if (fX1_openDoorIn M g v4) = (-1) then (fX3_nearer M g v4) else (-1)) else v4)) (v5 + 1) (fmX11_put (fmX11_put (if (fX3_doingOf M v3 v5) = 1 then M else (if (fX3_doingOf M v3 v5) = 3 then (if (fX1_openDoorIn M g v4) = (-1) then M else (fmX11_put (fmX11_put M 21 9 v3 v5) 22 9 v3 (fX1_openDoorIn M g v4))) else M)) 17 1809 (wr32 ((wr32 (v3 * 201)) + v5)) (if (fX3_doingOf M v3 v5) = 1 then (fX7_walkCell M v3 v5) else (if (fX3_doingOf M v3 v5) = 3 then (if (fX1_openDoorIn M g v4) = (-1) then (fX3_nearer M g v4) else (-1)) else v4))) 18 804 (wr32 ((wr32 ((fX3_onesOf (if (fX3_doingOf M v3 v5) = 1 then (fX3_doingOf M v3 v5) else (if (fX3_doingOf M v3 v5) = 3 then (if (fX1_openDoorIn M g v4) = (-1) then (fX3_doingOf M v3 v5) else 4) else (fX3_doingOf M v3 v5)))) * 201)) + v5)) (wr32 ((fX11_get (fmX11_put (if (fX3_doingOf M v3 v5) = 1 then M else (if (fX3_doingOf M v3 v5) = 3 then (if (fX1_openDoorIn M g v4) = (-1) then M else (fmX11_put (fmX11_put M 21 9 v3 v5) 22 9 v3 (fX1_openDoorIn M g v4))) else M)) 17 1809 (wr32 ((wr32 (v3 * 201)) + v5)) (if (fX3_doingOf M v3 v5) = 1 then (fX7_walkCell M v3 v5) else (if (fX3_doingOf M v3 v5) = 3 then (if (fX1_openDoorIn M g v4) = (-1) then (fX3_nearer M g v4) else (-1)) else v4))) 18 804 (wr32 ((wr32 ((fX3_onesOf (if (fX3_doingOf M v3 v5) = 1 then (fX3_doingOf M v3 v5) else (if (fX3_doingOf M v3 v5) = 3 then (if (fX1_openDoorIn M g v4) = (-1) then (fX3_doingOf M v3 v5) else 4) else (fX3_doingOf M v3 v5)))) * 201)) + v5))) + 1)))) := hQ
    refine T_iload (i := 5) (pc' := 13) dX3_follow_11 rfl rfl ?_
    refine T_sipush (pc' := 16) dX3_follow_13 rfl (by decide) rfl ?_
    refine T_rng (fun _ z9 _ => ?_)
    have hB : r32 201 := (ok_cons.mp z9).1
    unfold r32 at hB
    refine T_icmp_ge (pc' := 161) dX3_follow_16 (by decide) (pf := 19) rfl (fun c1 => ?_) (fun c1 => ?_)
    · exact absurd c1 (by omega)
    · skip
      have hw : wr32 (v5 + 1) = v5 + 1 := wr32_id (by unfold r32; omega)
      refine T_aload_n (i := 0) (pc' := 20) dX3_follow_19 rfl rfl rfl ?_
      refine T_iload_n (i := 3) (pc' := 21) dX3_follow_20 rfl rfl rfl ?_
      refine T_iload (i := 5) (pc' := 23) dX3_follow_21 rfl rfl ?_
      refine T_callV (av := [(0, v3), (0, v5)]) (st := []) (d2 := 2) (nc2 := 0) (ns2 := 0) (pc' := 26) dX3_follow_23 rfl mtX3_doingOf mvX3_doingOf mlX3_100 cl3 rfl rfl rfl (Nat.le_of_ble_eq_true rfl) (by decide) ⟨by decide, by decide⟩ rfl (pX3_doingOf (E := E) (h := h) (M := M) (v1 := v3) (v2 := v5) hG) (kF (st2 := [(0, (fX3_doingOf M v3 v5))]) rfl (fun hG2 => ?_))
      refine T_istore (i := 6) (L' := [(2, 16), (2, g), (2, 9), (0, v3), (0, v4), (0, v5), (0, (fX3_doingOf M v3 v5)), (3, 0)]) (pc' := 28) dX3_follow_26 (by decide) rfl rfl ?_
      refine T_iload (i := 6) (pc' := 30) dX3_follow_28 rfl rfl ?_
      refine T_iconst (pc' := 31) dX3_follow_30 (by decide) rfl ?_
      have HJ3 : T E miX3_follow 5 126 0 0 (fun r S M' => S = S0 ∧ G h M' ∧ Q r M') 104 [(2, 16), (2, g), (2, 9), (0, v3), (0, (if (fX3_doingOf M v3 v5) = 1 then (fX7_walkCell M v3 v5) else (if (fX3_doingOf M v3 v5) = 3 then (if (fX1_openDoorIn M g v4) = (-1) then (fX3_nearer M g v4) else (-1)) else v4))), (0, v5), (0, (if (fX3_doingOf M v3 v5) = 1 then (fX3_doingOf M v3 v5) else (if (fX3_doingOf M v3 v5) = 3 then (if (fX1_openDoorIn M g v4) = (-1) then (fX3_doingOf M v3 v5) else 4) else (fX3_doingOf M v3 v5)))), (3, 0)] [] S0 (if (fX3_doingOf M v3 v5) = 1 then M else (if (fX3_doingOf M v3 v5) = 3 then (if (fX1_openDoorIn M g v4) = (-1) then M else (fmX11_put (fmX11_put M 21 9 v3 v5) 22 9 v3 (fX1_openDoorIn M g v4))) else M)) 0 0 := by
        refine T_aload_n (i := 0) (pc' := 105) dX3_follow_104 rfl rfl rfl ?_
        refine U_gr (q := 17) (k := 0) (kI := 0) (pc' := 108) dX3_follow_105 rfl cl3 (by decide) rfl (by decide) flX3_9 rfl rfl rfl (G_at (G_ite hG (G_ite (G_ite hG (gX11_put (h := h) (M := (fmX11_put M 21 9 v3 v5)) (p0 := 22) (np0 := 9) (v1 := v3) (v2 := (fX1_openDoorIn M g v4)) (by decide) rfl (by decide) (gX11_put (h := h) (M := M) (p0 := 21) (np0 := 9) (v1 := v3) (v2 := v5) (by decide) rfl (by decide) hG))) hG)) 22 rfl) (by decide) rfl ?_
        refine T_iload_n (i := 3) (pc' := 109) dX3_follow_108 rfl rfl rfl ?_
        refine T_sipush (pc' := 112) dX3_follow_109 rfl (by decide) rfl ?_
        refine T_imul (pc' := 113) dX3_follow_112 rfl ?_
        refine T_iload (i := 5) (pc' := 115) dX3_follow_113 rfl rfl ?_
        refine T_iadd (pc' := 116) dX3_follow_115 rfl ?_
        refine T_iload (i := 4) (pc' := 118) dX3_follow_116 rfl rfl ?_
        refine T_callSN (av := [(2, 17), (0, (wr32 ((wr32 (v3 * 201)) + v5))), (0, (if (fX3_doingOf M v3 v5) = 1 then (fX7_walkCell M v3 v5) else (if (fX3_doingOf M v3 v5) = 3 then (if (fX1_openDoorIn M g v4) = (-1) then (fX3_nearer M g v4) else (-1)) else v4)))]) (st := []) (d2 := 1) (nc2 := 0) (ns2 := 0) (pc' := 121) dX3_follow_118 rfl mtX11_put mvX11_put mlX3_71 rfl rfl (Nat.le_of_ble_eq_true rfl) (by decide) ⟨by decide, by decide⟩ rfl (pX11_put (E := E) (h := h) (M := (if (fX3_doingOf M v3 v5) = 1 then M else (if (fX3_doingOf M v3 v5) = 3 then (if (fX1_openDoorIn M g v4) = (-1) then M else (fmX11_put (fmX11_put M 21 9 v3 v5) 22 9 v3 (fX1_openDoorIn M g v4))) else M))) (p0 := 17) (np0 := 1809) (v1 := (wr32 ((wr32 (v3 * 201)) + v5))) (v2 := (if (fX3_doingOf M v3 v5) = 1 then (fX7_walkCell M v3 v5) else (if (fX3_doingOf M v3 v5) = 3 then (if (fX1_openDoorIn M g v4) = (-1) then (fX3_nearer M g v4) else (-1)) else v4))) (by decide) rfl (by decide) (G_ite hG (G_ite (G_ite hG (gX11_put (h := h) (M := (fmX11_put M 21 9 v3 v5)) (p0 := 22) (np0 := 9) (v1 := v3) (v2 := (fX1_openDoorIn M g v4)) (by decide) rfl (by decide) (gX11_put (h := h) (M := M) (p0 := 21) (np0 := 9) (v1 := v3) (v2 := v5) (by decide) rfl (by decide) hG))) hG))) (kF (st2 := []) rfl (fun hG4 => ?_))
        refine T_iload (i := 6) (pc' := 123) dX3_follow_121 rfl rfl ?_
        refine T_callS (av := [(0, (if (fX3_doingOf M v3 v5) = 1 then (fX3_doingOf M v3 v5) else (if (fX3_doingOf M v3 v5) = 3 then (if (fX1_openDoorIn M g v4) = (-1) then (fX3_doingOf M v3 v5) else 4) else (fX3_doingOf M v3 v5))))]) (st := []) (d2 := 1) (nc2 := 0) (ns2 := 0) (pc' := 126) dX3_follow_123 rfl mtX3_onesOf mvX3_onesOf mlX3_111 rfl rfl (Nat.le_of_ble_eq_true rfl) (by decide) ⟨by decide, by decide⟩ rfl (pX3_onesOf (E := E) (h := h) (M := (fmX11_put (if (fX3_doingOf M v3 v5) = 1 then M else (if (fX3_doingOf M v3 v5) = 3 then (if (fX1_openDoorIn M g v4) = (-1) then M else (fmX11_put (fmX11_put M 21 9 v3 v5) 22 9 v3 (fX1_openDoorIn M g v4))) else M)) 17 1809 (wr32 ((wr32 (v3 * 201)) + v5)) (if (fX3_doingOf M v3 v5) = 1 then (fX7_walkCell M v3 v5) else (if (fX3_doingOf M v3 v5) = 3 then (if (fX1_openDoorIn M g v4) = (-1) then (fX3_nearer M g v4) else (-1)) else v4)))) (v0 := (if (fX3_doingOf M v3 v5) = 1 then (fX3_doingOf M v3 v5) else (if (fX3_doingOf M v3 v5) = 3 then (if (fX1_openDoorIn M g v4) = (-1) then (fX3_doingOf M v3 v5) else 4) else (fX3_doingOf M v3 v5)))) (gX11_put (h := h) (M := (if (fX3_doingOf M v3 v5) = 1 then M else (if (fX3_doingOf M v3 v5) = 3 then (if (fX1_openDoorIn M g v4) = (-1) then M else (fmX11_put (fmX11_put M 21 9 v3 v5) 22 9 v3 (fX1_openDoorIn M g v4))) else M))) (p0 := 17) (np0 := 1809) (v1 := (wr32 ((wr32 (v3 * 201)) + v5))) (v2 := (if (fX3_doingOf M v3 v5) = 1 then (fX7_walkCell M v3 v5) else (if (fX3_doingOf M v3 v5) = 3 then (if (fX1_openDoorIn M g v4) = (-1) then (fX3_nearer M g v4) else (-1)) else v4))) (by decide) rfl (by decide) (G_ite hG (G_ite (G_ite hG (gX11_put (h := h) (M := (fmX11_put M 21 9 v3 v5)) (p0 := 22) (np0 := 9) (v1 := v3) (v2 := (fX1_openDoorIn M g v4)) (by decide) rfl (by decide) (gX11_put (h := h) (M := M) (p0 := 21) (np0 := 9) (v1 := v3) (v2 := v5) (by decide) rfl (by decide) hG))) hG)))) (kF (st2 := [(0, (fX3_onesOf (if (fX3_doingOf M v3 v5) = 1 then (fX3_doingOf M v3 v5) else (if (fX3_doingOf M v3 v5) = 3 then (if (fX1_openDoorIn M g v4) = (-1) then (fX3_doingOf M v3 v5) else 4) else (fX3_doingOf M v3 v5)))))]) rfl (fun hG5 => ?_))
        refine T_sipush (pc' := 129) dX3_follow_126 rfl (by decide) rfl ?_
        refine T_imul (pc' := 130) dX3_follow_129 rfl ?_
        refine T_iload (i := 5) (pc' := 132) dX3_follow_130 rfl rfl ?_
        refine T_iadd (pc' := 133) dX3_follow_132 rfl ?_
        refine T_istore (i := 7) (L' := [(2, 16), (2, g), (2, 9), (0, v3), (0, (if (fX3_doingOf M v3 v5) = 1 then (fX7_walkCell M v3 v5) else (if (fX3_doingOf M v3 v5) = 3 then (if (fX1_openDoorIn M g v4) = (-1) then (fX3_nearer M g v4) else (-1)) else v4))), (0, v5), (0, (if (fX3_doingOf M v3 v5) = 1 then (fX3_doingOf M v3 v5) else (if (fX3_doingOf M v3 v5) = 3 then (if (fX1_openDoorIn M g v4) = (-1) then (fX3_doingOf M v3 v5) else 4) else (fX3_doingOf M v3 v5)))), (0, (wr32 ((wr32 ((fX3_onesOf (if (fX3_doingOf M v3 v5) = 1 then (fX3_doingOf M v3 v5) else (if (fX3_doingOf M v3 v5) = 3 then (if (fX1_openDoorIn M g v4) = (-1) then (fX3_doingOf M v3 v5) else 4) else (fX3_doingOf M v3 v5)))) * 201)) + v5)))]) (pc' := 135) dX3_follow_133 (by decide) rfl rfl ?_
        refine T_aload_n (i := 0) (pc' := 136) dX3_follow_135 rfl rfl rfl ?_
        refine U_gr (q := 18) (k := 1) (kI := 1) (pc' := 139) dX3_follow_136 rfl cl3 (by decide) rfl (by decide) flX3_15 rfl rfl rfl (G_at (gX11_put (h := h) (M := (if (fX3_doingOf M v3 v5) = 1 then M else (if (fX3_doingOf M v3 v5) = 3 then (if (fX1_openDoorIn M g v4) = (-1) then M else (fmX11_put (fmX11_put M 21 9 v3 v5) 22 9 v3 (fX1_openDoorIn M g v4))) else M))) (p0 := 17) (np0 := 1809) (v1 := (wr32 ((wr32 (v3 * 201)) + v5))) (v2 := (if (fX3_doingOf M v3 v5) = 1 then (fX7_walkCell M v3 v5) else (if (fX3_doingOf M v3 v5) = 3 then (if (fX1_openDoorIn M g v4) = (-1) then (fX3_nearer M g v4) else (-1)) else v4))) (by decide) rfl (by decide) (G_ite hG (G_ite (G_ite hG (gX11_put (h := h) (M := (fmX11_put M 21 9 v3 v5)) (p0 := 22) (np0 := 9) (v1 := v3) (v2 := (fX1_openDoorIn M g v4)) (by decide) rfl (by decide) (gX11_put (h := h) (M := M) (p0 := 21) (np0 := 9) (v1 := v3) (v2 := v5) (by decide) rfl (by decide) hG))) hG))) 23 rfl) (by decide) rfl ?_
        refine T_iload (i := 7) (pc' := 141) dX3_follow_139 rfl rfl ?_
        refine T_aload_n (i := 0) (pc' := 142) dX3_follow_141 rfl rfl rfl ?_
        refine U_gr (q := 18) (k := 1) (kI := 1) (pc' := 145) dX3_follow_142 rfl cl3 (by decide) rfl (by decide) flX3_15 rfl rfl rfl (G_at (gX11_put (h := h) (M := (if (fX3_doingOf M v3 v5) = 1 then M else (if (fX3_doingOf M v3 v5) = 3 then (if (fX1_openDoorIn M g v4) = (-1) then M else (fmX11_put (fmX11_put M 21 9 v3 v5) 22 9 v3 (fX1_openDoorIn M g v4))) else M))) (p0 := 17) (np0 := 1809) (v1 := (wr32 ((wr32 (v3 * 201)) + v5))) (v2 := (if (fX3_doingOf M v3 v5) = 1 then (fX7_walkCell M v3 v5) else (if (fX3_doingOf M v3 v5) = 3 then (if (fX1_openDoorIn M g v4) = (-1) then (fX3_nearer M g v4) else (-1)) else v4))) (by decide) rfl (by decide) (G_ite hG (G_ite (G_ite hG (gX11_put (h := h) (M := (fmX11_put M 21 9 v3 v5)) (p0 := 22) (np0 := 9) (v1 := v3) (v2 := (fX1_openDoorIn M g v4)) (by decide) rfl (by decide) (gX11_put (h := h) (M := M) (p0 := 21) (np0 := 9) (v1 := v3) (v2 := v5) (by decide) rfl (by decide) hG))) hG))) 23 rfl) (by decide) rfl ?_
        refine T_iload (i := 7) (pc' := 147) dX3_follow_145 rfl rfl ?_
        refine T_callSN (av := [(2, 18), (0, (wr32 ((wr32 ((fX3_onesOf (if (fX3_doingOf M v3 v5) = 1 then (fX3_doingOf M v3 v5) else (if (fX3_doingOf M v3 v5) = 3 then (if (fX1_openDoorIn M g v4) = (-1) then (fX3_doingOf M v3 v5) else 4) else (fX3_doingOf M v3 v5)))) * 201)) + v5)))]) (st := [(0, (wr32 ((wr32 ((fX3_onesOf (if (fX3_doingOf M v3 v5) = 1 then (fX3_doingOf M v3 v5) else (if (fX3_doingOf M v3 v5) = 3 then (if (fX1_openDoorIn M g v4) = (-1) then (fX3_doingOf M v3 v5) else 4) else (fX3_doingOf M v3 v5)))) * 201)) + v5))), (2, 18)]) (d2 := 1) (nc2 := 0) (ns2 := 0) (pc' := 150) dX3_follow_147 rfl mtX11_get mvX11_get mlX3_67 rfl rfl (Nat.le_of_ble_eq_true rfl) (by decide) ⟨by decide, by decide⟩ rfl (pX11_get (E := E) (h := h) (M := (fmX11_put (if (fX3_doingOf M v3 v5) = 1 then M else (if (fX3_doingOf M v3 v5) = 3 then (if (fX1_openDoorIn M g v4) = (-1) then M else (fmX11_put (fmX11_put M 21 9 v3 v5) 22 9 v3 (fX1_openDoorIn M g v4))) else M)) 17 1809 (wr32 ((wr32 (v3 * 201)) + v5)) (if (fX3_doingOf M v3 v5) = 1 then (fX7_walkCell M v3 v5) else (if (fX3_doingOf M v3 v5) = 3 then (if (fX1_openDoorIn M g v4) = (-1) then (fX3_nearer M g v4) else (-1)) else v4)))) (p0 := 18) (np0 := 804) (v1 := (wr32 ((wr32 ((fX3_onesOf (if (fX3_doingOf M v3 v5) = 1 then (fX3_doingOf M v3 v5) else (if (fX3_doingOf M v3 v5) = 3 then (if (fX1_openDoorIn M g v4) = (-1) then (fX3_doingOf M v3 v5) else 4) else (fX3_doingOf M v3 v5)))) * 201)) + v5))) (by decide) rfl (by decide) (gX11_put (h := h) (M := (if (fX3_doingOf M v3 v5) = 1 then M else (if (fX3_doingOf M v3 v5) = 3 then (if (fX1_openDoorIn M g v4) = (-1) then M else (fmX11_put (fmX11_put M 21 9 v3 v5) 22 9 v3 (fX1_openDoorIn M g v4))) else M))) (p0 := 17) (np0 := 1809) (v1 := (wr32 ((wr32 (v3 * 201)) + v5))) (v2 := (if (fX3_doingOf M v3 v5) = 1 then (fX7_walkCell M v3 v5) else (if (fX3_doingOf M v3 v5) = 3 then (if (fX1_openDoorIn M g v4) = (-1) then (fX3_nearer M g v4) else (-1)) else v4))) (by decide) rfl (by decide) (G_ite hG (G_ite (G_ite hG (gX11_put (h := h) (M := (fmX11_put M 21 9 v3 v5)) (p0 := 22) (np0 := 9) (v1 := v3) (v2 := (fX1_openDoorIn M g v4)) (by decide) rfl (by decide) (gX11_put (h := h) (M := M) (p0 := 21) (np0 := 9) (v1 := v3) (v2 := v5) (by decide) rfl (by decide) hG))) hG)))) (kF (st2 := [(0, (fX11_get (fmX11_put (if (fX3_doingOf M v3 v5) = 1 then M else (if (fX3_doingOf M v3 v5) = 3 then (if (fX1_openDoorIn M g v4) = (-1) then M else (fmX11_put (fmX11_put M 21 9 v3 v5) 22 9 v3 (fX1_openDoorIn M g v4))) else M)) 17 1809 (wr32 ((wr32 (v3 * 201)) + v5)) (if (fX3_doingOf M v3 v5) = 1 then (fX7_walkCell M v3 v5) else (if (fX3_doingOf M v3 v5) = 3 then (if (fX1_openDoorIn M g v4) = (-1) then (fX3_nearer M g v4) else (-1)) else v4))) 18 804 (wr32 ((wr32 ((fX3_onesOf (if (fX3_doingOf M v3 v5) = 1 then (fX3_doingOf M v3 v5) else (if (fX3_doingOf M v3 v5) = 3 then (if (fX1_openDoorIn M g v4) = (-1) then (fX3_doingOf M v3 v5) else 4) else (fX3_doingOf M v3 v5)))) * 201)) + v5)))), (0, (wr32 ((wr32 ((fX3_onesOf (if (fX3_doingOf M v3 v5) = 1 then (fX3_doingOf M v3 v5) else (if (fX3_doingOf M v3 v5) = 3 then (if (fX1_openDoorIn M g v4) = (-1) then (fX3_doingOf M v3 v5) else 4) else (fX3_doingOf M v3 v5)))) * 201)) + v5))), (2, 18)]) rfl (fun hG6 => ?_))
        refine T_iconst (pc' := 151) dX3_follow_150 (by decide) rfl ?_
        refine T_iadd (pc' := 152) dX3_follow_151 rfl ?_
        refine T_callSN (av := [(2, 18), (0, (wr32 ((wr32 ((fX3_onesOf (if (fX3_doingOf M v3 v5) = 1 then (fX3_doingOf M v3 v5) else (if (fX3_doingOf M v3 v5) = 3 then (if (fX1_openDoorIn M g v4) = (-1) then (fX3_doingOf M v3 v5) else 4) else (fX3_doingOf M v3 v5)))) * 201)) + v5))), (0, (wr32 ((fX11_get (fmX11_put (if (fX3_doingOf M v3 v5) = 1 then M else (if (fX3_doingOf M v3 v5) = 3 then (if (fX1_openDoorIn M g v4) = (-1) then M else (fmX11_put (fmX11_put M 21 9 v3 v5) 22 9 v3 (fX1_openDoorIn M g v4))) else M)) 17 1809 (wr32 ((wr32 (v3 * 201)) + v5)) (if (fX3_doingOf M v3 v5) = 1 then (fX7_walkCell M v3 v5) else (if (fX3_doingOf M v3 v5) = 3 then (if (fX1_openDoorIn M g v4) = (-1) then (fX3_nearer M g v4) else (-1)) else v4))) 18 804 (wr32 ((wr32 ((fX3_onesOf (if (fX3_doingOf M v3 v5) = 1 then (fX3_doingOf M v3 v5) else (if (fX3_doingOf M v3 v5) = 3 then (if (fX1_openDoorIn M g v4) = (-1) then (fX3_doingOf M v3 v5) else 4) else (fX3_doingOf M v3 v5)))) * 201)) + v5))) + 1)))]) (st := []) (d2 := 1) (nc2 := 0) (ns2 := 0) (pc' := 155) dX3_follow_152 rfl mtX11_put mvX11_put mlX3_71 rfl rfl (Nat.le_of_ble_eq_true rfl) (by decide) ⟨by decide, by decide⟩ rfl (pX11_put (E := E) (h := h) (M := (fmX11_put (if (fX3_doingOf M v3 v5) = 1 then M else (if (fX3_doingOf M v3 v5) = 3 then (if (fX1_openDoorIn M g v4) = (-1) then M else (fmX11_put (fmX11_put M 21 9 v3 v5) 22 9 v3 (fX1_openDoorIn M g v4))) else M)) 17 1809 (wr32 ((wr32 (v3 * 201)) + v5)) (if (fX3_doingOf M v3 v5) = 1 then (fX7_walkCell M v3 v5) else (if (fX3_doingOf M v3 v5) = 3 then (if (fX1_openDoorIn M g v4) = (-1) then (fX3_nearer M g v4) else (-1)) else v4)))) (p0 := 18) (np0 := 804) (v1 := (wr32 ((wr32 ((fX3_onesOf (if (fX3_doingOf M v3 v5) = 1 then (fX3_doingOf M v3 v5) else (if (fX3_doingOf M v3 v5) = 3 then (if (fX1_openDoorIn M g v4) = (-1) then (fX3_doingOf M v3 v5) else 4) else (fX3_doingOf M v3 v5)))) * 201)) + v5))) (v2 := (wr32 ((fX11_get (fmX11_put (if (fX3_doingOf M v3 v5) = 1 then M else (if (fX3_doingOf M v3 v5) = 3 then (if (fX1_openDoorIn M g v4) = (-1) then M else (fmX11_put (fmX11_put M 21 9 v3 v5) 22 9 v3 (fX1_openDoorIn M g v4))) else M)) 17 1809 (wr32 ((wr32 (v3 * 201)) + v5)) (if (fX3_doingOf M v3 v5) = 1 then (fX7_walkCell M v3 v5) else (if (fX3_doingOf M v3 v5) = 3 then (if (fX1_openDoorIn M g v4) = (-1) then (fX3_nearer M g v4) else (-1)) else v4))) 18 804 (wr32 ((wr32 ((fX3_onesOf (if (fX3_doingOf M v3 v5) = 1 then (fX3_doingOf M v3 v5) else (if (fX3_doingOf M v3 v5) = 3 then (if (fX1_openDoorIn M g v4) = (-1) then (fX3_doingOf M v3 v5) else 4) else (fX3_doingOf M v3 v5)))) * 201)) + v5))) + 1))) (by decide) rfl (by decide) (gX11_put (h := h) (M := (if (fX3_doingOf M v3 v5) = 1 then M else (if (fX3_doingOf M v3 v5) = 3 then (if (fX1_openDoorIn M g v4) = (-1) then M else (fmX11_put (fmX11_put M 21 9 v3 v5) 22 9 v3 (fX1_openDoorIn M g v4))) else M))) (p0 := 17) (np0 := 1809) (v1 := (wr32 ((wr32 (v3 * 201)) + v5))) (v2 := (if (fX3_doingOf M v3 v5) = 1 then (fX7_walkCell M v3 v5) else (if (fX3_doingOf M v3 v5) = 3 then (if (fX1_openDoorIn M g v4) = (-1) then (fX3_nearer M g v4) else (-1)) else v4))) (by decide) rfl (by decide) (G_ite hG (G_ite (G_ite hG (gX11_put (h := h) (M := (fmX11_put M 21 9 v3 v5)) (p0 := 22) (np0 := 9) (v1 := v3) (v2 := (fX1_openDoorIn M g v4)) (by decide) rfl (by decide) (gX11_put (h := h) (M := M) (p0 := 21) (np0 := 9) (v1 := v3) (v2 := v5) (by decide) rfl (by decide) hG))) hG)))) (kF (st2 := []) rfl (fun hG7 => ?_))
        refine T_iinc (L' := [(2, 16), (2, g), (2, 9), (0, v3), (0, (if (fX3_doingOf M v3 v5) = 1 then (fX7_walkCell M v3 v5) else (if (fX3_doingOf M v3 v5) = 3 then (if (fX1_openDoorIn M g v4) = (-1) then (fX3_nearer M g v4) else (-1)) else v4))), (0, (wr32 (v5 + 1))), (0, (if (fX3_doingOf M v3 v5) = 1 then (fX3_doingOf M v3 v5) else (if (fX3_doingOf M v3 v5) = 3 then (if (fX1_openDoorIn M g v4) = (-1) then (fX3_doingOf M v3 v5) else 4) else (fX3_doingOf M v3 v5)))), (0, (wr32 ((wr32 ((fX3_onesOf (if (fX3_doingOf M v3 v5) = 1 then (fX3_doingOf M v3 v5) else (if (fX3_doingOf M v3 v5) = 3 then (if (fX1_openDoorIn M g v4) = (-1) then (fX3_doingOf M v3 v5) else 4) else (fX3_doingOf M v3 v5)))) * 201)) + v5)))]) (pc' := 158) dX3_follow_155 rfl (by decide) rfl rfl ?_
        refine T_goto (pc' := 11) dX3_follow_158 (by decide) ?_
        rw [hw]
        exact T_wk (ih _ _ (v5 + 1) _ (by omega) (by omega) hQ (gX11_put (h := h) (M := (fmX11_put (if (fX3_doingOf M v3 v5) = 1 then M else (if (fX3_doingOf M v3 v5) = 3 then (if (fX1_openDoorIn M g v4) = (-1) then M else (fmX11_put (fmX11_put M 21 9 v3 v5) 22 9 v3 (fX1_openDoorIn M g v4))) else M)) 17 1809 (wr32 ((wr32 (v3 * 201)) + v5)) (if (fX3_doingOf M v3 v5) = 1 then (fX7_walkCell M v3 v5) else (if (fX3_doingOf M v3 v5) = 3 then (if (fX1_openDoorIn M g v4) = (-1) then (fX3_nearer M g v4) else (-1)) else v4)))) (p0 := 18) (np0 := 804) (v1 := (wr32 ((wr32 ((fX3_onesOf (if (fX3_doingOf M v3 v5) = 1 then (fX3_doingOf M v3 v5) else (if (fX3_doingOf M v3 v5) = 3 then (if (fX1_openDoorIn M g v4) = (-1) then (fX3_doingOf M v3 v5) else 4) else (fX3_doingOf M v3 v5)))) * 201)) + v5))) (v2 := (wr32 ((fX11_get (fmX11_put (if (fX3_doingOf M v3 v5) = 1 then M else (if (fX3_doingOf M v3 v5) = 3 then (if (fX1_openDoorIn M g v4) = (-1) then M else (fmX11_put (fmX11_put M 21 9 v3 v5) 22 9 v3 (fX1_openDoorIn M g v4))) else M)) 17 1809 (wr32 ((wr32 (v3 * 201)) + v5)) (if (fX3_doingOf M v3 v5) = 1 then (fX7_walkCell M v3 v5) else (if (fX3_doingOf M v3 v5) = 3 then (if (fX1_openDoorIn M g v4) = (-1) then (fX3_nearer M g v4) else (-1)) else v4))) 18 804 (wr32 ((wr32 ((fX3_onesOf (if (fX3_doingOf M v3 v5) = 1 then (fX3_doingOf M v3 v5) else (if (fX3_doingOf M v3 v5) = 3 then (if (fX1_openDoorIn M g v4) = (-1) then (fX3_doingOf M v3 v5) else 4) else (fX3_doingOf M v3 v5)))) * 201)) + v5))) + 1))) (by decide) rfl (by decide) (gX11_put (h := h) (M := (if (fX3_doingOf M v3 v5) = 1 then M else (if (fX3_doingOf M v3 v5) = 3 then (if (fX1_openDoorIn M g v4) = (-1) then M else (fmX11_put (fmX11_put M 21 9 v3 v5) 22 9 v3 (fX1_openDoorIn M g v4))) else M))) (p0 := 17) (np0 := 1809) (v1 := (wr32 ((wr32 (v3 * 201)) + v5))) (v2 := (if (fX3_doingOf M v3 v5) = 1 then (fX7_walkCell M v3 v5) else (if (fX3_doingOf M v3 v5) = 3 then (if (fX1_openDoorIn M g v4) = (-1) then (fX3_nearer M g v4) else (-1)) else v4))) (by decide) rfl (by decide) (G_ite hG (G_ite (G_ite hG (gX11_put (h := h) (M := (fmX11_put M 21 9 v3 v5)) (p0 := 22) (np0 := 9) (v1 := v3) (v2 := (fX1_openDoorIn M g v4)) (by decide) rfl (by decide) (gX11_put (h := h) (M := M) (p0 := 21) (np0 := 9) (v1 := v3) (v2 := v5) (by decide) rfl (by decide) hG))) hG))))) ⟨Or.inr rfl, Or.inr rfl, Or.inr rfl, Or.inr rfl, Or.inr rfl, Or.inr rfl, Or.inl rfl, Or.inl rfl, trivial⟩
      refine T_icmp_ne (pc' := 46) dX3_follow_31 (by decide) (pf := 34) rfl (fun c8 => ?_) (fun c8 => ?_)
      · skip
        refine T_iload (i := 6) (pc' := 48) dX3_follow_46 rfl rfl ?_
        refine T_iconst (pc' := 49) dX3_follow_48 (by decide) rfl ?_
        refine T_icmp_ne (pc' := 104) dX3_follow_49 (by decide) (pf := 52) rfl (fun c9 => ?_) (fun c9 => ?_)
        · skip
          exact T_wk (L' := [(2, 16), (2, g), (2, 9), (0, v3), (0, v4), (0, v5), (0, (fX3_doingOf M v3 v5)), (3, 0)]) (by have q := HJ3; try simp only [if_neg c8] at q; try simp only [if_neg c9] at q; exact q) ⟨Or.inr rfl, Or.inr rfl, Or.inr rfl, Or.inr rfl, Or.inr rfl, Or.inr rfl, Or.inr rfl, Or.inl rfl, trivial⟩
        · skip
          refine T_aload_n (i := 1) (pc' := 53) dX3_follow_52 rfl rfl rfl ?_
          refine T_iload (i := 4) (pc' := 55) dX3_follow_53 rfl rfl ?_
          refine T_callV (av := [(0, v4)]) (st := []) (d2 := 3) (nc2 := 0) (ns2 := 0) (pc' := 58) dX3_follow_55 rfl mtX1_openDoorIn mvX1_openDoorIn mlX3_103 cl1 (shg0 hg) rfl rfl (Nat.le_of_ble_eq_true rfl) (by decide) ⟨by decide, by decide⟩ rfl (pX1_openDoorIn (E := E) (h := h) (M := M) (g := g) (v1 := v4) hg hG) (kF (st2 := [(0, (fX1_openDoorIn M g v4))]) rfl (fun hG10 => ?_))
          refine T_istore (i := 7) (L' := [(2, 16), (2, g), (2, 9), (0, v3), (0, v4), (0, v5), (0, (fX3_doingOf M v3 v5)), (0, (fX1_openDoorIn M g v4))]) (pc' := 60) dX3_follow_58 (by decide) rfl rfl ?_
          refine T_iload (i := 7) (pc' := 62) dX3_follow_60 rfl rfl ?_
          refine T_iconst (pc' := 63) dX3_follow_62 (by decide) rfl ?_
          refine T_icmp_eq (pc' := 95) dX3_follow_63 (by decide) (pf := 66) rfl (fun c11 => ?_) (fun c11 => ?_)
          · skip
            refine T_aload_n (i := 0) (pc' := 96) dX3_follow_95 rfl rfl rfl ?_
            refine T_aload_n (i := 1) (pc' := 97) dX3_follow_96 rfl rfl rfl ?_
            refine T_iload (i := 4) (pc' := 99) dX3_follow_97 rfl rfl ?_
            refine T_callV (av := [(2, g), (0, v4)]) (st := []) (d2 := 4) (nc2 := 0) (ns2 := 0) (pc' := 102) dX3_follow_99 rfl mtX3_nearer mvX3_nearer mlX3_107 cl3 rfl rfl rfl (Nat.le_of_ble_eq_true rfl) (by decide) ⟨by decide, by decide⟩ rfl (pX3_nearer (E := E) (h := h) (M := M) (g := g) (v2 := v4) hg hG) (kF (st2 := [(0, (fX3_nearer M g v4))]) rfl (fun hG12 => ?_))
            refine T_istore (i := 4) (L' := [(2, 16), (2, g), (2, 9), (0, v3), (0, (fX3_nearer M g v4)), (0, v5), (0, (fX3_doingOf M v3 v5)), (0, (fX1_openDoorIn M g v4))]) (pc' := 104) dX3_follow_102 (by decide) rfl rfl ?_
            exact T_wk (L' := [(2, 16), (2, g), (2, 9), (0, v3), (0, (fX3_nearer M g v4)), (0, v5), (0, (fX3_doingOf M v3 v5)), (3, 0)]) (by have q := HJ3; try simp only [if_neg c8] at q; try simp only [if_pos c9] at q; try simp only [if_pos c11] at q; exact q) ⟨Or.inr rfl, Or.inr rfl, Or.inr rfl, Or.inr rfl, Or.inr rfl, Or.inr rfl, Or.inr rfl, Or.inl rfl, trivial⟩
          · skip
            refine T_aload_n (i := 0) (pc' := 67) dX3_follow_66 rfl rfl rfl ?_
            refine U_gr (q := 21) (k := 4) (kI := 4) (pc' := 70) dX3_follow_67 rfl cl3 (by decide) rfl (by decide) flX3_24 rfl rfl rfl (G_at hG 26 rfl) (by decide) rfl ?_
            refine T_iload_n (i := 3) (pc' := 71) dX3_follow_70 rfl rfl rfl ?_
            refine T_iload (i := 5) (pc' := 73) dX3_follow_71 rfl rfl ?_
            refine T_callSN (av := [(2, 21), (0, v3), (0, v5)]) (st := []) (d2 := 1) (nc2 := 0) (ns2 := 0) (pc' := 76) dX3_follow_73 rfl mtX11_put mvX11_put mlX3_71 rfl rfl (Nat.le_of_ble_eq_true rfl) (by decide) ⟨by decide, by decide⟩ rfl (pX11_put (E := E) (h := h) (M := M) (p0 := 21) (np0 := 9) (v1 := v3) (v2 := v5) (by decide) rfl (by decide) hG) (kF (st2 := []) rfl (fun hG13 => ?_))
            refine T_aload_n (i := 0) (pc' := 77) dX3_follow_76 rfl rfl rfl ?_
            refine U_gr (q := 22) (k := 5) (kI := 5) (pc' := 80) dX3_follow_77 rfl cl3 (by decide) rfl (by decide) flX3_27 rfl rfl rfl (G_at (gX11_put (h := h) (M := M) (p0 := 21) (np0 := 9) (v1 := v3) (v2 := v5) (by decide) rfl (by decide) hG) 27 rfl) (by decide) rfl ?_
            refine T_iload_n (i := 3) (pc' := 81) dX3_follow_80 rfl rfl rfl ?_
            refine T_iload (i := 7) (pc' := 83) dX3_follow_81 rfl rfl ?_
            refine T_callSN (av := [(2, 22), (0, v3), (0, (fX1_openDoorIn M g v4))]) (st := []) (d2 := 1) (nc2 := 0) (ns2 := 0) (pc' := 86) dX3_follow_83 rfl mtX11_put mvX11_put mlX3_71 rfl rfl (Nat.le_of_ble_eq_true rfl) (by decide) ⟨by decide, by decide⟩ rfl (pX11_put (E := E) (h := h) (M := (fmX11_put M 21 9 v3 v5)) (p0 := 22) (np0 := 9) (v1 := v3) (v2 := (fX1_openDoorIn M g v4)) (by decide) rfl (by decide) (gX11_put (h := h) (M := M) (p0 := 21) (np0 := 9) (v1 := v3) (v2 := v5) (by decide) rfl (by decide) hG)) (kF (st2 := []) rfl (fun hG14 => ?_))
            refine T_iconst (pc' := 87) dX3_follow_86 (by decide) rfl ?_
            refine T_istore (i := 4) (L' := [(2, 16), (2, g), (2, 9), (0, v3), (0, (-1)), (0, v5), (0, (fX3_doingOf M v3 v5)), (0, (fX1_openDoorIn M g v4))]) (pc' := 89) dX3_follow_87 (by decide) rfl rfl ?_
            refine T_iconst (pc' := 90) dX3_follow_89 (by decide) rfl ?_
            refine T_istore (i := 6) (L' := [(2, 16), (2, g), (2, 9), (0, v3), (0, (-1)), (0, v5), (0, 4), (0, (fX1_openDoorIn M g v4))]) (pc' := 92) dX3_follow_90 (by decide) rfl rfl ?_
            refine T_goto (pc' := 104) dX3_follow_92 (by decide) ?_
            exact T_wk (L' := [(2, 16), (2, g), (2, 9), (0, v3), (0, (-1)), (0, v5), (0, 4), (3, 0)]) (by have q := HJ3; try simp only [if_neg c8] at q; try simp only [if_pos c9] at q; try simp only [if_neg c11] at q; exact q) ⟨Or.inr rfl, Or.inr rfl, Or.inr rfl, Or.inr rfl, Or.inr rfl, Or.inr rfl, Or.inr rfl, Or.inl rfl, trivial⟩
      · skip
        refine T_aload_n (i := 2) (pc' := 35) dX3_follow_34 rfl rfl rfl ?_
        refine T_iload_n (i := 3) (pc' := 36) dX3_follow_35 rfl rfl rfl ?_
        refine T_iload (i := 5) (pc' := 38) dX3_follow_36 rfl rfl ?_
        refine T_callV (av := [(0, v3), (0, v5)]) (st := []) (d2 := 2) (nc2 := 0) (ns2 := 0) (pc' := 41) dX3_follow_38 rfl mtX7_walkCell mvX7_walkCell mlX3_97 cl7 rfl rfl rfl (Nat.le_of_ble_eq_true rfl) (by decide) ⟨by decide, by decide⟩ rfl (pX7_walkCell (E := E) (h := h) (M := M) (v1 := v3) (v2 := v5) hG) (kF (st2 := [(0, (fX7_walkCell M v3 v5))]) rfl (fun hG15 => ?_))
        refine T_istore (i := 4) (L' := [(2, 16), (2, g), (2, 9), (0, v3), (0, (fX7_walkCell M v3 v5)), (0, v5), (0, (fX3_doingOf M v3 v5)), (3, 0)]) (pc' := 43) dX3_follow_41 (by decide) rfl rfl ?_
        refine T_goto (pc' := 104) dX3_follow_43 (by decide) ?_
        exact T_wk (L' := [(2, 16), (2, g), (2, 9), (0, v3), (0, (fX7_walkCell M v3 v5)), (0, v5), (0, (fX3_doingOf M v3 v5)), (3, 0)]) (by have q := HJ3; try simp only [if_pos c8] at q; exact q) ⟨Or.inr rfl, Or.inr rfl, Or.inr rfl, Or.inr rfl, Or.inr rfl, Or.inr rfl, Or.inr rfl, Or.inl rfl, trivial⟩
def fmX3_follow (M : Mem) (g : Int) (v3 : Int) : Mem :=
  (lmX3_follow_11 g 201 v3 (fX7_walkCell M v3 0) 0 M)
theorem frX3_follow {M : Mem} {g : Int} {v3 : Int} {q : Int} (hq0 : q ≠ 21) (hq1 : q ≠ 22) (hq2 : q ≠ 17) (hq3 : q ≠ 18) : (fmX3_follow M g v3) q = M q := by
  unfold fmX3_follow
  exact ((frlX3_follow_11 hq0 hq1 hq2 hq3).trans rfl)
theorem gX3_follow {h : Int} {M : Mem} {g : Int} {v3 : Int} (hg : isG g) (hG : G h M) : G h (fmX3_follow M g v3) := by
  unfold fmX3_follow
  exact (glX3_follow_11 hg hG)
set_option maxRecDepth 100000 in
theorem pX3_follow {E : EV} {h : Int} {M : Mem} {g : Int} {v3 : Int} (hg : isG g) : C2 E miX3_follow 5 h [(2, 16), (2, g), (2, 9), (0, v3)] M (fun r M' => r = none ∧ M' = (fmX3_follow M g v3)) := by
  obtain ⟨Q, hQ0⟩ : ∃ Q : Option MV → Mem → Prop, Q = (fun r M' => r = none ∧ M' = (fmX3_follow M g v3)) := ⟨_, rfl⟩
  rw [← hQ0]
  have hQ : Q none (lmX3_follow_11 g 201 v3 (fX7_walkCell M v3 0) 0 M) := by rw [hQ0]; exact ⟨rfl, rfl⟩
  refine C2_of (L := [(2, 16), (2, g), (2, 9), (0, v3), (3, 0), (3, 0), (3, 0), (3, 0)]) (by decide +kernel) (Nat.le_of_ble_eq_true rfl) rfl (fun hG => ?_)
  refine T_aload_n (i := 2) (pc' := 1) dX3_follow_0 rfl rfl rfl ?_
  refine T_iload_n (i := 3) (pc' := 2) dX3_follow_1 rfl rfl rfl ?_
  refine T_iconst (pc' := 3) dX3_follow_2 (by decide) rfl ?_
  refine T_callV (av := [(0, v3), (0, 0)]) (st := []) (d2 := 2) (nc2 := 0) (ns2 := 0) (pc' := 6) dX3_follow_3 rfl mtX7_walkCell mvX7_walkCell mlX3_97 cl7 rfl rfl rfl (Nat.le_of_ble_eq_true rfl) (by decide) ⟨by decide, by decide⟩ rfl (pX7_walkCell (E := E) (h := h) (M := M) (v1 := v3) (v2 := 0) hG) (kF (st2 := [(0, (fX7_walkCell M v3 0))]) rfl (fun hG1 => ?_))
  refine T_istore (i := 4) (L' := [(2, 16), (2, g), (2, 9), (0, v3), (0, (fX7_walkCell M v3 0)), (3, 0), (3, 0), (3, 0)]) (pc' := 8) dX3_follow_6 (by decide) rfl rfl ?_
  refine T_iconst (pc' := 9) dX3_follow_8 (by decide) rfl ?_
  refine T_istore (i := 5) (L' := [(2, 16), (2, g), (2, 9), (0, v3), (0, (fX7_walkCell M v3 0)), (0, 0), (3, 0), (3, 0)]) (pc' := 11) dX3_follow_9 (by decide) rfl rfl ?_
  exact T_wk (qX3_follow_11 hg 201 v3 (fX7_walkCell M v3 0) 0 _ (by first | decide | omega) rfl hQ hG) ⟨Or.inr rfl, Or.inr rfl, Or.inr rfl, Or.inr rfl, Or.inr rfl, Or.inr rfl, Or.inl rfl, Or.inl rfl, trivial⟩
def fJ6_bitCount_0f7a4 (v0 : Int) : Int :=
  (m_and (wr32 ((wr32 ((m_and (wr32 ((wr32 ((m_and (wr32 (v0 - (m_and (m_ushr v0 1) 1431655765))) 858993459) + (m_and (m_ushr (wr32 (v0 - (m_and (m_ushr v0 1) 1431655765))) 2) 858993459))) + (m_ushr (wr32 ((m_and (wr32 (v0 - (m_and (m_ushr v0 1) 1431655765))) 858993459) + (m_and (m_ushr (wr32 (v0 - (m_and (m_ushr v0 1) 1431655765))) 2) 858993459))) 4))) 252645135) + (m_ushr (m_and (wr32 ((wr32 ((m_and (wr32 (v0 - (m_and (m_ushr v0 1) 1431655765))) 858993459) + (m_and (m_ushr (wr32 (v0 - (m_and (m_ushr v0 1) 1431655765))) 2) 858993459))) + (m_ushr (wr32 ((m_and (wr32 (v0 - (m_and (m_ushr v0 1) 1431655765))) 858993459) + (m_and (m_ushr (wr32 (v0 - (m_and (m_ushr v0 1) 1431655765))) 2) 858993459))) 4))) 252645135) 8))) + (m_ushr (wr32 ((m_and (wr32 ((wr32 ((m_and (wr32 (v0 - (m_and (m_ushr v0 1) 1431655765))) 858993459) + (m_and (m_ushr (wr32 (v0 - (m_and (m_ushr v0 1) 1431655765))) 2) 858993459))) + (m_ushr (wr32 ((m_and (wr32 (v0 - (m_and (m_ushr v0 1) 1431655765))) 858993459) + (m_and (m_ushr (wr32 (v0 - (m_and (m_ushr v0 1) 1431655765))) 2) 858993459))) 4))) 252645135) + (m_ushr (m_and (wr32 ((wr32 ((m_and (wr32 (v0 - (m_and (m_ushr v0 1) 1431655765))) 858993459) + (m_and (m_ushr (wr32 (v0 - (m_and (m_ushr v0 1) 1431655765))) 2) 858993459))) + (m_ushr (wr32 ((m_and (wr32 (v0 - (m_and (m_ushr v0 1) 1431655765))) 858993459) + (m_and (m_ushr (wr32 (v0 - (m_and (m_ushr v0 1) 1431655765))) 2) 858993459))) 4))) 252645135) 8))) 16))) 63)
set_option maxRecDepth 100000 in
theorem pJ6_bitCount_0f7a4 {E : EV} {h : Int} {M : Mem} {v0 : Int}  : C2 E miJ6_bitCount_0f7a4 1 h [(0, v0)] M (fun r M' => r = some (0, (fJ6_bitCount_0f7a4 v0)) ∧ M' = M) := by
  obtain ⟨Q, hQ⟩ : ∃ Q : Option MV → Mem → Prop, Q = (fun r M' => r = some (0, (fJ6_bitCount_0f7a4 v0)) ∧ M' = M) := ⟨_, rfl⟩
  rw [← hQ]
  refine C2_of (L := [(0, v0)]) (by decide +kernel) (Nat.le_of_ble_eq_true rfl) rfl (fun hG => ?_)
  refine T_iload_n (i := 0) (pc' := 1) dJ6_bitCount_0f7a4_0 rfl rfl rfl ?_
  refine T_iload_n (i := 0) (pc' := 2) dJ6_bitCount_0f7a4_1 rfl rfl rfl ?_
  refine T_iconst (pc' := 3) dJ6_bitCount_0f7a4_2 (by decide) rfl ?_
  refine T_iushr (pc' := 4) dJ6_bitCount_0f7a4_3 rfl ?_
  refine T_ldcw (n := 1431655765) (pc' := 7) dJ6_bitCount_0f7a4_4 rfl kiJ6_265 rfl (by decide) rfl ?_
  refine T_iand (pc' := 8) dJ6_bitCount_0f7a4_7 rfl ?_
  refine T_isub (pc' := 9) dJ6_bitCount_0f7a4_8 rfl ?_
  refine T_istore_n (i := 0) (L' := [(0, (wr32 (v0 - (m_and (m_ushr v0 1) 1431655765))))]) (pc' := 10) dJ6_bitCount_0f7a4_9 rfl (by decide) rfl rfl ?_
  refine T_iload_n (i := 0) (pc' := 11) dJ6_bitCount_0f7a4_10 rfl rfl rfl ?_
  refine T_ldcw (n := 858993459) (pc' := 14) dJ6_bitCount_0f7a4_11 rfl kiJ6_266 rfl (by decide) rfl ?_
  refine T_iand (pc' := 15) dJ6_bitCount_0f7a4_14 rfl ?_
  refine T_iload_n (i := 0) (pc' := 16) dJ6_bitCount_0f7a4_15 rfl rfl rfl ?_
  refine T_iconst (pc' := 17) dJ6_bitCount_0f7a4_16 (by decide) rfl ?_
  refine T_iushr (pc' := 18) dJ6_bitCount_0f7a4_17 rfl ?_
  refine T_ldcw (n := 858993459) (pc' := 21) dJ6_bitCount_0f7a4_18 rfl kiJ6_266 rfl (by decide) rfl ?_
  refine T_iand (pc' := 22) dJ6_bitCount_0f7a4_21 rfl ?_
  refine T_iadd (pc' := 23) dJ6_bitCount_0f7a4_22 rfl ?_
  refine T_istore_n (i := 0) (L' := [(0, (wr32 ((m_and (wr32 (v0 - (m_and (m_ushr v0 1) 1431655765))) 858993459) + (m_and (m_ushr (wr32 (v0 - (m_and (m_ushr v0 1) 1431655765))) 2) 858993459))))]) (pc' := 24) dJ6_bitCount_0f7a4_23 rfl (by decide) rfl rfl ?_
  refine T_iload_n (i := 0) (pc' := 25) dJ6_bitCount_0f7a4_24 rfl rfl rfl ?_
  refine T_iload_n (i := 0) (pc' := 26) dJ6_bitCount_0f7a4_25 rfl rfl rfl ?_
  refine T_iconst (pc' := 27) dJ6_bitCount_0f7a4_26 (by decide) rfl ?_
  refine T_iushr (pc' := 28) dJ6_bitCount_0f7a4_27 rfl ?_
  refine T_iadd (pc' := 29) dJ6_bitCount_0f7a4_28 rfl ?_
  refine T_ldcw (n := 252645135) (pc' := 32) dJ6_bitCount_0f7a4_29 rfl kiJ6_267 rfl (by decide) rfl ?_
  refine T_iand (pc' := 33) dJ6_bitCount_0f7a4_32 rfl ?_
  refine T_istore_n (i := 0) (L' := [(0, (m_and (wr32 ((wr32 ((m_and (wr32 (v0 - (m_and (m_ushr v0 1) 1431655765))) 858993459) + (m_and (m_ushr (wr32 (v0 - (m_and (m_ushr v0 1) 1431655765))) 2) 858993459))) + (m_ushr (wr32 ((m_and (wr32 (v0 - (m_and (m_ushr v0 1) 1431655765))) 858993459) + (m_and (m_ushr (wr32 (v0 - (m_and (m_ushr v0 1) 1431655765))) 2) 858993459))) 4))) 252645135))]) (pc' := 34) dJ6_bitCount_0f7a4_33 rfl (by decide) rfl rfl ?_
  refine T_iload_n (i := 0) (pc' := 35) dJ6_bitCount_0f7a4_34 rfl rfl rfl ?_
  refine T_iload_n (i := 0) (pc' := 36) dJ6_bitCount_0f7a4_35 rfl rfl rfl ?_
  refine T_bipush (pc' := 38) dJ6_bitCount_0f7a4_36 rfl (by decide) rfl ?_
  refine T_iushr (pc' := 39) dJ6_bitCount_0f7a4_38 rfl ?_
  refine T_iadd (pc' := 40) dJ6_bitCount_0f7a4_39 rfl ?_
  refine T_istore_n (i := 0) (L' := [(0, (wr32 ((m_and (wr32 ((wr32 ((m_and (wr32 (v0 - (m_and (m_ushr v0 1) 1431655765))) 858993459) + (m_and (m_ushr (wr32 (v0 - (m_and (m_ushr v0 1) 1431655765))) 2) 858993459))) + (m_ushr (wr32 ((m_and (wr32 (v0 - (m_and (m_ushr v0 1) 1431655765))) 858993459) + (m_and (m_ushr (wr32 (v0 - (m_and (m_ushr v0 1) 1431655765))) 2) 858993459))) 4))) 252645135) + (m_ushr (m_and (wr32 ((wr32 ((m_and (wr32 (v0 - (m_and (m_ushr v0 1) 1431655765))) 858993459) + (m_and (m_ushr (wr32 (v0 - (m_and (m_ushr v0 1) 1431655765))) 2) 858993459))) + (m_ushr (wr32 ((m_and (wr32 (v0 - (m_and (m_ushr v0 1) 1431655765))) 858993459) + (m_and (m_ushr (wr32 (v0 - (m_and (m_ushr v0 1) 1431655765))) 2) 858993459))) 4))) 252645135) 8))))]) (pc' := 41) dJ6_bitCount_0f7a4_40 rfl (by decide) rfl rfl ?_
  refine T_iload_n (i := 0) (pc' := 42) dJ6_bitCount_0f7a4_41 rfl rfl rfl ?_
  refine T_iload_n (i := 0) (pc' := 43) dJ6_bitCount_0f7a4_42 rfl rfl rfl ?_
  refine T_bipush (pc' := 45) dJ6_bitCount_0f7a4_43 rfl (by decide) rfl ?_
  refine T_iushr (pc' := 46) dJ6_bitCount_0f7a4_45 rfl ?_
  refine T_iadd (pc' := 47) dJ6_bitCount_0f7a4_46 rfl ?_
  refine T_istore_n (i := 0) (L' := [(0, (wr32 ((wr32 ((m_and (wr32 ((wr32 ((m_and (wr32 (v0 - (m_and (m_ushr v0 1) 1431655765))) 858993459) + (m_and (m_ushr (wr32 (v0 - (m_and (m_ushr v0 1) 1431655765))) 2) 858993459))) + (m_ushr (wr32 ((m_and (wr32 (v0 - (m_and (m_ushr v0 1) 1431655765))) 858993459) + (m_and (m_ushr (wr32 (v0 - (m_and (m_ushr v0 1) 1431655765))) 2) 858993459))) 4))) 252645135) + (m_ushr (m_and (wr32 ((wr32 ((m_and (wr32 (v0 - (m_and (m_ushr v0 1) 1431655765))) 858993459) + (m_and (m_ushr (wr32 (v0 - (m_and (m_ushr v0 1) 1431655765))) 2) 858993459))) + (m_ushr (wr32 ((m_and (wr32 (v0 - (m_and (m_ushr v0 1) 1431655765))) 858993459) + (m_and (m_ushr (wr32 (v0 - (m_and (m_ushr v0 1) 1431655765))) 2) 858993459))) 4))) 252645135) 8))) + (m_ushr (wr32 ((m_and (wr32 ((wr32 ((m_and (wr32 (v0 - (m_and (m_ushr v0 1) 1431655765))) 858993459) + (m_and (m_ushr (wr32 (v0 - (m_and (m_ushr v0 1) 1431655765))) 2) 858993459))) + (m_ushr (wr32 ((m_and (wr32 (v0 - (m_and (m_ushr v0 1) 1431655765))) 858993459) + (m_and (m_ushr (wr32 (v0 - (m_and (m_ushr v0 1) 1431655765))) 2) 858993459))) 4))) 252645135) + (m_ushr (m_and (wr32 ((wr32 ((m_and (wr32 (v0 - (m_and (m_ushr v0 1) 1431655765))) 858993459) + (m_and (m_ushr (wr32 (v0 - (m_and (m_ushr v0 1) 1431655765))) 2) 858993459))) + (m_ushr (wr32 ((m_and (wr32 (v0 - (m_and (m_ushr v0 1) 1431655765))) 858993459) + (m_and (m_ushr (wr32 (v0 - (m_and (m_ushr v0 1) 1431655765))) 2) 858993459))) 4))) 252645135) 8))) 16))))]) (pc' := 48) dJ6_bitCount_0f7a4_47 rfl (by decide) rfl rfl ?_
  refine T_iload_n (i := 0) (pc' := 49) dJ6_bitCount_0f7a4_48 rfl rfl rfl ?_
  refine T_bipush (pc' := 51) dJ6_bitCount_0f7a4_49 rfl (by decide) rfl ?_
  refine T_iand (pc' := 52) dJ6_bitCount_0f7a4_51 rfl ?_
  exact T_iret dJ6_bitCount_0f7a4_52 rfl ⟨rfl, hG, (by rw [hQ]; exact ⟨rfl, rfl⟩)⟩
def lX7_findFirst_7 (g : Int) : Nat → Int → Int → Int → Mem → Int
  | 0, v2, v3, v4, M => v3
  | k + 1, v2, v3, v4, M => (lX7_findFirst_7 g k v2 (if (fX11_hasBit v2 v4) = 0 then v3 else (if (if (fX11_hasBit (M (g + 1) 7) v4) = 0 then (if 1 < (wr32 ((wr32 ((M g 14) + (fX11_get M (g + 4) 9 v4))) - 60)) then (wr32 ((wr32 ((M g 14) + (fX11_get M (g + 4) 9 v4))) - 60)) else 1) else 201) < v3 then (if (fX11_hasBit (M (g + 1) 7) v4) = 0 then (if 1 < (wr32 ((wr32 ((M g 14) + (fX11_get M (g + 4) 9 v4))) - 60)) then (wr32 ((wr32 ((M g 14) + (fX11_get M (g + 4) 9 v4))) - 60)) else 1) else 201) else v3)) (v4 + 1) (fmX11_put M 12 9 v4 (if (fX11_hasBit (M (g + 1) 7) v4) = 0 then (if 1 < (wr32 ((wr32 ((M g 14) + (fX11_get M (g + 4) 9 v4))) - 60)) then (wr32 ((wr32 ((M g 14) + (fX11_get M (g + 4) 9 v4))) - 60)) else 1) else 201)))
def lmX7_findFirst_7 (g : Int) : Nat → Int → Int → Int → Mem → Mem
  | 0, v2, v3, v4, M => M
  | k + 1, v2, v3, v4, M => (lmX7_findFirst_7 g k v2 (if (fX11_hasBit v2 v4) = 0 then v3 else (if (if (fX11_hasBit (M (g + 1) 7) v4) = 0 then (if 1 < (wr32 ((wr32 ((M g 14) + (fX11_get M (g + 4) 9 v4))) - 60)) then (wr32 ((wr32 ((M g 14) + (fX11_get M (g + 4) 9 v4))) - 60)) else 1) else 201) < v3 then (if (fX11_hasBit (M (g + 1) 7) v4) = 0 then (if 1 < (wr32 ((wr32 ((M g 14) + (fX11_get M (g + 4) 9 v4))) - 60)) then (wr32 ((wr32 ((M g 14) + (fX11_get M (g + 4) 9 v4))) - 60)) else 1) else 201) else v3)) (v4 + 1) (fmX11_put M 12 9 v4 (if (fX11_hasBit (M (g + 1) 7) v4) = 0 then (if 1 < (wr32 ((wr32 ((M g 14) + (fX11_get M (g + 4) 9 v4))) - 60)) then (wr32 ((wr32 ((M g 14) + (fX11_get M (g + 4) 9 v4))) - 60)) else 1) else 201)))
theorem frlX7_findFirst_7 {g : Int} {q : Int} (hq0 : q ≠ 12) : ∀ {k : Nat} {v2 v3 v4 : Int} {M : Mem}, (lmX7_findFirst_7 g k v2 v3 v4 M) q = M q := by
  intro k
  induction k with
  | zero =>
    intro v2 v3 v4 M
    show M q = M q
    exact rfl
  | succ k ih =>
    intro v2 v3 v4 M
    show (lmX7_findFirst_7 g k v2 (if (fX11_hasBit v2 v4) = 0 then v3 else (if (if (fX11_hasBit (M (g + 1) 7) v4) = 0 then (if 1 < (wr32 ((wr32 ((M g 14) + (fX11_get M (g + 4) 9 v4))) - 60)) then (wr32 ((wr32 ((M g 14) + (fX11_get M (g + 4) 9 v4))) - 60)) else 1) else 201) < v3 then (if (fX11_hasBit (M (g + 1) 7) v4) = 0 then (if 1 < (wr32 ((wr32 ((M g 14) + (fX11_get M (g + 4) 9 v4))) - 60)) then (wr32 ((wr32 ((M g 14) + (fX11_get M (g + 4) 9 v4))) - 60)) else 1) else 201) else v3)) (v4 + 1) (fmX11_put M 12 9 v4 (if (fX11_hasBit (M (g + 1) 7) v4) = 0 then (if 1 < (wr32 ((wr32 ((M g 14) + (fX11_get M (g + 4) 9 v4))) - 60)) then (wr32 ((wr32 ((M g 14) + (fX11_get M (g + 4) 9 v4))) - 60)) else 1) else 201))) q = M q
    exact ((ih).trans ((frX11_put hq0).trans rfl))
theorem glX7_findFirst_7 {h : Int} {g : Int} (hg : isG g) : ∀ {k : Nat} {v2 v3 v4 : Int} {M : Mem}, G h M → G h (lmX7_findFirst_7 g k v2 v3 v4 M) := by
  intro k
  induction k with
  | zero =>
    intro v2 v3 v4 M hG
    show G h M
    exact hG
  | succ k ih =>
    intro v2 v3 v4 M hG
    show G h (lmX7_findFirst_7 g k v2 (if (fX11_hasBit v2 v4) = 0 then v3 else (if (if (fX11_hasBit (M (g + 1) 7) v4) = 0 then (if 1 < (wr32 ((wr32 ((M g 14) + (fX11_get M (g + 4) 9 v4))) - 60)) then (wr32 ((wr32 ((M g 14) + (fX11_get M (g + 4) 9 v4))) - 60)) else 1) else 201) < v3 then (if (fX11_hasBit (M (g + 1) 7) v4) = 0 then (if 1 < (wr32 ((wr32 ((M g 14) + (fX11_get M (g + 4) 9 v4))) - 60)) then (wr32 ((wr32 ((M g 14) + (fX11_get M (g + 4) 9 v4))) - 60)) else 1) else 201) else v3)) (v4 + 1) (fmX11_put M 12 9 v4 (if (fX11_hasBit (M (g + 1) 7) v4) = 0 then (if 1 < (wr32 ((wr32 ((M g 14) + (fX11_get M (g + 4) 9 v4))) - 60)) then (wr32 ((wr32 ((M g 14) + (fX11_get M (g + 4) 9 v4))) - 60)) else 1) else 201)))
    exact (ih (gX11_put (h := h) (M := M) (p0 := 12) (np0 := 9) (v1 := v4) (v2 := (if (fX11_hasBit (M (g + 1) 7) v4) = 0 then (if 1 < (wr32 ((wr32 ((M g 14) + (fX11_get M (g + 4) 9 v4))) - 60)) then (wr32 ((wr32 ((M g 14) + (fX11_get M (g + 4) 9 v4))) - 60)) else 1) else 201)) (by decide) rfl (by decide) hG))
set_option maxRecDepth 100000 in
set_option maxHeartbeats 2000000 in
theorem qX7_findFirst_7 {E : EV} {h : Int} {Q : Option MV → Mem → Prop} {g : Int} (hg : isG g) : ∀ (k : Nat) (v2 v3 v4 : Int) (M : Mem), 0 ≤ v4 → (((M (g + 1) 8)) - v4).toNat = k → Q (some (0, (lX7_findFirst_7 g k v2 v3 v4 M))) (lmX7_findFirst_7 g k v2 v3 v4 M) → G h M → TG E miX7_findFirst 2 h Q 7 [(2, 9), (2, g), (0, v2), (0, v3), (0, v4), (3, 0)] [] M := by
  intro k
  induction k with
  | zero =>
    intro v2 v3 v4 M hv0 hk hQ hG
    have hQ : Q (some (0, v3)) M := hQ
    refine T_iload (i := 4) (pc' := 9) dX7_findFirst_7 rfl rfl ?_
    refine T_aload_n (i := 1) (pc' := 10) dX7_findFirst_9 rfl rfl rfl ?_
    refine U_grN (q := (g + 1)) (k := 0) (kI := 0) (pc' := 13) dX7_findFirst_10 rfl cl1 (pog0 hg) (shg0 hg) (by decide) flX7_46 rfl rfl rfl (grg0_0 hg hG) (pog1 hg) rfl ?_
    refine U_gfN (v := (0, (M (g + 1) 8))) (k := 8) (kI := 8) (pc' := 16) dX7_findFirst_13 rfl cl4 (pog1 hg) (shg1 hg) (by decide) flX7_52 rfl rfl (by decide) rfl rfl ?_
    refine T_rng (fun _ z9 _ => ?_)
    have hB : r32 (M (g + 1) 8) := (ok_cons.mp z9).1
    unfold r32 at hB
    refine T_icmp_ge (pc' := 98) dX7_findFirst_16 (by decide) (pf := 19) rfl (fun c1 => ?_) (fun c1 => ?_)
    · skip
      refine T_iload_n (i := 3) (pc' := 99) dX7_findFirst_98 rfl rfl rfl ?_
      exact T_iret dX7_findFirst_99 rfl ⟨rfl, hG, hQ⟩
    · exact absurd c1 (by omega)
  | succ k ih =>
    intro v2 v3 v4 M hv0 hk hQ hG
    have hQ : Q (some (0, (lX7_findFirst_7 g k v2 (if (fX11_hasBit v2 v4) = 0 then v3 else (if (if (fX11_hasBit (M (g + 1) 7) v4) = 0 then (if 1 < (wr32 ((wr32 ((M g 14) + (fX11_get M (g + 4) 9 v4))) - 60)) then (wr32 ((wr32 ((M g 14) + (fX11_get M (g + 4) 9 v4))) - 60)) else 1) else 201) < v3 then (if (fX11_hasBit (M (g + 1) 7) v4) = 0 then (if 1 < (wr32 ((wr32 ((M g 14) + (fX11_get M (g + 4) 9 v4))) - 60)) then (wr32 ((wr32 ((M g 14) + (fX11_get M (g + 4) 9 v4))) - 60)) else 1) else 201) else v3)) (v4 + 1) (fmX11_put M 12 9 v4 (if (fX11_hasBit (M (g + 1) 7) v4) = 0 then (if 1 < (wr32 ((wr32 ((M g 14) + (fX11_get M (g + 4) 9 v4))) - 60)) then (wr32 ((wr32 ((M g 14) + (fX11_get M (g + 4) 9 v4))) - 60)) else 1) else 201))))) (lmX7_findFirst_7 g k v2 (if (fX11_hasBit v2 v4) = 0 then v3 else (if (if (fX11_hasBit (M (g + 1) 7) v4) = 0 then (if 1 < (wr32 ((wr32 ((M g 14) + (fX11_get M (g + 4) 9 v4))) - 60)) then (wr32 ((wr32 ((M g 14) + (fX11_get M (g + 4) 9 v4))) - 60)) else 1) else 201) < v3 then (if (fX11_hasBit (M (g + 1) 7) v4) = 0 then (if 1 < (wr32 ((wr32 ((M g 14) + (fX11_get M (g + 4) 9 v4))) - 60)) then (wr32 ((wr32 ((M g 14) + (fX11_get M (g + 4) 9 v4))) - 60)) else 1) else 201) else v3)) (v4 + 1) (fmX11_put M 12 9 v4 (if (fX11_hasBit (M (g + 1) 7) v4) = 0 then (if 1 < (wr32 ((wr32 ((M g 14) + (fX11_get M (g + 4) 9 v4))) - 60)) then (wr32 ((wr32 ((M g 14) + (fX11_get M (g + 4) 9 v4))) - 60)) else 1) else 201))) := hQ
    refine T_iload (i := 4) (pc' := 9) dX7_findFirst_7 rfl rfl ?_
    refine T_aload_n (i := 1) (pc' := 10) dX7_findFirst_9 rfl rfl rfl ?_
    refine U_grN (q := (g + 1)) (k := 0) (kI := 0) (pc' := 13) dX7_findFirst_10 rfl cl1 (pog0 hg) (shg0 hg) (by decide) flX7_46 rfl rfl rfl (grg0_0 hg hG) (pog1 hg) rfl ?_
    refine U_gfN (v := (0, (M (g + 1) 8))) (k := 8) (kI := 8) (pc' := 16) dX7_findFirst_13 rfl cl4 (pog1 hg) (shg1 hg) (by decide) flX7_52 rfl rfl (by decide) rfl rfl ?_
    refine T_rng (fun _ z9 _ => ?_)
    have hB : r32 (M (g + 1) 8) := (ok_cons.mp z9).1
    unfold r32 at hB
    refine T_icmp_ge (pc' := 98) dX7_findFirst_16 (by decide) (pf := 19) rfl (fun c1 => ?_) (fun c1 => ?_)
    · exact absurd c1 (by omega)
    · skip
      have hw : wr32 (v4 + 1) = v4 + 1 := wr32_id (by unfold r32; omega)
      refine T_sipush (pc' := 22) dX7_findFirst_19 rfl (by decide) rfl ?_
      refine T_istore (i := 5) (L' := [(2, 9), (2, g), (0, v2), (0, v3), (0, v4), (0, 201)]) (pc' := 24) dX7_findFirst_22 (by decide) rfl rfl ?_
      refine T_aload_n (i := 1) (pc' := 25) dX7_findFirst_24 rfl rfl rfl ?_
      refine U_grN (q := (g + 1)) (k := 0) (kI := 0) (pc' := 28) dX7_findFirst_25 rfl cl1 (pog0 hg) (shg0 hg) (by decide) flX7_46 rfl rfl rfl (grg0_0 hg hG) (pog1 hg) rfl ?_
      refine U_gfN (v := (0, (M (g + 1) 7))) (k := 7) (kI := 7) (pc' := 31) dX7_findFirst_28 rfl cl4 (pog1 hg) (shg1 hg) (by decide) flX7_129 rfl rfl (by decide) rfl rfl ?_
      refine T_iload (i := 4) (pc' := 33) dX7_findFirst_31 rfl rfl ?_
      refine T_callSN (av := [(0, (M (g + 1) 7)), (0, v4)]) (st := []) (d2 := 1) (nc2 := 0) (ns2 := 0) (pc' := 36) dX7_findFirst_33 rfl mtX11_hasBit mvX11_hasBit mlX7_122 rfl rfl (Nat.le_of_ble_eq_true rfl) (by decide) ⟨by decide, by decide⟩ rfl (pX11_hasBit (E := E) (h := h) (M := M) (v0 := (M (g + 1) 7)) (v1 := v4) hG) (kF (st2 := [(0, (fX11_hasBit (M (g + 1) 7) v4))]) rfl (fun hG2 => ?_))
      have HJ3 : T E miX7_findFirst 2 126 0 0 (fun r S M' => S = S0 ∧ G h M' ∧ Q r M') 65 [(2, 9), (2, g), (0, v2), (0, v3), (0, v4), (0, (if (fX11_hasBit (M (g + 1) 7) v4) = 0 then (if 1 < (wr32 ((wr32 ((M g 14) + (fX11_get M (g + 4) 9 v4))) - 60)) then (wr32 ((wr32 ((M g 14) + (fX11_get M (g + 4) 9 v4))) - 60)) else 1) else 201))] [] S0 M 0 0 := by
        refine T_aload_n (i := 0) (pc' := 66) dX7_findFirst_65 rfl rfl rfl ?_
        refine U_gr (q := 12) (k := 2) (kI := 2) (pc' := 69) dX7_findFirst_66 rfl cl7 (by decide) rfl (by decide) flX7_18 rfl rfl rfl (G_at hG 18 rfl) (by decide) rfl ?_
        refine T_iload (i := 4) (pc' := 71) dX7_findFirst_69 rfl rfl ?_
        refine T_iload (i := 5) (pc' := 73) dX7_findFirst_71 rfl rfl ?_
        refine T_callSN (av := [(2, 12), (0, v4), (0, (if (fX11_hasBit (M (g + 1) 7) v4) = 0 then (if 1 < (wr32 ((wr32 ((M g 14) + (fX11_get M (g + 4) 9 v4))) - 60)) then (wr32 ((wr32 ((M g 14) + (fX11_get M (g + 4) 9 v4))) - 60)) else 1) else 201))]) (st := []) (d2 := 1) (nc2 := 0) (ns2 := 0) (pc' := 76) dX7_findFirst_73 rfl mtX11_put mvX11_put mlX7_75 rfl rfl (Nat.le_of_ble_eq_true rfl) (by decide) ⟨by decide, by decide⟩ rfl (pX11_put (E := E) (h := h) (M := M) (p0 := 12) (np0 := 9) (v1 := v4) (v2 := (if (fX11_hasBit (M (g + 1) 7) v4) = 0 then (if 1 < (wr32 ((wr32 ((M g 14) + (fX11_get M (g + 4) 9 v4))) - 60)) then (wr32 ((wr32 ((M g 14) + (fX11_get M (g + 4) 9 v4))) - 60)) else 1) else 201)) (by decide) rfl (by decide) hG) (kF (st2 := []) rfl (fun hG4 => ?_))
        refine T_iload_n (i := 2) (pc' := 77) dX7_findFirst_76 rfl rfl rfl ?_
        refine T_iload (i := 4) (pc' := 79) dX7_findFirst_77 rfl rfl ?_
        refine T_callSN (av := [(0, v2), (0, v4)]) (st := []) (d2 := 1) (nc2 := 0) (ns2 := 0) (pc' := 82) dX7_findFirst_79 rfl mtX11_hasBit mvX11_hasBit mlX7_122 rfl rfl (Nat.le_of_ble_eq_true rfl) (by decide) ⟨by decide, by decide⟩ rfl (pX11_hasBit (E := E) (h := h) (M := (fmX11_put M 12 9 v4 (if (fX11_hasBit (M (g + 1) 7) v4) = 0 then (if 1 < (wr32 ((wr32 ((M g 14) + (fX11_get M (g + 4) 9 v4))) - 60)) then (wr32 ((wr32 ((M g 14) + (fX11_get M (g + 4) 9 v4))) - 60)) else 1) else 201))) (v0 := v2) (v1 := v4) (gX11_put (h := h) (M := M) (p0 := 12) (np0 := 9) (v1 := v4) (v2 := (if (fX11_hasBit (M (g + 1) 7) v4) = 0 then (if 1 < (wr32 ((wr32 ((M g 14) + (fX11_get M (g + 4) 9 v4))) - 60)) then (wr32 ((wr32 ((M g 14) + (fX11_get M (g + 4) 9 v4))) - 60)) else 1) else 201)) (by decide) rfl (by decide) hG)) (kF (st2 := [(0, (fX11_hasBit v2 v4))]) rfl (fun hG5 => ?_))
        have HJ6 : T E miX7_findFirst 2 126 0 0 (fun r S M' => S = S0 ∧ G h M' ∧ Q r M') 92 [(2, 9), (2, g), (0, v2), (0, (if (fX11_hasBit v2 v4) = 0 then v3 else (if (if (fX11_hasBit (M (g + 1) 7) v4) = 0 then (if 1 < (wr32 ((wr32 ((M g 14) + (fX11_get M (g + 4) 9 v4))) - 60)) then (wr32 ((wr32 ((M g 14) + (fX11_get M (g + 4) 9 v4))) - 60)) else 1) else 201) < v3 then (if (fX11_hasBit (M (g + 1) 7) v4) = 0 then (if 1 < (wr32 ((wr32 ((M g 14) + (fX11_get M (g + 4) 9 v4))) - 60)) then (wr32 ((wr32 ((M g 14) + (fX11_get M (g + 4) 9 v4))) - 60)) else 1) else 201) else v3))), (0, v4), (3, 0)] [] S0 (fmX11_put M 12 9 v4 (if (fX11_hasBit (M (g + 1) 7) v4) = 0 then (if 1 < (wr32 ((wr32 ((M g 14) + (fX11_get M (g + 4) 9 v4))) - 60)) then (wr32 ((wr32 ((M g 14) + (fX11_get M (g + 4) 9 v4))) - 60)) else 1) else 201)) 0 0 := by
          refine T_iinc (L' := [(2, 9), (2, g), (0, v2), (0, (if (fX11_hasBit v2 v4) = 0 then v3 else (if (if (fX11_hasBit (M (g + 1) 7) v4) = 0 then (if 1 < (wr32 ((wr32 ((M g 14) + (fX11_get M (g + 4) 9 v4))) - 60)) then (wr32 ((wr32 ((M g 14) + (fX11_get M (g + 4) 9 v4))) - 60)) else 1) else 201) < v3 then (if (fX11_hasBit (M (g + 1) 7) v4) = 0 then (if 1 < (wr32 ((wr32 ((M g 14) + (fX11_get M (g + 4) 9 v4))) - 60)) then (wr32 ((wr32 ((M g 14) + (fX11_get M (g + 4) 9 v4))) - 60)) else 1) else 201) else v3))), (0, (wr32 (v4 + 1))), (3, 0)]) (pc' := 95) dX7_findFirst_92 rfl (by decide) rfl rfl ?_
          refine T_goto (pc' := 7) dX7_findFirst_95 (by decide) ?_
          rw [hw]
          have hp0 : (fmX11_put M 12 9 v4 (if (fX11_hasBit (M (g + 1) 7) v4) = 0 then (if 1 < (wr32 ((wr32 ((M g 14) + (fX11_get M (g + 4) 9 v4))) - 60)) then (wr32 ((wr32 ((M g 14) + (fX11_get M (g + 4) 9 v4))) - 60)) else 1) else 201)) (g + 1) = M (g + 1) := by
            exact ((frX11_put (by first | decide | (unfold isG at *; omega) | exact rowne (by unfold isG at *; omega) (by unfold isG at *; omega) (by unfold isG at *; omega))).trans rfl)
          have hbd : ((fmX11_put M 12 9 v4 (if (fX11_hasBit (M (g + 1) 7) v4) = 0 then (if 1 < (wr32 ((wr32 ((M g 14) + (fX11_get M (g + 4) 9 v4))) - 60)) then (wr32 ((wr32 ((M g 14) + (fX11_get M (g + 4) 9 v4))) - 60)) else 1) else 201)) (g + 1) 8) = (M (g + 1) 8) := by
            simp only [hp0]
          exact T_wk (ih _ _ (v4 + 1) _ (by omega) (by rw [hbd]; omega) hQ (gX11_put (h := h) (M := M) (p0 := 12) (np0 := 9) (v1 := v4) (v2 := (if (fX11_hasBit (M (g + 1) 7) v4) = 0 then (if 1 < (wr32 ((wr32 ((M g 14) + (fX11_get M (g + 4) 9 v4))) - 60)) then (wr32 ((wr32 ((M g 14) + (fX11_get M (g + 4) 9 v4))) - 60)) else 1) else 201)) (by decide) rfl (by decide) hG)) ⟨Or.inr rfl, Or.inr rfl, Or.inr rfl, Or.inr rfl, Or.inr rfl, Or.inl rfl, trivial⟩
        refine T_if_eq (pc' := 92) dX7_findFirst_82 (by decide) (pf := 85) rfl (fun c7 => ?_) (fun c7 => ?_)
        · skip
          exact T_wk (L' := [(2, 9), (2, g), (0, v2), (0, v3), (0, v4), (3, 0)]) (by have q := HJ6; try simp only [if_pos c7] at q; exact q) ⟨Or.inr rfl, Or.inr rfl, Or.inr rfl, Or.inr rfl, Or.inr rfl, Or.inl rfl, trivial⟩
        · skip
          refine T_iload_n (i := 3) (pc' := 86) dX7_findFirst_85 rfl rfl rfl ?_
          refine T_iload (i := 5) (pc' := 88) dX7_findFirst_86 rfl rfl ?_
          refine U_mmin (pc' := 91) dX7_findFirst_88 rfl mlX7_126 (Nat.le_of_ble_eq_true rfl) (by decide) ⟨by decide, by decide⟩ rfl ?_
          refine T_istore_n (i := 3) (L' := [(2, 9), (2, g), (0, v2), (0, (if (if (fX11_hasBit (M (g + 1) 7) v4) = 0 then (if 1 < (wr32 ((wr32 ((M g 14) + (fX11_get M (g + 4) 9 v4))) - 60)) then (wr32 ((wr32 ((M g 14) + (fX11_get M (g + 4) 9 v4))) - 60)) else 1) else 201) < v3 then (if (fX11_hasBit (M (g + 1) 7) v4) = 0 then (if 1 < (wr32 ((wr32 ((M g 14) + (fX11_get M (g + 4) 9 v4))) - 60)) then (wr32 ((wr32 ((M g 14) + (fX11_get M (g + 4) 9 v4))) - 60)) else 1) else 201) else v3)), (0, v4), (0, (if (fX11_hasBit (M (g + 1) 7) v4) = 0 then (if 1 < (wr32 ((wr32 ((M g 14) + (fX11_get M (g + 4) 9 v4))) - 60)) then (wr32 ((wr32 ((M g 14) + (fX11_get M (g + 4) 9 v4))) - 60)) else 1) else 201))]) (pc' := 92) dX7_findFirst_91 rfl (by decide) rfl rfl ?_
          exact T_wk (L' := [(2, 9), (2, g), (0, v2), (0, (if (if (fX11_hasBit (M (g + 1) 7) v4) = 0 then (if 1 < (wr32 ((wr32 ((M g 14) + (fX11_get M (g + 4) 9 v4))) - 60)) then (wr32 ((wr32 ((M g 14) + (fX11_get M (g + 4) 9 v4))) - 60)) else 1) else 201) < v3 then (if (fX11_hasBit (M (g + 1) 7) v4) = 0 then (if 1 < (wr32 ((wr32 ((M g 14) + (fX11_get M (g + 4) 9 v4))) - 60)) then (wr32 ((wr32 ((M g 14) + (fX11_get M (g + 4) 9 v4))) - 60)) else 1) else 201) else v3)), (0, v4), (3, 0)]) (by have q := HJ6; try simp only [if_neg c7] at q; exact q) ⟨Or.inr rfl, Or.inr rfl, Or.inr rfl, Or.inr rfl, Or.inr rfl, Or.inl rfl, trivial⟩
      refine T_if_ne (pc' := 65) dX7_findFirst_36 (by decide) (pf := 39) rfl (fun c8 => ?_) (fun c8 => ?_)
      · skip
        exact T_wk (L' := [(2, 9), (2, g), (0, v2), (0, v3), (0, v4), (0, 201)]) (by have q := HJ3; try simp only [if_neg c8] at q; exact q) ⟨Or.inr rfl, Or.inr rfl, Or.inr rfl, Or.inr rfl, Or.inr rfl, Or.inr rfl, trivial⟩
      · skip
        refine T_iconst (pc' := 40) dX7_findFirst_39 (by decide) rfl ?_
        refine T_aload_n (i := 1) (pc' := 41) dX7_findFirst_40 rfl rfl rfl ?_
        refine U_gfN (v := (0, (M g 14))) (k := 14) (kI := 14) (pc' := 44) dX7_findFirst_41 rfl cl1 (pog0 hg) (shg0 hg) (by decide) flX7_132 rfl rfl (by decide) rfl rfl ?_
        refine T_aload_n (i := 1) (pc' := 45) dX7_findFirst_44 rfl rfl rfl ?_
        refine U_grN (q := (g + 1)) (k := 0) (kI := 0) (pc' := 48) dX7_findFirst_45 rfl cl1 (pog0 hg) (shg0 hg) (by decide) flX7_46 rfl rfl rfl (grg0_0 hg hG) (pog1 hg) rfl ?_
        refine U_grN (q := (g + 4)) (k := 2) (kI := 2) (pc' := 51) dX7_findFirst_48 rfl cl4 (pog1 hg) (shg1 hg) (by decide) flX7_135 rfl rfl rfl (grg1_2 hg hG) (pog4 hg) rfl ?_
        refine T_iload (i := 4) (pc' := 53) dX7_findFirst_51 rfl rfl ?_
        refine T_callSN (av := [(2, (g + 4)), (0, v4)]) (st := [(0, (M g 14)), (0, 1)]) (d2 := 1) (nc2 := 0) (ns2 := 0) (pc' := 56) dX7_findFirst_53 rfl mtX11_get mvX11_get mlX7_71 rfl rfl (Nat.le_of_ble_eq_true rfl) (by decide) ⟨by decide, by decide⟩ rfl (pX11_get (E := E) (h := h) (M := M) (p0 := (g + 4)) (np0 := 9) (v1 := v4) (pog4 hg) (shg4 hg) (by decide) hG) (kF (st2 := [(0, (fX11_get M (g + 4) 9 v4)), (0, (M g 14)), (0, 1)]) rfl (fun hG9 => ?_))
        refine T_iadd (pc' := 57) dX7_findFirst_56 rfl ?_
        refine T_bipush (pc' := 59) dX7_findFirst_57 rfl (by decide) rfl ?_
        refine T_isub (pc' := 60) dX7_findFirst_59 rfl ?_
        refine U_mmax (pc' := 63) dX7_findFirst_60 rfl mlX7_117 (Nat.le_of_ble_eq_true rfl) (by decide) ⟨by decide, by decide⟩ rfl ?_
        refine T_istore (i := 5) (L' := [(2, 9), (2, g), (0, v2), (0, v3), (0, v4), (0, (if 1 < (wr32 ((wr32 ((M g 14) + (fX11_get M (g + 4) 9 v4))) - 60)) then (wr32 ((wr32 ((M g 14) + (fX11_get M (g + 4) 9 v4))) - 60)) else 1))]) (pc' := 65) dX7_findFirst_63 (by decide) rfl rfl ?_
        exact T_wk (L' := [(2, 9), (2, g), (0, v2), (0, v3), (0, v4), (0, (if 1 < (wr32 ((wr32 ((M g 14) + (fX11_get M (g + 4) 9 v4))) - 60)) then (wr32 ((wr32 ((M g 14) + (fX11_get M (g + 4) 9 v4))) - 60)) else 1))]) (by have q := HJ3; try simp only [if_pos c8] at q; exact q) ⟨Or.inr rfl, Or.inr rfl, Or.inr rfl, Or.inr rfl, Or.inr rfl, Or.inr rfl, trivial⟩
def fX7_findFirst (M : Mem) (g : Int) (v2 : Int) : Int :=
  (lX7_findFirst_7 g ((((M (g + 1) 8)) : Int) - 0).toNat v2 201 0 M)
def fmX7_findFirst (M : Mem) (g : Int) (v2 : Int) : Mem :=
  (lmX7_findFirst_7 g ((((M (g + 1) 8)) : Int) - 0).toNat v2 201 0 M)
theorem frX7_findFirst {M : Mem} {g : Int} {v2 : Int} {q : Int} (hq0 : q ≠ 12) : (fmX7_findFirst M g v2) q = M q := by
  unfold fmX7_findFirst
  exact ((frlX7_findFirst_7 hq0).trans rfl)
theorem gX7_findFirst {h : Int} {M : Mem} {g : Int} {v2 : Int} (hg : isG g) (hG : G h M) : G h (fmX7_findFirst M g v2) := by
  unfold fmX7_findFirst
  exact (glX7_findFirst_7 hg hG)
set_option maxRecDepth 100000 in
theorem pX7_findFirst {E : EV} {h : Int} {M : Mem} {g : Int} {v2 : Int} (hg : isG g) : C2 E miX7_findFirst 2 h [(2, 9), (2, g), (0, v2)] M (fun r M' => r = some (0, (fX7_findFirst M g v2)) ∧ M' = (fmX7_findFirst M g v2)) := by
  obtain ⟨Q, hQ0⟩ : ∃ Q : Option MV → Mem → Prop, Q = (fun r M' => r = some (0, (fX7_findFirst M g v2)) ∧ M' = (fmX7_findFirst M g v2)) := ⟨_, rfl⟩
  rw [← hQ0]
  have hQ : Q (some (0, (lX7_findFirst_7 g ((((M (g + 1) 8)) : Int) - 0).toNat v2 201 0 M))) (lmX7_findFirst_7 g ((((M (g + 1) 8)) : Int) - 0).toNat v2 201 0 M) := by rw [hQ0]; exact ⟨rfl, rfl⟩
  refine C2_of (L := [(2, 9), (2, g), (0, v2), (3, 0), (3, 0), (3, 0)]) (by decide +kernel) (Nat.le_of_ble_eq_true rfl) rfl (fun hG => ?_)
  refine T_sipush (pc' := 3) dX7_findFirst_0 rfl (by decide) rfl ?_
  refine T_istore_n (i := 3) (L' := [(2, 9), (2, g), (0, v2), (0, 201), (3, 0), (3, 0)]) (pc' := 4) dX7_findFirst_3 rfl (by decide) rfl rfl ?_
  refine T_iconst (pc' := 5) dX7_findFirst_4 (by decide) rfl ?_
  refine T_istore (i := 4) (L' := [(2, 9), (2, g), (0, v2), (0, 201), (0, 0), (3, 0)]) (pc' := 7) dX7_findFirst_5 (by decide) rfl rfl ?_
  exact T_wk (qX7_findFirst_7 hg _ v2 201 0 _ (by first | decide | omega) rfl hQ hG) ⟨Or.inr rfl, Or.inr rfl, Or.inr rfl, Or.inr rfl, Or.inr rfl, Or.inl rfl, trivial⟩
def lX7_opensBy_68 (g : Int) (v2 : Int) (v3 : Int) : Nat → Int → Int → Int → Int → Int → Mem → Int
  | 0, v4, v5, v6, v7, v8, M => (if v7 < v5 then (0 : Int) else 2)
  | k + 1, v4, v5, v6, v7, v8, M => (lX7_opensBy_68 g v2 v3 k v4 v5 v6 (if (fX11_hasBit v4 v8) = 0 then v7 else (if (fX1_isNear M g v6 (fX11_get M 14 9 v8)) = 0 then v7 else (wr32 (v7 + 1)))) (v8 + 1) M)
set_option maxRecDepth 100000 in
set_option maxHeartbeats 2000000 in
theorem qX7_opensBy_68 {E : EV} {h : Int} {Q : Option MV → Mem → Prop} {g : Int} {v2 : Int} {v3 : Int} (hg : isG g) : ∀ (k : Nat) (v4 v5 v6 v7 v8 : Int) (M : Mem), 0 ≤ v8 → (((M (g + 1) 8)) - v8).toNat = k → Q (some (0, (lX7_opensBy_68 g v2 v3 k v4 v5 v6 v7 v8 M))) M → G h M → TG E miX7_opensBy 2 h Q 68 [(2, 9), (2, g), (3, 0), (3, 0), (0, v4), (0, v5), (0, v6), (0, v7), (0, v8)] [] M := by
  intro k
  induction k with
  | zero =>
    intro v4 v5 v6 v7 v8 M hv0 hk hQ hG
    have hQ : Q (some (0, (if v7 < v5 then (0 : Int) else 2))) M := hQ
    refine T_iload (i := 8) (pc' := 70) dX7_opensBy_68 rfl rfl ?_
    refine T_aload_n (i := 1) (pc' := 71) dX7_opensBy_70 rfl rfl rfl ?_
    refine U_grN (q := (g + 1)) (k := 0) (kI := 0) (pc' := 74) dX7_opensBy_71 rfl cl1 (pog0 hg) (shg0 hg) (by decide) flX7_46 rfl rfl rfl (grg0_0 hg hG) (pog1 hg) rfl ?_
    refine U_gfN (v := (0, (M (g + 1) 8))) (k := 8) (kI := 8) (pc' := 77) dX7_opensBy_74 rfl cl4 (pog1 hg) (shg1 hg) (by decide) flX7_52 rfl rfl (by decide) rfl rfl ?_
    refine T_rng (fun _ z9 _ => ?_)
    have hB : r32 (M (g + 1) 8) := (ok_cons.mp z9).1
    unfold r32 at hB
    refine T_icmp_ge (pc' := 117) dX7_opensBy_77 (by decide) (pf := 80) rfl (fun c1 => ?_) (fun c1 => ?_)
    · skip
      refine T_iload (i := 7) (pc' := 119) dX7_opensBy_117 rfl rfl ?_
      refine T_iload (i := 5) (pc' := 121) dX7_opensBy_119 rfl rfl ?_
      have HJ2 : T E miX7_opensBy 2 126 0 0 (fun r S M' => S = S0 ∧ G h M' ∧ Q r M') 129 [(3, 0), (3, 0), (3, 0), (3, 0), (3, 0), (3, 0), (3, 0), (3, 0), (3, 0)] [(0, (if v7 < v5 then (0 : Int) else 2))] S0 M 0 0 := by
        exact T_iret dX7_opensBy_129 rfl ⟨rfl, hG, hQ⟩
      refine T_icmp_lt (pc' := 128) dX7_opensBy_121 (by decide) (pf := 124) rfl (fun c3 => ?_) (fun c3 => ?_)
      · skip
        refine T_iconst (pc' := 129) dX7_opensBy_128 (by decide) rfl ?_
        exact T_wk (L' := [(3, 0), (3, 0), (3, 0), (3, 0), (3, 0), (3, 0), (3, 0), (3, 0), (3, 0)]) (by have q := HJ2; try simp only [if_pos c3] at q; exact q) ⟨Or.inl rfl, Or.inl rfl, Or.inl rfl, Or.inl rfl, Or.inl rfl, Or.inl rfl, Or.inl rfl, Or.inl rfl, Or.inl rfl, trivial⟩
      · skip
        refine T_iconst (pc' := 125) dX7_opensBy_124 (by decide) rfl ?_
        refine T_goto (pc' := 129) dX7_opensBy_125 (by decide) ?_
        exact T_wk (L' := [(3, 0), (3, 0), (3, 0), (3, 0), (3, 0), (3, 0), (3, 0), (3, 0), (3, 0)]) (by have q := HJ2; try simp only [if_neg c3] at q; exact q) ⟨Or.inl rfl, Or.inl rfl, Or.inl rfl, Or.inl rfl, Or.inl rfl, Or.inl rfl, Or.inl rfl, Or.inl rfl, Or.inl rfl, trivial⟩
    · exact absurd c1 (by omega)
  | succ k ih =>
    intro v4 v5 v6 v7 v8 M hv0 hk hQ hG
    have hQ : Q (some (0, (lX7_opensBy_68 g v2 v3 k v4 v5 v6 (if (fX11_hasBit v4 v8) = 0 then v7 else (if (fX1_isNear M g v6 (fX11_get M 14 9 v8)) = 0 then v7 else (wr32 (v7 + 1)))) (v8 + 1) M))) M := hQ
    refine T_iload (i := 8) (pc' := 70) dX7_opensBy_68 rfl rfl ?_
    refine T_aload_n (i := 1) (pc' := 71) dX7_opensBy_70 rfl rfl rfl ?_
    refine U_grN (q := (g + 1)) (k := 0) (kI := 0) (pc' := 74) dX7_opensBy_71 rfl cl1 (pog0 hg) (shg0 hg) (by decide) flX7_46 rfl rfl rfl (grg0_0 hg hG) (pog1 hg) rfl ?_
    refine U_gfN (v := (0, (M (g + 1) 8))) (k := 8) (kI := 8) (pc' := 77) dX7_opensBy_74 rfl cl4 (pog1 hg) (shg1 hg) (by decide) flX7_52 rfl rfl (by decide) rfl rfl ?_
    refine T_rng (fun _ z9 _ => ?_)
    have hB : r32 (M (g + 1) 8) := (ok_cons.mp z9).1
    unfold r32 at hB
    refine T_icmp_ge (pc' := 117) dX7_opensBy_77 (by decide) (pf := 80) rfl (fun c1 => ?_) (fun c1 => ?_)
    · exact absurd c1 (by omega)
    · skip
      have hw : wr32 (v8 + 1) = v8 + 1 := wr32_id (by unfold r32; omega)
      refine T_iload (i := 4) (pc' := 82) dX7_opensBy_80 rfl rfl ?_
      refine T_iload (i := 8) (pc' := 84) dX7_opensBy_82 rfl rfl ?_
      refine T_callSN (av := [(0, v4), (0, v8)]) (st := []) (d2 := 1) (nc2 := 0) (ns2 := 0) (pc' := 87) dX7_opensBy_84 rfl mtX11_hasBit mvX11_hasBit mlX7_122 rfl rfl (Nat.le_of_ble_eq_true rfl) (by decide) ⟨by decide, by decide⟩ rfl (pX11_hasBit (E := E) (h := h) (M := M) (v0 := v4) (v1 := v8) hG) (kF (st2 := [(0, (fX11_hasBit v4 v8))]) rfl (fun hG4 => ?_))
      have HJ5 : T E miX7_opensBy 2 126 0 0 (fun r S M' => S = S0 ∧ G h M' ∧ Q r M') 111 [(2, 9), (2, g), (3, 0), (3, 0), (0, v4), (0, v5), (0, v6), (0, (if (fX11_hasBit v4 v8) = 0 then v7 else (if (fX1_isNear M g v6 (fX11_get M 14 9 v8)) = 0 then v7 else (wr32 (v7 + 1))))), (0, v8)] [] S0 M 0 0 := by
        refine T_iinc (L' := [(2, 9), (2, g), (3, 0), (3, 0), (0, v4), (0, v5), (0, v6), (0, (if (fX11_hasBit v4 v8) = 0 then v7 else (if (fX1_isNear M g v6 (fX11_get M 14 9 v8)) = 0 then v7 else (wr32 (v7 + 1))))), (0, (wr32 (v8 + 1)))]) (pc' := 114) dX7_opensBy_111 rfl (by decide) rfl rfl ?_
        refine T_goto (pc' := 68) dX7_opensBy_114 (by decide) ?_
        rw [hw]
        exact T_wk (ih _ _ _ _ (v8 + 1) _ (by omega) (by omega) hQ hG) ⟨Or.inr rfl, Or.inr rfl, Or.inl rfl, Or.inl rfl, Or.inr rfl, Or.inr rfl, Or.inr rfl, Or.inr rfl, Or.inr rfl, trivial⟩
      refine T_if_eq (pc' := 111) dX7_opensBy_87 (by decide) (pf := 90) rfl (fun c6 => ?_) (fun c6 => ?_)
      · skip
        exact T_wk (L' := [(2, 9), (2, g), (3, 0), (3, 0), (0, v4), (0, v5), (0, v6), (0, v7), (0, v8)]) (by have q := HJ5; try simp only [if_pos c6] at q; exact q) ⟨Or.inr rfl, Or.inr rfl, Or.inl rfl, Or.inl rfl, Or.inr rfl, Or.inr rfl, Or.inr rfl, Or.inr rfl, Or.inr rfl, trivial⟩
      · skip
        refine T_aload_n (i := 1) (pc' := 91) dX7_opensBy_90 rfl rfl rfl ?_
        refine T_iload (i := 6) (pc' := 93) dX7_opensBy_91 rfl rfl ?_
        refine T_aload_n (i := 0) (pc' := 94) dX7_opensBy_93 rfl rfl rfl ?_
        refine U_gr (q := 14) (k := 4) (kI := 4) (pc' := 97) dX7_opensBy_94 rfl cl7 (by decide) rfl (by decide) flX7_24 rfl rfl rfl (G_at hG 20 rfl) (by decide) rfl ?_
        refine T_iload (i := 8) (pc' := 99) dX7_opensBy_97 rfl rfl ?_
        refine T_callSN (av := [(2, 14), (0, v8)]) (st := [(0, v6), (2, g)]) (d2 := 1) (nc2 := 0) (ns2 := 0) (pc' := 102) dX7_opensBy_99 rfl mtX11_get mvX11_get mlX7_71 rfl rfl (Nat.le_of_ble_eq_true rfl) (by decide) ⟨by decide, by decide⟩ rfl (pX11_get (E := E) (h := h) (M := M) (p0 := 14) (np0 := 9) (v1 := v8) (by decide) rfl (by decide) hG) (kF (st2 := [(0, (fX11_get M 14 9 v8)), (0, v6), (2, g)]) rfl (fun hG7 => ?_))
        refine T_callV (av := [(0, v6), (0, (fX11_get M 14 9 v8))]) (st := []) (d2 := 1) (nc2 := 0) (ns2 := 0) (pc' := 105) dX7_opensBy_102 rfl mtX1_isNear mvX1_isNear mlX7_158 cl1 (shg0 hg) rfl rfl (Nat.le_of_ble_eq_true rfl) (by decide) ⟨by decide, by decide⟩ rfl (pX1_isNear (E := E) (h := h) (M := M) (g := g) (v1 := v6) (v2 := (fX11_get M 14 9 v8)) hg hG) (kF (st2 := [(0, (fX1_isNear M g v6 (fX11_get M 14 9 v8)))]) rfl (fun hG8 => ?_))
        refine T_if_eq (pc' := 111) dX7_opensBy_105 (by decide) (pf := 108) rfl (fun c9 => ?_) (fun c9 => ?_)
        · skip
          exact T_wk (L' := [(2, 9), (2, g), (3, 0), (3, 0), (0, v4), (0, v5), (0, v6), (0, v7), (0, v8)]) (by have q := HJ5; try simp only [if_neg c6] at q; try simp only [if_pos c9] at q; exact q) ⟨Or.inr rfl, Or.inr rfl, Or.inl rfl, Or.inl rfl, Or.inr rfl, Or.inr rfl, Or.inr rfl, Or.inr rfl, Or.inr rfl, trivial⟩
        · skip
          refine T_iinc (L' := [(2, 9), (2, g), (3, 0), (3, 0), (0, v4), (0, v5), (0, v6), (0, (wr32 (v7 + 1))), (0, v8)]) (pc' := 111) dX7_opensBy_108 rfl (by decide) rfl rfl ?_
          exact T_wk (L' := [(2, 9), (2, g), (3, 0), (3, 0), (0, v4), (0, v5), (0, v6), (0, (wr32 (v7 + 1))), (0, v8)]) (by have q := HJ5; try simp only [if_neg c6] at q; try simp only [if_neg c9] at q; exact q) ⟨Or.inr rfl, Or.inr rfl, Or.inl rfl, Or.inl rfl, Or.inr rfl, Or.inr rfl, Or.inr rfl, Or.inr rfl, Or.inr rfl, trivial⟩
def fX7_opensBy (M : Mem) (g : Int) (v2 : Int) (v3 : Int) (v4 : Int) : Int :=
  (if v3 < (fX11_get M 12 9 v2) then (if (fX11_get M (g + 5) 9 v2) ≤ 0 then 0 else (if (fX11_get M (g + 5) 9 v2) ≤ (fJ6_bitCount_0f7a4 v4) then (lX7_opensBy_68 g v2 v3 ((((M (g + 1) 8)) : Int) - 0).toNat v4 (fX11_get M (g + 5) 9 v2) (fX11_get M 10 1809 (wr32 ((wr32 ((wr32 (v2 * 201)) + v3)) - 1))) 0 0 M) else 0)) else 1)
set_option maxRecDepth 100000 in
theorem pX7_opensBy {E : EV} {h : Int} {M : Mem} {g : Int} {v2 : Int} {v3 : Int} {v4 : Int} (hg : isG g) : C2 E miX7_opensBy 2 h [(2, 9), (2, g), (0, v2), (0, v3), (0, v4)] M (fun r M' => r = some (0, (fX7_opensBy M g v2 v3 v4)) ∧ M' = M) := by
  obtain ⟨Q, hQ0⟩ : ∃ Q : Option MV → Mem → Prop, Q = (fun r M' => r = some (0, (fX7_opensBy M g v2 v3 v4)) ∧ M' = M) := ⟨_, rfl⟩
  rw [← hQ0]
  have hQ : Q (some (0, (if v3 < (fX11_get M 12 9 v2) then (if (fX11_get M (g + 5) 9 v2) ≤ 0 then 0 else (if (fX11_get M (g + 5) 9 v2) ≤ (fJ6_bitCount_0f7a4 v4) then (lX7_opensBy_68 g v2 v3 ((((M (g + 1) 8)) : Int) - 0).toNat v4 (fX11_get M (g + 5) 9 v2) (fX11_get M 10 1809 (wr32 ((wr32 ((wr32 (v2 * 201)) + v3)) - 1))) 0 0 M) else 0)) else 1))) M := by rw [hQ0]; exact ⟨rfl, rfl⟩
  refine C2_of (L := [(2, 9), (2, g), (0, v2), (0, v3), (0, v4), (3, 0), (3, 0), (3, 0), (3, 0)]) (by decide +kernel) (Nat.le_of_ble_eq_true rfl) rfl (fun hG => ?_)
  refine T_iload_n (i := 3) (pc' := 1) dX7_opensBy_0 rfl rfl rfl ?_
  refine T_aload_n (i := 0) (pc' := 2) dX7_opensBy_1 rfl rfl rfl ?_
  refine U_gr (q := 12) (k := 2) (kI := 2) (pc' := 5) dX7_opensBy_2 rfl cl7 (by decide) rfl (by decide) flX7_18 rfl rfl rfl (G_at hG 18 rfl) (by decide) rfl ?_
  refine T_iload_n (i := 2) (pc' := 6) dX7_opensBy_5 rfl rfl rfl ?_
  refine T_callSN (av := [(2, 12), (0, v2)]) (st := [(0, v3)]) (d2 := 1) (nc2 := 0) (ns2 := 0) (pc' := 9) dX7_opensBy_6 rfl mtX11_get mvX11_get mlX7_71 rfl rfl (Nat.le_of_ble_eq_true rfl) (by decide) ⟨by decide, by decide⟩ rfl (pX11_get (E := E) (h := h) (M := M) (p0 := 12) (np0 := 9) (v1 := v2) (by decide) rfl (by decide) hG) (kF (st2 := [(0, (fX11_get M 12 9 v2)), (0, v3)]) rfl (fun hG1 => ?_))
  refine T_icmp_lt (pc' := 14) dX7_opensBy_9 (by decide) (pf := 12) rfl (fun c2 => ?_) (fun c2 => ?_)
  · skip
    refine T_aload_n (i := 1) (pc' := 15) dX7_opensBy_14 rfl rfl rfl ?_
    refine U_grN (q := (g + 1)) (k := 0) (kI := 0) (pc' := 18) dX7_opensBy_15 rfl cl1 (pog0 hg) (shg0 hg) (by decide) flX7_46 rfl rfl rfl (grg0_0 hg hG) (pog1 hg) rfl ?_
    refine U_grN (q := (g + 5)) (k := 3) (kI := 3) (pc' := 21) dX7_opensBy_18 rfl cl4 (pog1 hg) (shg1 hg) (by decide) flX7_155 rfl rfl rfl (grg1_3 hg hG) (pog5 hg) rfl ?_
    refine T_iload_n (i := 2) (pc' := 22) dX7_opensBy_21 rfl rfl rfl ?_
    refine T_callSN (av := [(2, (g + 5)), (0, v2)]) (st := []) (d2 := 1) (nc2 := 0) (ns2 := 0) (pc' := 25) dX7_opensBy_22 rfl mtX11_get mvX11_get mlX7_71 rfl rfl (Nat.le_of_ble_eq_true rfl) (by decide) ⟨by decide, by decide⟩ rfl (pX11_get (E := E) (h := h) (M := M) (p0 := (g + 5)) (np0 := 9) (v1 := v2) (pog5 hg) (shg5 hg) (by decide) hG) (kF (st2 := [(0, (fX11_get M (g + 5) 9 v2))]) rfl (fun hG3 => ?_))
    refine T_istore (i := 5) (L' := [(2, 9), (2, g), (0, v2), (0, v3), (0, v4), (0, (fX11_get M (g + 5) 9 v2)), (3, 0), (3, 0), (3, 0)]) (pc' := 27) dX7_opensBy_25 (by decide) rfl rfl ?_
    refine T_iload (i := 5) (pc' := 29) dX7_opensBy_27 rfl rfl ?_
    refine T_if_le (pc' := 42) dX7_opensBy_29 (by decide) (pf := 32) rfl (fun c4 => ?_) (fun c4 => ?_)
    · skip
      refine T_iconst (pc' := 43) dX7_opensBy_42 (by decide) rfl ?_
      exact T_iret dX7_opensBy_43 rfl ⟨rfl, hG, (by have q := hQ; try simp only [if_pos c2] at q; try simp only [if_pos c4] at q; exact q)⟩
    · skip
      refine T_iload (i := 5) (pc' := 34) dX7_opensBy_32 rfl rfl ?_
      refine T_iload (i := 4) (pc' := 36) dX7_opensBy_34 rfl rfl ?_
      refine T_callS (av := [(0, v4)]) (st := [(0, (fX11_get M (g + 5) 9 v2))]) (d2 := 1) (nc2 := 0) (ns2 := 0) (pc' := 39) dX7_opensBy_36 rfl mtJ6_bitCount_0f7a4 mvJ6_bitCount_0f7a4 mlX7_138 rfl rfl (Nat.le_of_ble_eq_true rfl) (by decide) ⟨by decide, by decide⟩ rfl (pJ6_bitCount_0f7a4 (E := E) (h := h) (M := M) (v0 := v4) hG) (kF (st2 := [(0, (fJ6_bitCount_0f7a4 v4)), (0, (fX11_get M (g + 5) 9 v2))]) rfl (fun hG5 => ?_))
      refine T_icmp_le (pc' := 44) dX7_opensBy_39 (by decide) (pf := 42) rfl (fun c6 => ?_) (fun c6 => ?_)
      · skip
        refine T_aload_n (i := 0) (pc' := 45) dX7_opensBy_44 rfl rfl rfl ?_
        refine U_gr (q := 10) (k := 0) (kI := 0) (pc' := 48) dX7_opensBy_45 rfl cl7 (by decide) rfl (by decide) flX7_9 rfl rfl rfl (G_at hG 16 rfl) (by decide) rfl ?_
        refine T_iload_n (i := 2) (pc' := 49) dX7_opensBy_48 rfl rfl rfl ?_
        refine T_sipush (pc' := 52) dX7_opensBy_49 rfl (by decide) rfl ?_
        refine T_imul (pc' := 53) dX7_opensBy_52 rfl ?_
        refine T_iload_n (i := 3) (pc' := 54) dX7_opensBy_53 rfl rfl rfl ?_
        refine T_iadd (pc' := 55) dX7_opensBy_54 rfl ?_
        refine T_iconst (pc' := 56) dX7_opensBy_55 (by decide) rfl ?_
        refine T_isub (pc' := 57) dX7_opensBy_56 rfl ?_
        refine T_callSN (av := [(2, 10), (0, (wr32 ((wr32 ((wr32 (v2 * 201)) + v3)) - 1)))]) (st := []) (d2 := 1) (nc2 := 0) (ns2 := 0) (pc' := 60) dX7_opensBy_57 rfl mtX11_get mvX11_get mlX7_71 rfl rfl (Nat.le_of_ble_eq_true rfl) (by decide) ⟨by decide, by decide⟩ rfl (pX11_get (E := E) (h := h) (M := M) (p0 := 10) (np0 := 1809) (v1 := (wr32 ((wr32 ((wr32 (v2 * 201)) + v3)) - 1))) (by decide) rfl (by decide) hG) (kF (st2 := [(0, (fX11_get M 10 1809 (wr32 ((wr32 ((wr32 (v2 * 201)) + v3)) - 1))))]) rfl (fun hG7 => ?_))
        refine T_istore (i := 6) (L' := [(2, 9), (2, g), (0, v2), (0, v3), (0, v4), (0, (fX11_get M (g + 5) 9 v2)), (0, (fX11_get M 10 1809 (wr32 ((wr32 ((wr32 (v2 * 201)) + v3)) - 1)))), (3, 0), (3, 0)]) (pc' := 62) dX7_opensBy_60 (by decide) rfl rfl ?_
        refine T_iconst (pc' := 63) dX7_opensBy_62 (by decide) rfl ?_
        refine T_istore (i := 7) (L' := [(2, 9), (2, g), (0, v2), (0, v3), (0, v4), (0, (fX11_get M (g + 5) 9 v2)), (0, (fX11_get M 10 1809 (wr32 ((wr32 ((wr32 (v2 * 201)) + v3)) - 1)))), (0, 0), (3, 0)]) (pc' := 65) dX7_opensBy_63 (by decide) rfl rfl ?_
        refine T_iconst (pc' := 66) dX7_opensBy_65 (by decide) rfl ?_
        refine T_istore (i := 8) (L' := [(2, 9), (2, g), (0, v2), (0, v3), (0, v4), (0, (fX11_get M (g + 5) 9 v2)), (0, (fX11_get M 10 1809 (wr32 ((wr32 ((wr32 (v2 * 201)) + v3)) - 1)))), (0, 0), (0, 0)]) (pc' := 68) dX7_opensBy_66 (by decide) rfl rfl ?_
        exact T_wk (qX7_opensBy_68 hg _ v4 (fX11_get M (g + 5) 9 v2) (fX11_get M 10 1809 (wr32 ((wr32 ((wr32 (v2 * 201)) + v3)) - 1))) 0 0 _ (by first | decide | omega) rfl (by have q := hQ; try simp only [if_pos c2] at q; try simp only [if_neg c4] at q; try simp only [if_pos c6] at q; exact q) hG) ⟨Or.inr rfl, Or.inr rfl, Or.inl rfl, Or.inl rfl, Or.inr rfl, Or.inr rfl, Or.inr rfl, Or.inr rfl, Or.inr rfl, trivial⟩
      · skip
        refine T_iconst (pc' := 43) dX7_opensBy_42 (by decide) rfl ?_
        exact T_iret dX7_opensBy_43 rfl ⟨rfl, hG, (by have q := hQ; try simp only [if_pos c2] at q; try simp only [if_neg c4] at q; try simp only [if_neg c6] at q; exact q)⟩
  · skip
    refine T_iconst (pc' := 13) dX7_opensBy_12 (by decide) rfl ?_
    exact T_iret dX7_opensBy_13 rfl ⟨rfl, hG, (by have q := hQ; try simp only [if_neg c2] at q; exact q)⟩
def lmX7_goOn_8 (g : Int) : Nat → Int → Int → Int → Mem → Mem
  | 0, v2, v3, v4, M => (if (fJ6_bitCount_0f7a4 (M 9 7)) < (M g 17) then M else (mset M 9 8 (m_or (M 9 8) (M 9 7))))
  | k + 1, v2, v3, v4, M => (lmX7_goOn_8 g k v2 v3 (v4 + 1) (if (m_and (M 9 6) (m_shl 1 v4)) = 0 then (if (m_and v3 (m_shl 1 v4)) = 0 then M else (if v2 < (wr32 ((fX11_get M 13 9 v4) + (M g 15))) then M else (mset M 9 7 (m_and (M 9 7) (m_xor (m_shl 1 v4) (-1)))))) else (if (fX7_opensBy M g v4 v2 v3) = 0 then M else (mset (mset (fmX11_put (fmX11_put (fmX11_put M 13 9 v4 v2) 14 9 v4 (fX11_get (fmX11_put M 13 9 v4 v2) 10 1809 (wr32 ((wr32 ((wr32 (v4 * 201)) + v2)) - 1)))) 15 9 v4 (fX7_opensBy M g v4 v2 v3)) 9 6 (m_and ((fmX11_put (fmX11_put (fmX11_put M 13 9 v4 v2) 14 9 v4 (fX11_get (fmX11_put M 13 9 v4 v2) 10 1809 (wr32 ((wr32 ((wr32 (v4 * 201)) + v2)) - 1)))) 15 9 v4 (fX7_opensBy M g v4 v2 v3)) 9 6) (m_xor (m_shl 1 v4) (-1)))) 9 7 (m_or ((mset (fmX11_put (fmX11_put (fmX11_put M 13 9 v4 v2) 14 9 v4 (fX11_get (fmX11_put M 13 9 v4 v2) 10 1809 (wr32 ((wr32 ((wr32 (v4 * 201)) + v2)) - 1)))) 15 9 v4 (fX7_opensBy M g v4 v2 v3)) 9 6 (m_and ((fmX11_put (fmX11_put (fmX11_put M 13 9 v4 v2) 14 9 v4 (fX11_get (fmX11_put M 13 9 v4 v2) 10 1809 (wr32 ((wr32 ((wr32 (v4 * 201)) + v2)) - 1)))) 15 9 v4 (fX7_opensBy M g v4 v2 v3)) 9 6) (m_xor (m_shl 1 v4) (-1)))) 9 7) (m_shl 1 v4))))))
theorem frlX7_goOn_8 {g : Int} {q : Int} (hq0 : q ≠ 9) (hq1 : q ≠ 13) (hq2 : q ≠ 14) (hq3 : q ≠ 15) : ∀ {k : Nat} {v2 v3 v4 : Int} {M : Mem}, (lmX7_goOn_8 g k v2 v3 v4 M) q = M q := by
  intro k
  induction k with
  | zero =>
    intro v2 v3 v4 M
    show (if (fJ6_bitCount_0f7a4 (M 9 7)) < (M g 17) then M else (mset M 9 8 (m_or (M 9 8) (M 9 7)))) q = M q
    exact (ite_q rfl ((mset_p hq0).trans rfl))
  | succ k ih =>
    intro v2 v3 v4 M
    show (lmX7_goOn_8 g k v2 v3 (v4 + 1) (if (m_and (M 9 6) (m_shl 1 v4)) = 0 then (if (m_and v3 (m_shl 1 v4)) = 0 then M else (if v2 < (wr32 ((fX11_get M 13 9 v4) + (M g 15))) then M else (mset M 9 7 (m_and (M 9 7) (m_xor (m_shl 1 v4) (-1)))))) else (if (fX7_opensBy M g v4 v2 v3) = 0 then M else (mset (mset (fmX11_put (fmX11_put (fmX11_put M 13 9 v4 v2) 14 9 v4 (fX11_get (fmX11_put M 13 9 v4 v2) 10 1809 (wr32 ((wr32 ((wr32 (v4 * 201)) + v2)) - 1)))) 15 9 v4 (fX7_opensBy M g v4 v2 v3)) 9 6 (m_and ((fmX11_put (fmX11_put (fmX11_put M 13 9 v4 v2) 14 9 v4 (fX11_get (fmX11_put M 13 9 v4 v2) 10 1809 (wr32 ((wr32 ((wr32 (v4 * 201)) + v2)) - 1)))) 15 9 v4 (fX7_opensBy M g v4 v2 v3)) 9 6) (m_xor (m_shl 1 v4) (-1)))) 9 7 (m_or ((mset (fmX11_put (fmX11_put (fmX11_put M 13 9 v4 v2) 14 9 v4 (fX11_get (fmX11_put M 13 9 v4 v2) 10 1809 (wr32 ((wr32 ((wr32 (v4 * 201)) + v2)) - 1)))) 15 9 v4 (fX7_opensBy M g v4 v2 v3)) 9 6 (m_and ((fmX11_put (fmX11_put (fmX11_put M 13 9 v4 v2) 14 9 v4 (fX11_get (fmX11_put M 13 9 v4 v2) 10 1809 (wr32 ((wr32 ((wr32 (v4 * 201)) + v2)) - 1)))) 15 9 v4 (fX7_opensBy M g v4 v2 v3)) 9 6) (m_xor (m_shl 1 v4) (-1)))) 9 7) (m_shl 1 v4)))))) q = M q
    exact ((ih).trans (ite_q (ite_q rfl (ite_q rfl ((mset_p hq0).trans rfl))) (ite_q rfl ((mset_p hq0).trans ((mset_p hq0).trans ((frX11_put hq3).trans ((frX11_put hq2).trans ((frX11_put hq1).trans rfl))))))))
theorem glX7_goOn_8 {h : Int} {g : Int} (hg : isG g) : ∀ {k : Nat} {v2 v3 v4 : Int} {M : Mem}, G h M → G h (lmX7_goOn_8 g k v2 v3 v4 M) := by
  intro k
  induction k with
  | zero =>
    intro v2 v3 v4 M hG
    show G h (if (fJ6_bitCount_0f7a4 (M 9 7)) < (M g 17) then M else (mset M 9 8 (m_or (M 9 8) (M 9 7))))
    exact (G_ite hG (G_fld (x := 9) (i := 8) (y := (m_or (M 9 8) (M 9 7))) rfl (by decide) (by decide) (by decide) hG))
  | succ k ih =>
    intro v2 v3 v4 M hG
    show G h (lmX7_goOn_8 g k v2 v3 (v4 + 1) (if (m_and (M 9 6) (m_shl 1 v4)) = 0 then (if (m_and v3 (m_shl 1 v4)) = 0 then M else (if v2 < (wr32 ((fX11_get M 13 9 v4) + (M g 15))) then M else (mset M 9 7 (m_and (M 9 7) (m_xor (m_shl 1 v4) (-1)))))) else (if (fX7_opensBy M g v4 v2 v3) = 0 then M else (mset (mset (fmX11_put (fmX11_put (fmX11_put M 13 9 v4 v2) 14 9 v4 (fX11_get (fmX11_put M 13 9 v4 v2) 10 1809 (wr32 ((wr32 ((wr32 (v4 * 201)) + v2)) - 1)))) 15 9 v4 (fX7_opensBy M g v4 v2 v3)) 9 6 (m_and ((fmX11_put (fmX11_put (fmX11_put M 13 9 v4 v2) 14 9 v4 (fX11_get (fmX11_put M 13 9 v4 v2) 10 1809 (wr32 ((wr32 ((wr32 (v4 * 201)) + v2)) - 1)))) 15 9 v4 (fX7_opensBy M g v4 v2 v3)) 9 6) (m_xor (m_shl 1 v4) (-1)))) 9 7 (m_or ((mset (fmX11_put (fmX11_put (fmX11_put M 13 9 v4 v2) 14 9 v4 (fX11_get (fmX11_put M 13 9 v4 v2) 10 1809 (wr32 ((wr32 ((wr32 (v4 * 201)) + v2)) - 1)))) 15 9 v4 (fX7_opensBy M g v4 v2 v3)) 9 6 (m_and ((fmX11_put (fmX11_put (fmX11_put M 13 9 v4 v2) 14 9 v4 (fX11_get (fmX11_put M 13 9 v4 v2) 10 1809 (wr32 ((wr32 ((wr32 (v4 * 201)) + v2)) - 1)))) 15 9 v4 (fX7_opensBy M g v4 v2 v3)) 9 6) (m_xor (m_shl 1 v4) (-1)))) 9 7) (m_shl 1 v4))))))
    exact (ih (G_ite (G_ite hG (G_ite hG (G_fld (x := 9) (i := 7) (y := (m_and (M 9 7) (m_xor (m_shl 1 v4) (-1)))) rfl (by decide) (by decide) (by decide) hG))) (G_ite hG (G_fld (x := 9) (i := 7) (y := (m_or ((mset (fmX11_put (fmX11_put (fmX11_put M 13 9 v4 v2) 14 9 v4 (fX11_get (fmX11_put M 13 9 v4 v2) 10 1809 (wr32 ((wr32 ((wr32 (v4 * 201)) + v2)) - 1)))) 15 9 v4 (fX7_opensBy M g v4 v2 v3)) 9 6 (m_and ((fmX11_put (fmX11_put (fmX11_put M 13 9 v4 v2) 14 9 v4 (fX11_get (fmX11_put M 13 9 v4 v2) 10 1809 (wr32 ((wr32 ((wr32 (v4 * 201)) + v2)) - 1)))) 15 9 v4 (fX7_opensBy M g v4 v2 v3)) 9 6) (m_xor (m_shl 1 v4) (-1)))) 9 7) (m_shl 1 v4))) rfl (by decide) (by decide) (by decide) (G_fld (x := 9) (i := 6) (y := (m_and ((fmX11_put (fmX11_put (fmX11_put M 13 9 v4 v2) 14 9 v4 (fX11_get (fmX11_put M 13 9 v4 v2) 10 1809 (wr32 ((wr32 ((wr32 (v4 * 201)) + v2)) - 1)))) 15 9 v4 (fX7_opensBy M g v4 v2 v3)) 9 6) (m_xor (m_shl 1 v4) (-1)))) rfl (by decide) (by decide) (by decide) (gX11_put (h := h) (M := (fmX11_put (fmX11_put M 13 9 v4 v2) 14 9 v4 (fX11_get (fmX11_put M 13 9 v4 v2) 10 1809 (wr32 ((wr32 ((wr32 (v4 * 201)) + v2)) - 1))))) (p0 := 15) (np0 := 9) (v1 := v4) (v2 := (fX7_opensBy M g v4 v2 v3)) (by decide) rfl (by decide) (gX11_put (h := h) (M := (fmX11_put M 13 9 v4 v2)) (p0 := 14) (np0 := 9) (v1 := v4) (v2 := (fX11_get (fmX11_put M 13 9 v4 v2) 10 1809 (wr32 ((wr32 ((wr32 (v4 * 201)) + v2)) - 1)))) (by decide) rfl (by decide) (gX11_put (h := h) (M := M) (p0 := 13) (np0 := 9) (v1 := v4) (v2 := v2) (by decide) rfl (by decide) hG))))))))
set_option maxRecDepth 100000 in
set_option maxHeartbeats 2000000 in
theorem qX7_goOn_8 {E : EV} {h : Int} {Q : Option MV → Mem → Prop} {g : Int} (hg : isG g) : ∀ (k : Nat) (v2 v3 v4 : Int) (M : Mem), 0 ≤ v4 → (((M (g + 1) 8)) - v4).toNat = k → Q none (lmX7_goOn_8 g k v2 v3 v4 M) → G h M → TG E miX7_goOn 3 h Q 8 [(2, 9), (2, g), (0, v2), (0, v3), (0, v4), (3, 0), (3, 0)] [] M := by
  intro k
  induction k with
  | zero =>
    intro v2 v3 v4 M hv0 hk hQ hG
    have hQ : Q none (if (fJ6_bitCount_0f7a4 (M 9 7)) < (M g 17) then M else (mset M 9 8 (m_or (M 9 8) (M 9 7)))) := hQ
    refine T_iload (i := 4) (pc' := 10) dX7_goOn_8 rfl rfl ?_
    refine T_aload_n (i := 1) (pc' := 11) dX7_goOn_10 rfl rfl rfl ?_
    refine U_grN (q := (g + 1)) (k := 0) (kI := 0) (pc' := 14) dX7_goOn_11 rfl cl1 (pog0 hg) (shg0 hg) (by decide) flX7_46 rfl rfl rfl (grg0_0 hg hG) (pog1 hg) rfl ?_
    refine U_gfN (v := (0, (M (g + 1) 8))) (k := 8) (kI := 8) (pc' := 17) dX7_goOn_14 rfl cl4 (pog1 hg) (shg1 hg) (by decide) flX7_52 rfl rfl (by decide) rfl rfl ?_
    refine T_rng (fun _ z9 _ => ?_)
    have hB : r32 (M (g + 1) 8) := (ok_cons.mp z9).1
    unfold r32 at hB
    refine T_icmp_ge (pc' := 170) dX7_goOn_17 (by decide) (pf := 20) rfl (fun c1 => ?_) (fun c1 => ?_)
    · skip
      refine T_aload_n (i := 0) (pc' := 171) dX7_goOn_170 rfl rfl rfl ?_
      refine U_gf (v := (0, (M 9 7))) (k := 7) (kI := 7) (pc' := 174) dX7_goOn_171 rfl cl7 (by decide) rfl (by decide) flX7_34 rfl rfl (by decide) rfl rfl ?_
      refine T_callS (av := [(0, (M 9 7))]) (st := []) (d2 := 1) (nc2 := 0) (ns2 := 0) (pc' := 177) dX7_goOn_174 rfl mtJ6_bitCount_0f7a4 mvJ6_bitCount_0f7a4 mlX7_138 rfl rfl (Nat.le_of_ble_eq_true rfl) (by decide) ⟨by decide, by decide⟩ rfl (pJ6_bitCount_0f7a4 (E := E) (h := h) (M := M) (v0 := (M 9 7)) hG) (kF (st2 := [(0, (fJ6_bitCount_0f7a4 (M 9 7)))]) rfl (fun hG2 => ?_))
      refine T_aload_n (i := 1) (pc' := 178) dX7_goOn_177 rfl rfl rfl ?_
      refine U_gfN (v := (0, (M g 17))) (k := 17) (kI := 17) (pc' := 181) dX7_goOn_178 rfl cl1 (pog0 hg) (shg0 hg) (by decide) flX7_152 rfl rfl (by decide) rfl rfl ?_
      have HJ3 : T E miX7_goOn 3 126 0 0 (fun r S M' => S = S0 ∧ G h M' ∧ Q r M') 197 [(3, 0), (3, 0), (3, 0), (3, 0), (3, 0), (3, 0), (3, 0)] [] S0 (if (fJ6_bitCount_0f7a4 (M 9 7)) < (M g 17) then M else (mset M 9 8 (m_or (M 9 8) (M 9 7)))) 0 0 := by
        exact T_vret dX7_goOn_197 rfl ⟨rfl, (G_ite hG (G_fld (x := 9) (i := 8) (y := (m_or (M 9 8) (M 9 7))) rfl (by decide) (by decide) (by decide) hG)), hQ⟩
      refine T_icmp_lt (pc' := 197) dX7_goOn_181 (by decide) (pf := 184) rfl (fun c4 => ?_) (fun c4 => ?_)
      · skip
        exact T_wk (L' := [(3, 0), (3, 0), (3, 0), (3, 0), (3, 0), (3, 0), (3, 0)]) (by have q := HJ3; try simp only [if_pos c4] at q; exact q) ⟨Or.inl rfl, Or.inl rfl, Or.inl rfl, Or.inl rfl, Or.inl rfl, Or.inl rfl, Or.inl rfl, trivial⟩
      · skip
        refine T_aload_n (i := 0) (pc' := 185) dX7_goOn_184 rfl rfl rfl ?_
        refine T_dup (pc' := 186) dX7_goOn_185 (Nat.ne_of_beq_eq_false rfl) rfl ?_
        refine U_gf (v := (0, (M 9 8))) (k := 8) (kI := 8) (pc' := 189) dX7_goOn_186 rfl cl7 (by decide) rfl (by decide) flX7_37 rfl rfl (by decide) rfl rfl ?_
        refine T_aload_n (i := 0) (pc' := 190) dX7_goOn_189 rfl rfl rfl ?_
        refine U_gf (v := (0, (M 9 7))) (k := 7) (kI := 7) (pc' := 193) dX7_goOn_190 rfl cl7 (by decide) rfl (by decide) flX7_34 rfl rfl (by decide) rfl rfl ?_
        refine T_ior (pc' := 194) dX7_goOn_193 rfl ?_
        refine U_pf (y := (m_or (M 9 8) (M 9 7))) (k := 8) (kI := 8) (pc' := 197) dX7_goOn_194 rfl cl7 (by decide) rfl (by decide) flX7_37 rfl rfl rfl rfl rfl (by decide) (fun z => z) rfl ?_
        exact T_wk (L' := [(3, 0), (3, 0), (3, 0), (3, 0), (3, 0), (3, 0), (3, 0)]) (by have q := HJ3; try simp only [if_neg c4] at q; exact q) ⟨Or.inl rfl, Or.inl rfl, Or.inl rfl, Or.inl rfl, Or.inl rfl, Or.inl rfl, Or.inl rfl, trivial⟩
    · exact absurd c1 (by omega)
  | succ k ih =>
    intro v2 v3 v4 M hv0 hk hQ hG
    have hQ : Q none (lmX7_goOn_8 g k v2 v3 (v4 + 1) (if (m_and (M 9 6) (m_shl 1 v4)) = 0 then (if (m_and v3 (m_shl 1 v4)) = 0 then M else (if v2 < (wr32 ((fX11_get M 13 9 v4) + (M g 15))) then M else (mset M 9 7 (m_and (M 9 7) (m_xor (m_shl 1 v4) (-1)))))) else (if (fX7_opensBy M g v4 v2 v3) = 0 then M else (mset (mset (fmX11_put (fmX11_put (fmX11_put M 13 9 v4 v2) 14 9 v4 (fX11_get (fmX11_put M 13 9 v4 v2) 10 1809 (wr32 ((wr32 ((wr32 (v4 * 201)) + v2)) - 1)))) 15 9 v4 (fX7_opensBy M g v4 v2 v3)) 9 6 (m_and ((fmX11_put (fmX11_put (fmX11_put M 13 9 v4 v2) 14 9 v4 (fX11_get (fmX11_put M 13 9 v4 v2) 10 1809 (wr32 ((wr32 ((wr32 (v4 * 201)) + v2)) - 1)))) 15 9 v4 (fX7_opensBy M g v4 v2 v3)) 9 6) (m_xor (m_shl 1 v4) (-1)))) 9 7 (m_or ((mset (fmX11_put (fmX11_put (fmX11_put M 13 9 v4 v2) 14 9 v4 (fX11_get (fmX11_put M 13 9 v4 v2) 10 1809 (wr32 ((wr32 ((wr32 (v4 * 201)) + v2)) - 1)))) 15 9 v4 (fX7_opensBy M g v4 v2 v3)) 9 6 (m_and ((fmX11_put (fmX11_put (fmX11_put M 13 9 v4 v2) 14 9 v4 (fX11_get (fmX11_put M 13 9 v4 v2) 10 1809 (wr32 ((wr32 ((wr32 (v4 * 201)) + v2)) - 1)))) 15 9 v4 (fX7_opensBy M g v4 v2 v3)) 9 6) (m_xor (m_shl 1 v4) (-1)))) 9 7) (m_shl 1 v4)))))) := hQ
    refine T_iload (i := 4) (pc' := 10) dX7_goOn_8 rfl rfl ?_
    refine T_aload_n (i := 1) (pc' := 11) dX7_goOn_10 rfl rfl rfl ?_
    refine U_grN (q := (g + 1)) (k := 0) (kI := 0) (pc' := 14) dX7_goOn_11 rfl cl1 (pog0 hg) (shg0 hg) (by decide) flX7_46 rfl rfl rfl (grg0_0 hg hG) (pog1 hg) rfl ?_
    refine U_gfN (v := (0, (M (g + 1) 8))) (k := 8) (kI := 8) (pc' := 17) dX7_goOn_14 rfl cl4 (pog1 hg) (shg1 hg) (by decide) flX7_52 rfl rfl (by decide) rfl rfl ?_
    refine T_rng (fun _ z9 _ => ?_)
    have hB : r32 (M (g + 1) 8) := (ok_cons.mp z9).1
    unfold r32 at hB
    refine T_icmp_ge (pc' := 170) dX7_goOn_17 (by decide) (pf := 20) rfl (fun c1 => ?_) (fun c1 => ?_)
    · exact absurd c1 (by omega)
    · skip
      have hw : wr32 (v4 + 1) = v4 + 1 := wr32_id (by unfold r32; omega)
      refine T_iconst (pc' := 21) dX7_goOn_20 (by decide) rfl ?_
      refine T_iload (i := 4) (pc' := 23) dX7_goOn_21 rfl rfl ?_
      refine T_ishl (pc' := 24) dX7_goOn_23 rfl ?_
      refine T_istore (i := 5) (L' := [(2, 9), (2, g), (0, v2), (0, v3), (0, v4), (0, (m_shl 1 v4)), (3, 0)]) (pc' := 26) dX7_goOn_24 (by decide) rfl rfl ?_
      refine T_aload_n (i := 0) (pc' := 27) dX7_goOn_26 rfl rfl rfl ?_
      refine U_gf (v := (0, (M 9 6))) (k := 6) (kI := 6) (pc' := 30) dX7_goOn_27 rfl cl7 (by decide) rfl (by decide) flX7_30 rfl rfl (by decide) rfl rfl ?_
      refine T_iload (i := 5) (pc' := 32) dX7_goOn_30 rfl rfl ?_
      refine T_iand (pc' := 33) dX7_goOn_32 rfl ?_
      have HJ5 : T E miX7_goOn 3 126 0 0 (fun r S M' => S = S0 ∧ G h M' ∧ Q r M') 164 [(2, 9), (2, g), (0, v2), (0, v3), (0, v4), (3, 0), (3, 0)] [] S0 (if (m_and (M 9 6) (m_shl 1 v4)) = 0 then (if (m_and v3 (m_shl 1 v4)) = 0 then M else (if v2 < (wr32 ((fX11_get M 13 9 v4) + (M g 15))) then M else (mset M 9 7 (m_and (M 9 7) (m_xor (m_shl 1 v4) (-1)))))) else (if (fX7_opensBy M g v4 v2 v3) = 0 then M else (mset (mset (fmX11_put (fmX11_put (fmX11_put M 13 9 v4 v2) 14 9 v4 (fX11_get (fmX11_put M 13 9 v4 v2) 10 1809 (wr32 ((wr32 ((wr32 (v4 * 201)) + v2)) - 1)))) 15 9 v4 (fX7_opensBy M g v4 v2 v3)) 9 6 (m_and ((fmX11_put (fmX11_put (fmX11_put M 13 9 v4 v2) 14 9 v4 (fX11_get (fmX11_put M 13 9 v4 v2) 10 1809 (wr32 ((wr32 ((wr32 (v4 * 201)) + v2)) - 1)))) 15 9 v4 (fX7_opensBy M g v4 v2 v3)) 9 6) (m_xor (m_shl 1 v4) (-1)))) 9 7 (m_or ((mset (fmX11_put (fmX11_put (fmX11_put M 13 9 v4 v2) 14 9 v4 (fX11_get (fmX11_put M 13 9 v4 v2) 10 1809 (wr32 ((wr32 ((wr32 (v4 * 201)) + v2)) - 1)))) 15 9 v4 (fX7_opensBy M g v4 v2 v3)) 9 6 (m_and ((fmX11_put (fmX11_put (fmX11_put M 13 9 v4 v2) 14 9 v4 (fX11_get (fmX11_put M 13 9 v4 v2) 10 1809 (wr32 ((wr32 ((wr32 (v4 * 201)) + v2)) - 1)))) 15 9 v4 (fX7_opensBy M g v4 v2 v3)) 9 6) (m_xor (m_shl 1 v4) (-1)))) 9 7) (m_shl 1 v4))))) 0 0 := by
        refine T_iinc (L' := [(2, 9), (2, g), (0, v2), (0, v3), (0, (wr32 (v4 + 1))), (3, 0), (3, 0)]) (pc' := 167) dX7_goOn_164 rfl (by decide) rfl rfl ?_
        refine T_goto (pc' := 8) dX7_goOn_167 (by decide) ?_
        rw [hw]
        have hp0 : (if (m_and (M 9 6) (m_shl 1 v4)) = 0 then (if (m_and v3 (m_shl 1 v4)) = 0 then M else (if v2 < (wr32 ((fX11_get M 13 9 v4) + (M g 15))) then M else (mset M 9 7 (m_and (M 9 7) (m_xor (m_shl 1 v4) (-1)))))) else (if (fX7_opensBy M g v4 v2 v3) = 0 then M else (mset (mset (fmX11_put (fmX11_put (fmX11_put M 13 9 v4 v2) 14 9 v4 (fX11_get (fmX11_put M 13 9 v4 v2) 10 1809 (wr32 ((wr32 ((wr32 (v4 * 201)) + v2)) - 1)))) 15 9 v4 (fX7_opensBy M g v4 v2 v3)) 9 6 (m_and ((fmX11_put (fmX11_put (fmX11_put M 13 9 v4 v2) 14 9 v4 (fX11_get (fmX11_put M 13 9 v4 v2) 10 1809 (wr32 ((wr32 ((wr32 (v4 * 201)) + v2)) - 1)))) 15 9 v4 (fX7_opensBy M g v4 v2 v3)) 9 6) (m_xor (m_shl 1 v4) (-1)))) 9 7 (m_or ((mset (fmX11_put (fmX11_put (fmX11_put M 13 9 v4 v2) 14 9 v4 (fX11_get (fmX11_put M 13 9 v4 v2) 10 1809 (wr32 ((wr32 ((wr32 (v4 * 201)) + v2)) - 1)))) 15 9 v4 (fX7_opensBy M g v4 v2 v3)) 9 6 (m_and ((fmX11_put (fmX11_put (fmX11_put M 13 9 v4 v2) 14 9 v4 (fX11_get (fmX11_put M 13 9 v4 v2) 10 1809 (wr32 ((wr32 ((wr32 (v4 * 201)) + v2)) - 1)))) 15 9 v4 (fX7_opensBy M g v4 v2 v3)) 9 6) (m_xor (m_shl 1 v4) (-1)))) 9 7) (m_shl 1 v4))))) (g + 1) = M (g + 1) := by
          exact (ite_q (ite_q rfl (ite_q rfl ((mset_p (by first | decide | (unfold isG at *; omega) | exact rowne (by unfold isG at *; omega) (by unfold isG at *; omega) (by unfold isG at *; omega))).trans rfl))) (ite_q rfl ((mset_p (by first | decide | (unfold isG at *; omega) | exact rowne (by unfold isG at *; omega) (by unfold isG at *; omega) (by unfold isG at *; omega))).trans ((mset_p (by first | decide | (unfold isG at *; omega) | exact rowne (by unfold isG at *; omega) (by unfold isG at *; omega) (by unfold isG at *; omega))).trans ((frX11_put (by first | decide | (unfold isG at *; omega) | exact rowne (by unfold isG at *; omega) (by unfold isG at *; omega) (by unfold isG at *; omega))).trans ((frX11_put (by first | decide | (unfold isG at *; omega) | exact rowne (by unfold isG at *; omega) (by unfold isG at *; omega) (by unfold isG at *; omega))).trans ((frX11_put (by first | decide | (unfold isG at *; omega) | exact rowne (by unfold isG at *; omega) (by unfold isG at *; omega) (by unfold isG at *; omega))).trans rfl)))))))
        have hbd : ((if (m_and (M 9 6) (m_shl 1 v4)) = 0 then (if (m_and v3 (m_shl 1 v4)) = 0 then M else (if v2 < (wr32 ((fX11_get M 13 9 v4) + (M g 15))) then M else (mset M 9 7 (m_and (M 9 7) (m_xor (m_shl 1 v4) (-1)))))) else (if (fX7_opensBy M g v4 v2 v3) = 0 then M else (mset (mset (fmX11_put (fmX11_put (fmX11_put M 13 9 v4 v2) 14 9 v4 (fX11_get (fmX11_put M 13 9 v4 v2) 10 1809 (wr32 ((wr32 ((wr32 (v4 * 201)) + v2)) - 1)))) 15 9 v4 (fX7_opensBy M g v4 v2 v3)) 9 6 (m_and ((fmX11_put (fmX11_put (fmX11_put M 13 9 v4 v2) 14 9 v4 (fX11_get (fmX11_put M 13 9 v4 v2) 10 1809 (wr32 ((wr32 ((wr32 (v4 * 201)) + v2)) - 1)))) 15 9 v4 (fX7_opensBy M g v4 v2 v3)) 9 6) (m_xor (m_shl 1 v4) (-1)))) 9 7 (m_or ((mset (fmX11_put (fmX11_put (fmX11_put M 13 9 v4 v2) 14 9 v4 (fX11_get (fmX11_put M 13 9 v4 v2) 10 1809 (wr32 ((wr32 ((wr32 (v4 * 201)) + v2)) - 1)))) 15 9 v4 (fX7_opensBy M g v4 v2 v3)) 9 6 (m_and ((fmX11_put (fmX11_put (fmX11_put M 13 9 v4 v2) 14 9 v4 (fX11_get (fmX11_put M 13 9 v4 v2) 10 1809 (wr32 ((wr32 ((wr32 (v4 * 201)) + v2)) - 1)))) 15 9 v4 (fX7_opensBy M g v4 v2 v3)) 9 6) (m_xor (m_shl 1 v4) (-1)))) 9 7) (m_shl 1 v4))))) (g + 1) 8) = (M (g + 1) 8) := by
          simp only [hp0]
        exact T_wk (ih _ _ (v4 + 1) _ (by omega) (by rw [hbd]; omega) hQ (G_ite (G_ite hG (G_ite hG (G_fld (x := 9) (i := 7) (y := (m_and (M 9 7) (m_xor (m_shl 1 v4) (-1)))) rfl (by decide) (by decide) (by decide) hG))) (G_ite hG (G_fld (x := 9) (i := 7) (y := (m_or ((mset (fmX11_put (fmX11_put (fmX11_put M 13 9 v4 v2) 14 9 v4 (fX11_get (fmX11_put M 13 9 v4 v2) 10 1809 (wr32 ((wr32 ((wr32 (v4 * 201)) + v2)) - 1)))) 15 9 v4 (fX7_opensBy M g v4 v2 v3)) 9 6 (m_and ((fmX11_put (fmX11_put (fmX11_put M 13 9 v4 v2) 14 9 v4 (fX11_get (fmX11_put M 13 9 v4 v2) 10 1809 (wr32 ((wr32 ((wr32 (v4 * 201)) + v2)) - 1)))) 15 9 v4 (fX7_opensBy M g v4 v2 v3)) 9 6) (m_xor (m_shl 1 v4) (-1)))) 9 7) (m_shl 1 v4))) rfl (by decide) (by decide) (by decide) (G_fld (x := 9) (i := 6) (y := (m_and ((fmX11_put (fmX11_put (fmX11_put M 13 9 v4 v2) 14 9 v4 (fX11_get (fmX11_put M 13 9 v4 v2) 10 1809 (wr32 ((wr32 ((wr32 (v4 * 201)) + v2)) - 1)))) 15 9 v4 (fX7_opensBy M g v4 v2 v3)) 9 6) (m_xor (m_shl 1 v4) (-1)))) rfl (by decide) (by decide) (by decide) (gX11_put (h := h) (M := (fmX11_put (fmX11_put M 13 9 v4 v2) 14 9 v4 (fX11_get (fmX11_put M 13 9 v4 v2) 10 1809 (wr32 ((wr32 ((wr32 (v4 * 201)) + v2)) - 1))))) (p0 := 15) (np0 := 9) (v1 := v4) (v2 := (fX7_opensBy M g v4 v2 v3)) (by decide) rfl (by decide) (gX11_put (h := h) (M := (fmX11_put M 13 9 v4 v2)) (p0 := 14) (np0 := 9) (v1 := v4) (v2 := (fX11_get (fmX11_put M 13 9 v4 v2) 10 1809 (wr32 ((wr32 ((wr32 (v4 * 201)) + v2)) - 1)))) (by decide) rfl (by decide) (gX11_put (h := h) (M := M) (p0 := 13) (np0 := 9) (v1 := v4) (v2 := v2) (by decide) rfl (by decide) hG)))))))) ⟨Or.inr rfl, Or.inr rfl, Or.inr rfl, Or.inr rfl, Or.inr rfl, Or.inl rfl, Or.inl rfl, trivial⟩
      refine T_if_eq (pc' := 126) dX7_goOn_33 (by decide) (pf := 36) rfl (fun c6 => ?_) (fun c6 => ?_)
      · skip
        refine T_iload_n (i := 3) (pc' := 127) dX7_goOn_126 rfl rfl rfl ?_
        refine T_iload (i := 5) (pc' := 129) dX7_goOn_127 rfl rfl ?_
        refine T_iand (pc' := 130) dX7_goOn_129 rfl ?_
        refine T_if_eq (pc' := 164) dX7_goOn_130 (by decide) (pf := 133) rfl (fun c7 => ?_) (fun c7 => ?_)
        · skip
          exact T_wk (L' := [(2, 9), (2, g), (0, v2), (0, v3), (0, v4), (3, 0), (3, 0)]) (by have q := HJ5; try simp only [if_pos c6] at q; try simp only [if_pos c7] at q; exact q) ⟨Or.inr rfl, Or.inr rfl, Or.inr rfl, Or.inr rfl, Or.inr rfl, Or.inl rfl, Or.inl rfl, trivial⟩
        · skip
          refine T_iload_n (i := 2) (pc' := 134) dX7_goOn_133 rfl rfl rfl ?_
          refine T_aload_n (i := 0) (pc' := 135) dX7_goOn_134 rfl rfl rfl ?_
          refine U_gr (q := 13) (k := 3) (kI := 3) (pc' := 138) dX7_goOn_135 rfl cl7 (by decide) rfl (by decide) flX7_21 rfl rfl rfl (G_at hG 19 rfl) (by decide) rfl ?_
          refine T_iload (i := 4) (pc' := 140) dX7_goOn_138 rfl rfl ?_
          refine T_callSN (av := [(2, 13), (0, v4)]) (st := [(0, v2)]) (d2 := 1) (nc2 := 0) (ns2 := 0) (pc' := 143) dX7_goOn_140 rfl mtX11_get mvX11_get mlX7_71 rfl rfl (Nat.le_of_ble_eq_true rfl) (by decide) ⟨by decide, by decide⟩ rfl (pX11_get (E := E) (h := h) (M := M) (p0 := 13) (np0 := 9) (v1 := v4) (by decide) rfl (by decide) hG) (kF (st2 := [(0, (fX11_get M 13 9 v4)), (0, v2)]) rfl (fun hG8 => ?_))
          refine T_aload_n (i := 1) (pc' := 144) dX7_goOn_143 rfl rfl rfl ?_
          refine U_gfN (v := (0, (M g 15))) (k := 15) (kI := 15) (pc' := 147) dX7_goOn_144 rfl cl1 (pog0 hg) (shg0 hg) (by decide) flX7_151 rfl rfl (by decide) rfl rfl ?_
          refine T_iadd (pc' := 148) dX7_goOn_147 rfl ?_
          refine T_icmp_lt (pc' := 164) dX7_goOn_148 (by decide) (pf := 151) rfl (fun c9 => ?_) (fun c9 => ?_)
          · skip
            exact T_wk (L' := [(2, 9), (2, g), (0, v2), (0, v3), (0, v4), (3, 0), (3, 0)]) (by have q := HJ5; try simp only [if_pos c6] at q; try simp only [if_neg c7] at q; try simp only [if_pos c9] at q; exact q) ⟨Or.inr rfl, Or.inr rfl, Or.inr rfl, Or.inr rfl, Or.inr rfl, Or.inl rfl, Or.inl rfl, trivial⟩
          · skip
            refine T_aload_n (i := 0) (pc' := 152) dX7_goOn_151 rfl rfl rfl ?_
            refine T_dup (pc' := 153) dX7_goOn_152 (Nat.ne_of_beq_eq_false rfl) rfl ?_
            refine U_gf (v := (0, (M 9 7))) (k := 7) (kI := 7) (pc' := 156) dX7_goOn_153 rfl cl7 (by decide) rfl (by decide) flX7_34 rfl rfl (by decide) rfl rfl ?_
            refine T_iload (i := 5) (pc' := 158) dX7_goOn_156 rfl rfl ?_
            refine T_iconst (pc' := 159) dX7_goOn_158 (by decide) rfl ?_
            refine T_ixor (pc' := 160) dX7_goOn_159 rfl ?_
            refine T_iand (pc' := 161) dX7_goOn_160 rfl ?_
            refine U_pf (y := (m_and (M 9 7) (m_xor (m_shl 1 v4) (-1)))) (k := 7) (kI := 7) (pc' := 164) dX7_goOn_161 rfl cl7 (by decide) rfl (by decide) flX7_34 rfl rfl rfl rfl rfl (by decide) (fun z => z) rfl ?_
            exact T_wk (L' := [(2, 9), (2, g), (0, v2), (0, v3), (0, v4), (3, 0), (3, 0)]) (by have q := HJ5; try simp only [if_pos c6] at q; try simp only [if_neg c7] at q; try simp only [if_neg c9] at q; exact q) ⟨Or.inr rfl, Or.inr rfl, Or.inr rfl, Or.inr rfl, Or.inr rfl, Or.inl rfl, Or.inl rfl, trivial⟩
      · skip
        refine T_aload_n (i := 0) (pc' := 37) dX7_goOn_36 rfl rfl rfl ?_
        refine T_aload_n (i := 1) (pc' := 38) dX7_goOn_37 rfl rfl rfl ?_
        refine T_iload (i := 4) (pc' := 40) dX7_goOn_38 rfl rfl ?_
        refine T_iload_n (i := 2) (pc' := 41) dX7_goOn_40 rfl rfl rfl ?_
        refine T_iload_n (i := 3) (pc' := 42) dX7_goOn_41 rfl rfl rfl ?_
        refine T_callV (av := [(2, g), (0, v4), (0, v2), (0, v3)]) (st := []) (d2 := 2) (nc2 := 0) (ns2 := 0) (pc' := 45) dX7_goOn_42 rfl mtX7_opensBy mvX7_opensBy mlX7_147 cl7 rfl rfl rfl (Nat.le_of_ble_eq_true rfl) (by decide) ⟨by decide, by decide⟩ rfl (pX7_opensBy (E := E) (h := h) (M := M) (g := g) (v2 := v4) (v3 := v2) (v4 := v3) hg hG) (kF (st2 := [(0, (fX7_opensBy M g v4 v2 v3))]) rfl (fun hG10 => ?_))
        refine T_istore (i := 6) (L' := [(2, 9), (2, g), (0, v2), (0, v3), (0, v4), (0, (m_shl 1 v4)), (0, (fX7_opensBy M g v4 v2 v3))]) (pc' := 47) dX7_goOn_45 (by decide) rfl rfl ?_
        refine T_iload (i := 6) (pc' := 49) dX7_goOn_47 rfl rfl ?_
        have HJ11 : T E miX7_goOn 3 126 0 0 (fun r S M' => S = S0 ∧ G h M' ∧ Q r M') 123 [(2, 9), (2, g), (0, v2), (0, v3), (0, v4), (3, 0), (3, 0)] [] S0 (if (fX7_opensBy M g v4 v2 v3) = 0 then M else (mset (mset (fmX11_put (fmX11_put (fmX11_put M 13 9 v4 v2) 14 9 v4 (fX11_get (fmX11_put M 13 9 v4 v2) 10 1809 (wr32 ((wr32 ((wr32 (v4 * 201)) + v2)) - 1)))) 15 9 v4 (fX7_opensBy M g v4 v2 v3)) 9 6 (m_and ((fmX11_put (fmX11_put (fmX11_put M 13 9 v4 v2) 14 9 v4 (fX11_get (fmX11_put M 13 9 v4 v2) 10 1809 (wr32 ((wr32 ((wr32 (v4 * 201)) + v2)) - 1)))) 15 9 v4 (fX7_opensBy M g v4 v2 v3)) 9 6) (m_xor (m_shl 1 v4) (-1)))) 9 7 (m_or ((mset (fmX11_put (fmX11_put (fmX11_put M 13 9 v4 v2) 14 9 v4 (fX11_get (fmX11_put M 13 9 v4 v2) 10 1809 (wr32 ((wr32 ((wr32 (v4 * 201)) + v2)) - 1)))) 15 9 v4 (fX7_opensBy M g v4 v2 v3)) 9 6 (m_and ((fmX11_put (fmX11_put (fmX11_put M 13 9 v4 v2) 14 9 v4 (fX11_get (fmX11_put M 13 9 v4 v2) 10 1809 (wr32 ((wr32 ((wr32 (v4 * 201)) + v2)) - 1)))) 15 9 v4 (fX7_opensBy M g v4 v2 v3)) 9 6) (m_xor (m_shl 1 v4) (-1)))) 9 7) (m_shl 1 v4)))) 0 0 := by
          refine T_goto (pc' := 164) dX7_goOn_123 (by decide) ?_
          exact T_wk (L' := [(2, 9), (2, g), (0, v2), (0, v3), (0, v4), (3, 0), (3, 0)]) (by have q := HJ5; try simp only [if_neg c6] at q; exact q) ⟨Or.inr rfl, Or.inr rfl, Or.inr rfl, Or.inr rfl, Or.inr rfl, Or.inl rfl, Or.inl rfl, trivial⟩
        refine T_if_eq (pc' := 123) dX7_goOn_49 (by decide) (pf := 52) rfl (fun c12 => ?_) (fun c12 => ?_)
        · skip
          exact T_wk (L' := [(2, 9), (2, g), (0, v2), (0, v3), (0, v4), (3, 0), (3, 0)]) (by have q := HJ11; try simp only [if_pos c12] at q; exact q) ⟨Or.inr rfl, Or.inr rfl, Or.inr rfl, Or.inr rfl, Or.inr rfl, Or.inl rfl, Or.inl rfl, trivial⟩
        · skip
          refine T_aload_n (i := 0) (pc' := 53) dX7_goOn_52 rfl rfl rfl ?_
          refine U_gr (q := 13) (k := 3) (kI := 3) (pc' := 56) dX7_goOn_53 rfl cl7 (by decide) rfl (by decide) flX7_21 rfl rfl rfl (G_at hG 19 rfl) (by decide) rfl ?_
          refine T_iload (i := 4) (pc' := 58) dX7_goOn_56 rfl rfl ?_
          refine T_iload_n (i := 2) (pc' := 59) dX7_goOn_58 rfl rfl rfl ?_
          refine T_callSN (av := [(2, 13), (0, v4), (0, v2)]) (st := []) (d2 := 1) (nc2 := 0) (ns2 := 0) (pc' := 62) dX7_goOn_59 rfl mtX11_put mvX11_put mlX7_75 rfl rfl (Nat.le_of_ble_eq_true rfl) (by decide) ⟨by decide, by decide⟩ rfl (pX11_put (E := E) (h := h) (M := M) (p0 := 13) (np0 := 9) (v1 := v4) (v2 := v2) (by decide) rfl (by decide) hG) (kF (st2 := []) rfl (fun hG13 => ?_))
          refine T_aload_n (i := 0) (pc' := 63) dX7_goOn_62 rfl rfl rfl ?_
          refine U_gr (q := 14) (k := 4) (kI := 4) (pc' := 66) dX7_goOn_63 rfl cl7 (by decide) rfl (by decide) flX7_24 rfl rfl rfl (G_at (gX11_put (h := h) (M := M) (p0 := 13) (np0 := 9) (v1 := v4) (v2 := v2) (by decide) rfl (by decide) hG) 20 rfl) (by decide) rfl ?_
          refine T_iload (i := 4) (pc' := 68) dX7_goOn_66 rfl rfl ?_
          refine T_aload_n (i := 0) (pc' := 69) dX7_goOn_68 rfl rfl rfl ?_
          refine U_gr (q := 10) (k := 0) (kI := 0) (pc' := 72) dX7_goOn_69 rfl cl7 (by decide) rfl (by decide) flX7_9 rfl rfl rfl (G_at (gX11_put (h := h) (M := M) (p0 := 13) (np0 := 9) (v1 := v4) (v2 := v2) (by decide) rfl (by decide) hG) 16 rfl) (by decide) rfl ?_
          refine T_iload (i := 4) (pc' := 74) dX7_goOn_72 rfl rfl ?_
          refine T_sipush (pc' := 77) dX7_goOn_74 rfl (by decide) rfl ?_
          refine T_imul (pc' := 78) dX7_goOn_77 rfl ?_
          refine T_iload_n (i := 2) (pc' := 79) dX7_goOn_78 rfl rfl rfl ?_
          refine T_iadd (pc' := 80) dX7_goOn_79 rfl ?_
          refine T_iconst (pc' := 81) dX7_goOn_80 (by decide) rfl ?_
          refine T_isub (pc' := 82) dX7_goOn_81 rfl ?_
          refine T_callSN (av := [(2, 10), (0, (wr32 ((wr32 ((wr32 (v4 * 201)) + v2)) - 1)))]) (st := [(0, v4), (2, 14)]) (d2 := 1) (nc2 := 0) (ns2 := 0) (pc' := 85) dX7_goOn_82 rfl mtX11_get mvX11_get mlX7_71 rfl rfl (Nat.le_of_ble_eq_true rfl) (by decide) ⟨by decide, by decide⟩ rfl (pX11_get (E := E) (h := h) (M := (fmX11_put M 13 9 v4 v2)) (p0 := 10) (np0 := 1809) (v1 := (wr32 ((wr32 ((wr32 (v4 * 201)) + v2)) - 1))) (by decide) rfl (by decide) (gX11_put (h := h) (M := M) (p0 := 13) (np0 := 9) (v1 := v4) (v2 := v2) (by decide) rfl (by decide) hG)) (kF (st2 := [(0, (fX11_get (fmX11_put M 13 9 v4 v2) 10 1809 (wr32 ((wr32 ((wr32 (v4 * 201)) + v2)) - 1)))), (0, v4), (2, 14)]) rfl (fun hG14 => ?_))
          refine T_callSN (av := [(2, 14), (0, v4), (0, (fX11_get (fmX11_put M 13 9 v4 v2) 10 1809 (wr32 ((wr32 ((wr32 (v4 * 201)) + v2)) - 1))))]) (st := []) (d2 := 1) (nc2 := 0) (ns2 := 0) (pc' := 88) dX7_goOn_85 rfl mtX11_put mvX11_put mlX7_75 rfl rfl (Nat.le_of_ble_eq_true rfl) (by decide) ⟨by decide, by decide⟩ rfl (pX11_put (E := E) (h := h) (M := (fmX11_put M 13 9 v4 v2)) (p0 := 14) (np0 := 9) (v1 := v4) (v2 := (fX11_get (fmX11_put M 13 9 v4 v2) 10 1809 (wr32 ((wr32 ((wr32 (v4 * 201)) + v2)) - 1)))) (by decide) rfl (by decide) (gX11_put (h := h) (M := M) (p0 := 13) (np0 := 9) (v1 := v4) (v2 := v2) (by decide) rfl (by decide) hG)) (kF (st2 := []) rfl (fun hG15 => ?_))
          refine T_aload_n (i := 0) (pc' := 89) dX7_goOn_88 rfl rfl rfl ?_
          refine U_gr (q := 15) (k := 5) (kI := 5) (pc' := 92) dX7_goOn_89 rfl cl7 (by decide) rfl (by decide) flX7_27 rfl rfl rfl (G_at (gX11_put (h := h) (M := (fmX11_put M 13 9 v4 v2)) (p0 := 14) (np0 := 9) (v1 := v4) (v2 := (fX11_get (fmX11_put M 13 9 v4 v2) 10 1809 (wr32 ((wr32 ((wr32 (v4 * 201)) + v2)) - 1)))) (by decide) rfl (by decide) (gX11_put (h := h) (M := M) (p0 := 13) (np0 := 9) (v1 := v4) (v2 := v2) (by decide) rfl (by decide) hG)) 21 rfl) (by decide) rfl ?_
          refine T_iload (i := 4) (pc' := 94) dX7_goOn_92 rfl rfl ?_
          refine T_iload (i := 6) (pc' := 96) dX7_goOn_94 rfl rfl ?_
          refine T_callSN (av := [(2, 15), (0, v4), (0, (fX7_opensBy M g v4 v2 v3))]) (st := []) (d2 := 1) (nc2 := 0) (ns2 := 0) (pc' := 99) dX7_goOn_96 rfl mtX11_put mvX11_put mlX7_75 rfl rfl (Nat.le_of_ble_eq_true rfl) (by decide) ⟨by decide, by decide⟩ rfl (pX11_put (E := E) (h := h) (M := (fmX11_put (fmX11_put M 13 9 v4 v2) 14 9 v4 (fX11_get (fmX11_put M 13 9 v4 v2) 10 1809 (wr32 ((wr32 ((wr32 (v4 * 201)) + v2)) - 1))))) (p0 := 15) (np0 := 9) (v1 := v4) (v2 := (fX7_opensBy M g v4 v2 v3)) (by decide) rfl (by decide) (gX11_put (h := h) (M := (fmX11_put M 13 9 v4 v2)) (p0 := 14) (np0 := 9) (v1 := v4) (v2 := (fX11_get (fmX11_put M 13 9 v4 v2) 10 1809 (wr32 ((wr32 ((wr32 (v4 * 201)) + v2)) - 1)))) (by decide) rfl (by decide) (gX11_put (h := h) (M := M) (p0 := 13) (np0 := 9) (v1 := v4) (v2 := v2) (by decide) rfl (by decide) hG))) (kF (st2 := []) rfl (fun hG16 => ?_))
          refine T_aload_n (i := 0) (pc' := 100) dX7_goOn_99 rfl rfl rfl ?_
          refine T_dup (pc' := 101) dX7_goOn_100 (Nat.ne_of_beq_eq_false rfl) rfl ?_
          refine U_gf (v := (0, ((fmX11_put (fmX11_put (fmX11_put M 13 9 v4 v2) 14 9 v4 (fX11_get (fmX11_put M 13 9 v4 v2) 10 1809 (wr32 ((wr32 ((wr32 (v4 * 201)) + v2)) - 1)))) 15 9 v4 (fX7_opensBy M g v4 v2 v3)) 9 6))) (k := 6) (kI := 6) (pc' := 104) dX7_goOn_101 rfl cl7 (by decide) rfl (by decide) flX7_30 rfl rfl (by decide) rfl rfl ?_
          refine T_iload (i := 5) (pc' := 106) dX7_goOn_104 rfl rfl ?_
          refine T_iconst (pc' := 107) dX7_goOn_106 (by decide) rfl ?_
          refine T_ixor (pc' := 108) dX7_goOn_107 rfl ?_
          refine T_iand (pc' := 109) dX7_goOn_108 rfl ?_
          refine U_pf (y := (m_and ((fmX11_put (fmX11_put (fmX11_put M 13 9 v4 v2) 14 9 v4 (fX11_get (fmX11_put M 13 9 v4 v2) 10 1809 (wr32 ((wr32 ((wr32 (v4 * 201)) + v2)) - 1)))) 15 9 v4 (fX7_opensBy M g v4 v2 v3)) 9 6) (m_xor (m_shl 1 v4) (-1)))) (k := 6) (kI := 6) (pc' := 112) dX7_goOn_109 rfl cl7 (by decide) rfl (by decide) flX7_30 rfl rfl rfl rfl rfl (by decide) (fun z => z) rfl ?_
          refine T_aload_n (i := 0) (pc' := 113) dX7_goOn_112 rfl rfl rfl ?_
          refine T_dup (pc' := 114) dX7_goOn_113 (Nat.ne_of_beq_eq_false rfl) rfl ?_
          refine U_gf (v := (0, ((mset (fmX11_put (fmX11_put (fmX11_put M 13 9 v4 v2) 14 9 v4 (fX11_get (fmX11_put M 13 9 v4 v2) 10 1809 (wr32 ((wr32 ((wr32 (v4 * 201)) + v2)) - 1)))) 15 9 v4 (fX7_opensBy M g v4 v2 v3)) 9 6 (m_and ((fmX11_put (fmX11_put (fmX11_put M 13 9 v4 v2) 14 9 v4 (fX11_get (fmX11_put M 13 9 v4 v2) 10 1809 (wr32 ((wr32 ((wr32 (v4 * 201)) + v2)) - 1)))) 15 9 v4 (fX7_opensBy M g v4 v2 v3)) 9 6) (m_xor (m_shl 1 v4) (-1)))) 9 7))) (k := 7) (kI := 7) (pc' := 117) dX7_goOn_114 rfl cl7 (by decide) rfl (by decide) flX7_34 rfl rfl (by decide) rfl rfl ?_
          refine T_iload (i := 5) (pc' := 119) dX7_goOn_117 rfl rfl ?_
          refine T_ior (pc' := 120) dX7_goOn_119 rfl ?_
          refine U_pf (y := (m_or ((mset (fmX11_put (fmX11_put (fmX11_put M 13 9 v4 v2) 14 9 v4 (fX11_get (fmX11_put M 13 9 v4 v2) 10 1809 (wr32 ((wr32 ((wr32 (v4 * 201)) + v2)) - 1)))) 15 9 v4 (fX7_opensBy M g v4 v2 v3)) 9 6 (m_and ((fmX11_put (fmX11_put (fmX11_put M 13 9 v4 v2) 14 9 v4 (fX11_get (fmX11_put M 13 9 v4 v2) 10 1809 (wr32 ((wr32 ((wr32 (v4 * 201)) + v2)) - 1)))) 15 9 v4 (fX7_opensBy M g v4 v2 v3)) 9 6) (m_xor (m_shl 1 v4) (-1)))) 9 7) (m_shl 1 v4))) (k := 7) (kI := 7) (pc' := 123) dX7_goOn_120 rfl cl7 (by decide) rfl (by decide) flX7_34 rfl rfl rfl rfl rfl (by decide) (fun z => z) rfl ?_
          exact T_wk (L' := [(2, 9), (2, g), (0, v2), (0, v3), (0, v4), (3, 0), (3, 0)]) (by have q := HJ11; try simp only [if_neg c12] at q; exact q) ⟨Or.inr rfl, Or.inr rfl, Or.inr rfl, Or.inr rfl, Or.inr rfl, Or.inl rfl, Or.inl rfl, trivial⟩
def fmX7_goOn (M : Mem) (g : Int) (v2 : Int) : Mem :=
  (lmX7_goOn_8 g ((((M (g + 1) 8)) : Int) - 0).toNat v2 (M 9 7) 0 M)
theorem frX7_goOn {M : Mem} {g : Int} {v2 : Int} {q : Int} (hq0 : q ≠ 9) (hq1 : q ≠ 13) (hq2 : q ≠ 14) (hq3 : q ≠ 15) : (fmX7_goOn M g v2) q = M q := by
  unfold fmX7_goOn
  exact ((frlX7_goOn_8 hq0 hq1 hq2 hq3).trans rfl)
theorem gX7_goOn {h : Int} {M : Mem} {g : Int} {v2 : Int} (hg : isG g) (hG : G h M) : G h (fmX7_goOn M g v2) := by
  unfold fmX7_goOn
  exact (glX7_goOn_8 hg hG)
set_option maxRecDepth 100000 in
theorem pX7_goOn {E : EV} {h : Int} {M : Mem} {g : Int} {v2 : Int} (hg : isG g) : C2 E miX7_goOn 3 h [(2, 9), (2, g), (0, v2)] M (fun r M' => r = none ∧ M' = (fmX7_goOn M g v2)) := by
  obtain ⟨Q, hQ0⟩ : ∃ Q : Option MV → Mem → Prop, Q = (fun r M' => r = none ∧ M' = (fmX7_goOn M g v2)) := ⟨_, rfl⟩
  rw [← hQ0]
  have hQ : Q none (lmX7_goOn_8 g ((((M (g + 1) 8)) : Int) - 0).toNat v2 (M 9 7) 0 M) := by rw [hQ0]; exact ⟨rfl, rfl⟩
  refine C2_of (L := [(2, 9), (2, g), (0, v2), (3, 0), (3, 0), (3, 0), (3, 0)]) (by decide +kernel) (Nat.le_of_ble_eq_true rfl) rfl (fun hG => ?_)
  refine T_aload_n (i := 0) (pc' := 1) dX7_goOn_0 rfl rfl rfl ?_
  refine U_gf (v := (0, (M 9 7))) (k := 7) (kI := 7) (pc' := 4) dX7_goOn_1 rfl cl7 (by decide) rfl (by decide) flX7_34 rfl rfl (by decide) rfl rfl ?_
  refine T_istore_n (i := 3) (L' := [(2, 9), (2, g), (0, v2), (0, (M 9 7)), (3, 0), (3, 0), (3, 0)]) (pc' := 5) dX7_goOn_4 rfl (by decide) rfl rfl ?_
  refine T_iconst (pc' := 6) dX7_goOn_5 (by decide) rfl ?_
  refine T_istore (i := 4) (L' := [(2, 9), (2, g), (0, v2), (0, (M 9 7)), (0, 0), (3, 0), (3, 0)]) (pc' := 8) dX7_goOn_6 (by decide) rfl rfl ?_
  exact T_wk (qX7_goOn_8 hg _ v2 (M 9 7) 0 _ (by first | decide | omega) rfl hQ hG) ⟨Or.inr rfl, Or.inr rfl, Or.inr rfl, Or.inr rfl, Or.inr rfl, Or.inl rfl, Or.inl rfl, trivial⟩
