/-! methods with loops, by program: a theorem at the entry and at each loop head -/
set_option maxRecDepth 100000 in
set_option maxHeartbeats 2000000 in
theorem wX1_wallCells_0 {E : EV} {h : Int} {M : Mem} {Q : Option MV → Mem → Prop} {g : Int} (hg : isG g) (H : (G h M → TG E miX1_wallCells 2 h Q 4 [(2, g), (0, 0), (0, 0)] [] M)) : G h M → TG E miX1_wallCells 2 h Q 0 [(2, g), (3, 0), (3, 0)] [] M := by
  intro hG
  refine T_iconst (pc' := 1) dX1_wallCells_0 (by decide) rfl ?_
  refine T_istore_n (i := 1) (L' := [(2, g), (0, 0), (3, 0)]) (pc' := 2) dX1_wallCells_1 rfl (by decide) rfl rfl ?_
  refine T_iconst (pc' := 3) dX1_wallCells_2 (by decide) rfl ?_
  refine T_istore_n (i := 2) (L' := [(2, g), (0, 0), (0, 0)]) (pc' := 4) dX1_wallCells_3 rfl (by decide) rfl rfl ?_
  exact T_wk (H hG) ⟨Or.inr rfl, Or.inr rfl, Or.inr rfl, trivial⟩
set_option maxRecDepth 100000 in
set_option maxHeartbeats 2000000 in
theorem wX1_wallCells_4 {E : EV} {h : Int} {M : Mem} {Q : Option MV → Mem → Prop} {g : Int} {v1 : Int} {v2 : Int} (hg : isG g) (H : (((fX1_cells M g) ≤ v2 → Q (some (0, v1)) M) ∧ (¬ ((fX1_cells M g) ≤ v2) → (G h M → TG E miX1_wallCells 2 h Q 4 [(2, g), (0, (wr32 (v1 + (fX11_get M (g + 9) 54 v2)))), (0, (wr32 (v2 + 1)))] [] M)))) : G h M → TG E miX1_wallCells 2 h Q 4 [(2, g), (0, v1), (0, v2)] [] M := by
  intro hG
  refine T_iload_n (i := 2) (pc' := 5) dX1_wallCells_4 rfl rfl rfl ?_
  refine T_aload_n (i := 0) (pc' := 6) dX1_wallCells_5 rfl rfl rfl ?_
  refine T_callV (av := []) (st := [(0, v2)]) (d2 := 1) (nc2 := 0) (ns2 := 0) (pc' := 9) dX1_wallCells_6 rfl mtX1_cells mvX1_cells mlX1_85 cl1 (shg0 hg) rfl rfl (Nat.le_of_ble_eq_true rfl) (by decide) ⟨by decide, by decide⟩ rfl (pX1_cells (E := E) (h := h) (M := M) (g := g) hg hG) (kF (st2 := [(0, (fX1_cells M g)), (0, v2)]) rfl (fun hG1 => ?_))
  refine T_icmp_ge (pc' := 29) dX1_wallCells_9 (by decide) (pf := 12) rfl (fun c2 => ?_) (fun c2 => ?_)
  · skip
    replace H := H.1 c2
    refine T_iload_n (i := 1) (pc' := 30) dX1_wallCells_29 rfl rfl rfl ?_
    exact T_iret dX1_wallCells_30 rfl ⟨rfl, hG, H⟩
  · skip
    replace H := H.2 c2
    refine T_iload_n (i := 1) (pc' := 13) dX1_wallCells_12 rfl rfl rfl ?_
    refine T_aload_n (i := 0) (pc' := 14) dX1_wallCells_13 rfl rfl rfl ?_
    refine U_gr (q := (g + 9)) (k := 1) (kI := 1) (pc' := 17) dX1_wallCells_14 rfl cl1 (pog0 hg) (shg0 hg) (by decide) flX1_18 rfl rfl rfl (grg0_1 hg hG) (pog9 hg) rfl ?_
    refine T_iload_n (i := 2) (pc' := 18) dX1_wallCells_17 rfl rfl rfl ?_
    refine T_callSN (av := [(2, (g + 9)), (0, v2)]) (st := [(0, v1)]) (d2 := 1) (nc2 := 0) (ns2 := 0) (pc' := 21) dX1_wallCells_18 rfl mtX11_get mvX11_get mlX1_89 rfl rfl (Nat.le_of_ble_eq_true rfl) (by decide) ⟨by decide, by decide⟩ rfl (pX11_get (E := E) (h := h) (M := M) (p0 := (g + 9)) (np0 := 54) (v1 := v2) (pog9 hg) (shg9 hg) (by decide) hG) (kF (st2 := [(0, (fX11_get M (g + 9) 54 v2)), (0, v1)]) rfl (fun hG3 => ?_))
    refine T_iadd (pc' := 22) dX1_wallCells_21 rfl ?_
    refine T_istore_n (i := 1) (L' := [(2, g), (0, (wr32 (v1 + (fX11_get M (g + 9) 54 v2)))), (0, v2)]) (pc' := 23) dX1_wallCells_22 rfl (by decide) rfl rfl ?_
    refine T_iinc (L' := [(2, g), (0, (wr32 (v1 + (fX11_get M (g + 9) 54 v2)))), (0, (wr32 (v2 + 1)))]) (pc' := 26) dX1_wallCells_23 rfl (by decide) rfl rfl ?_
    refine T_goto (pc' := 4) dX1_wallCells_26 (by decide) ?_
    exact T_wk (H hG) ⟨Or.inr rfl, Or.inr rfl, Or.inr rfl, trivial⟩
theorem eX1_wallCells {E : EV} {h : Int} {M : Mem} {Q : Option MV → Mem → Prop} {g : Int} (H : G h M → TG E miX1_wallCells 2 h Q 0 [(2, g), (3, 0), (3, 0)] [] M) : C2 E miX1_wallCells 2 h [(2, g)] M Q :=
  C2_of (by decide +kernel) (Nat.le_of_ble_eq_true rfl) rfl H
set_option maxRecDepth 100000 in
set_option maxHeartbeats 2000000 in
theorem wX1_closedDoors_0 {E : EV} {h : Int} {M : Mem} {Q : Option MV → Mem → Prop} {g : Int} (hg : isG g) (H : (G h M → TG E miX1_closedDoors 2 h Q 4 [(2, g), (0, 0), (0, 0)] [] M)) : G h M → TG E miX1_closedDoors 2 h Q 0 [(2, g), (3, 0), (3, 0)] [] M := by
  intro hG
  refine T_iconst (pc' := 1) dX1_closedDoors_0 (by decide) rfl ?_
  refine T_istore_n (i := 1) (L' := [(2, g), (0, 0), (3, 0)]) (pc' := 2) dX1_closedDoors_1 rfl (by decide) rfl rfl ?_
  refine T_iconst (pc' := 3) dX1_closedDoors_2 (by decide) rfl ?_
  refine T_istore_n (i := 2) (L' := [(2, g), (0, 0), (0, 0)]) (pc' := 4) dX1_closedDoors_3 rfl (by decide) rfl rfl ?_
  exact T_wk (H hG) ⟨Or.inr rfl, Or.inr rfl, Or.inr rfl, trivial⟩
set_option maxRecDepth 100000 in
set_option maxHeartbeats 2000000 in
theorem wX1_closedDoors_4 {E : EV} {h : Int} {M : Mem} {Q : Option MV → Mem → Prop} {g : Int} {v1 : Int} {v2 : Int} (hg : isG g) (H : (((M g 12) ≤ v2 → Q (some (0, v1)) M) ∧ (¬ ((M g 12) ≤ v2) → (G h M → TG E miX1_closedDoors 2 h Q 4 [(2, g), (0, (wr32 (v1 + (fX11_get M (g + 11) 6 v2)))), (0, (wr32 (v2 + 1)))] [] M)))) : G h M → TG E miX1_closedDoors 2 h Q 4 [(2, g), (0, v1), (0, v2)] [] M := by
  intro hG
  refine T_iload_n (i := 2) (pc' := 5) dX1_closedDoors_4 rfl rfl rfl ?_
  refine T_aload_n (i := 0) (pc' := 6) dX1_closedDoors_5 rfl rfl rfl ?_
  refine U_gf (v := (0, (M g 12))) (k := 12) (kI := 12) (pc' := 9) dX1_closedDoors_6 rfl cl1 (pog0 hg) (shg0 hg) (by decide) flX1_67 rfl rfl (by decide) rfl rfl ?_
  refine T_icmp_ge (pc' := 29) dX1_closedDoors_9 (by decide) (pf := 12) rfl (fun c1 => ?_) (fun c1 => ?_)
  · skip
    replace H := H.1 c1
    refine T_iload_n (i := 1) (pc' := 30) dX1_closedDoors_29 rfl rfl rfl ?_
    exact T_iret dX1_closedDoors_30 rfl ⟨rfl, hG, H⟩
  · skip
    replace H := H.2 c1
    refine T_iload_n (i := 1) (pc' := 13) dX1_closedDoors_12 rfl rfl rfl ?_
    refine T_aload_n (i := 0) (pc' := 14) dX1_closedDoors_13 rfl rfl rfl ?_
    refine U_gr (q := (g + 11)) (k := 3) (kI := 3) (pc' := 17) dX1_closedDoors_14 rfl cl1 (pog0 hg) (shg0 hg) (by decide) flX1_25 rfl rfl rfl (grg0_3 hg hG) (pog11 hg) rfl ?_
    refine T_iload_n (i := 2) (pc' := 18) dX1_closedDoors_17 rfl rfl rfl ?_
    refine T_callSN (av := [(2, (g + 11)), (0, v2)]) (st := [(0, v1)]) (d2 := 1) (nc2 := 0) (ns2 := 0) (pc' := 21) dX1_closedDoors_18 rfl mtX11_get mvX11_get mlX1_89 rfl rfl (Nat.le_of_ble_eq_true rfl) (by decide) ⟨by decide, by decide⟩ rfl (pX11_get (E := E) (h := h) (M := M) (p0 := (g + 11)) (np0 := 6) (v1 := v2) (pog11 hg) (shg11 hg) (by decide) hG) (kF (st2 := [(0, (fX11_get M (g + 11) 6 v2)), (0, v1)]) rfl (fun hG2 => ?_))
    refine T_iadd (pc' := 22) dX1_closedDoors_21 rfl ?_
    refine T_istore_n (i := 1) (L' := [(2, g), (0, (wr32 (v1 + (fX11_get M (g + 11) 6 v2)))), (0, v2)]) (pc' := 23) dX1_closedDoors_22 rfl (by decide) rfl rfl ?_
    refine T_iinc (L' := [(2, g), (0, (wr32 (v1 + (fX11_get M (g + 11) 6 v2)))), (0, (wr32 (v2 + 1)))]) (pc' := 26) dX1_closedDoors_23 rfl (by decide) rfl rfl ?_
    refine T_goto (pc' := 4) dX1_closedDoors_26 (by decide) ?_
    exact T_wk (H hG) ⟨Or.inr rfl, Or.inr rfl, Or.inr rfl, trivial⟩
theorem eX1_closedDoors {E : EV} {h : Int} {M : Mem} {Q : Option MV → Mem → Prop} {g : Int} (H : G h M → TG E miX1_closedDoors 2 h Q 0 [(2, g), (3, 0), (3, 0)] [] M) : C2 E miX1_closedDoors 2 h [(2, g)] M Q :=
  C2_of (by decide +kernel) (Nat.le_of_ble_eq_true rfl) rfl H
set_option maxRecDepth 100000 in
set_option maxHeartbeats 2000000 in
theorem wX1_doorIn_0 {E : EV} {h : Int} {M : Mem} {Q : Option MV → Mem → Prop} {g : Int} {v1 : Int} (hg : isG g) (H : (G h M → TG E miX1_doorIn 2 h Q 2 [(2, g), (0, v1), (0, 0)] [] M)) : G h M → TG E miX1_doorIn 2 h Q 0 [(2, g), (0, v1), (3, 0)] [] M := by
  intro hG
  refine T_iconst (pc' := 1) dX1_doorIn_0 (by decide) rfl ?_
  refine T_istore_n (i := 2) (L' := [(2, g), (0, v1), (0, 0)]) (pc' := 2) dX1_doorIn_1 rfl (by decide) rfl rfl ?_
  exact T_wk (H hG) ⟨Or.inr rfl, Or.inr rfl, Or.inr rfl, trivial⟩
set_option maxRecDepth 100000 in
set_option maxHeartbeats 2000000 in
theorem wX1_doorIn_2 {E : EV} {h : Int} {M : Mem} {Q : Option MV → Mem → Prop} {g : Int} {v1 : Int} {v2 : Int} (hg : isG g) (H : (((M g 12) ≤ v2 → Q (some (0, (-1))) M) ∧ (¬ ((M g 12) ≤ v2) → (((fX11_get M (g + 10) 6 v2) = v1 → Q (some (0, v2)) M) ∧ (¬ ((fX11_get M (g + 10) 6 v2) = v1) → (G h M → TG E miX1_doorIn 2 h Q 2 [(2, g), (0, v1), (0, (wr32 (v2 + 1)))] [] M)))))) : G h M → TG E miX1_doorIn 2 h Q 2 [(2, g), (0, v1), (0, v2)] [] M := by
  intro hG
  refine T_iload_n (i := 2) (pc' := 3) dX1_doorIn_2 rfl rfl rfl ?_
  refine T_aload_n (i := 0) (pc' := 4) dX1_doorIn_3 rfl rfl rfl ?_
  refine U_gf (v := (0, (M g 12))) (k := 12) (kI := 12) (pc' := 7) dX1_doorIn_4 rfl cl1 (pog0 hg) (shg0 hg) (by decide) flX1_67 rfl rfl (by decide) rfl rfl ?_
  refine T_icmp_ge (pc' := 30) dX1_doorIn_7 (by decide) (pf := 10) rfl (fun c1 => ?_) (fun c1 => ?_)
  · skip
    replace H := H.1 c1
    refine T_iconst (pc' := 31) dX1_doorIn_30 (by decide) rfl ?_
    exact T_iret dX1_doorIn_31 rfl ⟨rfl, hG, H⟩
  · skip
    replace H := H.2 c1
    refine T_aload_n (i := 0) (pc' := 11) dX1_doorIn_10 rfl rfl rfl ?_
    refine U_gr (q := (g + 10)) (k := 2) (kI := 2) (pc' := 14) dX1_doorIn_11 rfl cl1 (pog0 hg) (shg0 hg) (by decide) flX1_22 rfl rfl rfl (grg0_2 hg hG) (pog10 hg) rfl ?_
    refine T_iload_n (i := 2) (pc' := 15) dX1_doorIn_14 rfl rfl rfl ?_
    refine T_callSN (av := [(2, (g + 10)), (0, v2)]) (st := []) (d2 := 1) (nc2 := 0) (ns2 := 0) (pc' := 18) dX1_doorIn_15 rfl mtX11_get mvX11_get mlX1_89 rfl rfl (Nat.le_of_ble_eq_true rfl) (by decide) ⟨by decide, by decide⟩ rfl (pX11_get (E := E) (h := h) (M := M) (p0 := (g + 10)) (np0 := 6) (v1 := v2) (pog10 hg) (shg10 hg) (by decide) hG) (kF (st2 := [(0, (fX11_get M (g + 10) 6 v2))]) rfl (fun hG2 => ?_))
    refine T_iload_n (i := 1) (pc' := 19) dX1_doorIn_18 rfl rfl rfl ?_
    refine T_icmp_ne (pc' := 24) dX1_doorIn_19 (by decide) (pf := 22) rfl (fun c3 => ?_) (fun c3 => ?_)
    · skip
      replace H := H.2 c3
      refine T_iinc (L' := [(2, g), (0, v1), (0, (wr32 (v2 + 1)))]) (pc' := 27) dX1_doorIn_24 rfl (by decide) rfl rfl ?_
      refine T_goto (pc' := 2) dX1_doorIn_27 (by decide) ?_
      exact T_wk (H hG) ⟨Or.inr rfl, Or.inr rfl, Or.inr rfl, trivial⟩
    · skip
      replace H := H.1 c3
      refine T_iload_n (i := 2) (pc' := 23) dX1_doorIn_22 rfl rfl rfl ?_
      exact T_iret dX1_doorIn_23 rfl ⟨rfl, hG, H⟩
theorem eX1_doorIn {E : EV} {h : Int} {M : Mem} {Q : Option MV → Mem → Prop} {g : Int} {v1 : Int} (H : G h M → TG E miX1_doorIn 2 h Q 0 [(2, g), (0, v1), (3, 0)] [] M) : C2 E miX1_doorIn 2 h [(2, g), (0, v1)] M Q :=
  C2_of (by decide +kernel) (Nat.le_of_ble_eq_true rfl) rfl H
set_option maxRecDepth 100000 in
set_option maxHeartbeats 2000000 in
theorem wX1_isTaken_0 {E : EV} {h : Int} {M : Mem} {Q : Option MV → Mem → Prop} {g : Int} {v1 : Int} (hg : isG g) (H : (G h M → TG E miX1_isTaken 2 h Q 2 [(2, g), (0, v1), (0, 0)] [] M)) : G h M → TG E miX1_isTaken 2 h Q 0 [(2, g), (0, v1), (3, 0)] [] M := by
  intro hG
  refine T_iconst (pc' := 1) dX1_isTaken_0 (by decide) rfl ?_
  refine T_istore_n (i := 2) (L' := [(2, g), (0, v1), (0, 0)]) (pc' := 2) dX1_isTaken_1 rfl (by decide) rfl rfl ?_
  exact T_wk (H hG) ⟨Or.inr rfl, Or.inr rfl, Or.inr rfl, trivial⟩
set_option maxRecDepth 100000 in
set_option maxHeartbeats 2000000 in
theorem wX1_isTaken_2 {E : EV} {h : Int} {M : Mem} {Q : Option MV → Mem → Prop} {g : Int} {v1 : Int} {v2 : Int} (hg : isG g) (H : (((M (g + 1) 8) ≤ v2 → (G h M → TG E miX1_isTaken 2 h Q 38 [(2, g), (0, v1), (0, 0)] [] M)) ∧ (¬ ((M (g + 1) 8) ≤ v2) → (((fX11_get M (g + 3) 9 v2) = v1 → Q (some (0, 1)) M) ∧ (¬ ((fX11_get M (g + 3) 9 v2) = v1) → (G h M → TG E miX1_isTaken 2 h Q 2 [(2, g), (0, v1), (0, (wr32 (v2 + 1)))] [] M)))))) : G h M → TG E miX1_isTaken 2 h Q 2 [(2, g), (0, v1), (0, v2)] [] M := by
  intro hG
  refine T_iload_n (i := 2) (pc' := 3) dX1_isTaken_2 rfl rfl rfl ?_
  refine T_aload_n (i := 0) (pc' := 4) dX1_isTaken_3 rfl rfl rfl ?_
  refine U_gr (q := (g + 1)) (k := 0) (kI := 0) (pc' := 7) dX1_isTaken_4 rfl cl1 (pog0 hg) (shg0 hg) (by decide) flX1_12 rfl rfl rfl (grg0_0 hg hG) (pog1 hg) rfl ?_
  refine U_gfN (v := (0, (M (g + 1) 8))) (k := 8) (kI := 8) (pc' := 10) dX1_isTaken_7 rfl cl4 (pog1 hg) (shg1 hg) (by decide) flX1_47 rfl rfl (by decide) rfl rfl ?_
  refine T_icmp_ge (pc' := 36) dX1_isTaken_10 (by decide) (pf := 13) rfl (fun c1 => ?_) (fun c1 => ?_)
  · skip
    replace H := H.1 c1
    refine T_iconst (pc' := 37) dX1_isTaken_36 (by decide) rfl ?_
    refine T_istore_n (i := 2) (L' := [(2, g), (0, v1), (0, 0)]) (pc' := 38) dX1_isTaken_37 rfl (by decide) rfl rfl ?_
    exact T_wk (H hG) ⟨Or.inr rfl, Or.inr rfl, Or.inr rfl, trivial⟩
  · skip
    replace H := H.2 c1
    refine T_aload_n (i := 0) (pc' := 14) dX1_isTaken_13 rfl rfl rfl ?_
    refine U_gr (q := (g + 1)) (k := 0) (kI := 0) (pc' := 17) dX1_isTaken_14 rfl cl1 (pog0 hg) (shg0 hg) (by decide) flX1_12 rfl rfl rfl (grg0_0 hg hG) (pog1 hg) rfl ?_
    refine U_grN (q := (g + 3)) (k := 1) (kI := 1) (pc' := 20) dX1_isTaken_17 rfl cl4 (pog1 hg) (shg1 hg) (by decide) flX1_97 rfl rfl rfl (grg1_1 hg hG) (pog3 hg) rfl ?_
    refine T_iload_n (i := 2) (pc' := 21) dX1_isTaken_20 rfl rfl rfl ?_
    refine T_callSN (av := [(2, (g + 3)), (0, v2)]) (st := []) (d2 := 1) (nc2 := 0) (ns2 := 0) (pc' := 24) dX1_isTaken_21 rfl mtX11_get mvX11_get mlX1_89 rfl rfl (Nat.le_of_ble_eq_true rfl) (by decide) ⟨by decide, by decide⟩ rfl (pX11_get (E := E) (h := h) (M := M) (p0 := (g + 3)) (np0 := 9) (v1 := v2) (pog3 hg) (shg3 hg) (by decide) hG) (kF (st2 := [(0, (fX11_get M (g + 3) 9 v2))]) rfl (fun hG2 => ?_))
    refine T_iload_n (i := 1) (pc' := 25) dX1_isTaken_24 rfl rfl rfl ?_
    refine T_icmp_ne (pc' := 30) dX1_isTaken_25 (by decide) (pf := 28) rfl (fun c3 => ?_) (fun c3 => ?_)
    · skip
      replace H := H.2 c3
      refine T_iinc (L' := [(2, g), (0, v1), (0, (wr32 (v2 + 1)))]) (pc' := 33) dX1_isTaken_30 rfl (by decide) rfl rfl ?_
      refine T_goto (pc' := 2) dX1_isTaken_33 (by decide) ?_
      exact T_wk (H hG) ⟨Or.inr rfl, Or.inr rfl, Or.inr rfl, trivial⟩
    · skip
      replace H := H.1 c3
      refine T_iconst (pc' := 29) dX1_isTaken_28 (by decide) rfl ?_
      exact T_zret dX1_isTaken_29 rfl (by decide) ⟨rfl, hG, H⟩
set_option maxRecDepth 100000 in
set_option maxHeartbeats 2000000 in
theorem wX1_isTaken_38 {E : EV} {h : Int} {M : Mem} {Q : Option MV → Mem → Prop} {g : Int} {v1 : Int} {v2 : Int} (hg : isG g) (H : (((M g 13) ≤ v2 → Q (some (0, 0)) M) ∧ (¬ ((M g 13) ≤ v2) → (((fX11_get M (g + 13) 4 v2) = v1 → Q (some (0, 1)) M) ∧ (¬ ((fX11_get M (g + 13) 4 v2) = v1) → (G h M → TG E miX1_isTaken 2 h Q 38 [(2, g), (0, v1), (0, (wr32 (v2 + 1)))] [] M)))))) : G h M → TG E miX1_isTaken 2 h Q 38 [(2, g), (0, v1), (0, v2)] [] M := by
  intro hG
  refine T_iload_n (i := 2) (pc' := 39) dX1_isTaken_38 rfl rfl rfl ?_
  refine T_aload_n (i := 0) (pc' := 40) dX1_isTaken_39 rfl rfl rfl ?_
  refine U_gf (v := (0, (M g 13))) (k := 13) (kI := 13) (pc' := 43) dX1_isTaken_40 rfl cl1 (pog0 hg) (shg0 hg) (by decide) flX1_70 rfl rfl (by decide) rfl rfl ?_
  refine T_icmp_ge (pc' := 66) dX1_isTaken_43 (by decide) (pf := 46) rfl (fun c1 => ?_) (fun c1 => ?_)
  · skip
    replace H := H.1 c1
    refine T_iconst (pc' := 67) dX1_isTaken_66 (by decide) rfl ?_
    exact T_zret dX1_isTaken_67 rfl (by decide) ⟨rfl, hG, H⟩
  · skip
    replace H := H.2 c1
    refine T_aload_n (i := 0) (pc' := 47) dX1_isTaken_46 rfl rfl rfl ?_
    refine U_gr (q := (g + 13)) (k := 5) (kI := 5) (pc' := 50) dX1_isTaken_47 rfl cl1 (pog0 hg) (shg0 hg) (by decide) flX1_31 rfl rfl rfl (grg0_5 hg hG) (pog13 hg) rfl ?_
    refine T_iload_n (i := 2) (pc' := 51) dX1_isTaken_50 rfl rfl rfl ?_
    refine T_callSN (av := [(2, (g + 13)), (0, v2)]) (st := []) (d2 := 1) (nc2 := 0) (ns2 := 0) (pc' := 54) dX1_isTaken_51 rfl mtX11_get mvX11_get mlX1_89 rfl rfl (Nat.le_of_ble_eq_true rfl) (by decide) ⟨by decide, by decide⟩ rfl (pX11_get (E := E) (h := h) (M := M) (p0 := (g + 13)) (np0 := 4) (v1 := v2) (pog13 hg) (shg13 hg) (by decide) hG) (kF (st2 := [(0, (fX11_get M (g + 13) 4 v2))]) rfl (fun hG2 => ?_))
    refine T_iload_n (i := 1) (pc' := 55) dX1_isTaken_54 rfl rfl rfl ?_
    refine T_icmp_ne (pc' := 60) dX1_isTaken_55 (by decide) (pf := 58) rfl (fun c3 => ?_) (fun c3 => ?_)
    · skip
      replace H := H.2 c3
      refine T_iinc (L' := [(2, g), (0, v1), (0, (wr32 (v2 + 1)))]) (pc' := 63) dX1_isTaken_60 rfl (by decide) rfl rfl ?_
      refine T_goto (pc' := 38) dX1_isTaken_63 (by decide) ?_
      exact T_wk (H hG) ⟨Or.inr rfl, Or.inr rfl, Or.inr rfl, trivial⟩
    · skip
      replace H := H.1 c3
      refine T_iconst (pc' := 59) dX1_isTaken_58 (by decide) rfl ?_
      exact T_zret dX1_isTaken_59 rfl (by decide) ⟨rfl, hG, H⟩
theorem eX1_isTaken {E : EV} {h : Int} {M : Mem} {Q : Option MV → Mem → Prop} {g : Int} {v1 : Int} (H : G h M → TG E miX1_isTaken 2 h Q 0 [(2, g), (0, v1), (3, 0)] [] M) : C2 E miX1_isTaken 2 h [(2, g), (0, v1)] M Q :=
  C2_of (by decide +kernel) (Nat.le_of_ble_eq_true rfl) rfl H
set_option maxRecDepth 100000 in
set_option maxHeartbeats 2000000 in
theorem wX1_hasName_0 {E : EV} {h : Int} {M : Mem} {Q : Option MV → Mem → Prop} {g : Int} {v1 : Int} (hg : isG g) (H : (G h M → TG E miX1_hasName 2 h Q 2 [(2, g), (0, v1), (0, 0)] [] M)) : G h M → TG E miX1_hasName 2 h Q 0 [(2, g), (0, v1), (3, 0)] [] M := by
  intro hG
  refine T_iconst (pc' := 1) dX1_hasName_0 (by decide) rfl ?_
  refine T_istore_n (i := 2) (L' := [(2, g), (0, v1), (0, 0)]) (pc' := 2) dX1_hasName_1 rfl (by decide) rfl rfl ?_
  exact T_wk (H hG) ⟨Or.inr rfl, Or.inr rfl, Or.inr rfl, trivial⟩
set_option maxRecDepth 100000 in
set_option maxHeartbeats 2000000 in
theorem wX1_hasName_2 {E : EV} {h : Int} {M : Mem} {Q : Option MV → Mem → Prop} {g : Int} {v1 : Int} {v2 : Int} (hg : isG g) (H : (((M (g + 1) 8) ≤ v2 → (G h M → TG E miX1_hasName 2 h Q 38 [(2, g), (0, v1), (0, 0)] [] M)) ∧ (¬ ((M (g + 1) 8) ≤ v2) → (((fX11_get M (g + 2) 9 v2) = v1 → Q (some (0, 1)) M) ∧ (¬ ((fX11_get M (g + 2) 9 v2) = v1) → (G h M → TG E miX1_hasName 2 h Q 2 [(2, g), (0, v1), (0, (wr32 (v2 + 1)))] [] M)))))) : G h M → TG E miX1_hasName 2 h Q 2 [(2, g), (0, v1), (0, v2)] [] M := by
  intro hG
  refine T_iload_n (i := 2) (pc' := 3) dX1_hasName_2 rfl rfl rfl ?_
  refine T_aload_n (i := 0) (pc' := 4) dX1_hasName_3 rfl rfl rfl ?_
  refine U_gr (q := (g + 1)) (k := 0) (kI := 0) (pc' := 7) dX1_hasName_4 rfl cl1 (pog0 hg) (shg0 hg) (by decide) flX1_12 rfl rfl rfl (grg0_0 hg hG) (pog1 hg) rfl ?_
  refine U_gfN (v := (0, (M (g + 1) 8))) (k := 8) (kI := 8) (pc' := 10) dX1_hasName_7 rfl cl4 (pog1 hg) (shg1 hg) (by decide) flX1_47 rfl rfl (by decide) rfl rfl ?_
  refine T_icmp_ge (pc' := 36) dX1_hasName_10 (by decide) (pf := 13) rfl (fun c1 => ?_) (fun c1 => ?_)
  · skip
    replace H := H.1 c1
    refine T_iconst (pc' := 37) dX1_hasName_36 (by decide) rfl ?_
    refine T_istore_n (i := 2) (L' := [(2, g), (0, v1), (0, 0)]) (pc' := 38) dX1_hasName_37 rfl (by decide) rfl rfl ?_
    exact T_wk (H hG) ⟨Or.inr rfl, Or.inr rfl, Or.inr rfl, trivial⟩
  · skip
    replace H := H.2 c1
    refine T_aload_n (i := 0) (pc' := 14) dX1_hasName_13 rfl rfl rfl ?_
    refine U_gr (q := (g + 1)) (k := 0) (kI := 0) (pc' := 17) dX1_hasName_14 rfl cl1 (pog0 hg) (shg0 hg) (by decide) flX1_12 rfl rfl rfl (grg0_0 hg hG) (pog1 hg) rfl ?_
    refine U_grN (q := (g + 2)) (k := 0) (kI := 0) (pc' := 20) dX1_hasName_17 rfl cl4 (pog1 hg) (shg1 hg) (by decide) flX1_100 rfl rfl rfl (grg1_0 hg hG) (pog2 hg) rfl ?_
    refine T_iload_n (i := 2) (pc' := 21) dX1_hasName_20 rfl rfl rfl ?_
    refine T_callSN (av := [(2, (g + 2)), (0, v2)]) (st := []) (d2 := 1) (nc2 := 0) (ns2 := 0) (pc' := 24) dX1_hasName_21 rfl mtX11_get mvX11_get mlX1_89 rfl rfl (Nat.le_of_ble_eq_true rfl) (by decide) ⟨by decide, by decide⟩ rfl (pX11_get (E := E) (h := h) (M := M) (p0 := (g + 2)) (np0 := 9) (v1 := v2) (pog2 hg) (shg2 hg) (by decide) hG) (kF (st2 := [(0, (fX11_get M (g + 2) 9 v2))]) rfl (fun hG2 => ?_))
    refine T_iload_n (i := 1) (pc' := 25) dX1_hasName_24 rfl rfl rfl ?_
    refine T_icmp_ne (pc' := 30) dX1_hasName_25 (by decide) (pf := 28) rfl (fun c3 => ?_) (fun c3 => ?_)
    · skip
      replace H := H.2 c3
      refine T_iinc (L' := [(2, g), (0, v1), (0, (wr32 (v2 + 1)))]) (pc' := 33) dX1_hasName_30 rfl (by decide) rfl rfl ?_
      refine T_goto (pc' := 2) dX1_hasName_33 (by decide) ?_
      exact T_wk (H hG) ⟨Or.inr rfl, Or.inr rfl, Or.inr rfl, trivial⟩
    · skip
      replace H := H.1 c3
      refine T_iconst (pc' := 29) dX1_hasName_28 (by decide) rfl ?_
      exact T_zret dX1_hasName_29 rfl (by decide) ⟨rfl, hG, H⟩
set_option maxRecDepth 100000 in
set_option maxHeartbeats 2000000 in
theorem wX1_hasName_38 {E : EV} {h : Int} {M : Mem} {Q : Option MV → Mem → Prop} {g : Int} {v1 : Int} {v2 : Int} (hg : isG g) (H : (((M g 13) ≤ v2 → Q (some (0, 0)) M) ∧ (¬ ((M g 13) ≤ v2) → (((fX11_get M (g + 12) 4 v2) = v1 → Q (some (0, 1)) M) ∧ (¬ ((fX11_get M (g + 12) 4 v2) = v1) → (G h M → TG E miX1_hasName 2 h Q 38 [(2, g), (0, v1), (0, (wr32 (v2 + 1)))] [] M)))))) : G h M → TG E miX1_hasName 2 h Q 38 [(2, g), (0, v1), (0, v2)] [] M := by
  intro hG
  refine T_iload_n (i := 2) (pc' := 39) dX1_hasName_38 rfl rfl rfl ?_
  refine T_aload_n (i := 0) (pc' := 40) dX1_hasName_39 rfl rfl rfl ?_
  refine U_gf (v := (0, (M g 13))) (k := 13) (kI := 13) (pc' := 43) dX1_hasName_40 rfl cl1 (pog0 hg) (shg0 hg) (by decide) flX1_70 rfl rfl (by decide) rfl rfl ?_
  refine T_icmp_ge (pc' := 66) dX1_hasName_43 (by decide) (pf := 46) rfl (fun c1 => ?_) (fun c1 => ?_)
  · skip
    replace H := H.1 c1
    refine T_iconst (pc' := 67) dX1_hasName_66 (by decide) rfl ?_
    exact T_zret dX1_hasName_67 rfl (by decide) ⟨rfl, hG, H⟩
  · skip
    replace H := H.2 c1
    refine T_aload_n (i := 0) (pc' := 47) dX1_hasName_46 rfl rfl rfl ?_
    refine U_gr (q := (g + 12)) (k := 4) (kI := 4) (pc' := 50) dX1_hasName_47 rfl cl1 (pog0 hg) (shg0 hg) (by decide) flX1_28 rfl rfl rfl (grg0_4 hg hG) (pog12 hg) rfl ?_
    refine T_iload_n (i := 2) (pc' := 51) dX1_hasName_50 rfl rfl rfl ?_
    refine T_callSN (av := [(2, (g + 12)), (0, v2)]) (st := []) (d2 := 1) (nc2 := 0) (ns2 := 0) (pc' := 54) dX1_hasName_51 rfl mtX11_get mvX11_get mlX1_89 rfl rfl (Nat.le_of_ble_eq_true rfl) (by decide) ⟨by decide, by decide⟩ rfl (pX11_get (E := E) (h := h) (M := M) (p0 := (g + 12)) (np0 := 4) (v1 := v2) (pog12 hg) (shg12 hg) (by decide) hG) (kF (st2 := [(0, (fX11_get M (g + 12) 4 v2))]) rfl (fun hG2 => ?_))
    refine T_iload_n (i := 1) (pc' := 55) dX1_hasName_54 rfl rfl rfl ?_
    refine T_icmp_ne (pc' := 60) dX1_hasName_55 (by decide) (pf := 58) rfl (fun c3 => ?_) (fun c3 => ?_)
    · skip
      replace H := H.2 c3
      refine T_iinc (L' := [(2, g), (0, v1), (0, (wr32 (v2 + 1)))]) (pc' := 63) dX1_hasName_60 rfl (by decide) rfl rfl ?_
      refine T_goto (pc' := 38) dX1_hasName_63 (by decide) ?_
      exact T_wk (H hG) ⟨Or.inr rfl, Or.inr rfl, Or.inr rfl, trivial⟩
    · skip
      replace H := H.1 c3
      refine T_iconst (pc' := 59) dX1_hasName_58 (by decide) rfl ?_
      exact T_zret dX1_hasName_59 rfl (by decide) ⟨rfl, hG, H⟩
theorem eX1_hasName {E : EV} {h : Int} {M : Mem} {Q : Option MV → Mem → Prop} {g : Int} {v1 : Int} (H : G h M → TG E miX1_hasName 2 h Q 0 [(2, g), (0, v1), (3, 0)] [] M) : C2 E miX1_hasName 2 h [(2, g), (0, v1)] M Q :=
  C2_of (by decide +kernel) (Nat.le_of_ble_eq_true rfl) rfl H
set_option maxRecDepth 100000 in
set_option maxHeartbeats 2000000 in
theorem wX1_cellsAround_0 {E : EV} {h : Int} {M : Mem} {Q : Option MV → Mem → Prop} {g : Int} {v1 : Int} {v2 : Int} (hg : isG g) (H : (G h M → TG E miX1_cellsAround 3 h Q 5 [(2, g), (0, v1), (0, v2), (1, 0), (3, 0), (0, 0)] [] M)) : G h M → TG E miX1_cellsAround 3 h Q 0 [(2, g), (0, v1), (0, v2), (3, 0), (3, 0), (3, 0)] [] M := by
  intro hG
  refine T_lconst (v := 0) (pc' := 1) dX1_cellsAround_0 rfl (by decide) rfl ?_
  refine T_lstore_n (i := 3) (L' := [(2, g), (0, v1), (0, v2), (1, 0), (3, 0), (3, 0)]) (pc' := 2) dX1_cellsAround_1 rfl (by decide) rfl rfl ?_
  refine T_iconst (pc' := 3) dX1_cellsAround_2 (by decide) rfl ?_
  refine T_istore (i := 5) (L' := [(2, g), (0, v1), (0, v2), (1, 0), (3, 0), (0, 0)]) (pc' := 5) dX1_cellsAround_3 (by decide) rfl rfl ?_
  exact T_wk (H hG) ⟨Or.inr rfl, Or.inr rfl, Or.inr rfl, Or.inr rfl, Or.inl rfl, Or.inr rfl, trivial⟩
set_option maxRecDepth 100000 in
set_option maxHeartbeats 2000000 in
theorem wX1_cellsAround_5 {E : EV} {h : Int} {M : Mem} {Q : Option MV → Mem → Prop} {g : Int} {v1 : Int} {v2 : Int} {v3 : Int} {v5 : Int} (hg : isG g) (H : (((fX1_cells M g) ≤ v5 → Q (some (1, v3)) M) ∧ (¬ ((fX1_cells M g) ≤ v5) → (G h M → TG E miX1_cellsAround 3 h Q 5 [(2, g), (0, v1), (0, v2), (1, (if v2 < (fX1_distance M g v1 v5) then v3 else (m_lor v3 (m_lshl 1 v5)))), (3, 0), (0, (wr32 (v5 + 1)))] [] M)))) : G h M → TG E miX1_cellsAround 3 h Q 5 [(2, g), (0, v1), (0, v2), (1, v3), (3, 0), (0, v5)] [] M := by
  intro hG
  refine T_iload (i := 5) (pc' := 7) dX1_cellsAround_5 rfl rfl ?_
  refine T_aload_n (i := 0) (pc' := 8) dX1_cellsAround_7 rfl rfl rfl ?_
  refine T_callV (av := []) (st := [(0, v5)]) (d2 := 1) (nc2 := 0) (ns2 := 0) (pc' := 11) dX1_cellsAround_8 rfl mtX1_cells mvX1_cells mlX1_85 cl1 (shg0 hg) rfl rfl (Nat.le_of_ble_eq_true rfl) (by decide) ⟨by decide, by decide⟩ rfl (pX1_cells (E := E) (h := h) (M := M) (g := g) hg hG) (kF (st2 := [(0, (fX1_cells M g)), (0, v5)]) rfl (fun hG1 => ?_))
  refine T_icmp_ge (pc' := 38) dX1_cellsAround_11 (by decide) (pf := 14) rfl (fun c2 => ?_) (fun c2 => ?_)
  · skip
    replace H := H.1 c2
    refine T_lload_n (i := 3) (pc' := 39) dX1_cellsAround_38 rfl rfl rfl ?_
    exact T_lret dX1_cellsAround_39 rfl ⟨rfl, hG, H⟩
  · skip
    replace H := H.2 c2
    refine T_aload_n (i := 0) (pc' := 15) dX1_cellsAround_14 rfl rfl rfl ?_
    refine T_iload_n (i := 1) (pc' := 16) dX1_cellsAround_15 rfl rfl rfl ?_
    refine T_iload (i := 5) (pc' := 18) dX1_cellsAround_16 rfl rfl ?_
    refine T_callV (av := [(0, v1), (0, v5)]) (st := []) (d2 := 2) (nc2 := 0) (ns2 := 0) (pc' := 21) dX1_cellsAround_18 rfl mtX1_distance mvX1_distance mlX1_118 cl1 (shg0 hg) rfl rfl (Nat.le_of_ble_eq_true rfl) (by decide) ⟨by decide, by decide⟩ rfl (pX1_distance (E := E) (h := h) (M := M) (g := g) (v1 := v1) (v2 := v5) hg hG) (kF (st2 := [(0, (fX1_distance M g v1 v5))]) rfl (fun hG3 => ?_))
    refine T_iload_n (i := 2) (pc' := 22) dX1_cellsAround_21 rfl rfl rfl ?_
    have HJ4 : T E miX1_cellsAround 3 126 0 0 (fun r S M' => S = S0 ∧ G h M' ∧ Q r M') 32 [(2, g), (0, v1), (0, v2), (1, (if v2 < (fX1_distance M g v1 v5) then v3 else (m_lor v3 (m_lshl 1 v5)))), (3, 0), (0, v5)] [] S0 M 0 0 := by
      refine T_iinc (L' := [(2, g), (0, v1), (0, v2), (1, (if v2 < (fX1_distance M g v1 v5) then v3 else (m_lor v3 (m_lshl 1 v5)))), (3, 0), (0, (wr32 (v5 + 1)))]) (pc' := 35) dX1_cellsAround_32 rfl (by decide) rfl rfl ?_
      refine T_goto (pc' := 5) dX1_cellsAround_35 (by decide) ?_
      exact T_wk (H hG) ⟨Or.inr rfl, Or.inr rfl, Or.inr rfl, Or.inr rfl, Or.inl rfl, Or.inr rfl, trivial⟩
    refine T_icmp_gt (pc' := 32) dX1_cellsAround_22 (by decide) (pf := 25) rfl (fun c5 => ?_) (fun c5 => ?_)
    · skip
      exact T_wk (L' := [(2, g), (0, v1), (0, v2), (1, v3), (3, 0), (0, v5)]) (by have q := HJ4; try simp only [if_pos c5] at q; exact q) ⟨Or.inr rfl, Or.inr rfl, Or.inr rfl, Or.inr rfl, Or.inl rfl, Or.inr rfl, trivial⟩
    · skip
      refine T_lload_n (i := 3) (pc' := 26) dX1_cellsAround_25 rfl rfl rfl ?_
      refine T_lconst (v := 1) (pc' := 27) dX1_cellsAround_26 rfl (by decide) rfl ?_
      refine T_iload (i := 5) (pc' := 29) dX1_cellsAround_27 rfl rfl ?_
      refine T_lshl (pc' := 30) dX1_cellsAround_29 rfl ?_
      refine T_lor (pc' := 31) dX1_cellsAround_30 rfl ?_
      refine T_lstore_n (i := 3) (L' := [(2, g), (0, v1), (0, v2), (1, (m_lor v3 (m_lshl 1 v5))), (3, 0), (0, v5)]) (pc' := 32) dX1_cellsAround_31 rfl (by decide) rfl rfl ?_
      exact T_wk (L' := [(2, g), (0, v1), (0, v2), (1, (m_lor v3 (m_lshl 1 v5))), (3, 0), (0, v5)]) (by have q := HJ4; try simp only [if_neg c5] at q; exact q) ⟨Or.inr rfl, Or.inr rfl, Or.inr rfl, Or.inr rfl, Or.inl rfl, Or.inr rfl, trivial⟩
theorem eX1_cellsAround {E : EV} {h : Int} {M : Mem} {Q : Option MV → Mem → Prop} {g : Int} {v1 : Int} {v2 : Int} (H : G h M → TG E miX1_cellsAround 3 h Q 0 [(2, g), (0, v1), (0, v2), (3, 0), (3, 0), (3, 0)] [] M) : C2 E miX1_cellsAround 3 h [(2, g), (0, v1), (0, v2)] M Q :=
  C2_of (by decide +kernel) (Nat.le_of_ble_eq_true rfl) rfl H
set_option maxRecDepth 100000 in
set_option maxHeartbeats 2000000 in
theorem wX1_isImage_0 {E : EV} {h : Int} {M : Mem} {Q : Option MV → Mem → Prop} {g : Int} (hg : isG g) (H : (((M 1 1) = (wr32 ((wr32 ((fX1_imageLength M g) - 1)) + 1)) → (G h M → TG E miX1_isImage 4 h Q 26 [(2, g), (2, 1), (0, (wr32 ((fX1_imageLength M g) - 1))), (0, 151), (0, 0), (3, 0), (3, 0)] [] M)) ∧ (¬ ((M 1 1) = (wr32 ((wr32 ((fX1_imageLength M g) - 1)) + 1))) → Q (some (0, 0)) M))) : G h M → TG E miX1_isImage 4 h Q 0 [(2, g), (2, 1), (3, 0), (3, 0), (3, 0), (3, 0), (3, 0)] [] M := by
  intro hG
  refine T_aload_n (i := 0) (pc' := 1) dX1_isImage_0 rfl rfl rfl ?_
  refine T_callV (av := []) (st := []) (d2 := 1) (nc2 := 0) (ns2 := 0) (pc' := 4) dX1_isImage_1 rfl mtX1_imageLength mvX1_imageLength mlX1_126 cl1 (shg0 hg) rfl rfl (Nat.le_of_ble_eq_true rfl) (by decide) ⟨by decide, by decide⟩ rfl (pX1_imageLength (E := E) (h := h) (M := M) (g := g) hg hG) (kF (st2 := [(0, (fX1_imageLength M g))]) rfl (fun hG1 => ?_))
  refine T_iconst (pc' := 5) dX1_isImage_4 (by decide) rfl ?_
  refine T_isub (pc' := 6) dX1_isImage_5 rfl ?_
  refine T_istore_n (i := 2) (L' := [(2, g), (2, 1), (0, (wr32 ((fX1_imageLength M g) - 1))), (3, 0), (3, 0), (3, 0), (3, 0)]) (pc' := 7) dX1_isImage_6 rfl (by decide) rfl rfl ?_
  refine T_aload_n (i := 1) (pc' := 8) dX1_isImage_7 rfl rfl rfl ?_
  refine U_gfN (v := (0, (M 1 1))) (k := 1) (kI := 1) (pc' := 11) dX1_isImage_8 rfl cl8 (by decide) rfl (by decide) flX1_135 rfl rfl (by decide) rfl rfl ?_
  refine T_iload_n (i := 2) (pc' := 12) dX1_isImage_11 rfl rfl rfl ?_
  refine T_iconst (pc' := 13) dX1_isImage_12 (by decide) rfl ?_
  refine T_iadd (pc' := 14) dX1_isImage_13 rfl ?_
  refine T_icmp_eq (pc' := 19) dX1_isImage_14 (by decide) (pf := 17) rfl (fun c2 => ?_) (fun c2 => ?_)
  · skip
    replace H := H.1 c2
    refine T_sipush (pc' := 22) dX1_isImage_19 rfl (by decide) rfl ?_
    refine T_istore_n (i := 3) (L' := [(2, g), (2, 1), (0, (wr32 ((fX1_imageLength M g) - 1))), (0, 151), (3, 0), (3, 0), (3, 0)]) (pc' := 23) dX1_isImage_22 rfl (by decide) rfl rfl ?_
    refine T_iconst (pc' := 24) dX1_isImage_23 (by decide) rfl ?_
    refine T_istore (i := 4) (L' := [(2, g), (2, 1), (0, (wr32 ((fX1_imageLength M g) - 1))), (0, 151), (0, 0), (3, 0), (3, 0)]) (pc' := 26) dX1_isImage_24 (by decide) rfl rfl ?_
    exact T_wk (H hG) ⟨Or.inr rfl, Or.inr rfl, Or.inr rfl, Or.inr rfl, Or.inr rfl, Or.inl rfl, Or.inl rfl, trivial⟩
  · skip
    replace H := H.2 c2
    refine T_iconst (pc' := 18) dX1_isImage_17 (by decide) rfl ?_
    exact T_zret dX1_isImage_18 rfl (by decide) ⟨rfl, hG, H⟩
set_option maxRecDepth 100000 in
set_option maxHeartbeats 2000000 in
theorem wX1_isImage_26 {E : EV} {h : Int} {M : Mem} {Q : Option MV → Mem → Prop} {g : Int} {v2 : Int} {v3 : Int} {v4 : Int} (hg : isG g) (H : ((v2 ≤ v4 → (((if (fX8_byteAt M v2) = v3 then (1 : Int) else 0) : Int) = 0 ∨ ((if (fX8_byteAt M v2) = v3 then (1 : Int) else 0) : Int) = 1) ∧ Q (some (0, (if (fX8_byteAt M v2) = v3 then (1 : Int) else 0))) M) ∧ (¬ (v2 ≤ v4) → (((if (M (g + 1) 8) ≤ (wr32 (Int.tdiv v4 3)) then (if (fX8_byteAt M v4) = 0 then (1 : Int) else (if (fX8_byteAt M v4) = 1 then (1 : Int) else 0)) else (fX1_mayBe M g (Int.tmod v4 3) (fX8_byteAt M v4))) = 0 → Q (some (0, 0)) M) ∧ (¬ ((if (M (g + 1) 8) ≤ (wr32 (Int.tdiv v4 3)) then (if (fX8_byteAt M v4) = 0 then (1 : Int) else (if (fX8_byteAt M v4) = 1 then (1 : Int) else 0)) else (fX1_mayBe M g (Int.tmod v4 3) (fX8_byteAt M v4))) = 0) → (G h M → TG E miX1_isImage 4 h Q 26 [(2, g), (2, 1), (0, v2), (0, (fX1_checkWith v3 (fX8_byteAt M v4))), (0, (wr32 (v4 + 1))), (3, 0), (3, 0)] [] M)))))) : G h M → TG E miX1_isImage 4 h Q 26 [(2, g), (2, 1), (0, v2), (0, v3), (0, v4), (3, 0), (3, 0)] [] M := by
  intro hG
  refine T_iload (i := 4) (pc' := 28) dX1_isImage_26 rfl rfl ?_
  refine T_iload_n (i := 2) (pc' := 29) dX1_isImage_28 rfl rfl rfl ?_
  refine T_icmp_ge (pc' := 105) dX1_isImage_29 (by decide) (pf := 32) rfl (fun c1 => ?_) (fun c1 => ?_)
  · skip
    replace H := H.1 c1
    refine T_aload_n (i := 1) (pc' := 106) dX1_isImage_105 rfl rfl rfl ?_
    refine T_iload_n (i := 2) (pc' := 107) dX1_isImage_106 rfl rfl rfl ?_
    refine T_callV (av := [(0, v2)]) (st := []) (d2 := 1) (nc2 := 0) (ns2 := 0) (pc' := 110) dX1_isImage_107 rfl mtX8_byteAt mvX8_byteAt mlX1_140 cl8 rfl rfl rfl (Nat.le_of_ble_eq_true rfl) (by decide) ⟨by decide, by decide⟩ rfl (pX8_byteAt (E := E) (h := h) (M := M) (v1 := v2) hG) (kF (st2 := [(0, (fX8_byteAt M v2))]) rfl (fun hG2 => ?_))
    refine T_iload_n (i := 3) (pc' := 111) dX1_isImage_110 rfl rfl rfl ?_
    have HJ3 : T E miX1_isImage 4 126 0 0 (fun r S M' => S = S0 ∧ G h M' ∧ Q r M') 119 [(3, 0), (3, 0), (3, 0), (3, 0), (3, 0), (3, 0), (3, 0)] [(0, (if (fX8_byteAt M v2) = v3 then (1 : Int) else 0))] S0 M 0 0 := by
      obtain ⟨z1, H⟩ := H
      exact T_zret dX1_isImage_119 rfl z1 ⟨rfl, hG, H⟩
    refine T_icmp_ne (pc' := 118) dX1_isImage_111 (by decide) (pf := 114) rfl (fun c4 => ?_) (fun c4 => ?_)
    · skip
      refine T_iconst (pc' := 119) dX1_isImage_118 (by decide) rfl ?_
      exact T_wk (L' := [(3, 0), (3, 0), (3, 0), (3, 0), (3, 0), (3, 0), (3, 0)]) (by have q := HJ3; try simp only [if_neg c4] at q; exact q) ⟨Or.inl rfl, Or.inl rfl, Or.inl rfl, Or.inl rfl, Or.inl rfl, Or.inl rfl, Or.inl rfl, trivial⟩
    · skip
      refine T_iconst (pc' := 115) dX1_isImage_114 (by decide) rfl ?_
      refine T_goto (pc' := 119) dX1_isImage_115 (by decide) ?_
      exact T_wk (L' := [(3, 0), (3, 0), (3, 0), (3, 0), (3, 0), (3, 0), (3, 0)]) (by have q := HJ3; try simp only [if_pos c4] at q; exact q) ⟨Or.inl rfl, Or.inl rfl, Or.inl rfl, Or.inl rfl, Or.inl rfl, Or.inl rfl, Or.inl rfl, trivial⟩
  · skip
    replace H := H.2 c1
    refine T_aload_n (i := 1) (pc' := 33) dX1_isImage_32 rfl rfl rfl ?_
    refine T_iload (i := 4) (pc' := 35) dX1_isImage_33 rfl rfl ?_
    refine T_callV (av := [(0, v4)]) (st := []) (d2 := 1) (nc2 := 0) (ns2 := 0) (pc' := 38) dX1_isImage_35 rfl mtX8_byteAt mvX8_byteAt mlX1_140 cl8 rfl rfl rfl (Nat.le_of_ble_eq_true rfl) (by decide) ⟨by decide, by decide⟩ rfl (pX8_byteAt (E := E) (h := h) (M := M) (v1 := v4) hG) (kF (st2 := [(0, (fX8_byteAt M v4))]) rfl (fun hG5 => ?_))
    refine T_istore (i := 5) (L' := [(2, g), (2, 1), (0, v2), (0, v3), (0, v4), (0, (fX8_byteAt M v4)), (3, 0)]) (pc' := 40) dX1_isImage_38 (by decide) rfl rfl ?_
    refine T_iload (i := 4) (pc' := 42) dX1_isImage_40 rfl rfl ?_
    refine T_iconst (pc' := 43) dX1_isImage_42 (by decide) rfl ?_
    refine T_idiv (pc' := 44) dX1_isImage_43 (by decide) rfl ?_
    refine T_aload_n (i := 0) (pc' := 45) dX1_isImage_44 rfl rfl rfl ?_
    refine U_gr (q := (g + 1)) (k := 0) (kI := 0) (pc' := 48) dX1_isImage_45 rfl cl1 (pog0 hg) (shg0 hg) (by decide) flX1_12 rfl rfl rfl (grg0_0 hg hG) (pog1 hg) rfl ?_
    refine U_gfN (v := (0, (M (g + 1) 8))) (k := 8) (kI := 8) (pc' := 51) dX1_isImage_48 rfl cl4 (pog1 hg) (shg1 hg) (by decide) flX1_47 rfl rfl (by decide) rfl rfl ?_
    have HJ6 : T E miX1_isImage 4 126 0 0 (fun r S M' => S = S0 ∧ G h M' ∧ Q r M') 83 [(2, g), (2, 1), (0, v2), (0, v3), (0, v4), (0, (fX8_byteAt M v4)), (3, 0)] [(0, (if (M (g + 1) 8) ≤ (wr32 (Int.tdiv v4 3)) then (if (fX8_byteAt M v4) = 0 then (1 : Int) else (if (fX8_byteAt M v4) = 1 then (1 : Int) else 0)) else (fX1_mayBe M g (Int.tmod v4 3) (fX8_byteAt M v4))))] S0 M 0 0 := by
      refine T_istore (i := 6) (L' := [(2, g), (2, 1), (0, v2), (0, v3), (0, v4), (0, (fX8_byteAt M v4)), (0, (if (M (g + 1) 8) ≤ (wr32 (Int.tdiv v4 3)) then (if (fX8_byteAt M v4) = 0 then (1 : Int) else (if (fX8_byteAt M v4) = 1 then (1 : Int) else 0)) else (fX1_mayBe M g (Int.tmod v4 3) (fX8_byteAt M v4))))]) (pc' := 85) dX1_isImage_83 (by decide) rfl rfl ?_
      refine T_iload (i := 6) (pc' := 87) dX1_isImage_85 rfl rfl ?_
      refine T_if_ne (pc' := 92) dX1_isImage_87 (by decide) (pf := 90) rfl (fun c7 => ?_) (fun c7 => ?_)
      · skip
        replace H := H.2 c7
        refine T_iload_n (i := 3) (pc' := 93) dX1_isImage_92 rfl rfl rfl ?_
        refine T_iload (i := 5) (pc' := 95) dX1_isImage_93 rfl rfl ?_
        refine T_callS (av := [(0, v3), (0, (fX8_byteAt M v4))]) (st := []) (d2 := 1) (nc2 := 0) (ns2 := 0) (pc' := 98) dX1_isImage_95 rfl mtX1_checkWith mvX1_checkWith mlX1_132 rfl rfl (Nat.le_of_ble_eq_true rfl) (by decide) ⟨by decide, by decide⟩ rfl (pX1_checkWith (E := E) (h := h) (M := M) (v0 := v3) (v1 := (fX8_byteAt M v4)) hG) (kF (st2 := [(0, (fX1_checkWith v3 (fX8_byteAt M v4)))]) rfl (fun hG8 => ?_))
        refine T_istore_n (i := 3) (L' := [(2, g), (2, 1), (0, v2), (0, (fX1_checkWith v3 (fX8_byteAt M v4))), (0, v4), (0, (fX8_byteAt M v4)), (0, (if (M (g + 1) 8) ≤ (wr32 (Int.tdiv v4 3)) then (if (fX8_byteAt M v4) = 0 then (1 : Int) else (if (fX8_byteAt M v4) = 1 then (1 : Int) else 0)) else (fX1_mayBe M g (Int.tmod v4 3) (fX8_byteAt M v4))))]) (pc' := 99) dX1_isImage_98 rfl (by decide) rfl rfl ?_
        refine T_iinc (L' := [(2, g), (2, 1), (0, v2), (0, (fX1_checkWith v3 (fX8_byteAt M v4))), (0, (wr32 (v4 + 1))), (0, (fX8_byteAt M v4)), (0, (if (M (g + 1) 8) ≤ (wr32 (Int.tdiv v4 3)) then (if (fX8_byteAt M v4) = 0 then (1 : Int) else (if (fX8_byteAt M v4) = 1 then (1 : Int) else 0)) else (fX1_mayBe M g (Int.tmod v4 3) (fX8_byteAt M v4))))]) (pc' := 102) dX1_isImage_99 rfl (by decide) rfl rfl ?_
        refine T_goto (pc' := 26) dX1_isImage_102 (by decide) ?_
        exact T_wk (H hG) ⟨Or.inr rfl, Or.inr rfl, Or.inr rfl, Or.inr rfl, Or.inr rfl, Or.inl rfl, Or.inl rfl, trivial⟩
      · skip
        replace H := H.1 c7
        refine T_iconst (pc' := 91) dX1_isImage_90 (by decide) rfl ?_
        exact T_zret dX1_isImage_91 rfl (by decide) ⟨rfl, hG, H⟩
    refine T_icmp_ge (pc' := 67) dX1_isImage_51 (by decide) (pf := 54) rfl (fun c9 => ?_) (fun c9 => ?_)
    · skip
      refine T_iload (i := 5) (pc' := 69) dX1_isImage_67 rfl rfl ?_
      refine T_if_eq (pc' := 78) dX1_isImage_69 (by decide) (pf := 72) rfl (fun c10 => ?_) (fun c10 => ?_)
      · skip
        refine T_iconst (pc' := 79) dX1_isImage_78 (by decide) rfl ?_
        refine T_goto (pc' := 83) dX1_isImage_79 (by decide) ?_
        exact T_wk (L' := [(2, g), (2, 1), (0, v2), (0, v3), (0, v4), (0, (fX8_byteAt M v4)), (3, 0)]) (by have q := HJ6; try simp only [if_pos c9] at q; try simp only [if_pos c10] at q; exact q) ⟨Or.inr rfl, Or.inr rfl, Or.inr rfl, Or.inr rfl, Or.inr rfl, Or.inr rfl, Or.inl rfl, trivial⟩
      · skip
        refine T_iload (i := 5) (pc' := 74) dX1_isImage_72 rfl rfl ?_
        refine T_iconst (pc' := 75) dX1_isImage_74 (by decide) rfl ?_
        refine T_icmp_ne (pc' := 82) dX1_isImage_75 (by decide) (pf := 78) rfl (fun c11 => ?_) (fun c11 => ?_)
        · skip
          refine T_iconst (pc' := 83) dX1_isImage_82 (by decide) rfl ?_
          exact T_wk (L' := [(2, g), (2, 1), (0, v2), (0, v3), (0, v4), (0, (fX8_byteAt M v4)), (3, 0)]) (by have q := HJ6; try simp only [if_pos c9] at q; try simp only [if_neg c10] at q; try simp only [if_neg c11] at q; exact q) ⟨Or.inr rfl, Or.inr rfl, Or.inr rfl, Or.inr rfl, Or.inr rfl, Or.inr rfl, Or.inl rfl, trivial⟩
        · skip
          refine T_iconst (pc' := 79) dX1_isImage_78 (by decide) rfl ?_
          refine T_goto (pc' := 83) dX1_isImage_79 (by decide) ?_
          exact T_wk (L' := [(2, g), (2, 1), (0, v2), (0, v3), (0, v4), (0, (fX8_byteAt M v4)), (3, 0)]) (by have q := HJ6; try simp only [if_pos c9] at q; try simp only [if_neg c10] at q; try simp only [if_pos c11] at q; exact q) ⟨Or.inr rfl, Or.inr rfl, Or.inr rfl, Or.inr rfl, Or.inr rfl, Or.inr rfl, Or.inl rfl, trivial⟩
    · skip
      refine T_aload_n (i := 0) (pc' := 55) dX1_isImage_54 rfl rfl rfl ?_
      refine T_iload (i := 4) (pc' := 57) dX1_isImage_55 rfl rfl ?_
      refine T_iconst (pc' := 58) dX1_isImage_57 (by decide) rfl ?_
      refine T_irem (pc' := 59) dX1_isImage_58 (by decide) rfl ?_
      refine T_iload (i := 5) (pc' := 61) dX1_isImage_59 rfl rfl ?_
      refine T_callV (av := [(0, (Int.tmod v4 3)), (0, (fX8_byteAt M v4))]) (st := []) (d2 := 3) (nc2 := 0) (ns2 := 0) (pc' := 64) dX1_isImage_61 rfl mtX1_mayBe mvX1_mayBe mlX1_143 cl1 (shg0 hg) rfl rfl (Nat.le_of_ble_eq_true rfl) (by decide) ⟨by decide, by decide⟩ rfl (pX1_mayBe (E := E) (h := h) (M := M) (g := g) (v1 := (Int.tmod v4 3)) (v2 := (fX8_byteAt M v4)) hg hG) (kF (st2 := [(0, (fX1_mayBe M g (Int.tmod v4 3) (fX8_byteAt M v4)))]) rfl (fun hG12 => ?_))
      refine T_goto (pc' := 83) dX1_isImage_64 (by decide) ?_
      exact T_wk (L' := [(2, g), (2, 1), (0, v2), (0, v3), (0, v4), (0, (fX8_byteAt M v4)), (3, 0)]) (by have q := HJ6; try simp only [if_neg c9] at q; exact q) ⟨Or.inr rfl, Or.inr rfl, Or.inr rfl, Or.inr rfl, Or.inr rfl, Or.inr rfl, Or.inl rfl, trivial⟩
theorem eX1_isImage {E : EV} {h : Int} {M : Mem} {Q : Option MV → Mem → Prop} {g : Int} (H : G h M → TG E miX1_isImage 4 h Q 0 [(2, g), (2, 1), (3, 0), (3, 0), (3, 0), (3, 0), (3, 0)] [] M) : C2 E miX1_isImage 4 h [(2, g), (2, 1)] M Q :=
  C2_of (by decide +kernel) (Nat.le_of_ble_eq_true rfl) rfl H
set_option maxRecDepth 100000 in
set_option maxHeartbeats 2000000 in
theorem wX3_peak_0 {E : EV} {h : Int} {M : Mem} {Q : Option MV → Mem → Prop}   (H : (G h M → TG E miX3_peak 3 h Q 4 [(2, 16), (0, 0), (0, 1)] [] M)) : G h M → TG E miX3_peak 3 h Q 0 [(2, 16), (3, 0), (3, 0)] [] M := by
  intro hG
  refine T_iconst (pc' := 1) dX3_peak_0 (by decide) rfl ?_
  refine T_istore_n (i := 1) (L' := [(2, 16), (0, 0), (3, 0)]) (pc' := 2) dX3_peak_1 rfl (by decide) rfl rfl ?_
  refine T_iconst (pc' := 3) dX3_peak_2 (by decide) rfl ?_
  refine T_istore_n (i := 2) (L' := [(2, 16), (0, 0), (0, 1)]) (pc' := 4) dX3_peak_3 rfl (by decide) rfl rfl ?_
  exact T_wk (H hG) ⟨Or.inr rfl, Or.inr rfl, Or.inr rfl, trivial⟩
set_option maxRecDepth 100000 in
set_option maxHeartbeats 2000000 in
theorem wX3_peak_4 {E : EV} {h : Int} {M : Mem} {Q : Option MV → Mem → Prop} {v1 : Int} {v2 : Int}  (H : ((201 ≤ v2 → Q (some (0, v1)) M) ∧ (¬ (201 ≤ v2) → (G h M → TG E miX3_peak 3 h Q 4 [(2, 16), (0, (if (fX3_howMany M v2 0) ≤ (fX3_howMany M v1 0) then v1 else v2)), (0, (wr32 (v2 + 1)))] [] M)))) : G h M → TG E miX3_peak 3 h Q 4 [(2, 16), (0, v1), (0, v2)] [] M := by
  intro hG
  refine T_iload_n (i := 2) (pc' := 5) dX3_peak_4 rfl rfl rfl ?_
  refine T_sipush (pc' := 8) dX3_peak_5 rfl (by decide) rfl ?_
  refine T_icmp_ge (pc' := 34) dX3_peak_8 (by decide) (pf := 11) rfl (fun c1 => ?_) (fun c1 => ?_)
  · skip
    replace H := H.1 c1
    refine T_iload_n (i := 1) (pc' := 35) dX3_peak_34 rfl rfl rfl ?_
    exact T_iret dX3_peak_35 rfl ⟨rfl, hG, H⟩
  · skip
    replace H := H.2 c1
    refine T_aload_n (i := 0) (pc' := 12) dX3_peak_11 rfl rfl rfl ?_
    refine T_iload_n (i := 2) (pc' := 13) dX3_peak_12 rfl rfl rfl ?_
    refine T_iconst (pc' := 14) dX3_peak_13 (by decide) rfl ?_
    refine T_callV (av := [(0, v2), (0, 0)]) (st := []) (d2 := 2) (nc2 := 0) (ns2 := 0) (pc' := 17) dX3_peak_14 rfl mtX3_howMany mvX3_howMany mlX3_114 cl3 rfl rfl rfl (Nat.le_of_ble_eq_true rfl) (by decide) ⟨by decide, by decide⟩ rfl (pX3_howMany (E := E) (h := h) (M := M) (v1 := v2) (v2 := 0) hG) (kF (st2 := [(0, (fX3_howMany M v2 0))]) rfl (fun hG2 => ?_))
    refine T_aload_n (i := 0) (pc' := 18) dX3_peak_17 rfl rfl rfl ?_
    refine T_iload_n (i := 1) (pc' := 19) dX3_peak_18 rfl rfl rfl ?_
    refine T_iconst (pc' := 20) dX3_peak_19 (by decide) rfl ?_
    refine T_callV (av := [(0, v1), (0, 0)]) (st := [(0, (fX3_howMany M v2 0))]) (d2 := 2) (nc2 := 0) (ns2 := 0) (pc' := 23) dX3_peak_20 rfl mtX3_howMany mvX3_howMany mlX3_114 cl3 rfl rfl rfl (Nat.le_of_ble_eq_true rfl) (by decide) ⟨by decide, by decide⟩ rfl (pX3_howMany (E := E) (h := h) (M := M) (v1 := v1) (v2 := 0) hG) (kF (st2 := [(0, (fX3_howMany M v1 0)), (0, (fX3_howMany M v2 0))]) rfl (fun hG3 => ?_))
    have HJ4 : T E miX3_peak 3 126 0 0 (fun r S M' => S = S0 ∧ G h M' ∧ Q r M') 28 [(2, 16), (0, (if (fX3_howMany M v2 0) ≤ (fX3_howMany M v1 0) then v1 else v2)), (0, v2)] [] S0 M 0 0 := by
      refine T_iinc (L' := [(2, 16), (0, (if (fX3_howMany M v2 0) ≤ (fX3_howMany M v1 0) then v1 else v2)), (0, (wr32 (v2 + 1)))]) (pc' := 31) dX3_peak_28 rfl (by decide) rfl rfl ?_
      refine T_goto (pc' := 4) dX3_peak_31 (by decide) ?_
      exact T_wk (H hG) ⟨Or.inr rfl, Or.inr rfl, Or.inr rfl, trivial⟩
    refine T_icmp_le (pc' := 28) dX3_peak_23 (by decide) (pf := 26) rfl (fun c5 => ?_) (fun c5 => ?_)
    · skip
      exact T_wk (L' := [(2, 16), (0, v1), (0, v2)]) (by have q := HJ4; try simp only [if_pos c5] at q; exact q) ⟨Or.inr rfl, Or.inr rfl, Or.inr rfl, trivial⟩
    · skip
      refine T_iload_n (i := 2) (pc' := 27) dX3_peak_26 rfl rfl rfl ?_
      refine T_istore_n (i := 1) (L' := [(2, 16), (0, v2), (0, v2)]) (pc' := 28) dX3_peak_27 rfl (by decide) rfl rfl ?_
      exact T_wk (L' := [(2, 16), (0, v2), (0, v2)]) (by have q := HJ4; try simp only [if_neg c5] at q; exact q) ⟨Or.inr rfl, Or.inr rfl, Or.inr rfl, trivial⟩
theorem eX3_peak {E : EV} {h : Int} {M : Mem} {Q : Option MV → Mem → Prop}  (H : G h M → TG E miX3_peak 3 h Q 0 [(2, 16), (3, 0), (3, 0)] [] M) : C2 E miX3_peak 3 h [(2, 16)] M Q :=
  C2_of (by decide +kernel) (Nat.le_of_ble_eq_true rfl) rfl H
set_option maxRecDepth 100000 in
set_option maxHeartbeats 2000000 in
theorem wX3_firstWith_0 {E : EV} {h : Int} {M : Mem} {Q : Option MV → Mem → Prop} {v1 : Int}  (H : (G h M → TG E miX3_firstWith 3 h Q 2 [(2, 16), (0, v1), (0, 0)] [] M)) : G h M → TG E miX3_firstWith 3 h Q 0 [(2, 16), (0, v1), (3, 0)] [] M := by
  intro hG
  refine T_iconst (pc' := 1) dX3_firstWith_0 (by decide) rfl ?_
  refine T_istore_n (i := 2) (L' := [(2, 16), (0, v1), (0, 0)]) (pc' := 2) dX3_firstWith_1 rfl (by decide) rfl rfl ?_
  exact T_wk (H hG) ⟨Or.inr rfl, Or.inr rfl, Or.inr rfl, trivial⟩
set_option maxRecDepth 100000 in
set_option maxHeartbeats 2000000 in
theorem wX3_firstWith_2 {E : EV} {h : Int} {M : Mem} {Q : Option MV → Mem → Prop} {v1 : Int} {v2 : Int}  (H : ((201 ≤ v2 → Q (some (0, (-1))) M) ∧ (¬ (201 ≤ v2) → (((fX3_howMany M v2 0) < v1 → (G h M → TG E miX3_firstWith 3 h Q 2 [(2, 16), (0, v1), (0, (wr32 (v2 + 1)))] [] M)) ∧ (¬ ((fX3_howMany M v2 0) < v1) → Q (some (0, v2)) M))))) : G h M → TG E miX3_firstWith 3 h Q 2 [(2, 16), (0, v1), (0, v2)] [] M := by
  intro hG
  refine T_iload_n (i := 2) (pc' := 3) dX3_firstWith_2 rfl rfl rfl ?_
  refine T_sipush (pc' := 6) dX3_firstWith_3 rfl (by decide) rfl ?_
  refine T_icmp_ge (pc' := 27) dX3_firstWith_6 (by decide) (pf := 9) rfl (fun c1 => ?_) (fun c1 => ?_)
  · skip
    replace H := H.1 c1
    refine T_iconst (pc' := 28) dX3_firstWith_27 (by decide) rfl ?_
    exact T_iret dX3_firstWith_28 rfl ⟨rfl, hG, H⟩
  · skip
    replace H := H.2 c1
    refine T_aload_n (i := 0) (pc' := 10) dX3_firstWith_9 rfl rfl rfl ?_
    refine T_iload_n (i := 2) (pc' := 11) dX3_firstWith_10 rfl rfl rfl ?_
    refine T_iconst (pc' := 12) dX3_firstWith_11 (by decide) rfl ?_
    refine T_callV (av := [(0, v2), (0, 0)]) (st := []) (d2 := 2) (nc2 := 0) (ns2 := 0) (pc' := 15) dX3_firstWith_12 rfl mtX3_howMany mvX3_howMany mlX3_114 cl3 rfl rfl rfl (Nat.le_of_ble_eq_true rfl) (by decide) ⟨by decide, by decide⟩ rfl (pX3_howMany (E := E) (h := h) (M := M) (v1 := v2) (v2 := 0) hG) (kF (st2 := [(0, (fX3_howMany M v2 0))]) rfl (fun hG2 => ?_))
    refine T_iload_n (i := 1) (pc' := 16) dX3_firstWith_15 rfl rfl rfl ?_
    refine T_icmp_lt (pc' := 21) dX3_firstWith_16 (by decide) (pf := 19) rfl (fun c3 => ?_) (fun c3 => ?_)
    · skip
      replace H := H.1 c3
      refine T_iinc (L' := [(2, 16), (0, v1), (0, (wr32 (v2 + 1)))]) (pc' := 24) dX3_firstWith_21 rfl (by decide) rfl rfl ?_
      refine T_goto (pc' := 2) dX3_firstWith_24 (by decide) ?_
      exact T_wk (H hG) ⟨Or.inr rfl, Or.inr rfl, Or.inr rfl, trivial⟩
    · skip
      replace H := H.2 c3
      refine T_iload_n (i := 2) (pc' := 20) dX3_firstWith_19 rfl rfl rfl ?_
      exact T_iret dX3_firstWith_20 rfl ⟨rfl, hG, H⟩
theorem eX3_firstWith {E : EV} {h : Int} {M : Mem} {Q : Option MV → Mem → Prop} {v1 : Int} (H : G h M → TG E miX3_firstWith 3 h Q 0 [(2, 16), (0, v1), (3, 0)] [] M) : C2 E miX3_firstWith 3 h [(2, 16), (0, v1)] M Q :=
  C2_of (by decide +kernel) (Nat.le_of_ble_eq_true rfl) rfl H
set_option maxRecDepth 100000 in
set_option maxHeartbeats 2000000 in
theorem wX3_openersOf_0 {E : EV} {h : Int} {M : Mem} {Q : Option MV → Mem → Prop} {v1 : Int}  (H : (G h M → TG E miX3_openersOf 2 h Q 4 [(2, 16), (0, v1), (0, 0), (0, 0)] [] M)) : G h M → TG E miX3_openersOf 2 h Q 0 [(2, 16), (0, v1), (3, 0), (3, 0)] [] M := by
  intro hG
  refine T_iconst (pc' := 1) dX3_openersOf_0 (by decide) rfl ?_
  refine T_istore_n (i := 2) (L' := [(2, 16), (0, v1), (0, 0), (3, 0)]) (pc' := 2) dX3_openersOf_1 rfl (by decide) rfl rfl ?_
  refine T_iconst (pc' := 3) dX3_openersOf_2 (by decide) rfl ?_
  refine T_istore_n (i := 3) (L' := [(2, 16), (0, v1), (0, 0), (0, 0)]) (pc' := 4) dX3_openersOf_3 rfl (by decide) rfl rfl ?_
  exact T_wk (H hG) ⟨Or.inr rfl, Or.inr rfl, Or.inr rfl, Or.inr rfl, trivial⟩
set_option maxRecDepth 100000 in
set_option maxHeartbeats 2000000 in
theorem wX3_openersOf_4 {E : EV} {h : Int} {M : Mem} {Q : Option MV → Mem → Prop} {v1 : Int} {v2 : Int} {v3 : Int}  (H : ((9 ≤ v3 → Q (some (0, v2)) M) ∧ (¬ (9 ≤ v3) → (G h M → TG E miX3_openersOf 2 h Q 4 [(2, 16), (0, v1), (0, (if (fX11_hasBit v1 v3) = 0 then v2 else (if (fX11_get M 19 9 v3) = (-1) then v2 else (wr32 (v2 + 1))))), (0, (wr32 (v3 + 1)))] [] M)))) : G h M → TG E miX3_openersOf 2 h Q 4 [(2, 16), (0, v1), (0, v2), (0, v3)] [] M := by
  intro hG
  refine T_iload_n (i := 3) (pc' := 5) dX3_openersOf_4 rfl rfl rfl ?_
  refine T_bipush (pc' := 7) dX3_openersOf_5 rfl (by decide) rfl ?_
  refine T_icmp_ge (pc' := 39) dX3_openersOf_7 (by decide) (pf := 10) rfl (fun c1 => ?_) (fun c1 => ?_)
  · skip
    replace H := H.1 c1
    refine T_iload_n (i := 2) (pc' := 40) dX3_openersOf_39 rfl rfl rfl ?_
    exact T_iret dX3_openersOf_40 rfl ⟨rfl, hG, H⟩
  · skip
    replace H := H.2 c1
    refine T_iload_n (i := 1) (pc' := 11) dX3_openersOf_10 rfl rfl rfl ?_
    refine T_iload_n (i := 3) (pc' := 12) dX3_openersOf_11 rfl rfl rfl ?_
    refine T_callSN (av := [(0, v1), (0, v3)]) (st := []) (d2 := 1) (nc2 := 0) (ns2 := 0) (pc' := 15) dX3_openersOf_12 rfl mtX11_hasBit mvX11_hasBit mlX3_76 rfl rfl (Nat.le_of_ble_eq_true rfl) (by decide) ⟨by decide, by decide⟩ rfl (pX11_hasBit (E := E) (h := h) (M := M) (v0 := v1) (v1 := v3) hG) (kF (st2 := [(0, (fX11_hasBit v1 v3))]) rfl (fun hG2 => ?_))
    have HJ3 : T E miX3_openersOf 2 126 0 0 (fun r S M' => S = S0 ∧ G h M' ∧ Q r M') 33 [(2, 16), (0, v1), (0, (if (fX11_hasBit v1 v3) = 0 then v2 else (if (fX11_get M 19 9 v3) = (-1) then v2 else (wr32 (v2 + 1))))), (0, v3)] [] S0 M 0 0 := by
      refine T_iinc (L' := [(2, 16), (0, v1), (0, (if (fX11_hasBit v1 v3) = 0 then v2 else (if (fX11_get M 19 9 v3) = (-1) then v2 else (wr32 (v2 + 1))))), (0, (wr32 (v3 + 1)))]) (pc' := 36) dX3_openersOf_33 rfl (by decide) rfl rfl ?_
      refine T_goto (pc' := 4) dX3_openersOf_36 (by decide) ?_
      exact T_wk (H hG) ⟨Or.inr rfl, Or.inr rfl, Or.inr rfl, Or.inr rfl, trivial⟩
    refine T_if_eq (pc' := 33) dX3_openersOf_15 (by decide) (pf := 18) rfl (fun c4 => ?_) (fun c4 => ?_)
    · skip
      exact T_wk (L' := [(2, 16), (0, v1), (0, v2), (0, v3)]) (by have q := HJ3; try simp only [if_pos c4] at q; exact q) ⟨Or.inr rfl, Or.inr rfl, Or.inr rfl, Or.inr rfl, trivial⟩
    · skip
      refine T_aload_n (i := 0) (pc' := 19) dX3_openersOf_18 rfl rfl rfl ?_
      refine U_gr (q := 19) (k := 2) (kI := 2) (pc' := 22) dX3_openersOf_19 rfl cl3 (by decide) rfl (by decide) flX3_18 rfl rfl rfl (G_at hG 24 rfl) (by decide) rfl ?_
      refine T_iload_n (i := 3) (pc' := 23) dX3_openersOf_22 rfl rfl rfl ?_
      refine T_callSN (av := [(2, 19), (0, v3)]) (st := []) (d2 := 1) (nc2 := 0) (ns2 := 0) (pc' := 26) dX3_openersOf_23 rfl mtX11_get mvX11_get mlX3_67 rfl rfl (Nat.le_of_ble_eq_true rfl) (by decide) ⟨by decide, by decide⟩ rfl (pX11_get (E := E) (h := h) (M := M) (p0 := 19) (np0 := 9) (v1 := v3) (by decide) rfl (by decide) hG) (kF (st2 := [(0, (fX11_get M 19 9 v3))]) rfl (fun hG5 => ?_))
      refine T_iconst (pc' := 27) dX3_openersOf_26 (by decide) rfl ?_
      refine T_icmp_eq (pc' := 33) dX3_openersOf_27 (by decide) (pf := 30) rfl (fun c6 => ?_) (fun c6 => ?_)
      · skip
        exact T_wk (L' := [(2, 16), (0, v1), (0, v2), (0, v3)]) (by have q := HJ3; try simp only [if_neg c4] at q; try simp only [if_pos c6] at q; exact q) ⟨Or.inr rfl, Or.inr rfl, Or.inr rfl, Or.inr rfl, trivial⟩
      · skip
        refine T_iinc (L' := [(2, 16), (0, v1), (0, (wr32 (v2 + 1))), (0, v3)]) (pc' := 33) dX3_openersOf_30 rfl (by decide) rfl rfl ?_
        exact T_wk (L' := [(2, 16), (0, v1), (0, (wr32 (v2 + 1))), (0, v3)]) (by have q := HJ3; try simp only [if_neg c4] at q; try simp only [if_neg c6] at q; exact q) ⟨Or.inr rfl, Or.inr rfl, Or.inr rfl, Or.inr rfl, trivial⟩
theorem eX3_openersOf {E : EV} {h : Int} {M : Mem} {Q : Option MV → Mem → Prop} {v1 : Int} (H : G h M → TG E miX3_openersOf 2 h Q 0 [(2, 16), (0, v1), (3, 0), (3, 0)] [] M) : C2 E miX3_openersOf 2 h [(2, 16), (0, v1)] M Q :=
  C2_of (by decide +kernel) (Nat.le_of_ble_eq_true rfl) rfl H
set_option maxRecDepth 100000 in
set_option maxHeartbeats 2000000 in
theorem wX3_openersAhead_0 {E : EV} {h : Int} {M : Mem} {Q : Option MV → Mem → Prop} {v1 : Int}  (H : (G h M → TG E miX3_openersAhead 2 h Q 4 [(2, 16), (0, v1), (0, 0), (0, 0)] [] M)) : G h M → TG E miX3_openersAhead 2 h Q 0 [(2, 16), (0, v1), (3, 0), (3, 0)] [] M := by
  intro hG
  refine T_iconst (pc' := 1) dX3_openersAhead_0 (by decide) rfl ?_
  refine T_istore_n (i := 2) (L' := [(2, 16), (0, v1), (0, 0), (3, 0)]) (pc' := 2) dX3_openersAhead_1 rfl (by decide) rfl rfl ?_
  refine T_iconst (pc' := 3) dX3_openersAhead_2 (by decide) rfl ?_
  refine T_istore_n (i := 3) (L' := [(2, 16), (0, v1), (0, 0), (0, 0)]) (pc' := 4) dX3_openersAhead_3 rfl (by decide) rfl rfl ?_
  exact T_wk (H hG) ⟨Or.inr rfl, Or.inr rfl, Or.inr rfl, Or.inr rfl, trivial⟩
set_option maxRecDepth 100000 in
set_option maxHeartbeats 2000000 in
theorem wX3_openersAhead_4 {E : EV} {h : Int} {M : Mem} {Q : Option MV → Mem → Prop} {v1 : Int} {v2 : Int} {v3 : Int}  (H : ((9 ≤ v3 → Q (some (0, v2)) M) ∧ (¬ (9 ≤ v3) → (G h M → TG E miX3_openersAhead 2 h Q 4 [(2, 16), (0, v1), (0, (if (fX11_get M 19 9 v3) = (-1) then v2 else (if v1 ≤ (fX11_get M 19 9 v3) then v2 else (wr32 (v2 + 1))))), (0, (wr32 (v3 + 1)))] [] M)))) : G h M → TG E miX3_openersAhead 2 h Q 4 [(2, 16), (0, v1), (0, v2), (0, v3)] [] M := by
  intro hG
  refine T_iload_n (i := 3) (pc' := 5) dX3_openersAhead_4 rfl rfl rfl ?_
  refine T_bipush (pc' := 7) dX3_openersAhead_5 rfl (by decide) rfl ?_
  refine T_icmp_ge (pc' := 43) dX3_openersAhead_7 (by decide) (pf := 10) rfl (fun c1 => ?_) (fun c1 => ?_)
  · skip
    replace H := H.1 c1
    refine T_iload_n (i := 2) (pc' := 44) dX3_openersAhead_43 rfl rfl rfl ?_
    exact T_iret dX3_openersAhead_44 rfl ⟨rfl, hG, H⟩
  · skip
    replace H := H.2 c1
    refine T_aload_n (i := 0) (pc' := 11) dX3_openersAhead_10 rfl rfl rfl ?_
    refine U_gr (q := 19) (k := 2) (kI := 2) (pc' := 14) dX3_openersAhead_11 rfl cl3 (by decide) rfl (by decide) flX3_18 rfl rfl rfl (G_at hG 24 rfl) (by decide) rfl ?_
    refine T_iload_n (i := 3) (pc' := 15) dX3_openersAhead_14 rfl rfl rfl ?_
    refine T_callSN (av := [(2, 19), (0, v3)]) (st := []) (d2 := 1) (nc2 := 0) (ns2 := 0) (pc' := 18) dX3_openersAhead_15 rfl mtX11_get mvX11_get mlX3_67 rfl rfl (Nat.le_of_ble_eq_true rfl) (by decide) ⟨by decide, by decide⟩ rfl (pX11_get (E := E) (h := h) (M := M) (p0 := 19) (np0 := 9) (v1 := v3) (by decide) rfl (by decide) hG) (kF (st2 := [(0, (fX11_get M 19 9 v3))]) rfl (fun hG2 => ?_))
    refine T_iconst (pc' := 19) dX3_openersAhead_18 (by decide) rfl ?_
    have HJ3 : T E miX3_openersAhead 2 126 0 0 (fun r S M' => S = S0 ∧ G h M' ∧ Q r M') 37 [(2, 16), (0, v1), (0, (if (fX11_get M 19 9 v3) = (-1) then v2 else (if v1 ≤ (fX11_get M 19 9 v3) then v2 else (wr32 (v2 + 1))))), (0, v3)] [] S0 M 0 0 := by
      refine T_iinc (L' := [(2, 16), (0, v1), (0, (if (fX11_get M 19 9 v3) = (-1) then v2 else (if v1 ≤ (fX11_get M 19 9 v3) then v2 else (wr32 (v2 + 1))))), (0, (wr32 (v3 + 1)))]) (pc' := 40) dX3_openersAhead_37 rfl (by decide) rfl rfl ?_
      refine T_goto (pc' := 4) dX3_openersAhead_40 (by decide) ?_
      exact T_wk (H hG) ⟨Or.inr rfl, Or.inr rfl, Or.inr rfl, Or.inr rfl, trivial⟩
    refine T_icmp_eq (pc' := 37) dX3_openersAhead_19 (by decide) (pf := 22) rfl (fun c4 => ?_) (fun c4 => ?_)
    · skip
      exact T_wk (L' := [(2, 16), (0, v1), (0, v2), (0, v3)]) (by have q := HJ3; try simp only [if_pos c4] at q; exact q) ⟨Or.inr rfl, Or.inr rfl, Or.inr rfl, Or.inr rfl, trivial⟩
    · skip
      refine T_aload_n (i := 0) (pc' := 23) dX3_openersAhead_22 rfl rfl rfl ?_
      refine U_gr (q := 19) (k := 2) (kI := 2) (pc' := 26) dX3_openersAhead_23 rfl cl3 (by decide) rfl (by decide) flX3_18 rfl rfl rfl (G_at hG 24 rfl) (by decide) rfl ?_
      refine T_iload_n (i := 3) (pc' := 27) dX3_openersAhead_26 rfl rfl rfl ?_
      refine T_callSN (av := [(2, 19), (0, v3)]) (st := []) (d2 := 1) (nc2 := 0) (ns2 := 0) (pc' := 30) dX3_openersAhead_27 rfl mtX11_get mvX11_get mlX3_67 rfl rfl (Nat.le_of_ble_eq_true rfl) (by decide) ⟨by decide, by decide⟩ rfl (pX11_get (E := E) (h := h) (M := M) (p0 := 19) (np0 := 9) (v1 := v3) (by decide) rfl (by decide) hG) (kF (st2 := [(0, (fX11_get M 19 9 v3))]) rfl (fun hG5 => ?_))
      refine T_iload_n (i := 1) (pc' := 31) dX3_openersAhead_30 rfl rfl rfl ?_
      refine T_icmp_ge (pc' := 37) dX3_openersAhead_31 (by decide) (pf := 34) rfl (fun c6 => ?_) (fun c6 => ?_)
      · skip
        exact T_wk (L' := [(2, 16), (0, v1), (0, v2), (0, v3)]) (by have q := HJ3; try simp only [if_neg c4] at q; try simp only [if_pos c6] at q; exact q) ⟨Or.inr rfl, Or.inr rfl, Or.inr rfl, Or.inr rfl, trivial⟩
      · skip
        refine T_iinc (L' := [(2, 16), (0, v1), (0, (wr32 (v2 + 1))), (0, v3)]) (pc' := 37) dX3_openersAhead_34 rfl (by decide) rfl rfl ?_
        exact T_wk (L' := [(2, 16), (0, v1), (0, (wr32 (v2 + 1))), (0, v3)]) (by have q := HJ3; try simp only [if_neg c4] at q; try simp only [if_neg c6] at q; exact q) ⟨Or.inr rfl, Or.inr rfl, Or.inr rfl, Or.inr rfl, trivial⟩
theorem eX3_openersAhead {E : EV} {h : Int} {M : Mem} {Q : Option MV → Mem → Prop} {v1 : Int} (H : G h M → TG E miX3_openersAhead 2 h Q 0 [(2, 16), (0, v1), (3, 0), (3, 0)] [] M) : C2 E miX3_openersAhead 2 h [(2, 16), (0, v1)] M Q :=
  C2_of (by decide +kernel) (Nat.le_of_ble_eq_true rfl) rfl H
set_option maxRecDepth 100000 in
set_option maxHeartbeats 2000000 in
theorem wX3_lastOut_0 {E : EV} {h : Int} {M : Mem} {Q : Option MV → Mem → Prop}   (H : (G h M → TG E miX3_lastOut 2 h Q 4 [(2, 16), (0, (-1)), (0, 0)] [] M)) : G h M → TG E miX3_lastOut 2 h Q 0 [(2, 16), (3, 0), (3, 0)] [] M := by
  intro hG
  refine T_iconst (pc' := 1) dX3_lastOut_0 (by decide) rfl ?_
  refine T_istore_n (i := 1) (L' := [(2, 16), (0, (-1)), (3, 0)]) (pc' := 2) dX3_lastOut_1 rfl (by decide) rfl rfl ?_
  refine T_iconst (pc' := 3) dX3_lastOut_2 (by decide) rfl ?_
  refine T_istore_n (i := 2) (L' := [(2, 16), (0, (-1)), (0, 0)]) (pc' := 4) dX3_lastOut_3 rfl (by decide) rfl rfl ?_
  exact T_wk (H hG) ⟨Or.inr rfl, Or.inr rfl, Or.inr rfl, trivial⟩
set_option maxRecDepth 100000 in
set_option maxHeartbeats 2000000 in
theorem wX3_lastOut_4 {E : EV} {h : Int} {M : Mem} {Q : Option MV → Mem → Prop} {v1 : Int} {v2 : Int}  (H : ((9 ≤ v2 → Q (some (0, v1)) M) ∧ (¬ (9 ≤ v2) → (G h M → TG E miX3_lastOut 2 h Q 4 [(2, 16), (0, (if v1 < (fX11_get M 21 9 v2) then (fX11_get M 21 9 v2) else v1)), (0, (wr32 (v2 + 1)))] [] M)))) : G h M → TG E miX3_lastOut 2 h Q 4 [(2, 16), (0, v1), (0, v2)] [] M := by
  intro hG
  refine T_iload_n (i := 2) (pc' := 5) dX3_lastOut_4 rfl rfl rfl ?_
  refine T_bipush (pc' := 7) dX3_lastOut_5 rfl (by decide) rfl ?_
  refine T_icmp_ge (pc' := 29) dX3_lastOut_7 (by decide) (pf := 10) rfl (fun c1 => ?_) (fun c1 => ?_)
  · skip
    replace H := H.1 c1
    refine T_iload_n (i := 1) (pc' := 30) dX3_lastOut_29 rfl rfl rfl ?_
    exact T_iret dX3_lastOut_30 rfl ⟨rfl, hG, H⟩
  · skip
    replace H := H.2 c1
    refine T_iload_n (i := 1) (pc' := 11) dX3_lastOut_10 rfl rfl rfl ?_
    refine T_aload_n (i := 0) (pc' := 12) dX3_lastOut_11 rfl rfl rfl ?_
    refine U_gr (q := 21) (k := 4) (kI := 4) (pc' := 15) dX3_lastOut_12 rfl cl3 (by decide) rfl (by decide) flX3_24 rfl rfl rfl (G_at hG 26 rfl) (by decide) rfl ?_
    refine T_iload_n (i := 2) (pc' := 16) dX3_lastOut_15 rfl rfl rfl ?_
    refine T_callSN (av := [(2, 21), (0, v2)]) (st := [(0, v1)]) (d2 := 1) (nc2 := 0) (ns2 := 0) (pc' := 19) dX3_lastOut_16 rfl mtX11_get mvX11_get mlX3_67 rfl rfl (Nat.le_of_ble_eq_true rfl) (by decide) ⟨by decide, by decide⟩ rfl (pX11_get (E := E) (h := h) (M := M) (p0 := 21) (np0 := 9) (v1 := v2) (by decide) rfl (by decide) hG) (kF (st2 := [(0, (fX11_get M 21 9 v2)), (0, v1)]) rfl (fun hG2 => ?_))
    refine U_mmax (pc' := 22) dX3_lastOut_19 rfl mlX3_117 (Nat.le_of_ble_eq_true rfl) (by decide) ⟨by decide, by decide⟩ rfl ?_
    refine T_istore_n (i := 1) (L' := [(2, 16), (0, (if v1 < (fX11_get M 21 9 v2) then (fX11_get M 21 9 v2) else v1)), (0, v2)]) (pc' := 23) dX3_lastOut_22 rfl (by decide) rfl rfl ?_
    refine T_iinc (L' := [(2, 16), (0, (if v1 < (fX11_get M 21 9 v2) then (fX11_get M 21 9 v2) else v1)), (0, (wr32 (v2 + 1)))]) (pc' := 26) dX3_lastOut_23 rfl (by decide) rfl rfl ?_
    refine T_goto (pc' := 4) dX3_lastOut_26 (by decide) ?_
    exact T_wk (H hG) ⟨Or.inr rfl, Or.inr rfl, Or.inr rfl, trivial⟩
theorem eX3_lastOut {E : EV} {h : Int} {M : Mem} {Q : Option MV → Mem → Prop}  (H : G h M → TG E miX3_lastOut 2 h Q 0 [(2, 16), (3, 0), (3, 0)] [] M) : C2 E miX3_lastOut 2 h [(2, 16)] M Q :=
  C2_of (by decide +kernel) (Nat.le_of_ble_eq_true rfl) rfl H
set_option maxRecDepth 100000 in
set_option maxHeartbeats 2000000 in
theorem wX3_outBy_0 {E : EV} {h : Int} {M : Mem} {Q : Option MV → Mem → Prop} {v1 : Int}  (H : (G h M → TG E miX3_outBy 2 h Q 4 [(2, 16), (0, v1), (0, 0), (0, 0)] [] M)) : G h M → TG E miX3_outBy 2 h Q 0 [(2, 16), (0, v1), (3, 0), (3, 0)] [] M := by
  intro hG
  refine T_iconst (pc' := 1) dX3_outBy_0 (by decide) rfl ?_
  refine T_istore_n (i := 2) (L' := [(2, 16), (0, v1), (0, 0), (3, 0)]) (pc' := 2) dX3_outBy_1 rfl (by decide) rfl rfl ?_
  refine T_iconst (pc' := 3) dX3_outBy_2 (by decide) rfl ?_
  refine T_istore_n (i := 3) (L' := [(2, 16), (0, v1), (0, 0), (0, 0)]) (pc' := 4) dX3_outBy_3 rfl (by decide) rfl rfl ?_
  exact T_wk (H hG) ⟨Or.inr rfl, Or.inr rfl, Or.inr rfl, Or.inr rfl, trivial⟩
set_option maxRecDepth 100000 in
set_option maxHeartbeats 2000000 in
theorem wX3_outBy_4 {E : EV} {h : Int} {M : Mem} {Q : Option MV → Mem → Prop} {v1 : Int} {v2 : Int} {v3 : Int}  (H : ((9 ≤ v3 → Q (some (0, v2)) M) ∧ (¬ (9 ≤ v3) → (G h M → TG E miX3_outBy 2 h Q 4 [(2, 16), (0, v1), (0, (if (fX11_get M 22 9 v3) = v1 then (wr32 (v2 + 1)) else v2)), (0, (wr32 (v3 + 1)))] [] M)))) : G h M → TG E miX3_outBy 2 h Q 4 [(2, 16), (0, v1), (0, v2), (0, v3)] [] M := by
  intro hG
  refine T_iload_n (i := 3) (pc' := 5) dX3_outBy_4 rfl rfl rfl ?_
  refine T_bipush (pc' := 7) dX3_outBy_5 rfl (by decide) rfl ?_
  refine T_icmp_ge (pc' := 31) dX3_outBy_7 (by decide) (pf := 10) rfl (fun c1 => ?_) (fun c1 => ?_)
  · skip
    replace H := H.1 c1
    refine T_iload_n (i := 2) (pc' := 32) dX3_outBy_31 rfl rfl rfl ?_
    exact T_iret dX3_outBy_32 rfl ⟨rfl, hG, H⟩
  · skip
    replace H := H.2 c1
    refine T_aload_n (i := 0) (pc' := 11) dX3_outBy_10 rfl rfl rfl ?_
    refine U_gr (q := 22) (k := 5) (kI := 5) (pc' := 14) dX3_outBy_11 rfl cl3 (by decide) rfl (by decide) flX3_27 rfl rfl rfl (G_at hG 27 rfl) (by decide) rfl ?_
    refine T_iload_n (i := 3) (pc' := 15) dX3_outBy_14 rfl rfl rfl ?_
    refine T_callSN (av := [(2, 22), (0, v3)]) (st := []) (d2 := 1) (nc2 := 0) (ns2 := 0) (pc' := 18) dX3_outBy_15 rfl mtX11_get mvX11_get mlX3_67 rfl rfl (Nat.le_of_ble_eq_true rfl) (by decide) ⟨by decide, by decide⟩ rfl (pX11_get (E := E) (h := h) (M := M) (p0 := 22) (np0 := 9) (v1 := v3) (by decide) rfl (by decide) hG) (kF (st2 := [(0, (fX11_get M 22 9 v3))]) rfl (fun hG2 => ?_))
    refine T_iload_n (i := 1) (pc' := 19) dX3_outBy_18 rfl rfl rfl ?_
    have HJ3 : T E miX3_outBy 2 126 0 0 (fun r S M' => S = S0 ∧ G h M' ∧ Q r M') 25 [(2, 16), (0, v1), (0, (if (fX11_get M 22 9 v3) = v1 then (wr32 (v2 + 1)) else v2)), (0, v3)] [] S0 M 0 0 := by
      refine T_iinc (L' := [(2, 16), (0, v1), (0, (if (fX11_get M 22 9 v3) = v1 then (wr32 (v2 + 1)) else v2)), (0, (wr32 (v3 + 1)))]) (pc' := 28) dX3_outBy_25 rfl (by decide) rfl rfl ?_
      refine T_goto (pc' := 4) dX3_outBy_28 (by decide) ?_
      exact T_wk (H hG) ⟨Or.inr rfl, Or.inr rfl, Or.inr rfl, Or.inr rfl, trivial⟩
    refine T_icmp_ne (pc' := 25) dX3_outBy_19 (by decide) (pf := 22) rfl (fun c4 => ?_) (fun c4 => ?_)
    · skip
      exact T_wk (L' := [(2, 16), (0, v1), (0, v2), (0, v3)]) (by have q := HJ3; try simp only [if_neg c4] at q; exact q) ⟨Or.inr rfl, Or.inr rfl, Or.inr rfl, Or.inr rfl, trivial⟩
    · skip
      refine T_iinc (L' := [(2, 16), (0, v1), (0, (wr32 (v2 + 1))), (0, v3)]) (pc' := 25) dX3_outBy_22 rfl (by decide) rfl rfl ?_
      exact T_wk (L' := [(2, 16), (0, v1), (0, (wr32 (v2 + 1))), (0, v3)]) (by have q := HJ3; try simp only [if_pos c4] at q; exact q) ⟨Or.inr rfl, Or.inr rfl, Or.inr rfl, Or.inr rfl, trivial⟩
theorem eX3_outBy {E : EV} {h : Int} {M : Mem} {Q : Option MV → Mem → Prop} {v1 : Int} (H : G h M → TG E miX3_outBy 2 h Q 0 [(2, 16), (0, v1), (3, 0), (3, 0)] [] M) : C2 E miX3_outBy 2 h [(2, 16), (0, v1)] M Q :=
  C2_of (by decide +kernel) (Nat.le_of_ble_eq_true rfl) rfl H
set_option maxRecDepth 100000 in
set_option maxHeartbeats 2000000 in
theorem wX3_lastOutBy_0 {E : EV} {h : Int} {M : Mem} {Q : Option MV → Mem → Prop} {v1 : Int}  (H : (G h M → TG E miX3_lastOutBy 2 h Q 4 [(2, 16), (0, v1), (0, (-1)), (0, 0)] [] M)) : G h M → TG E miX3_lastOutBy 2 h Q 0 [(2, 16), (0, v1), (3, 0), (3, 0)] [] M := by
  intro hG
  refine T_iconst (pc' := 1) dX3_lastOutBy_0 (by decide) rfl ?_
  refine T_istore_n (i := 2) (L' := [(2, 16), (0, v1), (0, (-1)), (3, 0)]) (pc' := 2) dX3_lastOutBy_1 rfl (by decide) rfl rfl ?_
  refine T_iconst (pc' := 3) dX3_lastOutBy_2 (by decide) rfl ?_
  refine T_istore_n (i := 3) (L' := [(2, 16), (0, v1), (0, (-1)), (0, 0)]) (pc' := 4) dX3_lastOutBy_3 rfl (by decide) rfl rfl ?_
  exact T_wk (H hG) ⟨Or.inr rfl, Or.inr rfl, Or.inr rfl, Or.inr rfl, trivial⟩
set_option maxRecDepth 100000 in
set_option maxHeartbeats 2000000 in
theorem wX3_lastOutBy_4 {E : EV} {h : Int} {M : Mem} {Q : Option MV → Mem → Prop} {v1 : Int} {v2 : Int} {v3 : Int}  (H : ((9 ≤ v3 → Q (some (0, v2)) M) ∧ (¬ (9 ≤ v3) → (G h M → TG E miX3_lastOutBy 2 h Q 4 [(2, 16), (0, v1), (0, (if (fX11_get M 22 9 v3) = v1 then (if v2 < (fX11_get M 21 9 v3) then (fX11_get M 21 9 v3) else v2) else v2)), (0, (wr32 (v3 + 1)))] [] M)))) : G h M → TG E miX3_lastOutBy 2 h Q 4 [(2, 16), (0, v1), (0, v2), (0, v3)] [] M := by
  intro hG
  refine T_iload_n (i := 3) (pc' := 5) dX3_lastOutBy_4 rfl rfl rfl ?_
  refine T_bipush (pc' := 7) dX3_lastOutBy_5 rfl (by decide) rfl ?_
  refine T_icmp_ge (pc' := 41) dX3_lastOutBy_7 (by decide) (pf := 10) rfl (fun c1 => ?_) (fun c1 => ?_)
  · skip
    replace H := H.1 c1
    refine T_iload_n (i := 2) (pc' := 42) dX3_lastOutBy_41 rfl rfl rfl ?_
    exact T_iret dX3_lastOutBy_42 rfl ⟨rfl, hG, H⟩
  · skip
    replace H := H.2 c1
    refine T_aload_n (i := 0) (pc' := 11) dX3_lastOutBy_10 rfl rfl rfl ?_
    refine U_gr (q := 22) (k := 5) (kI := 5) (pc' := 14) dX3_lastOutBy_11 rfl cl3 (by decide) rfl (by decide) flX3_27 rfl rfl rfl (G_at hG 27 rfl) (by decide) rfl ?_
    refine T_iload_n (i := 3) (pc' := 15) dX3_lastOutBy_14 rfl rfl rfl ?_
    refine T_callSN (av := [(2, 22), (0, v3)]) (st := []) (d2 := 1) (nc2 := 0) (ns2 := 0) (pc' := 18) dX3_lastOutBy_15 rfl mtX11_get mvX11_get mlX3_67 rfl rfl (Nat.le_of_ble_eq_true rfl) (by decide) ⟨by decide, by decide⟩ rfl (pX11_get (E := E) (h := h) (M := M) (p0 := 22) (np0 := 9) (v1 := v3) (by decide) rfl (by decide) hG) (kF (st2 := [(0, (fX11_get M 22 9 v3))]) rfl (fun hG2 => ?_))
    refine T_iload_n (i := 1) (pc' := 19) dX3_lastOutBy_18 rfl rfl rfl ?_
    have HJ3 : T E miX3_lastOutBy 2 126 0 0 (fun r S M' => S = S0 ∧ G h M' ∧ Q r M') 35 [(2, 16), (0, v1), (0, (if (fX11_get M 22 9 v3) = v1 then (if v2 < (fX11_get M 21 9 v3) then (fX11_get M 21 9 v3) else v2) else v2)), (0, v3)] [] S0 M 0 0 := by
      refine T_iinc (L' := [(2, 16), (0, v1), (0, (if (fX11_get M 22 9 v3) = v1 then (if v2 < (fX11_get M 21 9 v3) then (fX11_get M 21 9 v3) else v2) else v2)), (0, (wr32 (v3 + 1)))]) (pc' := 38) dX3_lastOutBy_35 rfl (by decide) rfl rfl ?_
      refine T_goto (pc' := 4) dX3_lastOutBy_38 (by decide) ?_
      exact T_wk (H hG) ⟨Or.inr rfl, Or.inr rfl, Or.inr rfl, Or.inr rfl, trivial⟩
    refine T_icmp_ne (pc' := 35) dX3_lastOutBy_19 (by decide) (pf := 22) rfl (fun c4 => ?_) (fun c4 => ?_)
    · skip
      exact T_wk (L' := [(2, 16), (0, v1), (0, v2), (0, v3)]) (by have q := HJ3; try simp only [if_neg c4] at q; exact q) ⟨Or.inr rfl, Or.inr rfl, Or.inr rfl, Or.inr rfl, trivial⟩
    · skip
      refine T_iload_n (i := 2) (pc' := 23) dX3_lastOutBy_22 rfl rfl rfl ?_
      refine T_aload_n (i := 0) (pc' := 24) dX3_lastOutBy_23 rfl rfl rfl ?_
      refine U_gr (q := 21) (k := 4) (kI := 4) (pc' := 27) dX3_lastOutBy_24 rfl cl3 (by decide) rfl (by decide) flX3_24 rfl rfl rfl (G_at hG 26 rfl) (by decide) rfl ?_
      refine T_iload_n (i := 3) (pc' := 28) dX3_lastOutBy_27 rfl rfl rfl ?_
      refine T_callSN (av := [(2, 21), (0, v3)]) (st := [(0, v2)]) (d2 := 1) (nc2 := 0) (ns2 := 0) (pc' := 31) dX3_lastOutBy_28 rfl mtX11_get mvX11_get mlX3_67 rfl rfl (Nat.le_of_ble_eq_true rfl) (by decide) ⟨by decide, by decide⟩ rfl (pX11_get (E := E) (h := h) (M := M) (p0 := 21) (np0 := 9) (v1 := v3) (by decide) rfl (by decide) hG) (kF (st2 := [(0, (fX11_get M 21 9 v3)), (0, v2)]) rfl (fun hG5 => ?_))
      refine U_mmax (pc' := 34) dX3_lastOutBy_31 rfl mlX3_117 (Nat.le_of_ble_eq_true rfl) (by decide) ⟨by decide, by decide⟩ rfl ?_
      refine T_istore_n (i := 2) (L' := [(2, 16), (0, v1), (0, (if v2 < (fX11_get M 21 9 v3) then (fX11_get M 21 9 v3) else v2)), (0, v3)]) (pc' := 35) dX3_lastOutBy_34 rfl (by decide) rfl rfl ?_
      exact T_wk (L' := [(2, 16), (0, v1), (0, (if v2 < (fX11_get M 21 9 v3) then (fX11_get M 21 9 v3) else v2)), (0, v3)]) (by have q := HJ3; try simp only [if_pos c4] at q; exact q) ⟨Or.inr rfl, Or.inr rfl, Or.inr rfl, Or.inr rfl, trivial⟩
theorem eX3_lastOutBy {E : EV} {h : Int} {M : Mem} {Q : Option MV → Mem → Prop} {v1 : Int} (H : G h M → TG E miX3_lastOutBy 2 h Q 0 [(2, 16), (0, v1), (3, 0), (3, 0)] [] M) : C2 E miX3_lastOutBy 2 h [(2, 16), (0, v1)] M Q :=
  C2_of (by decide +kernel) (Nat.le_of_ble_eq_true rfl) rfl H
set_option maxRecDepth 100000 in
set_option maxHeartbeats 2000000 in
theorem wX3_findWays_0 {E : EV} {h : Int} {M : Mem} {Q : Option MV → Mem → Prop} {g : Int} (hg : isG g) (H : (G h M → TG E miX3_findWays 4 h Q 4 [(2, 16), (2, g), (0, 0), (0, 0), (3, 0), (3, 0), (3, 0)] [] M)) : G h M → TG E miX3_findWays 4 h Q 0 [(2, 16), (2, g), (3, 0), (3, 0), (3, 0), (3, 0), (3, 0)] [] M := by
  intro hG
  refine T_iconst (pc' := 1) dX3_findWays_0 (by decide) rfl ?_
  refine T_istore_n (i := 2) (L' := [(2, 16), (2, g), (0, 0), (3, 0), (3, 0), (3, 0), (3, 0)]) (pc' := 2) dX3_findWays_1 rfl (by decide) rfl rfl ?_
  refine T_iconst (pc' := 3) dX3_findWays_2 (by decide) rfl ?_
  refine T_istore_n (i := 3) (L' := [(2, 16), (2, g), (0, 0), (0, 0), (3, 0), (3, 0), (3, 0)]) (pc' := 4) dX3_findWays_3 rfl (by decide) rfl rfl ?_
  exact T_wk (H hG) ⟨Or.inr rfl, Or.inr rfl, Or.inr rfl, Or.inr rfl, Or.inl rfl, Or.inl rfl, Or.inl rfl, trivial⟩
set_option maxRecDepth 100000 in
set_option maxHeartbeats 2000000 in
theorem wX3_findWays_4 {E : EV} {h : Int} {M : Mem} {Q : Option MV → Mem → Prop} {g : Int} {v2 : Int} {v3 : Int} (hg : isG g) (H : ((54 ≤ v3 → (G h M → TG E miX3_findWays 4 h Q 27 [(2, 16), (2, g), (0, v2), (0, 0), (3, 0), (3, 0), (3, 0)] [] M)) ∧ (¬ (54 ≤ v3) → (∀ M3 : Mem, M3 = (fmX11_put M 23 54 v3 (-1)) → (G h M3 → TG E miX3_findWays 4 h Q 4 [(2, 16), (2, g), (0, v2), (0, (wr32 (v3 + 1))), (3, 0), (3, 0), (3, 0)] [] M3))))) : G h M → TG E miX3_findWays 4 h Q 4 [(2, 16), (2, g), (0, v2), (0, v3), (3, 0), (3, 0), (3, 0)] [] M := by
  intro hG
  refine T_iload_n (i := 3) (pc' := 5) dX3_findWays_4 rfl rfl rfl ?_
  refine T_bipush (pc' := 7) dX3_findWays_5 rfl (by decide) rfl ?_
  refine T_icmp_ge (pc' := 25) dX3_findWays_7 (by decide) (pf := 10) rfl (fun c1 => ?_) (fun c1 => ?_)
  · skip
    replace H := H.1 c1
    refine T_iconst (pc' := 26) dX3_findWays_25 (by decide) rfl ?_
    refine T_istore_n (i := 3) (L' := [(2, 16), (2, g), (0, v2), (0, 0), (3, 0), (3, 0), (3, 0)]) (pc' := 27) dX3_findWays_26 rfl (by decide) rfl rfl ?_
    exact T_wk (H hG) ⟨Or.inr rfl, Or.inr rfl, Or.inr rfl, Or.inr rfl, Or.inl rfl, Or.inl rfl, Or.inl rfl, trivial⟩
  · skip
    replace H := H.2 c1
    refine T_aload_n (i := 0) (pc' := 11) dX3_findWays_10 rfl rfl rfl ?_
    refine U_gr (q := 23) (k := 6) (kI := 6) (pc' := 14) dX3_findWays_11 rfl cl3 (by decide) rfl (by decide) flX3_30 rfl rfl rfl (G_at hG 28 rfl) (by decide) rfl ?_
    refine T_iload_n (i := 3) (pc' := 15) dX3_findWays_14 rfl rfl rfl ?_
    refine T_iconst (pc' := 16) dX3_findWays_15 (by decide) rfl ?_
    refine T_callSN (av := [(2, 23), (0, v3), (0, (-1))]) (st := []) (d2 := 1) (nc2 := 0) (ns2 := 0) (pc' := 19) dX3_findWays_16 rfl mtX11_put mvX11_put mlX3_71 rfl rfl (Nat.le_of_ble_eq_true rfl) (by decide) ⟨by decide, by decide⟩ rfl (pX11_put (E := E) (h := h) (M := M) (p0 := 23) (np0 := 54) (v1 := v3) (v2 := (-1)) (by decide) rfl (by decide) hG) (kF (st2 := []) rfl (fun hG2 => ?_))
    obtain ⟨M3, eM3⟩ : ∃ m : Mem, m = (fmX11_put M 23 54 v3 (-1)) := ⟨_, rfl⟩
    rw [← eM3] at hG2 ⊢
    replace H := H M3 eM3
    refine T_iinc (L' := [(2, 16), (2, g), (0, v2), (0, (wr32 (v3 + 1))), (3, 0), (3, 0), (3, 0)]) (pc' := 22) dX3_findWays_19 rfl (by decide) rfl rfl ?_
    refine T_goto (pc' := 4) dX3_findWays_22 (by decide) ?_
    exact T_wk (H hG2) ⟨Or.inr rfl, Or.inr rfl, Or.inr rfl, Or.inr rfl, Or.inl rfl, Or.inl rfl, Or.inl rfl, trivial⟩
set_option maxRecDepth 100000 in
set_option maxHeartbeats 2000000 in
theorem wX3_findWays_27 {E : EV} {h : Int} {M : Mem} {Q : Option MV → Mem → Prop} {g : Int} {v2 : Int} {v3 : Int} (hg : isG g) (H : (((M g 12) ≤ v3 → (G h M → TG E miX3_findWays 4 h Q 89 [(2, 16), (2, g), (0, v2), (0, 0), (3, 0), (3, 0), (3, 0)] [] M)) ∧ (¬ ((M g 12) ≤ v3) → (((fX11_get M (g + 11) 6 v3) = 0 → (∀ M6 : Mem, M6 = (fmX11_put M 23 54 (fX11_get M (g + 10) 6 v3) 0) → (∀ M9 : Mem, M9 = (fmX11_put M6 24 54 v2 (fX11_get M6 (g + 10) 6 v3)) → (G h M9 → TG E miX3_findWays 4 h Q 27 [(2, 16), (2, g), (0, (wr32 (v2 + 1))), (0, (wr32 (v3 + 1))), (3, 0), (3, 0), (3, 0)] [] M9)))) ∧ (¬ ((fX11_get M (g + 11) 6 v3) = 0) → (G h M → TG E miX3_findWays 4 h Q 27 [(2, 16), (2, g), (0, v2), (0, (wr32 (v3 + 1))), (3, 0), (3, 0), (3, 0)] [] M)))))) : G h M → TG E miX3_findWays 4 h Q 27 [(2, 16), (2, g), (0, v2), (0, v3), (3, 0), (3, 0), (3, 0)] [] M := by
  intro hG
  refine T_iload_n (i := 3) (pc' := 28) dX3_findWays_27 rfl rfl rfl ?_
  refine T_aload_n (i := 1) (pc' := 29) dX3_findWays_28 rfl rfl rfl ?_
  refine U_gfN (v := (0, (M g 12))) (k := 12) (kI := 12) (pc' := 32) dX3_findWays_29 rfl cl1 (pog0 hg) (shg0 hg) (by decide) flX3_84 rfl rfl (by decide) rfl rfl ?_
  refine T_icmp_ge (pc' := 87) dX3_findWays_32 (by decide) (pf := 35) rfl (fun c1 => ?_) (fun c1 => ?_)
  · skip
    replace H := H.1 c1
    refine T_iconst (pc' := 88) dX3_findWays_87 (by decide) rfl ?_
    refine T_istore_n (i := 3) (L' := [(2, 16), (2, g), (0, v2), (0, 0), (3, 0), (3, 0), (3, 0)]) (pc' := 89) dX3_findWays_88 rfl (by decide) rfl rfl ?_
    exact T_wk (H hG) ⟨Or.inr rfl, Or.inr rfl, Or.inr rfl, Or.inr rfl, Or.inl rfl, Or.inl rfl, Or.inl rfl, trivial⟩
  · skip
    replace H := H.2 c1
    refine T_aload_n (i := 1) (pc' := 36) dX3_findWays_35 rfl rfl rfl ?_
    refine U_grN (q := (g + 11)) (k := 3) (kI := 3) (pc' := 39) dX3_findWays_36 rfl cl1 (pog0 hg) (shg0 hg) (by decide) flX3_87 rfl rfl rfl (grg0_3 hg hG) (pog11 hg) rfl ?_
    refine T_iload_n (i := 3) (pc' := 40) dX3_findWays_39 rfl rfl rfl ?_
    refine T_callSN (av := [(2, (g + 11)), (0, v3)]) (st := []) (d2 := 1) (nc2 := 0) (ns2 := 0) (pc' := 43) dX3_findWays_40 rfl mtX11_get mvX11_get mlX3_67 rfl rfl (Nat.le_of_ble_eq_true rfl) (by decide) ⟨by decide, by decide⟩ rfl (pX11_get (E := E) (h := h) (M := M) (p0 := (g + 11)) (np0 := 6) (v1 := v3) (pog11 hg) (shg11 hg) (by decide) hG) (kF (st2 := [(0, (fX11_get M (g + 11) 6 v3))]) rfl (fun hG2 => ?_))
    refine T_if_ne (pc' := 81) dX3_findWays_43 (by decide) (pf := 46) rfl (fun c3 => ?_) (fun c3 => ?_)
    · skip
      replace H := H.2 c3
      refine T_iinc (L' := [(2, 16), (2, g), (0, v2), (0, (wr32 (v3 + 1))), (3, 0), (3, 0), (3, 0)]) (pc' := 84) dX3_findWays_81 rfl (by decide) rfl rfl ?_
      refine T_goto (pc' := 27) dX3_findWays_84 (by decide) ?_
      exact T_wk (H hG) ⟨Or.inr rfl, Or.inr rfl, Or.inr rfl, Or.inr rfl, Or.inl rfl, Or.inl rfl, Or.inl rfl, trivial⟩
    · skip
      replace H := H.1 c3
      refine T_aload_n (i := 0) (pc' := 47) dX3_findWays_46 rfl rfl rfl ?_
      refine U_gr (q := 23) (k := 6) (kI := 6) (pc' := 50) dX3_findWays_47 rfl cl3 (by decide) rfl (by decide) flX3_30 rfl rfl rfl (G_at hG 28 rfl) (by decide) rfl ?_
      refine T_aload_n (i := 1) (pc' := 51) dX3_findWays_50 rfl rfl rfl ?_
      refine U_grN (q := (g + 10)) (k := 2) (kI := 2) (pc' := 54) dX3_findWays_51 rfl cl1 (pog0 hg) (shg0 hg) (by decide) flX3_90 rfl rfl rfl (grg0_2 hg hG) (pog10 hg) rfl ?_
      refine T_iload_n (i := 3) (pc' := 55) dX3_findWays_54 rfl rfl rfl ?_
      refine T_callSN (av := [(2, (g + 10)), (0, v3)]) (st := [(2, 23)]) (d2 := 1) (nc2 := 0) (ns2 := 0) (pc' := 58) dX3_findWays_55 rfl mtX11_get mvX11_get mlX3_67 rfl rfl (Nat.le_of_ble_eq_true rfl) (by decide) ⟨by decide, by decide⟩ rfl (pX11_get (E := E) (h := h) (M := M) (p0 := (g + 10)) (np0 := 6) (v1 := v3) (pog10 hg) (shg10 hg) (by decide) hG) (kF (st2 := [(0, (fX11_get M (g + 10) 6 v3)), (2, 23)]) rfl (fun hG4 => ?_))
      refine T_iconst (pc' := 59) dX3_findWays_58 (by decide) rfl ?_
      refine T_callSN (av := [(2, 23), (0, (fX11_get M (g + 10) 6 v3)), (0, 0)]) (st := []) (d2 := 1) (nc2 := 0) (ns2 := 0) (pc' := 62) dX3_findWays_59 rfl mtX11_put mvX11_put mlX3_71 rfl rfl (Nat.le_of_ble_eq_true rfl) (by decide) ⟨by decide, by decide⟩ rfl (pX11_put (E := E) (h := h) (M := M) (p0 := 23) (np0 := 54) (v1 := (fX11_get M (g + 10) 6 v3)) (v2 := 0) (by decide) rfl (by decide) hG) (kF (st2 := []) rfl (fun hG5 => ?_))
      obtain ⟨M6, eM6⟩ : ∃ m : Mem, m = (fmX11_put M 23 54 (fX11_get M (g + 10) 6 v3) 0) := ⟨_, rfl⟩
      rw [← eM6] at hG5 ⊢
      replace H := H M6 eM6
      refine T_aload_n (i := 0) (pc' := 63) dX3_findWays_62 rfl rfl rfl ?_
      refine U_gr (q := 24) (k := 7) (kI := 7) (pc' := 66) dX3_findWays_63 rfl cl3 (by decide) rfl (by decide) flX3_33 rfl rfl rfl (G_at hG5 29 rfl) (by decide) rfl ?_
      refine T_iload_n (i := 2) (pc' := 67) dX3_findWays_66 rfl rfl rfl ?_
      refine T_aload_n (i := 1) (pc' := 68) dX3_findWays_67 rfl rfl rfl ?_
      refine U_grN (q := (g + 10)) (k := 2) (kI := 2) (pc' := 71) dX3_findWays_68 rfl cl1 (pog0 hg) (shg0 hg) (by decide) flX3_90 rfl rfl rfl (grg0_2 hg hG5) (pog10 hg) rfl ?_
      refine T_iload_n (i := 3) (pc' := 72) dX3_findWays_71 rfl rfl rfl ?_
      refine T_callSN (av := [(2, (g + 10)), (0, v3)]) (st := [(0, v2), (2, 24)]) (d2 := 1) (nc2 := 0) (ns2 := 0) (pc' := 75) dX3_findWays_72 rfl mtX11_get mvX11_get mlX3_67 rfl rfl (Nat.le_of_ble_eq_true rfl) (by decide) ⟨by decide, by decide⟩ rfl (pX11_get (E := E) (h := h) (M := M6) (p0 := (g + 10)) (np0 := 6) (v1 := v3) (pog10 hg) (shg10 hg) (by decide) hG5) (kF (st2 := [(0, (fX11_get M6 (g + 10) 6 v3)), (0, v2), (2, 24)]) rfl (fun hG7 => ?_))
      refine T_callSN (av := [(2, 24), (0, v2), (0, (fX11_get M6 (g + 10) 6 v3))]) (st := []) (d2 := 1) (nc2 := 0) (ns2 := 0) (pc' := 78) dX3_findWays_75 rfl mtX11_put mvX11_put mlX3_71 rfl rfl (Nat.le_of_ble_eq_true rfl) (by decide) ⟨by decide, by decide⟩ rfl (pX11_put (E := E) (h := h) (M := M6) (p0 := 24) (np0 := 54) (v1 := v2) (v2 := (fX11_get M6 (g + 10) 6 v3)) (by decide) rfl (by decide) hG5) (kF (st2 := []) rfl (fun hG8 => ?_))
      obtain ⟨M9, eM9⟩ : ∃ m : Mem, m = (fmX11_put M6 24 54 v2 (fX11_get M6 (g + 10) 6 v3)) := ⟨_, rfl⟩
      rw [← eM9] at hG8 ⊢
      replace H := H M9 eM9
      refine T_iinc (L' := [(2, 16), (2, g), (0, (wr32 (v2 + 1))), (0, v3), (3, 0), (3, 0), (3, 0)]) (pc' := 81) dX3_findWays_78 rfl (by decide) rfl rfl ?_
      refine T_iinc (L' := [(2, 16), (2, g), (0, (wr32 (v2 + 1))), (0, (wr32 (v3 + 1))), (3, 0), (3, 0), (3, 0)]) (pc' := 84) dX3_findWays_81 rfl (by decide) rfl rfl ?_
      refine T_goto (pc' := 27) dX3_findWays_84 (by decide) ?_
      exact T_wk (H hG8) ⟨Or.inr rfl, Or.inr rfl, Or.inr rfl, Or.inr rfl, Or.inl rfl, Or.inl rfl, Or.inl rfl, trivial⟩
set_option maxRecDepth 100000 in
set_option maxHeartbeats 2000000 in
theorem wX3_findWays_89 {E : EV} {h : Int} {M : Mem} {Q : Option MV → Mem → Prop} {g : Int} {v2 : Int} {v3 : Int} (hg : isG g) (H : ((v2 ≤ v3 → Q none M) ∧ (¬ (v2 ≤ v3) → ((54 ≤ v3 → Q none M) ∧ (¬ (54 ≤ v3) → (G h M → TG E miX3_findWays 4 h Q 113 [(2, 16), (2, g), (0, v2), (0, v3), (0, (fX11_get M 24 54 v3)), (0, 0), (3, 0)] [] M)))))) : G h M → TG E miX3_findWays 4 h Q 89 [(2, 16), (2, g), (0, v2), (0, v3), (3, 0), (3, 0), (3, 0)] [] M := by
  intro hG
  refine T_iload_n (i := 3) (pc' := 90) dX3_findWays_89 rfl rfl rfl ?_
  refine T_iload_n (i := 2) (pc' := 91) dX3_findWays_90 rfl rfl rfl ?_
  refine T_icmp_ge (pc' := 193) dX3_findWays_91 (by decide) (pf := 94) rfl (fun c1 => ?_) (fun c1 => ?_)
  · skip
    replace H := H.1 c1
    exact T_vret dX3_findWays_193 rfl ⟨rfl, hG, H⟩
  · skip
    replace H := H.2 c1
    refine T_iload_n (i := 3) (pc' := 95) dX3_findWays_94 rfl rfl rfl ?_
    refine T_bipush (pc' := 97) dX3_findWays_95 rfl (by decide) rfl ?_
    refine T_icmp_ge (pc' := 193) dX3_findWays_97 (by decide) (pf := 100) rfl (fun c2 => ?_) (fun c2 => ?_)
    · skip
      replace H := H.1 c2
      exact T_vret dX3_findWays_193 rfl ⟨rfl, hG, H⟩
    · skip
      replace H := H.2 c2
      refine T_aload_n (i := 0) (pc' := 101) dX3_findWays_100 rfl rfl rfl ?_
      refine U_gr (q := 24) (k := 7) (kI := 7) (pc' := 104) dX3_findWays_101 rfl cl3 (by decide) rfl (by decide) flX3_33 rfl rfl rfl (G_at hG 29 rfl) (by decide) rfl ?_
      refine T_iload_n (i := 3) (pc' := 105) dX3_findWays_104 rfl rfl rfl ?_
      refine T_callSN (av := [(2, 24), (0, v3)]) (st := []) (d2 := 1) (nc2 := 0) (ns2 := 0) (pc' := 108) dX3_findWays_105 rfl mtX11_get mvX11_get mlX3_67 rfl rfl (Nat.le_of_ble_eq_true rfl) (by decide) ⟨by decide, by decide⟩ rfl (pX11_get (E := E) (h := h) (M := M) (p0 := 24) (np0 := 54) (v1 := v3) (by decide) rfl (by decide) hG) (kF (st2 := [(0, (fX11_get M 24 54 v3))]) rfl (fun hG3 => ?_))
      refine T_istore (i := 4) (L' := [(2, 16), (2, g), (0, v2), (0, v3), (0, (fX11_get M 24 54 v3)), (3, 0), (3, 0)]) (pc' := 110) dX3_findWays_108 (by decide) rfl rfl ?_
      refine T_iconst (pc' := 111) dX3_findWays_110 (by decide) rfl ?_
      refine T_istore (i := 5) (L' := [(2, 16), (2, g), (0, v2), (0, v3), (0, (fX11_get M 24 54 v3)), (0, 0), (3, 0)]) (pc' := 113) dX3_findWays_111 (by decide) rfl rfl ?_
      exact T_wk (H hG) ⟨Or.inr rfl, Or.inr rfl, Or.inr rfl, Or.inr rfl, Or.inr rfl, Or.inr rfl, Or.inl rfl, trivial⟩
set_option maxRecDepth 100000 in
set_option maxHeartbeats 2000000 in
theorem wX3_findWays_113 {E : EV} {h : Int} {M : Mem} {Q : Option MV → Mem → Prop} {g : Int} {v2 : Int} {v3 : Int} {v4 : Int} {v5 : Int} (hg : isG g) (H : ((3 < v5 → (G h M → TG E miX3_findWays 4 h Q 89 [(2, 16), (2, g), (0, v2), (0, (wr32 (v3 + 1))), (3, 0), (3, 0), (3, 0)] [] M)) ∧ (¬ (3 < v5) → (((fX1_stepFrom M g v4 v5) = (-1) → (G h M → TG E miX3_findWays 4 h Q 113 [(2, 16), (2, g), (0, v2), (0, v3), (0, v4), (0, (wr32 (v5 + 1))), (3, 0)] [] M)) ∧ (¬ ((fX1_stepFrom M g v4 v5) = (-1)) → (((fX11_get M 23 54 (fX1_stepFrom M g v4 v5)) = (-1) → (∀ M8 : Mem, M8 = (fmX11_put M 23 54 (fX1_stepFrom M g v4 v5) (wr32 ((fX11_get M 23 54 v4) + 1))) → (∀ M10 : Mem, M10 = (fmX11_put M8 24 54 v2 (fX1_stepFrom M g v4 v5)) → (G h M10 → TG E miX3_findWays 4 h Q 113 [(2, 16), (2, g), (0, (wr32 (v2 + 1))), (0, v3), (0, v4), (0, (wr32 (v5 + 1))), (3, 0)] [] M10)))) ∧ (¬ ((fX11_get M 23 54 (fX1_stepFrom M g v4 v5)) = (-1)) → (G h M → TG E miX3_findWays 4 h Q 113 [(2, 16), (2, g), (0, v2), (0, v3), (0, v4), (0, (wr32 (v5 + 1))), (3, 0)] [] M)))))))) : G h M → TG E miX3_findWays 4 h Q 113 [(2, 16), (2, g), (0, v2), (0, v3), (0, v4), (0, v5), (3, 0)] [] M := by
  intro hG
  refine T_iload (i := 5) (pc' := 115) dX3_findWays_113 rfl rfl ?_
  refine T_iconst (pc' := 116) dX3_findWays_115 (by decide) rfl ?_
  refine T_icmp_gt (pc' := 187) dX3_findWays_116 (by decide) (pf := 119) rfl (fun c1 => ?_) (fun c1 => ?_)
  · skip
    replace H := H.1 c1
    refine T_iinc (L' := [(2, 16), (2, g), (0, v2), (0, (wr32 (v3 + 1))), (0, v4), (0, v5), (3, 0)]) (pc' := 190) dX3_findWays_187 rfl (by decide) rfl rfl ?_
    refine T_goto (pc' := 89) dX3_findWays_190 (by decide) ?_
    exact T_wk (H hG) ⟨Or.inr rfl, Or.inr rfl, Or.inr rfl, Or.inr rfl, Or.inl rfl, Or.inl rfl, Or.inl rfl, trivial⟩
  · skip
    replace H := H.2 c1
    refine T_aload_n (i := 1) (pc' := 120) dX3_findWays_119 rfl rfl rfl ?_
    refine T_iload (i := 4) (pc' := 122) dX3_findWays_120 rfl rfl ?_
    refine T_iload (i := 5) (pc' := 124) dX3_findWays_122 rfl rfl ?_
    refine T_callV (av := [(0, v4), (0, v5)]) (st := []) (d2 := 3) (nc2 := 0) (ns2 := 0) (pc' := 127) dX3_findWays_124 rfl mtX1_stepFrom mvX1_stepFrom mlX3_93 cl1 (shg0 hg) rfl rfl (Nat.le_of_ble_eq_true rfl) (by decide) ⟨by decide, by decide⟩ rfl (pX1_stepFrom (E := E) (h := h) (M := M) (g := g) (v1 := v4) (v2 := v5) hg hG) (kF (st2 := [(0, (fX1_stepFrom M g v4 v5))]) rfl (fun hG2 => ?_))
    refine T_istore (i := 6) (L' := [(2, 16), (2, g), (0, v2), (0, v3), (0, v4), (0, v5), (0, (fX1_stepFrom M g v4 v5))]) (pc' := 129) dX3_findWays_127 (by decide) rfl rfl ?_
    refine T_iload (i := 6) (pc' := 131) dX3_findWays_129 rfl rfl ?_
    refine T_iconst (pc' := 132) dX3_findWays_131 (by decide) rfl ?_
    refine T_icmp_eq (pc' := 181) dX3_findWays_132 (by decide) (pf := 135) rfl (fun c3 => ?_) (fun c3 => ?_)
    · skip
      replace H := H.1 c3
      refine T_iinc (L' := [(2, 16), (2, g), (0, v2), (0, v3), (0, v4), (0, (wr32 (v5 + 1))), (0, (fX1_stepFrom M g v4 v5))]) (pc' := 184) dX3_findWays_181 rfl (by decide) rfl rfl ?_
      refine T_goto (pc' := 113) dX3_findWays_184 (by decide) ?_
      exact T_wk (H hG) ⟨Or.inr rfl, Or.inr rfl, Or.inr rfl, Or.inr rfl, Or.inr rfl, Or.inr rfl, Or.inl rfl, trivial⟩
    · skip
      replace H := H.2 c3
      refine T_aload_n (i := 0) (pc' := 136) dX3_findWays_135 rfl rfl rfl ?_
      refine U_gr (q := 23) (k := 6) (kI := 6) (pc' := 139) dX3_findWays_136 rfl cl3 (by decide) rfl (by decide) flX3_30 rfl rfl rfl (G_at hG 28 rfl) (by decide) rfl ?_
      refine T_iload (i := 6) (pc' := 141) dX3_findWays_139 rfl rfl ?_
      refine T_callSN (av := [(2, 23), (0, (fX1_stepFrom M g v4 v5))]) (st := []) (d2 := 1) (nc2 := 0) (ns2 := 0) (pc' := 144) dX3_findWays_141 rfl mtX11_get mvX11_get mlX3_67 rfl rfl (Nat.le_of_ble_eq_true rfl) (by decide) ⟨by decide, by decide⟩ rfl (pX11_get (E := E) (h := h) (M := M) (p0 := 23) (np0 := 54) (v1 := (fX1_stepFrom M g v4 v5)) (by decide) rfl (by decide) hG) (kF (st2 := [(0, (fX11_get M 23 54 (fX1_stepFrom M g v4 v5)))]) rfl (fun hG4 => ?_))
      refine T_iconst (pc' := 145) dX3_findWays_144 (by decide) rfl ?_
      refine T_icmp_ne (pc' := 181) dX3_findWays_145 (by decide) (pf := 148) rfl (fun c5 => ?_) (fun c5 => ?_)
      · skip
        replace H := H.2 c5
        refine T_iinc (L' := [(2, 16), (2, g), (0, v2), (0, v3), (0, v4), (0, (wr32 (v5 + 1))), (0, (fX1_stepFrom M g v4 v5))]) (pc' := 184) dX3_findWays_181 rfl (by decide) rfl rfl ?_
        refine T_goto (pc' := 113) dX3_findWays_184 (by decide) ?_
        exact T_wk (H hG) ⟨Or.inr rfl, Or.inr rfl, Or.inr rfl, Or.inr rfl, Or.inr rfl, Or.inr rfl, Or.inl rfl, trivial⟩
      · skip
        replace H := H.1 c5
        refine T_aload_n (i := 0) (pc' := 149) dX3_findWays_148 rfl rfl rfl ?_
        refine U_gr (q := 23) (k := 6) (kI := 6) (pc' := 152) dX3_findWays_149 rfl cl3 (by decide) rfl (by decide) flX3_30 rfl rfl rfl (G_at hG 28 rfl) (by decide) rfl ?_
        refine T_iload (i := 6) (pc' := 154) dX3_findWays_152 rfl rfl ?_
        refine T_aload_n (i := 0) (pc' := 155) dX3_findWays_154 rfl rfl rfl ?_
        refine U_gr (q := 23) (k := 6) (kI := 6) (pc' := 158) dX3_findWays_155 rfl cl3 (by decide) rfl (by decide) flX3_30 rfl rfl rfl (G_at hG 28 rfl) (by decide) rfl ?_
        refine T_iload (i := 4) (pc' := 160) dX3_findWays_158 rfl rfl ?_
        refine T_callSN (av := [(2, 23), (0, v4)]) (st := [(0, (fX1_stepFrom M g v4 v5)), (2, 23)]) (d2 := 1) (nc2 := 0) (ns2 := 0) (pc' := 163) dX3_findWays_160 rfl mtX11_get mvX11_get mlX3_67 rfl rfl (Nat.le_of_ble_eq_true rfl) (by decide) ⟨by decide, by decide⟩ rfl (pX11_get (E := E) (h := h) (M := M) (p0 := 23) (np0 := 54) (v1 := v4) (by decide) rfl (by decide) hG) (kF (st2 := [(0, (fX11_get M 23 54 v4)), (0, (fX1_stepFrom M g v4 v5)), (2, 23)]) rfl (fun hG6 => ?_))
        refine T_iconst (pc' := 164) dX3_findWays_163 (by decide) rfl ?_
        refine T_iadd (pc' := 165) dX3_findWays_164 rfl ?_
        refine T_callSN (av := [(2, 23), (0, (fX1_stepFrom M g v4 v5)), (0, (wr32 ((fX11_get M 23 54 v4) + 1)))]) (st := []) (d2 := 1) (nc2 := 0) (ns2 := 0) (pc' := 168) dX3_findWays_165 rfl mtX11_put mvX11_put mlX3_71 rfl rfl (Nat.le_of_ble_eq_true rfl) (by decide) ⟨by decide, by decide⟩ rfl (pX11_put (E := E) (h := h) (M := M) (p0 := 23) (np0 := 54) (v1 := (fX1_stepFrom M g v4 v5)) (v2 := (wr32 ((fX11_get M 23 54 v4) + 1))) (by decide) rfl (by decide) hG) (kF (st2 := []) rfl (fun hG7 => ?_))
        obtain ⟨M8, eM8⟩ : ∃ m : Mem, m = (fmX11_put M 23 54 (fX1_stepFrom M g v4 v5) (wr32 ((fX11_get M 23 54 v4) + 1))) := ⟨_, rfl⟩
        rw [← eM8] at hG7 ⊢
        replace H := H M8 eM8
        refine T_aload_n (i := 0) (pc' := 169) dX3_findWays_168 rfl rfl rfl ?_
        refine U_gr (q := 24) (k := 7) (kI := 7) (pc' := 172) dX3_findWays_169 rfl cl3 (by decide) rfl (by decide) flX3_33 rfl rfl rfl (G_at hG7 29 rfl) (by decide) rfl ?_
        refine T_iload_n (i := 2) (pc' := 173) dX3_findWays_172 rfl rfl rfl ?_
        refine T_iload (i := 6) (pc' := 175) dX3_findWays_173 rfl rfl ?_
        refine T_callSN (av := [(2, 24), (0, v2), (0, (fX1_stepFrom M g v4 v5))]) (st := []) (d2 := 1) (nc2 := 0) (ns2 := 0) (pc' := 178) dX3_findWays_175 rfl mtX11_put mvX11_put mlX3_71 rfl rfl (Nat.le_of_ble_eq_true rfl) (by decide) ⟨by decide, by decide⟩ rfl (pX11_put (E := E) (h := h) (M := M8) (p0 := 24) (np0 := 54) (v1 := v2) (v2 := (fX1_stepFrom M g v4 v5)) (by decide) rfl (by decide) hG7) (kF (st2 := []) rfl (fun hG9 => ?_))
        obtain ⟨M10, eM10⟩ : ∃ m : Mem, m = (fmX11_put M8 24 54 v2 (fX1_stepFrom M g v4 v5)) := ⟨_, rfl⟩
        rw [← eM10] at hG9 ⊢
        replace H := H M10 eM10
        refine T_iinc (L' := [(2, 16), (2, g), (0, (wr32 (v2 + 1))), (0, v3), (0, v4), (0, v5), (0, (fX1_stepFrom M g v4 v5))]) (pc' := 181) dX3_findWays_178 rfl (by decide) rfl rfl ?_
        refine T_iinc (L' := [(2, 16), (2, g), (0, (wr32 (v2 + 1))), (0, v3), (0, v4), (0, (wr32 (v5 + 1))), (0, (fX1_stepFrom M g v4 v5))]) (pc' := 184) dX3_findWays_181 rfl (by decide) rfl rfl ?_
        refine T_goto (pc' := 113) dX3_findWays_184 (by decide) ?_
        exact T_wk (H hG9) ⟨Or.inr rfl, Or.inr rfl, Or.inr rfl, Or.inr rfl, Or.inr rfl, Or.inr rfl, Or.inl rfl, trivial⟩
theorem eX3_findWays {E : EV} {h : Int} {M : Mem} {Q : Option MV → Mem → Prop} {g : Int} (H : G h M → TG E miX3_findWays 4 h Q 0 [(2, 16), (2, g), (3, 0), (3, 0), (3, 0), (3, 0), (3, 0)] [] M) : C2 E miX3_findWays 4 h [(2, 16), (2, g)] M Q :=
  C2_of (by decide +kernel) (Nat.le_of_ble_eq_true rfl) rfl H
set_option maxRecDepth 100000 in
set_option maxHeartbeats 2000000 in
theorem wX3_nearer_0 {E : EV} {h : Int} {M : Mem} {Q : Option MV → Mem → Prop} {g : Int} {v2 : Int} (hg : isG g) (H : (G h M → TG E miX3_nearer 4 h Q 12 [(2, 16), (2, g), (0, v2), (0, (fX11_get M 23 54 v2)), (0, 0), (3, 0)] [] M)) : G h M → TG E miX3_nearer 4 h Q 0 [(2, 16), (2, g), (0, v2), (3, 0), (3, 0), (3, 0)] [] M := by
  intro hG
  refine T_aload_n (i := 0) (pc' := 1) dX3_nearer_0 rfl rfl rfl ?_
  refine U_gr (q := 23) (k := 6) (kI := 6) (pc' := 4) dX3_nearer_1 rfl cl3 (by decide) rfl (by decide) flX3_30 rfl rfl rfl (G_at hG 28 rfl) (by decide) rfl ?_
  refine T_iload_n (i := 2) (pc' := 5) dX3_nearer_4 rfl rfl rfl ?_
  refine T_callSN (av := [(2, 23), (0, v2)]) (st := []) (d2 := 1) (nc2 := 0) (ns2 := 0) (pc' := 8) dX3_nearer_5 rfl mtX11_get mvX11_get mlX3_67 rfl rfl (Nat.le_of_ble_eq_true rfl) (by decide) ⟨by decide, by decide⟩ rfl (pX11_get (E := E) (h := h) (M := M) (p0 := 23) (np0 := 54) (v1 := v2) (by decide) rfl (by decide) hG) (kF (st2 := [(0, (fX11_get M 23 54 v2))]) rfl (fun hG1 => ?_))
  refine T_istore_n (i := 3) (L' := [(2, 16), (2, g), (0, v2), (0, (fX11_get M 23 54 v2)), (3, 0), (3, 0)]) (pc' := 9) dX3_nearer_8 rfl (by decide) rfl rfl ?_
  refine T_iconst (pc' := 10) dX3_nearer_9 (by decide) rfl ?_
  refine T_istore (i := 4) (L' := [(2, 16), (2, g), (0, v2), (0, (fX11_get M 23 54 v2)), (0, 0), (3, 0)]) (pc' := 12) dX3_nearer_10 (by decide) rfl rfl ?_
  exact T_wk (H hG) ⟨Or.inr rfl, Or.inr rfl, Or.inr rfl, Or.inr rfl, Or.inr rfl, Or.inl rfl, trivial⟩
set_option maxRecDepth 100000 in
set_option maxHeartbeats 2000000 in
theorem wX3_nearer_12 {E : EV} {h : Int} {M : Mem} {Q : Option MV → Mem → Prop} {g : Int} {v2 : Int} {v3 : Int} {v4 : Int} (hg : isG g) (H : ((3 < v4 → Q (some (0, v2)) M) ∧ (¬ (3 < v4) → (((fX1_stepFrom M g v2 v4) = (-1) → (G h M → TG E miX3_nearer 4 h Q 12 [(2, 16), (2, g), (0, v2), (0, v3), (0, (wr32 (v4 + 1))), (3, 0)] [] M)) ∧ (¬ ((fX1_stepFrom M g v2 v4) = (-1)) → ((v3 = (-1) → (G h M → TG E miX3_nearer 4 h Q 12 [(2, 16), (2, g), (0, v2), (0, v3), (0, (wr32 (v4 + 1))), (3, 0)] [] M)) ∧ (¬ (v3 = (-1)) → ((v3 ≤ (fX11_get M 23 54 (fX1_stepFrom M g v2 v4)) → (G h M → TG E miX3_nearer 4 h Q 12 [(2, 16), (2, g), (0, v2), (0, v3), (0, (wr32 (v4 + 1))), (3, 0)] [] M)) ∧ (¬ (v3 ≤ (fX11_get M 23 54 (fX1_stepFrom M g v2 v4))) → Q (some (0, (fX1_stepFrom M g v2 v4))) M))))))))) : G h M → TG E miX3_nearer 4 h Q 12 [(2, 16), (2, g), (0, v2), (0, v3), (0, v4), (3, 0)] [] M := by
  intro hG
  refine T_iload (i := 4) (pc' := 14) dX3_nearer_12 rfl rfl ?_
  refine T_iconst (pc' := 15) dX3_nearer_14 (by decide) rfl ?_
  refine T_icmp_gt (pc' := 60) dX3_nearer_15 (by decide) (pf := 18) rfl (fun c1 => ?_) (fun c1 => ?_)
  · skip
    replace H := H.1 c1
    refine T_iload_n (i := 2) (pc' := 61) dX3_nearer_60 rfl rfl rfl ?_
    exact T_iret dX3_nearer_61 rfl ⟨rfl, hG, H⟩
  · skip
    replace H := H.2 c1
    refine T_aload_n (i := 1) (pc' := 19) dX3_nearer_18 rfl rfl rfl ?_
    refine T_iload_n (i := 2) (pc' := 20) dX3_nearer_19 rfl rfl rfl ?_
    refine T_iload (i := 4) (pc' := 22) dX3_nearer_20 rfl rfl ?_
    refine T_callV (av := [(0, v2), (0, v4)]) (st := []) (d2 := 3) (nc2 := 0) (ns2 := 0) (pc' := 25) dX3_nearer_22 rfl mtX1_stepFrom mvX1_stepFrom mlX3_93 cl1 (shg0 hg) rfl rfl (Nat.le_of_ble_eq_true rfl) (by decide) ⟨by decide, by decide⟩ rfl (pX1_stepFrom (E := E) (h := h) (M := M) (g := g) (v1 := v2) (v2 := v4) hg hG) (kF (st2 := [(0, (fX1_stepFrom M g v2 v4))]) rfl (fun hG2 => ?_))
    refine T_istore (i := 5) (L' := [(2, 16), (2, g), (0, v2), (0, v3), (0, v4), (0, (fX1_stepFrom M g v2 v4))]) (pc' := 27) dX3_nearer_25 (by decide) rfl rfl ?_
    refine T_iload (i := 5) (pc' := 29) dX3_nearer_27 rfl rfl ?_
    refine T_iconst (pc' := 30) dX3_nearer_29 (by decide) rfl ?_
    refine T_icmp_eq (pc' := 54) dX3_nearer_30 (by decide) (pf := 33) rfl (fun c3 => ?_) (fun c3 => ?_)
    · skip
      replace H := H.1 c3
      refine T_iinc (L' := [(2, 16), (2, g), (0, v2), (0, v3), (0, (wr32 (v4 + 1))), (0, (fX1_stepFrom M g v2 v4))]) (pc' := 57) dX3_nearer_54 rfl (by decide) rfl rfl ?_
      refine T_goto (pc' := 12) dX3_nearer_57 (by decide) ?_
      exact T_wk (H hG) ⟨Or.inr rfl, Or.inr rfl, Or.inr rfl, Or.inr rfl, Or.inr rfl, Or.inl rfl, trivial⟩
    · skip
      replace H := H.2 c3
      refine T_iload_n (i := 3) (pc' := 34) dX3_nearer_33 rfl rfl rfl ?_
      refine T_iconst (pc' := 35) dX3_nearer_34 (by decide) rfl ?_
      refine T_icmp_eq (pc' := 54) dX3_nearer_35 (by decide) (pf := 38) rfl (fun c4 => ?_) (fun c4 => ?_)
      · skip
        replace H := H.1 c4
        refine T_iinc (L' := [(2, 16), (2, g), (0, v2), (0, v3), (0, (wr32 (v4 + 1))), (0, (fX1_stepFrom M g v2 v4))]) (pc' := 57) dX3_nearer_54 rfl (by decide) rfl rfl ?_
        refine T_goto (pc' := 12) dX3_nearer_57 (by decide) ?_
        exact T_wk (H hG) ⟨Or.inr rfl, Or.inr rfl, Or.inr rfl, Or.inr rfl, Or.inr rfl, Or.inl rfl, trivial⟩
      · skip
        replace H := H.2 c4
        refine T_aload_n (i := 0) (pc' := 39) dX3_nearer_38 rfl rfl rfl ?_
        refine U_gr (q := 23) (k := 6) (kI := 6) (pc' := 42) dX3_nearer_39 rfl cl3 (by decide) rfl (by decide) flX3_30 rfl rfl rfl (G_at hG 28 rfl) (by decide) rfl ?_
        refine T_iload (i := 5) (pc' := 44) dX3_nearer_42 rfl rfl ?_
        refine T_callSN (av := [(2, 23), (0, (fX1_stepFrom M g v2 v4))]) (st := []) (d2 := 1) (nc2 := 0) (ns2 := 0) (pc' := 47) dX3_nearer_44 rfl mtX11_get mvX11_get mlX3_67 rfl rfl (Nat.le_of_ble_eq_true rfl) (by decide) ⟨by decide, by decide⟩ rfl (pX11_get (E := E) (h := h) (M := M) (p0 := 23) (np0 := 54) (v1 := (fX1_stepFrom M g v2 v4)) (by decide) rfl (by decide) hG) (kF (st2 := [(0, (fX11_get M 23 54 (fX1_stepFrom M g v2 v4)))]) rfl (fun hG5 => ?_))
        refine T_iload_n (i := 3) (pc' := 48) dX3_nearer_47 rfl rfl rfl ?_
        refine T_icmp_ge (pc' := 54) dX3_nearer_48 (by decide) (pf := 51) rfl (fun c6 => ?_) (fun c6 => ?_)
        · skip
          replace H := H.1 c6
          refine T_iinc (L' := [(2, 16), (2, g), (0, v2), (0, v3), (0, (wr32 (v4 + 1))), (0, (fX1_stepFrom M g v2 v4))]) (pc' := 57) dX3_nearer_54 rfl (by decide) rfl rfl ?_
          refine T_goto (pc' := 12) dX3_nearer_57 (by decide) ?_
          exact T_wk (H hG) ⟨Or.inr rfl, Or.inr rfl, Or.inr rfl, Or.inr rfl, Or.inr rfl, Or.inl rfl, trivial⟩
        · skip
          replace H := H.2 c6
          refine T_iload (i := 5) (pc' := 53) dX3_nearer_51 rfl rfl ?_
          exact T_iret dX3_nearer_53 rfl ⟨rfl, hG, H⟩
theorem eX3_nearer {E : EV} {h : Int} {M : Mem} {Q : Option MV → Mem → Prop} {g : Int} {v2 : Int} (H : G h M → TG E miX3_nearer 4 h Q 0 [(2, 16), (2, g), (0, v2), (3, 0), (3, 0), (3, 0)] [] M) : C2 E miX3_nearer 4 h [(2, 16), (2, g), (0, v2)] M Q :=
  C2_of (by decide +kernel) (Nat.le_of_ble_eq_true rfl) rfl H
set_option maxRecDepth 100000 in
set_option maxHeartbeats 2000000 in
theorem wX7_findFirst_0 {E : EV} {h : Int} {M : Mem} {Q : Option MV → Mem → Prop} {g : Int} {v2 : Int} (hg : isG g) (H : (G h M → TG E miX7_findFirst 2 h Q 7 [(2, 9), (2, g), (0, v2), (0, 201), (0, 0), (3, 0)] [] M)) : G h M → TG E miX7_findFirst 2 h Q 0 [(2, 9), (2, g), (0, v2), (3, 0), (3, 0), (3, 0)] [] M := by
  intro hG
  refine T_sipush (pc' := 3) dX7_findFirst_0 rfl (by decide) rfl ?_
  refine T_istore_n (i := 3) (L' := [(2, 9), (2, g), (0, v2), (0, 201), (3, 0), (3, 0)]) (pc' := 4) dX7_findFirst_3 rfl (by decide) rfl rfl ?_
  refine T_iconst (pc' := 5) dX7_findFirst_4 (by decide) rfl ?_
  refine T_istore (i := 4) (L' := [(2, 9), (2, g), (0, v2), (0, 201), (0, 0), (3, 0)]) (pc' := 7) dX7_findFirst_5 (by decide) rfl rfl ?_
  exact T_wk (H hG) ⟨Or.inr rfl, Or.inr rfl, Or.inr rfl, Or.inr rfl, Or.inr rfl, Or.inl rfl, trivial⟩
set_option maxRecDepth 100000 in
set_option maxHeartbeats 2000000 in
theorem wX7_findFirst_7 {E : EV} {h : Int} {M : Mem} {Q : Option MV → Mem → Prop} {g : Int} {v2 : Int} {v3 : Int} {v4 : Int} (hg : isG g) (H : (((M (g + 1) 8) ≤ v4 → Q (some (0, v3)) M) ∧ (¬ ((M (g + 1) 8) ≤ v4) → (∀ M5 : Mem, M5 = (fmX11_put M 12 9 v4 (if (fX11_hasBit (M (g + 1) 7) v4) = 0 then (if 1 < (wr32 ((wr32 ((M g 14) + (fX11_get M (g + 4) 9 v4))) - 60)) then (wr32 ((wr32 ((M g 14) + (fX11_get M (g + 4) 9 v4))) - 60)) else 1) else 201)) → (G h M5 → TG E miX7_findFirst 2 h Q 7 [(2, 9), (2, g), (0, v2), (0, (if (fX11_hasBit v2 v4) = 0 then v3 else (if (if (fX11_hasBit (M (g + 1) 7) v4) = 0 then (if 1 < (wr32 ((wr32 ((M g 14) + (fX11_get M (g + 4) 9 v4))) - 60)) then (wr32 ((wr32 ((M g 14) + (fX11_get M (g + 4) 9 v4))) - 60)) else 1) else 201) < v3 then (if (fX11_hasBit (M (g + 1) 7) v4) = 0 then (if 1 < (wr32 ((wr32 ((M g 14) + (fX11_get M (g + 4) 9 v4))) - 60)) then (wr32 ((wr32 ((M g 14) + (fX11_get M (g + 4) 9 v4))) - 60)) else 1) else 201) else v3))), (0, (wr32 (v4 + 1))), (3, 0)] [] M5))))) : G h M → TG E miX7_findFirst 2 h Q 7 [(2, 9), (2, g), (0, v2), (0, v3), (0, v4), (3, 0)] [] M := by
  intro hG
  refine T_iload (i := 4) (pc' := 9) dX7_findFirst_7 rfl rfl ?_
  refine T_aload_n (i := 1) (pc' := 10) dX7_findFirst_9 rfl rfl rfl ?_
  refine U_grN (q := (g + 1)) (k := 0) (kI := 0) (pc' := 13) dX7_findFirst_10 rfl cl1 (pog0 hg) (shg0 hg) (by decide) flX7_46 rfl rfl rfl (grg0_0 hg hG) (pog1 hg) rfl ?_
  refine U_gfN (v := (0, (M (g + 1) 8))) (k := 8) (kI := 8) (pc' := 16) dX7_findFirst_13 rfl cl4 (pog1 hg) (shg1 hg) (by decide) flX7_52 rfl rfl (by decide) rfl rfl ?_
  refine T_icmp_ge (pc' := 98) dX7_findFirst_16 (by decide) (pf := 19) rfl (fun c1 => ?_) (fun c1 => ?_)
  · skip
    replace H := H.1 c1
    refine T_iload_n (i := 3) (pc' := 99) dX7_findFirst_98 rfl rfl rfl ?_
    exact T_iret dX7_findFirst_99 rfl ⟨rfl, hG, H⟩
  · skip
    replace H := H.2 c1
    refine T_sipush (pc' := 22) dX7_findFirst_19 rfl (by decide) rfl ?_
    refine T_istore (i := 5) (L' := [(2, 9), (2, g), (0, v2), (0, v3), (0, v4), (0, 201)]) (pc' := 24) dX7_findFirst_22 (by decide) rfl rfl ?_
    refine T_aload_n (i := 1) (pc' := 25) dX7_findFirst_24 rfl rfl rfl ?_
    refine U_grN (q := (g + 1)) (k := 0) (kI := 0) (pc' := 28) dX7_findFirst_25 rfl cl1 (pog0 hg) (shg0 hg) (by decide) flX7_46 rfl rfl rfl (grg0_0 hg hG) (pog1 hg) rfl ?_
    refine U_gfN (v := (0, (M (g + 1) 7))) (k := 7) (kI := 7) (pc' := 31) dX7_findFirst_28 rfl cl4 (pog1 hg) (shg1 hg) (by decide) flX7_129 rfl rfl (by decide) rfl rfl ?_
    refine T_iload (i := 4) (pc' := 33) dX7_findFirst_31 rfl rfl ?_
    refine T_callSN (av := [(0, (M (g + 1) 7)), (0, v4)]) (st := []) (d2 := 1) (nc2 := 0) (ns2 := 0) (pc' := 36) dX7_findFirst_33 rfl mtX11_hasBit mvX11_hasBit mlX7_122 rfl rfl (Nat.le_of_ble_eq_true rfl) (by decide) ⟨by decide, by decide⟩ rfl (pX11_hasBit (E := E) (h := h) (M := M) (v0 := (M (g + 1) 7)) (v1 := v4) hG) (kF (st2 := [(0, (fX11_hasBit (M (g + 1) 7) v4))]) rfl (fun hG2 => ?_))
    have HJ3 : T E miX7_findFirst 2 126 0 0 (fun r S M' => S = S0 ∧ G h M' ∧ Q r M') 65 [(2, 9), (2, g), (0, v2), (0, v3), (0, v4), (0, (if (fX11_hasBit (M (g + 1) 7) v4) = 0 then (if 1 < (wr32 ((wr32 ((M g 14) + (fX11_get M (g + 4) 9 v4))) - 60)) then (wr32 ((wr32 ((M g 14) + (fX11_get M (g + 4) 9 v4))) - 60)) else 1) else 201))] [] S0 M 0 0 := by
      refine T_aload_n (i := 0) (pc' := 66) dX7_findFirst_65 rfl rfl rfl ?_
      refine U_gr (q := 12) (k := 2) (kI := 2) (pc' := 69) dX7_findFirst_66 rfl cl7 (by decide) rfl (by decide) flX7_18 rfl rfl rfl (G_at hG 18 rfl) (by decide) rfl ?_
      refine T_iload (i := 4) (pc' := 71) dX7_findFirst_69 rfl rfl ?_
      refine T_iload (i := 5) (pc' := 73) dX7_findFirst_71 rfl rfl ?_
      refine T_callSN (av := [(2, 12), (0, v4), (0, (if (fX11_hasBit (M (g + 1) 7) v4) = 0 then (if 1 < (wr32 ((wr32 ((M g 14) + (fX11_get M (g + 4) 9 v4))) - 60)) then (wr32 ((wr32 ((M g 14) + (fX11_get M (g + 4) 9 v4))) - 60)) else 1) else 201))]) (st := []) (d2 := 1) (nc2 := 0) (ns2 := 0) (pc' := 76) dX7_findFirst_73 rfl mtX11_put mvX11_put mlX7_75 rfl rfl (Nat.le_of_ble_eq_true rfl) (by decide) ⟨by decide, by decide⟩ rfl (pX11_put (E := E) (h := h) (M := M) (p0 := 12) (np0 := 9) (v1 := v4) (v2 := (if (fX11_hasBit (M (g + 1) 7) v4) = 0 then (if 1 < (wr32 ((wr32 ((M g 14) + (fX11_get M (g + 4) 9 v4))) - 60)) then (wr32 ((wr32 ((M g 14) + (fX11_get M (g + 4) 9 v4))) - 60)) else 1) else 201)) (by decide) rfl (by decide) hG) (kF (st2 := []) rfl (fun hG4 => ?_))
      obtain ⟨M5, eM5⟩ : ∃ m : Mem, m = (fmX11_put M 12 9 v4 (if (fX11_hasBit (M (g + 1) 7) v4) = 0 then (if 1 < (wr32 ((wr32 ((M g 14) + (fX11_get M (g + 4) 9 v4))) - 60)) then (wr32 ((wr32 ((M g 14) + (fX11_get M (g + 4) 9 v4))) - 60)) else 1) else 201)) := ⟨_, rfl⟩
      rw [← eM5] at hG4 ⊢
      replace H := H M5 eM5
      refine T_iload_n (i := 2) (pc' := 77) dX7_findFirst_76 rfl rfl rfl ?_
      refine T_iload (i := 4) (pc' := 79) dX7_findFirst_77 rfl rfl ?_
      refine T_callSN (av := [(0, v2), (0, v4)]) (st := []) (d2 := 1) (nc2 := 0) (ns2 := 0) (pc' := 82) dX7_findFirst_79 rfl mtX11_hasBit mvX11_hasBit mlX7_122 rfl rfl (Nat.le_of_ble_eq_true rfl) (by decide) ⟨by decide, by decide⟩ rfl (pX11_hasBit (E := E) (h := h) (M := M5) (v0 := v2) (v1 := v4) hG4) (kF (st2 := [(0, (fX11_hasBit v2 v4))]) rfl (fun hG6 => ?_))
      have HJ7 : T E miX7_findFirst 2 126 0 0 (fun r S M' => S = S0 ∧ G h M' ∧ Q r M') 92 [(2, 9), (2, g), (0, v2), (0, (if (fX11_hasBit v2 v4) = 0 then v3 else (if (if (fX11_hasBit (M (g + 1) 7) v4) = 0 then (if 1 < (wr32 ((wr32 ((M g 14) + (fX11_get M (g + 4) 9 v4))) - 60)) then (wr32 ((wr32 ((M g 14) + (fX11_get M (g + 4) 9 v4))) - 60)) else 1) else 201) < v3 then (if (fX11_hasBit (M (g + 1) 7) v4) = 0 then (if 1 < (wr32 ((wr32 ((M g 14) + (fX11_get M (g + 4) 9 v4))) - 60)) then (wr32 ((wr32 ((M g 14) + (fX11_get M (g + 4) 9 v4))) - 60)) else 1) else 201) else v3))), (0, v4), (3, 0)] [] S0 M5 0 0 := by
        refine T_iinc (L' := [(2, 9), (2, g), (0, v2), (0, (if (fX11_hasBit v2 v4) = 0 then v3 else (if (if (fX11_hasBit (M (g + 1) 7) v4) = 0 then (if 1 < (wr32 ((wr32 ((M g 14) + (fX11_get M (g + 4) 9 v4))) - 60)) then (wr32 ((wr32 ((M g 14) + (fX11_get M (g + 4) 9 v4))) - 60)) else 1) else 201) < v3 then (if (fX11_hasBit (M (g + 1) 7) v4) = 0 then (if 1 < (wr32 ((wr32 ((M g 14) + (fX11_get M (g + 4) 9 v4))) - 60)) then (wr32 ((wr32 ((M g 14) + (fX11_get M (g + 4) 9 v4))) - 60)) else 1) else 201) else v3))), (0, (wr32 (v4 + 1))), (3, 0)]) (pc' := 95) dX7_findFirst_92 rfl (by decide) rfl rfl ?_
        refine T_goto (pc' := 7) dX7_findFirst_95 (by decide) ?_
        exact T_wk (H hG4) ⟨Or.inr rfl, Or.inr rfl, Or.inr rfl, Or.inr rfl, Or.inr rfl, Or.inl rfl, trivial⟩
      refine T_if_eq (pc' := 92) dX7_findFirst_82 (by decide) (pf := 85) rfl (fun c8 => ?_) (fun c8 => ?_)
      · skip
        exact T_wk (L' := [(2, 9), (2, g), (0, v2), (0, v3), (0, v4), (3, 0)]) (by have q := HJ7; try simp only [if_pos c8] at q; exact q) ⟨Or.inr rfl, Or.inr rfl, Or.inr rfl, Or.inr rfl, Or.inr rfl, Or.inl rfl, trivial⟩
      · skip
        refine T_iload_n (i := 3) (pc' := 86) dX7_findFirst_85 rfl rfl rfl ?_
        refine T_iload (i := 5) (pc' := 88) dX7_findFirst_86 rfl rfl ?_
        refine U_mmin (pc' := 91) dX7_findFirst_88 rfl mlX7_126 (Nat.le_of_ble_eq_true rfl) (by decide) ⟨by decide, by decide⟩ rfl ?_
        refine T_istore_n (i := 3) (L' := [(2, 9), (2, g), (0, v2), (0, (if (if (fX11_hasBit (M (g + 1) 7) v4) = 0 then (if 1 < (wr32 ((wr32 ((M g 14) + (fX11_get M (g + 4) 9 v4))) - 60)) then (wr32 ((wr32 ((M g 14) + (fX11_get M (g + 4) 9 v4))) - 60)) else 1) else 201) < v3 then (if (fX11_hasBit (M (g + 1) 7) v4) = 0 then (if 1 < (wr32 ((wr32 ((M g 14) + (fX11_get M (g + 4) 9 v4))) - 60)) then (wr32 ((wr32 ((M g 14) + (fX11_get M (g + 4) 9 v4))) - 60)) else 1) else 201) else v3)), (0, v4), (0, (if (fX11_hasBit (M (g + 1) 7) v4) = 0 then (if 1 < (wr32 ((wr32 ((M g 14) + (fX11_get M (g + 4) 9 v4))) - 60)) then (wr32 ((wr32 ((M g 14) + (fX11_get M (g + 4) 9 v4))) - 60)) else 1) else 201))]) (pc' := 92) dX7_findFirst_91 rfl (by decide) rfl rfl ?_
        exact T_wk (L' := [(2, 9), (2, g), (0, v2), (0, (if (if (fX11_hasBit (M (g + 1) 7) v4) = 0 then (if 1 < (wr32 ((wr32 ((M g 14) + (fX11_get M (g + 4) 9 v4))) - 60)) then (wr32 ((wr32 ((M g 14) + (fX11_get M (g + 4) 9 v4))) - 60)) else 1) else 201) < v3 then (if (fX11_hasBit (M (g + 1) 7) v4) = 0 then (if 1 < (wr32 ((wr32 ((M g 14) + (fX11_get M (g + 4) 9 v4))) - 60)) then (wr32 ((wr32 ((M g 14) + (fX11_get M (g + 4) 9 v4))) - 60)) else 1) else 201) else v3)), (0, v4), (3, 0)]) (by have q := HJ7; try simp only [if_neg c8] at q; exact q) ⟨Or.inr rfl, Or.inr rfl, Or.inr rfl, Or.inr rfl, Or.inr rfl, Or.inl rfl, trivial⟩
    refine T_if_ne (pc' := 65) dX7_findFirst_36 (by decide) (pf := 39) rfl (fun c9 => ?_) (fun c9 => ?_)
    · skip
      exact T_wk (L' := [(2, 9), (2, g), (0, v2), (0, v3), (0, v4), (0, 201)]) (by have q := HJ3; try simp only [if_neg c9] at q; exact q) ⟨Or.inr rfl, Or.inr rfl, Or.inr rfl, Or.inr rfl, Or.inr rfl, Or.inr rfl, trivial⟩
    · skip
      refine T_iconst (pc' := 40) dX7_findFirst_39 (by decide) rfl ?_
      refine T_aload_n (i := 1) (pc' := 41) dX7_findFirst_40 rfl rfl rfl ?_
      refine U_gfN (v := (0, (M g 14))) (k := 14) (kI := 14) (pc' := 44) dX7_findFirst_41 rfl cl1 (pog0 hg) (shg0 hg) (by decide) flX7_132 rfl rfl (by decide) rfl rfl ?_
      refine T_aload_n (i := 1) (pc' := 45) dX7_findFirst_44 rfl rfl rfl ?_
      refine U_grN (q := (g + 1)) (k := 0) (kI := 0) (pc' := 48) dX7_findFirst_45 rfl cl1 (pog0 hg) (shg0 hg) (by decide) flX7_46 rfl rfl rfl (grg0_0 hg hG) (pog1 hg) rfl ?_
      refine U_grN (q := (g + 4)) (k := 2) (kI := 2) (pc' := 51) dX7_findFirst_48 rfl cl4 (pog1 hg) (shg1 hg) (by decide) flX7_135 rfl rfl rfl (grg1_2 hg hG) (pog4 hg) rfl ?_
      refine T_iload (i := 4) (pc' := 53) dX7_findFirst_51 rfl rfl ?_
      refine T_callSN (av := [(2, (g + 4)), (0, v4)]) (st := [(0, (M g 14)), (0, 1)]) (d2 := 1) (nc2 := 0) (ns2 := 0) (pc' := 56) dX7_findFirst_53 rfl mtX11_get mvX11_get mlX7_71 rfl rfl (Nat.le_of_ble_eq_true rfl) (by decide) ⟨by decide, by decide⟩ rfl (pX11_get (E := E) (h := h) (M := M) (p0 := (g + 4)) (np0 := 9) (v1 := v4) (pog4 hg) (shg4 hg) (by decide) hG) (kF (st2 := [(0, (fX11_get M (g + 4) 9 v4)), (0, (M g 14)), (0, 1)]) rfl (fun hG10 => ?_))
      refine T_iadd (pc' := 57) dX7_findFirst_56 rfl ?_
      refine T_bipush (pc' := 59) dX7_findFirst_57 rfl (by decide) rfl ?_
      refine T_isub (pc' := 60) dX7_findFirst_59 rfl ?_
      refine U_mmax (pc' := 63) dX7_findFirst_60 rfl mlX7_117 (Nat.le_of_ble_eq_true rfl) (by decide) ⟨by decide, by decide⟩ rfl ?_
      refine T_istore (i := 5) (L' := [(2, 9), (2, g), (0, v2), (0, v3), (0, v4), (0, (if 1 < (wr32 ((wr32 ((M g 14) + (fX11_get M (g + 4) 9 v4))) - 60)) then (wr32 ((wr32 ((M g 14) + (fX11_get M (g + 4) 9 v4))) - 60)) else 1))]) (pc' := 65) dX7_findFirst_63 (by decide) rfl rfl ?_
      exact T_wk (L' := [(2, 9), (2, g), (0, v2), (0, v3), (0, v4), (0, (if 1 < (wr32 ((wr32 ((M g 14) + (fX11_get M (g + 4) 9 v4))) - 60)) then (wr32 ((wr32 ((M g 14) + (fX11_get M (g + 4) 9 v4))) - 60)) else 1))]) (by have q := HJ3; try simp only [if_pos c9] at q; exact q) ⟨Or.inr rfl, Or.inr rfl, Or.inr rfl, Or.inr rfl, Or.inr rfl, Or.inr rfl, trivial⟩
theorem eX7_findFirst {E : EV} {h : Int} {M : Mem} {Q : Option MV → Mem → Prop} {g : Int} {v2 : Int} (H : G h M → TG E miX7_findFirst 2 h Q 0 [(2, 9), (2, g), (0, v2), (3, 0), (3, 0), (3, 0)] [] M) : C2 E miX7_findFirst 2 h [(2, 9), (2, g), (0, v2)] M Q :=
  C2_of (by decide +kernel) (Nat.le_of_ble_eq_true rfl) rfl H
set_option maxRecDepth 100000 in
set_option maxHeartbeats 2000000 in
theorem wX7_findAlarm_0 {E : EV} {h : Int} {M : Mem} {Q : Option MV → Mem → Prop} {g : Int} {v2 : Int} {v3 : Int} (hg : isG g) (H : (∀ M2 : Mem, M2 = (mset M 9 9 (-1)) → (∀ M4 : Mem, M4 = (mset M2 9 10 (-1)) → (G h M4 → TG E miX7_findAlarm 2 h Q 13 [(2, 9), (2, g), (0, v2), (0, v3), (0, 0), (3, 0), (3, 0)] [] M4)))) : G h M → TG E miX7_findAlarm 2 h Q 0 [(2, 9), (2, g), (0, v2), (0, v3), (3, 0), (3, 0), (3, 0)] [] M := by
  intro hG
  refine T_aload_n (i := 0) (pc' := 1) dX7_findAlarm_0 rfl rfl rfl ?_
  refine T_iconst (pc' := 2) dX7_findAlarm_1 (by decide) rfl ?_
  refine U_pf (y := (-1)) (k := 9) (kI := 9) (pc' := 5) dX7_findAlarm_2 rfl cl7 (by decide) rfl (by decide) flX7_40 rfl rfl rfl rfl rfl (by decide) (fun z => z) rfl ?_
  have hG1 := (G_fld (x := 9) (i := 9) (y := (-1)) rfl (by decide) (by decide) (by decide) hG)
  obtain ⟨M2, eM2⟩ : ∃ m : Mem, m = (mset M 9 9 (-1)) := ⟨_, rfl⟩
  rw [← eM2] at hG1 ⊢
  replace H := H M2 eM2
  refine T_aload_n (i := 0) (pc' := 6) dX7_findAlarm_5 rfl rfl rfl ?_
  refine T_iconst (pc' := 7) dX7_findAlarm_6 (by decide) rfl ?_
  refine U_pf (y := (-1)) (k := 10) (kI := 10) (pc' := 10) dX7_findAlarm_7 rfl cl7 (by decide) rfl (by decide) flX7_43 rfl rfl rfl rfl rfl (by decide) (fun z => z) rfl ?_
  have hG3 := (G_fld (x := 9) (i := 10) (y := (-1)) rfl (by decide) (by decide) (by decide) hG1)
  obtain ⟨M4, eM4⟩ : ∃ m : Mem, m = (mset M2 9 10 (-1)) := ⟨_, rfl⟩
  rw [← eM4] at hG3 ⊢
  replace H := H M4 eM4
  refine T_iconst (pc' := 11) dX7_findAlarm_10 (by decide) rfl ?_
  refine T_istore (i := 4) (L' := [(2, 9), (2, g), (0, v2), (0, v3), (0, 0), (3, 0), (3, 0)]) (pc' := 13) dX7_findAlarm_11 (by decide) rfl rfl ?_
  exact T_wk (H hG3) ⟨Or.inr rfl, Or.inr rfl, Or.inr rfl, Or.inr rfl, Or.inr rfl, Or.inl rfl, Or.inl rfl, trivial⟩
set_option maxRecDepth 100000 in
set_option maxHeartbeats 2000000 in
theorem wX7_findAlarm_13 {E : EV} {h : Int} {M : Mem} {Q : Option MV → Mem → Prop} {g : Int} {v2 : Int} {v3 : Int} {v4 : Int} (hg : isG g) (H : ((v3 ≤ v4 → Q none M) ∧ (¬ (v3 ≤ v4) → (((M 9 9) = (-1) → (G h M → TG E miX7_findAlarm 2 h Q 30 [(2, 9), (2, g), (0, v2), (0, v3), (0, v4), (0, 0), (3, 0)] [] M)) ∧ (¬ ((M 9 9) = (-1)) → Q none M))))) : G h M → TG E miX7_findAlarm 2 h Q 13 [(2, 9), (2, g), (0, v2), (0, v3), (0, v4), (3, 0), (3, 0)] [] M := by
  intro hG
  refine T_iload (i := 4) (pc' := 15) dX7_findAlarm_13 rfl rfl ?_
  refine T_iload_n (i := 3) (pc' := 16) dX7_findAlarm_15 rfl rfl rfl ?_
  refine T_icmp_ge (pc' := 108) dX7_findAlarm_16 (by decide) (pf := 19) rfl (fun c1 => ?_) (fun c1 => ?_)
  · skip
    replace H := H.1 c1
    exact T_vret dX7_findAlarm_108 rfl ⟨rfl, hG, H⟩
  · skip
    replace H := H.2 c1
    refine T_aload_n (i := 0) (pc' := 20) dX7_findAlarm_19 rfl rfl rfl ?_
    refine U_gf (v := (0, (M 9 9))) (k := 9) (kI := 9) (pc' := 23) dX7_findAlarm_20 rfl cl7 (by decide) rfl (by decide) flX7_40 rfl rfl (by decide) rfl rfl ?_
    refine T_iconst (pc' := 24) dX7_findAlarm_23 (by decide) rfl ?_
    refine T_icmp_ne (pc' := 108) dX7_findAlarm_24 (by decide) (pf := 27) rfl (fun c2 => ?_) (fun c2 => ?_)
    · skip
      replace H := H.2 c2
      exact T_vret dX7_findAlarm_108 rfl ⟨rfl, hG, H⟩
    · skip
      replace H := H.1 c2
      refine T_iconst (pc' := 28) dX7_findAlarm_27 (by decide) rfl ?_
      refine T_istore (i := 5) (L' := [(2, 9), (2, g), (0, v2), (0, v3), (0, v4), (0, 0), (3, 0)]) (pc' := 30) dX7_findAlarm_28 (by decide) rfl rfl ?_
      exact T_wk (H hG) ⟨Or.inr rfl, Or.inr rfl, Or.inr rfl, Or.inr rfl, Or.inr rfl, Or.inr rfl, Or.inl rfl, trivial⟩
set_option maxRecDepth 100000 in
set_option maxHeartbeats 2000000 in
theorem wX7_findAlarm_30 {E : EV} {h : Int} {M : Mem} {Q : Option MV → Mem → Prop} {g : Int} {v2 : Int} {v3 : Int} {v4 : Int} {v5 : Int} (hg : isG g) (H : (((M g 13) ≤ v5 → (G h M → TG E miX7_findAlarm 2 h Q 13 [(2, 9), (2, g), (0, v2), (0, v3), (0, (wr32 (v4 + 1))), (3, 0), (3, 0)] [] M)) ∧ (¬ ((M g 13) ≤ v5) → (((M 9 9) = (-1) → (((fJ6_bitCount_0f7a4 (m_and (fX11_get M 11 804 (wr32 ((wr32 (v5 * 201)) + v4))) v2)) < (fX11_get M (g + 15) 4 v5) → (G h M → TG E miX7_findAlarm 2 h Q 30 [(2, 9), (2, g), (0, v2), (0, v3), (0, v4), (0, (wr32 (v5 + 1))), (3, 0)] [] M)) ∧ (¬ ((fJ6_bitCount_0f7a4 (m_and (fX11_get M 11 804 (wr32 ((wr32 (v5 * 201)) + v4))) v2)) < (fX11_get M (g + 15) 4 v5)) → (∀ M8 : Mem, M8 = (mset M 9 9 v4) → (∀ M10 : Mem, M10 = (mset M8 9 10 v5) → (G h M10 → TG E miX7_findAlarm 2 h Q 30 [(2, 9), (2, g), (0, v2), (0, v3), (0, v4), (0, (wr32 (v5 + 1))), (3, 0)] [] M10)))))) ∧ (¬ ((M 9 9) = (-1)) → (G h M → TG E miX7_findAlarm 2 h Q 13 [(2, 9), (2, g), (0, v2), (0, v3), (0, (wr32 (v4 + 1))), (3, 0), (3, 0)] [] M)))))) : G h M → TG E miX7_findAlarm 2 h Q 30 [(2, 9), (2, g), (0, v2), (0, v3), (0, v4), (0, v5), (3, 0)] [] M := by
  intro hG
  refine T_iload (i := 5) (pc' := 32) dX7_findAlarm_30 rfl rfl ?_
  refine T_aload_n (i := 1) (pc' := 33) dX7_findAlarm_32 rfl rfl rfl ?_
  refine U_gfN (v := (0, (M g 13))) (k := 13) (kI := 13) (pc' := 36) dX7_findAlarm_33 rfl cl1 (pog0 hg) (shg0 hg) (by decide) flX7_61 rfl rfl (by decide) rfl rfl ?_
  refine T_icmp_ge (pc' := 102) dX7_findAlarm_36 (by decide) (pf := 39) rfl (fun c1 => ?_) (fun c1 => ?_)
  · skip
    replace H := H.1 c1
    refine T_iinc (L' := [(2, 9), (2, g), (0, v2), (0, v3), (0, (wr32 (v4 + 1))), (0, v5), (3, 0)]) (pc' := 105) dX7_findAlarm_102 rfl (by decide) rfl rfl ?_
    refine T_goto (pc' := 13) dX7_findAlarm_105 (by decide) ?_
    exact T_wk (H hG) ⟨Or.inr rfl, Or.inr rfl, Or.inr rfl, Or.inr rfl, Or.inr rfl, Or.inl rfl, Or.inl rfl, trivial⟩
  · skip
    replace H := H.2 c1
    refine T_aload_n (i := 0) (pc' := 40) dX7_findAlarm_39 rfl rfl rfl ?_
    refine U_gf (v := (0, (M 9 9))) (k := 9) (kI := 9) (pc' := 43) dX7_findAlarm_40 rfl cl7 (by decide) rfl (by decide) flX7_40 rfl rfl (by decide) rfl rfl ?_
    refine T_iconst (pc' := 44) dX7_findAlarm_43 (by decide) rfl ?_
    refine T_icmp_ne (pc' := 102) dX7_findAlarm_44 (by decide) (pf := 47) rfl (fun c2 => ?_) (fun c2 => ?_)
    · skip
      replace H := H.2 c2
      refine T_iinc (L' := [(2, 9), (2, g), (0, v2), (0, v3), (0, (wr32 (v4 + 1))), (0, v5), (3, 0)]) (pc' := 105) dX7_findAlarm_102 rfl (by decide) rfl rfl ?_
      refine T_goto (pc' := 13) dX7_findAlarm_105 (by decide) ?_
      exact T_wk (H hG) ⟨Or.inr rfl, Or.inr rfl, Or.inr rfl, Or.inr rfl, Or.inr rfl, Or.inl rfl, Or.inl rfl, trivial⟩
    · skip
      replace H := H.1 c2
      refine T_aload_n (i := 0) (pc' := 48) dX7_findAlarm_47 rfl rfl rfl ?_
      refine U_gr (q := 11) (k := 1) (kI := 1) (pc' := 51) dX7_findAlarm_48 rfl cl7 (by decide) rfl (by decide) flX7_15 rfl rfl rfl (G_at hG 17 rfl) (by decide) rfl ?_
      refine T_iload (i := 5) (pc' := 53) dX7_findAlarm_51 rfl rfl ?_
      refine T_sipush (pc' := 56) dX7_findAlarm_53 rfl (by decide) rfl ?_
      refine T_imul (pc' := 57) dX7_findAlarm_56 rfl ?_
      refine T_iload (i := 4) (pc' := 59) dX7_findAlarm_57 rfl rfl ?_
      refine T_iadd (pc' := 60) dX7_findAlarm_59 rfl ?_
      refine T_callSN (av := [(2, 11), (0, (wr32 ((wr32 (v5 * 201)) + v4)))]) (st := []) (d2 := 1) (nc2 := 0) (ns2 := 0) (pc' := 63) dX7_findAlarm_60 rfl mtX11_get mvX11_get mlX7_71 rfl rfl (Nat.le_of_ble_eq_true rfl) (by decide) ⟨by decide, by decide⟩ rfl (pX11_get (E := E) (h := h) (M := M) (p0 := 11) (np0 := 804) (v1 := (wr32 ((wr32 (v5 * 201)) + v4))) (by decide) rfl (by decide) hG) (kF (st2 := [(0, (fX11_get M 11 804 (wr32 ((wr32 (v5 * 201)) + v4))))]) rfl (fun hG3 => ?_))
      refine T_iload_n (i := 2) (pc' := 64) dX7_findAlarm_63 rfl rfl rfl ?_
      refine T_iand (pc' := 65) dX7_findAlarm_64 rfl ?_
      refine T_callS (av := [(0, (m_and (fX11_get M 11 804 (wr32 ((wr32 (v5 * 201)) + v4))) v2))]) (st := []) (d2 := 1) (nc2 := 0) (ns2 := 0) (pc' := 68) dX7_findAlarm_65 rfl mtJ6_bitCount_0f7a4 mvJ6_bitCount_0f7a4 mlX7_138 rfl rfl (Nat.le_of_ble_eq_true rfl) (by decide) ⟨by decide, by decide⟩ rfl (pJ6_bitCount_0f7a4 (E := E) (h := h) (M := M) (v0 := (m_and (fX11_get M 11 804 (wr32 ((wr32 (v5 * 201)) + v4))) v2)) hG) (kF (st2 := [(0, (fJ6_bitCount_0f7a4 (m_and (fX11_get M 11 804 (wr32 ((wr32 (v5 * 201)) + v4))) v2)))]) rfl (fun hG4 => ?_))
      refine T_istore (i := 6) (L' := [(2, 9), (2, g), (0, v2), (0, v3), (0, v4), (0, v5), (0, (fJ6_bitCount_0f7a4 (m_and (fX11_get M 11 804 (wr32 ((wr32 (v5 * 201)) + v4))) v2)))]) (pc' := 70) dX7_findAlarm_68 (by decide) rfl rfl ?_
      refine T_iload (i := 6) (pc' := 72) dX7_findAlarm_70 rfl rfl ?_
      refine T_aload_n (i := 1) (pc' := 73) dX7_findAlarm_72 rfl rfl rfl ?_
      refine U_grN (q := (g + 15)) (k := 7) (kI := 7) (pc' := 76) dX7_findAlarm_73 rfl cl1 (pog0 hg) (shg0 hg) (by decide) flX7_144 rfl rfl rfl (grg0_7 hg hG) (pog15 hg) rfl ?_
      refine T_iload (i := 5) (pc' := 78) dX7_findAlarm_76 rfl rfl ?_
      refine T_callSN (av := [(2, (g + 15)), (0, v5)]) (st := [(0, (fJ6_bitCount_0f7a4 (m_and (fX11_get M 11 804 (wr32 ((wr32 (v5 * 201)) + v4))) v2)))]) (d2 := 1) (nc2 := 0) (ns2 := 0) (pc' := 81) dX7_findAlarm_78 rfl mtX11_get mvX11_get mlX7_71 rfl rfl (Nat.le_of_ble_eq_true rfl) (by decide) ⟨by decide, by decide⟩ rfl (pX11_get (E := E) (h := h) (M := M) (p0 := (g + 15)) (np0 := 4) (v1 := v5) (pog15 hg) (shg15 hg) (by decide) hG) (kF (st2 := [(0, (fX11_get M (g + 15) 4 v5)), (0, (fJ6_bitCount_0f7a4 (m_and (fX11_get M 11 804 (wr32 ((wr32 (v5 * 201)) + v4))) v2)))]) rfl (fun hG5 => ?_))
      refine T_icmp_lt (pc' := 96) dX7_findAlarm_81 (by decide) (pf := 84) rfl (fun c6 => ?_) (fun c6 => ?_)
      · skip
        replace H := H.1 c6
        refine T_iinc (L' := [(2, 9), (2, g), (0, v2), (0, v3), (0, v4), (0, (wr32 (v5 + 1))), (0, (fJ6_bitCount_0f7a4 (m_and (fX11_get M 11 804 (wr32 ((wr32 (v5 * 201)) + v4))) v2)))]) (pc' := 99) dX7_findAlarm_96 rfl (by decide) rfl rfl ?_
        refine T_goto (pc' := 30) dX7_findAlarm_99 (by decide) ?_
        exact T_wk (H hG) ⟨Or.inr rfl, Or.inr rfl, Or.inr rfl, Or.inr rfl, Or.inr rfl, Or.inr rfl, Or.inl rfl, trivial⟩
      · skip
        replace H := H.2 c6
        refine T_aload_n (i := 0) (pc' := 85) dX7_findAlarm_84 rfl rfl rfl ?_
        refine T_iload (i := 4) (pc' := 87) dX7_findAlarm_85 rfl rfl ?_
        refine U_pf (y := v4) (k := 9) (kI := 9) (pc' := 90) dX7_findAlarm_87 rfl cl7 (by decide) rfl (by decide) flX7_40 rfl rfl rfl rfl rfl (by decide) (fun z => z) rfl ?_
        have hG7 := (G_fld (x := 9) (i := 9) (y := v4) rfl (by decide) (by decide) (by decide) hG)
        obtain ⟨M8, eM8⟩ : ∃ m : Mem, m = (mset M 9 9 v4) := ⟨_, rfl⟩
        rw [← eM8] at hG7 ⊢
        replace H := H M8 eM8
        refine T_aload_n (i := 0) (pc' := 91) dX7_findAlarm_90 rfl rfl rfl ?_
        refine T_iload (i := 5) (pc' := 93) dX7_findAlarm_91 rfl rfl ?_
        refine U_pf (y := v5) (k := 10) (kI := 10) (pc' := 96) dX7_findAlarm_93 rfl cl7 (by decide) rfl (by decide) flX7_43 rfl rfl rfl rfl rfl (by decide) (fun z => z) rfl ?_
        have hG9 := (G_fld (x := 9) (i := 10) (y := v5) rfl (by decide) (by decide) (by decide) hG7)
        obtain ⟨M10, eM10⟩ : ∃ m : Mem, m = (mset M8 9 10 v5) := ⟨_, rfl⟩
        rw [← eM10] at hG9 ⊢
        replace H := H M10 eM10
        refine T_iinc (L' := [(2, 9), (2, g), (0, v2), (0, v3), (0, v4), (0, (wr32 (v5 + 1))), (0, (fJ6_bitCount_0f7a4 (m_and (fX11_get M 11 804 (wr32 ((wr32 (v5 * 201)) + v4))) v2)))]) (pc' := 99) dX7_findAlarm_96 rfl (by decide) rfl rfl ?_
        refine T_goto (pc' := 30) dX7_findAlarm_99 (by decide) ?_
        exact T_wk (H hG9) ⟨Or.inr rfl, Or.inr rfl, Or.inr rfl, Or.inr rfl, Or.inr rfl, Or.inr rfl, Or.inl rfl, trivial⟩
theorem eX7_findAlarm {E : EV} {h : Int} {M : Mem} {Q : Option MV → Mem → Prop} {g : Int} {v2 : Int} {v3 : Int} (H : G h M → TG E miX7_findAlarm 2 h Q 0 [(2, 9), (2, g), (0, v2), (0, v3), (3, 0), (3, 0), (3, 0)] [] M) : C2 E miX7_findAlarm 2 h [(2, 9), (2, g), (0, v2), (0, v3)] M Q :=
  C2_of (by decide +kernel) (Nat.le_of_ble_eq_true rfl) rfl H
set_option maxRecDepth 100000 in
set_option maxHeartbeats 2000000 in
theorem wX7_nextStrike_0 {E : EV} {h : Int} {M : Mem} {Q : Option MV → Mem → Prop} {g : Int} (hg : isG g) (H : (G h M → TG E miX7_nextStrike 2 h Q 6 [(2, 9), (2, g), (0, 201), (0, 0)] [] M)) : G h M → TG E miX7_nextStrike 2 h Q 0 [(2, 9), (2, g), (3, 0), (3, 0)] [] M := by
  intro hG
  refine T_sipush (pc' := 3) dX7_nextStrike_0 rfl (by decide) rfl ?_
  refine T_istore_n (i := 2) (L' := [(2, 9), (2, g), (0, 201), (3, 0)]) (pc' := 4) dX7_nextStrike_3 rfl (by decide) rfl rfl ?_
  refine T_iconst (pc' := 5) dX7_nextStrike_4 (by decide) rfl ?_
  refine T_istore_n (i := 3) (L' := [(2, 9), (2, g), (0, 201), (0, 0)]) (pc' := 6) dX7_nextStrike_5 rfl (by decide) rfl rfl ?_
  exact T_wk (H hG) ⟨Or.inr rfl, Or.inr rfl, Or.inr rfl, Or.inr rfl, trivial⟩
set_option maxRecDepth 100000 in
set_option maxHeartbeats 2000000 in
theorem wX7_nextStrike_6 {E : EV} {h : Int} {M : Mem} {Q : Option MV → Mem → Prop} {g : Int} {v2 : Int} {v3 : Int} (hg : isG g) (H : (((M (g + 1) 8) ≤ v3 → Q (some (0, v2)) M) ∧ (¬ ((M (g + 1) 8) ≤ v3) → (G h M → TG E miX7_nextStrike 2 h Q 6 [(2, 9), (2, g), (0, (if (fX11_hasBit (M 9 6) v3) = 0 then v2 else (if (fX11_get M 12 9 v3) < v2 then (fX11_get M 12 9 v3) else v2))), (0, (wr32 (v3 + 1)))] [] M)))) : G h M → TG E miX7_nextStrike 2 h Q 6 [(2, 9), (2, g), (0, v2), (0, v3)] [] M := by
  intro hG
  refine T_iload_n (i := 3) (pc' := 7) dX7_nextStrike_6 rfl rfl rfl ?_
  refine T_aload_n (i := 1) (pc' := 8) dX7_nextStrike_7 rfl rfl rfl ?_
  refine U_grN (q := (g + 1)) (k := 0) (kI := 0) (pc' := 11) dX7_nextStrike_8 rfl cl1 (pog0 hg) (shg0 hg) (by decide) flX7_46 rfl rfl rfl (grg0_0 hg hG) (pog1 hg) rfl ?_
  refine U_gfN (v := (0, (M (g + 1) 8))) (k := 8) (kI := 8) (pc' := 14) dX7_nextStrike_11 rfl cl4 (pog1 hg) (shg1 hg) (by decide) flX7_52 rfl rfl (by decide) rfl rfl ?_
  refine T_icmp_ge (pc' := 47) dX7_nextStrike_14 (by decide) (pf := 17) rfl (fun c1 => ?_) (fun c1 => ?_)
  · skip
    replace H := H.1 c1
    refine T_iload_n (i := 2) (pc' := 48) dX7_nextStrike_47 rfl rfl rfl ?_
    exact T_iret dX7_nextStrike_48 rfl ⟨rfl, hG, H⟩
  · skip
    replace H := H.2 c1
    refine T_aload_n (i := 0) (pc' := 18) dX7_nextStrike_17 rfl rfl rfl ?_
    refine U_gf (v := (0, (M 9 6))) (k := 6) (kI := 6) (pc' := 21) dX7_nextStrike_18 rfl cl7 (by decide) rfl (by decide) flX7_30 rfl rfl (by decide) rfl rfl ?_
    refine T_iload_n (i := 3) (pc' := 22) dX7_nextStrike_21 rfl rfl rfl ?_
    refine T_callSN (av := [(0, (M 9 6)), (0, v3)]) (st := []) (d2 := 1) (nc2 := 0) (ns2 := 0) (pc' := 25) dX7_nextStrike_22 rfl mtX11_hasBit mvX11_hasBit mlX7_122 rfl rfl (Nat.le_of_ble_eq_true rfl) (by decide) ⟨by decide, by decide⟩ rfl (pX11_hasBit (E := E) (h := h) (M := M) (v0 := (M 9 6)) (v1 := v3) hG) (kF (st2 := [(0, (fX11_hasBit (M 9 6) v3))]) rfl (fun hG2 => ?_))
    have HJ3 : T E miX7_nextStrike 2 126 0 0 (fun r S M' => S = S0 ∧ G h M' ∧ Q r M') 41 [(2, 9), (2, g), (0, (if (fX11_hasBit (M 9 6) v3) = 0 then v2 else (if (fX11_get M 12 9 v3) < v2 then (fX11_get M 12 9 v3) else v2))), (0, v3)] [] S0 M 0 0 := by
      refine T_iinc (L' := [(2, 9), (2, g), (0, (if (fX11_hasBit (M 9 6) v3) = 0 then v2 else (if (fX11_get M 12 9 v3) < v2 then (fX11_get M 12 9 v3) else v2))), (0, (wr32 (v3 + 1)))]) (pc' := 44) dX7_nextStrike_41 rfl (by decide) rfl rfl ?_
      refine T_goto (pc' := 6) dX7_nextStrike_44 (by decide) ?_
      exact T_wk (H hG) ⟨Or.inr rfl, Or.inr rfl, Or.inr rfl, Or.inr rfl, trivial⟩
    refine T_if_eq (pc' := 41) dX7_nextStrike_25 (by decide) (pf := 28) rfl (fun c4 => ?_) (fun c4 => ?_)
    · skip
      exact T_wk (L' := [(2, 9), (2, g), (0, v2), (0, v3)]) (by have q := HJ3; try simp only [if_pos c4] at q; exact q) ⟨Or.inr rfl, Or.inr rfl, Or.inr rfl, Or.inr rfl, trivial⟩
    · skip
      refine T_iload_n (i := 2) (pc' := 29) dX7_nextStrike_28 rfl rfl rfl ?_
      refine T_aload_n (i := 0) (pc' := 30) dX7_nextStrike_29 rfl rfl rfl ?_
      refine U_gr (q := 12) (k := 2) (kI := 2) (pc' := 33) dX7_nextStrike_30 rfl cl7 (by decide) rfl (by decide) flX7_18 rfl rfl rfl (G_at hG 18 rfl) (by decide) rfl ?_
      refine T_iload_n (i := 3) (pc' := 34) dX7_nextStrike_33 rfl rfl rfl ?_
      refine T_callSN (av := [(2, 12), (0, v3)]) (st := [(0, v2)]) (d2 := 1) (nc2 := 0) (ns2 := 0) (pc' := 37) dX7_nextStrike_34 rfl mtX11_get mvX11_get mlX7_71 rfl rfl (Nat.le_of_ble_eq_true rfl) (by decide) ⟨by decide, by decide⟩ rfl (pX11_get (E := E) (h := h) (M := M) (p0 := 12) (np0 := 9) (v1 := v3) (by decide) rfl (by decide) hG) (kF (st2 := [(0, (fX11_get M 12 9 v3)), (0, v2)]) rfl (fun hG5 => ?_))
      refine U_mmin (pc' := 40) dX7_nextStrike_37 rfl mlX7_126 (Nat.le_of_ble_eq_true rfl) (by decide) ⟨by decide, by decide⟩ rfl ?_
      refine T_istore_n (i := 2) (L' := [(2, 9), (2, g), (0, (if (fX11_get M 12 9 v3) < v2 then (fX11_get M 12 9 v3) else v2)), (0, v3)]) (pc' := 41) dX7_nextStrike_40 rfl (by decide) rfl rfl ?_
      exact T_wk (L' := [(2, 9), (2, g), (0, (if (fX11_get M 12 9 v3) < v2 then (fX11_get M 12 9 v3) else v2)), (0, v3)]) (by have q := HJ3; try simp only [if_neg c4] at q; exact q) ⟨Or.inr rfl, Or.inr rfl, Or.inr rfl, Or.inr rfl, trivial⟩
theorem eX7_nextStrike {E : EV} {h : Int} {M : Mem} {Q : Option MV → Mem → Prop} {g : Int} (H : G h M → TG E miX7_nextStrike 2 h Q 0 [(2, 9), (2, g), (3, 0), (3, 0)] [] M) : C2 E miX7_nextStrike 2 h [(2, 9), (2, g)] M Q :=
  C2_of (by decide +kernel) (Nat.le_of_ble_eq_true rfl) rfl H
set_option maxRecDepth 100000 in
set_option maxHeartbeats 2000000 in
theorem wX7_opensBy_0 {E : EV} {h : Int} {M : Mem} {Q : Option MV → Mem → Prop} {g : Int} {v2 : Int} {v3 : Int} {v4 : Int} (hg : isG g) (H : ((v3 < (fX11_get M 12 9 v2) → (((fX11_get M (g + 5) 9 v2) ≤ 0 → Q (some (0, 0)) M) ∧ (¬ ((fX11_get M (g + 5) 9 v2) ≤ 0) → (((fX11_get M (g + 5) 9 v2) ≤ (fJ6_bitCount_0f7a4 v4) → (G h M → TG E miX7_opensBy 2 h Q 68 [(2, 9), (2, g), (3, 0), (3, 0), (0, v4), (0, (fX11_get M (g + 5) 9 v2)), (0, (fX11_get M 10 1809 (wr32 ((wr32 ((wr32 (v2 * 201)) + v3)) - 1)))), (0, 0), (0, 0)] [] M)) ∧ (¬ ((fX11_get M (g + 5) 9 v2) ≤ (fJ6_bitCount_0f7a4 v4)) → Q (some (0, 0)) M))))) ∧ (¬ (v3 < (fX11_get M 12 9 v2)) → Q (some (0, 1)) M))) : G h M → TG E miX7_opensBy 2 h Q 0 [(2, 9), (2, g), (0, v2), (0, v3), (0, v4), (3, 0), (3, 0), (3, 0), (3, 0)] [] M := by
  intro hG
  refine T_iload_n (i := 3) (pc' := 1) dX7_opensBy_0 rfl rfl rfl ?_
  refine T_aload_n (i := 0) (pc' := 2) dX7_opensBy_1 rfl rfl rfl ?_
  refine U_gr (q := 12) (k := 2) (kI := 2) (pc' := 5) dX7_opensBy_2 rfl cl7 (by decide) rfl (by decide) flX7_18 rfl rfl rfl (G_at hG 18 rfl) (by decide) rfl ?_
  refine T_iload_n (i := 2) (pc' := 6) dX7_opensBy_5 rfl rfl rfl ?_
  refine T_callSN (av := [(2, 12), (0, v2)]) (st := [(0, v3)]) (d2 := 1) (nc2 := 0) (ns2 := 0) (pc' := 9) dX7_opensBy_6 rfl mtX11_get mvX11_get mlX7_71 rfl rfl (Nat.le_of_ble_eq_true rfl) (by decide) ⟨by decide, by decide⟩ rfl (pX11_get (E := E) (h := h) (M := M) (p0 := 12) (np0 := 9) (v1 := v2) (by decide) rfl (by decide) hG) (kF (st2 := [(0, (fX11_get M 12 9 v2)), (0, v3)]) rfl (fun hG1 => ?_))
  refine T_icmp_lt (pc' := 14) dX7_opensBy_9 (by decide) (pf := 12) rfl (fun c2 => ?_) (fun c2 => ?_)
  · skip
    replace H := H.1 c2
    refine T_aload_n (i := 1) (pc' := 15) dX7_opensBy_14 rfl rfl rfl ?_
    refine U_grN (q := (g + 1)) (k := 0) (kI := 0) (pc' := 18) dX7_opensBy_15 rfl cl1 (pog0 hg) (shg0 hg) (by decide) flX7_46 rfl rfl rfl (grg0_0 hg hG) (pog1 hg) rfl ?_
    refine U_grN (q := (g + 5)) (k := 3) (kI := 3) (pc' := 21) dX7_opensBy_18 rfl cl4 (pog1 hg) (shg1 hg) (by decide) flX7_155 rfl rfl rfl (grg1_3 hg hG) (pog5 hg) rfl ?_
    refine T_iload_n (i := 2) (pc' := 22) dX7_opensBy_21 rfl rfl rfl ?_
    refine T_callSN (av := [(2, (g + 5)), (0, v2)]) (st := []) (d2 := 1) (nc2 := 0) (ns2 := 0) (pc' := 25) dX7_opensBy_22 rfl mtX11_get mvX11_get mlX7_71 rfl rfl (Nat.le_of_ble_eq_true rfl) (by decide) ⟨by decide, by decide⟩ rfl (pX11_get (E := E) (h := h) (M := M) (p0 := (g + 5)) (np0 := 9) (v1 := v2) (pog5 hg) (shg5 hg) (by decide) hG) (kF (st2 := [(0, (fX11_get M (g + 5) 9 v2))]) rfl (fun hG3 => ?_))
    refine T_istore (i := 5) (L' := [(2, 9), (2, g), (0, v2), (0, v3), (0, v4), (0, (fX11_get M (g + 5) 9 v2)), (3, 0), (3, 0), (3, 0)]) (pc' := 27) dX7_opensBy_25 (by decide) rfl rfl ?_
    refine T_iload (i := 5) (pc' := 29) dX7_opensBy_27 rfl rfl ?_
    refine T_if_le (pc' := 42) dX7_opensBy_29 (by decide) (pf := 32) rfl (fun c4 => ?_) (fun c4 => ?_)
    · skip
      replace H := H.1 c4
      refine T_iconst (pc' := 43) dX7_opensBy_42 (by decide) rfl ?_
      exact T_iret dX7_opensBy_43 rfl ⟨rfl, hG, H⟩
    · skip
      replace H := H.2 c4
      refine T_iload (i := 5) (pc' := 34) dX7_opensBy_32 rfl rfl ?_
      refine T_iload (i := 4) (pc' := 36) dX7_opensBy_34 rfl rfl ?_
      refine T_callS (av := [(0, v4)]) (st := [(0, (fX11_get M (g + 5) 9 v2))]) (d2 := 1) (nc2 := 0) (ns2 := 0) (pc' := 39) dX7_opensBy_36 rfl mtJ6_bitCount_0f7a4 mvJ6_bitCount_0f7a4 mlX7_138 rfl rfl (Nat.le_of_ble_eq_true rfl) (by decide) ⟨by decide, by decide⟩ rfl (pJ6_bitCount_0f7a4 (E := E) (h := h) (M := M) (v0 := v4) hG) (kF (st2 := [(0, (fJ6_bitCount_0f7a4 v4)), (0, (fX11_get M (g + 5) 9 v2))]) rfl (fun hG5 => ?_))
      refine T_icmp_le (pc' := 44) dX7_opensBy_39 (by decide) (pf := 42) rfl (fun c6 => ?_) (fun c6 => ?_)
      · skip
        replace H := H.1 c6
        refine T_aload_n (i := 0) (pc' := 45) dX7_opensBy_44 rfl rfl rfl ?_
        refine U_gr (q := 10) (k := 0) (kI := 0) (pc' := 48) dX7_opensBy_45 rfl cl7 (by decide) rfl (by decide) flX7_9 rfl rfl rfl (G_at hG 16 rfl) (by decide) rfl ?_
        refine T_iload_n (i := 2) (pc' := 49) dX7_opensBy_48 rfl rfl rfl ?_
        refine T_sipush (pc' := 52) dX7_opensBy_49 rfl (by decide) rfl ?_
        refine T_imul (pc' := 53) dX7_opensBy_52 rfl ?_
        refine T_iload_n (i := 3) (pc' := 54) dX7_opensBy_53 rfl rfl rfl ?_
        refine T_iadd (pc' := 55) dX7_opensBy_54 rfl ?_
        refine T_iconst (pc' := 56) dX7_opensBy_55 (by decide) rfl ?_
        refine T_isub (pc' := 57) dX7_opensBy_56 rfl ?_
        refine T_callSN (av := [(2, 10), (0, (wr32 ((wr32 ((wr32 (v2 * 201)) + v3)) - 1)))]) (st := []) (d2 := 1) (nc2 := 0) (ns2 := 0) (pc' := 60) dX7_opensBy_57 rfl mtX11_get mvX11_get mlX7_71 rfl rfl (Nat.le_of_ble_eq_true rfl) (by decide) ⟨by decide, by decide⟩ rfl (pX11_get (E := E) (h := h) (M := M) (p0 := 10) (np0 := 1809) (v1 := (wr32 ((wr32 ((wr32 (v2 * 201)) + v3)) - 1))) (by decide) rfl (by decide) hG) (kF (st2 := [(0, (fX11_get M 10 1809 (wr32 ((wr32 ((wr32 (v2 * 201)) + v3)) - 1))))]) rfl (fun hG7 => ?_))
        refine T_istore (i := 6) (L' := [(2, 9), (2, g), (0, v2), (0, v3), (0, v4), (0, (fX11_get M (g + 5) 9 v2)), (0, (fX11_get M 10 1809 (wr32 ((wr32 ((wr32 (v2 * 201)) + v3)) - 1)))), (3, 0), (3, 0)]) (pc' := 62) dX7_opensBy_60 (by decide) rfl rfl ?_
        refine T_iconst (pc' := 63) dX7_opensBy_62 (by decide) rfl ?_
        refine T_istore (i := 7) (L' := [(2, 9), (2, g), (0, v2), (0, v3), (0, v4), (0, (fX11_get M (g + 5) 9 v2)), (0, (fX11_get M 10 1809 (wr32 ((wr32 ((wr32 (v2 * 201)) + v3)) - 1)))), (0, 0), (3, 0)]) (pc' := 65) dX7_opensBy_63 (by decide) rfl rfl ?_
        refine T_iconst (pc' := 66) dX7_opensBy_65 (by decide) rfl ?_
        refine T_istore (i := 8) (L' := [(2, 9), (2, g), (0, v2), (0, v3), (0, v4), (0, (fX11_get M (g + 5) 9 v2)), (0, (fX11_get M 10 1809 (wr32 ((wr32 ((wr32 (v2 * 201)) + v3)) - 1)))), (0, 0), (0, 0)]) (pc' := 68) dX7_opensBy_66 (by decide) rfl rfl ?_
        exact T_wk (H hG) ⟨Or.inr rfl, Or.inr rfl, Or.inl rfl, Or.inl rfl, Or.inr rfl, Or.inr rfl, Or.inr rfl, Or.inr rfl, Or.inr rfl, trivial⟩
      · skip
        replace H := H.2 c6
        refine T_iconst (pc' := 43) dX7_opensBy_42 (by decide) rfl ?_
        exact T_iret dX7_opensBy_43 rfl ⟨rfl, hG, H⟩
  · skip
    replace H := H.2 c2
    refine T_iconst (pc' := 13) dX7_opensBy_12 (by decide) rfl ?_
    exact T_iret dX7_opensBy_13 rfl ⟨rfl, hG, H⟩
set_option maxRecDepth 100000 in
set_option maxHeartbeats 2000000 in
theorem wX7_opensBy_68 {E : EV} {h : Int} {M : Mem} {Q : Option MV → Mem → Prop} {g : Int} {v4 : Int} {v5 : Int} {v6 : Int} {v7 : Int} {v8 : Int} (hg : isG g) (H : (((M (g + 1) 8) ≤ v8 → Q (some (0, (if v7 < v5 then (0 : Int) else 2))) M) ∧ (¬ ((M (g + 1) 8) ≤ v8) → (G h M → TG E miX7_opensBy 2 h Q 68 [(2, 9), (2, g), (3, 0), (3, 0), (0, v4), (0, v5), (0, v6), (0, (if (fX11_hasBit v4 v8) = 0 then v7 else (if (fX1_isNear M g v6 (fX11_get M 14 9 v8)) = 0 then v7 else (wr32 (v7 + 1))))), (0, (wr32 (v8 + 1)))] [] M)))) : G h M → TG E miX7_opensBy 2 h Q 68 [(2, 9), (2, g), (3, 0), (3, 0), (0, v4), (0, v5), (0, v6), (0, v7), (0, v8)] [] M := by
  intro hG
  refine T_iload (i := 8) (pc' := 70) dX7_opensBy_68 rfl rfl ?_
  refine T_aload_n (i := 1) (pc' := 71) dX7_opensBy_70 rfl rfl rfl ?_
  refine U_grN (q := (g + 1)) (k := 0) (kI := 0) (pc' := 74) dX7_opensBy_71 rfl cl1 (pog0 hg) (shg0 hg) (by decide) flX7_46 rfl rfl rfl (grg0_0 hg hG) (pog1 hg) rfl ?_
  refine U_gfN (v := (0, (M (g + 1) 8))) (k := 8) (kI := 8) (pc' := 77) dX7_opensBy_74 rfl cl4 (pog1 hg) (shg1 hg) (by decide) flX7_52 rfl rfl (by decide) rfl rfl ?_
  refine T_icmp_ge (pc' := 117) dX7_opensBy_77 (by decide) (pf := 80) rfl (fun c1 => ?_) (fun c1 => ?_)
  · skip
    replace H := H.1 c1
    refine T_iload (i := 7) (pc' := 119) dX7_opensBy_117 rfl rfl ?_
    refine T_iload (i := 5) (pc' := 121) dX7_opensBy_119 rfl rfl ?_
    have HJ2 : T E miX7_opensBy 2 126 0 0 (fun r S M' => S = S0 ∧ G h M' ∧ Q r M') 129 [(3, 0), (3, 0), (3, 0), (3, 0), (3, 0), (3, 0), (3, 0), (3, 0), (3, 0)] [(0, (if v7 < v5 then (0 : Int) else 2))] S0 M 0 0 := by
      exact T_iret dX7_opensBy_129 rfl ⟨rfl, hG, H⟩
    refine T_icmp_lt (pc' := 128) dX7_opensBy_121 (by decide) (pf := 124) rfl (fun c3 => ?_) (fun c3 => ?_)
    · skip
      refine T_iconst (pc' := 129) dX7_opensBy_128 (by decide) rfl ?_
      exact T_wk (L' := [(3, 0), (3, 0), (3, 0), (3, 0), (3, 0), (3, 0), (3, 0), (3, 0), (3, 0)]) (by have q := HJ2; try simp only [if_pos c3] at q; exact q) ⟨Or.inl rfl, Or.inl rfl, Or.inl rfl, Or.inl rfl, Or.inl rfl, Or.inl rfl, Or.inl rfl, Or.inl rfl, Or.inl rfl, trivial⟩
    · skip
      refine T_iconst (pc' := 125) dX7_opensBy_124 (by decide) rfl ?_
      refine T_goto (pc' := 129) dX7_opensBy_125 (by decide) ?_
      exact T_wk (L' := [(3, 0), (3, 0), (3, 0), (3, 0), (3, 0), (3, 0), (3, 0), (3, 0), (3, 0)]) (by have q := HJ2; try simp only [if_neg c3] at q; exact q) ⟨Or.inl rfl, Or.inl rfl, Or.inl rfl, Or.inl rfl, Or.inl rfl, Or.inl rfl, Or.inl rfl, Or.inl rfl, Or.inl rfl, trivial⟩
  · skip
    replace H := H.2 c1
    refine T_iload (i := 4) (pc' := 82) dX7_opensBy_80 rfl rfl ?_
    refine T_iload (i := 8) (pc' := 84) dX7_opensBy_82 rfl rfl ?_
    refine T_callSN (av := [(0, v4), (0, v8)]) (st := []) (d2 := 1) (nc2 := 0) (ns2 := 0) (pc' := 87) dX7_opensBy_84 rfl mtX11_hasBit mvX11_hasBit mlX7_122 rfl rfl (Nat.le_of_ble_eq_true rfl) (by decide) ⟨by decide, by decide⟩ rfl (pX11_hasBit (E := E) (h := h) (M := M) (v0 := v4) (v1 := v8) hG) (kF (st2 := [(0, (fX11_hasBit v4 v8))]) rfl (fun hG4 => ?_))
    have HJ5 : T E miX7_opensBy 2 126 0 0 (fun r S M' => S = S0 ∧ G h M' ∧ Q r M') 111 [(2, 9), (2, g), (3, 0), (3, 0), (0, v4), (0, v5), (0, v6), (0, (if (fX11_hasBit v4 v8) = 0 then v7 else (if (fX1_isNear M g v6 (fX11_get M 14 9 v8)) = 0 then v7 else (wr32 (v7 + 1))))), (0, v8)] [] S0 M 0 0 := by
      refine T_iinc (L' := [(2, 9), (2, g), (3, 0), (3, 0), (0, v4), (0, v5), (0, v6), (0, (if (fX11_hasBit v4 v8) = 0 then v7 else (if (fX1_isNear M g v6 (fX11_get M 14 9 v8)) = 0 then v7 else (wr32 (v7 + 1))))), (0, (wr32 (v8 + 1)))]) (pc' := 114) dX7_opensBy_111 rfl (by decide) rfl rfl ?_
      refine T_goto (pc' := 68) dX7_opensBy_114 (by decide) ?_
      exact T_wk (H hG) ⟨Or.inr rfl, Or.inr rfl, Or.inl rfl, Or.inl rfl, Or.inr rfl, Or.inr rfl, Or.inr rfl, Or.inr rfl, Or.inr rfl, trivial⟩
    refine T_if_eq (pc' := 111) dX7_opensBy_87 (by decide) (pf := 90) rfl (fun c6 => ?_) (fun c6 => ?_)
    · skip
      exact T_wk (L' := [(2, 9), (2, g), (3, 0), (3, 0), (0, v4), (0, v5), (0, v6), (0, v7), (0, v8)]) (by have q := HJ5; try simp only [if_pos c6] at q; exact q) ⟨Or.inr rfl, Or.inr rfl, Or.inl rfl, Or.inl rfl, Or.inr rfl, Or.inr rfl, Or.inr rfl, Or.inr rfl, Or.inr rfl, trivial⟩
    · skip
      refine T_aload_n (i := 1) (pc' := 91) dX7_opensBy_90 rfl rfl rfl ?_
      refine T_iload (i := 6) (pc' := 93) dX7_opensBy_91 rfl rfl ?_
      refine T_aload_n (i := 0) (pc' := 94) dX7_opensBy_93 rfl rfl rfl ?_
      refine U_gr (q := 14) (k := 4) (kI := 4) (pc' := 97) dX7_opensBy_94 rfl cl7 (by decide) rfl (by decide) flX7_24 rfl rfl rfl (G_at hG 20 rfl) (by decide) rfl ?_
      refine T_iload (i := 8) (pc' := 99) dX7_opensBy_97 rfl rfl ?_
      refine T_callSN (av := [(2, 14), (0, v8)]) (st := [(0, v6), (2, g)]) (d2 := 1) (nc2 := 0) (ns2 := 0) (pc' := 102) dX7_opensBy_99 rfl mtX11_get mvX11_get mlX7_71 rfl rfl (Nat.le_of_ble_eq_true rfl) (by decide) ⟨by decide, by decide⟩ rfl (pX11_get (E := E) (h := h) (M := M) (p0 := 14) (np0 := 9) (v1 := v8) (by decide) rfl (by decide) hG) (kF (st2 := [(0, (fX11_get M 14 9 v8)), (0, v6), (2, g)]) rfl (fun hG7 => ?_))
      refine T_callV (av := [(0, v6), (0, (fX11_get M 14 9 v8))]) (st := []) (d2 := 1) (nc2 := 0) (ns2 := 0) (pc' := 105) dX7_opensBy_102 rfl mtX1_isNear mvX1_isNear mlX7_158 cl1 (shg0 hg) rfl rfl (Nat.le_of_ble_eq_true rfl) (by decide) ⟨by decide, by decide⟩ rfl (pX1_isNear (E := E) (h := h) (M := M) (g := g) (v1 := v6) (v2 := (fX11_get M 14 9 v8)) hg hG) (kF (st2 := [(0, (fX1_isNear M g v6 (fX11_get M 14 9 v8)))]) rfl (fun hG8 => ?_))
      refine T_if_eq (pc' := 111) dX7_opensBy_105 (by decide) (pf := 108) rfl (fun c9 => ?_) (fun c9 => ?_)
      · skip
        exact T_wk (L' := [(2, 9), (2, g), (3, 0), (3, 0), (0, v4), (0, v5), (0, v6), (0, v7), (0, v8)]) (by have q := HJ5; try simp only [if_neg c6] at q; try simp only [if_pos c9] at q; exact q) ⟨Or.inr rfl, Or.inr rfl, Or.inl rfl, Or.inl rfl, Or.inr rfl, Or.inr rfl, Or.inr rfl, Or.inr rfl, Or.inr rfl, trivial⟩
      · skip
        refine T_iinc (L' := [(2, 9), (2, g), (3, 0), (3, 0), (0, v4), (0, v5), (0, v6), (0, (wr32 (v7 + 1))), (0, v8)]) (pc' := 111) dX7_opensBy_108 rfl (by decide) rfl rfl ?_
        exact T_wk (L' := [(2, 9), (2, g), (3, 0), (3, 0), (0, v4), (0, v5), (0, v6), (0, (wr32 (v7 + 1))), (0, v8)]) (by have q := HJ5; try simp only [if_neg c6] at q; try simp only [if_neg c9] at q; exact q) ⟨Or.inr rfl, Or.inr rfl, Or.inl rfl, Or.inl rfl, Or.inr rfl, Or.inr rfl, Or.inr rfl, Or.inr rfl, Or.inr rfl, trivial⟩
theorem eX7_opensBy {E : EV} {h : Int} {M : Mem} {Q : Option MV → Mem → Prop} {g : Int} {v2 : Int} {v3 : Int} {v4 : Int} (H : G h M → TG E miX7_opensBy 2 h Q 0 [(2, 9), (2, g), (0, v2), (0, v3), (0, v4), (3, 0), (3, 0), (3, 0), (3, 0)] [] M) : C2 E miX7_opensBy 2 h [(2, 9), (2, g), (0, v2), (0, v3), (0, v4)] M Q :=
  C2_of (by decide +kernel) (Nat.le_of_ble_eq_true rfl) rfl H
set_option maxRecDepth 100000 in
set_option maxHeartbeats 2000000 in
theorem wX8_addNumber_0 {E : EV} {h : Int} {M : Mem} {Q : Option MV → Mem → Prop} {v1 : Int}  (H : (G h M → TG E miX8_addNumber 2 h Q 3 [(2, 1), (0, v1), (0, 24)] [] M)) : G h M → TG E miX8_addNumber 2 h Q 0 [(2, 1), (0, v1), (3, 0)] [] M := by
  intro hG
  refine T_bipush (pc' := 2) dX8_addNumber_0 rfl (by decide) rfl ?_
  refine T_istore_n (i := 2) (L' := [(2, 1), (0, v1), (0, 24)]) (pc' := 3) dX8_addNumber_2 rfl (by decide) rfl rfl ?_
  exact T_wk (H hG) ⟨Or.inr rfl, Or.inr rfl, Or.inr rfl, trivial⟩
set_option maxRecDepth 100000 in
set_option maxHeartbeats 2000000 in
theorem wX8_addNumber_3 {E : EV} {h : Int} {M : Mem} {Q : Option MV → Mem → Prop} {v1 : Int} {v2 : Int}  (H : ((v2 < 0 → Q none M) ∧ (¬ (v2 < 0) → (∀ M3 : Mem, M3 = (fmX11_put M 2 1600 (M 1 1) (m_and (m_shr v1 v2) 255)) → (∀ M5 : Mem, M5 = (mset M3 1 1 (wr32 ((M3 1 1) + 1))) → (G h M5 → TG E miX8_addNumber 2 h Q 3 [(2, 1), (0, v1), (0, (wr32 (v2 + (-8))))] [] M5)))))) : G h M → TG E miX8_addNumber 2 h Q 3 [(2, 1), (0, v1), (0, v2)] [] M := by
  intro hG
  refine T_iload_n (i := 2) (pc' := 4) dX8_addNumber_3 rfl rfl rfl ?_
  refine T_if_lt (pc' := 41) dX8_addNumber_4 (by decide) (pf := 7) rfl (fun c1 => ?_) (fun c1 => ?_)
  · skip
    replace H := H.1 c1
    exact T_vret dX8_addNumber_41 rfl ⟨rfl, hG, H⟩
  · skip
    replace H := H.2 c1
    refine T_aload_n (i := 0) (pc' := 8) dX8_addNumber_7 rfl rfl rfl ?_
    refine U_gr (q := 2) (k := 0) (kI := 0) (pc' := 11) dX8_addNumber_8 rfl cl8 (by decide) rfl (by decide) flX8_9 rfl rfl rfl (G_at hG 9 rfl) (by decide) rfl ?_
    refine T_aload_n (i := 0) (pc' := 12) dX8_addNumber_11 rfl rfl rfl ?_
    refine U_gf (v := (0, (M 1 1))) (k := 1) (kI := 1) (pc' := 15) dX8_addNumber_12 rfl cl8 (by decide) rfl (by decide) flX8_15 rfl rfl (by decide) rfl rfl ?_
    refine T_iload_n (i := 1) (pc' := 16) dX8_addNumber_15 rfl rfl rfl ?_
    refine T_iload_n (i := 2) (pc' := 17) dX8_addNumber_16 rfl rfl rfl ?_
    refine T_ishr (pc' := 18) dX8_addNumber_17 rfl ?_
    refine T_sipush (pc' := 21) dX8_addNumber_18 rfl (by decide) rfl ?_
    refine T_iand (pc' := 22) dX8_addNumber_21 rfl ?_
    refine T_callSN (av := [(2, 2), (0, (M 1 1)), (0, (m_and (m_shr v1 v2) 255))]) (st := []) (d2 := 1) (nc2 := 0) (ns2 := 0) (pc' := 25) dX8_addNumber_22 rfl mtX11_put mvX11_put mlX8_19 rfl rfl (Nat.le_of_ble_eq_true rfl) (by decide) ⟨by decide, by decide⟩ rfl (pX11_put (E := E) (h := h) (M := M) (p0 := 2) (np0 := 1600) (v1 := (M 1 1)) (v2 := (m_and (m_shr v1 v2) 255)) (by decide) rfl (by decide) hG) (kF (st2 := []) rfl (fun hG2 => ?_))
    obtain ⟨M3, eM3⟩ : ∃ m : Mem, m = (fmX11_put M 2 1600 (M 1 1) (m_and (m_shr v1 v2) 255)) := ⟨_, rfl⟩
    rw [← eM3] at hG2 ⊢
    replace H := H M3 eM3
    refine T_aload_n (i := 0) (pc' := 26) dX8_addNumber_25 rfl rfl rfl ?_
    refine T_dup (pc' := 27) dX8_addNumber_26 (Nat.ne_of_beq_eq_false rfl) rfl ?_
    refine U_gf (v := (0, (M3 1 1))) (k := 1) (kI := 1) (pc' := 30) dX8_addNumber_27 rfl cl8 (by decide) rfl (by decide) flX8_15 rfl rfl (by decide) rfl rfl ?_
    refine T_iconst (pc' := 31) dX8_addNumber_30 (by decide) rfl ?_
    refine T_iadd (pc' := 32) dX8_addNumber_31 rfl ?_
    refine U_pf (y := (wr32 ((M3 1 1) + 1))) (k := 1) (kI := 1) (pc' := 35) dX8_addNumber_32 rfl cl8 (by decide) rfl (by decide) flX8_15 rfl rfl rfl rfl rfl (by decide) (fun z => z) rfl ?_
    have hG4 := (G_fld (x := 1) (i := 1) (y := (wr32 ((M3 1 1) + 1))) rfl (by decide) (by decide) (by decide) hG2)
    obtain ⟨M5, eM5⟩ : ∃ m : Mem, m = (mset M3 1 1 (wr32 ((M3 1 1) + 1))) := ⟨_, rfl⟩
    rw [← eM5] at hG4 ⊢
    replace H := H M5 eM5
    refine T_iinc (L' := [(2, 1), (0, v1), (0, (wr32 (v2 + (-8))))]) (pc' := 38) dX8_addNumber_35 rfl (by decide) rfl rfl ?_
    refine T_goto (pc' := 3) dX8_addNumber_38 (by decide) ?_
    exact T_wk (H hG4) ⟨Or.inr rfl, Or.inr rfl, Or.inr rfl, trivial⟩
theorem eX8_addNumber {E : EV} {h : Int} {M : Mem} {Q : Option MV → Mem → Prop} {v1 : Int} (H : G h M → TG E miX8_addNumber 2 h Q 0 [(2, 1), (0, v1), (3, 0)] [] M) : C2 E miX8_addNumber 2 h [(2, 1), (0, v1)] M Q :=
  C2_of (by decide +kernel) (Nat.le_of_ble_eq_true rfl) rfl H
set_option maxRecDepth 100000 in
set_option maxHeartbeats 2000000 in
theorem wX9_next_0 {E : EV} {h : Int} {M : Mem} {Q : Option MV → Mem → Prop}   (H : (∀ M2 : Mem, M2 = (mset M 3 2 (M 3 3)) → (G h M2 → TG E miX9_next 2 h Q 15 [(2, 3), (0, (M 3 1)), (0, (M 3 3))] [] M2))) : G h M → TG E miX9_next 2 h Q 0 [(2, 3), (3, 0), (3, 0)] [] M := by
  intro hG
  refine T_aload_n (i := 0) (pc' := 1) dX9_next_0 rfl rfl rfl ?_
  refine U_gf (v := (0, (M 3 1))) (k := 1) (kI := 1) (pc' := 4) dX9_next_1 rfl cl9 (by decide) rfl (by decide) flX9_15 rfl rfl (by decide) rfl rfl ?_
  refine T_istore_n (i := 1) (L' := [(2, 3), (0, (M 3 1)), (3, 0)]) (pc' := 5) dX9_next_4 rfl (by decide) rfl rfl ?_
  refine T_aload_n (i := 0) (pc' := 6) dX9_next_5 rfl rfl rfl ?_
  refine U_gf (v := (0, (M 3 3))) (k := 3) (kI := 3) (pc' := 9) dX9_next_6 rfl cl9 (by decide) rfl (by decide) flX9_22 rfl rfl (by decide) rfl rfl ?_
  refine T_istore_n (i := 2) (L' := [(2, 3), (0, (M 3 1)), (0, (M 3 3))]) (pc' := 10) dX9_next_9 rfl (by decide) rfl rfl ?_
  refine T_aload_n (i := 0) (pc' := 11) dX9_next_10 rfl rfl rfl ?_
  refine T_iload_n (i := 2) (pc' := 12) dX9_next_11 rfl rfl rfl ?_
  refine U_pf (y := (M 3 3)) (k := 2) (kI := 2) (pc' := 15) dX9_next_12 rfl cl9 (by decide) rfl (by decide) flX9_19 rfl rfl rfl rfl rfl (by decide) (fun z => z) rfl ?_
  have hG1 := (G_fld (x := 3) (i := 2) (y := (M 3 3)) rfl (by decide) (by decide) (by decide) hG)
  obtain ⟨M2, eM2⟩ : ∃ m : Mem, m = (mset M 3 2 (M 3 3)) := ⟨_, rfl⟩
  rw [← eM2] at hG1 ⊢
  replace H := H M2 eM2
  exact T_wk (H hG1) ⟨Or.inr rfl, Or.inr rfl, Or.inr rfl, trivial⟩
set_option maxRecDepth 100000 in
set_option maxHeartbeats 2000000 in
theorem wX9_next_15 {E : EV} {h : Int} {M : Mem} {Q : Option MV → Mem → Prop} {v1 : Int} {v2 : Int}  (H : (((M 1 1) ≤ (M 3 2) → (∀ M5 : Mem, M5 = (mset M 3 1 (fX9_kindOf (fX8_byteAt M (M 3 2)))) → (∀ M8 : Mem, M8 = (mset M5 3 3 (if (M5 3 1) = 0 then (M5 3 2) else (wr32 ((M5 3 2) + 1)))) → (((M8 3 1) = 1 → (G h M8 → TG E miX9_next 2 h Q 117 [(2, 3), (0, v1), (0, v2)] [] M8)) ∧ (¬ ((M8 3 1) = 1) → (((M8 3 1) = 2 → (G h M8 → TG E miX9_next 2 h Q 117 [(2, 3), (0, v1), (0, v2)] [] M8)) ∧ (¬ ((M8 3 1) = 2) → (((M8 3 2) = v2 → ((v1 = 1 → (((M8 3 1) = 2 → (∀ M19 : Mem, M19 = (mset M8 3 1 4) → Q none M19)) ∧ (¬ ((M8 3 1) = 2) → ((v1 = 2 → (((M8 3 1) = 1 → (∀ M23 : Mem, M23 = (mset M8 3 1 4) → Q none M23)) ∧ (¬ ((M8 3 1) = 1) → Q none M8))) ∧ (¬ (v1 = 2) → Q none M8))))) ∧ (¬ (v1 = 1) → ((v1 = 2 → (((M8 3 1) = 1 → (∀ M16 : Mem, M16 = (mset M8 3 1 4) → Q none M16)) ∧ (¬ ((M8 3 1) = 1) → Q none M8))) ∧ (¬ (v1 = 2) → Q none M8))))) ∧ (¬ ((M8 3 2) = v2) → Q none M8))))))))) ∧ (¬ ((M 1 1) ≤ (M 3 2)) → (((fX9_isBlank (fX8_byteAt M (M 3 2))) = 0 → (∀ M31 : Mem, M31 = (mset M 3 1 (fX9_kindOf (fX8_byteAt M (M 3 2)))) → (∀ M34 : Mem, M34 = (mset M31 3 3 (if (M31 3 1) = 0 then (M31 3 2) else (wr32 ((M31 3 2) + 1)))) → (((M34 3 1) = 1 → (G h M34 → TG E miX9_next 2 h Q 117 [(2, 3), (0, v1), (0, v2)] [] M34)) ∧ (¬ ((M34 3 1) = 1) → (((M34 3 1) = 2 → (G h M34 → TG E miX9_next 2 h Q 117 [(2, 3), (0, v1), (0, v2)] [] M34)) ∧ (¬ ((M34 3 1) = 2) → (((M34 3 2) = v2 → ((v1 = 1 → (((M34 3 1) = 2 → (∀ M45 : Mem, M45 = (mset M34 3 1 4) → Q none M45)) ∧ (¬ ((M34 3 1) = 2) → ((v1 = 2 → (((M34 3 1) = 1 → (∀ M49 : Mem, M49 = (mset M34 3 1 4) → Q none M49)) ∧ (¬ ((M34 3 1) = 1) → Q none M34))) ∧ (¬ (v1 = 2) → Q none M34))))) ∧ (¬ (v1 = 1) → ((v1 = 2 → (((M34 3 1) = 1 → (∀ M42 : Mem, M42 = (mset M34 3 1 4) → Q none M42)) ∧ (¬ ((M34 3 1) = 1) → Q none M34))) ∧ (¬ (v1 = 2) → Q none M34))))) ∧ (¬ ((M34 3 2) = v2) → Q none M34))))))))) ∧ (¬ ((fX9_isBlank (fX8_byteAt M (M 3 2))) = 0) → (∀ M52 : Mem, M52 = (mset M 3 2 (wr32 ((M 3 2) + 1))) → (G h M52 → TG E miX9_next 2 h Q 15 [(2, 3), (0, v1), (0, v2)] [] M52))))))) : G h M → TG E miX9_next 2 h Q 15 [(2, 3), (0, v1), (0, v2)] [] M := by
  intro hG
  refine T_aload_n (i := 0) (pc' := 16) dX9_next_15 rfl rfl rfl ?_
  refine U_gf (v := (0, (M 3 2))) (k := 2) (kI := 2) (pc' := 19) dX9_next_16 rfl cl9 (by decide) rfl (by decide) flX9_19 rfl rfl (by decide) rfl rfl ?_
  refine T_aload_n (i := 0) (pc' := 20) dX9_next_19 rfl rfl rfl ?_
  refine U_gr (q := 1) (k := 0) (kI := 0) (pc' := 23) dX9_next_20 rfl cl9 (by decide) rfl (by decide) flX9_9 rfl rfl rfl (G_at hG 10 rfl) (by decide) rfl ?_
  refine U_gfN (v := (0, (M 1 1))) (k := 1) (kI := 1) (pc' := 26) dX9_next_23 rfl cl8 (by decide) rfl (by decide) flX9_34 rfl rfl (by decide) rfl rfl ?_
  refine T_icmp_ge (pc' := 59) dX9_next_26 (by decide) (pf := 29) rfl (fun c1 => ?_) (fun c1 => ?_)
  · skip
    replace H := H.1 c1
    refine T_aload_n (i := 0) (pc' := 60) dX9_next_59 rfl rfl rfl ?_
    refine T_aload_n (i := 0) (pc' := 61) dX9_next_60 rfl rfl rfl ?_
    refine U_gr (q := 1) (k := 0) (kI := 0) (pc' := 64) dX9_next_61 rfl cl9 (by decide) rfl (by decide) flX9_9 rfl rfl rfl (G_at hG 10 rfl) (by decide) rfl ?_
    refine T_aload_n (i := 0) (pc' := 65) dX9_next_64 rfl rfl rfl ?_
    refine U_gf (v := (0, (M 3 2))) (k := 2) (kI := 2) (pc' := 68) dX9_next_65 rfl cl9 (by decide) rfl (by decide) flX9_19 rfl rfl (by decide) rfl rfl ?_
    refine T_callV (av := [(0, (M 3 2))]) (st := [(2, 3)]) (d2 := 1) (nc2 := 0) (ns2 := 0) (pc' := 71) dX9_next_68 rfl mtX8_byteAt mvX8_byteAt mlX9_39 cl8 rfl rfl rfl (Nat.le_of_ble_eq_true rfl) (by decide) ⟨by decide, by decide⟩ rfl (pX8_byteAt (E := E) (h := h) (M := M) (v1 := (M 3 2)) hG) (kF (st2 := [(0, (fX8_byteAt M (M 3 2))), (2, 3)]) rfl (fun hG2 => ?_))
    refine T_callS (av := [(0, (fX8_byteAt M (M 3 2)))]) (st := [(2, 3)]) (d2 := 1) (nc2 := 0) (ns2 := 0) (pc' := 74) dX9_next_71 rfl mtX9_kindOf mvX9_kindOf mlX9_47 rfl rfl (Nat.le_of_ble_eq_true rfl) (by decide) ⟨by decide, by decide⟩ rfl (pX9_kindOf (E := E) (h := h) (M := M) (v0 := (fX8_byteAt M (M 3 2))) hG) (kF (st2 := [(0, (fX9_kindOf (fX8_byteAt M (M 3 2)))), (2, 3)]) rfl (fun hG3 => ?_))
    refine U_pf (y := (fX9_kindOf (fX8_byteAt M (M 3 2)))) (k := 1) (kI := 1) (pc' := 77) dX9_next_74 rfl cl9 (by decide) rfl (by decide) flX9_15 rfl rfl rfl rfl rfl (by decide) (fun z => z) rfl ?_
    have hG4 := (G_fld (x := 3) (i := 1) (y := (fX9_kindOf (fX8_byteAt M (M 3 2)))) rfl (by decide) (by decide) (by decide) hG)
    obtain ⟨M5, eM5⟩ : ∃ m : Mem, m = (mset M 3 1 (fX9_kindOf (fX8_byteAt M (M 3 2)))) := ⟨_, rfl⟩
    rw [← eM5] at hG4 ⊢
    replace H := H M5 eM5
    refine T_aload_n (i := 0) (pc' := 78) dX9_next_77 rfl rfl rfl ?_
    refine T_aload_n (i := 0) (pc' := 79) dX9_next_78 rfl rfl rfl ?_
    refine U_gf (v := (0, (M5 3 1))) (k := 1) (kI := 1) (pc' := 82) dX9_next_79 rfl cl9 (by decide) rfl (by decide) flX9_15 rfl rfl (by decide) rfl rfl ?_
    have HJ6 : T E miX9_next 2 126 0 0 (fun r S M' => S = S0 ∧ G h M' ∧ Q r M') 98 [(2, 3), (0, v1), (0, v2)] [(0, (if (M5 3 1) = 0 then (M5 3 2) else (wr32 ((M5 3 2) + 1)))), (2, 3)] S0 M5 0 0 := by
      refine U_pf (y := (if (M5 3 1) = 0 then (M5 3 2) else (wr32 ((M5 3 2) + 1)))) (k := 3) (kI := 3) (pc' := 101) dX9_next_98 rfl cl9 (by decide) rfl (by decide) flX9_22 rfl rfl rfl rfl rfl (by decide) (fun z => z) rfl ?_
      have hG7 := (G_fld (x := 3) (i := 3) (y := (if (M5 3 1) = 0 then (M5 3 2) else (wr32 ((M5 3 2) + 1)))) rfl (by decide) (by decide) (by decide) hG4)
      obtain ⟨M8, eM8⟩ : ∃ m : Mem, m = (mset M5 3 3 (if (M5 3 1) = 0 then (M5 3 2) else (wr32 ((M5 3 2) + 1)))) := ⟨_, rfl⟩
      rw [← eM8] at hG7 ⊢
      replace H := H M8 eM8
      refine T_aload_n (i := 0) (pc' := 102) dX9_next_101 rfl rfl rfl ?_
      refine U_gf (v := (0, (M8 3 1))) (k := 1) (kI := 1) (pc' := 105) dX9_next_102 rfl cl9 (by decide) rfl (by decide) flX9_15 rfl rfl (by decide) rfl rfl ?_
      refine T_iconst (pc' := 106) dX9_next_105 (by decide) rfl ?_
      refine T_icmp_eq (pc' := 117) dX9_next_106 (by decide) (pf := 109) rfl (fun c9 => ?_) (fun c9 => ?_)
      · skip
        replace H := H.1 c9
        exact T_wk (H hG7) ⟨Or.inr rfl, Or.inr rfl, Or.inr rfl, trivial⟩
      · skip
        replace H := H.2 c9
        refine T_aload_n (i := 0) (pc' := 110) dX9_next_109 rfl rfl rfl ?_
        refine U_gf (v := (0, (M8 3 1))) (k := 1) (kI := 1) (pc' := 113) dX9_next_110 rfl cl9 (by decide) rfl (by decide) flX9_15 rfl rfl (by decide) rfl rfl ?_
        refine T_iconst (pc' := 114) dX9_next_113 (by decide) rfl ?_
        refine T_icmp_ne (pc' := 165) dX9_next_114 (by decide) (pf := 117) rfl (fun c10 => ?_) (fun c10 => ?_)
        · skip
          replace H := H.2 c10
          refine T_aload_n (i := 0) (pc' := 166) dX9_next_165 rfl rfl rfl ?_
          refine U_gf (v := (0, (M8 3 2))) (k := 2) (kI := 2) (pc' := 169) dX9_next_166 rfl cl9 (by decide) rfl (by decide) flX9_19 rfl rfl (by decide) rfl rfl ?_
          refine T_iload_n (i := 2) (pc' := 170) dX9_next_169 rfl rfl rfl ?_
          refine T_icmp_ne (pc' := 204) dX9_next_170 (by decide) (pf := 173) rfl (fun c11 => ?_) (fun c11 => ?_)
          · skip
            replace H := H.2 c11
            exact T_vret dX9_next_204 rfl ⟨rfl, hG7, H⟩
          · skip
            replace H := H.1 c11
            refine T_iload_n (i := 1) (pc' := 174) dX9_next_173 rfl rfl rfl ?_
            refine T_iconst (pc' := 175) dX9_next_174 (by decide) rfl ?_
            refine T_icmp_ne (pc' := 186) dX9_next_175 (by decide) (pf := 178) rfl (fun c12 => ?_) (fun c12 => ?_)
            · skip
              replace H := H.2 c12
              refine T_iload_n (i := 1) (pc' := 187) dX9_next_186 rfl rfl rfl ?_
              refine T_iconst (pc' := 188) dX9_next_187 (by decide) rfl ?_
              refine T_icmp_ne (pc' := 204) dX9_next_188 (by decide) (pf := 191) rfl (fun c13 => ?_) (fun c13 => ?_)
              · skip
                replace H := H.2 c13
                exact T_vret dX9_next_204 rfl ⟨rfl, hG7, H⟩
              · skip
                replace H := H.1 c13
                refine T_aload_n (i := 0) (pc' := 192) dX9_next_191 rfl rfl rfl ?_
                refine U_gf (v := (0, (M8 3 1))) (k := 1) (kI := 1) (pc' := 195) dX9_next_192 rfl cl9 (by decide) rfl (by decide) flX9_15 rfl rfl (by decide) rfl rfl ?_
                refine T_iconst (pc' := 196) dX9_next_195 (by decide) rfl ?_
                refine T_icmp_ne (pc' := 204) dX9_next_196 (by decide) (pf := 199) rfl (fun c14 => ?_) (fun c14 => ?_)
                · skip
                  replace H := H.2 c14
                  exact T_vret dX9_next_204 rfl ⟨rfl, hG7, H⟩
                · skip
                  replace H := H.1 c14
                  refine T_aload_n (i := 0) (pc' := 200) dX9_next_199 rfl rfl rfl ?_
                  refine T_iconst (pc' := 201) dX9_next_200 (by decide) rfl ?_
                  refine U_pf (y := 4) (k := 1) (kI := 1) (pc' := 204) dX9_next_201 rfl cl9 (by decide) rfl (by decide) flX9_15 rfl rfl rfl rfl rfl (by decide) (fun z => z) rfl ?_
                  have hG15 := (G_fld (x := 3) (i := 1) (y := 4) rfl (by decide) (by decide) (by decide) hG7)
                  obtain ⟨M16, eM16⟩ : ∃ m : Mem, m = (mset M8 3 1 4) := ⟨_, rfl⟩
                  rw [← eM16] at hG15 ⊢
                  replace H := H M16 eM16
                  exact T_vret dX9_next_204 rfl ⟨rfl, hG15, H⟩
            · skip
              replace H := H.1 c12
              refine T_aload_n (i := 0) (pc' := 179) dX9_next_178 rfl rfl rfl ?_
              refine U_gf (v := (0, (M8 3 1))) (k := 1) (kI := 1) (pc' := 182) dX9_next_179 rfl cl9 (by decide) rfl (by decide) flX9_15 rfl rfl (by decide) rfl rfl ?_
              refine T_iconst (pc' := 183) dX9_next_182 (by decide) rfl ?_
              refine T_icmp_eq (pc' := 199) dX9_next_183 (by decide) (pf := 186) rfl (fun c17 => ?_) (fun c17 => ?_)
              · skip
                replace H := H.1 c17
                refine T_aload_n (i := 0) (pc' := 200) dX9_next_199 rfl rfl rfl ?_
                refine T_iconst (pc' := 201) dX9_next_200 (by decide) rfl ?_
                refine U_pf (y := 4) (k := 1) (kI := 1) (pc' := 204) dX9_next_201 rfl cl9 (by decide) rfl (by decide) flX9_15 rfl rfl rfl rfl rfl (by decide) (fun z => z) rfl ?_
                have hG18 := (G_fld (x := 3) (i := 1) (y := 4) rfl (by decide) (by decide) (by decide) hG7)
                obtain ⟨M19, eM19⟩ : ∃ m : Mem, m = (mset M8 3 1 4) := ⟨_, rfl⟩
                rw [← eM19] at hG18 ⊢
                replace H := H M19 eM19
                exact T_vret dX9_next_204 rfl ⟨rfl, hG18, H⟩
              · skip
                replace H := H.2 c17
                refine T_iload_n (i := 1) (pc' := 187) dX9_next_186 rfl rfl rfl ?_
                refine T_iconst (pc' := 188) dX9_next_187 (by decide) rfl ?_
                refine T_icmp_ne (pc' := 204) dX9_next_188 (by decide) (pf := 191) rfl (fun c20 => ?_) (fun c20 => ?_)
                · skip
                  replace H := H.2 c20
                  exact T_vret dX9_next_204 rfl ⟨rfl, hG7, H⟩
                · skip
                  replace H := H.1 c20
                  refine T_aload_n (i := 0) (pc' := 192) dX9_next_191 rfl rfl rfl ?_
                  refine U_gf (v := (0, (M8 3 1))) (k := 1) (kI := 1) (pc' := 195) dX9_next_192 rfl cl9 (by decide) rfl (by decide) flX9_15 rfl rfl (by decide) rfl rfl ?_
                  refine T_iconst (pc' := 196) dX9_next_195 (by decide) rfl ?_
                  refine T_icmp_ne (pc' := 204) dX9_next_196 (by decide) (pf := 199) rfl (fun c21 => ?_) (fun c21 => ?_)
                  · skip
                    replace H := H.2 c21
                    exact T_vret dX9_next_204 rfl ⟨rfl, hG7, H⟩
                  · skip
                    replace H := H.1 c21
                    refine T_aload_n (i := 0) (pc' := 200) dX9_next_199 rfl rfl rfl ?_
                    refine T_iconst (pc' := 201) dX9_next_200 (by decide) rfl ?_
                    refine U_pf (y := 4) (k := 1) (kI := 1) (pc' := 204) dX9_next_201 rfl cl9 (by decide) rfl (by decide) flX9_15 rfl rfl rfl rfl rfl (by decide) (fun z => z) rfl ?_
                    have hG22 := (G_fld (x := 3) (i := 1) (y := 4) rfl (by decide) (by decide) (by decide) hG7)
                    obtain ⟨M23, eM23⟩ : ∃ m : Mem, m = (mset M8 3 1 4) := ⟨_, rfl⟩
                    rw [← eM23] at hG22 ⊢
                    replace H := H M23 eM23
                    exact T_vret dX9_next_204 rfl ⟨rfl, hG22, H⟩
        · skip
          replace H := H.1 c10
          exact T_wk (H hG7) ⟨Or.inr rfl, Or.inr rfl, Or.inr rfl, trivial⟩
    refine T_if_ne (pc' := 92) dX9_next_82 (by decide) (pf := 85) rfl (fun c24 => ?_) (fun c24 => ?_)
    · skip
      refine T_aload_n (i := 0) (pc' := 93) dX9_next_92 rfl rfl rfl ?_
      refine U_gf (v := (0, (M5 3 2))) (k := 2) (kI := 2) (pc' := 96) dX9_next_93 rfl cl9 (by decide) rfl (by decide) flX9_19 rfl rfl (by decide) rfl rfl ?_
      refine T_iconst (pc' := 97) dX9_next_96 (by decide) rfl ?_
      refine T_iadd (pc' := 98) dX9_next_97 rfl ?_
      exact T_wk (L' := [(2, 3), (0, v1), (0, v2)]) (by have q := HJ6; try simp only [if_neg c24] at q; exact q) ⟨Or.inr rfl, Or.inr rfl, Or.inr rfl, trivial⟩
    · skip
      refine T_aload_n (i := 0) (pc' := 86) dX9_next_85 rfl rfl rfl ?_
      refine U_gf (v := (0, (M5 3 2))) (k := 2) (kI := 2) (pc' := 89) dX9_next_86 rfl cl9 (by decide) rfl (by decide) flX9_19 rfl rfl (by decide) rfl rfl ?_
      refine T_goto (pc' := 98) dX9_next_89 (by decide) ?_
      exact T_wk (L' := [(2, 3), (0, v1), (0, v2)]) (by have q := HJ6; try simp only [if_pos c24] at q; exact q) ⟨Or.inr rfl, Or.inr rfl, Or.inr rfl, trivial⟩
  · skip
    replace H := H.2 c1
    refine T_aload_n (i := 0) (pc' := 30) dX9_next_29 rfl rfl rfl ?_
    refine U_gr (q := 1) (k := 0) (kI := 0) (pc' := 33) dX9_next_30 rfl cl9 (by decide) rfl (by decide) flX9_9 rfl rfl rfl (G_at hG 10 rfl) (by decide) rfl ?_
    refine T_aload_n (i := 0) (pc' := 34) dX9_next_33 rfl rfl rfl ?_
    refine U_gf (v := (0, (M 3 2))) (k := 2) (kI := 2) (pc' := 37) dX9_next_34 rfl cl9 (by decide) rfl (by decide) flX9_19 rfl rfl (by decide) rfl rfl ?_
    refine T_callV (av := [(0, (M 3 2))]) (st := []) (d2 := 1) (nc2 := 0) (ns2 := 0) (pc' := 40) dX9_next_37 rfl mtX8_byteAt mvX8_byteAt mlX9_39 cl8 rfl rfl rfl (Nat.le_of_ble_eq_true rfl) (by decide) ⟨by decide, by decide⟩ rfl (pX8_byteAt (E := E) (h := h) (M := M) (v1 := (M 3 2)) hG) (kF (st2 := [(0, (fX8_byteAt M (M 3 2)))]) rfl (fun hG25 => ?_))
    refine T_callS (av := [(0, (fX8_byteAt M (M 3 2)))]) (st := []) (d2 := 1) (nc2 := 0) (ns2 := 0) (pc' := 43) dX9_next_40 rfl mtX9_isBlank mvX9_isBlank mlX9_43 rfl rfl (Nat.le_of_ble_eq_true rfl) (by decide) ⟨by decide, by decide⟩ rfl (pX9_isBlank (E := E) (h := h) (M := M) (v0 := (fX8_byteAt M (M 3 2))) hG) (kF (st2 := [(0, (fX9_isBlank (fX8_byteAt M (M 3 2))))]) rfl (fun hG26 => ?_))
    refine T_if_eq (pc' := 59) dX9_next_43 (by decide) (pf := 46) rfl (fun c27 => ?_) (fun c27 => ?_)
    · skip
      replace H := H.1 c27
      refine T_aload_n (i := 0) (pc' := 60) dX9_next_59 rfl rfl rfl ?_
      refine T_aload_n (i := 0) (pc' := 61) dX9_next_60 rfl rfl rfl ?_
      refine U_gr (q := 1) (k := 0) (kI := 0) (pc' := 64) dX9_next_61 rfl cl9 (by decide) rfl (by decide) flX9_9 rfl rfl rfl (G_at hG 10 rfl) (by decide) rfl ?_
      refine T_aload_n (i := 0) (pc' := 65) dX9_next_64 rfl rfl rfl ?_
      refine U_gf (v := (0, (M 3 2))) (k := 2) (kI := 2) (pc' := 68) dX9_next_65 rfl cl9 (by decide) rfl (by decide) flX9_19 rfl rfl (by decide) rfl rfl ?_
      refine T_callV (av := [(0, (M 3 2))]) (st := [(2, 3)]) (d2 := 1) (nc2 := 0) (ns2 := 0) (pc' := 71) dX9_next_68 rfl mtX8_byteAt mvX8_byteAt mlX9_39 cl8 rfl rfl rfl (Nat.le_of_ble_eq_true rfl) (by decide) ⟨by decide, by decide⟩ rfl (pX8_byteAt (E := E) (h := h) (M := M) (v1 := (M 3 2)) hG) (kF (st2 := [(0, (fX8_byteAt M (M 3 2))), (2, 3)]) rfl (fun hG28 => ?_))
      refine T_callS (av := [(0, (fX8_byteAt M (M 3 2)))]) (st := [(2, 3)]) (d2 := 1) (nc2 := 0) (ns2 := 0) (pc' := 74) dX9_next_71 rfl mtX9_kindOf mvX9_kindOf mlX9_47 rfl rfl (Nat.le_of_ble_eq_true rfl) (by decide) ⟨by decide, by decide⟩ rfl (pX9_kindOf (E := E) (h := h) (M := M) (v0 := (fX8_byteAt M (M 3 2))) hG) (kF (st2 := [(0, (fX9_kindOf (fX8_byteAt M (M 3 2)))), (2, 3)]) rfl (fun hG29 => ?_))
      refine U_pf (y := (fX9_kindOf (fX8_byteAt M (M 3 2)))) (k := 1) (kI := 1) (pc' := 77) dX9_next_74 rfl cl9 (by decide) rfl (by decide) flX9_15 rfl rfl rfl rfl rfl (by decide) (fun z => z) rfl ?_
      have hG30 := (G_fld (x := 3) (i := 1) (y := (fX9_kindOf (fX8_byteAt M (M 3 2)))) rfl (by decide) (by decide) (by decide) hG)
      obtain ⟨M31, eM31⟩ : ∃ m : Mem, m = (mset M 3 1 (fX9_kindOf (fX8_byteAt M (M 3 2)))) := ⟨_, rfl⟩
      rw [← eM31] at hG30 ⊢
      replace H := H M31 eM31
      refine T_aload_n (i := 0) (pc' := 78) dX9_next_77 rfl rfl rfl ?_
      refine T_aload_n (i := 0) (pc' := 79) dX9_next_78 rfl rfl rfl ?_
      refine U_gf (v := (0, (M31 3 1))) (k := 1) (kI := 1) (pc' := 82) dX9_next_79 rfl cl9 (by decide) rfl (by decide) flX9_15 rfl rfl (by decide) rfl rfl ?_
      have HJ32 : T E miX9_next 2 126 0 0 (fun r S M' => S = S0 ∧ G h M' ∧ Q r M') 98 [(2, 3), (0, v1), (0, v2)] [(0, (if (M31 3 1) = 0 then (M31 3 2) else (wr32 ((M31 3 2) + 1)))), (2, 3)] S0 M31 0 0 := by
        refine U_pf (y := (if (M31 3 1) = 0 then (M31 3 2) else (wr32 ((M31 3 2) + 1)))) (k := 3) (kI := 3) (pc' := 101) dX9_next_98 rfl cl9 (by decide) rfl (by decide) flX9_22 rfl rfl rfl rfl rfl (by decide) (fun z => z) rfl ?_
        have hG33 := (G_fld (x := 3) (i := 3) (y := (if (M31 3 1) = 0 then (M31 3 2) else (wr32 ((M31 3 2) + 1)))) rfl (by decide) (by decide) (by decide) hG30)
        obtain ⟨M34, eM34⟩ : ∃ m : Mem, m = (mset M31 3 3 (if (M31 3 1) = 0 then (M31 3 2) else (wr32 ((M31 3 2) + 1)))) := ⟨_, rfl⟩
        rw [← eM34] at hG33 ⊢
        replace H := H M34 eM34
        refine T_aload_n (i := 0) (pc' := 102) dX9_next_101 rfl rfl rfl ?_
        refine U_gf (v := (0, (M34 3 1))) (k := 1) (kI := 1) (pc' := 105) dX9_next_102 rfl cl9 (by decide) rfl (by decide) flX9_15 rfl rfl (by decide) rfl rfl ?_
        refine T_iconst (pc' := 106) dX9_next_105 (by decide) rfl ?_
        refine T_icmp_eq (pc' := 117) dX9_next_106 (by decide) (pf := 109) rfl (fun c35 => ?_) (fun c35 => ?_)
        · skip
          replace H := H.1 c35
          exact T_wk (H hG33) ⟨Or.inr rfl, Or.inr rfl, Or.inr rfl, trivial⟩
        · skip
          replace H := H.2 c35
          refine T_aload_n (i := 0) (pc' := 110) dX9_next_109 rfl rfl rfl ?_
          refine U_gf (v := (0, (M34 3 1))) (k := 1) (kI := 1) (pc' := 113) dX9_next_110 rfl cl9 (by decide) rfl (by decide) flX9_15 rfl rfl (by decide) rfl rfl ?_
          refine T_iconst (pc' := 114) dX9_next_113 (by decide) rfl ?_
          refine T_icmp_ne (pc' := 165) dX9_next_114 (by decide) (pf := 117) rfl (fun c36 => ?_) (fun c36 => ?_)
          · skip
            replace H := H.2 c36
            refine T_aload_n (i := 0) (pc' := 166) dX9_next_165 rfl rfl rfl ?_
            refine U_gf (v := (0, (M34 3 2))) (k := 2) (kI := 2) (pc' := 169) dX9_next_166 rfl cl9 (by decide) rfl (by decide) flX9_19 rfl rfl (by decide) rfl rfl ?_
            refine T_iload_n (i := 2) (pc' := 170) dX9_next_169 rfl rfl rfl ?_
            refine T_icmp_ne (pc' := 204) dX9_next_170 (by decide) (pf := 173) rfl (fun c37 => ?_) (fun c37 => ?_)
            · skip
              replace H := H.2 c37
              exact T_vret dX9_next_204 rfl ⟨rfl, hG33, H⟩
            · skip
              replace H := H.1 c37
              refine T_iload_n (i := 1) (pc' := 174) dX9_next_173 rfl rfl rfl ?_
              refine T_iconst (pc' := 175) dX9_next_174 (by decide) rfl ?_
              refine T_icmp_ne (pc' := 186) dX9_next_175 (by decide) (pf := 178) rfl (fun c38 => ?_) (fun c38 => ?_)
              · skip
                replace H := H.2 c38
                refine T_iload_n (i := 1) (pc' := 187) dX9_next_186 rfl rfl rfl ?_
                refine T_iconst (pc' := 188) dX9_next_187 (by decide) rfl ?_
                refine T_icmp_ne (pc' := 204) dX9_next_188 (by decide) (pf := 191) rfl (fun c39 => ?_) (fun c39 => ?_)
                · skip
                  replace H := H.2 c39
                  exact T_vret dX9_next_204 rfl ⟨rfl, hG33, H⟩
                · skip
                  replace H := H.1 c39
                  refine T_aload_n (i := 0) (pc' := 192) dX9_next_191 rfl rfl rfl ?_
                  refine U_gf (v := (0, (M34 3 1))) (k := 1) (kI := 1) (pc' := 195) dX9_next_192 rfl cl9 (by decide) rfl (by decide) flX9_15 rfl rfl (by decide) rfl rfl ?_
                  refine T_iconst (pc' := 196) dX9_next_195 (by decide) rfl ?_
                  refine T_icmp_ne (pc' := 204) dX9_next_196 (by decide) (pf := 199) rfl (fun c40 => ?_) (fun c40 => ?_)
                  · skip
                    replace H := H.2 c40
                    exact T_vret dX9_next_204 rfl ⟨rfl, hG33, H⟩
                  · skip
                    replace H := H.1 c40
                    refine T_aload_n (i := 0) (pc' := 200) dX9_next_199 rfl rfl rfl ?_
                    refine T_iconst (pc' := 201) dX9_next_200 (by decide) rfl ?_
                    refine U_pf (y := 4) (k := 1) (kI := 1) (pc' := 204) dX9_next_201 rfl cl9 (by decide) rfl (by decide) flX9_15 rfl rfl rfl rfl rfl (by decide) (fun z => z) rfl ?_
                    have hG41 := (G_fld (x := 3) (i := 1) (y := 4) rfl (by decide) (by decide) (by decide) hG33)
                    obtain ⟨M42, eM42⟩ : ∃ m : Mem, m = (mset M34 3 1 4) := ⟨_, rfl⟩
                    rw [← eM42] at hG41 ⊢
                    replace H := H M42 eM42
                    exact T_vret dX9_next_204 rfl ⟨rfl, hG41, H⟩
              · skip
                replace H := H.1 c38
                refine T_aload_n (i := 0) (pc' := 179) dX9_next_178 rfl rfl rfl ?_
                refine U_gf (v := (0, (M34 3 1))) (k := 1) (kI := 1) (pc' := 182) dX9_next_179 rfl cl9 (by decide) rfl (by decide) flX9_15 rfl rfl (by decide) rfl rfl ?_
                refine T_iconst (pc' := 183) dX9_next_182 (by decide) rfl ?_
                refine T_icmp_eq (pc' := 199) dX9_next_183 (by decide) (pf := 186) rfl (fun c43 => ?_) (fun c43 => ?_)
                · skip
                  replace H := H.1 c43
                  refine T_aload_n (i := 0) (pc' := 200) dX9_next_199 rfl rfl rfl ?_
                  refine T_iconst (pc' := 201) dX9_next_200 (by decide) rfl ?_
                  refine U_pf (y := 4) (k := 1) (kI := 1) (pc' := 204) dX9_next_201 rfl cl9 (by decide) rfl (by decide) flX9_15 rfl rfl rfl rfl rfl (by decide) (fun z => z) rfl ?_
                  have hG44 := (G_fld (x := 3) (i := 1) (y := 4) rfl (by decide) (by decide) (by decide) hG33)
                  obtain ⟨M45, eM45⟩ : ∃ m : Mem, m = (mset M34 3 1 4) := ⟨_, rfl⟩
                  rw [← eM45] at hG44 ⊢
                  replace H := H M45 eM45
                  exact T_vret dX9_next_204 rfl ⟨rfl, hG44, H⟩
                · skip
                  replace H := H.2 c43
                  refine T_iload_n (i := 1) (pc' := 187) dX9_next_186 rfl rfl rfl ?_
                  refine T_iconst (pc' := 188) dX9_next_187 (by decide) rfl ?_
                  refine T_icmp_ne (pc' := 204) dX9_next_188 (by decide) (pf := 191) rfl (fun c46 => ?_) (fun c46 => ?_)
                  · skip
                    replace H := H.2 c46
                    exact T_vret dX9_next_204 rfl ⟨rfl, hG33, H⟩
                  · skip
                    replace H := H.1 c46
                    refine T_aload_n (i := 0) (pc' := 192) dX9_next_191 rfl rfl rfl ?_
                    refine U_gf (v := (0, (M34 3 1))) (k := 1) (kI := 1) (pc' := 195) dX9_next_192 rfl cl9 (by decide) rfl (by decide) flX9_15 rfl rfl (by decide) rfl rfl ?_
                    refine T_iconst (pc' := 196) dX9_next_195 (by decide) rfl ?_
                    refine T_icmp_ne (pc' := 204) dX9_next_196 (by decide) (pf := 199) rfl (fun c47 => ?_) (fun c47 => ?_)
                    · skip
                      replace H := H.2 c47
                      exact T_vret dX9_next_204 rfl ⟨rfl, hG33, H⟩
                    · skip
                      replace H := H.1 c47
                      refine T_aload_n (i := 0) (pc' := 200) dX9_next_199 rfl rfl rfl ?_
                      refine T_iconst (pc' := 201) dX9_next_200 (by decide) rfl ?_
                      refine U_pf (y := 4) (k := 1) (kI := 1) (pc' := 204) dX9_next_201 rfl cl9 (by decide) rfl (by decide) flX9_15 rfl rfl rfl rfl rfl (by decide) (fun z => z) rfl ?_
                      have hG48 := (G_fld (x := 3) (i := 1) (y := 4) rfl (by decide) (by decide) (by decide) hG33)
                      obtain ⟨M49, eM49⟩ : ∃ m : Mem, m = (mset M34 3 1 4) := ⟨_, rfl⟩
                      rw [← eM49] at hG48 ⊢
                      replace H := H M49 eM49
                      exact T_vret dX9_next_204 rfl ⟨rfl, hG48, H⟩
          · skip
            replace H := H.1 c36
            exact T_wk (H hG33) ⟨Or.inr rfl, Or.inr rfl, Or.inr rfl, trivial⟩
      refine T_if_ne (pc' := 92) dX9_next_82 (by decide) (pf := 85) rfl (fun c50 => ?_) (fun c50 => ?_)
      · skip
        refine T_aload_n (i := 0) (pc' := 93) dX9_next_92 rfl rfl rfl ?_
        refine U_gf (v := (0, (M31 3 2))) (k := 2) (kI := 2) (pc' := 96) dX9_next_93 rfl cl9 (by decide) rfl (by decide) flX9_19 rfl rfl (by decide) rfl rfl ?_
        refine T_iconst (pc' := 97) dX9_next_96 (by decide) rfl ?_
        refine T_iadd (pc' := 98) dX9_next_97 rfl ?_
        exact T_wk (L' := [(2, 3), (0, v1), (0, v2)]) (by have q := HJ32; try simp only [if_neg c50] at q; exact q) ⟨Or.inr rfl, Or.inr rfl, Or.inr rfl, trivial⟩
      · skip
        refine T_aload_n (i := 0) (pc' := 86) dX9_next_85 rfl rfl rfl ?_
        refine U_gf (v := (0, (M31 3 2))) (k := 2) (kI := 2) (pc' := 89) dX9_next_86 rfl cl9 (by decide) rfl (by decide) flX9_19 rfl rfl (by decide) rfl rfl ?_
        refine T_goto (pc' := 98) dX9_next_89 (by decide) ?_
        exact T_wk (L' := [(2, 3), (0, v1), (0, v2)]) (by have q := HJ32; try simp only [if_pos c50] at q; exact q) ⟨Or.inr rfl, Or.inr rfl, Or.inr rfl, trivial⟩
    · skip
      replace H := H.2 c27
      refine T_aload_n (i := 0) (pc' := 47) dX9_next_46 rfl rfl rfl ?_
      refine T_dup (pc' := 48) dX9_next_47 (Nat.ne_of_beq_eq_false rfl) rfl ?_
      refine U_gf (v := (0, (M 3 2))) (k := 2) (kI := 2) (pc' := 51) dX9_next_48 rfl cl9 (by decide) rfl (by decide) flX9_19 rfl rfl (by decide) rfl rfl ?_
      refine T_iconst (pc' := 52) dX9_next_51 (by decide) rfl ?_
      refine T_iadd (pc' := 53) dX9_next_52 rfl ?_
      refine U_pf (y := (wr32 ((M 3 2) + 1))) (k := 2) (kI := 2) (pc' := 56) dX9_next_53 rfl cl9 (by decide) rfl (by decide) flX9_19 rfl rfl rfl rfl rfl (by decide) (fun z => z) rfl ?_
      have hG51 := (G_fld (x := 3) (i := 2) (y := (wr32 ((M 3 2) + 1))) rfl (by decide) (by decide) (by decide) hG)
      obtain ⟨M52, eM52⟩ : ∃ m : Mem, m = (mset M 3 2 (wr32 ((M 3 2) + 1))) := ⟨_, rfl⟩
      rw [← eM52] at hG51 ⊢
      replace H := H M52 eM52
      refine T_goto (pc' := 15) dX9_next_56 (by decide) ?_
      exact T_wk (H hG51) ⟨Or.inr rfl, Or.inr rfl, Or.inr rfl, trivial⟩
set_option maxRecDepth 100000 in
set_option maxHeartbeats 2000000 in
theorem wX9_next_117 {E : EV} {h : Int} {M : Mem} {Q : Option MV → Mem → Prop} {v1 : Int} {v2 : Int}  (H : (((M 1 1) ≤ (M 3 3) → (((M 3 2) = v2 → ((v1 = 1 → (((M 3 1) = 2 → (∀ M10 : Mem, M10 = (mset M 3 1 4) → Q none M10)) ∧ (¬ ((M 3 1) = 2) → ((v1 = 2 → (((M 3 1) = 1 → (∀ M14 : Mem, M14 = (mset M 3 1 4) → Q none M14)) ∧ (¬ ((M 3 1) = 1) → Q none M))) ∧ (¬ (v1 = 2) → Q none M))))) ∧ (¬ (v1 = 1) → ((v1 = 2 → (((M 3 1) = 1 → (∀ M7 : Mem, M7 = (mset M 3 1 4) → Q none M7)) ∧ (¬ ((M 3 1) = 1) → Q none M))) ∧ (¬ (v1 = 2) → Q none M))))) ∧ (¬ ((M 3 2) = v2) → Q none M))) ∧ (¬ ((M 1 1) ≤ (M 3 3)) → (((fX9_kindOf (fX8_byteAt M (M 3 3))) = (M 3 1) → (∀ M32 : Mem, M32 = (mset M 3 3 (wr32 ((M 3 3) + 1))) → (G h M32 → TG E miX9_next 2 h Q 117 [(2, 3), (0, v1), (0, v2)] [] M32))) ∧ (¬ ((fX9_kindOf (fX8_byteAt M (M 3 3))) = (M 3 1)) → (((M 3 2) = v2 → ((v1 = 1 → (((M 3 1) = 2 → (∀ M26 : Mem, M26 = (mset M 3 1 4) → Q none M26)) ∧ (¬ ((M 3 1) = 2) → ((v1 = 2 → (((M 3 1) = 1 → (∀ M30 : Mem, M30 = (mset M 3 1 4) → Q none M30)) ∧ (¬ ((M 3 1) = 1) → Q none M))) ∧ (¬ (v1 = 2) → Q none M))))) ∧ (¬ (v1 = 1) → ((v1 = 2 → (((M 3 1) = 1 → (∀ M23 : Mem, M23 = (mset M 3 1 4) → Q none M23)) ∧ (¬ ((M 3 1) = 1) → Q none M))) ∧ (¬ (v1 = 2) → Q none M))))) ∧ (¬ ((M 3 2) = v2) → Q none M))))))) : G h M → TG E miX9_next 2 h Q 117 [(2, 3), (0, v1), (0, v2)] [] M := by
  intro hG
  refine T_aload_n (i := 0) (pc' := 118) dX9_next_117 rfl rfl rfl ?_
  refine U_gf (v := (0, (M 3 3))) (k := 3) (kI := 3) (pc' := 121) dX9_next_118 rfl cl9 (by decide) rfl (by decide) flX9_22 rfl rfl (by decide) rfl rfl ?_
  refine T_aload_n (i := 0) (pc' := 122) dX9_next_121 rfl rfl rfl ?_
  refine U_gr (q := 1) (k := 0) (kI := 0) (pc' := 125) dX9_next_122 rfl cl9 (by decide) rfl (by decide) flX9_9 rfl rfl rfl (G_at hG 10 rfl) (by decide) rfl ?_
  refine U_gfN (v := (0, (M 1 1))) (k := 1) (kI := 1) (pc' := 128) dX9_next_125 rfl cl8 (by decide) rfl (by decide) flX9_34 rfl rfl (by decide) rfl rfl ?_
  refine T_icmp_ge (pc' := 165) dX9_next_128 (by decide) (pf := 131) rfl (fun c1 => ?_) (fun c1 => ?_)
  · skip
    replace H := H.1 c1
    refine T_aload_n (i := 0) (pc' := 166) dX9_next_165 rfl rfl rfl ?_
    refine U_gf (v := (0, (M 3 2))) (k := 2) (kI := 2) (pc' := 169) dX9_next_166 rfl cl9 (by decide) rfl (by decide) flX9_19 rfl rfl (by decide) rfl rfl ?_
    refine T_iload_n (i := 2) (pc' := 170) dX9_next_169 rfl rfl rfl ?_
    refine T_icmp_ne (pc' := 204) dX9_next_170 (by decide) (pf := 173) rfl (fun c2 => ?_) (fun c2 => ?_)
    · skip
      replace H := H.2 c2
      exact T_vret dX9_next_204 rfl ⟨rfl, hG, H⟩
    · skip
      replace H := H.1 c2
      refine T_iload_n (i := 1) (pc' := 174) dX9_next_173 rfl rfl rfl ?_
      refine T_iconst (pc' := 175) dX9_next_174 (by decide) rfl ?_
      refine T_icmp_ne (pc' := 186) dX9_next_175 (by decide) (pf := 178) rfl (fun c3 => ?_) (fun c3 => ?_)
      · skip
        replace H := H.2 c3
        refine T_iload_n (i := 1) (pc' := 187) dX9_next_186 rfl rfl rfl ?_
        refine T_iconst (pc' := 188) dX9_next_187 (by decide) rfl ?_
        refine T_icmp_ne (pc' := 204) dX9_next_188 (by decide) (pf := 191) rfl (fun c4 => ?_) (fun c4 => ?_)
        · skip
          replace H := H.2 c4
          exact T_vret dX9_next_204 rfl ⟨rfl, hG, H⟩
        · skip
          replace H := H.1 c4
          refine T_aload_n (i := 0) (pc' := 192) dX9_next_191 rfl rfl rfl ?_
          refine U_gf (v := (0, (M 3 1))) (k := 1) (kI := 1) (pc' := 195) dX9_next_192 rfl cl9 (by decide) rfl (by decide) flX9_15 rfl rfl (by decide) rfl rfl ?_
          refine T_iconst (pc' := 196) dX9_next_195 (by decide) rfl ?_
          refine T_icmp_ne (pc' := 204) dX9_next_196 (by decide) (pf := 199) rfl (fun c5 => ?_) (fun c5 => ?_)
          · skip
            replace H := H.2 c5
            exact T_vret dX9_next_204 rfl ⟨rfl, hG, H⟩
          · skip
            replace H := H.1 c5
            refine T_aload_n (i := 0) (pc' := 200) dX9_next_199 rfl rfl rfl ?_
            refine T_iconst (pc' := 201) dX9_next_200 (by decide) rfl ?_
            refine U_pf (y := 4) (k := 1) (kI := 1) (pc' := 204) dX9_next_201 rfl cl9 (by decide) rfl (by decide) flX9_15 rfl rfl rfl rfl rfl (by decide) (fun z => z) rfl ?_
            have hG6 := (G_fld (x := 3) (i := 1) (y := 4) rfl (by decide) (by decide) (by decide) hG)
            obtain ⟨M7, eM7⟩ : ∃ m : Mem, m = (mset M 3 1 4) := ⟨_, rfl⟩
            rw [← eM7] at hG6 ⊢
            replace H := H M7 eM7
            exact T_vret dX9_next_204 rfl ⟨rfl, hG6, H⟩
      · skip
        replace H := H.1 c3
        refine T_aload_n (i := 0) (pc' := 179) dX9_next_178 rfl rfl rfl ?_
        refine U_gf (v := (0, (M 3 1))) (k := 1) (kI := 1) (pc' := 182) dX9_next_179 rfl cl9 (by decide) rfl (by decide) flX9_15 rfl rfl (by decide) rfl rfl ?_
        refine T_iconst (pc' := 183) dX9_next_182 (by decide) rfl ?_
        refine T_icmp_eq (pc' := 199) dX9_next_183 (by decide) (pf := 186) rfl (fun c8 => ?_) (fun c8 => ?_)
        · skip
          replace H := H.1 c8
          refine T_aload_n (i := 0) (pc' := 200) dX9_next_199 rfl rfl rfl ?_
          refine T_iconst (pc' := 201) dX9_next_200 (by decide) rfl ?_
          refine U_pf (y := 4) (k := 1) (kI := 1) (pc' := 204) dX9_next_201 rfl cl9 (by decide) rfl (by decide) flX9_15 rfl rfl rfl rfl rfl (by decide) (fun z => z) rfl ?_
          have hG9 := (G_fld (x := 3) (i := 1) (y := 4) rfl (by decide) (by decide) (by decide) hG)
          obtain ⟨M10, eM10⟩ : ∃ m : Mem, m = (mset M 3 1 4) := ⟨_, rfl⟩
          rw [← eM10] at hG9 ⊢
          replace H := H M10 eM10
          exact T_vret dX9_next_204 rfl ⟨rfl, hG9, H⟩
        · skip
          replace H := H.2 c8
          refine T_iload_n (i := 1) (pc' := 187) dX9_next_186 rfl rfl rfl ?_
          refine T_iconst (pc' := 188) dX9_next_187 (by decide) rfl ?_
          refine T_icmp_ne (pc' := 204) dX9_next_188 (by decide) (pf := 191) rfl (fun c11 => ?_) (fun c11 => ?_)
          · skip
            replace H := H.2 c11
            exact T_vret dX9_next_204 rfl ⟨rfl, hG, H⟩
          · skip
            replace H := H.1 c11
            refine T_aload_n (i := 0) (pc' := 192) dX9_next_191 rfl rfl rfl ?_
            refine U_gf (v := (0, (M 3 1))) (k := 1) (kI := 1) (pc' := 195) dX9_next_192 rfl cl9 (by decide) rfl (by decide) flX9_15 rfl rfl (by decide) rfl rfl ?_
            refine T_iconst (pc' := 196) dX9_next_195 (by decide) rfl ?_
            refine T_icmp_ne (pc' := 204) dX9_next_196 (by decide) (pf := 199) rfl (fun c12 => ?_) (fun c12 => ?_)
            · skip
              replace H := H.2 c12
              exact T_vret dX9_next_204 rfl ⟨rfl, hG, H⟩
            · skip
              replace H := H.1 c12
              refine T_aload_n (i := 0) (pc' := 200) dX9_next_199 rfl rfl rfl ?_
              refine T_iconst (pc' := 201) dX9_next_200 (by decide) rfl ?_
              refine U_pf (y := 4) (k := 1) (kI := 1) (pc' := 204) dX9_next_201 rfl cl9 (by decide) rfl (by decide) flX9_15 rfl rfl rfl rfl rfl (by decide) (fun z => z) rfl ?_
              have hG13 := (G_fld (x := 3) (i := 1) (y := 4) rfl (by decide) (by decide) (by decide) hG)
              obtain ⟨M14, eM14⟩ : ∃ m : Mem, m = (mset M 3 1 4) := ⟨_, rfl⟩
              rw [← eM14] at hG13 ⊢
              replace H := H M14 eM14
              exact T_vret dX9_next_204 rfl ⟨rfl, hG13, H⟩
  · skip
    replace H := H.2 c1
    refine T_aload_n (i := 0) (pc' := 132) dX9_next_131 rfl rfl rfl ?_
    refine U_gr (q := 1) (k := 0) (kI := 0) (pc' := 135) dX9_next_132 rfl cl9 (by decide) rfl (by decide) flX9_9 rfl rfl rfl (G_at hG 10 rfl) (by decide) rfl ?_
    refine T_aload_n (i := 0) (pc' := 136) dX9_next_135 rfl rfl rfl ?_
    refine U_gf (v := (0, (M 3 3))) (k := 3) (kI := 3) (pc' := 139) dX9_next_136 rfl cl9 (by decide) rfl (by decide) flX9_22 rfl rfl (by decide) rfl rfl ?_
    refine T_callV (av := [(0, (M 3 3))]) (st := []) (d2 := 1) (nc2 := 0) (ns2 := 0) (pc' := 142) dX9_next_139 rfl mtX8_byteAt mvX8_byteAt mlX9_39 cl8 rfl rfl rfl (Nat.le_of_ble_eq_true rfl) (by decide) ⟨by decide, by decide⟩ rfl (pX8_byteAt (E := E) (h := h) (M := M) (v1 := (M 3 3)) hG) (kF (st2 := [(0, (fX8_byteAt M (M 3 3)))]) rfl (fun hG15 => ?_))
    refine T_callS (av := [(0, (fX8_byteAt M (M 3 3)))]) (st := []) (d2 := 1) (nc2 := 0) (ns2 := 0) (pc' := 145) dX9_next_142 rfl mtX9_kindOf mvX9_kindOf mlX9_47 rfl rfl (Nat.le_of_ble_eq_true rfl) (by decide) ⟨by decide, by decide⟩ rfl (pX9_kindOf (E := E) (h := h) (M := M) (v0 := (fX8_byteAt M (M 3 3))) hG) (kF (st2 := [(0, (fX9_kindOf (fX8_byteAt M (M 3 3))))]) rfl (fun hG16 => ?_))
    refine T_aload_n (i := 0) (pc' := 146) dX9_next_145 rfl rfl rfl ?_
    refine U_gf (v := (0, (M 3 1))) (k := 1) (kI := 1) (pc' := 149) dX9_next_146 rfl cl9 (by decide) rfl (by decide) flX9_15 rfl rfl (by decide) rfl rfl ?_
    refine T_icmp_ne (pc' := 165) dX9_next_149 (by decide) (pf := 152) rfl (fun c17 => ?_) (fun c17 => ?_)
    · skip
      replace H := H.2 c17
      refine T_aload_n (i := 0) (pc' := 166) dX9_next_165 rfl rfl rfl ?_
      refine U_gf (v := (0, (M 3 2))) (k := 2) (kI := 2) (pc' := 169) dX9_next_166 rfl cl9 (by decide) rfl (by decide) flX9_19 rfl rfl (by decide) rfl rfl ?_
      refine T_iload_n (i := 2) (pc' := 170) dX9_next_169 rfl rfl rfl ?_
      refine T_icmp_ne (pc' := 204) dX9_next_170 (by decide) (pf := 173) rfl (fun c18 => ?_) (fun c18 => ?_)
      · skip
        replace H := H.2 c18
        exact T_vret dX9_next_204 rfl ⟨rfl, hG, H⟩
      · skip
        replace H := H.1 c18
        refine T_iload_n (i := 1) (pc' := 174) dX9_next_173 rfl rfl rfl ?_
        refine T_iconst (pc' := 175) dX9_next_174 (by decide) rfl ?_
        refine T_icmp_ne (pc' := 186) dX9_next_175 (by decide) (pf := 178) rfl (fun c19 => ?_) (fun c19 => ?_)
        · skip
          replace H := H.2 c19
          refine T_iload_n (i := 1) (pc' := 187) dX9_next_186 rfl rfl rfl ?_
          refine T_iconst (pc' := 188) dX9_next_187 (by decide) rfl ?_
          refine T_icmp_ne (pc' := 204) dX9_next_188 (by decide) (pf := 191) rfl (fun c20 => ?_) (fun c20 => ?_)
          · skip
            replace H := H.2 c20
            exact T_vret dX9_next_204 rfl ⟨rfl, hG, H⟩
          · skip
            replace H := H.1 c20
            refine T_aload_n (i := 0) (pc' := 192) dX9_next_191 rfl rfl rfl ?_
            refine U_gf (v := (0, (M 3 1))) (k := 1) (kI := 1) (pc' := 195) dX9_next_192 rfl cl9 (by decide) rfl (by decide) flX9_15 rfl rfl (by decide) rfl rfl ?_
            refine T_iconst (pc' := 196) dX9_next_195 (by decide) rfl ?_
            refine T_icmp_ne (pc' := 204) dX9_next_196 (by decide) (pf := 199) rfl (fun c21 => ?_) (fun c21 => ?_)
            · skip
              replace H := H.2 c21
              exact T_vret dX9_next_204 rfl ⟨rfl, hG, H⟩
            · skip
              replace H := H.1 c21
              refine T_aload_n (i := 0) (pc' := 200) dX9_next_199 rfl rfl rfl ?_
              refine T_iconst (pc' := 201) dX9_next_200 (by decide) rfl ?_
              refine U_pf (y := 4) (k := 1) (kI := 1) (pc' := 204) dX9_next_201 rfl cl9 (by decide) rfl (by decide) flX9_15 rfl rfl rfl rfl rfl (by decide) (fun z => z) rfl ?_
              have hG22 := (G_fld (x := 3) (i := 1) (y := 4) rfl (by decide) (by decide) (by decide) hG)
              obtain ⟨M23, eM23⟩ : ∃ m : Mem, m = (mset M 3 1 4) := ⟨_, rfl⟩
              rw [← eM23] at hG22 ⊢
              replace H := H M23 eM23
              exact T_vret dX9_next_204 rfl ⟨rfl, hG22, H⟩
        · skip
          replace H := H.1 c19
          refine T_aload_n (i := 0) (pc' := 179) dX9_next_178 rfl rfl rfl ?_
          refine U_gf (v := (0, (M 3 1))) (k := 1) (kI := 1) (pc' := 182) dX9_next_179 rfl cl9 (by decide) rfl (by decide) flX9_15 rfl rfl (by decide) rfl rfl ?_
          refine T_iconst (pc' := 183) dX9_next_182 (by decide) rfl ?_
          refine T_icmp_eq (pc' := 199) dX9_next_183 (by decide) (pf := 186) rfl (fun c24 => ?_) (fun c24 => ?_)
          · skip
            replace H := H.1 c24
            refine T_aload_n (i := 0) (pc' := 200) dX9_next_199 rfl rfl rfl ?_
            refine T_iconst (pc' := 201) dX9_next_200 (by decide) rfl ?_
            refine U_pf (y := 4) (k := 1) (kI := 1) (pc' := 204) dX9_next_201 rfl cl9 (by decide) rfl (by decide) flX9_15 rfl rfl rfl rfl rfl (by decide) (fun z => z) rfl ?_
            have hG25 := (G_fld (x := 3) (i := 1) (y := 4) rfl (by decide) (by decide) (by decide) hG)
            obtain ⟨M26, eM26⟩ : ∃ m : Mem, m = (mset M 3 1 4) := ⟨_, rfl⟩
            rw [← eM26] at hG25 ⊢
            replace H := H M26 eM26
            exact T_vret dX9_next_204 rfl ⟨rfl, hG25, H⟩
          · skip
            replace H := H.2 c24
            refine T_iload_n (i := 1) (pc' := 187) dX9_next_186 rfl rfl rfl ?_
            refine T_iconst (pc' := 188) dX9_next_187 (by decide) rfl ?_
            refine T_icmp_ne (pc' := 204) dX9_next_188 (by decide) (pf := 191) rfl (fun c27 => ?_) (fun c27 => ?_)
            · skip
              replace H := H.2 c27
              exact T_vret dX9_next_204 rfl ⟨rfl, hG, H⟩
            · skip
              replace H := H.1 c27
              refine T_aload_n (i := 0) (pc' := 192) dX9_next_191 rfl rfl rfl ?_
              refine U_gf (v := (0, (M 3 1))) (k := 1) (kI := 1) (pc' := 195) dX9_next_192 rfl cl9 (by decide) rfl (by decide) flX9_15 rfl rfl (by decide) rfl rfl ?_
              refine T_iconst (pc' := 196) dX9_next_195 (by decide) rfl ?_
              refine T_icmp_ne (pc' := 204) dX9_next_196 (by decide) (pf := 199) rfl (fun c28 => ?_) (fun c28 => ?_)
              · skip
                replace H := H.2 c28
                exact T_vret dX9_next_204 rfl ⟨rfl, hG, H⟩
              · skip
                replace H := H.1 c28
                refine T_aload_n (i := 0) (pc' := 200) dX9_next_199 rfl rfl rfl ?_
                refine T_iconst (pc' := 201) dX9_next_200 (by decide) rfl ?_
                refine U_pf (y := 4) (k := 1) (kI := 1) (pc' := 204) dX9_next_201 rfl cl9 (by decide) rfl (by decide) flX9_15 rfl rfl rfl rfl rfl (by decide) (fun z => z) rfl ?_
                have hG29 := (G_fld (x := 3) (i := 1) (y := 4) rfl (by decide) (by decide) (by decide) hG)
                obtain ⟨M30, eM30⟩ : ∃ m : Mem, m = (mset M 3 1 4) := ⟨_, rfl⟩
                rw [← eM30] at hG29 ⊢
                replace H := H M30 eM30
                exact T_vret dX9_next_204 rfl ⟨rfl, hG29, H⟩
    · skip
      replace H := H.1 c17
      refine T_aload_n (i := 0) (pc' := 153) dX9_next_152 rfl rfl rfl ?_
      refine T_dup (pc' := 154) dX9_next_153 (Nat.ne_of_beq_eq_false rfl) rfl ?_
      refine U_gf (v := (0, (M 3 3))) (k := 3) (kI := 3) (pc' := 157) dX9_next_154 rfl cl9 (by decide) rfl (by decide) flX9_22 rfl rfl (by decide) rfl rfl ?_
      refine T_iconst (pc' := 158) dX9_next_157 (by decide) rfl ?_
      refine T_iadd (pc' := 159) dX9_next_158 rfl ?_
      refine U_pf (y := (wr32 ((M 3 3) + 1))) (k := 3) (kI := 3) (pc' := 162) dX9_next_159 rfl cl9 (by decide) rfl (by decide) flX9_22 rfl rfl rfl rfl rfl (by decide) (fun z => z) rfl ?_
      have hG31 := (G_fld (x := 3) (i := 3) (y := (wr32 ((M 3 3) + 1))) rfl (by decide) (by decide) (by decide) hG)
      obtain ⟨M32, eM32⟩ : ∃ m : Mem, m = (mset M 3 3 (wr32 ((M 3 3) + 1))) := ⟨_, rfl⟩
      rw [← eM32] at hG31 ⊢
      replace H := H M32 eM32
      refine T_goto (pc' := 117) dX9_next_162 (by decide) ?_
      exact T_wk (H hG31) ⟨Or.inr rfl, Or.inr rfl, Or.inr rfl, trivial⟩
theorem eX9_next {E : EV} {h : Int} {M : Mem} {Q : Option MV → Mem → Prop}  (H : G h M → TG E miX9_next 2 h Q 0 [(2, 3), (3, 0), (3, 0)] [] M) : C2 E miX9_next 2 h [(2, 3)] M Q :=
  C2_of (by decide +kernel) (Nat.le_of_ble_eq_true rfl) rfl H
set_option maxRecDepth 100000 in
set_option maxHeartbeats 2000000 in
theorem wX9_takeNumber_0 {E : EV} {h : Int} {M : Mem} {Q : Option MV → Mem → Prop} {v1 : Int} {v2 : Int} {v3 : Int}  (H : (((M 3 1) = 2 → (((fX9_letters M) ≤ 4 → (G h M → TG E miX9_takeNumber 3 h Q 43 [(2, 3), (0, v1), (0, v2), (0, v3), (0, 0), (0, 0)] [] M)) ∧ (¬ ((fX9_letters M) ≤ 4) → (∀ M5 : Mem, M5 = (fmX9_fail M 1 (wr32 ((M 3 2) + 4))) → Q (some (0, (-1))) M5)))) ∧ (¬ ((M 3 1) = 2) → (∀ M7 : Mem, M7 = (fmX9_unasked M) → Q (some (0, (-1))) M7)))) : G h M → TG E miX9_takeNumber 3 h Q 0 [(2, 3), (0, v1), (0, v2), (0, v3), (3, 0), (3, 0)] [] M := by
  intro hG
  refine T_aload_n (i := 0) (pc' := 1) dX9_takeNumber_0 rfl rfl rfl ?_
  refine U_gf (v := (0, (M 3 1))) (k := 1) (kI := 1) (pc' := 4) dX9_takeNumber_1 rfl cl9 (by decide) rfl (by decide) flX9_15 rfl rfl (by decide) rfl rfl ?_
  refine T_iconst (pc' := 5) dX9_takeNumber_4 (by decide) rfl ?_
  refine T_icmp_eq (pc' := 15) dX9_takeNumber_5 (by decide) (pf := 8) rfl (fun c1 => ?_) (fun c1 => ?_)
  · skip
    replace H := H.1 c1
    refine T_aload_n (i := 0) (pc' := 16) dX9_takeNumber_15 rfl rfl rfl ?_
    refine T_callV (av := []) (st := []) (d2 := 1) (nc2 := 0) (ns2 := 0) (pc' := 19) dX9_takeNumber_16 rfl mtX9_letters mvX9_letters mlX9_63 cl9 rfl rfl rfl (Nat.le_of_ble_eq_true rfl) (by decide) ⟨by decide, by decide⟩ rfl (pX9_letters (E := E) (h := h) (M := M) hG) (kF (st2 := [(0, (fX9_letters M))]) rfl (fun hG2 => ?_))
    refine T_iconst (pc' := 20) dX9_takeNumber_19 (by decide) rfl ?_
    refine T_icmp_le (pc' := 37) dX9_takeNumber_20 (by decide) (pf := 23) rfl (fun c3 => ?_) (fun c3 => ?_)
    · skip
      replace H := H.1 c3
      refine T_iconst (pc' := 38) dX9_takeNumber_37 (by decide) rfl ?_
      refine T_istore (i := 4) (L' := [(2, 3), (0, v1), (0, v2), (0, v3), (0, 0), (3, 0)]) (pc' := 40) dX9_takeNumber_38 (by decide) rfl rfl ?_
      refine T_iconst (pc' := 41) dX9_takeNumber_40 (by decide) rfl ?_
      refine T_istore (i := 5) (L' := [(2, 3), (0, v1), (0, v2), (0, v3), (0, 0), (0, 0)]) (pc' := 43) dX9_takeNumber_41 (by decide) rfl rfl ?_
      exact T_wk (H hG) ⟨Or.inr rfl, Or.inr rfl, Or.inr rfl, Or.inr rfl, Or.inr rfl, Or.inr rfl, trivial⟩
    · skip
      replace H := H.2 c3
      refine T_aload_n (i := 0) (pc' := 24) dX9_takeNumber_23 rfl rfl rfl ?_
      refine T_iconst (pc' := 25) dX9_takeNumber_24 (by decide) rfl ?_
      refine T_aload_n (i := 0) (pc' := 26) dX9_takeNumber_25 rfl rfl rfl ?_
      refine U_gf (v := (0, (M 3 2))) (k := 2) (kI := 2) (pc' := 29) dX9_takeNumber_26 rfl cl9 (by decide) rfl (by decide) flX9_19 rfl rfl (by decide) rfl rfl ?_
      refine T_iconst (pc' := 30) dX9_takeNumber_29 (by decide) rfl ?_
      refine T_iadd (pc' := 31) dX9_takeNumber_30 rfl ?_
      refine T_callV (av := [(0, 1), (0, (wr32 ((M 3 2) + 4)))]) (st := []) (d2 := 1) (nc2 := 0) (ns2 := 0) (pc' := 34) dX9_takeNumber_31 rfl mtX9_fail mvX9_fail mlX9_50 cl9 rfl rfl rfl (Nat.le_of_ble_eq_true rfl) (by decide) ⟨by decide, by decide⟩ rfl (pX9_fail (E := E) (h := h) (M := M) (v1 := 1) (v2 := (wr32 ((M 3 2) + 4))) hG) (kF (st2 := [(0, fX9_fail)]) rfl (fun hG4 => ?_))
      obtain ⟨M5, eM5⟩ : ∃ m : Mem, m = (fmX9_fail M 1 (wr32 ((M 3 2) + 4))) := ⟨_, rfl⟩
      rw [← eM5] at hG4 ⊢
      replace H := H M5 eM5
      refine T_pop (pc' := 35) dX9_takeNumber_34 (Nat.ne_of_beq_eq_false rfl) rfl ?_
      refine T_iconst (pc' := 36) dX9_takeNumber_35 (by decide) rfl ?_
      exact T_iret dX9_takeNumber_36 rfl ⟨rfl, hG4, H⟩
  · skip
    replace H := H.2 c1
    refine T_aload_n (i := 0) (pc' := 9) dX9_takeNumber_8 rfl rfl rfl ?_
    refine T_callV (av := []) (st := []) (d2 := 2) (nc2 := 0) (ns2 := 0) (pc' := 12) dX9_takeNumber_9 rfl mtX9_unasked mvX9_unasked mlX9_70 cl9 rfl rfl rfl (Nat.le_of_ble_eq_true rfl) (by decide) ⟨by decide, by decide⟩ rfl (pX9_unasked (E := E) (h := h) (M := M) hG) (kF (st2 := [(0, fX9_unasked)]) rfl (fun hG6 => ?_))
    obtain ⟨M7, eM7⟩ : ∃ m : Mem, m = (fmX9_unasked M) := ⟨_, rfl⟩
    rw [← eM7] at hG6 ⊢
    replace H := H M7 eM7
    refine T_pop (pc' := 13) dX9_takeNumber_12 (Nat.ne_of_beq_eq_false rfl) rfl ?_
    refine T_iconst (pc' := 14) dX9_takeNumber_13 (by decide) rfl ?_
    exact T_iret dX9_takeNumber_14 rfl ⟨rfl, hG6, H⟩
set_option maxRecDepth 100000 in
set_option maxHeartbeats 2000000 in
theorem wX9_takeNumber_43 {E : EV} {h : Int} {M : Mem} {Q : Option MV → Mem → Prop} {v1 : Int} {v2 : Int} {v3 : Int} {v4 : Int} {v5 : Int}  (H : (((fX9_letters M) ≤ v5 → ((v4 < v1 → (∀ M5 : Mem, M5 = (fmX9_fail M 2 v3) → Q (some (0, (-1))) M5)) ∧ (¬ (v4 < v1) → ((v4 ≤ v2 → C2 E miX9_next 2 h [(2, 3)] M (fun r M7 => r = none ∧ Q (some (0, v4)) M7)) ∧ (¬ (v4 ≤ v2) → (∀ M11 : Mem, M11 = (fmX9_fail M 2 v3) → Q (some (0, (-1))) M11)))))) ∧ (¬ ((fX9_letters M) ≤ v5) → (G h M → TG E miX9_takeNumber 3 h Q 43 [(2, 3), (0, v1), (0, v2), (0, v3), (0, (wr32 ((wr32 ((wr32 (10 * v4)) + (fX8_byteAt M (wr32 ((M 3 2) + v5))))) - 48))), (0, (wr32 (v5 + 1)))] [] M)))) : G h M → TG E miX9_takeNumber 3 h Q 43 [(2, 3), (0, v1), (0, v2), (0, v3), (0, v4), (0, v5)] [] M := by
  intro hG
  refine T_iload (i := 5) (pc' := 45) dX9_takeNumber_43 rfl rfl ?_
  refine T_aload_n (i := 0) (pc' := 46) dX9_takeNumber_45 rfl rfl rfl ?_
  refine T_callV (av := []) (st := [(0, v5)]) (d2 := 1) (nc2 := 0) (ns2 := 0) (pc' := 49) dX9_takeNumber_46 rfl mtX9_letters mvX9_letters mlX9_63 cl9 rfl rfl rfl (Nat.le_of_ble_eq_true rfl) (by decide) ⟨by decide, by decide⟩ rfl (pX9_letters (E := E) (h := h) (M := M) hG) (kF (st2 := [(0, (fX9_letters M)), (0, v5)]) rfl (fun hG1 => ?_))
  refine T_icmp_ge (pc' := 83) dX9_takeNumber_49 (by decide) (pf := 52) rfl (fun c2 => ?_) (fun c2 => ?_)
  · skip
    replace H := H.1 c2
    refine T_iload (i := 4) (pc' := 85) dX9_takeNumber_83 rfl rfl ?_
    refine T_iload_n (i := 1) (pc' := 86) dX9_takeNumber_85 rfl rfl rfl ?_
    refine T_icmp_lt (pc' := 95) dX9_takeNumber_86 (by decide) (pf := 89) rfl (fun c3 => ?_) (fun c3 => ?_)
    · skip
      replace H := H.1 c3
      refine T_aload_n (i := 0) (pc' := 96) dX9_takeNumber_95 rfl rfl rfl ?_
      refine T_iconst (pc' := 97) dX9_takeNumber_96 (by decide) rfl ?_
      refine T_iload_n (i := 3) (pc' := 98) dX9_takeNumber_97 rfl rfl rfl ?_
      refine T_callV (av := [(0, 2), (0, v3)]) (st := []) (d2 := 1) (nc2 := 0) (ns2 := 0) (pc' := 101) dX9_takeNumber_98 rfl mtX9_fail mvX9_fail mlX9_50 cl9 rfl rfl rfl (Nat.le_of_ble_eq_true rfl) (by decide) ⟨by decide, by decide⟩ rfl (pX9_fail (E := E) (h := h) (M := M) (v1 := 2) (v2 := v3) hG) (kF (st2 := [(0, fX9_fail)]) rfl (fun hG4 => ?_))
      obtain ⟨M5, eM5⟩ : ∃ m : Mem, m = (fmX9_fail M 2 v3) := ⟨_, rfl⟩
      rw [← eM5] at hG4 ⊢
      replace H := H M5 eM5
      refine T_pop (pc' := 102) dX9_takeNumber_101 (Nat.ne_of_beq_eq_false rfl) rfl ?_
      refine T_iconst (pc' := 103) dX9_takeNumber_102 (by decide) rfl ?_
      exact T_iret dX9_takeNumber_103 rfl ⟨rfl, hG4, H⟩
    · skip
      replace H := H.2 c3
      refine T_iload (i := 4) (pc' := 91) dX9_takeNumber_89 rfl rfl ?_
      refine T_iload_n (i := 2) (pc' := 92) dX9_takeNumber_91 rfl rfl rfl ?_
      refine T_icmp_le (pc' := 104) dX9_takeNumber_92 (by decide) (pf := 95) rfl (fun c6 => ?_) (fun c6 => ?_)
      · skip
        replace H := H.1 c6
        refine T_aload_n (i := 0) (pc' := 105) dX9_takeNumber_104 rfl rfl rfl ?_
        refine T_callV (av := []) (st := []) (d2 := 2) (nc2 := 0) (ns2 := 0) (pc' := 108) dX9_takeNumber_105 rfl mtX9_next mvX9_next mlX9_31 cl9 rfl rfl rfl (Nat.le_of_ble_eq_true rfl) (by decide) ⟨by decide, by decide⟩ rfl (H hG) ?_
        rintro _ _ M7 ⟨rfl, hG9, rfl, H⟩ _
        refine T_iload (i := 4) (pc' := 110) dX9_takeNumber_108 rfl rfl ?_
        exact T_iret dX9_takeNumber_110 rfl ⟨rfl, hG9, H⟩
      · skip
        replace H := H.2 c6
        refine T_aload_n (i := 0) (pc' := 96) dX9_takeNumber_95 rfl rfl rfl ?_
        refine T_iconst (pc' := 97) dX9_takeNumber_96 (by decide) rfl ?_
        refine T_iload_n (i := 3) (pc' := 98) dX9_takeNumber_97 rfl rfl rfl ?_
        refine T_callV (av := [(0, 2), (0, v3)]) (st := []) (d2 := 1) (nc2 := 0) (ns2 := 0) (pc' := 101) dX9_takeNumber_98 rfl mtX9_fail mvX9_fail mlX9_50 cl9 rfl rfl rfl (Nat.le_of_ble_eq_true rfl) (by decide) ⟨by decide, by decide⟩ rfl (pX9_fail (E := E) (h := h) (M := M) (v1 := 2) (v2 := v3) hG) (kF (st2 := [(0, fX9_fail)]) rfl (fun hG10 => ?_))
        obtain ⟨M11, eM11⟩ : ∃ m : Mem, m = (fmX9_fail M 2 v3) := ⟨_, rfl⟩
        rw [← eM11] at hG10 ⊢
        replace H := H M11 eM11
        refine T_pop (pc' := 102) dX9_takeNumber_101 (Nat.ne_of_beq_eq_false rfl) rfl ?_
        refine T_iconst (pc' := 103) dX9_takeNumber_102 (by decide) rfl ?_
        exact T_iret dX9_takeNumber_103 rfl ⟨rfl, hG10, H⟩
  · skip
    replace H := H.2 c2
    refine T_bipush (pc' := 54) dX9_takeNumber_52 rfl (by decide) rfl ?_
    refine T_iload (i := 4) (pc' := 56) dX9_takeNumber_54 rfl rfl ?_
    refine T_imul (pc' := 57) dX9_takeNumber_56 rfl ?_
    refine T_aload_n (i := 0) (pc' := 58) dX9_takeNumber_57 rfl rfl rfl ?_
    refine U_gr (q := 1) (k := 0) (kI := 0) (pc' := 61) dX9_takeNumber_58 rfl cl9 (by decide) rfl (by decide) flX9_9 rfl rfl rfl (G_at hG 10 rfl) (by decide) rfl ?_
    refine T_aload_n (i := 0) (pc' := 62) dX9_takeNumber_61 rfl rfl rfl ?_
    refine U_gf (v := (0, (M 3 2))) (k := 2) (kI := 2) (pc' := 65) dX9_takeNumber_62 rfl cl9 (by decide) rfl (by decide) flX9_19 rfl rfl (by decide) rfl rfl ?_
    refine T_iload (i := 5) (pc' := 67) dX9_takeNumber_65 rfl rfl ?_
    refine T_iadd (pc' := 68) dX9_takeNumber_67 rfl ?_
    refine T_callV (av := [(0, (wr32 ((M 3 2) + v5)))]) (st := [(0, (wr32 (10 * v4)))]) (d2 := 1) (nc2 := 0) (ns2 := 0) (pc' := 71) dX9_takeNumber_68 rfl mtX8_byteAt mvX8_byteAt mlX9_39 cl8 rfl rfl rfl (Nat.le_of_ble_eq_true rfl) (by decide) ⟨by decide, by decide⟩ rfl (pX8_byteAt (E := E) (h := h) (M := M) (v1 := (wr32 ((M 3 2) + v5))) hG) (kF (st2 := [(0, (fX8_byteAt M (wr32 ((M 3 2) + v5)))), (0, (wr32 (10 * v4)))]) rfl (fun hG12 => ?_))
    refine T_iadd (pc' := 72) dX9_takeNumber_71 rfl ?_
    refine T_bipush (pc' := 74) dX9_takeNumber_72 rfl (by decide) rfl ?_
    refine T_isub (pc' := 75) dX9_takeNumber_74 rfl ?_
    refine T_istore (i := 4) (L' := [(2, 3), (0, v1), (0, v2), (0, v3), (0, (wr32 ((wr32 ((wr32 (10 * v4)) + (fX8_byteAt M (wr32 ((M 3 2) + v5))))) - 48))), (0, v5)]) (pc' := 77) dX9_takeNumber_75 (by decide) rfl rfl ?_
    refine T_iinc (L' := [(2, 3), (0, v1), (0, v2), (0, v3), (0, (wr32 ((wr32 ((wr32 (10 * v4)) + (fX8_byteAt M (wr32 ((M 3 2) + v5))))) - 48))), (0, (wr32 (v5 + 1)))]) (pc' := 80) dX9_takeNumber_77 rfl (by decide) rfl rfl ?_
    refine T_goto (pc' := 43) dX9_takeNumber_80 (by decide) ?_
    exact T_wk (H hG) ⟨Or.inr rfl, Or.inr rfl, Or.inr rfl, Or.inr rfl, Or.inr rfl, Or.inr rfl, trivial⟩
theorem eX9_takeNumber {E : EV} {h : Int} {M : Mem} {Q : Option MV → Mem → Prop} {v1 : Int} {v2 : Int} {v3 : Int} (H : G h M → TG E miX9_takeNumber 3 h Q 0 [(2, 3), (0, v1), (0, v2), (0, v3), (3, 0), (3, 0)] [] M) : C2 E miX9_takeNumber 3 h [(2, 3), (0, v1), (0, v2), (0, v3)] M Q :=
  C2_of (by decide +kernel) (Nat.le_of_ble_eq_true rfl) rfl H
set_option maxRecDepth 100000 in
set_option maxHeartbeats 2000000 in
theorem wX10_weightOf_0 {E : EV} {h : Int} {M : Mem} {Q : Option MV → Mem → Prop} {g : Int} {v1 : Int} (hg : isG g) (H : (G h M → TG E miX10_weightOf 2 h Q 5 [(2, (g + 1)), (0, v1), (1, 1), (3, 0), (0, 0), (3, 0)] [] M)) : G h M → TG E miX10_weightOf 2 h Q 0 [(2, (g + 1)), (0, v1), (3, 0), (3, 0), (3, 0), (3, 0)] [] M := by
  intro hG
  refine T_lconst (v := 1) (pc' := 1) dX10_weightOf_0 rfl (by decide) rfl ?_
  refine T_lstore_n (i := 2) (L' := [(2, (g + 1)), (0, v1), (1, 1), (3, 0), (3, 0), (3, 0)]) (pc' := 2) dX10_weightOf_1 rfl (by decide) rfl rfl ?_
  refine T_iconst (pc' := 3) dX10_weightOf_2 (by decide) rfl ?_
  refine T_istore (i := 4) (L' := [(2, (g + 1)), (0, v1), (1, 1), (3, 0), (0, 0), (3, 0)]) (pc' := 5) dX10_weightOf_3 (by decide) rfl rfl ?_
  exact T_wk (H hG) ⟨Or.inr rfl, Or.inr rfl, Or.inr rfl, Or.inl rfl, Or.inr rfl, Or.inl rfl, trivial⟩
set_option maxRecDepth 100000 in
set_option maxHeartbeats 2000000 in
theorem wX10_weightOf_5 {E : EV} {h : Int} {M : Mem} {Q : Option MV → Mem → Prop} {g : Int} {v1 : Int} {v2 : Int} {v4 : Int} (hg : isG g) (H : (((M (g + 1) 8) ≤ v4 → Q (some (1, v2)) M) ∧ (¬ ((M (g + 1) 8) ≤ v4) → (G h M → TG E miX10_weightOf 2 h Q 5 [(2, (g + 1)), (0, v1), (1, (wr64 (v2 * (if (fX11_hasBit v1 v4) = 0 then (wr32 (4 - (fX11_get M (g + 6) 9 v4))) else (fX11_get M (g + 6) 9 v4))))), (3, 0), (0, (wr32 (v4 + 1))), (3, 0)] [] M)))) : G h M → TG E miX10_weightOf 2 h Q 5 [(2, (g + 1)), (0, v1), (1, v2), (3, 0), (0, v4), (3, 0)] [] M := by
  intro hG
  refine T_iload (i := 4) (pc' := 7) dX10_weightOf_5 rfl rfl ?_
  refine T_aload_n (i := 0) (pc' := 8) dX10_weightOf_7 rfl rfl rfl ?_
  refine U_gfN (v := (0, (M (g + 1) 8))) (k := 8) (kI := 8) (pc' := 11) dX10_weightOf_8 rfl cl4 (pog1 hg) (shg1 hg) (by decide) flX10_66 rfl rfl (by decide) rfl rfl ?_
  refine T_icmp_ge (pc' := 54) dX10_weightOf_11 (by decide) (pf := 14) rfl (fun c1 => ?_) (fun c1 => ?_)
  · skip
    replace H := H.1 c1
    refine T_lload_n (i := 2) (pc' := 55) dX10_weightOf_54 rfl rfl rfl ?_
    exact T_lret dX10_weightOf_55 rfl ⟨rfl, hG, H⟩
  · skip
    replace H := H.2 c1
    refine T_aload_n (i := 0) (pc' := 15) dX10_weightOf_14 rfl rfl rfl ?_
    refine U_grN (q := (g + 6)) (k := 4) (kI := 4) (pc' := 18) dX10_weightOf_15 rfl cl4 (pog1 hg) (shg1 hg) (by decide) flX10_69 rfl rfl rfl (grg1_4 hg hG) (pog6 hg) rfl ?_
    refine T_iload (i := 4) (pc' := 20) dX10_weightOf_18 rfl rfl ?_
    refine T_callSN (av := [(2, (g + 6)), (0, v4)]) (st := []) (d2 := 1) (nc2 := 0) (ns2 := 0) (pc' := 23) dX10_weightOf_20 rfl mtX11_get mvX11_get mlX10_72 rfl rfl (Nat.le_of_ble_eq_true rfl) (by decide) ⟨by decide, by decide⟩ rfl (pX11_get (E := E) (h := h) (M := M) (p0 := (g + 6)) (np0 := 9) (v1 := v4) (pog6 hg) (shg6 hg) (by decide) hG) (kF (st2 := [(0, (fX11_get M (g + 6) 9 v4))]) rfl (fun hG2 => ?_))
    refine T_istore (i := 5) (L' := [(2, (g + 1)), (0, v1), (1, v2), (3, 0), (0, v4), (0, (fX11_get M (g + 6) 9 v4))]) (pc' := 25) dX10_weightOf_23 (by decide) rfl rfl ?_
    refine T_lload_n (i := 2) (pc' := 26) dX10_weightOf_25 rfl rfl rfl ?_
    refine T_iload_n (i := 1) (pc' := 27) dX10_weightOf_26 rfl rfl rfl ?_
    refine T_iload (i := 4) (pc' := 29) dX10_weightOf_27 rfl rfl ?_
    refine T_callSN (av := [(0, v1), (0, v4)]) (st := [(1, v2)]) (d2 := 1) (nc2 := 0) (ns2 := 0) (pc' := 32) dX10_weightOf_29 rfl mtX11_hasBit mvX11_hasBit mlX10_76 rfl rfl (Nat.le_of_ble_eq_true rfl) (by decide) ⟨by decide, by decide⟩ rfl (pX11_hasBit (E := E) (h := h) (M := M) (v0 := v1) (v1 := v4) hG) (kF (st2 := [(0, (fX11_hasBit v1 v4)), (1, v2)]) rfl (fun hG3 => ?_))
    have HJ4 : T E miX10_weightOf 2 126 0 0 (fun r S M' => S = S0 ∧ G h M' ∧ Q r M') 46 [(2, (g + 1)), (0, v1), (3, 0), (3, 0), (0, v4), (3, 0)] [(1, (if (fX11_hasBit v1 v4) = 0 then (wr32 (4 - (fX11_get M (g + 6) 9 v4))) else (fX11_get M (g + 6) 9 v4))), (1, v2)] S0 M 0 0 := by
      refine T_lmul (pc' := 47) dX10_weightOf_46 rfl ?_
      refine T_lstore_n (i := 2) (L' := [(2, (g + 1)), (0, v1), (1, (wr64 (v2 * (if (fX11_hasBit v1 v4) = 0 then (wr32 (4 - (fX11_get M (g + 6) 9 v4))) else (fX11_get M (g + 6) 9 v4))))), (3, 0), (0, v4), (3, 0)]) (pc' := 48) dX10_weightOf_47 rfl (by decide) rfl rfl ?_
      refine T_iinc (L' := [(2, (g + 1)), (0, v1), (1, (wr64 (v2 * (if (fX11_hasBit v1 v4) = 0 then (wr32 (4 - (fX11_get M (g + 6) 9 v4))) else (fX11_get M (g + 6) 9 v4))))), (3, 0), (0, (wr32 (v4 + 1))), (3, 0)]) (pc' := 51) dX10_weightOf_48 rfl (by decide) rfl rfl ?_
      refine T_goto (pc' := 5) dX10_weightOf_51 (by decide) ?_
      exact T_wk (H hG) ⟨Or.inr rfl, Or.inr rfl, Or.inr rfl, Or.inl rfl, Or.inr rfl, Or.inl rfl, trivial⟩
    refine T_if_eq (pc' := 41) dX10_weightOf_32 (by decide) (pf := 35) rfl (fun c5 => ?_) (fun c5 => ?_)
    · skip
      refine T_iconst (pc' := 42) dX10_weightOf_41 (by decide) rfl ?_
      refine T_iload (i := 5) (pc' := 44) dX10_weightOf_42 rfl rfl ?_
      refine T_isub (pc' := 45) dX10_weightOf_44 rfl ?_
      refine T_i2l (pc' := 46) dX10_weightOf_45 rfl ?_
      exact T_wk (L' := [(2, (g + 1)), (0, v1), (3, 0), (3, 0), (0, v4), (3, 0)]) (by have q := HJ4; try simp only [if_pos c5] at q; exact q) ⟨Or.inr rfl, Or.inr rfl, Or.inl rfl, Or.inl rfl, Or.inr rfl, Or.inl rfl, trivial⟩
    · skip
      refine T_iload (i := 5) (pc' := 37) dX10_weightOf_35 rfl rfl ?_
      refine T_i2l (pc' := 38) dX10_weightOf_37 rfl ?_
      refine T_goto (pc' := 46) dX10_weightOf_38 (by decide) ?_
      exact T_wk (L' := [(2, (g + 1)), (0, v1), (3, 0), (3, 0), (0, v4), (3, 0)]) (by have q := HJ4; try simp only [if_neg c5] at q; exact q) ⟨Or.inr rfl, Or.inr rfl, Or.inl rfl, Or.inl rfl, Or.inr rfl, Or.inl rfl, trivial⟩
theorem eX10_weightOf {E : EV} {h : Int} {M : Mem} {Q : Option MV → Mem → Prop} {g : Int} {v1 : Int} (H : G h M → TG E miX10_weightOf 2 h Q 0 [(2, (g + 1)), (0, v1), (3, 0), (3, 0), (3, 0), (3, 0)] [] M) : C2 E miX10_weightOf 2 h [(2, (g + 1)), (0, v1)] M Q :=
  C2_of (by decide +kernel) (Nat.le_of_ble_eq_true rfl) rfl H
set_option maxRecDepth 100000 in
set_option maxHeartbeats 2000000 in
theorem wX11_lot_0 {E : EV} {h : Int} {M : Mem} {Q : Option MV → Mem → Prop}   (H : (G h M → TG E miX11_lot 2 h Q 4 [(2, 0), (0, 0), (0, 0)] [] M)) : G h M → TG E miX11_lot 2 h Q 0 [(2, 0), (3, 0), (3, 0)] [] M := by
  intro hG
  refine T_iconst (pc' := 1) dX11_lot_0 (by decide) rfl ?_
  refine T_istore_n (i := 1) (L' := [(2, 0), (0, 0), (3, 0)]) (pc' := 2) dX11_lot_1 rfl (by decide) rfl rfl ?_
  refine T_iconst (pc' := 3) dX11_lot_2 (by decide) rfl ?_
  refine T_istore_n (i := 2) (L' := [(2, 0), (0, 0), (0, 0)]) (pc' := 4) dX11_lot_3 rfl (by decide) rfl rfl ?_
  exact T_wk (H hG) ⟨Or.inr rfl, Or.inr rfl, Or.inr rfl, trivial⟩
set_option maxRecDepth 100000 in
set_option maxHeartbeats 2000000 in
theorem wX11_lot_4 {E : EV} {h : Int} {M : Mem} {Q : Option MV → Mem → Prop} {v1 : Int} {v2 : Int}  (H : (((M (h + 1) 8) ≤ v2 → (∀ M3 : Mem, M3 = (mset M 0 12 v1) → (∀ M5 : Mem, M5 = (fmX11_changed M3 0) → Q (some (0, v1)) M5))) ∧ (¬ ((M (h + 1) 8) ≤ v2) → (∀ M7 : Mem, M7 = (fmX11_draw M) → (G h M7 → TG E miX11_lot 2 h Q 4 [(2, 0), (0, (if (fX11_get M7 (h + 6) 9 v2) ≤ (fX11_draw M 4) then v1 else (m_or v1 (m_shl 1 v2)))), (0, (wr32 (v2 + 1)))] [] M7))))) : G h M → TG E miX11_lot 2 h Q 4 [(2, 0), (0, v1), (0, v2)] [] M := by
  intro hG
  have hh := hG.2.2.2
  refine T_iload_n (i := 2) (pc' := 5) dX11_lot_4 rfl rfl rfl ?_
  refine T_aload_n (i := 0) (pc' := 6) dX11_lot_5 rfl rfl rfl ?_
  refine U_gr (q := h) (k := 10) (kI := 10) (pc' := 9) dX11_lot_6 rfl cl11 (by decide) rfl (by decide) flX11_82 rfl rfl rfl hG.2.1 (pog0 hh) rfl ?_
  refine U_grN (q := (h + 1)) (k := 0) (kI := 0) (pc' := 12) dX11_lot_9 rfl cl1 (pog0 hh) (shg0 hh) (by decide) flX11_129 rfl rfl rfl (grg0_0 hh hG) (pog1 hh) rfl ?_
  refine U_gfN (v := (0, (M (h + 1) 8))) (k := 8) (kI := 8) (pc' := 15) dX11_lot_12 rfl cl4 (pog1 hh) (shg1 hh) (by decide) flX11_164 rfl rfl (by decide) rfl rfl ?_
  refine T_icmp_ge (pc' := 52) dX11_lot_15 (by decide) (pf := 18) rfl (fun c1 => ?_) (fun c1 => ?_)
  · skip
    replace H := H.1 c1
    refine T_aload_n (i := 0) (pc' := 53) dX11_lot_52 rfl rfl rfl ?_
    refine T_iload_n (i := 1) (pc' := 54) dX11_lot_53 rfl rfl rfl ?_
    refine U_pf (y := v1) (k := 12) (kI := 12) (pc' := 57) dX11_lot_54 rfl cl11 (by decide) rfl (by decide) flX11_89 rfl rfl rfl rfl rfl (by decide) (fun z => z) rfl ?_
    have hG2 := (G_fld (x := 0) (i := 12) (y := v1) rfl (by decide) (by decide) (by decide) hG)
    obtain ⟨M3, eM3⟩ : ∃ m : Mem, m = (mset M 0 12 v1) := ⟨_, rfl⟩
    rw [← eM3] at hG2 ⊢
    replace H := H M3 eM3
    refine T_aload_n (i := 0) (pc' := 58) dX11_lot_57 rfl rfl rfl ?_
    refine T_iconst (pc' := 59) dX11_lot_58 (by decide) rfl ?_
    refine T_callV (av := [(0, 0)]) (st := []) (d2 := 1) (nc2 := 0) (ns2 := 0) (pc' := 62) dX11_lot_59 rfl mtX11_changed mvX11_changed mlX11_142 cl11 rfl rfl rfl (Nat.le_of_ble_eq_true rfl) (by decide) ⟨by decide, by decide⟩ rfl (pX11_changed (E := E) (h := h) (M := M3) (v1 := 0) hG2) (kF (st2 := []) rfl (fun hG4 => ?_))
    obtain ⟨M5, eM5⟩ : ∃ m : Mem, m = (fmX11_changed M3 0) := ⟨_, rfl⟩
    rw [← eM5] at hG4 ⊢
    replace H := H M5 eM5
    refine T_iload_n (i := 1) (pc' := 63) dX11_lot_62 rfl rfl rfl ?_
    exact T_iret dX11_lot_63 rfl ⟨rfl, hG4, H⟩
  · skip
    replace H := H.2 c1
    refine T_aload_n (i := 0) (pc' := 19) dX11_lot_18 rfl rfl rfl ?_
    refine T_iconst (pc' := 20) dX11_lot_19 (by decide) rfl ?_
    refine T_callV (av := [(0, 4)]) (st := []) (d2 := 1) (nc2 := 0) (ns2 := 0) (pc' := 23) dX11_lot_20 rfl mtX11_draw mvX11_draw mlX11_324 cl11 rfl rfl rfl (Nat.le_of_ble_eq_true rfl) (by decide) ⟨by decide, by decide⟩ rfl (pX11_draw (E := E) (h := h) (M := M) (v1 := 4) hG) (kF (st2 := [(0, (fX11_draw M 4))]) rfl (fun hG6 => ?_))
    obtain ⟨M7, eM7⟩ : ∃ m : Mem, m = (fmX11_draw M) := ⟨_, rfl⟩
    rw [← eM7] at hG6 ⊢
    replace H := H M7 eM7
    refine T_aload_n (i := 0) (pc' := 24) dX11_lot_23 rfl rfl rfl ?_
    refine U_gr (q := h) (k := 10) (kI := 10) (pc' := 27) dX11_lot_24 rfl cl11 (by decide) rfl (by decide) flX11_82 rfl rfl rfl hG6.2.1 (pog0 hh) rfl ?_
    refine U_grN (q := (h + 1)) (k := 0) (kI := 0) (pc' := 30) dX11_lot_27 rfl cl1 (pog0 hh) (shg0 hh) (by decide) flX11_129 rfl rfl rfl (grg0_0 hh hG6) (pog1 hh) rfl ?_
    refine U_grN (q := (h + 6)) (k := 4) (kI := 4) (pc' := 33) dX11_lot_30 rfl cl4 (pog1 hh) (shg1 hh) (by decide) flX11_212 rfl rfl rfl (grg1_4 hh hG6) (pog6 hh) rfl ?_
    refine T_iload_n (i := 2) (pc' := 34) dX11_lot_33 rfl rfl rfl ?_
    refine T_callS (av := [(2, (h + 6)), (0, v2)]) (st := [(0, (fX11_draw M 4))]) (d2 := 1) (nc2 := 0) (ns2 := 0) (pc' := 37) dX11_lot_34 rfl mtX11_get mvX11_get mlX11_189 rfl rfl (Nat.le_of_ble_eq_true rfl) (by decide) ⟨by decide, by decide⟩ rfl (pX11_get (E := E) (h := h) (M := M7) (p0 := (h + 6)) (np0 := 9) (v1 := v2) (pog6 hh) (shg6 hh) (by decide) hG6) (kF (st2 := [(0, (fX11_get M7 (h + 6) 9 v2)), (0, (fX11_draw M 4))]) rfl (fun hG8 => ?_))
    have HJ9 : T E miX11_lot 2 126 0 0 (fun r S M' => S = S0 ∧ G h M' ∧ Q r M') 46 [(2, 0), (0, (if (fX11_get M7 (h + 6) 9 v2) ≤ (fX11_draw M 4) then v1 else (m_or v1 (m_shl 1 v2)))), (0, v2)] [] S0 M7 0 0 := by
      refine T_iinc (L' := [(2, 0), (0, (if (fX11_get M7 (h + 6) 9 v2) ≤ (fX11_draw M 4) then v1 else (m_or v1 (m_shl 1 v2)))), (0, (wr32 (v2 + 1)))]) (pc' := 49) dX11_lot_46 rfl (by decide) rfl rfl ?_
      refine T_goto (pc' := 4) dX11_lot_49 (by decide) ?_
      exact T_wk (H hG6) ⟨Or.inr rfl, Or.inr rfl, Or.inr rfl, trivial⟩
    refine T_icmp_ge (pc' := 46) dX11_lot_37 (by decide) (pf := 40) rfl (fun c10 => ?_) (fun c10 => ?_)
    · skip
      exact T_wk (L' := [(2, 0), (0, v1), (0, v2)]) (by have q := HJ9; try simp only [if_pos c10] at q; exact q) ⟨Or.inr rfl, Or.inr rfl, Or.inr rfl, trivial⟩
    · skip
      refine T_iload_n (i := 1) (pc' := 41) dX11_lot_40 rfl rfl rfl ?_
      refine T_iconst (pc' := 42) dX11_lot_41 (by decide) rfl ?_
      refine T_iload_n (i := 2) (pc' := 43) dX11_lot_42 rfl rfl rfl ?_
      refine T_ishl (pc' := 44) dX11_lot_43 rfl ?_
      refine T_ior (pc' := 45) dX11_lot_44 rfl ?_
      refine T_istore_n (i := 1) (L' := [(2, 0), (0, (m_or v1 (m_shl 1 v2))), (0, v2)]) (pc' := 46) dX11_lot_45 rfl (by decide) rfl rfl ?_
      exact T_wk (L' := [(2, 0), (0, (m_or v1 (m_shl 1 v2))), (0, v2)]) (by have q := HJ9; try simp only [if_neg c10] at q; exact q) ⟨Or.inr rfl, Or.inr rfl, Or.inr rfl, trivial⟩
theorem eX11_lot {E : EV} {h : Int} {M : Mem} {Q : Option MV → Mem → Prop}  (H : G h M → TG E miX11_lot 2 h Q 0 [(2, 0), (3, 0), (3, 0)] [] M) : C2 E miX11_lot 2 h [(2, 0)] M Q :=
  C2_of (by decide +kernel) (Nat.le_of_ble_eq_true rfl) rfl H
set_option maxRecDepth 100000 in
set_option maxHeartbeats 2000000 in
theorem wX12_feed_0 {E : EV} {h : Int} {M : Mem} {Q : Option MV → Mem → Prop} {v1 : Int} {v2 : Int} {v3 : Int} {v4 : Int} {v5 : Int}  (H : (((wr32 ((M 66 1) + 20)) ≤ 1600 → (G h M → TG E miX12_feed 1 h Q 18 [(2, 66), (0, v1), (0, v2), (0, v3), (0, v4), (0, v5), (0, 0), (3, 0)] [] M)) ∧ (¬ ((wr32 ((M 66 1) + 20)) ≤ 1600) → Q (some (0, (-1))) M))) : G h M → TG E miX12_feed 1 h Q 0 [(2, 66), (0, v1), (0, v2), (0, v3), (0, v4), (0, v5), (3, 0), (3, 0)] [] M := by
  intro hG
  refine T_aload_n (i := 0) (pc' := 1) dX12_feed_0 rfl rfl rfl ?_
  refine U_gf (v := (0, (M 66 1))) (k := 1) (kI := 1) (pc' := 4) dX12_feed_1 rfl cl12 (by decide) rfl (by decide) flX12_198 rfl rfl (by decide) rfl rfl ?_
  refine T_bipush (pc' := 6) dX12_feed_4 rfl (by decide) rfl ?_
  refine T_iadd (pc' := 7) dX12_feed_6 rfl ?_
  refine T_sipush (pc' := 10) dX12_feed_7 rfl (by decide) rfl ?_
  refine T_icmp_le (pc' := 15) dX12_feed_10 (by decide) (pf := 13) rfl (fun c1 => ?_) (fun c1 => ?_)
  · skip
    replace H := H.1 c1
    refine T_iconst (pc' := 16) dX12_feed_15 (by decide) rfl ?_
    refine T_istore (i := 6) (L' := [(2, 66), (0, v1), (0, v2), (0, v3), (0, v4), (0, v5), (0, 0), (3, 0)]) (pc' := 18) dX12_feed_16 (by decide) rfl rfl ?_
    exact T_wk (H hG) ⟨Or.inr rfl, Or.inr rfl, Or.inr rfl, Or.inr rfl, Or.inr rfl, Or.inr rfl, Or.inr rfl, Or.inl rfl, trivial⟩
  · skip
    replace H := H.2 c1
    refine T_iconst (pc' := 14) dX12_feed_13 (by decide) rfl ?_
    exact T_iret dX12_feed_14 rfl ⟨rfl, hG, H⟩
set_option maxRecDepth 100000 in
set_option maxHeartbeats 2000000 in
theorem wX12_feed_18 {E : EV} {h : Int} {M : Mem} {Q : Option MV → Mem → Prop} {v1 : Int} {v2 : Int} {v3 : Int} {v4 : Int} {v5 : Int} {v6 : Int}  (H : ((20 ≤ v6 → Q (some (0, (M 66 1))) M) ∧ (¬ (20 ≤ v6) → 0 ≤ (M 66 1) ∧ (M 66 1) < 1600 ∧ (∀ M4 : Mem, M4 = (mset M 67 (M 66 1) (m_and (m_shr (if 4 ≤ v6 then (if 8 ≤ v6 then (if 12 ≤ v6 then (if 16 ≤ v6 then v5 else v4) else v3) else v2) else v1) (wr32 (8 * (wr32 (3 - (Int.tmod v6 4)))))) 255)) → (∀ M6 : Mem, M6 = (mset M4 66 1 (wr32 ((M4 66 1) + 1))) → (G h M6 → TG E miX12_feed 1 h Q 18 [(2, 66), (0, v1), (0, v2), (0, v3), (0, v4), (0, v5), (0, (wr32 (v6 + 1))), (3, 0)] [] M6)))))) : G h M → TG E miX12_feed 1 h Q 18 [(2, 66), (0, v1), (0, v2), (0, v3), (0, v4), (0, v5), (0, v6), (3, 0)] [] M := by
  intro hG
  refine T_iload (i := 6) (pc' := 20) dX12_feed_18 rfl rfl ?_
  refine T_bipush (pc' := 22) dX12_feed_20 rfl (by decide) rfl ?_
  refine T_icmp_ge (pc' := 114) dX12_feed_22 (by decide) (pf := 25) rfl (fun c1 => ?_) (fun c1 => ?_)
  · skip
    replace H := H.1 c1
    refine T_aload_n (i := 0) (pc' := 115) dX12_feed_114 rfl rfl rfl ?_
    refine U_gf (v := (0, (M 66 1))) (k := 1) (kI := 1) (pc' := 118) dX12_feed_115 rfl cl12 (by decide) rfl (by decide) flX12_198 rfl rfl (by decide) rfl rfl ?_
    exact T_iret dX12_feed_118 rfl ⟨rfl, hG, H⟩
  · skip
    replace H := H.2 c1
    refine T_iload (i := 6) (pc' := 27) dX12_feed_25 rfl rfl ?_
    refine T_iconst (pc' := 28) dX12_feed_27 (by decide) rfl ?_
    have HJ2 : T E miX12_feed 1 126 0 0 (fun r S M' => S = S0 ∧ G h M' ∧ Q r M') 71 [(2, 66), (0, v1), (0, v2), (0, v3), (0, v4), (0, v5), (0, v6), (3, 0)] [(0, (if 4 ≤ v6 then (if 8 ≤ v6 then (if 12 ≤ v6 then (if 16 ≤ v6 then v5 else v4) else v3) else v2) else v1))] S0 M 0 0 := by
      refine T_istore (i := 7) (L' := [(2, 66), (0, v1), (0, v2), (0, v3), (0, v4), (0, v5), (0, v6), (0, (if 4 ≤ v6 then (if 8 ≤ v6 then (if 12 ≤ v6 then (if 16 ≤ v6 then v5 else v4) else v3) else v2) else v1))]) (pc' := 73) dX12_feed_71 (by decide) rfl rfl ?_
      refine T_aload_n (i := 0) (pc' := 74) dX12_feed_73 rfl rfl rfl ?_
      refine U_gr (q := 67) (k := 0) (kI := 0) (pc' := 77) dX12_feed_74 rfl cl12 (by decide) rfl (by decide) flX12_7 rfl rfl rfl (G_at hG 67 rfl) (by decide) rfl ?_
      refine T_aload_n (i := 0) (pc' := 78) dX12_feed_77 rfl rfl rfl ?_
      refine U_gf (v := (0, (M 66 1))) (k := 1) (kI := 1) (pc' := 81) dX12_feed_78 rfl cl12 (by decide) rfl (by decide) flX12_198 rfl rfl (by decide) rfl rfl ?_
      refine T_iload (i := 7) (pc' := 83) dX12_feed_81 rfl rfl ?_
      refine T_bipush (pc' := 85) dX12_feed_83 rfl (by decide) rfl ?_
      refine T_iconst (pc' := 86) dX12_feed_85 (by decide) rfl ?_
      refine T_iload (i := 6) (pc' := 88) dX12_feed_86 rfl rfl ?_
      refine T_iconst (pc' := 89) dX12_feed_88 (by decide) rfl ?_
      refine T_irem (pc' := 90) dX12_feed_89 (by decide) rfl ?_
      refine T_isub (pc' := 91) dX12_feed_90 rfl ?_
      refine T_imul (pc' := 92) dX12_feed_91 rfl ?_
      refine T_ishr (pc' := 93) dX12_feed_92 rfl ?_
      refine T_sipush (pc' := 96) dX12_feed_93 rfl (by decide) rfl ?_
      refine T_iand (pc' := 97) dX12_feed_96 rfl ?_
      obtain ⟨z1, z2, H⟩ := H
      refine T_iast (pc' := 98) dX12_feed_97 (by decide) rfl z1 z2 rfl ?_
      have hG3 := (G_arr (x := 67) (i := (M 66 1)) (y := (m_and (m_shr (if 4 ≤ v6 then (if 8 ≤ v6 then (if 12 ≤ v6 then (if 16 ≤ v6 then v5 else v4) else v3) else v2) else v1) (wr32 (8 * (wr32 (3 - (Int.tmod v6 4)))))) 255)) rfl (by decide) hG)
      obtain ⟨M4, eM4⟩ : ∃ m : Mem, m = (mset M 67 (M 66 1) (m_and (m_shr (if 4 ≤ v6 then (if 8 ≤ v6 then (if 12 ≤ v6 then (if 16 ≤ v6 then v5 else v4) else v3) else v2) else v1) (wr32 (8 * (wr32 (3 - (Int.tmod v6 4)))))) 255)) := ⟨_, rfl⟩
      rw [← eM4] at hG3 ⊢
      replace H := H M4 eM4
      refine T_aload_n (i := 0) (pc' := 99) dX12_feed_98 rfl rfl rfl ?_
      refine T_dup (pc' := 100) dX12_feed_99 (Nat.ne_of_beq_eq_false rfl) rfl ?_
      refine U_gf (v := (0, (M4 66 1))) (k := 1) (kI := 1) (pc' := 103) dX12_feed_100 rfl cl12 (by decide) rfl (by decide) flX12_198 rfl rfl (by decide) rfl rfl ?_
      refine T_iconst (pc' := 104) dX12_feed_103 (by decide) rfl ?_
      refine T_iadd (pc' := 105) dX12_feed_104 rfl ?_
      refine U_pf (y := (wr32 ((M4 66 1) + 1))) (k := 1) (kI := 1) (pc' := 108) dX12_feed_105 rfl cl12 (by decide) rfl (by decide) flX12_198 rfl rfl rfl rfl rfl (by decide) (fun z => z) rfl ?_
      have hG5 := (G_fld (x := 66) (i := 1) (y := (wr32 ((M4 66 1) + 1))) rfl (by decide) (by decide) (by decide) hG3)
      obtain ⟨M6, eM6⟩ : ∃ m : Mem, m = (mset M4 66 1 (wr32 ((M4 66 1) + 1))) := ⟨_, rfl⟩
      rw [← eM6] at hG5 ⊢
      replace H := H M6 eM6
      refine T_iinc (L' := [(2, 66), (0, v1), (0, v2), (0, v3), (0, v4), (0, v5), (0, (wr32 (v6 + 1))), (0, (if 4 ≤ v6 then (if 8 ≤ v6 then (if 12 ≤ v6 then (if 16 ≤ v6 then v5 else v4) else v3) else v2) else v1))]) (pc' := 111) dX12_feed_108 rfl (by decide) rfl rfl ?_
      refine T_goto (pc' := 18) dX12_feed_111 (by decide) ?_
      exact T_wk (H hG5) ⟨Or.inr rfl, Or.inr rfl, Or.inr rfl, Or.inr rfl, Or.inr rfl, Or.inr rfl, Or.inr rfl, Or.inl rfl, trivial⟩
    refine T_icmp_ge (pc' := 35) dX12_feed_28 (by decide) (pf := 31) rfl (fun c7 => ?_) (fun c7 => ?_)
    · skip
      refine T_iload (i := 6) (pc' := 37) dX12_feed_35 rfl rfl ?_
      refine T_bipush (pc' := 39) dX12_feed_37 rfl (by decide) rfl ?_
      refine T_icmp_ge (pc' := 46) dX12_feed_39 (by decide) (pf := 42) rfl (fun c8 => ?_) (fun c8 => ?_)
      · skip
        refine T_iload (i := 6) (pc' := 48) dX12_feed_46 rfl rfl ?_
        refine T_bipush (pc' := 50) dX12_feed_48 rfl (by decide) rfl ?_
        refine T_icmp_ge (pc' := 57) dX12_feed_50 (by decide) (pf := 53) rfl (fun c9 => ?_) (fun c9 => ?_)
        · skip
          refine T_iload (i := 6) (pc' := 59) dX12_feed_57 rfl rfl ?_
          refine T_bipush (pc' := 61) dX12_feed_59 rfl (by decide) rfl ?_
          refine T_icmp_ge (pc' := 69) dX12_feed_61 (by decide) (pf := 64) rfl (fun c10 => ?_) (fun c10 => ?_)
          · skip
            refine T_iload (i := 5) (pc' := 71) dX12_feed_69 rfl rfl ?_
            exact T_wk (L' := [(2, 66), (0, v1), (0, v2), (0, v3), (0, v4), (0, v5), (0, v6), (3, 0)]) (by have q := HJ2; try simp only [if_pos c7] at q; try simp only [if_pos c8] at q; try simp only [if_pos c9] at q; try simp only [if_pos c10] at q; exact q) ⟨Or.inr rfl, Or.inr rfl, Or.inr rfl, Or.inr rfl, Or.inr rfl, Or.inr rfl, Or.inr rfl, Or.inl rfl, trivial⟩
          · skip
            refine T_iload (i := 4) (pc' := 66) dX12_feed_64 rfl rfl ?_
            refine T_goto (pc' := 71) dX12_feed_66 (by decide) ?_
            exact T_wk (L' := [(2, 66), (0, v1), (0, v2), (0, v3), (0, v4), (0, v5), (0, v6), (3, 0)]) (by have q := HJ2; try simp only [if_pos c7] at q; try simp only [if_pos c8] at q; try simp only [if_pos c9] at q; try simp only [if_neg c10] at q; exact q) ⟨Or.inr rfl, Or.inr rfl, Or.inr rfl, Or.inr rfl, Or.inr rfl, Or.inr rfl, Or.inr rfl, Or.inl rfl, trivial⟩
        · skip
          refine T_iload_n (i := 3) (pc' := 54) dX12_feed_53 rfl rfl rfl ?_
          refine T_goto (pc' := 71) dX12_feed_54 (by decide) ?_
          exact T_wk (L' := [(2, 66), (0, v1), (0, v2), (0, v3), (0, v4), (0, v5), (0, v6), (3, 0)]) (by have q := HJ2; try simp only [if_pos c7] at q; try simp only [if_pos c8] at q; try simp only [if_neg c9] at q; exact q) ⟨Or.inr rfl, Or.inr rfl, Or.inr rfl, Or.inr rfl, Or.inr rfl, Or.inr rfl, Or.inr rfl, Or.inl rfl, trivial⟩
      · skip
        refine T_iload_n (i := 2) (pc' := 43) dX12_feed_42 rfl rfl rfl ?_
        refine T_goto (pc' := 71) dX12_feed_43 (by decide) ?_
        exact T_wk (L' := [(2, 66), (0, v1), (0, v2), (0, v3), (0, v4), (0, v5), (0, v6), (3, 0)]) (by have q := HJ2; try simp only [if_pos c7] at q; try simp only [if_neg c8] at q; exact q) ⟨Or.inr rfl, Or.inr rfl, Or.inr rfl, Or.inr rfl, Or.inr rfl, Or.inr rfl, Or.inr rfl, Or.inl rfl, trivial⟩
    · skip
      refine T_iload_n (i := 1) (pc' := 32) dX12_feed_31 rfl rfl rfl ?_
      refine T_goto (pc' := 71) dX12_feed_32 (by decide) ?_
      exact T_wk (L' := [(2, 66), (0, v1), (0, v2), (0, v3), (0, v4), (0, v5), (0, v6), (3, 0)]) (by have q := HJ2; try simp only [if_neg c7] at q; exact q) ⟨Or.inr rfl, Or.inr rfl, Or.inr rfl, Or.inr rfl, Or.inr rfl, Or.inr rfl, Or.inr rfl, Or.inl rfl, trivial⟩
theorem eX12_feed {E : EV} {h : Int} {M : Mem} {Q : Option MV → Mem → Prop} {v1 : Int} {v2 : Int} {v3 : Int} {v4 : Int} {v5 : Int} (H : G h M → TG E miX12_feed 1 h Q 0 [(2, 66), (0, v1), (0, v2), (0, v3), (0, v4), (0, v5), (3, 0), (3, 0)] [] M) : C2 E miX12_feed 1 h [(2, 66), (0, v1), (0, v2), (0, v3), (0, v4), (0, v5)] M Q :=
  C2_of (by decide +kernel) (Nat.le_of_ble_eq_true rfl) rfl H
set_option maxRecDepth 100000 in
set_option maxHeartbeats 2000000 in
theorem wX12_look_0 {E : EV} {h : Int} {M : Mem} {Q : Option MV → Mem → Prop}   (H : (((M 66 3) ≤ (M 66 2) → (((M 66 3) ≤ (M 66 2) → Q (some (0, (-1))) M) ∧ (¬ ((M 66 3) ≤ (M 66 2)) → 0 ≤ (M 66 2) ∧ (M 66 2) < 1600 ∧ Q (some (0, (M 67 (M 66 2)))) M))) ∧ (¬ ((M 66 3) ≤ (M 66 2)) → 0 ≤ (M 66 2) ∧ (M 66 2) < 1600 ∧ (((M 67 (M 66 2)) = 10 → (∀ M5 : Mem, M5 = (mset M 66 2 (wr32 ((M 66 2) + 1))) → (G h M5 → TG E miX12_look 1 h Q 0 [(2, 66)] [] M5))) ∧ (¬ ((M 67 (M 66 2)) = 10) → 0 ≤ (M 66 2) ∧ (M 66 2) < 1600 ∧ (((M 67 (M 66 2)) = 32 → (∀ M9 : Mem, M9 = (mset M 66 2 (wr32 ((M 66 2) + 1))) → (G h M9 → TG E miX12_look 1 h Q 0 [(2, 66)] [] M9))) ∧ (¬ ((M 67 (M 66 2)) = 32) → (((M 66 3) ≤ (M 66 2) → Q (some (0, (-1))) M) ∧ (¬ ((M 66 3) ≤ (M 66 2)) → 0 ≤ (M 66 2) ∧ (M 66 2) < 1600 ∧ Q (some (0, (M 67 (M 66 2)))) M))))))))) : G h M → TG E miX12_look 1 h Q 0 [(2, 66)] [] M := by
  intro hG
  refine T_aload_n (i := 0) (pc' := 1) dX12_look_0 rfl rfl rfl ?_
  refine U_gf (v := (0, (M 66 2))) (k := 2) (kI := 2) (pc' := 4) dX12_look_1 rfl cl12 (by decide) rfl (by decide) flX12_207 rfl rfl (by decide) rfl rfl ?_
  refine T_aload_n (i := 0) (pc' := 5) dX12_look_4 rfl rfl rfl ?_
  refine U_gf (v := (0, (M 66 3))) (k := 3) (kI := 3) (pc' := 8) dX12_look_5 rfl cl12 (by decide) rfl (by decide) flX12_210 rfl rfl (by decide) rfl rfl ?_
  refine T_icmp_ge (pc' := 52) dX12_look_8 (by decide) (pf := 11) rfl (fun c1 => ?_) (fun c1 => ?_)
  · skip
    replace H := H.1 c1
    refine T_aload_n (i := 0) (pc' := 53) dX12_look_52 rfl rfl rfl ?_
    refine U_gf (v := (0, (M 66 2))) (k := 2) (kI := 2) (pc' := 56) dX12_look_53 rfl cl12 (by decide) rfl (by decide) flX12_207 rfl rfl (by decide) rfl rfl ?_
    refine T_aload_n (i := 0) (pc' := 57) dX12_look_56 rfl rfl rfl ?_
    refine U_gf (v := (0, (M 66 3))) (k := 3) (kI := 3) (pc' := 60) dX12_look_57 rfl cl12 (by decide) rfl (by decide) flX12_210 rfl rfl (by decide) rfl rfl ?_
    refine T_icmp_ge (pc' := 75) dX12_look_60 (by decide) (pf := 63) rfl (fun c2 => ?_) (fun c2 => ?_)
    · skip
      replace H := H.1 c2
      refine T_iconst (pc' := 76) dX12_look_75 (by decide) rfl ?_
      exact T_iret dX12_look_76 rfl ⟨rfl, hG, H⟩
    · skip
      replace H := H.2 c2
      refine T_aload_n (i := 0) (pc' := 64) dX12_look_63 rfl rfl rfl ?_
      refine U_gr (q := 67) (k := 0) (kI := 0) (pc' := 67) dX12_look_64 rfl cl12 (by decide) rfl (by decide) flX12_7 rfl rfl rfl (G_at hG 67 rfl) (by decide) rfl ?_
      refine T_aload_n (i := 0) (pc' := 68) dX12_look_67 rfl rfl rfl ?_
      refine U_gf (v := (0, (M 66 2))) (k := 2) (kI := 2) (pc' := 71) dX12_look_68 rfl cl12 (by decide) rfl (by decide) flX12_207 rfl rfl (by decide) rfl rfl ?_
      obtain ⟨z1, z2, H⟩ := H
      refine T_iald (pc' := 72) dX12_look_71 (by decide) rfl z1 z2 rfl ?_
      refine T_goto (pc' := 76) dX12_look_72 (by decide) ?_
      exact T_iret dX12_look_76 rfl ⟨rfl, hG, H⟩
  · skip
    replace H := H.2 c1
    refine T_aload_n (i := 0) (pc' := 12) dX12_look_11 rfl rfl rfl ?_
    refine U_gr (q := 67) (k := 0) (kI := 0) (pc' := 15) dX12_look_12 rfl cl12 (by decide) rfl (by decide) flX12_7 rfl rfl rfl (G_at hG 67 rfl) (by decide) rfl ?_
    refine T_aload_n (i := 0) (pc' := 16) dX12_look_15 rfl rfl rfl ?_
    refine U_gf (v := (0, (M 66 2))) (k := 2) (kI := 2) (pc' := 19) dX12_look_16 rfl cl12 (by decide) rfl (by decide) flX12_207 rfl rfl (by decide) rfl rfl ?_
    obtain ⟨z1, z2, H⟩ := H
    refine T_iald (pc' := 20) dX12_look_19 (by decide) rfl z1 z2 rfl ?_
    refine T_bipush (pc' := 22) dX12_look_20 rfl (by decide) rfl ?_
    refine T_icmp_eq (pc' := 39) dX12_look_22 (by decide) (pf := 25) rfl (fun c3 => ?_) (fun c3 => ?_)
    · skip
      replace H := H.1 c3
      refine T_aload_n (i := 0) (pc' := 40) dX12_look_39 rfl rfl rfl ?_
      refine T_dup (pc' := 41) dX12_look_40 (Nat.ne_of_beq_eq_false rfl) rfl ?_
      refine U_gf (v := (0, (M 66 2))) (k := 2) (kI := 2) (pc' := 44) dX12_look_41 rfl cl12 (by decide) rfl (by decide) flX12_207 rfl rfl (by decide) rfl rfl ?_
      refine T_iconst (pc' := 45) dX12_look_44 (by decide) rfl ?_
      refine T_iadd (pc' := 46) dX12_look_45 rfl ?_
      refine U_pf (y := (wr32 ((M 66 2) + 1))) (k := 2) (kI := 2) (pc' := 49) dX12_look_46 rfl cl12 (by decide) rfl (by decide) flX12_207 rfl rfl rfl rfl rfl (by decide) (fun z => z) rfl ?_
      have hG4 := (G_fld (x := 66) (i := 2) (y := (wr32 ((M 66 2) + 1))) rfl (by decide) (by decide) (by decide) hG)
      obtain ⟨M5, eM5⟩ : ∃ m : Mem, m = (mset M 66 2 (wr32 ((M 66 2) + 1))) := ⟨_, rfl⟩
      rw [← eM5] at hG4 ⊢
      replace H := H M5 eM5
      refine T_goto (pc' := 0) dX12_look_49 (by decide) ?_
      exact T_wk (H hG4) ⟨Or.inr rfl, trivial⟩
    · skip
      replace H := H.2 c3
      refine T_aload_n (i := 0) (pc' := 26) dX12_look_25 rfl rfl rfl ?_
      refine U_gr (q := 67) (k := 0) (kI := 0) (pc' := 29) dX12_look_26 rfl cl12 (by decide) rfl (by decide) flX12_7 rfl rfl rfl (G_at hG 67 rfl) (by decide) rfl ?_
      refine T_aload_n (i := 0) (pc' := 30) dX12_look_29 rfl rfl rfl ?_
      refine U_gf (v := (0, (M 66 2))) (k := 2) (kI := 2) (pc' := 33) dX12_look_30 rfl cl12 (by decide) rfl (by decide) flX12_207 rfl rfl (by decide) rfl rfl ?_
      obtain ⟨z1, z2, H⟩ := H
      refine T_iald (pc' := 34) dX12_look_33 (by decide) rfl z1 z2 rfl ?_
      refine T_bipush (pc' := 36) dX12_look_34 rfl (by decide) rfl ?_
      refine T_icmp_ne (pc' := 52) dX12_look_36 (by decide) (pf := 39) rfl (fun c6 => ?_) (fun c6 => ?_)
      · skip
        replace H := H.2 c6
        refine T_aload_n (i := 0) (pc' := 53) dX12_look_52 rfl rfl rfl ?_
        refine U_gf (v := (0, (M 66 2))) (k := 2) (kI := 2) (pc' := 56) dX12_look_53 rfl cl12 (by decide) rfl (by decide) flX12_207 rfl rfl (by decide) rfl rfl ?_
        refine T_aload_n (i := 0) (pc' := 57) dX12_look_56 rfl rfl rfl ?_
        refine U_gf (v := (0, (M 66 3))) (k := 3) (kI := 3) (pc' := 60) dX12_look_57 rfl cl12 (by decide) rfl (by decide) flX12_210 rfl rfl (by decide) rfl rfl ?_
        refine T_icmp_ge (pc' := 75) dX12_look_60 (by decide) (pf := 63) rfl (fun c7 => ?_) (fun c7 => ?_)
        · skip
          replace H := H.1 c7
          refine T_iconst (pc' := 76) dX12_look_75 (by decide) rfl ?_
          exact T_iret dX12_look_76 rfl ⟨rfl, hG, H⟩
        · skip
          replace H := H.2 c7
          refine T_aload_n (i := 0) (pc' := 64) dX12_look_63 rfl rfl rfl ?_
          refine U_gr (q := 67) (k := 0) (kI := 0) (pc' := 67) dX12_look_64 rfl cl12 (by decide) rfl (by decide) flX12_7 rfl rfl rfl (G_at hG 67 rfl) (by decide) rfl ?_
          refine T_aload_n (i := 0) (pc' := 68) dX12_look_67 rfl rfl rfl ?_
          refine U_gf (v := (0, (M 66 2))) (k := 2) (kI := 2) (pc' := 71) dX12_look_68 rfl cl12 (by decide) rfl (by decide) flX12_207 rfl rfl (by decide) rfl rfl ?_
          obtain ⟨z1, z2, H⟩ := H
          refine T_iald (pc' := 72) dX12_look_71 (by decide) rfl z1 z2 rfl ?_
          refine T_goto (pc' := 76) dX12_look_72 (by decide) ?_
          exact T_iret dX12_look_76 rfl ⟨rfl, hG, H⟩
      · skip
        replace H := H.1 c6
        refine T_aload_n (i := 0) (pc' := 40) dX12_look_39 rfl rfl rfl ?_
        refine T_dup (pc' := 41) dX12_look_40 (Nat.ne_of_beq_eq_false rfl) rfl ?_
        refine U_gf (v := (0, (M 66 2))) (k := 2) (kI := 2) (pc' := 44) dX12_look_41 rfl cl12 (by decide) rfl (by decide) flX12_207 rfl rfl (by decide) rfl rfl ?_
        refine T_iconst (pc' := 45) dX12_look_44 (by decide) rfl ?_
        refine T_iadd (pc' := 46) dX12_look_45 rfl ?_
        refine U_pf (y := (wr32 ((M 66 2) + 1))) (k := 2) (kI := 2) (pc' := 49) dX12_look_46 rfl cl12 (by decide) rfl (by decide) flX12_207 rfl rfl rfl rfl rfl (by decide) (fun z => z) rfl ?_
        have hG8 := (G_fld (x := 66) (i := 2) (y := (wr32 ((M 66 2) + 1))) rfl (by decide) (by decide) (by decide) hG)
        obtain ⟨M9, eM9⟩ : ∃ m : Mem, m = (mset M 66 2 (wr32 ((M 66 2) + 1))) := ⟨_, rfl⟩
        rw [← eM9] at hG8 ⊢
        replace H := H M9 eM9
        refine T_goto (pc' := 0) dX12_look_49 (by decide) ?_
        exact T_wk (H hG8) ⟨Or.inr rfl, trivial⟩
theorem eX12_look {E : EV} {h : Int} {M : Mem} {Q : Option MV → Mem → Prop}  (H : G h M → TG E miX12_look 1 h Q 0 [(2, 66)] [] M) : C2 E miX12_look 1 h [(2, 66)] M Q :=
  C2_of (by decide +kernel) (Nat.le_of_ble_eq_true rfl) rfl H
set_option maxRecDepth 100000 in
set_option maxHeartbeats 2000000 in
theorem wX12_doorAt_0 {E : EV} {h : Int} {M : Mem} {Q : Option MV → Mem → Prop} {v1 : Int}  (H : (G h M → TG E miX12_doorAt 1 h Q 2 [(2, 66), (0, v1), (0, 0)] [] M)) : G h M → TG E miX12_doorAt 1 h Q 0 [(2, 66), (0, v1), (3, 0)] [] M := by
  intro hG
  refine T_iconst (pc' := 1) dX12_doorAt_0 (by decide) rfl ?_
  refine T_istore_n (i := 2) (L' := [(2, 66), (0, v1), (0, 0)]) (pc' := 2) dX12_doorAt_1 rfl (by decide) rfl rfl ?_
  exact T_wk (H hG) ⟨Or.inr rfl, Or.inr rfl, Or.inr rfl, trivial⟩
set_option maxRecDepth 100000 in
set_option maxHeartbeats 2000000 in
theorem wX12_doorAt_2 {E : EV} {h : Int} {M : Mem} {Q : Option MV → Mem → Prop} {v1 : Int} {v2 : Int}  (H : (((M 85 2) ≤ v2 → Q (some (0, (-1))) M) ∧ (¬ ((M 85 2) ≤ v2) → 0 ≤ v2 ∧ v2 < 12 ∧ (((M 90 v2) = v1 → Q (some (0, v2)) M) ∧ (¬ ((M 90 v2) = v1) → (G h M → TG E miX12_doorAt 1 h Q 2 [(2, 66), (0, v1), (0, (wr32 (v2 + 1)))] [] M)))))) : G h M → TG E miX12_doorAt 1 h Q 2 [(2, 66), (0, v1), (0, v2)] [] M := by
  intro hG
  refine T_iload_n (i := 2) (pc' := 3) dX12_doorAt_2 rfl rfl rfl ?_
  refine T_aload_n (i := 0) (pc' := 4) dX12_doorAt_3 rfl rfl rfl ?_
  refine U_gr (q := 85) (k := 28) (kI := 28) (pc' := 7) dX12_doorAt_4 rfl cl12 (by decide) rfl (by decide) flX12_69 rfl rfl rfl (G_at hG 85 rfl) (by decide) rfl ?_
  refine T_iconst (pc' := 8) dX12_doorAt_7 (by decide) rfl ?_
  refine T_iald (pc' := 9) dX12_doorAt_8 (by decide) rfl (by decide) (by decide) rfl ?_
  refine T_icmp_ge (pc' := 30) dX12_doorAt_9 (by decide) (pf := 12) rfl (fun c1 => ?_) (fun c1 => ?_)
  · skip
    replace H := H.1 c1
    refine T_iconst (pc' := 31) dX12_doorAt_30 (by decide) rfl ?_
    exact T_iret dX12_doorAt_31 rfl ⟨rfl, hG, H⟩
  · skip
    replace H := H.2 c1
    refine T_aload_n (i := 0) (pc' := 13) dX12_doorAt_12 rfl rfl rfl ?_
    refine U_gr (q := 90) (k := 33) (kI := 33) (pc' := 16) dX12_doorAt_13 rfl cl12 (by decide) rfl (by decide) flX12_86 rfl rfl rfl (G_at hG 90 rfl) (by decide) rfl ?_
    refine T_iload_n (i := 2) (pc' := 17) dX12_doorAt_16 rfl rfl rfl ?_
    obtain ⟨z1, z2, H⟩ := H
    refine T_iald (pc' := 18) dX12_doorAt_17 (by decide) rfl z1 z2 rfl ?_
    refine T_iload_n (i := 1) (pc' := 19) dX12_doorAt_18 rfl rfl rfl ?_
    refine T_icmp_ne (pc' := 24) dX12_doorAt_19 (by decide) (pf := 22) rfl (fun c2 => ?_) (fun c2 => ?_)
    · skip
      replace H := H.2 c2
      refine T_iinc (L' := [(2, 66), (0, v1), (0, (wr32 (v2 + 1)))]) (pc' := 27) dX12_doorAt_24 rfl (by decide) rfl rfl ?_
      refine T_goto (pc' := 2) dX12_doorAt_27 (by decide) ?_
      exact T_wk (H hG) ⟨Or.inr rfl, Or.inr rfl, Or.inr rfl, trivial⟩
    · skip
      replace H := H.1 c2
      refine T_iload_n (i := 2) (pc' := 23) dX12_doorAt_22 rfl rfl rfl ?_
      exact T_iret dX12_doorAt_23 rfl ⟨rfl, hG, H⟩
theorem eX12_doorAt {E : EV} {h : Int} {M : Mem} {Q : Option MV → Mem → Prop} {v1 : Int} (H : G h M → TG E miX12_doorAt 1 h Q 0 [(2, 66), (0, v1), (3, 0)] [] M) : C2 E miX12_doorAt 1 h [(2, 66), (0, v1)] M Q :=
  C2_of (by decide +kernel) (Nat.le_of_ble_eq_true rfl) rfl H
set_option maxRecDepth 100000 in
set_option maxHeartbeats 2000000 in
theorem wX12_isSomebody_0 {E : EV} {h : Int} {M : Mem} {Q : Option MV → Mem → Prop} {v1 : Int}  (H : (G h M → TG E miX12_isSomebody 1 h Q 2 [(2, 66), (0, v1), (0, 0)] [] M)) : G h M → TG E miX12_isSomebody 1 h Q 0 [(2, 66), (0, v1), (3, 0)] [] M := by
  intro hG
  refine T_iconst (pc' := 1) dX12_isSomebody_0 (by decide) rfl ?_
  refine T_istore_n (i := 2) (L' := [(2, 66), (0, v1), (0, 0)]) (pc' := 2) dX12_isSomebody_1 rfl (by decide) rfl rfl ?_
  exact T_wk (H hG) ⟨Or.inr rfl, Or.inr rfl, Or.inr rfl, trivial⟩
set_option maxRecDepth 100000 in
set_option maxHeartbeats 2000000 in
theorem wX12_isSomebody_2 {E : EV} {h : Int} {M : Mem} {Q : Option MV → Mem → Prop} {v1 : Int} {v2 : Int}  (H : (((M 85 0) ≤ v2 → (G h M → TG E miX12_isSomebody 1 h Q 37 [(2, 66), (0, v1), (0, 0)] [] M)) ∧ (¬ ((M 85 0) ≤ v2) → 0 ≤ (wr32 ((wr32 (18 * v2)) + 0)) ∧ (wr32 ((wr32 (18 * v2)) + 0)) < 324 ∧ (((M 88 (wr32 ((wr32 (18 * v2)) + 0))) = v1 → Q (some (0, 1)) M) ∧ (¬ ((M 88 (wr32 ((wr32 (18 * v2)) + 0))) = v1) → (G h M → TG E miX12_isSomebody 1 h Q 2 [(2, 66), (0, v1), (0, (wr32 (v2 + 1)))] [] M)))))) : G h M → TG E miX12_isSomebody 1 h Q 2 [(2, 66), (0, v1), (0, v2)] [] M := by
  intro hG
  refine T_iload_n (i := 2) (pc' := 3) dX12_isSomebody_2 rfl rfl rfl ?_
  refine T_aload_n (i := 0) (pc' := 4) dX12_isSomebody_3 rfl rfl rfl ?_
  refine U_gr (q := 85) (k := 28) (kI := 28) (pc' := 7) dX12_isSomebody_4 rfl cl12 (by decide) rfl (by decide) flX12_69 rfl rfl rfl (G_at hG 85 rfl) (by decide) rfl ?_
  refine T_iconst (pc' := 8) dX12_isSomebody_7 (by decide) rfl ?_
  refine T_iald (pc' := 9) dX12_isSomebody_8 (by decide) rfl (by decide) (by decide) rfl ?_
  refine T_icmp_ge (pc' := 35) dX12_isSomebody_9 (by decide) (pf := 12) rfl (fun c1 => ?_) (fun c1 => ?_)
  · skip
    replace H := H.1 c1
    refine T_iconst (pc' := 36) dX12_isSomebody_35 (by decide) rfl ?_
    refine T_istore_n (i := 2) (L' := [(2, 66), (0, v1), (0, 0)]) (pc' := 37) dX12_isSomebody_36 rfl (by decide) rfl rfl ?_
    exact T_wk (H hG) ⟨Or.inr rfl, Or.inr rfl, Or.inr rfl, trivial⟩
  · skip
    replace H := H.2 c1
    refine T_aload_n (i := 0) (pc' := 13) dX12_isSomebody_12 rfl rfl rfl ?_
    refine U_gr (q := 88) (k := 31) (kI := 31) (pc' := 16) dX12_isSomebody_13 rfl cl12 (by decide) rfl (by decide) flX12_80 rfl rfl rfl (G_at hG 88 rfl) (by decide) rfl ?_
    refine T_bipush (pc' := 18) dX12_isSomebody_16 rfl (by decide) rfl ?_
    refine T_iload_n (i := 2) (pc' := 19) dX12_isSomebody_18 rfl rfl rfl ?_
    refine T_imul (pc' := 20) dX12_isSomebody_19 rfl ?_
    refine T_iconst (pc' := 21) dX12_isSomebody_20 (by decide) rfl ?_
    refine T_iadd (pc' := 22) dX12_isSomebody_21 rfl ?_
    obtain ⟨z1, z2, H⟩ := H
    refine T_iald (pc' := 23) dX12_isSomebody_22 (by decide) rfl z1 z2 rfl ?_
    refine T_iload_n (i := 1) (pc' := 24) dX12_isSomebody_23 rfl rfl rfl ?_
    refine T_icmp_ne (pc' := 29) dX12_isSomebody_24 (by decide) (pf := 27) rfl (fun c2 => ?_) (fun c2 => ?_)
    · skip
      replace H := H.2 c2
      refine T_iinc (L' := [(2, 66), (0, v1), (0, (wr32 (v2 + 1)))]) (pc' := 32) dX12_isSomebody_29 rfl (by decide) rfl rfl ?_
      refine T_goto (pc' := 2) dX12_isSomebody_32 (by decide) ?_
      exact T_wk (H hG) ⟨Or.inr rfl, Or.inr rfl, Or.inr rfl, trivial⟩
    · skip
      replace H := H.1 c2
      refine T_iconst (pc' := 28) dX12_isSomebody_27 (by decide) rfl ?_
      exact T_zret dX12_isSomebody_28 rfl (by decide) ⟨rfl, hG, H⟩
set_option maxRecDepth 100000 in
set_option maxHeartbeats 2000000 in
theorem wX12_isSomebody_37 {E : EV} {h : Int} {M : Mem} {Q : Option MV → Mem → Prop} {v1 : Int} {v2 : Int}  (H : (((M 85 1) ≤ v2 → Q (some (0, 0)) M) ∧ (¬ ((M 85 1) ≤ v2) → 0 ≤ (wr32 (3 * v2)) ∧ (wr32 (3 * v2)) < 24 ∧ (((M 89 (wr32 (3 * v2))) = v1 → Q (some (0, 1)) M) ∧ (¬ ((M 89 (wr32 (3 * v2))) = v1) → (G h M → TG E miX12_isSomebody 1 h Q 37 [(2, 66), (0, v1), (0, (wr32 (v2 + 1)))] [] M)))))) : G h M → TG E miX12_isSomebody 1 h Q 37 [(2, 66), (0, v1), (0, v2)] [] M := by
  intro hG
  refine T_iload_n (i := 2) (pc' := 38) dX12_isSomebody_37 rfl rfl rfl ?_
  refine T_aload_n (i := 0) (pc' := 39) dX12_isSomebody_38 rfl rfl rfl ?_
  refine U_gr (q := 85) (k := 28) (kI := 28) (pc' := 42) dX12_isSomebody_39 rfl cl12 (by decide) rfl (by decide) flX12_69 rfl rfl rfl (G_at hG 85 rfl) (by decide) rfl ?_
  refine T_iconst (pc' := 43) dX12_isSomebody_42 (by decide) rfl ?_
  refine T_iald (pc' := 44) dX12_isSomebody_43 (by decide) rfl (by decide) (by decide) rfl ?_
  refine T_icmp_ge (pc' := 67) dX12_isSomebody_44 (by decide) (pf := 47) rfl (fun c1 => ?_) (fun c1 => ?_)
  · skip
    replace H := H.1 c1
    refine T_iconst (pc' := 68) dX12_isSomebody_67 (by decide) rfl ?_
    exact T_zret dX12_isSomebody_68 rfl (by decide) ⟨rfl, hG, H⟩
  · skip
    replace H := H.2 c1
    refine T_aload_n (i := 0) (pc' := 48) dX12_isSomebody_47 rfl rfl rfl ?_
    refine U_gr (q := 89) (k := 32) (kI := 32) (pc' := 51) dX12_isSomebody_48 rfl cl12 (by decide) rfl (by decide) flX12_83 rfl rfl rfl (G_at hG 89 rfl) (by decide) rfl ?_
    refine T_iconst (pc' := 52) dX12_isSomebody_51 (by decide) rfl ?_
    refine T_iload_n (i := 2) (pc' := 53) dX12_isSomebody_52 rfl rfl rfl ?_
    refine T_imul (pc' := 54) dX12_isSomebody_53 rfl ?_
    obtain ⟨z1, z2, H⟩ := H
    refine T_iald (pc' := 55) dX12_isSomebody_54 (by decide) rfl z1 z2 rfl ?_
    refine T_iload_n (i := 1) (pc' := 56) dX12_isSomebody_55 rfl rfl rfl ?_
    refine T_icmp_ne (pc' := 61) dX12_isSomebody_56 (by decide) (pf := 59) rfl (fun c2 => ?_) (fun c2 => ?_)
    · skip
      replace H := H.2 c2
      refine T_iinc (L' := [(2, 66), (0, v1), (0, (wr32 (v2 + 1)))]) (pc' := 64) dX12_isSomebody_61 rfl (by decide) rfl rfl ?_
      refine T_goto (pc' := 37) dX12_isSomebody_64 (by decide) ?_
      exact T_wk (H hG) ⟨Or.inr rfl, Or.inr rfl, Or.inr rfl, trivial⟩
    · skip
      replace H := H.1 c2
      refine T_iconst (pc' := 60) dX12_isSomebody_59 (by decide) rfl ?_
      exact T_zret dX12_isSomebody_60 rfl (by decide) ⟨rfl, hG, H⟩
theorem eX12_isSomebody {E : EV} {h : Int} {M : Mem} {Q : Option MV → Mem → Prop} {v1 : Int} (H : G h M → TG E miX12_isSomebody 1 h Q 0 [(2, 66), (0, v1), (3, 0)] [] M) : C2 E miX12_isSomebody 1 h [(2, 66), (0, v1)] M Q :=
  C2_of (by decide +kernel) (Nat.le_of_ble_eq_true rfl) rfl H
set_option maxRecDepth 100000 in
set_option maxHeartbeats 2000000 in
theorem wX12_stands_0 {E : EV} {h : Int} {M : Mem} {Q : Option MV → Mem → Prop}   (H : (∀ M2 : Mem, M2 = (mset M 66 38 (M 66 35)) → (∀ M4 : Mem, M4 = (mset M2 66 39 (M2 66 36)) → (G h M4 → TG E miX12_stands 1 h Q 18 [(2, 66), (0, 0)] [] M4)))) : G h M → TG E miX12_stands 1 h Q 0 [(2, 66), (3, 0)] [] M := by
  intro hG
  refine T_aload_n (i := 0) (pc' := 1) dX12_stands_0 rfl rfl rfl ?_
  refine T_aload_n (i := 0) (pc' := 2) dX12_stands_1 rfl rfl rfl ?_
  refine U_gf (v := (0, (M 66 35))) (k := 35) (kI := 35) (pc' := 5) dX12_stands_2 rfl cl12 (by decide) rfl (by decide) flX12_267 rfl rfl (by decide) rfl rfl ?_
  refine U_pf (y := (M 66 35)) (k := 38) (kI := 38) (pc' := 8) dX12_stands_5 rfl cl12 (by decide) rfl (by decide) flX12_334 rfl rfl rfl rfl rfl (by decide) (fun z => z) rfl ?_
  have hG1 := (G_fld (x := 66) (i := 38) (y := (M 66 35)) rfl (by decide) (by decide) (by decide) hG)
  obtain ⟨M2, eM2⟩ : ∃ m : Mem, m = (mset M 66 38 (M 66 35)) := ⟨_, rfl⟩
  rw [← eM2] at hG1 ⊢
  replace H := H M2 eM2
  refine T_aload_n (i := 0) (pc' := 9) dX12_stands_8 rfl rfl rfl ?_
  refine T_aload_n (i := 0) (pc' := 10) dX12_stands_9 rfl rfl rfl ?_
  refine U_gf (v := (0, (M2 66 36))) (k := 36) (kI := 36) (pc' := 13) dX12_stands_10 rfl cl12 (by decide) rfl (by decide) flX12_270 rfl rfl (by decide) rfl rfl ?_
  refine U_pf (y := (M2 66 36)) (k := 39) (kI := 39) (pc' := 16) dX12_stands_13 rfl cl12 (by decide) rfl (by decide) flX12_337 rfl rfl rfl rfl rfl (by decide) (fun z => z) rfl ?_
  have hG3 := (G_fld (x := 66) (i := 39) (y := (M2 66 36)) rfl (by decide) (by decide) (by decide) hG1)
  obtain ⟨M4, eM4⟩ : ∃ m : Mem, m = (mset M2 66 39 (M2 66 36)) := ⟨_, rfl⟩
  rw [← eM4] at hG3 ⊢
  replace H := H M4 eM4
  refine T_iconst (pc' := 17) dX12_stands_16 (by decide) rfl ?_
  refine T_istore_n (i := 1) (L' := [(2, 66), (0, 0)]) (pc' := 18) dX12_stands_17 rfl (by decide) rfl rfl ?_
  exact T_wk (H hG3) ⟨Or.inr rfl, Or.inr rfl, trivial⟩
set_option maxRecDepth 100000 in
set_option maxHeartbeats 2000000 in
theorem wX12_stands_18 {E : EV} {h : Int} {M : Mem} {Q : Option MV → Mem → Prop} {v1 : Int}  (H : ((3 ≤ v1 → (G h M → TG E miX12_stands 1 h Q 45 [(2, 66), (0, 0)] [] M)) ∧ (¬ (3 ≤ v1) → 0 ≤ v1 ∧ v1 < 6 ∧ 0 ≤ (wr32 (3 + v1)) ∧ (wr32 (3 + v1)) < 6 ∧ (∀ M3 : Mem, M3 = (mset M 85 (wr32 (3 + v1)) (M 85 v1)) → (G h M3 → TG E miX12_stands 1 h Q 18 [(2, 66), (0, (wr32 (v1 + 1)))] [] M3))))) : G h M → TG E miX12_stands 1 h Q 18 [(2, 66), (0, v1)] [] M := by
  intro hG
  refine T_iload_n (i := 1) (pc' := 19) dX12_stands_18 rfl rfl rfl ?_
  refine T_iconst (pc' := 20) dX12_stands_19 (by decide) rfl ?_
  refine T_icmp_ge (pc' := 43) dX12_stands_20 (by decide) (pf := 23) rfl (fun c1 => ?_) (fun c1 => ?_)
  · skip
    replace H := H.1 c1
    refine T_iconst (pc' := 44) dX12_stands_43 (by decide) rfl ?_
    refine T_istore_n (i := 1) (L' := [(2, 66), (0, 0)]) (pc' := 45) dX12_stands_44 rfl (by decide) rfl rfl ?_
    exact T_wk (H hG) ⟨Or.inr rfl, Or.inr rfl, trivial⟩
  · skip
    replace H := H.2 c1
    refine T_aload_n (i := 0) (pc' := 24) dX12_stands_23 rfl rfl rfl ?_
    refine U_gr (q := 85) (k := 28) (kI := 28) (pc' := 27) dX12_stands_24 rfl cl12 (by decide) rfl (by decide) flX12_69 rfl rfl rfl (G_at hG 85 rfl) (by decide) rfl ?_
    refine T_iconst (pc' := 28) dX12_stands_27 (by decide) rfl ?_
    refine T_iload_n (i := 1) (pc' := 29) dX12_stands_28 rfl rfl rfl ?_
    refine T_iadd (pc' := 30) dX12_stands_29 rfl ?_
    refine T_aload_n (i := 0) (pc' := 31) dX12_stands_30 rfl rfl rfl ?_
    refine U_gr (q := 85) (k := 28) (kI := 28) (pc' := 34) dX12_stands_31 rfl cl12 (by decide) rfl (by decide) flX12_69 rfl rfl rfl (G_at hG 85 rfl) (by decide) rfl ?_
    refine T_iload_n (i := 1) (pc' := 35) dX12_stands_34 rfl rfl rfl ?_
    obtain ⟨z1, z2, H⟩ := H
    refine T_iald (pc' := 36) dX12_stands_35 (by decide) rfl z1 z2 rfl ?_
    obtain ⟨z1, z2, H⟩ := H
    refine T_iast (pc' := 37) dX12_stands_36 (by decide) rfl z1 z2 rfl ?_
    have hG2 := (G_arr (x := 85) (i := (wr32 (3 + v1))) (y := (M 85 v1)) rfl (by decide) hG)
    obtain ⟨M3, eM3⟩ : ∃ m : Mem, m = (mset M 85 (wr32 (3 + v1)) (M 85 v1)) := ⟨_, rfl⟩
    rw [← eM3] at hG2 ⊢
    replace H := H M3 eM3
    refine T_iinc (L' := [(2, 66), (0, (wr32 (v1 + 1)))]) (pc' := 40) dX12_stands_37 rfl (by decide) rfl rfl ?_
    refine T_goto (pc' := 18) dX12_stands_40 (by decide) ?_
    exact T_wk (H hG2) ⟨Or.inr rfl, Or.inr rfl, trivial⟩
set_option maxRecDepth 100000 in
set_option maxHeartbeats 2000000 in
theorem wX12_stands_45 {E : EV} {h : Int} {M : Mem} {Q : Option MV → Mem → Prop} {v1 : Int}  (H : ((20 ≤ v1 → (G h M → TG E miX12_stands 1 h Q 74 [(2, 66), (0, 0)] [] M)) ∧ (¬ (20 ≤ v1) → 0 ≤ v1 ∧ v1 < 40 ∧ 0 ≤ (wr32 (20 + v1)) ∧ (wr32 (20 + v1)) < 40 ∧ (∀ M3 : Mem, M3 = (mset M 86 (wr32 (20 + v1)) (M 86 v1)) → (G h M3 → TG E miX12_stands 1 h Q 45 [(2, 66), (0, (wr32 (v1 + 1)))] [] M3))))) : G h M → TG E miX12_stands 1 h Q 45 [(2, 66), (0, v1)] [] M := by
  intro hG
  refine T_iload_n (i := 1) (pc' := 46) dX12_stands_45 rfl rfl rfl ?_
  refine T_bipush (pc' := 48) dX12_stands_46 rfl (by decide) rfl ?_
  refine T_icmp_ge (pc' := 72) dX12_stands_48 (by decide) (pf := 51) rfl (fun c1 => ?_) (fun c1 => ?_)
  · skip
    replace H := H.1 c1
    refine T_iconst (pc' := 73) dX12_stands_72 (by decide) rfl ?_
    refine T_istore_n (i := 1) (L' := [(2, 66), (0, 0)]) (pc' := 74) dX12_stands_73 rfl (by decide) rfl rfl ?_
    exact T_wk (H hG) ⟨Or.inr rfl, Or.inr rfl, trivial⟩
  · skip
    replace H := H.2 c1
    refine T_aload_n (i := 0) (pc' := 52) dX12_stands_51 rfl rfl rfl ?_
    refine U_gr (q := 86) (k := 29) (kI := 29) (pc' := 55) dX12_stands_52 rfl cl12 (by decide) rfl (by decide) flX12_72 rfl rfl rfl (G_at hG 86 rfl) (by decide) rfl ?_
    refine T_bipush (pc' := 57) dX12_stands_55 rfl (by decide) rfl ?_
    refine T_iload_n (i := 1) (pc' := 58) dX12_stands_57 rfl rfl rfl ?_
    refine T_iadd (pc' := 59) dX12_stands_58 rfl ?_
    refine T_aload_n (i := 0) (pc' := 60) dX12_stands_59 rfl rfl rfl ?_
    refine U_gr (q := 86) (k := 29) (kI := 29) (pc' := 63) dX12_stands_60 rfl cl12 (by decide) rfl (by decide) flX12_72 rfl rfl rfl (G_at hG 86 rfl) (by decide) rfl ?_
    refine T_iload_n (i := 1) (pc' := 64) dX12_stands_63 rfl rfl rfl ?_
    obtain ⟨z1, z2, H⟩ := H
    refine T_lald (pc' := 65) dX12_stands_64 (by decide) rfl z1 z2 rfl ?_
    obtain ⟨z1, z2, H⟩ := H
    refine T_last (pc' := 66) dX12_stands_65 (by decide) rfl z1 z2 rfl ?_
    have hG2 := (G_arr (x := 86) (i := (wr32 (20 + v1))) (y := (M 86 v1)) rfl (by decide) hG)
    obtain ⟨M3, eM3⟩ : ∃ m : Mem, m = (mset M 86 (wr32 (20 + v1)) (M 86 v1)) := ⟨_, rfl⟩
    rw [← eM3] at hG2 ⊢
    replace H := H M3 eM3
    refine T_iinc (L' := [(2, 66), (0, (wr32 (v1 + 1)))]) (pc' := 69) dX12_stands_66 rfl (by decide) rfl rfl ?_
    refine T_goto (pc' := 45) dX12_stands_69 (by decide) ?_
    exact T_wk (H hG2) ⟨Or.inr rfl, Or.inr rfl, trivial⟩
set_option maxRecDepth 100000 in
set_option maxHeartbeats 2000000 in
theorem wX12_stands_74 {E : EV} {h : Int} {M : Mem} {Q : Option MV → Mem → Prop} {v1 : Int}  (H : ((54 ≤ v1 → (G h M → TG E miX12_stands 1 h Q 103 [(2, 66), (0, 0)] [] M)) ∧ (¬ (54 ≤ v1) → 0 ≤ v1 ∧ v1 < 108 ∧ 0 ≤ (wr32 (54 + v1)) ∧ (wr32 (54 + v1)) < 108 ∧ (0 ≤ (M 87 v1) ∧ (M 87 v1) ≤ 1) ∧ (∀ M4 : Mem, M4 = (mset M 87 (wr32 (54 + v1)) (M 87 v1)) → (G h M4 → TG E miX12_stands 1 h Q 74 [(2, 66), (0, (wr32 (v1 + 1)))] [] M4))))) : G h M → TG E miX12_stands 1 h Q 74 [(2, 66), (0, v1)] [] M := by
  intro hG
  refine T_iload_n (i := 1) (pc' := 75) dX12_stands_74 rfl rfl rfl ?_
  refine T_bipush (pc' := 77) dX12_stands_75 rfl (by decide) rfl ?_
  refine T_icmp_ge (pc' := 101) dX12_stands_77 (by decide) (pf := 80) rfl (fun c1 => ?_) (fun c1 => ?_)
  · skip
    replace H := H.1 c1
    refine T_iconst (pc' := 102) dX12_stands_101 (by decide) rfl ?_
    refine T_istore_n (i := 1) (L' := [(2, 66), (0, 0)]) (pc' := 103) dX12_stands_102 rfl (by decide) rfl rfl ?_
    exact T_wk (H hG) ⟨Or.inr rfl, Or.inr rfl, trivial⟩
  · skip
    replace H := H.2 c1
    refine T_aload_n (i := 0) (pc' := 81) dX12_stands_80 rfl rfl rfl ?_
    refine U_gr (q := 87) (k := 30) (kI := 30) (pc' := 84) dX12_stands_81 rfl cl12 (by decide) rfl (by decide) flX12_76 rfl rfl rfl (G_at hG 87 rfl) (by decide) rfl ?_
    refine T_bipush (pc' := 86) dX12_stands_84 rfl (by decide) rfl ?_
    refine T_iload_n (i := 1) (pc' := 87) dX12_stands_86 rfl rfl rfl ?_
    refine T_iadd (pc' := 88) dX12_stands_87 rfl ?_
    refine T_aload_n (i := 0) (pc' := 89) dX12_stands_88 rfl rfl rfl ?_
    refine U_gr (q := 87) (k := 30) (kI := 30) (pc' := 92) dX12_stands_89 rfl cl12 (by decide) rfl (by decide) flX12_76 rfl rfl rfl (G_at hG 87 rfl) (by decide) rfl ?_
    refine T_iload_n (i := 1) (pc' := 93) dX12_stands_92 rfl rfl rfl ?_
    obtain ⟨z1, z2, H⟩ := H
    refine T_zald (pc' := 94) dX12_stands_93 (by decide) rfl z1 z2 rfl ?_
    refine T_zrng (x := 87) (i := v1) (n := 108) rfl (by decide) z1 (fun zb2 => ?_)
    obtain ⟨z1, z2, H⟩ := H
    obtain ⟨z3, H⟩ := H
    refine T_zast (pc' := 95) dX12_stands_94 (by decide) rfl z1 z2 z3 rfl ?_
    have hG3 := (G_arr (x := 87) (i := (wr32 (54 + v1))) (y := (M 87 v1)) rfl (by decide) hG)
    obtain ⟨M4, eM4⟩ : ∃ m : Mem, m = (mset M 87 (wr32 (54 + v1)) (M 87 v1)) := ⟨_, rfl⟩
    rw [← eM4] at hG3 ⊢
    replace H := H M4 eM4
    refine T_iinc (L' := [(2, 66), (0, (wr32 (v1 + 1)))]) (pc' := 98) dX12_stands_95 rfl (by decide) rfl rfl ?_
    refine T_goto (pc' := 74) dX12_stands_98 (by decide) ?_
    exact T_wk (H hG3) ⟨Or.inr rfl, Or.inr rfl, trivial⟩
set_option maxRecDepth 100000 in
set_option maxHeartbeats 2000000 in
theorem wX12_stands_103 {E : EV} {h : Int} {M : Mem} {Q : Option MV → Mem → Prop} {v1 : Int}  (H : ((162 ≤ v1 → (G h M → TG E miX12_stands 1 h Q 134 [(2, 66), (0, 0)] [] M)) ∧ (¬ (162 ≤ v1) → 0 ≤ v1 ∧ v1 < 324 ∧ 0 ≤ (wr32 (162 + v1)) ∧ (wr32 (162 + v1)) < 324 ∧ (∀ M3 : Mem, M3 = (mset M 88 (wr32 (162 + v1)) (M 88 v1)) → (G h M3 → TG E miX12_stands 1 h Q 103 [(2, 66), (0, (wr32 (v1 + 1)))] [] M3))))) : G h M → TG E miX12_stands 1 h Q 103 [(2, 66), (0, v1)] [] M := by
  intro hG
  refine T_iload_n (i := 1) (pc' := 104) dX12_stands_103 rfl rfl rfl ?_
  refine T_sipush (pc' := 107) dX12_stands_104 rfl (by decide) rfl ?_
  refine T_icmp_ge (pc' := 132) dX12_stands_107 (by decide) (pf := 110) rfl (fun c1 => ?_) (fun c1 => ?_)
  · skip
    replace H := H.1 c1
    refine T_iconst (pc' := 133) dX12_stands_132 (by decide) rfl ?_
    refine T_istore_n (i := 1) (L' := [(2, 66), (0, 0)]) (pc' := 134) dX12_stands_133 rfl (by decide) rfl rfl ?_
    exact T_wk (H hG) ⟨Or.inr rfl, Or.inr rfl, trivial⟩
  · skip
    replace H := H.2 c1
    refine T_aload_n (i := 0) (pc' := 111) dX12_stands_110 rfl rfl rfl ?_
    refine U_gr (q := 88) (k := 31) (kI := 31) (pc' := 114) dX12_stands_111 rfl cl12 (by decide) rfl (by decide) flX12_80 rfl rfl rfl (G_at hG 88 rfl) (by decide) rfl ?_
    refine T_sipush (pc' := 117) dX12_stands_114 rfl (by decide) rfl ?_
    refine T_iload_n (i := 1) (pc' := 118) dX12_stands_117 rfl rfl rfl ?_
    refine T_iadd (pc' := 119) dX12_stands_118 rfl ?_
    refine T_aload_n (i := 0) (pc' := 120) dX12_stands_119 rfl rfl rfl ?_
    refine U_gr (q := 88) (k := 31) (kI := 31) (pc' := 123) dX12_stands_120 rfl cl12 (by decide) rfl (by decide) flX12_80 rfl rfl rfl (G_at hG 88 rfl) (by decide) rfl ?_
    refine T_iload_n (i := 1) (pc' := 124) dX12_stands_123 rfl rfl rfl ?_
    obtain ⟨z1, z2, H⟩ := H
    refine T_iald (pc' := 125) dX12_stands_124 (by decide) rfl z1 z2 rfl ?_
    obtain ⟨z1, z2, H⟩ := H
    refine T_iast (pc' := 126) dX12_stands_125 (by decide) rfl z1 z2 rfl ?_
    have hG2 := (G_arr (x := 88) (i := (wr32 (162 + v1))) (y := (M 88 v1)) rfl (by decide) hG)
    obtain ⟨M3, eM3⟩ : ∃ m : Mem, m = (mset M 88 (wr32 (162 + v1)) (M 88 v1)) := ⟨_, rfl⟩
    rw [← eM3] at hG2 ⊢
    replace H := H M3 eM3
    refine T_iinc (L' := [(2, 66), (0, (wr32 (v1 + 1)))]) (pc' := 129) dX12_stands_126 rfl (by decide) rfl rfl ?_
    refine T_goto (pc' := 103) dX12_stands_129 (by decide) ?_
    exact T_wk (H hG2) ⟨Or.inr rfl, Or.inr rfl, trivial⟩
set_option maxRecDepth 100000 in
set_option maxHeartbeats 2000000 in
theorem wX12_stands_134 {E : EV} {h : Int} {M : Mem} {Q : Option MV → Mem → Prop} {v1 : Int}  (H : ((12 ≤ v1 → (G h M → TG E miX12_stands 1 h Q 163 [(2, 66), (0, 0)] [] M)) ∧ (¬ (12 ≤ v1) → 0 ≤ v1 ∧ v1 < 24 ∧ 0 ≤ (wr32 (12 + v1)) ∧ (wr32 (12 + v1)) < 24 ∧ (∀ M3 : Mem, M3 = (mset M 89 (wr32 (12 + v1)) (M 89 v1)) → (G h M3 → TG E miX12_stands 1 h Q 134 [(2, 66), (0, (wr32 (v1 + 1)))] [] M3))))) : G h M → TG E miX12_stands 1 h Q 134 [(2, 66), (0, v1)] [] M := by
  intro hG
  refine T_iload_n (i := 1) (pc' := 135) dX12_stands_134 rfl rfl rfl ?_
  refine T_bipush (pc' := 137) dX12_stands_135 rfl (by decide) rfl ?_
  refine T_icmp_ge (pc' := 161) dX12_stands_137 (by decide) (pf := 140) rfl (fun c1 => ?_) (fun c1 => ?_)
  · skip
    replace H := H.1 c1
    refine T_iconst (pc' := 162) dX12_stands_161 (by decide) rfl ?_
    refine T_istore_n (i := 1) (L' := [(2, 66), (0, 0)]) (pc' := 163) dX12_stands_162 rfl (by decide) rfl rfl ?_
    exact T_wk (H hG) ⟨Or.inr rfl, Or.inr rfl, trivial⟩
  · skip
    replace H := H.2 c1
    refine T_aload_n (i := 0) (pc' := 141) dX12_stands_140 rfl rfl rfl ?_
    refine U_gr (q := 89) (k := 32) (kI := 32) (pc' := 144) dX12_stands_141 rfl cl12 (by decide) rfl (by decide) flX12_83 rfl rfl rfl (G_at hG 89 rfl) (by decide) rfl ?_
    refine T_bipush (pc' := 146) dX12_stands_144 rfl (by decide) rfl ?_
    refine T_iload_n (i := 1) (pc' := 147) dX12_stands_146 rfl rfl rfl ?_
    refine T_iadd (pc' := 148) dX12_stands_147 rfl ?_
    refine T_aload_n (i := 0) (pc' := 149) dX12_stands_148 rfl rfl rfl ?_
    refine U_gr (q := 89) (k := 32) (kI := 32) (pc' := 152) dX12_stands_149 rfl cl12 (by decide) rfl (by decide) flX12_83 rfl rfl rfl (G_at hG 89 rfl) (by decide) rfl ?_
    refine T_iload_n (i := 1) (pc' := 153) dX12_stands_152 rfl rfl rfl ?_
    obtain ⟨z1, z2, H⟩ := H
    refine T_iald (pc' := 154) dX12_stands_153 (by decide) rfl z1 z2 rfl ?_
    obtain ⟨z1, z2, H⟩ := H
    refine T_iast (pc' := 155) dX12_stands_154 (by decide) rfl z1 z2 rfl ?_
    have hG2 := (G_arr (x := 89) (i := (wr32 (12 + v1))) (y := (M 89 v1)) rfl (by decide) hG)
    obtain ⟨M3, eM3⟩ : ∃ m : Mem, m = (mset M 89 (wr32 (12 + v1)) (M 89 v1)) := ⟨_, rfl⟩
    rw [← eM3] at hG2 ⊢
    replace H := H M3 eM3
    refine T_iinc (L' := [(2, 66), (0, (wr32 (v1 + 1)))]) (pc' := 158) dX12_stands_155 rfl (by decide) rfl rfl ?_
    refine T_goto (pc' := 134) dX12_stands_158 (by decide) ?_
    exact T_wk (H hG2) ⟨Or.inr rfl, Or.inr rfl, trivial⟩
set_option maxRecDepth 100000 in
set_option maxHeartbeats 2000000 in
theorem wX12_stands_163 {E : EV} {h : Int} {M : Mem} {Q : Option MV → Mem → Prop} {v1 : Int}  (H : ((6 ≤ v1 → (G h M → TG E miX12_stands 1 h Q 199 [(2, 66), (0, 0)] [] M)) ∧ (¬ (6 ≤ v1) → 0 ≤ v1 ∧ v1 < 12 ∧ 0 ≤ (wr32 (6 + v1)) ∧ (wr32 (6 + v1)) < 12 ∧ (∀ M3 : Mem, M3 = (mset M 90 (wr32 (6 + v1)) (M 90 v1)) → 0 ≤ v1 ∧ v1 < 6 ∧ (∀ M5 : Mem, M5 = (mset M3 92 v1 0) → (G h M5 → TG E miX12_stands 1 h Q 163 [(2, 66), (0, (wr32 (v1 + 1)))] [] M5)))))) : G h M → TG E miX12_stands 1 h Q 163 [(2, 66), (0, v1)] [] M := by
  intro hG
  refine T_iload_n (i := 1) (pc' := 164) dX12_stands_163 rfl rfl rfl ?_
  refine T_bipush (pc' := 166) dX12_stands_164 rfl (by decide) rfl ?_
  refine T_icmp_ge (pc' := 197) dX12_stands_166 (by decide) (pf := 169) rfl (fun c1 => ?_) (fun c1 => ?_)
  · skip
    replace H := H.1 c1
    refine T_iconst (pc' := 198) dX12_stands_197 (by decide) rfl ?_
    refine T_istore_n (i := 1) (L' := [(2, 66), (0, 0)]) (pc' := 199) dX12_stands_198 rfl (by decide) rfl rfl ?_
    exact T_wk (H hG) ⟨Or.inr rfl, Or.inr rfl, trivial⟩
  · skip
    replace H := H.2 c1
    refine T_aload_n (i := 0) (pc' := 170) dX12_stands_169 rfl rfl rfl ?_
    refine U_gr (q := 90) (k := 33) (kI := 33) (pc' := 173) dX12_stands_170 rfl cl12 (by decide) rfl (by decide) flX12_86 rfl rfl rfl (G_at hG 90 rfl) (by decide) rfl ?_
    refine T_bipush (pc' := 175) dX12_stands_173 rfl (by decide) rfl ?_
    refine T_iload_n (i := 1) (pc' := 176) dX12_stands_175 rfl rfl rfl ?_
    refine T_iadd (pc' := 177) dX12_stands_176 rfl ?_
    refine T_aload_n (i := 0) (pc' := 178) dX12_stands_177 rfl rfl rfl ?_
    refine U_gr (q := 90) (k := 33) (kI := 33) (pc' := 181) dX12_stands_178 rfl cl12 (by decide) rfl (by decide) flX12_86 rfl rfl rfl (G_at hG 90 rfl) (by decide) rfl ?_
    refine T_iload_n (i := 1) (pc' := 182) dX12_stands_181 rfl rfl rfl ?_
    obtain ⟨z1, z2, H⟩ := H
    refine T_iald (pc' := 183) dX12_stands_182 (by decide) rfl z1 z2 rfl ?_
    obtain ⟨z1, z2, H⟩ := H
    refine T_iast (pc' := 184) dX12_stands_183 (by decide) rfl z1 z2 rfl ?_
    have hG2 := (G_arr (x := 90) (i := (wr32 (6 + v1))) (y := (M 90 v1)) rfl (by decide) hG)
    obtain ⟨M3, eM3⟩ : ∃ m : Mem, m = (mset M 90 (wr32 (6 + v1)) (M 90 v1)) := ⟨_, rfl⟩
    rw [← eM3] at hG2 ⊢
    replace H := H M3 eM3
    refine T_aload_n (i := 0) (pc' := 185) dX12_stands_184 rfl rfl rfl ?_
    refine U_gr (q := 92) (k := 41) (kI := 41) (pc' := 188) dX12_stands_185 rfl cl12 (by decide) rfl (by decide) flX12_92 rfl rfl rfl (G_at hG2 92 rfl) (by decide) rfl ?_
    refine T_iload_n (i := 1) (pc' := 189) dX12_stands_188 rfl rfl rfl ?_
    refine T_iconst (pc' := 190) dX12_stands_189 (by decide) rfl ?_
    obtain ⟨z1, z2, H⟩ := H
    refine T_iast (pc' := 191) dX12_stands_190 (by decide) rfl z1 z2 rfl ?_
    have hG4 := (G_arr (x := 92) (i := v1) (y := 0) rfl (by decide) hG2)
    obtain ⟨M5, eM5⟩ : ∃ m : Mem, m = (mset M3 92 v1 0) := ⟨_, rfl⟩
    rw [← eM5] at hG4 ⊢
    replace H := H M5 eM5
    refine T_iinc (L' := [(2, 66), (0, (wr32 (v1 + 1)))]) (pc' := 194) dX12_stands_191 rfl (by decide) rfl rfl ?_
    refine T_goto (pc' := 163) dX12_stands_194 (by decide) ?_
    exact T_wk (H hG4) ⟨Or.inr rfl, Or.inr rfl, trivial⟩
set_option maxRecDepth 100000 in
set_option maxHeartbeats 2000000 in
theorem wX12_stands_199 {E : EV} {h : Int} {M : Mem} {Q : Option MV → Mem → Prop} {v1 : Int}  (H : ((4 ≤ v1 → (∀ M3 : Mem, M3 = (mset M 66 42 (wr32 ((m_shl 1 (M 85 0)) - 1))) → (∀ M5 : Mem, M5 = (mset M3 66 54 0) → Q none M5))) ∧ (¬ (4 ≤ v1) → 0 ≤ v1 ∧ v1 < 8 ∧ 0 ≤ (wr32 (4 + v1)) ∧ (wr32 (4 + v1)) < 8 ∧ (∀ M7 : Mem, M7 = (mset M 91 (wr32 (4 + v1)) (M 91 v1)) → (G h M7 → TG E miX12_stands 1 h Q 199 [(2, 66), (0, (wr32 (v1 + 1)))] [] M7))))) : G h M → TG E miX12_stands 1 h Q 199 [(2, 66), (0, v1)] [] M := by
  intro hG
  refine T_iload_n (i := 1) (pc' := 200) dX12_stands_199 rfl rfl rfl ?_
  refine T_iconst (pc' := 201) dX12_stands_200 (by decide) rfl ?_
  refine T_icmp_ge (pc' := 224) dX12_stands_201 (by decide) (pf := 204) rfl (fun c1 => ?_) (fun c1 => ?_)
  · skip
    replace H := H.1 c1
    refine T_aload_n (i := 0) (pc' := 225) dX12_stands_224 rfl rfl rfl ?_
    refine T_iconst (pc' := 226) dX12_stands_225 (by decide) rfl ?_
    refine T_aload_n (i := 0) (pc' := 227) dX12_stands_226 rfl rfl rfl ?_
    refine U_gr (q := 85) (k := 28) (kI := 28) (pc' := 230) dX12_stands_227 rfl cl12 (by decide) rfl (by decide) flX12_69 rfl rfl rfl (G_at hG 85 rfl) (by decide) rfl ?_
    refine T_iconst (pc' := 231) dX12_stands_230 (by decide) rfl ?_
    refine T_iald (pc' := 232) dX12_stands_231 (by decide) rfl (by decide) (by decide) rfl ?_
    refine T_ishl (pc' := 233) dX12_stands_232 rfl ?_
    refine T_iconst (pc' := 234) dX12_stands_233 (by decide) rfl ?_
    refine T_isub (pc' := 235) dX12_stands_234 rfl ?_
    refine U_pf (y := (wr32 ((m_shl 1 (M 85 0)) - 1))) (k := 42) (kI := 42) (pc' := 238) dX12_stands_235 rfl cl12 (by decide) rfl (by decide) flX12_340 rfl rfl rfl rfl rfl (by decide) (fun z => z) rfl ?_
    have hG2 := (G_fld (x := 66) (i := 42) (y := (wr32 ((m_shl 1 (M 85 0)) - 1))) rfl (by decide) (by decide) (by decide) hG)
    obtain ⟨M3, eM3⟩ : ∃ m : Mem, m = (mset M 66 42 (wr32 ((m_shl 1 (M 85 0)) - 1))) := ⟨_, rfl⟩
    rw [← eM3] at hG2 ⊢
    replace H := H M3 eM3
    refine T_aload_n (i := 0) (pc' := 239) dX12_stands_238 rfl rfl rfl ?_
    refine T_iconst (pc' := 240) dX12_stands_239 (by decide) rfl ?_
    refine U_pf (y := 0) (k := 54) (kI := 54) (pc' := 243) dX12_stands_240 rfl cl12 (by decide) rfl (by decide) flX12_343 rfl rfl rfl rfl rfl (by decide) (fun z => z) rfl ?_
    have hG4 := (G_fld (x := 66) (i := 54) (y := 0) rfl (by decide) (by decide) (by decide) hG2)
    obtain ⟨M5, eM5⟩ : ∃ m : Mem, m = (mset M3 66 54 0) := ⟨_, rfl⟩
    rw [← eM5] at hG4 ⊢
    replace H := H M5 eM5
    exact T_vret dX12_stands_243 rfl ⟨rfl, hG4, H⟩
  · skip
    replace H := H.2 c1
    refine T_aload_n (i := 0) (pc' := 205) dX12_stands_204 rfl rfl rfl ?_
    refine U_gr (q := 91) (k := 34) (kI := 34) (pc' := 208) dX12_stands_205 rfl cl12 (by decide) rfl (by decide) flX12_89 rfl rfl rfl (G_at hG 91 rfl) (by decide) rfl ?_
    refine T_iconst (pc' := 209) dX12_stands_208 (by decide) rfl ?_
    refine T_iload_n (i := 1) (pc' := 210) dX12_stands_209 rfl rfl rfl ?_
    refine T_iadd (pc' := 211) dX12_stands_210 rfl ?_
    refine T_aload_n (i := 0) (pc' := 212) dX12_stands_211 rfl rfl rfl ?_
    refine U_gr (q := 91) (k := 34) (kI := 34) (pc' := 215) dX12_stands_212 rfl cl12 (by decide) rfl (by decide) flX12_89 rfl rfl rfl (G_at hG 91 rfl) (by decide) rfl ?_
    refine T_iload_n (i := 1) (pc' := 216) dX12_stands_215 rfl rfl rfl ?_
    obtain ⟨z1, z2, H⟩ := H
    refine T_iald (pc' := 217) dX12_stands_216 (by decide) rfl z1 z2 rfl ?_
    obtain ⟨z1, z2, H⟩ := H
    refine T_iast (pc' := 218) dX12_stands_217 (by decide) rfl z1 z2 rfl ?_
    have hG6 := (G_arr (x := 91) (i := (wr32 (4 + v1))) (y := (M 91 v1)) rfl (by decide) hG)
    obtain ⟨M7, eM7⟩ : ∃ m : Mem, m = (mset M 91 (wr32 (4 + v1)) (M 91 v1)) := ⟨_, rfl⟩
    rw [← eM7] at hG6 ⊢
    replace H := H M7 eM7
    refine T_iinc (L' := [(2, 66), (0, (wr32 (v1 + 1)))]) (pc' := 221) dX12_stands_218 rfl (by decide) rfl rfl ?_
    refine T_goto (pc' := 199) dX12_stands_221 (by decide) ?_
    exact T_wk (H hG6) ⟨Or.inr rfl, Or.inr rfl, trivial⟩
theorem eX12_stands {E : EV} {h : Int} {M : Mem} {Q : Option MV → Mem → Prop}  (H : G h M → TG E miX12_stands 1 h Q 0 [(2, 66), (3, 0)] [] M) : C2 E miX12_stands 1 h [(2, 66)] M Q :=
  C2_of (by decide +kernel) (Nat.le_of_ble_eq_true rfl) rfl H
set_option maxRecDepth 100000 in
set_option maxHeartbeats 2000000 in
theorem wX12_spreads_0 {E : EV} {h : Int} {M : Mem} {Q : Option MV → Mem → Prop}   (H : (G h M → TG E miX12_spreads 3 h Q 4 [(2, 66), (0, 0), (0, 0), (3, 0), (3, 0)] [] M)) : G h M → TG E miX12_spreads 3 h Q 0 [(2, 66), (3, 0), (3, 0), (3, 0), (3, 0)] [] M := by
  intro hG
  refine T_iconst (pc' := 1) dX12_spreads_0 (by decide) rfl ?_
  refine T_istore_n (i := 1) (L' := [(2, 66), (0, 0), (3, 0), (3, 0), (3, 0)]) (pc' := 2) dX12_spreads_1 rfl (by decide) rfl rfl ?_
  refine T_iconst (pc' := 3) dX12_spreads_2 (by decide) rfl ?_
  refine T_istore_n (i := 2) (L' := [(2, 66), (0, 0), (0, 0), (3, 0), (3, 0)]) (pc' := 4) dX12_spreads_3 rfl (by decide) rfl rfl ?_
  exact T_wk (H hG) ⟨Or.inr rfl, Or.inr rfl, Or.inr rfl, Or.inl rfl, Or.inl rfl, trivial⟩
set_option maxRecDepth 100000 in
set_option maxHeartbeats 2000000 in
theorem wX12_spreads_4 {E : EV} {h : Int} {M : Mem} {Q : Option MV → Mem → Prop} {v1 : Int} {v2 : Int}  (H : ((54 ≤ v2 → (G h M → TG E miX12_spreads 3 h Q 27 [(2, 66), (0, v1), (0, 0), (3, 0), (3, 0)] [] M)) ∧ (¬ (54 ≤ v2) → 0 ≤ v2 ∧ v2 < 54 ∧ (∀ M3 : Mem, M3 = (mset M 93 v2 1000) → (G h M3 → TG E miX12_spreads 3 h Q 4 [(2, 66), (0, v1), (0, (wr32 (v2 + 1))), (3, 0), (3, 0)] [] M3))))) : G h M → TG E miX12_spreads 3 h Q 4 [(2, 66), (0, v1), (0, v2), (3, 0), (3, 0)] [] M := by
  intro hG
  refine T_iload_n (i := 2) (pc' := 5) dX12_spreads_4 rfl rfl rfl ?_
  refine T_bipush (pc' := 7) dX12_spreads_5 rfl (by decide) rfl ?_
  refine T_icmp_ge (pc' := 25) dX12_spreads_7 (by decide) (pf := 10) rfl (fun c1 => ?_) (fun c1 => ?_)
  · skip
    replace H := H.1 c1
    refine T_iconst (pc' := 26) dX12_spreads_25 (by decide) rfl ?_
    refine T_istore_n (i := 2) (L' := [(2, 66), (0, v1), (0, 0), (3, 0), (3, 0)]) (pc' := 27) dX12_spreads_26 rfl (by decide) rfl rfl ?_
    exact T_wk (H hG) ⟨Or.inr rfl, Or.inr rfl, Or.inr rfl, Or.inl rfl, Or.inl rfl, trivial⟩
  · skip
    replace H := H.2 c1
    refine T_aload_n (i := 0) (pc' := 11) dX12_spreads_10 rfl rfl rfl ?_
    refine U_gr (q := 93) (k := 43) (kI := 43) (pc' := 14) dX12_spreads_11 rfl cl12 (by decide) rfl (by decide) flX12_95 rfl rfl rfl (G_at hG 93 rfl) (by decide) rfl ?_
    refine T_iload_n (i := 2) (pc' := 15) dX12_spreads_14 rfl rfl rfl ?_
    refine T_sipush (pc' := 18) dX12_spreads_15 rfl (by decide) rfl ?_
    obtain ⟨z1, z2, H⟩ := H
    refine T_iast (pc' := 19) dX12_spreads_18 (by decide) rfl z1 z2 rfl ?_
    have hG2 := (G_arr (x := 93) (i := v2) (y := 1000) rfl (by decide) hG)
    obtain ⟨M3, eM3⟩ : ∃ m : Mem, m = (mset M 93 v2 1000) := ⟨_, rfl⟩
    rw [← eM3] at hG2 ⊢
    replace H := H M3 eM3
    refine T_iinc (L' := [(2, 66), (0, v1), (0, (wr32 (v2 + 1))), (3, 0), (3, 0)]) (pc' := 22) dX12_spreads_19 rfl (by decide) rfl rfl ?_
    refine T_goto (pc' := 4) dX12_spreads_22 (by decide) ?_
    exact T_wk (H hG2) ⟨Or.inr rfl, Or.inr rfl, Or.inr rfl, Or.inl rfl, Or.inl rfl, trivial⟩
set_option maxRecDepth 100000 in
set_option maxHeartbeats 2000000 in
theorem wX12_spreads_27 {E : EV} {h : Int} {M : Mem} {Q : Option MV → Mem → Prop} {v1 : Int} {v2 : Int}  (H : (((fX12_doorMany M) ≤ v2 → (G h M → TG E miX12_spreads 3 h Q 85 [(2, 66), (0, v1), (0, 0), (3, 0), (3, 0)] [] M)) ∧ (¬ ((fX12_doorMany M) ≤ v2) → 0 ≤ v2 ∧ v2 < 6 ∧ (((M 92 v2) = 0 → 0 ≤ (wr32 (6 + v2)) ∧ (wr32 (6 + v2)) < 12 ∧ 0 ≤ (M 90 (wr32 (6 + v2))) ∧ (M 90 (wr32 (6 + v2))) < 54 ∧ (∀ M5 : Mem, M5 = (mset M 93 (M 90 (wr32 (6 + v2))) 0) → 0 ≤ (wr32 (6 + v2)) ∧ (wr32 (6 + v2)) < 12 ∧ 0 ≤ v1 ∧ v1 < 54 ∧ (∀ M7 : Mem, M7 = (mset M5 94 v1 (M5 90 (wr32 (6 + v2)))) → (G h M7 → TG E miX12_spreads 3 h Q 27 [(2, 66), (0, (wr32 (v1 + 1))), (0, (wr32 (v2 + 1))), (3, 0), (3, 0)] [] M7)))) ∧ (¬ ((M 92 v2) = 0) → (G h M → TG E miX12_spreads 3 h Q 27 [(2, 66), (0, v1), (0, (wr32 (v2 + 1))), (3, 0), (3, 0)] [] M)))))) : G h M → TG E miX12_spreads 3 h Q 27 [(2, 66), (0, v1), (0, v2), (3, 0), (3, 0)] [] M := by
  intro hG
  refine T_iload_n (i := 2) (pc' := 28) dX12_spreads_27 rfl rfl rfl ?_
  refine T_aload_n (i := 0) (pc' := 29) dX12_spreads_28 rfl rfl rfl ?_
  refine T_callV (av := []) (st := [(0, v2)]) (d2 := 1) (nc2 := 0) (ns2 := 0) (pc' := 32) dX12_spreads_29 rfl mtX12_doorMany mvX12_doorMany mlX12_361 cl12 rfl rfl rfl (Nat.le_of_ble_eq_true rfl) (by decide) ⟨by decide, by decide⟩ rfl (pX12_doorMany (E := E) (h := h) (M := M) hG) (kF (st2 := [(0, (fX12_doorMany M)), (0, v2)]) rfl (fun hG1 => ?_))
  refine T_icmp_ge (pc' := 83) dX12_spreads_32 (by decide) (pf := 35) rfl (fun c2 => ?_) (fun c2 => ?_)
  · skip
    replace H := H.1 c2
    refine T_iconst (pc' := 84) dX12_spreads_83 (by decide) rfl ?_
    refine T_istore_n (i := 2) (L' := [(2, 66), (0, v1), (0, 0), (3, 0), (3, 0)]) (pc' := 85) dX12_spreads_84 rfl (by decide) rfl rfl ?_
    exact T_wk (H hG) ⟨Or.inr rfl, Or.inr rfl, Or.inr rfl, Or.inl rfl, Or.inl rfl, trivial⟩
  · skip
    replace H := H.2 c2
    refine T_aload_n (i := 0) (pc' := 36) dX12_spreads_35 rfl rfl rfl ?_
    refine U_gr (q := 92) (k := 41) (kI := 41) (pc' := 39) dX12_spreads_36 rfl cl12 (by decide) rfl (by decide) flX12_92 rfl rfl rfl (G_at hG 92 rfl) (by decide) rfl ?_
    refine T_iload_n (i := 2) (pc' := 40) dX12_spreads_39 rfl rfl rfl ?_
    obtain ⟨z1, z2, H⟩ := H
    refine T_iald (pc' := 41) dX12_spreads_40 (by decide) rfl z1 z2 rfl ?_
    refine T_if_ne (pc' := 77) dX12_spreads_41 (by decide) (pf := 44) rfl (fun c3 => ?_) (fun c3 => ?_)
    · skip
      replace H := H.2 c3
      refine T_iinc (L' := [(2, 66), (0, v1), (0, (wr32 (v2 + 1))), (3, 0), (3, 0)]) (pc' := 80) dX12_spreads_77 rfl (by decide) rfl rfl ?_
      refine T_goto (pc' := 27) dX12_spreads_80 (by decide) ?_
      exact T_wk (H hG) ⟨Or.inr rfl, Or.inr rfl, Or.inr rfl, Or.inl rfl, Or.inl rfl, trivial⟩
    · skip
      replace H := H.1 c3
      refine T_aload_n (i := 0) (pc' := 45) dX12_spreads_44 rfl rfl rfl ?_
      refine U_gr (q := 93) (k := 43) (kI := 43) (pc' := 48) dX12_spreads_45 rfl cl12 (by decide) rfl (by decide) flX12_95 rfl rfl rfl (G_at hG 93 rfl) (by decide) rfl ?_
      refine T_aload_n (i := 0) (pc' := 49) dX12_spreads_48 rfl rfl rfl ?_
      refine U_gr (q := 90) (k := 33) (kI := 33) (pc' := 52) dX12_spreads_49 rfl cl12 (by decide) rfl (by decide) flX12_86 rfl rfl rfl (G_at hG 90 rfl) (by decide) rfl ?_
      refine T_bipush (pc' := 54) dX12_spreads_52 rfl (by decide) rfl ?_
      refine T_iload_n (i := 2) (pc' := 55) dX12_spreads_54 rfl rfl rfl ?_
      refine T_iadd (pc' := 56) dX12_spreads_55 rfl ?_
      obtain ⟨z1, z2, H⟩ := H
      refine T_iald (pc' := 57) dX12_spreads_56 (by decide) rfl z1 z2 rfl ?_
      refine T_iconst (pc' := 58) dX12_spreads_57 (by decide) rfl ?_
      obtain ⟨z1, z2, H⟩ := H
      refine T_iast (pc' := 59) dX12_spreads_58 (by decide) rfl z1 z2 rfl ?_
      have hG4 := (G_arr (x := 93) (i := (M 90 (wr32 (6 + v2)))) (y := 0) rfl (by decide) hG)
      obtain ⟨M5, eM5⟩ : ∃ m : Mem, m = (mset M 93 (M 90 (wr32 (6 + v2))) 0) := ⟨_, rfl⟩
      rw [← eM5] at hG4 ⊢
      replace H := H M5 eM5
      refine T_aload_n (i := 0) (pc' := 60) dX12_spreads_59 rfl rfl rfl ?_
      refine U_gr (q := 94) (k := 44) (kI := 44) (pc' := 63) dX12_spreads_60 rfl cl12 (by decide) rfl (by decide) flX12_98 rfl rfl rfl (G_at hG4 94 rfl) (by decide) rfl ?_
      refine T_iload_n (i := 1) (pc' := 64) dX12_spreads_63 rfl rfl rfl ?_
      refine T_aload_n (i := 0) (pc' := 65) dX12_spreads_64 rfl rfl rfl ?_
      refine U_gr (q := 90) (k := 33) (kI := 33) (pc' := 68) dX12_spreads_65 rfl cl12 (by decide) rfl (by decide) flX12_86 rfl rfl rfl (G_at hG4 90 rfl) (by decide) rfl ?_
      refine T_bipush (pc' := 70) dX12_spreads_68 rfl (by decide) rfl ?_
      refine T_iload_n (i := 2) (pc' := 71) dX12_spreads_70 rfl rfl rfl ?_
      refine T_iadd (pc' := 72) dX12_spreads_71 rfl ?_
      obtain ⟨z1, z2, H⟩ := H
      refine T_iald (pc' := 73) dX12_spreads_72 (by decide) rfl z1 z2 rfl ?_
      obtain ⟨z1, z2, H⟩ := H
      refine T_iast (pc' := 74) dX12_spreads_73 (by decide) rfl z1 z2 rfl ?_
      have hG6 := (G_arr (x := 94) (i := v1) (y := (M5 90 (wr32 (6 + v2)))) rfl (by decide) hG4)
      obtain ⟨M7, eM7⟩ : ∃ m : Mem, m = (mset M5 94 v1 (M5 90 (wr32 (6 + v2)))) := ⟨_, rfl⟩
      rw [← eM7] at hG6 ⊢
      replace H := H M7 eM7
      refine T_iinc (L' := [(2, 66), (0, (wr32 (v1 + 1))), (0, v2), (3, 0), (3, 0)]) (pc' := 77) dX12_spreads_74 rfl (by decide) rfl rfl ?_
      refine T_iinc (L' := [(2, 66), (0, (wr32 (v1 + 1))), (0, (wr32 (v2 + 1))), (3, 0), (3, 0)]) (pc' := 80) dX12_spreads_77 rfl (by decide) rfl rfl ?_
      refine T_goto (pc' := 27) dX12_spreads_80 (by decide) ?_
      exact T_wk (H hG6) ⟨Or.inr rfl, Or.inr rfl, Or.inr rfl, Or.inl rfl, Or.inl rfl, trivial⟩
set_option maxRecDepth 100000 in
set_option maxHeartbeats 2000000 in
theorem wX12_spreads_85 {E : EV} {h : Int} {M : Mem} {Q : Option MV → Mem → Prop} {v1 : Int} {v2 : Int}  (H : ((v1 ≤ v2 → Q none M) ∧ (¬ (v1 ≤ v2) → (G h M → TG E miX12_spreads 3 h Q 92 [(2, 66), (0, v1), (0, v2), (0, 0), (3, 0)] [] M)))) : G h M → TG E miX12_spreads 3 h Q 85 [(2, 66), (0, v1), (0, v2), (3, 0), (3, 0)] [] M := by
  intro hG
  refine T_iload_n (i := 2) (pc' := 86) dX12_spreads_85 rfl rfl rfl ?_
  refine T_iload_n (i := 1) (pc' := 87) dX12_spreads_86 rfl rfl rfl ?_
  refine T_icmp_ge (pc' := 169) dX12_spreads_87 (by decide) (pf := 90) rfl (fun c1 => ?_) (fun c1 => ?_)
  · skip
    replace H := H.1 c1
    exact T_vret dX12_spreads_169 rfl ⟨rfl, hG, H⟩
  · skip
    replace H := H.2 c1
    refine T_iconst (pc' := 91) dX12_spreads_90 (by decide) rfl ?_
    refine T_istore_n (i := 3) (L' := [(2, 66), (0, v1), (0, v2), (0, 0), (3, 0)]) (pc' := 92) dX12_spreads_91 rfl (by decide) rfl rfl ?_
    exact T_wk (H hG) ⟨Or.inr rfl, Or.inr rfl, Or.inr rfl, Or.inr rfl, Or.inl rfl, trivial⟩
set_option maxRecDepth 100000 in
set_option maxHeartbeats 2000000 in
theorem wX12_spreads_92 {E : EV} {h : Int} {M : Mem} {Q : Option MV → Mem → Prop} {v1 : Int} {v2 : Int} {v3 : Int}  (H : ((4 ≤ v3 → (G h M → TG E miX12_spreads 3 h Q 85 [(2, 66), (0, v1), (0, (wr32 (v2 + 1))), (3, 0), (3, 0)] [] M)) ∧ (¬ (4 ≤ v3) → 0 ≤ v2 ∧ v2 < 54 ∧ (nX12_stepped M (M 94 v2) v3) ∧ 0 ≤ (fX12_stepped M (M 94 v2) v3) ∧ (fX12_stepped M (M 94 v2) v3) < 54 ∧ (((M 93 (fX12_stepped M (M 94 v2) v3)) = 1000 → 0 ≤ v2 ∧ v2 < 54 ∧ 0 ≤ (M 94 v2) ∧ (M 94 v2) < 54 ∧ 0 ≤ (fX12_stepped M (M 94 v2) v3) ∧ (fX12_stepped M (M 94 v2) v3) < 54 ∧ (∀ M6 : Mem, M6 = (mset M 93 (fX12_stepped M (M 94 v2) v3) (wr32 ((M 93 (M 94 v2)) + 1))) → 0 ≤ v1 ∧ v1 < 54 ∧ (∀ M8 : Mem, M8 = (mset M6 94 v1 (fX12_stepped M (M 94 v2) v3)) → (G h M8 → TG E miX12_spreads 3 h Q 92 [(2, 66), (0, (wr32 (v1 + 1))), (0, v2), (0, (wr32 (v3 + 1))), (3, 0)] [] M8)))) ∧ (¬ ((M 93 (fX12_stepped M (M 94 v2) v3)) = 1000) → (G h M → TG E miX12_spreads 3 h Q 92 [(2, 66), (0, v1), (0, v2), (0, (wr32 (v3 + 1))), (3, 0)] [] M)))))) : G h M → TG E miX12_spreads 3 h Q 92 [(2, 66), (0, v1), (0, v2), (0, v3), (3, 0)] [] M := by
  intro hG
  refine T_iload_n (i := 3) (pc' := 93) dX12_spreads_92 rfl rfl rfl ?_
  refine T_iconst (pc' := 94) dX12_spreads_93 (by decide) rfl ?_
  refine T_icmp_ge (pc' := 163) dX12_spreads_94 (by decide) (pf := 97) rfl (fun c1 => ?_) (fun c1 => ?_)
  · skip
    replace H := H.1 c1
    refine T_iinc (L' := [(2, 66), (0, v1), (0, (wr32 (v2 + 1))), (0, v3), (3, 0)]) (pc' := 166) dX12_spreads_163 rfl (by decide) rfl rfl ?_
    refine T_goto (pc' := 85) dX12_spreads_166 (by decide) ?_
    exact T_wk (H hG) ⟨Or.inr rfl, Or.inr rfl, Or.inr rfl, Or.inl rfl, Or.inl rfl, trivial⟩
  · skip
    replace H := H.2 c1
    refine T_aload_n (i := 0) (pc' := 98) dX12_spreads_97 rfl rfl rfl ?_
    refine T_aload_n (i := 0) (pc' := 99) dX12_spreads_98 rfl rfl rfl ?_
    refine U_gr (q := 94) (k := 44) (kI := 44) (pc' := 102) dX12_spreads_99 rfl cl12 (by decide) rfl (by decide) flX12_98 rfl rfl rfl (G_at hG 94 rfl) (by decide) rfl ?_
    refine T_iload_n (i := 2) (pc' := 103) dX12_spreads_102 rfl rfl rfl ?_
    obtain ⟨z1, z2, H⟩ := H
    refine T_iald (pc' := 104) dX12_spreads_103 (by decide) rfl z1 z2 rfl ?_
    refine T_iload_n (i := 3) (pc' := 105) dX12_spreads_104 rfl rfl rfl ?_
    obtain ⟨z2, H⟩ := H
    refine T_callV (av := [(0, (M 94 v2)), (0, v3)]) (st := []) (d2 := 2) (nc2 := 0) (ns2 := 0) (pc' := 108) dX12_spreads_105 rfl mtX12_stepped mvX12_stepped mlX12_364 cl12 rfl rfl rfl (Nat.le_of_ble_eq_true rfl) (by decide) ⟨by decide, by decide⟩ rfl (pX12_stepped (E := E) (h := h) (M := M) (v1 := (M 94 v2)) (v2 := v3) z2 hG) (kF (st2 := [(0, (fX12_stepped M (M 94 v2) v3))]) rfl (fun hG3 => ?_))
    refine T_istore (i := 4) (L' := [(2, 66), (0, v1), (0, v2), (0, v3), (0, (fX12_stepped M (M 94 v2) v3))]) (pc' := 110) dX12_spreads_108 (by decide) rfl rfl ?_
    refine T_aload_n (i := 0) (pc' := 111) dX12_spreads_110 rfl rfl rfl ?_
    refine U_gr (q := 93) (k := 43) (kI := 43) (pc' := 114) dX12_spreads_111 rfl cl12 (by decide) rfl (by decide) flX12_95 rfl rfl rfl (G_at hG 93 rfl) (by decide) rfl ?_
    refine T_iload (i := 4) (pc' := 116) dX12_spreads_114 rfl rfl ?_
    obtain ⟨z1, z2, H⟩ := H
    refine T_iald (pc' := 117) dX12_spreads_116 (by decide) rfl z1 z2 rfl ?_
    refine T_sipush (pc' := 120) dX12_spreads_117 rfl (by decide) rfl ?_
    refine T_icmp_eq (pc' := 126) dX12_spreads_120 (by decide) (pf := 123) rfl (fun c4 => ?_) (fun c4 => ?_)
    · skip
      replace H := H.1 c4
      refine T_aload_n (i := 0) (pc' := 127) dX12_spreads_126 rfl rfl rfl ?_
      refine U_gr (q := 93) (k := 43) (kI := 43) (pc' := 130) dX12_spreads_127 rfl cl12 (by decide) rfl (by decide) flX12_95 rfl rfl rfl (G_at hG 93 rfl) (by decide) rfl ?_
      refine T_iload (i := 4) (pc' := 132) dX12_spreads_130 rfl rfl ?_
      refine T_aload_n (i := 0) (pc' := 133) dX12_spreads_132 rfl rfl rfl ?_
      refine U_gr (q := 93) (k := 43) (kI := 43) (pc' := 136) dX12_spreads_133 rfl cl12 (by decide) rfl (by decide) flX12_95 rfl rfl rfl (G_at hG 93 rfl) (by decide) rfl ?_
      refine T_aload_n (i := 0) (pc' := 137) dX12_spreads_136 rfl rfl rfl ?_
      refine U_gr (q := 94) (k := 44) (kI := 44) (pc' := 140) dX12_spreads_137 rfl cl12 (by decide) rfl (by decide) flX12_98 rfl rfl rfl (G_at hG 94 rfl) (by decide) rfl ?_
      refine T_iload_n (i := 2) (pc' := 141) dX12_spreads_140 rfl rfl rfl ?_
      obtain ⟨z1, z2, H⟩ := H
      refine T_iald (pc' := 142) dX12_spreads_141 (by decide) rfl z1 z2 rfl ?_
      obtain ⟨z1, z2, H⟩ := H
      refine T_iald (pc' := 143) dX12_spreads_142 (by decide) rfl z1 z2 rfl ?_
      refine T_iconst (pc' := 144) dX12_spreads_143 (by decide) rfl ?_
      refine T_iadd (pc' := 145) dX12_spreads_144 rfl ?_
      obtain ⟨z1, z2, H⟩ := H
      refine T_iast (pc' := 146) dX12_spreads_145 (by decide) rfl z1 z2 rfl ?_
      have hG5 := (G_arr (x := 93) (i := (fX12_stepped M (M 94 v2) v3)) (y := (wr32 ((M 93 (M 94 v2)) + 1))) rfl (by decide) hG)
      obtain ⟨M6, eM6⟩ : ∃ m : Mem, m = (mset M 93 (fX12_stepped M (M 94 v2) v3) (wr32 ((M 93 (M 94 v2)) + 1))) := ⟨_, rfl⟩
      rw [← eM6] at hG5 ⊢
      replace H := H M6 eM6
      refine T_aload_n (i := 0) (pc' := 147) dX12_spreads_146 rfl rfl rfl ?_
      refine U_gr (q := 94) (k := 44) (kI := 44) (pc' := 150) dX12_spreads_147 rfl cl12 (by decide) rfl (by decide) flX12_98 rfl rfl rfl (G_at hG5 94 rfl) (by decide) rfl ?_
      refine T_iload_n (i := 1) (pc' := 151) dX12_spreads_150 rfl rfl rfl ?_
      refine T_iload (i := 4) (pc' := 153) dX12_spreads_151 rfl rfl ?_
      obtain ⟨z1, z2, H⟩ := H
      refine T_iast (pc' := 154) dX12_spreads_153 (by decide) rfl z1 z2 rfl ?_
      have hG7 := (G_arr (x := 94) (i := v1) (y := (fX12_stepped M (M 94 v2) v3)) rfl (by decide) hG5)
      obtain ⟨M8, eM8⟩ : ∃ m : Mem, m = (mset M6 94 v1 (fX12_stepped M (M 94 v2) v3)) := ⟨_, rfl⟩
      rw [← eM8] at hG7 ⊢
      replace H := H M8 eM8
      refine T_iinc (L' := [(2, 66), (0, (wr32 (v1 + 1))), (0, v2), (0, v3), (0, (fX12_stepped M (M 94 v2) v3))]) (pc' := 157) dX12_spreads_154 rfl (by decide) rfl rfl ?_
      refine T_iinc (L' := [(2, 66), (0, (wr32 (v1 + 1))), (0, v2), (0, (wr32 (v3 + 1))), (0, (fX12_stepped M (M 94 v2) v3))]) (pc' := 160) dX12_spreads_157 rfl (by decide) rfl rfl ?_
      refine T_goto (pc' := 92) dX12_spreads_160 (by decide) ?_
      exact T_wk (H hG7) ⟨Or.inr rfl, Or.inr rfl, Or.inr rfl, Or.inr rfl, Or.inl rfl, trivial⟩
    · skip
      replace H := H.2 c4
      refine T_goto (pc' := 157) dX12_spreads_123 (by decide) ?_
      refine T_iinc (L' := [(2, 66), (0, v1), (0, v2), (0, (wr32 (v3 + 1))), (0, (fX12_stepped M (M 94 v2) v3))]) (pc' := 160) dX12_spreads_157 rfl (by decide) rfl rfl ?_
      refine T_goto (pc' := 92) dX12_spreads_160 (by decide) ?_
      exact T_wk (H hG) ⟨Or.inr rfl, Or.inr rfl, Or.inr rfl, Or.inr rfl, Or.inl rfl, trivial⟩
theorem eX12_spreads {E : EV} {h : Int} {M : Mem} {Q : Option MV → Mem → Prop}  (H : G h M → TG E miX12_spreads 3 h Q 0 [(2, 66), (3, 0), (3, 0), (3, 0), (3, 0)] [] M) : C2 E miX12_spreads 3 h [(2, 66)] M Q :=
  C2_of (by decide +kernel) (Nat.le_of_ble_eq_true rfl) rfl H
set_option maxRecDepth 100000 in
set_option maxHeartbeats 2000000 in
theorem wX12_nearer_0 {E : EV} {h : Int} {M : Mem} {Q : Option MV → Mem → Prop} {v1 : Int}  (H : (G h M → TG E miX12_nearer 3 h Q 2 [(2, 66), (0, v1), (0, 0), (3, 0)] [] M)) : G h M → TG E miX12_nearer 3 h Q 0 [(2, 66), (0, v1), (3, 0), (3, 0)] [] M := by
  intro hG
  refine T_iconst (pc' := 1) dX12_nearer_0 (by decide) rfl ?_
  refine T_istore_n (i := 2) (L' := [(2, 66), (0, v1), (0, 0), (3, 0)]) (pc' := 2) dX12_nearer_1 rfl (by decide) rfl rfl ?_
  exact T_wk (H hG) ⟨Or.inr rfl, Or.inr rfl, Or.inr rfl, Or.inl rfl, trivial⟩
set_option maxRecDepth 100000 in
set_option maxHeartbeats 2000000 in
theorem wX12_nearer_2 {E : EV} {h : Int} {M : Mem} {Q : Option MV → Mem → Prop} {v1 : Int} {v2 : Int}  (H : ((4 ≤ v2 → Q (some (0, v1)) M) ∧ (¬ (4 ≤ v2) → (nX12_stepped M v1 v2) ∧ 0 ≤ (fX12_stepped M v1 v2) ∧ (fX12_stepped M v1 v2) < 54 ∧ 0 ≤ v1 ∧ v1 < 54 ∧ (((M 93 v1) ≤ (M 93 (fX12_stepped M v1 v2)) → (G h M → TG E miX12_nearer 3 h Q 2 [(2, 66), (0, v1), (0, (wr32 (v2 + 1))), (3, 0)] [] M)) ∧ (¬ ((M 93 v1) ≤ (M 93 (fX12_stepped M v1 v2))) → Q (some (0, (fX12_stepped M v1 v2))) M))))) : G h M → TG E miX12_nearer 3 h Q 2 [(2, 66), (0, v1), (0, v2), (3, 0)] [] M := by
  intro hG
  refine T_iload_n (i := 2) (pc' := 3) dX12_nearer_2 rfl rfl rfl ?_
  refine T_iconst (pc' := 4) dX12_nearer_3 (by decide) rfl ?_
  refine T_icmp_ge (pc' := 37) dX12_nearer_4 (by decide) (pf := 7) rfl (fun c1 => ?_) (fun c1 => ?_)
  · skip
    replace H := H.1 c1
    refine T_iload_n (i := 1) (pc' := 38) dX12_nearer_37 rfl rfl rfl ?_
    exact T_iret dX12_nearer_38 rfl ⟨rfl, hG, H⟩
  · skip
    replace H := H.2 c1
    refine T_aload_n (i := 0) (pc' := 8) dX12_nearer_7 rfl rfl rfl ?_
    refine T_iload_n (i := 1) (pc' := 9) dX12_nearer_8 rfl rfl rfl ?_
    refine T_iload_n (i := 2) (pc' := 10) dX12_nearer_9 rfl rfl rfl ?_
    obtain ⟨z2, H⟩ := H
    refine T_callV (av := [(0, v1), (0, v2)]) (st := []) (d2 := 2) (nc2 := 0) (ns2 := 0) (pc' := 13) dX12_nearer_10 rfl mtX12_stepped mvX12_stepped mlX12_364 cl12 rfl rfl rfl (Nat.le_of_ble_eq_true rfl) (by decide) ⟨by decide, by decide⟩ rfl (pX12_stepped (E := E) (h := h) (M := M) (v1 := v1) (v2 := v2) z2 hG) (kF (st2 := [(0, (fX12_stepped M v1 v2))]) rfl (fun hG3 => ?_))
    refine T_istore_n (i := 3) (L' := [(2, 66), (0, v1), (0, v2), (0, (fX12_stepped M v1 v2))]) (pc' := 14) dX12_nearer_13 rfl (by decide) rfl rfl ?_
    refine T_aload_n (i := 0) (pc' := 15) dX12_nearer_14 rfl rfl rfl ?_
    refine U_gr (q := 93) (k := 43) (kI := 43) (pc' := 18) dX12_nearer_15 rfl cl12 (by decide) rfl (by decide) flX12_95 rfl rfl rfl (G_at hG 93 rfl) (by decide) rfl ?_
    refine T_iload_n (i := 3) (pc' := 19) dX12_nearer_18 rfl rfl rfl ?_
    obtain ⟨z1, z2, H⟩ := H
    refine T_iald (pc' := 20) dX12_nearer_19 (by decide) rfl z1 z2 rfl ?_
    refine T_aload_n (i := 0) (pc' := 21) dX12_nearer_20 rfl rfl rfl ?_
    refine U_gr (q := 93) (k := 43) (kI := 43) (pc' := 24) dX12_nearer_21 rfl cl12 (by decide) rfl (by decide) flX12_95 rfl rfl rfl (G_at hG 93 rfl) (by decide) rfl ?_
    refine T_iload_n (i := 1) (pc' := 25) dX12_nearer_24 rfl rfl rfl ?_
    obtain ⟨z1, z2, H⟩ := H
    refine T_iald (pc' := 26) dX12_nearer_25 (by decide) rfl z1 z2 rfl ?_
    refine T_icmp_ge (pc' := 31) dX12_nearer_26 (by decide) (pf := 29) rfl (fun c4 => ?_) (fun c4 => ?_)
    · skip
      replace H := H.1 c4
      refine T_iinc (L' := [(2, 66), (0, v1), (0, (wr32 (v2 + 1))), (0, (fX12_stepped M v1 v2))]) (pc' := 34) dX12_nearer_31 rfl (by decide) rfl rfl ?_
      refine T_goto (pc' := 2) dX12_nearer_34 (by decide) ?_
      exact T_wk (H hG) ⟨Or.inr rfl, Or.inr rfl, Or.inr rfl, Or.inl rfl, trivial⟩
    · skip
      replace H := H.2 c4
      refine T_iload_n (i := 3) (pc' := 30) dX12_nearer_29 rfl rfl rfl ?_
      exact T_iret dX12_nearer_30 rfl ⟨rfl, hG, H⟩
theorem eX12_nearer {E : EV} {h : Int} {M : Mem} {Q : Option MV → Mem → Prop} {v1 : Int} (H : G h M → TG E miX12_nearer 3 h Q 0 [(2, 66), (0, v1), (3, 0), (3, 0)] [] M) : C2 E miX12_nearer 3 h [(2, 66), (0, v1)] M Q :=
  C2_of (by decide +kernel) (Nat.le_of_ble_eq_true rfl) rfl H
set_option maxRecDepth 100000 in
set_option maxHeartbeats 2000000 in
theorem wX12_opensBy_0 {E : EV} {h : Int} {M : Mem} {Q : Option MV → Mem → Prop} {v1 : Int} {v2 : Int}  (H : (((if (M 66 51) = (-1) then (0 : Int) else (if v2 ≤ (M 66 51) then (0 : Int) else 1)) = 0 → (nX12_personOf v1 4) ∧ (((fX12_personOf M v1 4) = 0 → (nX12_personOf v1 1) ∧ ((v2 < (wr32 ((M 91 4) + (fX12_personOf M v1 1))) → (nX12_personOf v1 2) ∧ (((fX12_personOf M v1 2) = 0 → Q (some (0, 0)) M) ∧ (¬ ((fX12_personOf M v1 2) = 0) → (G h M → TG E miX12_opensBy 4 h Q 71 [(2, 66), (0, v1), (0, v2), (3, 0), (0, 0), (0, 0)] [] M)))) ∧ (¬ (v2 < (wr32 ((M 91 4) + (fX12_personOf M v1 1)))) → Q (some (0, 1)) M))) ∧ (¬ ((fX12_personOf M v1 4) = 0) → (nX12_personOf v1 2) ∧ (((fX12_personOf M v1 2) = 0 → Q (some (0, 0)) M) ∧ (¬ ((fX12_personOf M v1 2) = 0) → (G h M → TG E miX12_opensBy 4 h Q 71 [(2, 66), (0, v1), (0, v2), (3, 0), (0, 0), (0, 0)] [] M)))))) ∧ (¬ ((if (M 66 51) = (-1) then (0 : Int) else (if v2 ≤ (M 66 51) then (0 : Int) else 1)) = 0) → (nX12_personOf v1 2) ∧ (((fX12_personOf M v1 2) = 0 → Q (some (0, 0)) M) ∧ (¬ ((fX12_personOf M v1 2) = 0) → (G h M → TG E miX12_opensBy 4 h Q 71 [(2, 66), (0, v1), (0, v2), (3, 0), (0, 0), (0, 0)] [] M)))))) : G h M → TG E miX12_opensBy 4 h Q 0 [(2, 66), (0, v1), (0, v2), (3, 0), (3, 0), (3, 0)] [] M := by
  intro hG
  refine T_aload_n (i := 0) (pc' := 1) dX12_opensBy_0 rfl rfl rfl ?_
  refine U_gf (v := (0, (M 66 51))) (k := 51) (kI := 51) (pc' := 4) dX12_opensBy_1 rfl cl12 (by decide) rfl (by decide) flX12_370 rfl rfl (by decide) rfl rfl ?_
  refine T_iconst (pc' := 5) dX12_opensBy_4 (by decide) rfl ?_
  have HJ1 : T E miX12_opensBy 4 126 0 0 (fun r S M' => S = S0 ∧ G h M' ∧ Q r M') 21 [(2, 66), (0, v1), (0, v2), (3, 0), (3, 0), (3, 0)] [(0, (if (M 66 51) = (-1) then (0 : Int) else (if v2 ≤ (M 66 51) then (0 : Int) else 1)))] S0 M 0 0 := by
    refine T_istore_n (i := 3) (L' := [(2, 66), (0, v1), (0, v2), (0, (if (M 66 51) = (-1) then (0 : Int) else (if v2 ≤ (M 66 51) then (0 : Int) else 1))), (3, 0), (3, 0)]) (pc' := 22) dX12_opensBy_21 rfl (by decide) rfl rfl ?_
    refine T_iload_n (i := 3) (pc' := 23) dX12_opensBy_22 rfl rfl rfl ?_
    refine T_if_ne (pc' := 54) dX12_opensBy_23 (by decide) (pf := 26) rfl (fun c2 => ?_) (fun c2 => ?_)
    · skip
      replace H := H.2 c2
      refine T_aload_n (i := 0) (pc' := 55) dX12_opensBy_54 rfl rfl rfl ?_
      refine T_iload_n (i := 1) (pc' := 56) dX12_opensBy_55 rfl rfl rfl ?_
      refine T_iconst (pc' := 57) dX12_opensBy_56 (by decide) rfl ?_
      obtain ⟨z3, H⟩ := H
      refine T_callV (av := [(0, v1), (0, 2)]) (st := []) (d2 := 1) (nc2 := 0) (ns2 := 0) (pc' := 60) dX12_opensBy_57 rfl mtX12_personOf mvX12_personOf mlX12_373 cl12 rfl rfl rfl (Nat.le_of_ble_eq_true rfl) (by decide) ⟨by decide, by decide⟩ rfl (pX12_personOf (E := E) (h := h) (M := M) (v1 := v1) (v2 := 2) z3 hG) (kF (st2 := [(0, (fX12_personOf M v1 2))]) rfl (fun hG4 => ?_))
      refine T_if_ne (pc' := 65) dX12_opensBy_60 (by decide) (pf := 63) rfl (fun c5 => ?_) (fun c5 => ?_)
      · skip
        replace H := H.2 c5
        refine T_iconst (pc' := 66) dX12_opensBy_65 (by decide) rfl ?_
        refine T_istore (i := 4) (L' := [(2, 66), (0, v1), (0, v2), (0, (if (M 66 51) = (-1) then (0 : Int) else (if v2 ≤ (M 66 51) then (0 : Int) else 1))), (0, 0), (3, 0)]) (pc' := 68) dX12_opensBy_66 (by decide) rfl rfl ?_
        refine T_iconst (pc' := 69) dX12_opensBy_68 (by decide) rfl ?_
        refine T_istore (i := 5) (L' := [(2, 66), (0, v1), (0, v2), (0, (if (M 66 51) = (-1) then (0 : Int) else (if v2 ≤ (M 66 51) then (0 : Int) else 1))), (0, 0), (0, 0)]) (pc' := 71) dX12_opensBy_69 (by decide) rfl rfl ?_
        exact T_wk (H hG) ⟨Or.inr rfl, Or.inr rfl, Or.inr rfl, Or.inl rfl, Or.inr rfl, Or.inr rfl, trivial⟩
      · skip
        replace H := H.1 c5
        refine T_iconst (pc' := 64) dX12_opensBy_63 (by decide) rfl ?_
        exact T_iret dX12_opensBy_64 rfl ⟨rfl, hG, H⟩
    · skip
      replace H := H.1 c2
      refine T_aload_n (i := 0) (pc' := 27) dX12_opensBy_26 rfl rfl rfl ?_
      refine T_iload_n (i := 1) (pc' := 28) dX12_opensBy_27 rfl rfl rfl ?_
      refine T_iconst (pc' := 29) dX12_opensBy_28 (by decide) rfl ?_
      obtain ⟨z6, H⟩ := H
      refine T_callV (av := [(0, v1), (0, 4)]) (st := []) (d2 := 1) (nc2 := 0) (ns2 := 0) (pc' := 32) dX12_opensBy_29 rfl mtX12_personOf mvX12_personOf mlX12_373 cl12 rfl rfl rfl (Nat.le_of_ble_eq_true rfl) (by decide) ⟨by decide, by decide⟩ rfl (pX12_personOf (E := E) (h := h) (M := M) (v1 := v1) (v2 := 4) z6 hG) (kF (st2 := [(0, (fX12_personOf M v1 4))]) rfl (fun hG7 => ?_))
      refine T_if_ne (pc' := 54) dX12_opensBy_32 (by decide) (pf := 35) rfl (fun c8 => ?_) (fun c8 => ?_)
      · skip
        replace H := H.2 c8
        refine T_aload_n (i := 0) (pc' := 55) dX12_opensBy_54 rfl rfl rfl ?_
        refine T_iload_n (i := 1) (pc' := 56) dX12_opensBy_55 rfl rfl rfl ?_
        refine T_iconst (pc' := 57) dX12_opensBy_56 (by decide) rfl ?_
        obtain ⟨z9, H⟩ := H
        refine T_callV (av := [(0, v1), (0, 2)]) (st := []) (d2 := 1) (nc2 := 0) (ns2 := 0) (pc' := 60) dX12_opensBy_57 rfl mtX12_personOf mvX12_personOf mlX12_373 cl12 rfl rfl rfl (Nat.le_of_ble_eq_true rfl) (by decide) ⟨by decide, by decide⟩ rfl (pX12_personOf (E := E) (h := h) (M := M) (v1 := v1) (v2 := 2) z9 hG) (kF (st2 := [(0, (fX12_personOf M v1 2))]) rfl (fun hG10 => ?_))
        refine T_if_ne (pc' := 65) dX12_opensBy_60 (by decide) (pf := 63) rfl (fun c11 => ?_) (fun c11 => ?_)
        · skip
          replace H := H.2 c11
          refine T_iconst (pc' := 66) dX12_opensBy_65 (by decide) rfl ?_
          refine T_istore (i := 4) (L' := [(2, 66), (0, v1), (0, v2), (0, (if (M 66 51) = (-1) then (0 : Int) else (if v2 ≤ (M 66 51) then (0 : Int) else 1))), (0, 0), (3, 0)]) (pc' := 68) dX12_opensBy_66 (by decide) rfl rfl ?_
          refine T_iconst (pc' := 69) dX12_opensBy_68 (by decide) rfl ?_
          refine T_istore (i := 5) (L' := [(2, 66), (0, v1), (0, v2), (0, (if (M 66 51) = (-1) then (0 : Int) else (if v2 ≤ (M 66 51) then (0 : Int) else 1))), (0, 0), (0, 0)]) (pc' := 71) dX12_opensBy_69 (by decide) rfl rfl ?_
          exact T_wk (H hG) ⟨Or.inr rfl, Or.inr rfl, Or.inr rfl, Or.inl rfl, Or.inr rfl, Or.inr rfl, trivial⟩
        · skip
          replace H := H.1 c11
          refine T_iconst (pc' := 64) dX12_opensBy_63 (by decide) rfl ?_
          exact T_iret dX12_opensBy_64 rfl ⟨rfl, hG, H⟩
      · skip
        replace H := H.1 c8
        refine T_iload_n (i := 2) (pc' := 36) dX12_opensBy_35 rfl rfl rfl ?_
        refine T_aload_n (i := 0) (pc' := 37) dX12_opensBy_36 rfl rfl rfl ?_
        refine U_gr (q := 91) (k := 34) (kI := 34) (pc' := 40) dX12_opensBy_37 rfl cl12 (by decide) rfl (by decide) flX12_89 rfl rfl rfl (G_at hG 91 rfl) (by decide) rfl ?_
        refine T_iconst (pc' := 41) dX12_opensBy_40 (by decide) rfl ?_
        refine T_iald (pc' := 42) dX12_opensBy_41 (by decide) rfl (by decide) (by decide) rfl ?_
        refine T_aload_n (i := 0) (pc' := 43) dX12_opensBy_42 rfl rfl rfl ?_
        refine T_iload_n (i := 1) (pc' := 44) dX12_opensBy_43 rfl rfl rfl ?_
        refine T_iconst (pc' := 45) dX12_opensBy_44 (by decide) rfl ?_
        obtain ⟨z12, H⟩ := H
        refine T_callV (av := [(0, v1), (0, 1)]) (st := [(0, (M 91 4)), (0, v2)]) (d2 := 1) (nc2 := 0) (ns2 := 0) (pc' := 48) dX12_opensBy_45 rfl mtX12_personOf mvX12_personOf mlX12_373 cl12 rfl rfl rfl (Nat.le_of_ble_eq_true rfl) (by decide) ⟨by decide, by decide⟩ rfl (pX12_personOf (E := E) (h := h) (M := M) (v1 := v1) (v2 := 1) z12 hG) (kF (st2 := [(0, (fX12_personOf M v1 1)), (0, (M 91 4)), (0, v2)]) rfl (fun hG13 => ?_))
        refine T_iadd (pc' := 49) dX12_opensBy_48 rfl ?_
        refine T_icmp_lt (pc' := 54) dX12_opensBy_49 (by decide) (pf := 52) rfl (fun c14 => ?_) (fun c14 => ?_)
        · skip
          replace H := H.1 c14
          refine T_aload_n (i := 0) (pc' := 55) dX12_opensBy_54 rfl rfl rfl ?_
          refine T_iload_n (i := 1) (pc' := 56) dX12_opensBy_55 rfl rfl rfl ?_
          refine T_iconst (pc' := 57) dX12_opensBy_56 (by decide) rfl ?_
          obtain ⟨z15, H⟩ := H
          refine T_callV (av := [(0, v1), (0, 2)]) (st := []) (d2 := 1) (nc2 := 0) (ns2 := 0) (pc' := 60) dX12_opensBy_57 rfl mtX12_personOf mvX12_personOf mlX12_373 cl12 rfl rfl rfl (Nat.le_of_ble_eq_true rfl) (by decide) ⟨by decide, by decide⟩ rfl (pX12_personOf (E := E) (h := h) (M := M) (v1 := v1) (v2 := 2) z15 hG) (kF (st2 := [(0, (fX12_personOf M v1 2))]) rfl (fun hG16 => ?_))
          refine T_if_ne (pc' := 65) dX12_opensBy_60 (by decide) (pf := 63) rfl (fun c17 => ?_) (fun c17 => ?_)
          · skip
            replace H := H.2 c17
            refine T_iconst (pc' := 66) dX12_opensBy_65 (by decide) rfl ?_
            refine T_istore (i := 4) (L' := [(2, 66), (0, v1), (0, v2), (0, (if (M 66 51) = (-1) then (0 : Int) else (if v2 ≤ (M 66 51) then (0 : Int) else 1))), (0, 0), (3, 0)]) (pc' := 68) dX12_opensBy_66 (by decide) rfl rfl ?_
            refine T_iconst (pc' := 69) dX12_opensBy_68 (by decide) rfl ?_
            refine T_istore (i := 5) (L' := [(2, 66), (0, v1), (0, v2), (0, (if (M 66 51) = (-1) then (0 : Int) else (if v2 ≤ (M 66 51) then (0 : Int) else 1))), (0, 0), (0, 0)]) (pc' := 71) dX12_opensBy_69 (by decide) rfl rfl ?_
            exact T_wk (H hG) ⟨Or.inr rfl, Or.inr rfl, Or.inr rfl, Or.inl rfl, Or.inr rfl, Or.inr rfl, trivial⟩
          · skip
            replace H := H.1 c17
            refine T_iconst (pc' := 64) dX12_opensBy_63 (by decide) rfl ?_
            exact T_iret dX12_opensBy_64 rfl ⟨rfl, hG, H⟩
        · skip
          replace H := H.2 c14
          refine T_iconst (pc' := 53) dX12_opensBy_52 (by decide) rfl ?_
          exact T_iret dX12_opensBy_53 rfl ⟨rfl, hG, H⟩
  refine T_icmp_eq (pc' := 20) dX12_opensBy_5 (by decide) (pf := 8) rfl (fun c18 => ?_) (fun c18 => ?_)
  · skip
    refine T_iconst (pc' := 21) dX12_opensBy_20 (by decide) rfl ?_
    exact T_wk (L' := [(2, 66), (0, v1), (0, v2), (3, 0), (3, 0), (3, 0)]) (by have q := HJ1; try simp only [if_pos c18] at q; exact q) ⟨Or.inr rfl, Or.inr rfl, Or.inr rfl, Or.inl rfl, Or.inl rfl, Or.inl rfl, trivial⟩
  · skip
    refine T_aload_n (i := 0) (pc' := 9) dX12_opensBy_8 rfl rfl rfl ?_
    refine U_gf (v := (0, (M 66 51))) (k := 51) (kI := 51) (pc' := 12) dX12_opensBy_9 rfl cl12 (by decide) rfl (by decide) flX12_370 rfl rfl (by decide) rfl rfl ?_
    refine T_iload_n (i := 2) (pc' := 13) dX12_opensBy_12 rfl rfl rfl ?_
    refine T_icmp_ge (pc' := 20) dX12_opensBy_13 (by decide) (pf := 16) rfl (fun c19 => ?_) (fun c19 => ?_)
    · skip
      refine T_iconst (pc' := 21) dX12_opensBy_20 (by decide) rfl ?_
      exact T_wk (L' := [(2, 66), (0, v1), (0, v2), (3, 0), (3, 0), (3, 0)]) (by have q := HJ1; try simp only [if_neg c18] at q; try simp only [if_pos c19] at q; exact q) ⟨Or.inr rfl, Or.inr rfl, Or.inr rfl, Or.inl rfl, Or.inl rfl, Or.inl rfl, trivial⟩
    · skip
      refine T_iconst (pc' := 17) dX12_opensBy_16 (by decide) rfl ?_
      refine T_goto (pc' := 21) dX12_opensBy_17 (by decide) ?_
      exact T_wk (L' := [(2, 66), (0, v1), (0, v2), (3, 0), (3, 0), (3, 0)]) (by have q := HJ1; try simp only [if_neg c18] at q; try simp only [if_neg c19] at q; exact q) ⟨Or.inr rfl, Or.inr rfl, Or.inr rfl, Or.inl rfl, Or.inl rfl, Or.inl rfl, trivial⟩
set_option maxRecDepth 100000 in
set_option maxHeartbeats 2000000 in
theorem wX12_opensBy_71 {E : EV} {h : Int} {M : Mem} {Q : Option MV → Mem → Prop} {v1 : Int} {v2 : Int} {v4 : Int} {v5 : Int}  (H : (((fX12_peopleMany M) ≤ v5 → (nX12_personOf v1 2) ∧ Q (some (0, (if v4 < (fX12_personOf M v1 2) then (0 : Int) else 2))) M) ∧ (¬ ((fX12_peopleMany M) ≤ v5) → (((fX12_isComing M v5) = 0 → (G h M → TG E miX12_opensBy 4 h Q 71 [(2, 66), (0, v1), (0, v2), (3, 0), (0, v4), (0, (wr32 (v5 + 1)))] [] M)) ∧ (¬ ((fX12_isComing M v5) = 0) → (nX12_isOpen M v5 (wr32 (v2 - 1))) ∧ (((fX12_isOpen M v5 (wr32 (v2 - 1))) = 0 → (G h M → TG E miX12_opensBy 4 h Q 71 [(2, 66), (0, v1), (0, v2), (3, 0), (0, v4), (0, (wr32 (v5 + 1)))] [] M)) ∧ (¬ ((fX12_isOpen M v5 (wr32 (v2 - 1))) = 0) → (nX12_whereIn v1 (wr32 (v2 - 1))) ∧ (nX12_whereIn v5 (wr32 (v2 - 1))) ∧ (nX12_apart M) ∧ (G h M → TG E miX12_opensBy 4 h Q 71 [(2, 66), (0, v1), (0, v2), (3, 0), (0, (if (M 91 6) < (fX12_apart M (fX12_whereIn M v1 (wr32 (v2 - 1))) (fX12_whereIn M v5 (wr32 (v2 - 1)))) then v4 else (wr32 (v4 + 1)))), (0, (wr32 (v5 + 1)))] [] M)))))))) : G h M → TG E miX12_opensBy 4 h Q 71 [(2, 66), (0, v1), (0, v2), (3, 0), (0, v4), (0, v5)] [] M := by
  intro hG
  refine T_iload (i := 5) (pc' := 73) dX12_opensBy_71 rfl rfl ?_
  refine T_aload_n (i := 0) (pc' := 74) dX12_opensBy_73 rfl rfl rfl ?_
  refine T_callV (av := []) (st := [(0, v5)]) (d2 := 1) (nc2 := 0) (ns2 := 0) (pc' := 77) dX12_opensBy_74 rfl mtX12_peopleMany mvX12_peopleMany mlX12_349 cl12 rfl rfl rfl (Nat.le_of_ble_eq_true rfl) (by decide) ⟨by decide, by decide⟩ rfl (pX12_peopleMany (E := E) (h := h) (M := M) hG) (kF (st2 := [(0, (fX12_peopleMany M)), (0, v5)]) rfl (fun hG1 => ?_))
  refine T_icmp_ge (pc' := 141) dX12_opensBy_77 (by decide) (pf := 80) rfl (fun c2 => ?_) (fun c2 => ?_)
  · skip
    replace H := H.1 c2
    refine T_iload (i := 4) (pc' := 143) dX12_opensBy_141 rfl rfl ?_
    refine T_aload_n (i := 0) (pc' := 144) dX12_opensBy_143 rfl rfl rfl ?_
    refine T_iload_n (i := 1) (pc' := 145) dX12_opensBy_144 rfl rfl rfl ?_
    refine T_iconst (pc' := 146) dX12_opensBy_145 (by decide) rfl ?_
    obtain ⟨z3, H⟩ := H
    refine T_callV (av := [(0, v1), (0, 2)]) (st := [(0, v4)]) (d2 := 1) (nc2 := 0) (ns2 := 0) (pc' := 149) dX12_opensBy_146 rfl mtX12_personOf mvX12_personOf mlX12_373 cl12 rfl rfl rfl (Nat.le_of_ble_eq_true rfl) (by decide) ⟨by decide, by decide⟩ rfl (pX12_personOf (E := E) (h := h) (M := M) (v1 := v1) (v2 := 2) z3 hG) (kF (st2 := [(0, (fX12_personOf M v1 2)), (0, v4)]) rfl (fun hG4 => ?_))
    have HJ5 : T E miX12_opensBy 4 126 0 0 (fun r S M' => S = S0 ∧ G h M' ∧ Q r M') 157 [(3, 0), (3, 0), (3, 0), (3, 0), (3, 0), (3, 0)] [(0, (if v4 < (fX12_personOf M v1 2) then (0 : Int) else 2))] S0 M 0 0 := by
      exact T_iret dX12_opensBy_157 rfl ⟨rfl, hG, H⟩
    refine T_icmp_lt (pc' := 156) dX12_opensBy_149 (by decide) (pf := 152) rfl (fun c6 => ?_) (fun c6 => ?_)
    · skip
      refine T_iconst (pc' := 157) dX12_opensBy_156 (by decide) rfl ?_
      exact T_wk (L' := [(3, 0), (3, 0), (3, 0), (3, 0), (3, 0), (3, 0)]) (by have q := HJ5; try simp only [if_pos c6] at q; exact q) ⟨Or.inl rfl, Or.inl rfl, Or.inl rfl, Or.inl rfl, Or.inl rfl, Or.inl rfl, trivial⟩
    · skip
      refine T_iconst (pc' := 153) dX12_opensBy_152 (by decide) rfl ?_
      refine T_goto (pc' := 157) dX12_opensBy_153 (by decide) ?_
      exact T_wk (L' := [(3, 0), (3, 0), (3, 0), (3, 0), (3, 0), (3, 0)]) (by have q := HJ5; try simp only [if_neg c6] at q; exact q) ⟨Or.inl rfl, Or.inl rfl, Or.inl rfl, Or.inl rfl, Or.inl rfl, Or.inl rfl, trivial⟩
  · skip
    replace H := H.2 c2
    refine T_aload_n (i := 0) (pc' := 81) dX12_opensBy_80 rfl rfl rfl ?_
    refine T_iload (i := 5) (pc' := 83) dX12_opensBy_81 rfl rfl ?_
    refine T_callV (av := [(0, v5)]) (st := []) (d2 := 3) (nc2 := 0) (ns2 := 0) (pc' := 86) dX12_opensBy_83 rfl mtX12_isComing mvX12_isComing mlX12_376 cl12 rfl rfl rfl (Nat.le_of_ble_eq_true rfl) (by decide) ⟨by decide, by decide⟩ rfl (pX12_isComing (E := E) (h := h) (M := M) (v1 := v5) hG) (kF (st2 := [(0, (fX12_isComing M v5))]) rfl (fun hG7 => ?_))
    refine T_if_eq (pc' := 135) dX12_opensBy_86 (by decide) (pf := 89) rfl (fun c8 => ?_) (fun c8 => ?_)
    · skip
      replace H := H.1 c8
      refine T_iinc (L' := [(2, 66), (0, v1), (0, v2), (3, 0), (0, v4), (0, (wr32 (v5 + 1)))]) (pc' := 138) dX12_opensBy_135 rfl (by decide) rfl rfl ?_
      refine T_goto (pc' := 71) dX12_opensBy_138 (by decide) ?_
      exact T_wk (H hG) ⟨Or.inr rfl, Or.inr rfl, Or.inr rfl, Or.inl rfl, Or.inr rfl, Or.inr rfl, trivial⟩
    · skip
      replace H := H.2 c8
      refine T_aload_n (i := 0) (pc' := 90) dX12_opensBy_89 rfl rfl rfl ?_
      refine T_iload (i := 5) (pc' := 92) dX12_opensBy_90 rfl rfl ?_
      refine T_iload_n (i := 2) (pc' := 93) dX12_opensBy_92 rfl rfl rfl ?_
      refine T_iconst (pc' := 94) dX12_opensBy_93 (by decide) rfl ?_
      refine T_isub (pc' := 95) dX12_opensBy_94 rfl ?_
      obtain ⟨z9, H⟩ := H
      refine T_callV (av := [(0, v5), (0, (wr32 (v2 - 1)))]) (st := []) (d2 := 2) (nc2 := 0) (ns2 := 0) (pc' := 98) dX12_opensBy_95 rfl mtX12_isOpen mvX12_isOpen mlX12_379 cl12 rfl rfl rfl (Nat.le_of_ble_eq_true rfl) (by decide) ⟨by decide, by decide⟩ rfl (pX12_isOpen (E := E) (h := h) (M := M) (v1 := v5) (v2 := (wr32 (v2 - 1))) z9 hG) (kF (st2 := [(0, (fX12_isOpen M v5 (wr32 (v2 - 1))))]) rfl (fun hG10 => ?_))
      refine T_if_eq (pc' := 135) dX12_opensBy_98 (by decide) (pf := 101) rfl (fun c11 => ?_) (fun c11 => ?_)
      · skip
        replace H := H.1 c11
        refine T_iinc (L' := [(2, 66), (0, v1), (0, v2), (3, 0), (0, v4), (0, (wr32 (v5 + 1)))]) (pc' := 138) dX12_opensBy_135 rfl (by decide) rfl rfl ?_
        refine T_goto (pc' := 71) dX12_opensBy_138 (by decide) ?_
        exact T_wk (H hG) ⟨Or.inr rfl, Or.inr rfl, Or.inr rfl, Or.inl rfl, Or.inr rfl, Or.inr rfl, trivial⟩
      · skip
        replace H := H.2 c11
        refine T_aload_n (i := 0) (pc' := 102) dX12_opensBy_101 rfl rfl rfl ?_
        refine T_aload_n (i := 0) (pc' := 103) dX12_opensBy_102 rfl rfl rfl ?_
        refine T_iload_n (i := 1) (pc' := 104) dX12_opensBy_103 rfl rfl rfl ?_
        refine T_iload_n (i := 2) (pc' := 105) dX12_opensBy_104 rfl rfl rfl ?_
        refine T_iconst (pc' := 106) dX12_opensBy_105 (by decide) rfl ?_
        refine T_isub (pc' := 107) dX12_opensBy_106 rfl ?_
        obtain ⟨z12, H⟩ := H
        refine T_callV (av := [(0, v1), (0, (wr32 (v2 - 1)))]) (st := [(2, 66)]) (d2 := 1) (nc2 := 0) (ns2 := 0) (pc' := 110) dX12_opensBy_107 rfl mtX12_whereIn mvX12_whereIn mlX12_383 cl12 rfl rfl rfl (Nat.le_of_ble_eq_true rfl) (by decide) ⟨by decide, by decide⟩ rfl (pX12_whereIn (E := E) (h := h) (M := M) (v1 := v1) (v2 := (wr32 (v2 - 1))) z12 hG) (kF (st2 := [(0, (fX12_whereIn M v1 (wr32 (v2 - 1)))), (2, 66)]) rfl (fun hG13 => ?_))
        refine T_aload_n (i := 0) (pc' := 111) dX12_opensBy_110 rfl rfl rfl ?_
        refine T_iload (i := 5) (pc' := 113) dX12_opensBy_111 rfl rfl ?_
        refine T_iload_n (i := 2) (pc' := 114) dX12_opensBy_113 rfl rfl rfl ?_
        refine T_iconst (pc' := 115) dX12_opensBy_114 (by decide) rfl ?_
        refine T_isub (pc' := 116) dX12_opensBy_115 rfl ?_
        obtain ⟨z14, H⟩ := H
        refine T_callV (av := [(0, v5), (0, (wr32 (v2 - 1)))]) (st := [(0, (fX12_whereIn M v1 (wr32 (v2 - 1)))), (2, 66)]) (d2 := 1) (nc2 := 0) (ns2 := 0) (pc' := 119) dX12_opensBy_116 rfl mtX12_whereIn mvX12_whereIn mlX12_383 cl12 rfl rfl rfl (Nat.le_of_ble_eq_true rfl) (by decide) ⟨by decide, by decide⟩ rfl (pX12_whereIn (E := E) (h := h) (M := M) (v1 := v5) (v2 := (wr32 (v2 - 1))) z14 hG) (kF (st2 := [(0, (fX12_whereIn M v5 (wr32 (v2 - 1)))), (0, (fX12_whereIn M v1 (wr32 (v2 - 1)))), (2, 66)]) rfl (fun hG15 => ?_))
        obtain ⟨z16, H⟩ := H
        refine T_callV (av := [(0, (fX12_whereIn M v1 (wr32 (v2 - 1)))), (0, (fX12_whereIn M v5 (wr32 (v2 - 1))))]) (st := []) (d2 := 2) (nc2 := 0) (ns2 := 0) (pc' := 122) dX12_opensBy_119 rfl mtX12_apart mvX12_apart mlX12_386 cl12 rfl rfl rfl (Nat.le_of_ble_eq_true rfl) (by decide) ⟨by decide, by decide⟩ rfl (pX12_apart (E := E) (h := h) (M := M) (v1 := (fX12_whereIn M v1 (wr32 (v2 - 1)))) (v2 := (fX12_whereIn M v5 (wr32 (v2 - 1)))) z16 hG) (kF (st2 := [(0, (fX12_apart M (fX12_whereIn M v1 (wr32 (v2 - 1))) (fX12_whereIn M v5 (wr32 (v2 - 1)))))]) rfl (fun hG17 => ?_))
        refine T_aload_n (i := 0) (pc' := 123) dX12_opensBy_122 rfl rfl rfl ?_
        refine U_gr (q := 91) (k := 34) (kI := 34) (pc' := 126) dX12_opensBy_123 rfl cl12 (by decide) rfl (by decide) flX12_89 rfl rfl rfl (G_at hG 91 rfl) (by decide) rfl ?_
        refine T_bipush (pc' := 128) dX12_opensBy_126 rfl (by decide) rfl ?_
        refine T_iald (pc' := 129) dX12_opensBy_128 (by decide) rfl (by decide) (by decide) rfl ?_
        have HJ18 : T E miX12_opensBy 4 126 0 0 (fun r S M' => S = S0 ∧ G h M' ∧ Q r M') 135 [(2, 66), (0, v1), (0, v2), (3, 0), (0, (if (M 91 6) < (fX12_apart M (fX12_whereIn M v1 (wr32 (v2 - 1))) (fX12_whereIn M v5 (wr32 (v2 - 1)))) then v4 else (wr32 (v4 + 1)))), (0, v5)] [] S0 M 0 0 := by
          refine T_iinc (L' := [(2, 66), (0, v1), (0, v2), (3, 0), (0, (if (M 91 6) < (fX12_apart M (fX12_whereIn M v1 (wr32 (v2 - 1))) (fX12_whereIn M v5 (wr32 (v2 - 1)))) then v4 else (wr32 (v4 + 1)))), (0, (wr32 (v5 + 1)))]) (pc' := 138) dX12_opensBy_135 rfl (by decide) rfl rfl ?_
          refine T_goto (pc' := 71) dX12_opensBy_138 (by decide) ?_
          exact T_wk (H hG) ⟨Or.inr rfl, Or.inr rfl, Or.inr rfl, Or.inl rfl, Or.inr rfl, Or.inr rfl, trivial⟩
        refine T_icmp_gt (pc' := 135) dX12_opensBy_129 (by decide) (pf := 132) rfl (fun c19 => ?_) (fun c19 => ?_)
        · skip
          exact T_wk (L' := [(2, 66), (0, v1), (0, v2), (3, 0), (0, v4), (0, v5)]) (by have q := HJ18; try simp only [if_pos c19] at q; exact q) ⟨Or.inr rfl, Or.inr rfl, Or.inr rfl, Or.inl rfl, Or.inr rfl, Or.inr rfl, trivial⟩
        · skip
          refine T_iinc (L' := [(2, 66), (0, v1), (0, v2), (3, 0), (0, (wr32 (v4 + 1))), (0, v5)]) (pc' := 135) dX12_opensBy_132 rfl (by decide) rfl rfl ?_
          exact T_wk (L' := [(2, 66), (0, v1), (0, v2), (3, 0), (0, (wr32 (v4 + 1))), (0, v5)]) (by have q := HJ18; try simp only [if_neg c19] at q; exact q) ⟨Or.inr rfl, Or.inr rfl, Or.inr rfl, Or.inl rfl, Or.inr rfl, Or.inr rfl, trivial⟩
theorem eX12_opensBy {E : EV} {h : Int} {M : Mem} {Q : Option MV → Mem → Prop} {v1 : Int} {v2 : Int} (H : G h M → TG E miX12_opensBy 4 h Q 0 [(2, 66), (0, v1), (0, v2), (3, 0), (3, 0), (3, 0)] [] M) : C2 E miX12_opensBy 4 h [(2, 66), (0, v1), (0, v2)] M Q :=
  C2_of (by decide +kernel) (Nat.le_of_ble_eq_true rfl) rfl H
set_option maxRecDepth 100000 in
set_option maxHeartbeats 2000000 in
theorem wX12_doorIn_0 {E : EV} {h : Int} {M : Mem} {Q : Option MV → Mem → Prop} {v1 : Int}  (H : (G h M → TG E miX12_doorIn 2 h Q 2 [(2, 66), (0, v1), (0, 0)] [] M)) : G h M → TG E miX12_doorIn 2 h Q 0 [(2, 66), (0, v1), (3, 0)] [] M := by
  intro hG
  refine T_iconst (pc' := 1) dX12_doorIn_0 (by decide) rfl ?_
  refine T_istore_n (i := 2) (L' := [(2, 66), (0, v1), (0, 0)]) (pc' := 2) dX12_doorIn_1 rfl (by decide) rfl rfl ?_
  exact T_wk (H hG) ⟨Or.inr rfl, Or.inr rfl, Or.inr rfl, trivial⟩
set_option maxRecDepth 100000 in
set_option maxHeartbeats 2000000 in
theorem wX12_doorIn_2 {E : EV} {h : Int} {M : Mem} {Q : Option MV → Mem → Prop} {v1 : Int} {v2 : Int}  (H : (((fX12_doorMany M) ≤ v2 → Q (some (0, (-1))) M) ∧ (¬ ((fX12_doorMany M) ≤ v2) → 0 ≤ (wr32 (6 + v2)) ∧ (wr32 (6 + v2)) < 12 ∧ (((M 90 (wr32 (6 + v2))) = v1 → 0 ≤ v2 ∧ v2 < 6 ∧ (((M 92 v2) = 0 → Q (some (0, v2)) M) ∧ (¬ ((M 92 v2) = 0) → (G h M → TG E miX12_doorIn 2 h Q 2 [(2, 66), (0, v1), (0, (wr32 (v2 + 1)))] [] M)))) ∧ (¬ ((M 90 (wr32 (6 + v2))) = v1) → (G h M → TG E miX12_doorIn 2 h Q 2 [(2, 66), (0, v1), (0, (wr32 (v2 + 1)))] [] M)))))) : G h M → TG E miX12_doorIn 2 h Q 2 [(2, 66), (0, v1), (0, v2)] [] M := by
  intro hG
  refine T_iload_n (i := 2) (pc' := 3) dX12_doorIn_2 rfl rfl rfl ?_
  refine T_aload_n (i := 0) (pc' := 4) dX12_doorIn_3 rfl rfl rfl ?_
  refine T_callV (av := []) (st := [(0, v2)]) (d2 := 1) (nc2 := 0) (ns2 := 0) (pc' := 7) dX12_doorIn_4 rfl mtX12_doorMany mvX12_doorMany mlX12_361 cl12 rfl rfl rfl (Nat.le_of_ble_eq_true rfl) (by decide) ⟨by decide, by decide⟩ rfl (pX12_doorMany (E := E) (h := h) (M := M) hG) (kF (st2 := [(0, (fX12_doorMany M)), (0, v2)]) rfl (fun hG1 => ?_))
  refine T_icmp_ge (pc' := 40) dX12_doorIn_7 (by decide) (pf := 10) rfl (fun c2 => ?_) (fun c2 => ?_)
  · skip
    replace H := H.1 c2
    refine T_iconst (pc' := 41) dX12_doorIn_40 (by decide) rfl ?_
    exact T_iret dX12_doorIn_41 rfl ⟨rfl, hG, H⟩
  · skip
    replace H := H.2 c2
    refine T_aload_n (i := 0) (pc' := 11) dX12_doorIn_10 rfl rfl rfl ?_
    refine U_gr (q := 90) (k := 33) (kI := 33) (pc' := 14) dX12_doorIn_11 rfl cl12 (by decide) rfl (by decide) flX12_86 rfl rfl rfl (G_at hG 90 rfl) (by decide) rfl ?_
    refine T_bipush (pc' := 16) dX12_doorIn_14 rfl (by decide) rfl ?_
    refine T_iload_n (i := 2) (pc' := 17) dX12_doorIn_16 rfl rfl rfl ?_
    refine T_iadd (pc' := 18) dX12_doorIn_17 rfl ?_
    obtain ⟨z1, z2, H⟩ := H
    refine T_iald (pc' := 19) dX12_doorIn_18 (by decide) rfl z1 z2 rfl ?_
    refine T_iload_n (i := 1) (pc' := 20) dX12_doorIn_19 rfl rfl rfl ?_
    refine T_icmp_ne (pc' := 34) dX12_doorIn_20 (by decide) (pf := 23) rfl (fun c3 => ?_) (fun c3 => ?_)
    · skip
      replace H := H.2 c3
      refine T_iinc (L' := [(2, 66), (0, v1), (0, (wr32 (v2 + 1)))]) (pc' := 37) dX12_doorIn_34 rfl (by decide) rfl rfl ?_
      refine T_goto (pc' := 2) dX12_doorIn_37 (by decide) ?_
      exact T_wk (H hG) ⟨Or.inr rfl, Or.inr rfl, Or.inr rfl, trivial⟩
    · skip
      replace H := H.1 c3
      refine T_aload_n (i := 0) (pc' := 24) dX12_doorIn_23 rfl rfl rfl ?_
      refine U_gr (q := 92) (k := 41) (kI := 41) (pc' := 27) dX12_doorIn_24 rfl cl12 (by decide) rfl (by decide) flX12_92 rfl rfl rfl (G_at hG 92 rfl) (by decide) rfl ?_
      refine T_iload_n (i := 2) (pc' := 28) dX12_doorIn_27 rfl rfl rfl ?_
      obtain ⟨z1, z2, H⟩ := H
      refine T_iald (pc' := 29) dX12_doorIn_28 (by decide) rfl z1 z2 rfl ?_
      refine T_if_ne (pc' := 34) dX12_doorIn_29 (by decide) (pf := 32) rfl (fun c4 => ?_) (fun c4 => ?_)
      · skip
        replace H := H.2 c4
        refine T_iinc (L' := [(2, 66), (0, v1), (0, (wr32 (v2 + 1)))]) (pc' := 37) dX12_doorIn_34 rfl (by decide) rfl rfl ?_
        refine T_goto (pc' := 2) dX12_doorIn_37 (by decide) ?_
        exact T_wk (H hG) ⟨Or.inr rfl, Or.inr rfl, Or.inr rfl, trivial⟩
      · skip
        replace H := H.1 c4
        refine T_iload_n (i := 2) (pc' := 33) dX12_doorIn_32 rfl rfl rfl ?_
        exact T_iret dX12_doorIn_33 rfl ⟨rfl, hG, H⟩
theorem eX12_doorIn {E : EV} {h : Int} {M : Mem} {Q : Option MV → Mem → Prop} {v1 : Int} (H : G h M → TG E miX12_doorIn 2 h Q 0 [(2, 66), (0, v1), (3, 0)] [] M) : C2 E miX12_doorIn 2 h [(2, 66), (0, v1)] M Q :=
  C2_of (by decide +kernel) (Nat.le_of_ble_eq_true rfl) rfl H
set_option maxRecDepth 100000 in
set_option maxHeartbeats 2000000 in
theorem wX12_waitingNear_0 {E : EV} {h : Int} {M : Mem} {Q : Option MV → Mem → Prop} {v1 : Int} {v2 : Int}  (H : (G h M → TG E miX12_waitingNear 4 h Q 5 [(2, 66), (0, v1), (0, v2), (0, 0), (0, 0)] [] M)) : G h M → TG E miX12_waitingNear 4 h Q 0 [(2, 66), (0, v1), (0, v2), (3, 0), (3, 0)] [] M := by
  intro hG
  refine T_iconst (pc' := 1) dX12_waitingNear_0 (by decide) rfl ?_
  refine T_istore_n (i := 3) (L' := [(2, 66), (0, v1), (0, v2), (0, 0), (3, 0)]) (pc' := 2) dX12_waitingNear_1 rfl (by decide) rfl rfl ?_
  refine T_iconst (pc' := 3) dX12_waitingNear_2 (by decide) rfl ?_
  refine T_istore (i := 4) (L' := [(2, 66), (0, v1), (0, v2), (0, 0), (0, 0)]) (pc' := 5) dX12_waitingNear_3 (by decide) rfl rfl ?_
  exact T_wk (H hG) ⟨Or.inr rfl, Or.inr rfl, Or.inr rfl, Or.inr rfl, Or.inr rfl, trivial⟩
set_option maxRecDepth 100000 in
set_option maxHeartbeats 2000000 in
theorem wX12_waitingNear_5 {E : EV} {h : Int} {M : Mem} {Q : Option MV → Mem → Prop} {v1 : Int} {v2 : Int} {v3 : Int} {v4 : Int}  (H : (((fX12_peopleMany M) ≤ v4 → Q (some (0, v3)) M) ∧ (¬ ((fX12_peopleMany M) ≤ v4) → (((fX12_isComing M v4) = 0 → (G h M → TG E miX12_waitingNear 4 h Q 5 [(2, 66), (0, v1), (0, v2), (0, v3), (0, (wr32 (v4 + 1)))] [] M)) ∧ (¬ ((fX12_isComing M v4) = 0) → (nX12_isWaiting M v4) ∧ (((fX12_isWaiting M v4 v2) = 0 → (G h M → TG E miX12_waitingNear 4 h Q 5 [(2, 66), (0, v1), (0, v2), (0, v3), (0, (wr32 (v4 + 1)))] [] M)) ∧ (¬ ((fX12_isWaiting M v4 v2) = 0) → 0 ≤ (wr32 (12 + (wr32 (3 * v1)))) ∧ (wr32 (12 + (wr32 (3 * v1)))) < 24 ∧ (nX12_whereIn v4 v2) ∧ (nX12_apart M) ∧ 0 ≤ (wr32 ((wr32 (12 + (wr32 (3 * v1)))) + 1)) ∧ (wr32 ((wr32 (12 + (wr32 (3 * v1)))) + 1)) < 24 ∧ (G h M → TG E miX12_waitingNear 4 h Q 5 [(2, 66), (0, v1), (0, v2), (0, (if (M 89 (wr32 ((wr32 (12 + (wr32 (3 * v1)))) + 1))) < (fX12_apart M (M 89 (wr32 (12 + (wr32 (3 * v1))))) (fX12_whereIn M v4 v2)) then v3 else (wr32 (v3 + 1)))), (0, (wr32 (v4 + 1)))] [] M)))))))) : G h M → TG E miX12_waitingNear 4 h Q 5 [(2, 66), (0, v1), (0, v2), (0, v3), (0, v4)] [] M := by
  intro hG
  refine T_iload (i := 4) (pc' := 7) dX12_waitingNear_5 rfl rfl ?_
  refine T_aload_n (i := 0) (pc' := 8) dX12_waitingNear_7 rfl rfl rfl ?_
  refine T_callV (av := []) (st := [(0, v4)]) (d2 := 1) (nc2 := 0) (ns2 := 0) (pc' := 11) dX12_waitingNear_8 rfl mtX12_peopleMany mvX12_peopleMany mlX12_349 cl12 rfl rfl rfl (Nat.le_of_ble_eq_true rfl) (by decide) ⟨by decide, by decide⟩ rfl (pX12_peopleMany (E := E) (h := h) (M := M) hG) (kF (st2 := [(0, (fX12_peopleMany M)), (0, v4)]) rfl (fun hG1 => ?_))
  refine T_icmp_ge (pc' := 80) dX12_waitingNear_11 (by decide) (pf := 14) rfl (fun c2 => ?_) (fun c2 => ?_)
  · skip
    replace H := H.1 c2
    refine T_iload_n (i := 3) (pc' := 81) dX12_waitingNear_80 rfl rfl rfl ?_
    exact T_iret dX12_waitingNear_81 rfl ⟨rfl, hG, H⟩
  · skip
    replace H := H.2 c2
    refine T_aload_n (i := 0) (pc' := 15) dX12_waitingNear_14 rfl rfl rfl ?_
    refine T_iload (i := 4) (pc' := 17) dX12_waitingNear_15 rfl rfl ?_
    refine T_callV (av := [(0, v4)]) (st := []) (d2 := 3) (nc2 := 0) (ns2 := 0) (pc' := 20) dX12_waitingNear_17 rfl mtX12_isComing mvX12_isComing mlX12_376 cl12 rfl rfl rfl (Nat.le_of_ble_eq_true rfl) (by decide) ⟨by decide, by decide⟩ rfl (pX12_isComing (E := E) (h := h) (M := M) (v1 := v4) hG) (kF (st2 := [(0, (fX12_isComing M v4))]) rfl (fun hG3 => ?_))
    refine T_if_eq (pc' := 74) dX12_waitingNear_20 (by decide) (pf := 23) rfl (fun c4 => ?_) (fun c4 => ?_)
    · skip
      replace H := H.1 c4
      refine T_iinc (L' := [(2, 66), (0, v1), (0, v2), (0, v3), (0, (wr32 (v4 + 1)))]) (pc' := 77) dX12_waitingNear_74 rfl (by decide) rfl rfl ?_
      refine T_goto (pc' := 5) dX12_waitingNear_77 (by decide) ?_
      exact T_wk (H hG) ⟨Or.inr rfl, Or.inr rfl, Or.inr rfl, Or.inr rfl, Or.inr rfl, trivial⟩
    · skip
      replace H := H.2 c4
      refine T_aload_n (i := 0) (pc' := 24) dX12_waitingNear_23 rfl rfl rfl ?_
      refine T_iload (i := 4) (pc' := 26) dX12_waitingNear_24 rfl rfl ?_
      refine T_iload_n (i := 2) (pc' := 27) dX12_waitingNear_26 rfl rfl rfl ?_
      obtain ⟨z5, H⟩ := H
      refine T_callV (av := [(0, v4), (0, v2)]) (st := []) (d2 := 1) (nc2 := 0) (ns2 := 0) (pc' := 30) dX12_waitingNear_27 rfl mtX12_isWaiting mvX12_isWaiting mlX12_389 cl12 rfl rfl rfl (Nat.le_of_ble_eq_true rfl) (by decide) ⟨by decide, by decide⟩ rfl (pX12_isWaiting (E := E) (h := h) (M := M) (v1 := v4) (v2 := v2) z5 hG) (kF (st2 := [(0, (fX12_isWaiting M v4 v2))]) rfl (fun hG6 => ?_))
      refine T_if_eq (pc' := 74) dX12_waitingNear_30 (by decide) (pf := 33) rfl (fun c7 => ?_) (fun c7 => ?_)
      · skip
        replace H := H.1 c7
        refine T_iinc (L' := [(2, 66), (0, v1), (0, v2), (0, v3), (0, (wr32 (v4 + 1)))]) (pc' := 77) dX12_waitingNear_74 rfl (by decide) rfl rfl ?_
        refine T_goto (pc' := 5) dX12_waitingNear_77 (by decide) ?_
        exact T_wk (H hG) ⟨Or.inr rfl, Or.inr rfl, Or.inr rfl, Or.inr rfl, Or.inr rfl, trivial⟩
      · skip
        replace H := H.2 c7
        refine T_aload_n (i := 0) (pc' := 34) dX12_waitingNear_33 rfl rfl rfl ?_
        refine T_aload_n (i := 0) (pc' := 35) dX12_waitingNear_34 rfl rfl rfl ?_
        refine U_gr (q := 89) (k := 32) (kI := 32) (pc' := 38) dX12_waitingNear_35 rfl cl12 (by decide) rfl (by decide) flX12_83 rfl rfl rfl (G_at hG 89 rfl) (by decide) rfl ?_
        refine T_bipush (pc' := 40) dX12_waitingNear_38 rfl (by decide) rfl ?_
        refine T_iconst (pc' := 41) dX12_waitingNear_40 (by decide) rfl ?_
        refine T_iload_n (i := 1) (pc' := 42) dX12_waitingNear_41 rfl rfl rfl ?_
        refine T_imul (pc' := 43) dX12_waitingNear_42 rfl ?_
        refine T_iadd (pc' := 44) dX12_waitingNear_43 rfl ?_
        obtain ⟨z1, z2, H⟩ := H
        refine T_iald (pc' := 45) dX12_waitingNear_44 (by decide) rfl z1 z2 rfl ?_
        refine T_aload_n (i := 0) (pc' := 46) dX12_waitingNear_45 rfl rfl rfl ?_
        refine T_iload (i := 4) (pc' := 48) dX12_waitingNear_46 rfl rfl ?_
        refine T_iload_n (i := 2) (pc' := 49) dX12_waitingNear_48 rfl rfl rfl ?_
        obtain ⟨z8, H⟩ := H
        refine T_callV (av := [(0, v4), (0, v2)]) (st := [(0, (M 89 (wr32 (12 + (wr32 (3 * v1)))))), (2, 66)]) (d2 := 1) (nc2 := 0) (ns2 := 0) (pc' := 52) dX12_waitingNear_49 rfl mtX12_whereIn mvX12_whereIn mlX12_383 cl12 rfl rfl rfl (Nat.le_of_ble_eq_true rfl) (by decide) ⟨by decide, by decide⟩ rfl (pX12_whereIn (E := E) (h := h) (M := M) (v1 := v4) (v2 := v2) z8 hG) (kF (st2 := [(0, (fX12_whereIn M v4 v2)), (0, (M 89 (wr32 (12 + (wr32 (3 * v1)))))), (2, 66)]) rfl (fun hG9 => ?_))
        obtain ⟨z10, H⟩ := H
        refine T_callV (av := [(0, (M 89 (wr32 (12 + (wr32 (3 * v1)))))), (0, (fX12_whereIn M v4 v2))]) (st := []) (d2 := 2) (nc2 := 0) (ns2 := 0) (pc' := 55) dX12_waitingNear_52 rfl mtX12_apart mvX12_apart mlX12_386 cl12 rfl rfl rfl (Nat.le_of_ble_eq_true rfl) (by decide) ⟨by decide, by decide⟩ rfl (pX12_apart (E := E) (h := h) (M := M) (v1 := (M 89 (wr32 (12 + (wr32 (3 * v1)))))) (v2 := (fX12_whereIn M v4 v2)) z10 hG) (kF (st2 := [(0, (fX12_apart M (M 89 (wr32 (12 + (wr32 (3 * v1))))) (fX12_whereIn M v4 v2)))]) rfl (fun hG11 => ?_))
        refine T_aload_n (i := 0) (pc' := 56) dX12_waitingNear_55 rfl rfl rfl ?_
        refine U_gr (q := 89) (k := 32) (kI := 32) (pc' := 59) dX12_waitingNear_56 rfl cl12 (by decide) rfl (by decide) flX12_83 rfl rfl rfl (G_at hG 89 rfl) (by decide) rfl ?_
        refine T_bipush (pc' := 61) dX12_waitingNear_59 rfl (by decide) rfl ?_
        refine T_iconst (pc' := 62) dX12_waitingNear_61 (by decide) rfl ?_
        refine T_iload_n (i := 1) (pc' := 63) dX12_waitingNear_62 rfl rfl rfl ?_
        refine T_imul (pc' := 64) dX12_waitingNear_63 rfl ?_
        refine T_iadd (pc' := 65) dX12_waitingNear_64 rfl ?_
        refine T_iconst (pc' := 66) dX12_waitingNear_65 (by decide) rfl ?_
        refine T_iadd (pc' := 67) dX12_waitingNear_66 rfl ?_
        obtain ⟨z1, z2, H⟩ := H
        refine T_iald (pc' := 68) dX12_waitingNear_67 (by decide) rfl z1 z2 rfl ?_
        have HJ12 : T E miX12_waitingNear 4 126 0 0 (fun r S M' => S = S0 ∧ G h M' ∧ Q r M') 74 [(2, 66), (0, v1), (0, v2), (0, (if (M 89 (wr32 ((wr32 (12 + (wr32 (3 * v1)))) + 1))) < (fX12_apart M (M 89 (wr32 (12 + (wr32 (3 * v1))))) (fX12_whereIn M v4 v2)) then v3 else (wr32 (v3 + 1)))), (0, v4)] [] S0 M 0 0 := by
          refine T_iinc (L' := [(2, 66), (0, v1), (0, v2), (0, (if (M 89 (wr32 ((wr32 (12 + (wr32 (3 * v1)))) + 1))) < (fX12_apart M (M 89 (wr32 (12 + (wr32 (3 * v1))))) (fX12_whereIn M v4 v2)) then v3 else (wr32 (v3 + 1)))), (0, (wr32 (v4 + 1)))]) (pc' := 77) dX12_waitingNear_74 rfl (by decide) rfl rfl ?_
          refine T_goto (pc' := 5) dX12_waitingNear_77 (by decide) ?_
          exact T_wk (H hG) ⟨Or.inr rfl, Or.inr rfl, Or.inr rfl, Or.inr rfl, Or.inr rfl, trivial⟩
        refine T_icmp_gt (pc' := 74) dX12_waitingNear_68 (by decide) (pf := 71) rfl (fun c13 => ?_) (fun c13 => ?_)
        · skip
          exact T_wk (L' := [(2, 66), (0, v1), (0, v2), (0, v3), (0, v4)]) (by have q := HJ12; try simp only [if_pos c13] at q; exact q) ⟨Or.inr rfl, Or.inr rfl, Or.inr rfl, Or.inr rfl, Or.inr rfl, trivial⟩
        · skip
          refine T_iinc (L' := [(2, 66), (0, v1), (0, v2), (0, (wr32 (v3 + 1))), (0, v4)]) (pc' := 74) dX12_waitingNear_71 rfl (by decide) rfl rfl ?_
          exact T_wk (L' := [(2, 66), (0, v1), (0, v2), (0, (wr32 (v3 + 1))), (0, v4)]) (by have q := HJ12; try simp only [if_neg c13] at q; exact q) ⟨Or.inr rfl, Or.inr rfl, Or.inr rfl, Or.inr rfl, Or.inr rfl, trivial⟩
theorem eX12_waitingNear {E : EV} {h : Int} {M : Mem} {Q : Option MV → Mem → Prop} {v1 : Int} {v2 : Int} (H : G h M → TG E miX12_waitingNear 4 h Q 0 [(2, 66), (0, v1), (0, v2), (3, 0), (3, 0)] [] M) : C2 E miX12_waitingNear 4 h [(2, 66), (0, v1), (0, v2)] M Q :=
  C2_of (by decide +kernel) (Nat.le_of_ble_eq_true rfl) rfl H
set_option maxRecDepth 100000 in
set_option maxHeartbeats 2000000 in
theorem wX12_openMany_0 {E : EV} {h : Int} {M : Mem} {Q : Option MV → Mem → Prop} {v1 : Int}  (H : (G h M → TG E miX12_openMany 4 h Q 4 [(2, 66), (0, v1), (0, 0), (0, 0)] [] M)) : G h M → TG E miX12_openMany 4 h Q 0 [(2, 66), (0, v1), (3, 0), (3, 0)] [] M := by
  intro hG
  refine T_iconst (pc' := 1) dX12_openMany_0 (by decide) rfl ?_
  refine T_istore_n (i := 2) (L' := [(2, 66), (0, v1), (0, 0), (3, 0)]) (pc' := 2) dX12_openMany_1 rfl (by decide) rfl rfl ?_
  refine T_iconst (pc' := 3) dX12_openMany_2 (by decide) rfl ?_
  refine T_istore_n (i := 3) (L' := [(2, 66), (0, v1), (0, 0), (0, 0)]) (pc' := 4) dX12_openMany_3 rfl (by decide) rfl rfl ?_
  exact T_wk (H hG) ⟨Or.inr rfl, Or.inr rfl, Or.inr rfl, Or.inr rfl, trivial⟩
set_option maxRecDepth 100000 in
set_option maxHeartbeats 2000000 in
theorem wX12_openMany_4 {E : EV} {h : Int} {M : Mem} {Q : Option MV → Mem → Prop} {v1 : Int} {v2 : Int} {v3 : Int}  (H : (((fX12_peopleMany M) ≤ v3 → Q (some (0, v2)) M) ∧ (¬ ((fX12_peopleMany M) ≤ v3) → (((fX12_isComing M v3) = 0 → (G h M → TG E miX12_openMany 4 h Q 4 [(2, 66), (0, v1), (0, v2), (0, (wr32 (v3 + 1)))] [] M)) ∧ (¬ ((fX12_isComing M v3) = 0) → (nX12_isOpen M v3 v1) ∧ (G h M → TG E miX12_openMany 4 h Q 4 [(2, 66), (0, v1), (0, (if (fX12_isOpen M v3 v1) = 0 then v2 else (wr32 (v2 + 1)))), (0, (wr32 (v3 + 1)))] [] M)))))) : G h M → TG E miX12_openMany 4 h Q 4 [(2, 66), (0, v1), (0, v2), (0, v3)] [] M := by
  intro hG
  refine T_iload_n (i := 3) (pc' := 5) dX12_openMany_4 rfl rfl rfl ?_
  refine T_aload_n (i := 0) (pc' := 6) dX12_openMany_5 rfl rfl rfl ?_
  refine T_callV (av := []) (st := [(0, v3)]) (d2 := 1) (nc2 := 0) (ns2 := 0) (pc' := 9) dX12_openMany_6 rfl mtX12_peopleMany mvX12_peopleMany mlX12_349 cl12 rfl rfl rfl (Nat.le_of_ble_eq_true rfl) (by decide) ⟨by decide, by decide⟩ rfl (pX12_peopleMany (E := E) (h := h) (M := M) hG) (kF (st2 := [(0, (fX12_peopleMany M)), (0, v3)]) rfl (fun hG1 => ?_))
  refine T_icmp_ge (pc' := 38) dX12_openMany_9 (by decide) (pf := 12) rfl (fun c2 => ?_) (fun c2 => ?_)
  · skip
    replace H := H.1 c2
    refine T_iload_n (i := 2) (pc' := 39) dX12_openMany_38 rfl rfl rfl ?_
    exact T_iret dX12_openMany_39 rfl ⟨rfl, hG, H⟩
  · skip
    replace H := H.2 c2
    refine T_aload_n (i := 0) (pc' := 13) dX12_openMany_12 rfl rfl rfl ?_
    refine T_iload_n (i := 3) (pc' := 14) dX12_openMany_13 rfl rfl rfl ?_
    refine T_callV (av := [(0, v3)]) (st := []) (d2 := 3) (nc2 := 0) (ns2 := 0) (pc' := 17) dX12_openMany_14 rfl mtX12_isComing mvX12_isComing mlX12_376 cl12 rfl rfl rfl (Nat.le_of_ble_eq_true rfl) (by decide) ⟨by decide, by decide⟩ rfl (pX12_isComing (E := E) (h := h) (M := M) (v1 := v3) hG) (kF (st2 := [(0, (fX12_isComing M v3))]) rfl (fun hG3 => ?_))
    refine T_if_eq (pc' := 32) dX12_openMany_17 (by decide) (pf := 20) rfl (fun c4 => ?_) (fun c4 => ?_)
    · skip
      replace H := H.1 c4
      refine T_iinc (L' := [(2, 66), (0, v1), (0, v2), (0, (wr32 (v3 + 1)))]) (pc' := 35) dX12_openMany_32 rfl (by decide) rfl rfl ?_
      refine T_goto (pc' := 4) dX12_openMany_35 (by decide) ?_
      exact T_wk (H hG) ⟨Or.inr rfl, Or.inr rfl, Or.inr rfl, Or.inr rfl, trivial⟩
    · skip
      replace H := H.2 c4
      refine T_aload_n (i := 0) (pc' := 21) dX12_openMany_20 rfl rfl rfl ?_
      refine T_iload_n (i := 3) (pc' := 22) dX12_openMany_21 rfl rfl rfl ?_
      refine T_iload_n (i := 1) (pc' := 23) dX12_openMany_22 rfl rfl rfl ?_
      obtain ⟨z5, H⟩ := H
      refine T_callV (av := [(0, v3), (0, v1)]) (st := []) (d2 := 2) (nc2 := 0) (ns2 := 0) (pc' := 26) dX12_openMany_23 rfl mtX12_isOpen mvX12_isOpen mlX12_379 cl12 rfl rfl rfl (Nat.le_of_ble_eq_true rfl) (by decide) ⟨by decide, by decide⟩ rfl (pX12_isOpen (E := E) (h := h) (M := M) (v1 := v3) (v2 := v1) z5 hG) (kF (st2 := [(0, (fX12_isOpen M v3 v1))]) rfl (fun hG6 => ?_))
      have HJ7 : T E miX12_openMany 4 126 0 0 (fun r S M' => S = S0 ∧ G h M' ∧ Q r M') 32 [(2, 66), (0, v1), (0, (if (fX12_isOpen M v3 v1) = 0 then v2 else (wr32 (v2 + 1)))), (0, v3)] [] S0 M 0 0 := by
        refine T_iinc (L' := [(2, 66), (0, v1), (0, (if (fX12_isOpen M v3 v1) = 0 then v2 else (wr32 (v2 + 1)))), (0, (wr32 (v3 + 1)))]) (pc' := 35) dX12_openMany_32 rfl (by decide) rfl rfl ?_
        refine T_goto (pc' := 4) dX12_openMany_35 (by decide) ?_
        exact T_wk (H hG) ⟨Or.inr rfl, Or.inr rfl, Or.inr rfl, Or.inr rfl, trivial⟩
      refine T_if_eq (pc' := 32) dX12_openMany_26 (by decide) (pf := 29) rfl (fun c8 => ?_) (fun c8 => ?_)
      · skip
        exact T_wk (L' := [(2, 66), (0, v1), (0, v2), (0, v3)]) (by have q := HJ7; try simp only [if_pos c8] at q; exact q) ⟨Or.inr rfl, Or.inr rfl, Or.inr rfl, Or.inr rfl, trivial⟩
      · skip
        refine T_iinc (L' := [(2, 66), (0, v1), (0, (wr32 (v2 + 1))), (0, v3)]) (pc' := 32) dX12_openMany_29 rfl (by decide) rfl rfl ?_
        exact T_wk (L' := [(2, 66), (0, v1), (0, (wr32 (v2 + 1))), (0, v3)]) (by have q := HJ7; try simp only [if_neg c8] at q; exact q) ⟨Or.inr rfl, Or.inr rfl, Or.inr rfl, Or.inr rfl, trivial⟩
theorem eX12_openMany {E : EV} {h : Int} {M : Mem} {Q : Option MV → Mem → Prop} {v1 : Int} (H : G h M → TG E miX12_openMany 4 h Q 0 [(2, 66), (0, v1), (3, 0), (3, 0)] [] M) : C2 E miX12_openMany 4 h [(2, 66), (0, v1)] M Q :=
  C2_of (by decide +kernel) (Nat.le_of_ble_eq_true rfl) rfl H
set_option maxRecDepth 100000 in
set_option maxHeartbeats 2000000 in
theorem wX12_wallMany_0 {E : EV} {h : Int} {M : Mem} {Q : Option MV → Mem → Prop}   (H : (G h M → TG E miX12_wallMany 2 h Q 4 [(2, 66), (0, 0), (0, 0)] [] M)) : G h M → TG E miX12_wallMany 2 h Q 0 [(2, 66), (3, 0), (3, 0)] [] M := by
  intro hG
  refine T_iconst (pc' := 1) dX12_wallMany_0 (by decide) rfl ?_
  refine T_istore_n (i := 1) (L' := [(2, 66), (0, 0), (3, 0)]) (pc' := 2) dX12_wallMany_1 rfl (by decide) rfl rfl ?_
  refine T_iconst (pc' := 3) dX12_wallMany_2 (by decide) rfl ?_
  refine T_istore_n (i := 2) (L' := [(2, 66), (0, 0), (0, 0)]) (pc' := 4) dX12_wallMany_3 rfl (by decide) rfl rfl ?_
  exact T_wk (H hG) ⟨Or.inr rfl, Or.inr rfl, Or.inr rfl, trivial⟩
set_option maxRecDepth 100000 in
set_option maxHeartbeats 2000000 in
theorem wX12_wallMany_4 {E : EV} {h : Int} {M : Mem} {Q : Option MV → Mem → Prop} {v1 : Int} {v2 : Int}  (H : (((fX12_cells M) ≤ v2 → Q (some (0, v1)) M) ∧ (¬ ((fX12_cells M) ≤ v2) → (nX12_isWallNow v2) ∧ (G h M → TG E miX12_wallMany 2 h Q 4 [(2, 66), (0, (if (fX12_isWallNow M v2) = 0 then v1 else (wr32 (v1 + 1)))), (0, (wr32 (v2 + 1)))] [] M)))) : G h M → TG E miX12_wallMany 2 h Q 4 [(2, 66), (0, v1), (0, v2)] [] M := by
  intro hG
  refine T_iload_n (i := 2) (pc' := 5) dX12_wallMany_4 rfl rfl rfl ?_
  refine T_aload_n (i := 0) (pc' := 6) dX12_wallMany_5 rfl rfl rfl ?_
  refine T_callV (av := []) (st := [(0, v2)]) (d2 := 1) (nc2 := 0) (ns2 := 0) (pc' := 9) dX12_wallMany_6 rfl mtX12_cells mvX12_cells mlX12_346 cl12 rfl rfl rfl (Nat.le_of_ble_eq_true rfl) (by decide) ⟨by decide, by decide⟩ rfl (pX12_cells (E := E) (h := h) (M := M) hG) (kF (st2 := [(0, (fX12_cells M)), (0, v2)]) rfl (fun hG1 => ?_))
  refine T_icmp_ge (pc' := 29) dX12_wallMany_9 (by decide) (pf := 12) rfl (fun c2 => ?_) (fun c2 => ?_)
  · skip
    replace H := H.1 c2
    refine T_iload_n (i := 1) (pc' := 30) dX12_wallMany_29 rfl rfl rfl ?_
    exact T_iret dX12_wallMany_30 rfl ⟨rfl, hG, H⟩
  · skip
    replace H := H.2 c2
    refine T_aload_n (i := 0) (pc' := 13) dX12_wallMany_12 rfl rfl rfl ?_
    refine T_iload_n (i := 2) (pc' := 14) dX12_wallMany_13 rfl rfl rfl ?_
    obtain ⟨z3, H⟩ := H
    refine T_callV (av := [(0, v2)]) (st := []) (d2 := 1) (nc2 := 0) (ns2 := 0) (pc' := 17) dX12_wallMany_14 rfl mtX12_isWallNow mvX12_isWallNow mlX12_355 cl12 rfl rfl rfl (Nat.le_of_ble_eq_true rfl) (by decide) ⟨by decide, by decide⟩ rfl (pX12_isWallNow (E := E) (h := h) (M := M) (v1 := v2) z3 hG) (kF (st2 := [(0, (fX12_isWallNow M v2))]) rfl (fun hG4 => ?_))
    have HJ5 : T E miX12_wallMany 2 126 0 0 (fun r S M' => S = S0 ∧ G h M' ∧ Q r M') 23 [(2, 66), (0, (if (fX12_isWallNow M v2) = 0 then v1 else (wr32 (v1 + 1)))), (0, v2)] [] S0 M 0 0 := by
      refine T_iinc (L' := [(2, 66), (0, (if (fX12_isWallNow M v2) = 0 then v1 else (wr32 (v1 + 1)))), (0, (wr32 (v2 + 1)))]) (pc' := 26) dX12_wallMany_23 rfl (by decide) rfl rfl ?_
      refine T_goto (pc' := 4) dX12_wallMany_26 (by decide) ?_
      exact T_wk (H hG) ⟨Or.inr rfl, Or.inr rfl, Or.inr rfl, trivial⟩
    refine T_if_eq (pc' := 23) dX12_wallMany_17 (by decide) (pf := 20) rfl (fun c6 => ?_) (fun c6 => ?_)
    · skip
      exact T_wk (L' := [(2, 66), (0, v1), (0, v2)]) (by have q := HJ5; try simp only [if_pos c6] at q; exact q) ⟨Or.inr rfl, Or.inr rfl, Or.inr rfl, trivial⟩
    · skip
      refine T_iinc (L' := [(2, 66), (0, (wr32 (v1 + 1))), (0, v2)]) (pc' := 23) dX12_wallMany_20 rfl (by decide) rfl rfl ?_
      exact T_wk (L' := [(2, 66), (0, (wr32 (v1 + 1))), (0, v2)]) (by have q := HJ5; try simp only [if_neg c6] at q; exact q) ⟨Or.inr rfl, Or.inr rfl, Or.inr rfl, trivial⟩
theorem eX12_wallMany {E : EV} {h : Int} {M : Mem} {Q : Option MV → Mem → Prop}  (H : G h M → TG E miX12_wallMany 2 h Q 0 [(2, 66), (3, 0), (3, 0)] [] M) : C2 E miX12_wallMany 2 h [(2, 66)] M Q :=
  C2_of (by decide +kernel) (Nat.le_of_ble_eq_true rfl) rfl H
set_option maxRecDepth 100000 in
set_option maxHeartbeats 2000000 in
theorem wX12_closedMany_0 {E : EV} {h : Int} {M : Mem} {Q : Option MV → Mem → Prop}   (H : (G h M → TG E miX12_closedMany 2 h Q 4 [(2, 66), (0, 0), (0, 0)] [] M)) : G h M → TG E miX12_closedMany 2 h Q 0 [(2, 66), (3, 0), (3, 0)] [] M := by
  intro hG
  refine T_iconst (pc' := 1) dX12_closedMany_0 (by decide) rfl ?_
  refine T_istore_n (i := 1) (L' := [(2, 66), (0, 0), (3, 0)]) (pc' := 2) dX12_closedMany_1 rfl (by decide) rfl rfl ?_
  refine T_iconst (pc' := 3) dX12_closedMany_2 (by decide) rfl ?_
  refine T_istore_n (i := 2) (L' := [(2, 66), (0, 0), (0, 0)]) (pc' := 4) dX12_closedMany_3 rfl (by decide) rfl rfl ?_
  exact T_wk (H hG) ⟨Or.inr rfl, Or.inr rfl, Or.inr rfl, trivial⟩
set_option maxRecDepth 100000 in
set_option maxHeartbeats 2000000 in
theorem wX12_closedMany_4 {E : EV} {h : Int} {M : Mem} {Q : Option MV → Mem → Prop} {v1 : Int} {v2 : Int}  (H : (((fX12_doorMany M) ≤ v2 → Q (some (0, v1)) M) ∧ (¬ ((fX12_doorMany M) ≤ v2) → 0 ≤ v2 ∧ v2 < 6 ∧ (G h M → TG E miX12_closedMany 2 h Q 4 [(2, 66), (0, (wr32 (v1 + (M 92 v2)))), (0, (wr32 (v2 + 1)))] [] M)))) : G h M → TG E miX12_closedMany 2 h Q 4 [(2, 66), (0, v1), (0, v2)] [] M := by
  intro hG
  refine T_iload_n (i := 2) (pc' := 5) dX12_closedMany_4 rfl rfl rfl ?_
  refine T_aload_n (i := 0) (pc' := 6) dX12_closedMany_5 rfl rfl rfl ?_
  refine T_callV (av := []) (st := [(0, v2)]) (d2 := 1) (nc2 := 0) (ns2 := 0) (pc' := 9) dX12_closedMany_6 rfl mtX12_doorMany mvX12_doorMany mlX12_361 cl12 rfl rfl rfl (Nat.le_of_ble_eq_true rfl) (by decide) ⟨by decide, by decide⟩ rfl (pX12_doorMany (E := E) (h := h) (M := M) hG) (kF (st2 := [(0, (fX12_doorMany M)), (0, v2)]) rfl (fun hG1 => ?_))
  refine T_icmp_ge (pc' := 27) dX12_closedMany_9 (by decide) (pf := 12) rfl (fun c2 => ?_) (fun c2 => ?_)
  · skip
    replace H := H.1 c2
    refine T_iload_n (i := 1) (pc' := 28) dX12_closedMany_27 rfl rfl rfl ?_
    exact T_iret dX12_closedMany_28 rfl ⟨rfl, hG, H⟩
  · skip
    replace H := H.2 c2
    refine T_iload_n (i := 1) (pc' := 13) dX12_closedMany_12 rfl rfl rfl ?_
    refine T_aload_n (i := 0) (pc' := 14) dX12_closedMany_13 rfl rfl rfl ?_
    refine U_gr (q := 92) (k := 41) (kI := 41) (pc' := 17) dX12_closedMany_14 rfl cl12 (by decide) rfl (by decide) flX12_92 rfl rfl rfl (G_at hG 92 rfl) (by decide) rfl ?_
    refine T_iload_n (i := 2) (pc' := 18) dX12_closedMany_17 rfl rfl rfl ?_
    obtain ⟨z1, z2, H⟩ := H
    refine T_iald (pc' := 19) dX12_closedMany_18 (by decide) rfl z1 z2 rfl ?_
    refine T_iadd (pc' := 20) dX12_closedMany_19 rfl ?_
    refine T_istore_n (i := 1) (L' := [(2, 66), (0, (wr32 (v1 + (M 92 v2)))), (0, v2)]) (pc' := 21) dX12_closedMany_20 rfl (by decide) rfl rfl ?_
    refine T_iinc (L' := [(2, 66), (0, (wr32 (v1 + (M 92 v2)))), (0, (wr32 (v2 + 1)))]) (pc' := 24) dX12_closedMany_21 rfl (by decide) rfl rfl ?_
    refine T_goto (pc' := 4) dX12_closedMany_24 (by decide) ?_
    exact T_wk (H hG) ⟨Or.inr rfl, Or.inr rfl, Or.inr rfl, trivial⟩
theorem eX12_closedMany {E : EV} {h : Int} {M : Mem} {Q : Option MV → Mem → Prop}  (H : G h M → TG E miX12_closedMany 2 h Q 0 [(2, 66), (3, 0), (3, 0)] [] M) : C2 E miX12_closedMany 2 h [(2, 66)] M Q :=
  C2_of (by decide +kernel) (Nat.le_of_ble_eq_true rfl) rfl H
set_option maxRecDepth 100000 in
set_option maxHeartbeats 2000000 in
theorem wX12_letter_0 {E : EV} {h : Int} {M : Mem} {Q : Option MV → Mem → Prop} {v1 : Int} {v2 : Int} {v3 : Int}  (H : (((fX12_isIn v1 0 1) = 0 → Q (some (0, (-1))) M) ∧ (¬ ((fX12_isIn v1 0 1) = 0) → 0 ≤ (wr32 (3 + v1)) ∧ (wr32 (3 + v1)) < 6 ∧ (((fX12_isIn v2 0 (wr32 ((M 85 (wr32 (3 + v1))) - 1))) = 0 → Q (some (0, (-1))) M) ∧ (¬ ((fX12_isIn v2 0 (wr32 ((M 85 (wr32 (3 + v1))) - 1))) = 0) → (((fX12_isIn v3 0 5) = 0 → Q (some (0, (-1))) M) ∧ (¬ ((fX12_isIn v3 0 5) = 0) → 0 ≤ (wr32 ((wr32 (20 + (wr32 (10 * v1)))) + v2)) ∧ (wr32 ((wr32 (20 + (wr32 (10 * v1)))) + v2)) < 40 ∧ (G h M → TG E miX12_letter 2 h Q 67 [(3, 0), (3, 0), (3, 0), (0, v3), (1, (M 86 (wr32 ((wr32 (20 + (wr32 (10 * v1)))) + v2)))), (3, 0), (0, 0), (1, (M 86 (wr32 ((wr32 (20 + (wr32 (10 * v1)))) + v2)))), (3, 0)] [] M)))))))) : G h M → TG E miX12_letter 2 h Q 0 [(2, 66), (0, v1), (0, v2), (0, v3), (3, 0), (3, 0), (3, 0), (3, 0), (3, 0)] [] M := by
  intro hG
  refine T_iload_n (i := 1) (pc' := 1) dX12_letter_0 rfl rfl rfl ?_
  refine T_i2l (pc' := 2) dX12_letter_1 rfl ?_
  refine T_lconst (v := 0) (pc' := 3) dX12_letter_2 rfl (by decide) rfl ?_
  refine T_lconst (v := 1) (pc' := 4) dX12_letter_3 rfl (by decide) rfl ?_
  refine T_callS (av := [(1, v1), (1, 0), (1, 1)]) (st := []) (d2 := 1) (nc2 := 0) (ns2 := 0) (pc' := 7) dX12_letter_4 rfl mtX12_isIn mvX12_isIn mlX12_244 rfl rfl (Nat.le_of_ble_eq_true rfl) (by decide) ⟨by decide, by decide⟩ rfl (pX12_isIn (E := E) (h := h) (M := M) (v0 := v1) (v2 := 0) (v4 := 1) hG) (kF (st2 := [(0, (fX12_isIn v1 0 1))]) rfl (fun hG1 => ?_))
  refine T_if_eq (pc' := 42) dX12_letter_7 (by decide) (pf := 10) rfl (fun c2 => ?_) (fun c2 => ?_)
  · skip
    replace H := H.1 c2
    refine T_iconst (pc' := 43) dX12_letter_42 (by decide) rfl ?_
    exact T_iret dX12_letter_43 rfl ⟨rfl, hG, H⟩
  · skip
    replace H := H.2 c2
    refine T_iload_n (i := 2) (pc' := 11) dX12_letter_10 rfl rfl rfl ?_
    refine T_i2l (pc' := 12) dX12_letter_11 rfl ?_
    refine T_lconst (v := 0) (pc' := 13) dX12_letter_12 rfl (by decide) rfl ?_
    refine T_aload_n (i := 0) (pc' := 14) dX12_letter_13 rfl rfl rfl ?_
    refine U_gr (q := 85) (k := 28) (kI := 28) (pc' := 17) dX12_letter_14 rfl cl12 (by decide) rfl (by decide) flX12_69 rfl rfl rfl (G_at hG 85 rfl) (by decide) rfl ?_
    refine T_iconst (pc' := 18) dX12_letter_17 (by decide) rfl ?_
    refine T_iload_n (i := 1) (pc' := 19) dX12_letter_18 rfl rfl rfl ?_
    refine T_iadd (pc' := 20) dX12_letter_19 rfl ?_
    obtain ⟨z1, z2, H⟩ := H
    refine T_iald (pc' := 21) dX12_letter_20 (by decide) rfl z1 z2 rfl ?_
    refine T_iconst (pc' := 22) dX12_letter_21 (by decide) rfl ?_
    refine T_isub (pc' := 23) dX12_letter_22 rfl ?_
    refine T_i2l (pc' := 24) dX12_letter_23 rfl ?_
    refine T_callS (av := [(1, v2), (1, 0), (1, (wr32 ((M 85 (wr32 (3 + v1))) - 1)))]) (st := []) (d2 := 1) (nc2 := 0) (ns2 := 0) (pc' := 27) dX12_letter_24 rfl mtX12_isIn mvX12_isIn mlX12_244 rfl rfl (Nat.le_of_ble_eq_true rfl) (by decide) ⟨by decide, by decide⟩ rfl (pX12_isIn (E := E) (h := h) (M := M) (v0 := v2) (v2 := 0) (v4 := (wr32 ((M 85 (wr32 (3 + v1))) - 1))) hG) (kF (st2 := [(0, (fX12_isIn v2 0 (wr32 ((M 85 (wr32 (3 + v1))) - 1))))]) rfl (fun hG3 => ?_))
    refine T_if_eq (pc' := 42) dX12_letter_27 (by decide) (pf := 30) rfl (fun c4 => ?_) (fun c4 => ?_)
    · skip
      replace H := H.1 c4
      refine T_iconst (pc' := 43) dX12_letter_42 (by decide) rfl ?_
      exact T_iret dX12_letter_43 rfl ⟨rfl, hG, H⟩
    · skip
      replace H := H.2 c4
      refine T_iload_n (i := 3) (pc' := 31) dX12_letter_30 rfl rfl rfl ?_
      refine T_i2l (pc' := 32) dX12_letter_31 rfl ?_
      refine T_lconst (v := 0) (pc' := 33) dX12_letter_32 rfl (by decide) rfl ?_
      refine T_ldc2 (n := 5) (pc' := 36) dX12_letter_33 rfl kjX12_435 rfl (by decide) rfl ?_
      refine T_callS (av := [(1, v3), (1, 0), (1, 5)]) (st := []) (d2 := 1) (nc2 := 0) (ns2 := 0) (pc' := 39) dX12_letter_36 rfl mtX12_isIn mvX12_isIn mlX12_244 rfl rfl (Nat.le_of_ble_eq_true rfl) (by decide) ⟨by decide, by decide⟩ rfl (pX12_isIn (E := E) (h := h) (M := M) (v0 := v3) (v2 := 0) (v4 := 5) hG) (kF (st2 := [(0, (fX12_isIn v3 0 5))]) rfl (fun hG5 => ?_))
      refine T_if_ne (pc' := 44) dX12_letter_39 (by decide) (pf := 42) rfl (fun c6 => ?_) (fun c6 => ?_)
      · skip
        replace H := H.2 c6
        refine T_aload_n (i := 0) (pc' := 45) dX12_letter_44 rfl rfl rfl ?_
        refine U_gr (q := 86) (k := 29) (kI := 29) (pc' := 48) dX12_letter_45 rfl cl12 (by decide) rfl (by decide) flX12_72 rfl rfl rfl (G_at hG 86 rfl) (by decide) rfl ?_
        refine T_bipush (pc' := 50) dX12_letter_48 rfl (by decide) rfl ?_
        refine T_bipush (pc' := 52) dX12_letter_50 rfl (by decide) rfl ?_
        refine T_iload_n (i := 1) (pc' := 53) dX12_letter_52 rfl rfl rfl ?_
        refine T_imul (pc' := 54) dX12_letter_53 rfl ?_
        refine T_iadd (pc' := 55) dX12_letter_54 rfl ?_
        refine T_iload_n (i := 2) (pc' := 56) dX12_letter_55 rfl rfl rfl ?_
        refine T_iadd (pc' := 57) dX12_letter_56 rfl ?_
        obtain ⟨z1, z2, H⟩ := H
        refine T_lald (pc' := 58) dX12_letter_57 (by decide) rfl z1 z2 rfl ?_
        refine T_lstore (i := 4) (L' := [(2, 66), (0, v1), (0, v2), (0, v3), (1, (M 86 (wr32 ((wr32 (20 + (wr32 (10 * v1)))) + v2)))), (3, 0), (3, 0), (3, 0), (3, 0)]) (pc' := 60) dX12_letter_58 (by decide) rfl rfl ?_
        refine T_iconst (pc' := 61) dX12_letter_60 (by decide) rfl ?_
        refine T_istore (i := 6) (L' := [(2, 66), (0, v1), (0, v2), (0, v3), (1, (M 86 (wr32 ((wr32 (20 + (wr32 (10 * v1)))) + v2)))), (3, 0), (0, 0), (3, 0), (3, 0)]) (pc' := 63) dX12_letter_61 (by decide) rfl rfl ?_
        refine T_lload (i := 4) (pc' := 65) dX12_letter_63 rfl rfl ?_
        refine T_lstore (i := 7) (L' := [(2, 66), (0, v1), (0, v2), (0, v3), (1, (M 86 (wr32 ((wr32 (20 + (wr32 (10 * v1)))) + v2)))), (3, 0), (0, 0), (1, (M 86 (wr32 ((wr32 (20 + (wr32 (10 * v1)))) + v2)))), (3, 0)]) (pc' := 67) dX12_letter_65 (by decide) rfl rfl ?_
        exact T_wk (H hG) ⟨Or.inl rfl, Or.inl rfl, Or.inl rfl, Or.inr rfl, Or.inr rfl, Or.inl rfl, Or.inr rfl, Or.inr rfl, Or.inl rfl, trivial⟩
      · skip
        replace H := H.1 c6
        refine T_iconst (pc' := 43) dX12_letter_42 (by decide) rfl ?_
        exact T_iret dX12_letter_43 rfl ⟨rfl, hG, H⟩
set_option maxRecDepth 100000 in
set_option maxHeartbeats 2000000 in
theorem wX12_letter_67 {E : EV} {h : Int} {M : Mem} {Q : Option MV → Mem → Prop} {v3 : Int} {v4 : Int} {v6 : Int} {v7 : Int}  (H : (((m_cmp v7 0) ≤ 0 → ((v3 < v6 → (G h M → TG E miX12_letter 2 h Q 102 [(3, 0), (3, 0), (3, 0), (0, v3), (1, v4), (3, 0), (3, 0), (0, (wr32 (v6 - 1))), (3, 0)] [] M)) ∧ (¬ (v3 < v6) → Q (some (0, 0)) M))) ∧ (¬ ((m_cmp v7 0) ≤ 0) → (G h M → TG E miX12_letter 2 h Q 67 [(3, 0), (3, 0), (3, 0), (0, v3), (1, v4), (3, 0), (0, (wr32 (v6 + 1))), (1, (wr64 (Int.tdiv v7 27))), (3, 0)] [] M)))) : G h M → TG E miX12_letter 2 h Q 67 [(3, 0), (3, 0), (3, 0), (0, v3), (1, v4), (3, 0), (0, v6), (1, v7), (3, 0)] [] M := by
  intro hG
  refine T_lload (i := 7) (pc' := 69) dX12_letter_67 rfl rfl ?_
  refine T_lconst (v := 0) (pc' := 70) dX12_letter_69 rfl (by decide) rfl ?_
  refine T_lcmp (pc' := 71) dX12_letter_70 rfl ?_
  refine T_if_le (pc' := 88) dX12_letter_71 (by decide) (pf := 74) rfl (fun c1 => ?_) (fun c1 => ?_)
  · skip
    replace H := H.1 c1
    refine T_iload_n (i := 3) (pc' := 89) dX12_letter_88 rfl rfl rfl ?_
    refine T_iload (i := 6) (pc' := 91) dX12_letter_89 rfl rfl ?_
    refine T_icmp_lt (pc' := 96) dX12_letter_91 (by decide) (pf := 94) rfl (fun c2 => ?_) (fun c2 => ?_)
    · skip
      replace H := H.1 c2
      refine T_iload (i := 6) (pc' := 98) dX12_letter_96 rfl rfl ?_
      refine T_iconst (pc' := 99) dX12_letter_98 (by decide) rfl ?_
      refine T_isub (pc' := 100) dX12_letter_99 rfl ?_
      refine T_istore (i := 7) (L' := [(3, 0), (3, 0), (3, 0), (0, v3), (1, v4), (3, 0), (0, v6), (0, (wr32 (v6 - 1))), (3, 0)]) (pc' := 102) dX12_letter_100 (by decide) rfl rfl ?_
      exact T_wk (H hG) ⟨Or.inl rfl, Or.inl rfl, Or.inl rfl, Or.inr rfl, Or.inr rfl, Or.inl rfl, Or.inl rfl, Or.inr rfl, Or.inl rfl, trivial⟩
    · skip
      replace H := H.2 c2
      refine T_iconst (pc' := 95) dX12_letter_94 (by decide) rfl ?_
      exact T_iret dX12_letter_95 rfl ⟨rfl, hG, H⟩
  · skip
    replace H := H.2 c1
    refine T_iinc (L' := [(3, 0), (3, 0), (3, 0), (0, v3), (1, v4), (3, 0), (0, (wr32 (v6 + 1))), (1, v7), (3, 0)]) (pc' := 77) dX12_letter_74 rfl (by decide) rfl rfl ?_
    refine T_lload (i := 7) (pc' := 79) dX12_letter_77 rfl rfl ?_
    refine T_ldc2 (n := 27) (pc' := 82) dX12_letter_79 rfl kjX12_259 rfl (by decide) rfl ?_
    refine T_ldiv (pc' := 83) dX12_letter_82 (by decide) rfl ?_
    refine T_lstore (i := 7) (L' := [(3, 0), (3, 0), (3, 0), (0, v3), (1, v4), (3, 0), (0, (wr32 (v6 + 1))), (1, (wr64 (Int.tdiv v7 27))), (3, 0)]) (pc' := 85) dX12_letter_83 (by decide) rfl rfl ?_
    refine T_goto (pc' := 67) dX12_letter_85 (by decide) ?_
    exact T_wk (H hG) ⟨Or.inl rfl, Or.inl rfl, Or.inl rfl, Or.inr rfl, Or.inr rfl, Or.inl rfl, Or.inr rfl, Or.inr rfl, Or.inl rfl, trivial⟩
set_option maxRecDepth 100000 in
set_option maxHeartbeats 2000000 in
theorem wX12_letter_102 {E : EV} {h : Int} {M : Mem} {Q : Option MV → Mem → Prop} {v3 : Int} {v4 : Int} {v7 : Int}  (H : ((v7 ≤ v3 → Q (some (0, (wr32 (Int.tmod v4 27)))) M) ∧ (¬ (v7 ≤ v3) → (G h M → TG E miX12_letter 2 h Q 102 [(3, 0), (3, 0), (3, 0), (0, v3), (1, (wr64 (Int.tdiv v4 27))), (3, 0), (3, 0), (0, (wr32 (v7 + (-1)))), (3, 0)] [] M)))) : G h M → TG E miX12_letter 2 h Q 102 [(3, 0), (3, 0), (3, 0), (0, v3), (1, v4), (3, 0), (3, 0), (0, v7), (3, 0)] [] M := by
  intro hG
  refine T_iload (i := 7) (pc' := 104) dX12_letter_102 rfl rfl ?_
  refine T_iload_n (i := 3) (pc' := 105) dX12_letter_104 rfl rfl rfl ?_
  refine T_icmp_le (pc' := 122) dX12_letter_105 (by decide) (pf := 108) rfl (fun c1 => ?_) (fun c1 => ?_)
  · skip
    replace H := H.1 c1
    refine T_lload (i := 4) (pc' := 124) dX12_letter_122 rfl rfl ?_
    refine T_ldc2 (n := 27) (pc' := 127) dX12_letter_124 rfl kjX12_259 rfl (by decide) rfl ?_
    refine T_lrem (pc' := 128) dX12_letter_127 (by decide) rfl ?_
    refine T_l2i (pc' := 129) dX12_letter_128 rfl ?_
    exact T_iret dX12_letter_129 rfl ⟨rfl, hG, H⟩
  · skip
    replace H := H.2 c1
    refine T_lload (i := 4) (pc' := 110) dX12_letter_108 rfl rfl ?_
    refine T_ldc2 (n := 27) (pc' := 113) dX12_letter_110 rfl kjX12_259 rfl (by decide) rfl ?_
    refine T_ldiv (pc' := 114) dX12_letter_113 (by decide) rfl ?_
    refine T_lstore (i := 4) (L' := [(3, 0), (3, 0), (3, 0), (0, v3), (1, (wr64 (Int.tdiv v4 27))), (3, 0), (3, 0), (0, v7), (3, 0)]) (pc' := 116) dX12_letter_114 (by decide) rfl rfl ?_
    refine T_iinc (L' := [(3, 0), (3, 0), (3, 0), (0, v3), (1, (wr64 (Int.tdiv v4 27))), (3, 0), (3, 0), (0, (wr32 (v7 + (-1)))), (3, 0)]) (pc' := 119) dX12_letter_116 rfl (by decide) rfl rfl ?_
    refine T_goto (pc' := 102) dX12_letter_119 (by decide) ?_
    exact T_wk (H hG) ⟨Or.inl rfl, Or.inl rfl, Or.inl rfl, Or.inr rfl, Or.inr rfl, Or.inl rfl, Or.inl rfl, Or.inr rfl, Or.inl rfl, trivial⟩
theorem eX12_letter {E : EV} {h : Int} {M : Mem} {Q : Option MV → Mem → Prop} {v1 : Int} {v2 : Int} {v3 : Int} (H : G h M → TG E miX12_letter 2 h Q 0 [(2, 66), (0, v1), (0, v2), (0, v3), (3, 0), (3, 0), (3, 0), (3, 0), (3, 0)] [] M) : C2 E miX12_letter 2 h [(2, 66), (0, v1), (0, v2), (0, v3)] M Q :=
  C2_of (by decide +kernel) (Nat.le_of_ble_eq_true rfl) rfl H
set_option maxRecDepth 100000 in
set_option maxHeartbeats 2000000 in
theorem wX12_outBy_0 {E : EV} {h : Int} {M : Mem} {Q : Option MV → Mem → Prop} {v1 : Int} {v2 : Int}  (H : (G h M → TG E miX12_outBy 4 h Q 8 [(2, 66), (0, v1), (0, v2), (0, 0), (0, (-1)), (0, 0)] [] M)) : G h M → TG E miX12_outBy 4 h Q 0 [(2, 66), (0, v1), (0, v2), (3, 0), (3, 0), (3, 0)] [] M := by
  intro hG
  refine T_iconst (pc' := 1) dX12_outBy_0 (by decide) rfl ?_
  refine T_istore_n (i := 3) (L' := [(2, 66), (0, v1), (0, v2), (0, 0), (3, 0), (3, 0)]) (pc' := 2) dX12_outBy_1 rfl (by decide) rfl rfl ?_
  refine T_iconst (pc' := 3) dX12_outBy_2 (by decide) rfl ?_
  refine T_istore (i := 4) (L' := [(2, 66), (0, v1), (0, v2), (0, 0), (0, (-1)), (3, 0)]) (pc' := 5) dX12_outBy_3 (by decide) rfl rfl ?_
  refine T_iconst (pc' := 6) dX12_outBy_5 (by decide) rfl ?_
  refine T_istore (i := 5) (L' := [(2, 66), (0, v1), (0, v2), (0, 0), (0, (-1)), (0, 0)]) (pc' := 8) dX12_outBy_6 (by decide) rfl rfl ?_
  exact T_wk (H hG) ⟨Or.inr rfl, Or.inr rfl, Or.inr rfl, Or.inr rfl, Or.inr rfl, Or.inr rfl, trivial⟩
set_option maxRecDepth 100000 in
set_option maxHeartbeats 2000000 in
theorem wX12_outBy_8 {E : EV} {h : Int} {M : Mem} {Q : Option MV → Mem → Prop} {v1 : Int} {v2 : Int} {v3 : Int} {v4 : Int} {v5 : Int}  (H : (((fX12_peopleMany M) ≤ v5 → Q (some (0, (if v2 = 0 then v3 else v4))) M) ∧ (¬ ((fX12_peopleMany M) ≤ v5) → (((fX12_isComing M v5) = 0 → (G h M → TG E miX12_outBy 4 h Q 8 [(2, 66), (0, v1), (0, v2), (0, v3), (0, v4), (0, (wr32 (v5 + 1)))] [] M)) ∧ (¬ ((fX12_isComing M v5) = 0) → 0 ≤ v5 ∧ v5 < 9 ∧ (((M 98 v5) = (-1) → (G h M → TG E miX12_outBy 4 h Q 8 [(2, 66), (0, v1), (0, v2), (0, v3), (0, v4), (0, (wr32 (v5 + 1)))] [] M)) ∧ (¬ ((M 98 v5) = (-1)) → 0 ≤ v5 ∧ v5 < 9 ∧ (nX12_whereIn v5 (M 98 v5)) ∧ 0 ≤ (wr32 (6 + v1)) ∧ (wr32 (6 + v1)) < 12 ∧ (((fX12_whereIn M v5 (M 98 v5)) = (M 90 (wr32 (6 + v1))) → 0 ≤ v5 ∧ v5 < 9 ∧ (((M 98 v5) ≤ v4 → (G h M → TG E miX12_outBy 4 h Q 8 [(2, 66), (0, v1), (0, v2), (0, (wr32 (v3 + 1))), (0, v4), (0, (wr32 (v5 + 1)))] [] M)) ∧ (¬ ((M 98 v5) ≤ v4) → 0 ≤ v5 ∧ v5 < 9 ∧ (G h M → TG E miX12_outBy 4 h Q 8 [(2, 66), (0, v1), (0, v2), (0, (wr32 (v3 + 1))), (0, (M 98 v5)), (0, (wr32 (v5 + 1)))] [] M)))) ∧ (¬ ((fX12_whereIn M v5 (M 98 v5)) = (M 90 (wr32 (6 + v1)))) → (G h M → TG E miX12_outBy 4 h Q 8 [(2, 66), (0, v1), (0, v2), (0, v3), (0, v4), (0, (wr32 (v5 + 1)))] [] M)))))))))) : G h M → TG E miX12_outBy 4 h Q 8 [(2, 66), (0, v1), (0, v2), (0, v3), (0, v4), (0, v5)] [] M := by
  intro hG
  refine T_iload (i := 5) (pc' := 10) dX12_outBy_8 rfl rfl ?_
  refine T_aload_n (i := 0) (pc' := 11) dX12_outBy_10 rfl rfl rfl ?_
  refine T_callV (av := []) (st := [(0, v5)]) (d2 := 1) (nc2 := 0) (ns2 := 0) (pc' := 14) dX12_outBy_11 rfl mtX12_peopleMany mvX12_peopleMany mlX12_349 cl12 rfl rfl rfl (Nat.le_of_ble_eq_true rfl) (by decide) ⟨by decide, by decide⟩ rfl (pX12_peopleMany (E := E) (h := h) (M := M) hG) (kF (st2 := [(0, (fX12_peopleMany M)), (0, v5)]) rfl (fun hG1 => ?_))
  refine T_icmp_ge (pc' := 95) dX12_outBy_14 (by decide) (pf := 17) rfl (fun c2 => ?_) (fun c2 => ?_)
  · skip
    replace H := H.1 c2
    refine T_iload_n (i := 2) (pc' := 96) dX12_outBy_95 rfl rfl rfl ?_
    have HJ3 : T E miX12_outBy 4 126 0 0 (fun r S M' => S = S0 ∧ G h M' ∧ Q r M') 105 [(3, 0), (3, 0), (3, 0), (3, 0), (3, 0), (3, 0)] [(0, (if v2 = 0 then v3 else v4))] S0 M 0 0 := by
      exact T_iret dX12_outBy_105 rfl ⟨rfl, hG, H⟩
    refine T_if_eq (pc' := 104) dX12_outBy_96 (by decide) (pf := 99) rfl (fun c4 => ?_) (fun c4 => ?_)
    · skip
      refine T_iload_n (i := 3) (pc' := 105) dX12_outBy_104 rfl rfl rfl ?_
      exact T_wk (L' := [(3, 0), (3, 0), (3, 0), (3, 0), (3, 0), (3, 0)]) (by have q := HJ3; try simp only [if_pos c4] at q; exact q) ⟨Or.inl rfl, Or.inl rfl, Or.inl rfl, Or.inl rfl, Or.inl rfl, Or.inl rfl, trivial⟩
    · skip
      refine T_iload (i := 4) (pc' := 101) dX12_outBy_99 rfl rfl ?_
      refine T_goto (pc' := 105) dX12_outBy_101 (by decide) ?_
      exact T_wk (L' := [(3, 0), (3, 0), (3, 0), (3, 0), (3, 0), (3, 0)]) (by have q := HJ3; try simp only [if_neg c4] at q; exact q) ⟨Or.inl rfl, Or.inl rfl, Or.inl rfl, Or.inl rfl, Or.inl rfl, Or.inl rfl, trivial⟩
  · skip
    replace H := H.2 c2
    refine T_aload_n (i := 0) (pc' := 18) dX12_outBy_17 rfl rfl rfl ?_
    refine T_iload (i := 5) (pc' := 20) dX12_outBy_18 rfl rfl ?_
    refine T_callV (av := [(0, v5)]) (st := []) (d2 := 3) (nc2 := 0) (ns2 := 0) (pc' := 23) dX12_outBy_20 rfl mtX12_isComing mvX12_isComing mlX12_376 cl12 rfl rfl rfl (Nat.le_of_ble_eq_true rfl) (by decide) ⟨by decide, by decide⟩ rfl (pX12_isComing (E := E) (h := h) (M := M) (v1 := v5) hG) (kF (st2 := [(0, (fX12_isComing M v5))]) rfl (fun hG5 => ?_))
    refine T_if_eq (pc' := 89) dX12_outBy_23 (by decide) (pf := 26) rfl (fun c6 => ?_) (fun c6 => ?_)
    · skip
      replace H := H.1 c6
      refine T_iinc (L' := [(2, 66), (0, v1), (0, v2), (0, v3), (0, v4), (0, (wr32 (v5 + 1)))]) (pc' := 92) dX12_outBy_89 rfl (by decide) rfl rfl ?_
      refine T_goto (pc' := 8) dX12_outBy_92 (by decide) ?_
      exact T_wk (H hG) ⟨Or.inr rfl, Or.inr rfl, Or.inr rfl, Or.inr rfl, Or.inr rfl, Or.inr rfl, trivial⟩
    · skip
      replace H := H.2 c6
      refine T_aload_n (i := 0) (pc' := 27) dX12_outBy_26 rfl rfl rfl ?_
      refine U_gr (q := 98) (k := 48) (kI := 48) (pc' := 30) dX12_outBy_27 rfl cl12 (by decide) rfl (by decide) flX12_110 rfl rfl rfl (G_at hG 98 rfl) (by decide) rfl ?_
      refine T_iload (i := 5) (pc' := 32) dX12_outBy_30 rfl rfl ?_
      obtain ⟨z1, z2, H⟩ := H
      refine T_iald (pc' := 33) dX12_outBy_32 (by decide) rfl z1 z2 rfl ?_
      refine T_iconst (pc' := 34) dX12_outBy_33 (by decide) rfl ?_
      refine T_icmp_eq (pc' := 89) dX12_outBy_34 (by decide) (pf := 37) rfl (fun c7 => ?_) (fun c7 => ?_)
      · skip
        replace H := H.1 c7
        refine T_iinc (L' := [(2, 66), (0, v1), (0, v2), (0, v3), (0, v4), (0, (wr32 (v5 + 1)))]) (pc' := 92) dX12_outBy_89 rfl (by decide) rfl rfl ?_
        refine T_goto (pc' := 8) dX12_outBy_92 (by decide) ?_
        exact T_wk (H hG) ⟨Or.inr rfl, Or.inr rfl, Or.inr rfl, Or.inr rfl, Or.inr rfl, Or.inr rfl, trivial⟩
      · skip
        replace H := H.2 c7
        refine T_aload_n (i := 0) (pc' := 38) dX12_outBy_37 rfl rfl rfl ?_
        refine T_iload (i := 5) (pc' := 40) dX12_outBy_38 rfl rfl ?_
        refine T_aload_n (i := 0) (pc' := 41) dX12_outBy_40 rfl rfl rfl ?_
        refine U_gr (q := 98) (k := 48) (kI := 48) (pc' := 44) dX12_outBy_41 rfl cl12 (by decide) rfl (by decide) flX12_110 rfl rfl rfl (G_at hG 98 rfl) (by decide) rfl ?_
        refine T_iload (i := 5) (pc' := 46) dX12_outBy_44 rfl rfl ?_
        obtain ⟨z1, z2, H⟩ := H
        refine T_iald (pc' := 47) dX12_outBy_46 (by decide) rfl z1 z2 rfl ?_
        obtain ⟨z8, H⟩ := H
        refine T_callV (av := [(0, v5), (0, (M 98 v5))]) (st := []) (d2 := 1) (nc2 := 0) (ns2 := 0) (pc' := 50) dX12_outBy_47 rfl mtX12_whereIn mvX12_whereIn mlX12_383 cl12 rfl rfl rfl (Nat.le_of_ble_eq_true rfl) (by decide) ⟨by decide, by decide⟩ rfl (pX12_whereIn (E := E) (h := h) (M := M) (v1 := v5) (v2 := (M 98 v5)) z8 hG) (kF (st2 := [(0, (fX12_whereIn M v5 (M 98 v5)))]) rfl (fun hG9 => ?_))
        refine T_aload_n (i := 0) (pc' := 51) dX12_outBy_50 rfl rfl rfl ?_
        refine U_gr (q := 90) (k := 33) (kI := 33) (pc' := 54) dX12_outBy_51 rfl cl12 (by decide) rfl (by decide) flX12_86 rfl rfl rfl (G_at hG 90 rfl) (by decide) rfl ?_
        refine T_bipush (pc' := 56) dX12_outBy_54 rfl (by decide) rfl ?_
        refine T_iload_n (i := 1) (pc' := 57) dX12_outBy_56 rfl rfl rfl ?_
        refine T_iadd (pc' := 58) dX12_outBy_57 rfl ?_
        obtain ⟨z1, z2, H⟩ := H
        refine T_iald (pc' := 59) dX12_outBy_58 (by decide) rfl z1 z2 rfl ?_
        refine T_icmp_eq (pc' := 65) dX12_outBy_59 (by decide) (pf := 62) rfl (fun c10 => ?_) (fun c10 => ?_)
        · skip
          replace H := H.1 c10
          refine T_iinc (L' := [(2, 66), (0, v1), (0, v2), (0, (wr32 (v3 + 1))), (0, v4), (0, v5)]) (pc' := 68) dX12_outBy_65 rfl (by decide) rfl rfl ?_
          refine T_aload_n (i := 0) (pc' := 69) dX12_outBy_68 rfl rfl rfl ?_
          refine U_gr (q := 98) (k := 48) (kI := 48) (pc' := 72) dX12_outBy_69 rfl cl12 (by decide) rfl (by decide) flX12_110 rfl rfl rfl (G_at hG 98 rfl) (by decide) rfl ?_
          refine T_iload (i := 5) (pc' := 74) dX12_outBy_72 rfl rfl ?_
          obtain ⟨z1, z2, H⟩ := H
          refine T_iald (pc' := 75) dX12_outBy_74 (by decide) rfl z1 z2 rfl ?_
          refine T_iload (i := 4) (pc' := 77) dX12_outBy_75 rfl rfl ?_
          refine T_icmp_le (pc' := 89) dX12_outBy_77 (by decide) (pf := 80) rfl (fun c11 => ?_) (fun c11 => ?_)
          · skip
            replace H := H.1 c11
            refine T_iinc (L' := [(2, 66), (0, v1), (0, v2), (0, (wr32 (v3 + 1))), (0, v4), (0, (wr32 (v5 + 1)))]) (pc' := 92) dX12_outBy_89 rfl (by decide) rfl rfl ?_
            refine T_goto (pc' := 8) dX12_outBy_92 (by decide) ?_
            exact T_wk (H hG) ⟨Or.inr rfl, Or.inr rfl, Or.inr rfl, Or.inr rfl, Or.inr rfl, Or.inr rfl, trivial⟩
          · skip
            replace H := H.2 c11
            refine T_aload_n (i := 0) (pc' := 81) dX12_outBy_80 rfl rfl rfl ?_
            refine U_gr (q := 98) (k := 48) (kI := 48) (pc' := 84) dX12_outBy_81 rfl cl12 (by decide) rfl (by decide) flX12_110 rfl rfl rfl (G_at hG 98 rfl) (by decide) rfl ?_
            refine T_iload (i := 5) (pc' := 86) dX12_outBy_84 rfl rfl ?_
            obtain ⟨z1, z2, H⟩ := H
            refine T_iald (pc' := 87) dX12_outBy_86 (by decide) rfl z1 z2 rfl ?_
            refine T_istore (i := 4) (L' := [(2, 66), (0, v1), (0, v2), (0, (wr32 (v3 + 1))), (0, (M 98 v5)), (0, v5)]) (pc' := 89) dX12_outBy_87 (by decide) rfl rfl ?_
            refine T_iinc (L' := [(2, 66), (0, v1), (0, v2), (0, (wr32 (v3 + 1))), (0, (M 98 v5)), (0, (wr32 (v5 + 1)))]) (pc' := 92) dX12_outBy_89 rfl (by decide) rfl rfl ?_
            refine T_goto (pc' := 8) dX12_outBy_92 (by decide) ?_
            exact T_wk (H hG) ⟨Or.inr rfl, Or.inr rfl, Or.inr rfl, Or.inr rfl, Or.inr rfl, Or.inr rfl, trivial⟩
        · skip
          replace H := H.2 c10
          refine T_goto (pc' := 89) dX12_outBy_62 (by decide) ?_
          refine T_iinc (L' := [(2, 66), (0, v1), (0, v2), (0, v3), (0, v4), (0, (wr32 (v5 + 1)))]) (pc' := 92) dX12_outBy_89 rfl (by decide) rfl rfl ?_
          refine T_goto (pc' := 8) dX12_outBy_92 (by decide) ?_
          exact T_wk (H hG) ⟨Or.inr rfl, Or.inr rfl, Or.inr rfl, Or.inr rfl, Or.inr rfl, Or.inr rfl, trivial⟩
theorem eX12_outBy {E : EV} {h : Int} {M : Mem} {Q : Option MV → Mem → Prop} {v1 : Int} {v2 : Int} (H : G h M → TG E miX12_outBy 4 h Q 0 [(2, 66), (0, v1), (0, v2), (3, 0), (3, 0), (3, 0)] [] M) : C2 E miX12_outBy 4 h [(2, 66), (0, v1), (0, v2)] M Q :=
  C2_of (by decide +kernel) (Nat.le_of_ble_eq_true rfl) rfl H
set_option maxRecDepth 100000 in
set_option maxHeartbeats 2000000 in
theorem wX12_passersOpen_0 {E : EV} {h : Int} {M : Mem} {Q : Option MV → Mem → Prop}   (H : (G h M → TG E miX12_passersOpen 4 h Q 4 [(2, 66), (0, 0), (0, 0)] [] M)) : G h M → TG E miX12_passersOpen 4 h Q 0 [(2, 66), (3, 0), (3, 0)] [] M := by
  intro hG
  refine T_iconst (pc' := 1) dX12_passersOpen_0 (by decide) rfl ?_
  refine T_istore_n (i := 1) (L' := [(2, 66), (0, 0), (3, 0)]) (pc' := 2) dX12_passersOpen_1 rfl (by decide) rfl rfl ?_
  refine T_iconst (pc' := 3) dX12_passersOpen_2 (by decide) rfl ?_
  refine T_istore_n (i := 2) (L' := [(2, 66), (0, 0), (0, 0)]) (pc' := 4) dX12_passersOpen_3 rfl (by decide) rfl rfl ?_
  exact T_wk (H hG) ⟨Or.inr rfl, Or.inr rfl, Or.inr rfl, trivial⟩
set_option maxRecDepth 100000 in
set_option maxHeartbeats 2000000 in
theorem wX12_passersOpen_4 {E : EV} {h : Int} {M : Mem} {Q : Option MV → Mem → Prop} {v1 : Int} {v2 : Int}  (H : (((fX12_peopleMany M) ≤ v2 → Q (some (0, v1)) M) ∧ (¬ ((fX12_peopleMany M) ≤ v2) → (((fX12_isComing M v2) = 0 → (G h M → TG E miX12_passersOpen 4 h Q 4 [(2, 66), (0, v1), (0, (wr32 (v2 + 1)))] [] M)) ∧ (¬ ((fX12_isComing M v2) = 0) → (nX12_personOf v2 4) ∧ (((fX12_personOf M v2 4) = 1 → 0 ≤ v2 ∧ v2 < 9 ∧ (G h M → TG E miX12_passersOpen 4 h Q 4 [(2, 66), (0, (if (M 96 v2) = (-1) then v1 else (wr32 (v1 + 1)))), (0, (wr32 (v2 + 1)))] [] M)) ∧ (¬ ((fX12_personOf M v2 4) = 1) → (G h M → TG E miX12_passersOpen 4 h Q 4 [(2, 66), (0, v1), (0, (wr32 (v2 + 1)))] [] M)))))))) : G h M → TG E miX12_passersOpen 4 h Q 4 [(2, 66), (0, v1), (0, v2)] [] M := by
  intro hG
  refine T_iload_n (i := 2) (pc' := 5) dX12_passersOpen_4 rfl rfl rfl ?_
  refine T_aload_n (i := 0) (pc' := 6) dX12_passersOpen_5 rfl rfl rfl ?_
  refine T_callV (av := []) (st := [(0, v2)]) (d2 := 1) (nc2 := 0) (ns2 := 0) (pc' := 9) dX12_passersOpen_6 rfl mtX12_peopleMany mvX12_peopleMany mlX12_349 cl12 rfl rfl rfl (Nat.le_of_ble_eq_true rfl) (by decide) ⟨by decide, by decide⟩ rfl (pX12_peopleMany (E := E) (h := h) (M := M) hG) (kF (st2 := [(0, (fX12_peopleMany M)), (0, v2)]) rfl (fun hG1 => ?_))
  refine T_icmp_ge (pc' := 49) dX12_passersOpen_9 (by decide) (pf := 12) rfl (fun c2 => ?_) (fun c2 => ?_)
  · skip
    replace H := H.1 c2
    refine T_iload_n (i := 1) (pc' := 50) dX12_passersOpen_49 rfl rfl rfl ?_
    exact T_iret dX12_passersOpen_50 rfl ⟨rfl, hG, H⟩
  · skip
    replace H := H.2 c2
    refine T_aload_n (i := 0) (pc' := 13) dX12_passersOpen_12 rfl rfl rfl ?_
    refine T_iload_n (i := 2) (pc' := 14) dX12_passersOpen_13 rfl rfl rfl ?_
    refine T_callV (av := [(0, v2)]) (st := []) (d2 := 3) (nc2 := 0) (ns2 := 0) (pc' := 17) dX12_passersOpen_14 rfl mtX12_isComing mvX12_isComing mlX12_376 cl12 rfl rfl rfl (Nat.le_of_ble_eq_true rfl) (by decide) ⟨by decide, by decide⟩ rfl (pX12_isComing (E := E) (h := h) (M := M) (v1 := v2) hG) (kF (st2 := [(0, (fX12_isComing M v2))]) rfl (fun hG3 => ?_))
    refine T_if_eq (pc' := 43) dX12_passersOpen_17 (by decide) (pf := 20) rfl (fun c4 => ?_) (fun c4 => ?_)
    · skip
      replace H := H.1 c4
      refine T_iinc (L' := [(2, 66), (0, v1), (0, (wr32 (v2 + 1)))]) (pc' := 46) dX12_passersOpen_43 rfl (by decide) rfl rfl ?_
      refine T_goto (pc' := 4) dX12_passersOpen_46 (by decide) ?_
      exact T_wk (H hG) ⟨Or.inr rfl, Or.inr rfl, Or.inr rfl, trivial⟩
    · skip
      replace H := H.2 c4
      refine T_aload_n (i := 0) (pc' := 21) dX12_passersOpen_20 rfl rfl rfl ?_
      refine T_iload_n (i := 2) (pc' := 22) dX12_passersOpen_21 rfl rfl rfl ?_
      refine T_iconst (pc' := 23) dX12_passersOpen_22 (by decide) rfl ?_
      obtain ⟨z5, H⟩ := H
      refine T_callV (av := [(0, v2), (0, 4)]) (st := []) (d2 := 1) (nc2 := 0) (ns2 := 0) (pc' := 26) dX12_passersOpen_23 rfl mtX12_personOf mvX12_personOf mlX12_373 cl12 rfl rfl rfl (Nat.le_of_ble_eq_true rfl) (by decide) ⟨by decide, by decide⟩ rfl (pX12_personOf (E := E) (h := h) (M := M) (v1 := v2) (v2 := 4) z5 hG) (kF (st2 := [(0, (fX12_personOf M v2 4))]) rfl (fun hG6 => ?_))
      refine T_iconst (pc' := 27) dX12_passersOpen_26 (by decide) rfl ?_
      refine T_icmp_ne (pc' := 43) dX12_passersOpen_27 (by decide) (pf := 30) rfl (fun c7 => ?_) (fun c7 => ?_)
      · skip
        replace H := H.2 c7
        refine T_iinc (L' := [(2, 66), (0, v1), (0, (wr32 (v2 + 1)))]) (pc' := 46) dX12_passersOpen_43 rfl (by decide) rfl rfl ?_
        refine T_goto (pc' := 4) dX12_passersOpen_46 (by decide) ?_
        exact T_wk (H hG) ⟨Or.inr rfl, Or.inr rfl, Or.inr rfl, trivial⟩
      · skip
        replace H := H.1 c7
        refine T_aload_n (i := 0) (pc' := 31) dX12_passersOpen_30 rfl rfl rfl ?_
        refine U_gr (q := 96) (k := 46) (kI := 46) (pc' := 34) dX12_passersOpen_31 rfl cl12 (by decide) rfl (by decide) flX12_104 rfl rfl rfl (G_at hG 96 rfl) (by decide) rfl ?_
        refine T_iload_n (i := 2) (pc' := 35) dX12_passersOpen_34 rfl rfl rfl ?_
        obtain ⟨z1, z2, H⟩ := H
        refine T_iald (pc' := 36) dX12_passersOpen_35 (by decide) rfl z1 z2 rfl ?_
        refine T_iconst (pc' := 37) dX12_passersOpen_36 (by decide) rfl ?_
        have HJ8 : T E miX12_passersOpen 4 126 0 0 (fun r S M' => S = S0 ∧ G h M' ∧ Q r M') 43 [(2, 66), (0, (if (M 96 v2) = (-1) then v1 else (wr32 (v1 + 1)))), (0, v2)] [] S0 M 0 0 := by
          refine T_iinc (L' := [(2, 66), (0, (if (M 96 v2) = (-1) then v1 else (wr32 (v1 + 1)))), (0, (wr32 (v2 + 1)))]) (pc' := 46) dX12_passersOpen_43 rfl (by decide) rfl rfl ?_
          refine T_goto (pc' := 4) dX12_passersOpen_46 (by decide) ?_
          exact T_wk (H hG) ⟨Or.inr rfl, Or.inr rfl, Or.inr rfl, trivial⟩
        refine T_icmp_eq (pc' := 43) dX12_passersOpen_37 (by decide) (pf := 40) rfl (fun c9 => ?_) (fun c9 => ?_)
        · skip
          exact T_wk (L' := [(2, 66), (0, v1), (0, v2)]) (by have q := HJ8; try simp only [if_pos c9] at q; exact q) ⟨Or.inr rfl, Or.inr rfl, Or.inr rfl, trivial⟩
        · skip
          refine T_iinc (L' := [(2, 66), (0, (wr32 (v1 + 1))), (0, v2)]) (pc' := 43) dX12_passersOpen_40 rfl (by decide) rfl rfl ?_
          exact T_wk (L' := [(2, 66), (0, (wr32 (v1 + 1))), (0, v2)]) (by have q := HJ8; try simp only [if_neg c9] at q; exact q) ⟨Or.inr rfl, Or.inr rfl, Or.inr rfl, trivial⟩
theorem eX12_passersOpen {E : EV} {h : Int} {M : Mem} {Q : Option MV → Mem → Prop}  (H : G h M → TG E miX12_passersOpen 4 h Q 0 [(2, 66), (3, 0), (3, 0)] [] M) : C2 E miX12_passersOpen 4 h [(2, 66)] M Q :=
  C2_of (by decide +kernel) (Nat.le_of_ble_eq_true rfl) rfl H
set_option maxRecDepth 100000 in
set_option maxHeartbeats 2000000 in
theorem wX12_lastOut_0 {E : EV} {h : Int} {M : Mem} {Q : Option MV → Mem → Prop}   (H : (G h M → TG E miX12_lastOut 4 h Q 4 [(2, 66), (0, (-1)), (0, 0)] [] M)) : G h M → TG E miX12_lastOut 4 h Q 0 [(2, 66), (3, 0), (3, 0)] [] M := by
  intro hG
  refine T_iconst (pc' := 1) dX12_lastOut_0 (by decide) rfl ?_
  refine T_istore_n (i := 1) (L' := [(2, 66), (0, (-1)), (3, 0)]) (pc' := 2) dX12_lastOut_1 rfl (by decide) rfl rfl ?_
  refine T_iconst (pc' := 3) dX12_lastOut_2 (by decide) rfl ?_
  refine T_istore_n (i := 2) (L' := [(2, 66), (0, (-1)), (0, 0)]) (pc' := 4) dX12_lastOut_3 rfl (by decide) rfl rfl ?_
  exact T_wk (H hG) ⟨Or.inr rfl, Or.inr rfl, Or.inr rfl, trivial⟩
set_option maxRecDepth 100000 in
set_option maxHeartbeats 2000000 in
theorem wX12_lastOut_4 {E : EV} {h : Int} {M : Mem} {Q : Option MV → Mem → Prop} {v1 : Int} {v2 : Int}  (H : (((fX12_peopleMany M) ≤ v2 → Q (some (0, v1)) M) ∧ (¬ ((fX12_peopleMany M) ≤ v2) → (((fX12_isComing M v2) = 0 → (G h M → TG E miX12_lastOut 4 h Q 4 [(2, 66), (0, v1), (0, (wr32 (v2 + 1)))] [] M)) ∧ (¬ ((fX12_isComing M v2) = 0) → 0 ≤ v2 ∧ v2 < 9 ∧ (((M 98 v2) ≤ v1 → (G h M → TG E miX12_lastOut 4 h Q 4 [(2, 66), (0, v1), (0, (wr32 (v2 + 1)))] [] M)) ∧ (¬ ((M 98 v2) ≤ v1) → 0 ≤ v2 ∧ v2 < 9 ∧ (G h M → TG E miX12_lastOut 4 h Q 4 [(2, 66), (0, (M 98 v2)), (0, (wr32 (v2 + 1)))] [] M)))))))) : G h M → TG E miX12_lastOut 4 h Q 4 [(2, 66), (0, v1), (0, v2)] [] M := by
  intro hG
  refine T_iload_n (i := 2) (pc' := 5) dX12_lastOut_4 rfl rfl rfl ?_
  refine T_aload_n (i := 0) (pc' := 6) dX12_lastOut_5 rfl rfl rfl ?_
  refine T_callV (av := []) (st := [(0, v2)]) (d2 := 1) (nc2 := 0) (ns2 := 0) (pc' := 9) dX12_lastOut_6 rfl mtX12_peopleMany mvX12_peopleMany mlX12_349 cl12 rfl rfl rfl (Nat.le_of_ble_eq_true rfl) (by decide) ⟨by decide, by decide⟩ rfl (pX12_peopleMany (E := E) (h := h) (M := M) hG) (kF (st2 := [(0, (fX12_peopleMany M)), (0, v2)]) rfl (fun hG1 => ?_))
  refine T_icmp_ge (pc' := 43) dX12_lastOut_9 (by decide) (pf := 12) rfl (fun c2 => ?_) (fun c2 => ?_)
  · skip
    replace H := H.1 c2
    refine T_iload_n (i := 1) (pc' := 44) dX12_lastOut_43 rfl rfl rfl ?_
    exact T_iret dX12_lastOut_44 rfl ⟨rfl, hG, H⟩
  · skip
    replace H := H.2 c2
    refine T_aload_n (i := 0) (pc' := 13) dX12_lastOut_12 rfl rfl rfl ?_
    refine T_iload_n (i := 2) (pc' := 14) dX12_lastOut_13 rfl rfl rfl ?_
    refine T_callV (av := [(0, v2)]) (st := []) (d2 := 3) (nc2 := 0) (ns2 := 0) (pc' := 17) dX12_lastOut_14 rfl mtX12_isComing mvX12_isComing mlX12_376 cl12 rfl rfl rfl (Nat.le_of_ble_eq_true rfl) (by decide) ⟨by decide, by decide⟩ rfl (pX12_isComing (E := E) (h := h) (M := M) (v1 := v2) hG) (kF (st2 := [(0, (fX12_isComing M v2))]) rfl (fun hG3 => ?_))
    refine T_if_eq (pc' := 37) dX12_lastOut_17 (by decide) (pf := 20) rfl (fun c4 => ?_) (fun c4 => ?_)
    · skip
      replace H := H.1 c4
      refine T_iinc (L' := [(2, 66), (0, v1), (0, (wr32 (v2 + 1)))]) (pc' := 40) dX12_lastOut_37 rfl (by decide) rfl rfl ?_
      refine T_goto (pc' := 4) dX12_lastOut_40 (by decide) ?_
      exact T_wk (H hG) ⟨Or.inr rfl, Or.inr rfl, Or.inr rfl, trivial⟩
    · skip
      replace H := H.2 c4
      refine T_aload_n (i := 0) (pc' := 21) dX12_lastOut_20 rfl rfl rfl ?_
      refine U_gr (q := 98) (k := 48) (kI := 48) (pc' := 24) dX12_lastOut_21 rfl cl12 (by decide) rfl (by decide) flX12_110 rfl rfl rfl (G_at hG 98 rfl) (by decide) rfl ?_
      refine T_iload_n (i := 2) (pc' := 25) dX12_lastOut_24 rfl rfl rfl ?_
      obtain ⟨z1, z2, H⟩ := H
      refine T_iald (pc' := 26) dX12_lastOut_25 (by decide) rfl z1 z2 rfl ?_
      refine T_iload_n (i := 1) (pc' := 27) dX12_lastOut_26 rfl rfl rfl ?_
      refine T_icmp_le (pc' := 37) dX12_lastOut_27 (by decide) (pf := 30) rfl (fun c5 => ?_) (fun c5 => ?_)
      · skip
        replace H := H.1 c5
        refine T_iinc (L' := [(2, 66), (0, v1), (0, (wr32 (v2 + 1)))]) (pc' := 40) dX12_lastOut_37 rfl (by decide) rfl rfl ?_
        refine T_goto (pc' := 4) dX12_lastOut_40 (by decide) ?_
        exact T_wk (H hG) ⟨Or.inr rfl, Or.inr rfl, Or.inr rfl, trivial⟩
      · skip
        replace H := H.2 c5
        refine T_aload_n (i := 0) (pc' := 31) dX12_lastOut_30 rfl rfl rfl ?_
        refine U_gr (q := 98) (k := 48) (kI := 48) (pc' := 34) dX12_lastOut_31 rfl cl12 (by decide) rfl (by decide) flX12_110 rfl rfl rfl (G_at hG 98 rfl) (by decide) rfl ?_
        refine T_iload_n (i := 2) (pc' := 35) dX12_lastOut_34 rfl rfl rfl ?_
        obtain ⟨z1, z2, H⟩ := H
        refine T_iald (pc' := 36) dX12_lastOut_35 (by decide) rfl z1 z2 rfl ?_
        refine T_istore_n (i := 1) (L' := [(2, 66), (0, (M 98 v2)), (0, v2)]) (pc' := 37) dX12_lastOut_36 rfl (by decide) rfl rfl ?_
        refine T_iinc (L' := [(2, 66), (0, (M 98 v2)), (0, (wr32 (v2 + 1)))]) (pc' := 40) dX12_lastOut_37 rfl (by decide) rfl rfl ?_
        refine T_goto (pc' := 4) dX12_lastOut_40 (by decide) ?_
        exact T_wk (H hG) ⟨Or.inr rfl, Or.inr rfl, Or.inr rfl, trivial⟩
theorem eX12_lastOut {E : EV} {h : Int} {M : Mem} {Q : Option MV → Mem → Prop}  (H : G h M → TG E miX12_lastOut 4 h Q 0 [(2, 66), (3, 0), (3, 0)] [] M) : C2 E miX12_lastOut 4 h [(2, 66)] M Q :=
  C2_of (by decide +kernel) (Nat.le_of_ble_eq_true rfl) rfl H
set_option maxRecDepth 100000 in
set_option maxHeartbeats 2000000 in
theorem wX12_openAhead_0 {E : EV} {h : Int} {M : Mem} {Q : Option MV → Mem → Prop}   (H : (G h M → TG E miX12_openAhead 4 h Q 4 [(2, 66), (0, 0), (0, 0)] [] M)) : G h M → TG E miX12_openAhead 4 h Q 0 [(2, 66), (3, 0), (3, 0)] [] M := by
  intro hG
  refine T_iconst (pc' := 1) dX12_openAhead_0 (by decide) rfl ?_
  refine T_istore_n (i := 1) (L' := [(2, 66), (0, 0), (3, 0)]) (pc' := 2) dX12_openAhead_1 rfl (by decide) rfl rfl ?_
  refine T_iconst (pc' := 3) dX12_openAhead_2 (by decide) rfl ?_
  refine T_istore_n (i := 2) (L' := [(2, 66), (0, 0), (0, 0)]) (pc' := 4) dX12_openAhead_3 rfl (by decide) rfl rfl ?_
  exact T_wk (H hG) ⟨Or.inr rfl, Or.inr rfl, Or.inr rfl, trivial⟩
set_option maxRecDepth 100000 in
set_option maxHeartbeats 2000000 in
theorem wX12_openAhead_4 {E : EV} {h : Int} {M : Mem} {Q : Option MV → Mem → Prop} {v1 : Int} {v2 : Int}  (H : (((fX12_peopleMany M) ≤ v2 → Q (some (0, v1)) M) ∧ (¬ ((fX12_peopleMany M) ≤ v2) → (((fX12_isComing M v2) = 0 → (G h M → TG E miX12_openAhead 4 h Q 4 [(2, 66), (0, v1), (0, (wr32 (v2 + 1)))] [] M)) ∧ (¬ ((fX12_isComing M v2) = 0) → 0 ≤ v2 ∧ v2 < 9 ∧ (((M 96 v2) = (-1) → (G h M → TG E miX12_openAhead 4 h Q 4 [(2, 66), (0, v1), (0, (wr32 (v2 + 1)))] [] M)) ∧ (¬ ((M 96 v2) = (-1)) → 0 ≤ v2 ∧ v2 < 9 ∧ (G h M → TG E miX12_openAhead 4 h Q 4 [(2, 66), (0, (if (M 91 4) ≤ (M 96 v2) then v1 else (wr32 (v1 + 1)))), (0, (wr32 (v2 + 1)))] [] M)))))))) : G h M → TG E miX12_openAhead 4 h Q 4 [(2, 66), (0, v1), (0, v2)] [] M := by
  intro hG
  refine T_iload_n (i := 2) (pc' := 5) dX12_openAhead_4 rfl rfl rfl ?_
  refine T_aload_n (i := 0) (pc' := 6) dX12_openAhead_5 rfl rfl rfl ?_
  refine T_callV (av := []) (st := [(0, v2)]) (d2 := 1) (nc2 := 0) (ns2 := 0) (pc' := 9) dX12_openAhead_6 rfl mtX12_peopleMany mvX12_peopleMany mlX12_349 cl12 rfl rfl rfl (Nat.le_of_ble_eq_true rfl) (by decide) ⟨by decide, by decide⟩ rfl (pX12_peopleMany (E := E) (h := h) (M := M) hG) (kF (st2 := [(0, (fX12_peopleMany M)), (0, v2)]) rfl (fun hG1 => ?_))
  refine T_icmp_ge (pc' := 54) dX12_openAhead_9 (by decide) (pf := 12) rfl (fun c2 => ?_) (fun c2 => ?_)
  · skip
    replace H := H.1 c2
    refine T_iload_n (i := 1) (pc' := 55) dX12_openAhead_54 rfl rfl rfl ?_
    exact T_iret dX12_openAhead_55 rfl ⟨rfl, hG, H⟩
  · skip
    replace H := H.2 c2
    refine T_aload_n (i := 0) (pc' := 13) dX12_openAhead_12 rfl rfl rfl ?_
    refine T_iload_n (i := 2) (pc' := 14) dX12_openAhead_13 rfl rfl rfl ?_
    refine T_callV (av := [(0, v2)]) (st := []) (d2 := 3) (nc2 := 0) (ns2 := 0) (pc' := 17) dX12_openAhead_14 rfl mtX12_isComing mvX12_isComing mlX12_376 cl12 rfl rfl rfl (Nat.le_of_ble_eq_true rfl) (by decide) ⟨by decide, by decide⟩ rfl (pX12_isComing (E := E) (h := h) (M := M) (v1 := v2) hG) (kF (st2 := [(0, (fX12_isComing M v2))]) rfl (fun hG3 => ?_))
    refine T_if_eq (pc' := 48) dX12_openAhead_17 (by decide) (pf := 20) rfl (fun c4 => ?_) (fun c4 => ?_)
    · skip
      replace H := H.1 c4
      refine T_iinc (L' := [(2, 66), (0, v1), (0, (wr32 (v2 + 1)))]) (pc' := 51) dX12_openAhead_48 rfl (by decide) rfl rfl ?_
      refine T_goto (pc' := 4) dX12_openAhead_51 (by decide) ?_
      exact T_wk (H hG) ⟨Or.inr rfl, Or.inr rfl, Or.inr rfl, trivial⟩
    · skip
      replace H := H.2 c4
      refine T_aload_n (i := 0) (pc' := 21) dX12_openAhead_20 rfl rfl rfl ?_
      refine U_gr (q := 96) (k := 46) (kI := 46) (pc' := 24) dX12_openAhead_21 rfl cl12 (by decide) rfl (by decide) flX12_104 rfl rfl rfl (G_at hG 96 rfl) (by decide) rfl ?_
      refine T_iload_n (i := 2) (pc' := 25) dX12_openAhead_24 rfl rfl rfl ?_
      obtain ⟨z1, z2, H⟩ := H
      refine T_iald (pc' := 26) dX12_openAhead_25 (by decide) rfl z1 z2 rfl ?_
      refine T_iconst (pc' := 27) dX12_openAhead_26 (by decide) rfl ?_
      refine T_icmp_eq (pc' := 48) dX12_openAhead_27 (by decide) (pf := 30) rfl (fun c5 => ?_) (fun c5 => ?_)
      · skip
        replace H := H.1 c5
        refine T_iinc (L' := [(2, 66), (0, v1), (0, (wr32 (v2 + 1)))]) (pc' := 51) dX12_openAhead_48 rfl (by decide) rfl rfl ?_
        refine T_goto (pc' := 4) dX12_openAhead_51 (by decide) ?_
        exact T_wk (H hG) ⟨Or.inr rfl, Or.inr rfl, Or.inr rfl, trivial⟩
      · skip
        replace H := H.2 c5
        refine T_aload_n (i := 0) (pc' := 31) dX12_openAhead_30 rfl rfl rfl ?_
        refine U_gr (q := 96) (k := 46) (kI := 46) (pc' := 34) dX12_openAhead_31 rfl cl12 (by decide) rfl (by decide) flX12_104 rfl rfl rfl (G_at hG 96 rfl) (by decide) rfl ?_
        refine T_iload_n (i := 2) (pc' := 35) dX12_openAhead_34 rfl rfl rfl ?_
        obtain ⟨z1, z2, H⟩ := H
        refine T_iald (pc' := 36) dX12_openAhead_35 (by decide) rfl z1 z2 rfl ?_
        refine T_aload_n (i := 0) (pc' := 37) dX12_openAhead_36 rfl rfl rfl ?_
        refine U_gr (q := 91) (k := 34) (kI := 34) (pc' := 40) dX12_openAhead_37 rfl cl12 (by decide) rfl (by decide) flX12_89 rfl rfl rfl (G_at hG 91 rfl) (by decide) rfl ?_
        refine T_iconst (pc' := 41) dX12_openAhead_40 (by decide) rfl ?_
        refine T_iald (pc' := 42) dX12_openAhead_41 (by decide) rfl (by decide) (by decide) rfl ?_
        have HJ6 : T E miX12_openAhead 4 126 0 0 (fun r S M' => S = S0 ∧ G h M' ∧ Q r M') 48 [(2, 66), (0, (if (M 91 4) ≤ (M 96 v2) then v1 else (wr32 (v1 + 1)))), (0, v2)] [] S0 M 0 0 := by
          refine T_iinc (L' := [(2, 66), (0, (if (M 91 4) ≤ (M 96 v2) then v1 else (wr32 (v1 + 1)))), (0, (wr32 (v2 + 1)))]) (pc' := 51) dX12_openAhead_48 rfl (by decide) rfl rfl ?_
          refine T_goto (pc' := 4) dX12_openAhead_51 (by decide) ?_
          exact T_wk (H hG) ⟨Or.inr rfl, Or.inr rfl, Or.inr rfl, trivial⟩
        refine T_icmp_ge (pc' := 48) dX12_openAhead_42 (by decide) (pf := 45) rfl (fun c7 => ?_) (fun c7 => ?_)
        · skip
          exact T_wk (L' := [(2, 66), (0, v1), (0, v2)]) (by have q := HJ6; try simp only [if_pos c7] at q; exact q) ⟨Or.inr rfl, Or.inr rfl, Or.inr rfl, trivial⟩
        · skip
          refine T_iinc (L' := [(2, 66), (0, (wr32 (v1 + 1))), (0, v2)]) (pc' := 48) dX12_openAhead_45 rfl (by decide) rfl rfl ?_
          exact T_wk (L' := [(2, 66), (0, (wr32 (v1 + 1))), (0, v2)]) (by have q := HJ6; try simp only [if_neg c7] at q; exact q) ⟨Or.inr rfl, Or.inr rfl, Or.inr rfl, trivial⟩
theorem eX12_openAhead {E : EV} {h : Int} {M : Mem} {Q : Option MV → Mem → Prop}  (H : G h M → TG E miX12_openAhead 4 h Q 0 [(2, 66), (3, 0), (3, 0)] [] M) : C2 E miX12_openAhead 4 h [(2, 66)] M Q :=
  C2_of (by decide +kernel) (Nat.le_of_ble_eq_true rfl) rfl H
set_option maxRecDepth 100000 in
set_option maxHeartbeats 2000000 in
theorem wX12_count_0 {E : EV} {h : Int} {M : Mem} {Q : Option MV → Mem → Prop} {v1 : Int} {v2 : Int}  (H : (((fX12_isSecond v1) = 0 → Q (some (0, (-1))) M) ∧ (¬ ((fX12_isSecond v1) = 0) → (((fX12_isIn v2 0 3) = 0 → Q (some (0, (-1))) M) ∧ (¬ ((fX12_isIn v2 0 3) = 0) → C2 E miX12_plays 6 h [(2, 66)] M (fun r M5 => r = none ∧ (G h M5 → TG E miX12_count 7 h Q 30 [(2, 66), (0, v1), (0, v2), (0, 0), (0, 0), (3, 0)] [] M5))))))) : G h M → TG E miX12_count 7 h Q 0 [(2, 66), (0, v1), (0, v2), (3, 0), (3, 0), (3, 0)] [] M := by
  intro hG
  refine T_iload_n (i := 1) (pc' := 1) dX12_count_0 rfl rfl rfl ?_
  refine T_callS (av := [(0, v1)]) (st := []) (d2 := 2) (nc2 := 0) (ns2 := 0) (pc' := 4) dX12_count_1 rfl mtX12_isSecond mvX12_isSecond mlX12_450 rfl rfl (Nat.le_of_ble_eq_true rfl) (by decide) ⟨by decide, by decide⟩ rfl (pX12_isSecond (E := E) (h := h) (M := M) (v0 := v1) hG) (kF (st2 := [(0, (fX12_isSecond v1))]) rfl (fun hG1 => ?_))
  refine T_if_eq (pc' := 19) dX12_count_4 (by decide) (pf := 7) rfl (fun c2 => ?_) (fun c2 => ?_)
  · skip
    replace H := H.1 c2
    refine T_iconst (pc' := 20) dX12_count_19 (by decide) rfl ?_
    exact T_iret dX12_count_20 rfl ⟨rfl, hG, H⟩
  · skip
    replace H := H.2 c2
    refine T_iload_n (i := 2) (pc' := 8) dX12_count_7 rfl rfl rfl ?_
    refine T_i2l (pc' := 9) dX12_count_8 rfl ?_
    refine T_lconst (v := 0) (pc' := 10) dX12_count_9 rfl (by decide) rfl ?_
    refine T_ldc2 (n := 3) (pc' := 13) dX12_count_10 rfl kjX12_439 rfl (by decide) rfl ?_
    refine T_callS (av := [(1, v2), (1, 0), (1, 3)]) (st := []) (d2 := 1) (nc2 := 0) (ns2 := 0) (pc' := 16) dX12_count_13 rfl mtX12_isIn mvX12_isIn mlX12_244 rfl rfl (Nat.le_of_ble_eq_true rfl) (by decide) ⟨by decide, by decide⟩ rfl (pX12_isIn (E := E) (h := h) (M := M) (v0 := v2) (v2 := 0) (v4 := 3) hG) (kF (st2 := [(0, (fX12_isIn v2 0 3))]) rfl (fun hG3 => ?_))
    refine T_if_ne (pc' := 21) dX12_count_16 (by decide) (pf := 19) rfl (fun c4 => ?_) (fun c4 => ?_)
    · skip
      replace H := H.2 c4
      refine T_aload_n (i := 0) (pc' := 22) dX12_count_21 rfl rfl rfl ?_
      refine T_callV (av := []) (st := []) (d2 := 6) (nc2 := 0) (ns2 := 0) (pc' := 25) dX12_count_22 rfl mtX12_plays mvX12_plays mlX12_441 cl12 rfl rfl rfl (Nat.le_of_ble_eq_true rfl) (by decide) ⟨by decide, by decide⟩ rfl (H hG) ?_
      rintro _ _ M5 ⟨rfl, hG7, rfl, H⟩ _
      refine T_iconst (pc' := 26) dX12_count_25 (by decide) rfl ?_
      refine T_istore_n (i := 3) (L' := [(2, 66), (0, v1), (0, v2), (0, 0), (3, 0), (3, 0)]) (pc' := 27) dX12_count_26 rfl (by decide) rfl rfl ?_
      refine T_iconst (pc' := 28) dX12_count_27 (by decide) rfl ?_
      refine T_istore (i := 4) (L' := [(2, 66), (0, v1), (0, v2), (0, 0), (0, 0), (3, 0)]) (pc' := 30) dX12_count_28 (by decide) rfl rfl ?_
      exact T_wk (H hG7) ⟨Or.inr rfl, Or.inr rfl, Or.inr rfl, Or.inr rfl, Or.inr rfl, Or.inl rfl, trivial⟩
    · skip
      replace H := H.1 c4
      refine T_iconst (pc' := 20) dX12_count_19 (by decide) rfl ?_
      exact T_iret dX12_count_20 rfl ⟨rfl, hG, H⟩
set_option maxRecDepth 100000 in
set_option maxHeartbeats 2000000 in
theorem wX12_count_30 {E : EV} {h : Int} {M : Mem} {Q : Option MV → Mem → Prop} {v1 : Int} {v2 : Int} {v3 : Int} {v4 : Int}  (H : (((fX12_peopleMany M) ≤ v4 → Q (some (0, v3)) M) ∧ (¬ ((fX12_peopleMany M) ≤ v4) → (((fX12_isComing M v4) = 0 → (G h M → TG E miX12_count 7 h Q 30 [(2, 66), (0, v1), (0, v2), (0, v3), (0, (wr32 (v4 + 1))), (3, 0)] [] M)) ∧ (¬ ((fX12_isComing M v4) = 0) → (nX12_isOut M v4) ∧ (((fX12_isOut M v4 v1) = 0 → (nX12_isWaiting M v4) ∧ (((fX12_isWaiting M v4 v1) = 0 → (nX12_isOpen M v4 v1) ∧ (G h M → TG E miX12_count 7 h Q 30 [(2, 66), (0, v1), (0, v2), (0, (if (if (fX12_isOpen M v4 v1) = 0 then (2 : Int) else 0) = v2 then (wr32 (v3 + 1)) else v3)), (0, (wr32 (v4 + 1))), (3, 0)] [] M)) ∧ (¬ ((fX12_isWaiting M v4 v1) = 0) → (G h M → TG E miX12_count 7 h Q 30 [(2, 66), (0, v1), (0, v2), (0, (if 1 = v2 then (wr32 (v3 + 1)) else v3)), (0, (wr32 (v4 + 1))), (3, 0)] [] M)))) ∧ (¬ ((fX12_isOut M v4 v1) = 0) → (G h M → TG E miX12_count 7 h Q 30 [(2, 66), (0, v1), (0, v2), (0, (if 3 = v2 then (wr32 (v3 + 1)) else v3)), (0, (wr32 (v4 + 1))), (3, 0)] [] M)))))))) : G h M → TG E miX12_count 7 h Q 30 [(2, 66), (0, v1), (0, v2), (0, v3), (0, v4), (3, 0)] [] M := by
  intro hG
  refine T_iload (i := 4) (pc' := 32) dX12_count_30 rfl rfl ?_
  refine T_aload_n (i := 0) (pc' := 33) dX12_count_32 rfl rfl rfl ?_
  refine T_callV (av := []) (st := [(0, v4)]) (d2 := 1) (nc2 := 0) (ns2 := 0) (pc' := 36) dX12_count_33 rfl mtX12_peopleMany mvX12_peopleMany mlX12_349 cl12 rfl rfl rfl (Nat.le_of_ble_eq_true rfl) (by decide) ⟨by decide, by decide⟩ rfl (pX12_peopleMany (E := E) (h := h) (M := M) hG) (kF (st2 := [(0, (fX12_peopleMany M)), (0, v4)]) rfl (fun hG1 => ?_))
  refine T_icmp_ge (pc' := 111) dX12_count_36 (by decide) (pf := 39) rfl (fun c2 => ?_) (fun c2 => ?_)
  · skip
    replace H := H.1 c2
    refine T_iload_n (i := 3) (pc' := 112) dX12_count_111 rfl rfl rfl ?_
    exact T_iret dX12_count_112 rfl ⟨rfl, hG, H⟩
  · skip
    replace H := H.2 c2
    refine T_aload_n (i := 0) (pc' := 40) dX12_count_39 rfl rfl rfl ?_
    refine T_iload (i := 4) (pc' := 42) dX12_count_40 rfl rfl ?_
    refine T_callV (av := [(0, v4)]) (st := []) (d2 := 3) (nc2 := 0) (ns2 := 0) (pc' := 45) dX12_count_42 rfl mtX12_isComing mvX12_isComing mlX12_376 cl12 rfl rfl rfl (Nat.le_of_ble_eq_true rfl) (by decide) ⟨by decide, by decide⟩ rfl (pX12_isComing (E := E) (h := h) (M := M) (v1 := v4) hG) (kF (st2 := [(0, (fX12_isComing M v4))]) rfl (fun hG3 => ?_))
    refine T_if_ne (pc' := 51) dX12_count_45 (by decide) (pf := 48) rfl (fun c4 => ?_) (fun c4 => ?_)
    · skip
      replace H := H.2 c4
      refine T_aload_n (i := 0) (pc' := 52) dX12_count_51 rfl rfl rfl ?_
      refine T_iload (i := 4) (pc' := 54) dX12_count_52 rfl rfl ?_
      refine T_iload_n (i := 1) (pc' := 55) dX12_count_54 rfl rfl rfl ?_
      obtain ⟨z5, H⟩ := H
      refine T_callV (av := [(0, v4), (0, v1)]) (st := []) (d2 := 1) (nc2 := 0) (ns2 := 0) (pc' := 58) dX12_count_55 rfl mtX12_isOut mvX12_isOut mlX12_395 cl12 rfl rfl rfl (Nat.le_of_ble_eq_true rfl) (by decide) ⟨by decide, by decide⟩ rfl (pX12_isOut (E := E) (h := h) (M := M) (v1 := v4) (v2 := v1) z5 hG) (kF (st2 := [(0, (fX12_isOut M v4 v1))]) rfl (fun hG6 => ?_))
      refine T_if_eq (pc' := 65) dX12_count_58 (by decide) (pf := 61) rfl (fun c7 => ?_) (fun c7 => ?_)
      · skip
        replace H := H.1 c7
        refine T_aload_n (i := 0) (pc' := 66) dX12_count_65 rfl rfl rfl ?_
        refine T_iload (i := 4) (pc' := 68) dX12_count_66 rfl rfl ?_
        refine T_iload_n (i := 1) (pc' := 69) dX12_count_68 rfl rfl rfl ?_
        obtain ⟨z8, H⟩ := H
        refine T_callV (av := [(0, v4), (0, v1)]) (st := []) (d2 := 1) (nc2 := 0) (ns2 := 0) (pc' := 72) dX12_count_69 rfl mtX12_isWaiting mvX12_isWaiting mlX12_389 cl12 rfl rfl rfl (Nat.le_of_ble_eq_true rfl) (by decide) ⟨by decide, by decide⟩ rfl (pX12_isWaiting (E := E) (h := h) (M := M) (v1 := v4) (v2 := v1) z8 hG) (kF (st2 := [(0, (fX12_isWaiting M v4 v1))]) rfl (fun hG9 => ?_))
        refine T_if_eq (pc' := 79) dX12_count_72 (by decide) (pf := 75) rfl (fun c10 => ?_) (fun c10 => ?_)
        · skip
          replace H := H.1 c10
          refine T_aload_n (i := 0) (pc' := 80) dX12_count_79 rfl rfl rfl ?_
          refine T_iload (i := 4) (pc' := 82) dX12_count_80 rfl rfl ?_
          refine T_iload_n (i := 1) (pc' := 83) dX12_count_82 rfl rfl rfl ?_
          obtain ⟨z11, H⟩ := H
          refine T_callV (av := [(0, v4), (0, v1)]) (st := []) (d2 := 2) (nc2 := 0) (ns2 := 0) (pc' := 86) dX12_count_83 rfl mtX12_isOpen mvX12_isOpen mlX12_379 cl12 rfl rfl rfl (Nat.le_of_ble_eq_true rfl) (by decide) ⟨by decide, by decide⟩ rfl (pX12_isOpen (E := E) (h := h) (M := M) (v1 := v4) (v2 := v1) z11 hG) (kF (st2 := [(0, (fX12_isOpen M v4 v1))]) rfl (fun hG12 => ?_))
          have HJ13 : T E miX12_count 7 126 0 0 (fun r S M' => S = S0 ∧ G h M' ∧ Q r M') 94 [(2, 66), (0, v1), (0, v2), (0, v3), (0, v4), (3, 0)] [(0, (if (fX12_isOpen M v4 v1) = 0 then (2 : Int) else 0))] S0 M 0 0 := by
            refine T_istore (i := 5) (L' := [(2, 66), (0, v1), (0, v2), (0, v3), (0, v4), (0, (if (fX12_isOpen M v4 v1) = 0 then (2 : Int) else 0))]) (pc' := 96) dX12_count_94 (by decide) rfl rfl ?_
            refine T_iload (i := 5) (pc' := 98) dX12_count_96 rfl rfl ?_
            refine T_iload_n (i := 2) (pc' := 99) dX12_count_98 rfl rfl rfl ?_
            have HJ14 : T E miX12_count 7 126 0 0 (fun r S M' => S = S0 ∧ G h M' ∧ Q r M') 105 [(2, 66), (0, v1), (0, v2), (0, (if (if (fX12_isOpen M v4 v1) = 0 then (2 : Int) else 0) = v2 then (wr32 (v3 + 1)) else v3)), (0, v4), (3, 0)] [] S0 M 0 0 := by
              refine T_iinc (L' := [(2, 66), (0, v1), (0, v2), (0, (if (if (fX12_isOpen M v4 v1) = 0 then (2 : Int) else 0) = v2 then (wr32 (v3 + 1)) else v3)), (0, (wr32 (v4 + 1))), (3, 0)]) (pc' := 108) dX12_count_105 rfl (by decide) rfl rfl ?_
              refine T_goto (pc' := 30) dX12_count_108 (by decide) ?_
              exact T_wk (H hG) ⟨Or.inr rfl, Or.inr rfl, Or.inr rfl, Or.inr rfl, Or.inr rfl, Or.inl rfl, trivial⟩
            refine T_icmp_ne (pc' := 105) dX12_count_99 (by decide) (pf := 102) rfl (fun c15 => ?_) (fun c15 => ?_)
            · skip
              exact T_wk (L' := [(2, 66), (0, v1), (0, v2), (0, v3), (0, v4), (3, 0)]) (by have q := HJ14; try simp only [if_neg c15] at q; exact q) ⟨Or.inr rfl, Or.inr rfl, Or.inr rfl, Or.inr rfl, Or.inr rfl, Or.inl rfl, trivial⟩
            · skip
              refine T_iinc (L' := [(2, 66), (0, v1), (0, v2), (0, (wr32 (v3 + 1))), (0, v4), (0, (if (fX12_isOpen M v4 v1) = 0 then (2 : Int) else 0))]) (pc' := 105) dX12_count_102 rfl (by decide) rfl rfl ?_
              exact T_wk (L' := [(2, 66), (0, v1), (0, v2), (0, (wr32 (v3 + 1))), (0, v4), (3, 0)]) (by have q := HJ14; try simp only [if_pos c15] at q; exact q) ⟨Or.inr rfl, Or.inr rfl, Or.inr rfl, Or.inr rfl, Or.inr rfl, Or.inl rfl, trivial⟩
          refine T_if_eq (pc' := 93) dX12_count_86 (by decide) (pf := 89) rfl (fun c16 => ?_) (fun c16 => ?_)
          · skip
            refine T_iconst (pc' := 94) dX12_count_93 (by decide) rfl ?_
            exact T_wk (L' := [(2, 66), (0, v1), (0, v2), (0, v3), (0, v4), (3, 0)]) (by have q := HJ13; try simp only [if_pos c16] at q; exact q) ⟨Or.inr rfl, Or.inr rfl, Or.inr rfl, Or.inr rfl, Or.inr rfl, Or.inl rfl, trivial⟩
          · skip
            refine T_iconst (pc' := 90) dX12_count_89 (by decide) rfl ?_
            refine T_goto (pc' := 94) dX12_count_90 (by decide) ?_
            exact T_wk (L' := [(2, 66), (0, v1), (0, v2), (0, v3), (0, v4), (3, 0)]) (by have q := HJ13; try simp only [if_neg c16] at q; exact q) ⟨Or.inr rfl, Or.inr rfl, Or.inr rfl, Or.inr rfl, Or.inr rfl, Or.inl rfl, trivial⟩
        · skip
          replace H := H.2 c10
          refine T_iconst (pc' := 76) dX12_count_75 (by decide) rfl ?_
          refine T_goto (pc' := 94) dX12_count_76 (by decide) ?_
          refine T_istore (i := 5) (L' := [(2, 66), (0, v1), (0, v2), (0, v3), (0, v4), (0, 1)]) (pc' := 96) dX12_count_94 (by decide) rfl rfl ?_
          refine T_iload (i := 5) (pc' := 98) dX12_count_96 rfl rfl ?_
          refine T_iload_n (i := 2) (pc' := 99) dX12_count_98 rfl rfl rfl ?_
          have HJ17 : T E miX12_count 7 126 0 0 (fun r S M' => S = S0 ∧ G h M' ∧ Q r M') 105 [(2, 66), (0, v1), (0, v2), (0, (if 1 = v2 then (wr32 (v3 + 1)) else v3)), (0, v4), (3, 0)] [] S0 M 0 0 := by
            refine T_iinc (L' := [(2, 66), (0, v1), (0, v2), (0, (if 1 = v2 then (wr32 (v3 + 1)) else v3)), (0, (wr32 (v4 + 1))), (3, 0)]) (pc' := 108) dX12_count_105 rfl (by decide) rfl rfl ?_
            refine T_goto (pc' := 30) dX12_count_108 (by decide) ?_
            exact T_wk (H hG) ⟨Or.inr rfl, Or.inr rfl, Or.inr rfl, Or.inr rfl, Or.inr rfl, Or.inl rfl, trivial⟩
          refine T_icmp_ne (pc' := 105) dX12_count_99 (by decide) (pf := 102) rfl (fun c18 => ?_) (fun c18 => ?_)
          · skip
            exact T_wk (L' := [(2, 66), (0, v1), (0, v2), (0, v3), (0, v4), (3, 0)]) (by have q := HJ17; try simp only [if_neg c18] at q; exact q) ⟨Or.inr rfl, Or.inr rfl, Or.inr rfl, Or.inr rfl, Or.inr rfl, Or.inl rfl, trivial⟩
          · skip
            refine T_iinc (L' := [(2, 66), (0, v1), (0, v2), (0, (wr32 (v3 + 1))), (0, v4), (0, 1)]) (pc' := 105) dX12_count_102 rfl (by decide) rfl rfl ?_
            exact T_wk (L' := [(2, 66), (0, v1), (0, v2), (0, (wr32 (v3 + 1))), (0, v4), (3, 0)]) (by have q := HJ17; try simp only [if_pos c18] at q; exact q) ⟨Or.inr rfl, Or.inr rfl, Or.inr rfl, Or.inr rfl, Or.inr rfl, Or.inl rfl, trivial⟩
      · skip
        replace H := H.2 c7
        refine T_iconst (pc' := 62) dX12_count_61 (by decide) rfl ?_
        refine T_goto (pc' := 94) dX12_count_62 (by decide) ?_
        refine T_istore (i := 5) (L' := [(2, 66), (0, v1), (0, v2), (0, v3), (0, v4), (0, 3)]) (pc' := 96) dX12_count_94 (by decide) rfl rfl ?_
        refine T_iload (i := 5) (pc' := 98) dX12_count_96 rfl rfl ?_
        refine T_iload_n (i := 2) (pc' := 99) dX12_count_98 rfl rfl rfl ?_
        have HJ19 : T E miX12_count 7 126 0 0 (fun r S M' => S = S0 ∧ G h M' ∧ Q r M') 105 [(2, 66), (0, v1), (0, v2), (0, (if 3 = v2 then (wr32 (v3 + 1)) else v3)), (0, v4), (3, 0)] [] S0 M 0 0 := by
          refine T_iinc (L' := [(2, 66), (0, v1), (0, v2), (0, (if 3 = v2 then (wr32 (v3 + 1)) else v3)), (0, (wr32 (v4 + 1))), (3, 0)]) (pc' := 108) dX12_count_105 rfl (by decide) rfl rfl ?_
          refine T_goto (pc' := 30) dX12_count_108 (by decide) ?_
          exact T_wk (H hG) ⟨Or.inr rfl, Or.inr rfl, Or.inr rfl, Or.inr rfl, Or.inr rfl, Or.inl rfl, trivial⟩
        refine T_icmp_ne (pc' := 105) dX12_count_99 (by decide) (pf := 102) rfl (fun c20 => ?_) (fun c20 => ?_)
        · skip
          exact T_wk (L' := [(2, 66), (0, v1), (0, v2), (0, v3), (0, v4), (3, 0)]) (by have q := HJ19; try simp only [if_neg c20] at q; exact q) ⟨Or.inr rfl, Or.inr rfl, Or.inr rfl, Or.inr rfl, Or.inr rfl, Or.inl rfl, trivial⟩
        · skip
          refine T_iinc (L' := [(2, 66), (0, v1), (0, v2), (0, (wr32 (v3 + 1))), (0, v4), (0, 3)]) (pc' := 105) dX12_count_102 rfl (by decide) rfl rfl ?_
          exact T_wk (L' := [(2, 66), (0, v1), (0, v2), (0, (wr32 (v3 + 1))), (0, v4), (3, 0)]) (by have q := HJ19; try simp only [if_pos c20] at q; exact q) ⟨Or.inr rfl, Or.inr rfl, Or.inr rfl, Or.inr rfl, Or.inr rfl, Or.inl rfl, trivial⟩
    · skip
      replace H := H.1 c4
      refine T_goto (pc' := 105) dX12_count_48 (by decide) ?_
      refine T_iinc (L' := [(2, 66), (0, v1), (0, v2), (0, v3), (0, (wr32 (v4 + 1))), (3, 0)]) (pc' := 108) dX12_count_105 rfl (by decide) rfl rfl ?_
      refine T_goto (pc' := 30) dX12_count_108 (by decide) ?_
      exact T_wk (H hG) ⟨Or.inr rfl, Or.inr rfl, Or.inr rfl, Or.inr rfl, Or.inr rfl, Or.inl rfl, trivial⟩
theorem eX12_count {E : EV} {h : Int} {M : Mem} {Q : Option MV → Mem → Prop} {v1 : Int} {v2 : Int} (H : G h M → TG E miX12_count 7 h Q 0 [(2, 66), (0, v1), (0, v2), (3, 0), (3, 0), (3, 0)] [] M) : C2 E miX12_count 7 h [(2, 66), (0, v1), (0, v2)] M Q :=
  C2_of (by decide +kernel) (Nat.le_of_ble_eq_true rfl) rfl H
set_option maxRecDepth 100000 in
set_option maxHeartbeats 2000000 in
theorem wX12_keeps_0 {E : EV} {h : Int} {M : Mem} {Q : Option MV → Mem → Prop}   (H : (∀ M2 : Mem, M2 = (mset M 66 55 (Int.tmod (wr32 ((M 66 55) + 1)) 20)) → (G h M2 → TG E miX12_keeps 2 h Q 15 [(2, 66), (0, 0), (3, 0)] [] M2))) : G h M → TG E miX12_keeps 2 h Q 0 [(2, 66), (3, 0), (3, 0)] [] M := by
  intro hG
  refine T_aload_n (i := 0) (pc' := 1) dX12_keeps_0 rfl rfl rfl ?_
  refine T_aload_n (i := 0) (pc' := 2) dX12_keeps_1 rfl rfl rfl ?_
  refine U_gf (v := (0, (M 66 55))) (k := 55) (kI := 55) (pc' := 5) dX12_keeps_2 rfl cl12 (by decide) rfl (by decide) flX12_470 rfl rfl (by decide) rfl rfl ?_
  refine T_iconst (pc' := 6) dX12_keeps_5 (by decide) rfl ?_
  refine T_iadd (pc' := 7) dX12_keeps_6 rfl ?_
  refine T_bipush (pc' := 9) dX12_keeps_7 rfl (by decide) rfl ?_
  refine T_irem (pc' := 10) dX12_keeps_9 (by decide) rfl ?_
  refine U_pf (y := (Int.tmod (wr32 ((M 66 55) + 1)) 20)) (k := 55) (kI := 55) (pc' := 13) dX12_keeps_10 rfl cl12 (by decide) rfl (by decide) flX12_470 rfl rfl rfl rfl rfl (by decide) (fun z => z) rfl ?_
  have hG1 := (G_fld (x := 66) (i := 55) (y := (Int.tmod (wr32 ((M 66 55) + 1)) 20)) rfl (by decide) (by decide) (by decide) hG)
  obtain ⟨M2, eM2⟩ : ∃ m : Mem, m = (mset M 66 55 (Int.tmod (wr32 ((M 66 55) + 1)) 20)) := ⟨_, rfl⟩
  rw [← eM2] at hG1 ⊢
  replace H := H M2 eM2
  refine T_iconst (pc' := 14) dX12_keeps_13 (by decide) rfl ?_
  refine T_istore_n (i := 1) (L' := [(2, 66), (0, 0), (3, 0)]) (pc' := 15) dX12_keeps_14 rfl (by decide) rfl rfl ?_
  exact T_wk (H hG1) ⟨Or.inr rfl, Or.inr rfl, Or.inl rfl, trivial⟩
set_option maxRecDepth 100000 in
set_option maxHeartbeats 2000000 in
theorem wX12_keeps_15 {E : EV} {h : Int} {M : Mem} {Q : Option MV → Mem → Prop} {v1 : Int}  (H : (((fX12_peopleMany M) ≤ v1 → (G h M → TG E miX12_keeps 2 h Q 68 [(2, 66), (0, 0), (3, 0)] [] M)) ∧ (¬ ((fX12_peopleMany M) ≤ v1) → (G h M → TG E miX12_keeps 2 h Q 25 [(2, 66), (0, v1), (0, 0)] [] M)))) : G h M → TG E miX12_keeps 2 h Q 15 [(2, 66), (0, v1), (3, 0)] [] M := by
  intro hG
  refine T_iload_n (i := 1) (pc' := 16) dX12_keeps_15 rfl rfl rfl ?_
  refine T_aload_n (i := 0) (pc' := 17) dX12_keeps_16 rfl rfl rfl ?_
  refine T_callV (av := []) (st := [(0, v1)]) (d2 := 1) (nc2 := 0) (ns2 := 0) (pc' := 20) dX12_keeps_17 rfl mtX12_peopleMany mvX12_peopleMany mlX12_349 cl12 rfl rfl rfl (Nat.le_of_ble_eq_true rfl) (by decide) ⟨by decide, by decide⟩ rfl (pX12_peopleMany (E := E) (h := h) (M := M) hG) (kF (st2 := [(0, (fX12_peopleMany M)), (0, v1)]) rfl (fun hG1 => ?_))
  refine T_icmp_ge (pc' := 66) dX12_keeps_20 (by decide) (pf := 23) rfl (fun c2 => ?_) (fun c2 => ?_)
  · skip
    replace H := H.1 c2
    refine T_iconst (pc' := 67) dX12_keeps_66 (by decide) rfl ?_
    refine T_istore_n (i := 1) (L' := [(2, 66), (0, 0), (3, 0)]) (pc' := 68) dX12_keeps_67 rfl (by decide) rfl rfl ?_
    exact T_wk (H hG) ⟨Or.inr rfl, Or.inr rfl, Or.inl rfl, trivial⟩
  · skip
    replace H := H.2 c2
    refine T_iconst (pc' := 24) dX12_keeps_23 (by decide) rfl ?_
    refine T_istore_n (i := 2) (L' := [(2, 66), (0, v1), (0, 0)]) (pc' := 25) dX12_keeps_24 rfl (by decide) rfl rfl ?_
    exact T_wk (H hG) ⟨Or.inr rfl, Or.inr rfl, Or.inr rfl, trivial⟩
set_option maxRecDepth 100000 in
set_option maxHeartbeats 2000000 in
theorem wX12_keeps_25 {E : EV} {h : Int} {M : Mem} {Q : Option MV → Mem → Prop} {v1 : Int} {v2 : Int}  (H : ((3 ≤ v2 → (G h M → TG E miX12_keeps 2 h Q 15 [(2, 66), (0, (wr32 (v1 + 1))), (3, 0)] [] M)) ∧ (¬ (3 ≤ v2) → (nX12_personOf v1 v2) ∧ 0 ≤ (wr32 ((wr32 ((wr32 (33 * (M 66 55))) + (wr32 (3 * v1)))) + v2)) ∧ (wr32 ((wr32 ((wr32 (33 * (M 66 55))) + (wr32 (3 * v1)))) + v2)) < 660 ∧ (∀ M5 : Mem, M5 = (mset M 100 (wr32 ((wr32 ((wr32 (33 * (M 66 55))) + (wr32 (3 * v1)))) + v2)) (fX12_personOf M v1 v2)) → (G h M5 → TG E miX12_keeps 2 h Q 25 [(2, 66), (0, v1), (0, (wr32 (v2 + 1)))] [] M5))))) : G h M → TG E miX12_keeps 2 h Q 25 [(2, 66), (0, v1), (0, v2)] [] M := by
  intro hG
  refine T_iload_n (i := 2) (pc' := 26) dX12_keeps_25 rfl rfl rfl ?_
  refine T_iconst (pc' := 27) dX12_keeps_26 (by decide) rfl ?_
  refine T_icmp_ge (pc' := 60) dX12_keeps_27 (by decide) (pf := 30) rfl (fun c1 => ?_) (fun c1 => ?_)
  · skip
    replace H := H.1 c1
    refine T_iinc (L' := [(2, 66), (0, (wr32 (v1 + 1))), (0, v2)]) (pc' := 63) dX12_keeps_60 rfl (by decide) rfl rfl ?_
    refine T_goto (pc' := 15) dX12_keeps_63 (by decide) ?_
    exact T_wk (H hG) ⟨Or.inr rfl, Or.inr rfl, Or.inl rfl, trivial⟩
  · skip
    replace H := H.2 c1
    refine T_aload_n (i := 0) (pc' := 31) dX12_keeps_30 rfl rfl rfl ?_
    refine U_gr (q := 100) (k := 53) (kI := 53) (pc' := 34) dX12_keeps_31 rfl cl12 (by decide) rfl (by decide) flX12_116 rfl rfl rfl (G_at hG 100 rfl) (by decide) rfl ?_
    refine T_bipush (pc' := 36) dX12_keeps_34 rfl (by decide) rfl ?_
    refine T_aload_n (i := 0) (pc' := 37) dX12_keeps_36 rfl rfl rfl ?_
    refine U_gf (v := (0, (M 66 55))) (k := 55) (kI := 55) (pc' := 40) dX12_keeps_37 rfl cl12 (by decide) rfl (by decide) flX12_470 rfl rfl (by decide) rfl rfl ?_
    refine T_imul (pc' := 41) dX12_keeps_40 rfl ?_
    refine T_iconst (pc' := 42) dX12_keeps_41 (by decide) rfl ?_
    refine T_iload_n (i := 1) (pc' := 43) dX12_keeps_42 rfl rfl rfl ?_
    refine T_imul (pc' := 44) dX12_keeps_43 rfl ?_
    refine T_iadd (pc' := 45) dX12_keeps_44 rfl ?_
    refine T_iload_n (i := 2) (pc' := 46) dX12_keeps_45 rfl rfl rfl ?_
    refine T_iadd (pc' := 47) dX12_keeps_46 rfl ?_
    refine T_aload_n (i := 0) (pc' := 48) dX12_keeps_47 rfl rfl rfl ?_
    refine T_iload_n (i := 1) (pc' := 49) dX12_keeps_48 rfl rfl rfl ?_
    refine T_iload_n (i := 2) (pc' := 50) dX12_keeps_49 rfl rfl rfl ?_
    obtain ⟨z2, H⟩ := H
    refine T_callV (av := [(0, v1), (0, v2)]) (st := [(0, (wr32 ((wr32 ((wr32 (33 * (M 66 55))) + (wr32 (3 * v1)))) + v2))), (2, 100)]) (d2 := 1) (nc2 := 0) (ns2 := 0) (pc' := 53) dX12_keeps_50 rfl mtX12_personOf mvX12_personOf mlX12_373 cl12 rfl rfl rfl (Nat.le_of_ble_eq_true rfl) (by decide) ⟨by decide, by decide⟩ rfl (pX12_personOf (E := E) (h := h) (M := M) (v1 := v1) (v2 := v2) z2 hG) (kF (st2 := [(0, (fX12_personOf M v1 v2)), (0, (wr32 ((wr32 ((wr32 (33 * (M 66 55))) + (wr32 (3 * v1)))) + v2))), (2, 100)]) rfl (fun hG3 => ?_))
    obtain ⟨z1, z2, H⟩ := H
    refine T_iast (pc' := 54) dX12_keeps_53 (by decide) rfl z1 z2 rfl ?_
    have hG4 := (G_arr (x := 100) (i := (wr32 ((wr32 ((wr32 (33 * (M 66 55))) + (wr32 (3 * v1)))) + v2))) (y := (fX12_personOf M v1 v2)) rfl (by decide) hG)
    obtain ⟨M5, eM5⟩ : ∃ m : Mem, m = (mset M 100 (wr32 ((wr32 ((wr32 (33 * (M 66 55))) + (wr32 (3 * v1)))) + v2)) (fX12_personOf M v1 v2)) := ⟨_, rfl⟩
    rw [← eM5] at hG4 ⊢
    replace H := H M5 eM5
    refine T_iinc (L' := [(2, 66), (0, v1), (0, (wr32 (v2 + 1)))]) (pc' := 57) dX12_keeps_54 rfl (by decide) rfl rfl ?_
    refine T_goto (pc' := 25) dX12_keeps_57 (by decide) ?_
    exact T_wk (H hG4) ⟨Or.inr rfl, Or.inr rfl, Or.inr rfl, trivial⟩
set_option maxRecDepth 100000 in
set_option maxHeartbeats 2000000 in
theorem wX12_keeps_68 {E : EV} {h : Int} {M : Mem} {Q : Option MV → Mem → Prop} {v1 : Int}  (H : ((6 ≤ v1 → ((20 ≤ (M 66 54) → Q none M) ∧ (¬ (20 ≤ (M 66 54)) → (∀ M4 : Mem, M4 = (mset M 66 54 (wr32 ((M 66 54) + 1))) → Q none M4)))) ∧ (¬ (6 ≤ v1) → 0 ≤ v1 ∧ v1 < 6 ∧ 0 ≤ (wr32 ((wr32 ((wr32 (33 * (M 66 55))) + 27)) + v1)) ∧ (wr32 ((wr32 ((wr32 (33 * (M 66 55))) + 27)) + v1)) < 660 ∧ (∀ M6 : Mem, M6 = (mset M 100 (wr32 ((wr32 ((wr32 (33 * (M 66 55))) + 27)) + v1)) (M 92 v1)) → (G h M6 → TG E miX12_keeps 2 h Q 68 [(2, 66), (0, (wr32 (v1 + 1))), (3, 0)] [] M6))))) : G h M → TG E miX12_keeps 2 h Q 68 [(2, 66), (0, v1), (3, 0)] [] M := by
  intro hG
  refine T_iload_n (i := 1) (pc' := 69) dX12_keeps_68 rfl rfl rfl ?_
  refine T_bipush (pc' := 71) dX12_keeps_69 rfl (by decide) rfl ?_
  refine T_icmp_ge (pc' := 103) dX12_keeps_71 (by decide) (pf := 74) rfl (fun c1 => ?_) (fun c1 => ?_)
  · skip
    replace H := H.1 c1
    refine T_aload_n (i := 0) (pc' := 104) dX12_keeps_103 rfl rfl rfl ?_
    refine U_gf (v := (0, (M 66 54))) (k := 54) (kI := 54) (pc' := 107) dX12_keeps_104 rfl cl12 (by decide) rfl (by decide) flX12_343 rfl rfl (by decide) rfl rfl ?_
    refine T_bipush (pc' := 109) dX12_keeps_107 rfl (by decide) rfl ?_
    refine T_icmp_ge (pc' := 122) dX12_keeps_109 (by decide) (pf := 112) rfl (fun c2 => ?_) (fun c2 => ?_)
    · skip
      replace H := H.1 c2
      exact T_vret dX12_keeps_122 rfl ⟨rfl, hG, H⟩
    · skip
      replace H := H.2 c2
      refine T_aload_n (i := 0) (pc' := 113) dX12_keeps_112 rfl rfl rfl ?_
      refine T_dup (pc' := 114) dX12_keeps_113 (Nat.ne_of_beq_eq_false rfl) rfl ?_
      refine U_gf (v := (0, (M 66 54))) (k := 54) (kI := 54) (pc' := 117) dX12_keeps_114 rfl cl12 (by decide) rfl (by decide) flX12_343 rfl rfl (by decide) rfl rfl ?_
      refine T_iconst (pc' := 118) dX12_keeps_117 (by decide) rfl ?_
      refine T_iadd (pc' := 119) dX12_keeps_118 rfl ?_
      refine U_pf (y := (wr32 ((M 66 54) + 1))) (k := 54) (kI := 54) (pc' := 122) dX12_keeps_119 rfl cl12 (by decide) rfl (by decide) flX12_343 rfl rfl rfl rfl rfl (by decide) (fun z => z) rfl ?_
      have hG3 := (G_fld (x := 66) (i := 54) (y := (wr32 ((M 66 54) + 1))) rfl (by decide) (by decide) (by decide) hG)
      obtain ⟨M4, eM4⟩ : ∃ m : Mem, m = (mset M 66 54 (wr32 ((M 66 54) + 1))) := ⟨_, rfl⟩
      rw [← eM4] at hG3 ⊢
      replace H := H M4 eM4
      exact T_vret dX12_keeps_122 rfl ⟨rfl, hG3, H⟩
  · skip
    replace H := H.2 c1
    refine T_aload_n (i := 0) (pc' := 75) dX12_keeps_74 rfl rfl rfl ?_
    refine U_gr (q := 100) (k := 53) (kI := 53) (pc' := 78) dX12_keeps_75 rfl cl12 (by decide) rfl (by decide) flX12_116 rfl rfl rfl (G_at hG 100 rfl) (by decide) rfl ?_
    refine T_bipush (pc' := 80) dX12_keeps_78 rfl (by decide) rfl ?_
    refine T_aload_n (i := 0) (pc' := 81) dX12_keeps_80 rfl rfl rfl ?_
    refine U_gf (v := (0, (M 66 55))) (k := 55) (kI := 55) (pc' := 84) dX12_keeps_81 rfl cl12 (by decide) rfl (by decide) flX12_470 rfl rfl (by decide) rfl rfl ?_
    refine T_imul (pc' := 85) dX12_keeps_84 rfl ?_
    refine T_bipush (pc' := 87) dX12_keeps_85 rfl (by decide) rfl ?_
    refine T_iadd (pc' := 88) dX12_keeps_87 rfl ?_
    refine T_iload_n (i := 1) (pc' := 89) dX12_keeps_88 rfl rfl rfl ?_
    refine T_iadd (pc' := 90) dX12_keeps_89 rfl ?_
    refine T_aload_n (i := 0) (pc' := 91) dX12_keeps_90 rfl rfl rfl ?_
    refine U_gr (q := 92) (k := 41) (kI := 41) (pc' := 94) dX12_keeps_91 rfl cl12 (by decide) rfl (by decide) flX12_92 rfl rfl rfl (G_at hG 92 rfl) (by decide) rfl ?_
    refine T_iload_n (i := 1) (pc' := 95) dX12_keeps_94 rfl rfl rfl ?_
    obtain ⟨z1, z2, H⟩ := H
    refine T_iald (pc' := 96) dX12_keeps_95 (by decide) rfl z1 z2 rfl ?_
    obtain ⟨z1, z2, H⟩ := H
    refine T_iast (pc' := 97) dX12_keeps_96 (by decide) rfl z1 z2 rfl ?_
    have hG5 := (G_arr (x := 100) (i := (wr32 ((wr32 ((wr32 (33 * (M 66 55))) + 27)) + v1))) (y := (M 92 v1)) rfl (by decide) hG)
    obtain ⟨M6, eM6⟩ : ∃ m : Mem, m = (mset M 100 (wr32 ((wr32 ((wr32 (33 * (M 66 55))) + 27)) + v1)) (M 92 v1)) := ⟨_, rfl⟩
    rw [← eM6] at hG5 ⊢
    replace H := H M6 eM6
    refine T_iinc (L' := [(2, 66), (0, (wr32 (v1 + 1))), (3, 0)]) (pc' := 100) dX12_keeps_97 rfl (by decide) rfl rfl ?_
    refine T_goto (pc' := 68) dX12_keeps_100 (by decide) ?_
    exact T_wk (H hG5) ⟨Or.inr rfl, Or.inr rfl, Or.inl rfl, trivial⟩
theorem eX12_keeps {E : EV} {h : Int} {M : Mem} {Q : Option MV → Mem → Prop}  (H : G h M → TG E miX12_keeps 2 h Q 0 [(2, 66), (3, 0), (3, 0)] [] M) : C2 E miX12_keeps 2 h [(2, 66)] M Q :=
  C2_of (by decide +kernel) (Nat.le_of_ble_eq_true rfl) rfl H
set_option maxRecDepth 100000 in
set_option maxHeartbeats 2000000 in
theorem wX12_undo_0 {E : EV} {h : Int} {M : Mem} {Q : Option MV → Mem → Prop}   (H : (((M 66 54) = 0 → Q (some (0, 0)) M) ∧ (¬ ((M 66 54) = 0) → (G h M → TG E miX12_undo 2 h Q 11 [(2, 66), (0, 0), (3, 0)] [] M)))) : G h M → TG E miX12_undo 2 h Q 0 [(2, 66), (3, 0), (3, 0)] [] M := by
  intro hG
  refine T_aload_n (i := 0) (pc' := 1) dX12_undo_0 rfl rfl rfl ?_
  refine U_gf (v := (0, (M 66 54))) (k := 54) (kI := 54) (pc' := 4) dX12_undo_1 rfl cl12 (by decide) rfl (by decide) flX12_343 rfl rfl (by decide) rfl rfl ?_
  refine T_if_ne (pc' := 9) dX12_undo_4 (by decide) (pf := 7) rfl (fun c1 => ?_) (fun c1 => ?_)
  · skip
    replace H := H.2 c1
    refine T_iconst (pc' := 10) dX12_undo_9 (by decide) rfl ?_
    refine T_istore_n (i := 1) (L' := [(2, 66), (0, 0), (3, 0)]) (pc' := 11) dX12_undo_10 rfl (by decide) rfl rfl ?_
    exact T_wk (H hG) ⟨Or.inr rfl, Or.inr rfl, Or.inl rfl, trivial⟩
  · skip
    replace H := H.1 c1
    refine T_iconst (pc' := 8) dX12_undo_7 (by decide) rfl ?_
    exact T_zret dX12_undo_8 rfl (by decide) ⟨rfl, hG, H⟩
set_option maxRecDepth 100000 in
set_option maxHeartbeats 2000000 in
theorem wX12_undo_11 {E : EV} {h : Int} {M : Mem} {Q : Option MV → Mem → Prop} {v1 : Int}  (H : (((fX12_peopleMany M) ≤ v1 → (G h M → TG E miX12_undo 2 h Q 64 [(2, 66), (0, 0), (3, 0)] [] M)) ∧ (¬ ((fX12_peopleMany M) ≤ v1) → (G h M → TG E miX12_undo 2 h Q 21 [(2, 66), (0, v1), (0, 0)] [] M)))) : G h M → TG E miX12_undo 2 h Q 11 [(2, 66), (0, v1), (3, 0)] [] M := by
  intro hG
  refine T_iload_n (i := 1) (pc' := 12) dX12_undo_11 rfl rfl rfl ?_
  refine T_aload_n (i := 0) (pc' := 13) dX12_undo_12 rfl rfl rfl ?_
  refine T_callV (av := []) (st := [(0, v1)]) (d2 := 1) (nc2 := 0) (ns2 := 0) (pc' := 16) dX12_undo_13 rfl mtX12_peopleMany mvX12_peopleMany mlX12_349 cl12 rfl rfl rfl (Nat.le_of_ble_eq_true rfl) (by decide) ⟨by decide, by decide⟩ rfl (pX12_peopleMany (E := E) (h := h) (M := M) hG) (kF (st2 := [(0, (fX12_peopleMany M)), (0, v1)]) rfl (fun hG1 => ?_))
  refine T_icmp_ge (pc' := 62) dX12_undo_16 (by decide) (pf := 19) rfl (fun c2 => ?_) (fun c2 => ?_)
  · skip
    replace H := H.1 c2
    refine T_iconst (pc' := 63) dX12_undo_62 (by decide) rfl ?_
    refine T_istore_n (i := 1) (L' := [(2, 66), (0, 0), (3, 0)]) (pc' := 64) dX12_undo_63 rfl (by decide) rfl rfl ?_
    exact T_wk (H hG) ⟨Or.inr rfl, Or.inr rfl, Or.inl rfl, trivial⟩
  · skip
    replace H := H.2 c2
    refine T_iconst (pc' := 20) dX12_undo_19 (by decide) rfl ?_
    refine T_istore_n (i := 2) (L' := [(2, 66), (0, v1), (0, 0)]) (pc' := 21) dX12_undo_20 rfl (by decide) rfl rfl ?_
    exact T_wk (H hG) ⟨Or.inr rfl, Or.inr rfl, Or.inr rfl, trivial⟩
set_option maxRecDepth 100000 in
set_option maxHeartbeats 2000000 in
theorem wX12_undo_21 {E : EV} {h : Int} {M : Mem} {Q : Option MV → Mem → Prop} {v1 : Int} {v2 : Int}  (H : ((3 ≤ v2 → (G h M → TG E miX12_undo 2 h Q 11 [(2, 66), (0, (wr32 (v1 + 1))), (3, 0)] [] M)) ∧ (¬ (3 ≤ v2) → 0 ≤ (wr32 ((wr32 ((wr32 (33 * (M 66 55))) + (wr32 (3 * v1)))) + v2)) ∧ (wr32 ((wr32 ((wr32 (33 * (M 66 55))) + (wr32 (3 * v1)))) + v2)) < 660 ∧ (nX12_makes v1 v2) ∧ (∀ M4 : Mem, M4 = (fmX12_makes M v1 v2 (M 100 (wr32 ((wr32 ((wr32 (33 * (M 66 55))) + (wr32 (3 * v1)))) + v2)))) → (G h M4 → TG E miX12_undo 2 h Q 21 [(2, 66), (0, v1), (0, (wr32 (v2 + 1)))] [] M4))))) : G h M → TG E miX12_undo 2 h Q 21 [(2, 66), (0, v1), (0, v2)] [] M := by
  intro hG
  refine T_iload_n (i := 2) (pc' := 22) dX12_undo_21 rfl rfl rfl ?_
  refine T_iconst (pc' := 23) dX12_undo_22 (by decide) rfl ?_
  refine T_icmp_ge (pc' := 56) dX12_undo_23 (by decide) (pf := 26) rfl (fun c1 => ?_) (fun c1 => ?_)
  · skip
    replace H := H.1 c1
    refine T_iinc (L' := [(2, 66), (0, (wr32 (v1 + 1))), (0, v2)]) (pc' := 59) dX12_undo_56 rfl (by decide) rfl rfl ?_
    refine T_goto (pc' := 11) dX12_undo_59 (by decide) ?_
    exact T_wk (H hG) ⟨Or.inr rfl, Or.inr rfl, Or.inl rfl, trivial⟩
  · skip
    replace H := H.2 c1
    refine T_aload_n (i := 0) (pc' := 27) dX12_undo_26 rfl rfl rfl ?_
    refine T_iload_n (i := 1) (pc' := 28) dX12_undo_27 rfl rfl rfl ?_
    refine T_iload_n (i := 2) (pc' := 29) dX12_undo_28 rfl rfl rfl ?_
    refine T_aload_n (i := 0) (pc' := 30) dX12_undo_29 rfl rfl rfl ?_
    refine U_gr (q := 100) (k := 53) (kI := 53) (pc' := 33) dX12_undo_30 rfl cl12 (by decide) rfl (by decide) flX12_116 rfl rfl rfl (G_at hG 100 rfl) (by decide) rfl ?_
    refine T_bipush (pc' := 35) dX12_undo_33 rfl (by decide) rfl ?_
    refine T_aload_n (i := 0) (pc' := 36) dX12_undo_35 rfl rfl rfl ?_
    refine U_gf (v := (0, (M 66 55))) (k := 55) (kI := 55) (pc' := 39) dX12_undo_36 rfl cl12 (by decide) rfl (by decide) flX12_470 rfl rfl (by decide) rfl rfl ?_
    refine T_imul (pc' := 40) dX12_undo_39 rfl ?_
    refine T_iconst (pc' := 41) dX12_undo_40 (by decide) rfl ?_
    refine T_iload_n (i := 1) (pc' := 42) dX12_undo_41 rfl rfl rfl ?_
    refine T_imul (pc' := 43) dX12_undo_42 rfl ?_
    refine T_iadd (pc' := 44) dX12_undo_43 rfl ?_
    refine T_iload_n (i := 2) (pc' := 45) dX12_undo_44 rfl rfl rfl ?_
    refine T_iadd (pc' := 46) dX12_undo_45 rfl ?_
    obtain ⟨z1, z2, H⟩ := H
    refine T_iald (pc' := 47) dX12_undo_46 (by decide) rfl z1 z2 rfl ?_
    obtain ⟨z2, H⟩ := H
    refine T_callV (av := [(0, v1), (0, v2), (0, (M 100 (wr32 ((wr32 ((wr32 (33 * (M 66 55))) + (wr32 (3 * v1)))) + v2))))]) (st := []) (d2 := 1) (nc2 := 0) (ns2 := 0) (pc' := 50) dX12_undo_47 rfl mtX12_makes mvX12_makes mlX12_473 cl12 rfl rfl rfl (Nat.le_of_ble_eq_true rfl) (by decide) ⟨by decide, by decide⟩ rfl (pX12_makes (E := E) (h := h) (M := M) (v1 := v1) (v2 := v2) (v3 := (M 100 (wr32 ((wr32 ((wr32 (33 * (M 66 55))) + (wr32 (3 * v1)))) + v2)))) z2 hG) (kF (st2 := []) rfl (fun hG3 => ?_))
    obtain ⟨M4, eM4⟩ : ∃ m : Mem, m = (fmX12_makes M v1 v2 (M 100 (wr32 ((wr32 ((wr32 (33 * (M 66 55))) + (wr32 (3 * v1)))) + v2)))) := ⟨_, rfl⟩
    rw [← eM4] at hG3 ⊢
    replace H := H M4 eM4
    refine T_iinc (L' := [(2, 66), (0, v1), (0, (wr32 (v2 + 1)))]) (pc' := 53) dX12_undo_50 rfl (by decide) rfl rfl ?_
    refine T_goto (pc' := 21) dX12_undo_53 (by decide) ?_
    exact T_wk (H hG3) ⟨Or.inr rfl, Or.inr rfl, Or.inr rfl, trivial⟩
set_option maxRecDepth 100000 in
set_option maxHeartbeats 2000000 in
theorem wX12_undo_64 {E : EV} {h : Int} {M : Mem} {Q : Option MV → Mem → Prop} {v1 : Int}  (H : ((6 ≤ v1 → (∀ M3 : Mem, M3 = (mset M 66 55 (Int.tmod (wr32 ((wr32 ((M 66 55) + 20)) - 1)) 20)) → (∀ M5 : Mem, M5 = (mset M3 66 54 (wr32 ((M3 66 54) - 1))) → Q (some (0, 1)) M5))) ∧ (¬ (6 ≤ v1) → 0 ≤ (wr32 ((wr32 ((wr32 (33 * (M 66 55))) + 27)) + v1)) ∧ (wr32 ((wr32 ((wr32 (33 * (M 66 55))) + 27)) + v1)) < 660 ∧ 0 ≤ v1 ∧ v1 < 6 ∧ (∀ M7 : Mem, M7 = (mset M 92 v1 (M 100 (wr32 ((wr32 ((wr32 (33 * (M 66 55))) + 27)) + v1)))) → (G h M7 → TG E miX12_undo 2 h Q 64 [(2, 66), (0, (wr32 (v1 + 1))), (3, 0)] [] M7))))) : G h M → TG E miX12_undo 2 h Q 64 [(2, 66), (0, v1), (3, 0)] [] M := by
  intro hG
  refine T_iload_n (i := 1) (pc' := 65) dX12_undo_64 rfl rfl rfl ?_
  refine T_bipush (pc' := 67) dX12_undo_65 rfl (by decide) rfl ?_
  refine T_icmp_ge (pc' := 99) dX12_undo_67 (by decide) (pf := 70) rfl (fun c1 => ?_) (fun c1 => ?_)
  · skip
    replace H := H.1 c1
    refine T_aload_n (i := 0) (pc' := 100) dX12_undo_99 rfl rfl rfl ?_
    refine T_aload_n (i := 0) (pc' := 101) dX12_undo_100 rfl rfl rfl ?_
    refine U_gf (v := (0, (M 66 55))) (k := 55) (kI := 55) (pc' := 104) dX12_undo_101 rfl cl12 (by decide) rfl (by decide) flX12_470 rfl rfl (by decide) rfl rfl ?_
    refine T_bipush (pc' := 106) dX12_undo_104 rfl (by decide) rfl ?_
    refine T_iadd (pc' := 107) dX12_undo_106 rfl ?_
    refine T_iconst (pc' := 108) dX12_undo_107 (by decide) rfl ?_
    refine T_isub (pc' := 109) dX12_undo_108 rfl ?_
    refine T_bipush (pc' := 111) dX12_undo_109 rfl (by decide) rfl ?_
    refine T_irem (pc' := 112) dX12_undo_111 (by decide) rfl ?_
    refine U_pf (y := (Int.tmod (wr32 ((wr32 ((M 66 55) + 20)) - 1)) 20)) (k := 55) (kI := 55) (pc' := 115) dX12_undo_112 rfl cl12 (by decide) rfl (by decide) flX12_470 rfl rfl rfl rfl rfl (by decide) (fun z => z) rfl ?_
    have hG2 := (G_fld (x := 66) (i := 55) (y := (Int.tmod (wr32 ((wr32 ((M 66 55) + 20)) - 1)) 20)) rfl (by decide) (by decide) (by decide) hG)
    obtain ⟨M3, eM3⟩ : ∃ m : Mem, m = (mset M 66 55 (Int.tmod (wr32 ((wr32 ((M 66 55) + 20)) - 1)) 20)) := ⟨_, rfl⟩
    rw [← eM3] at hG2 ⊢
    replace H := H M3 eM3
    refine T_aload_n (i := 0) (pc' := 116) dX12_undo_115 rfl rfl rfl ?_
    refine T_dup (pc' := 117) dX12_undo_116 (Nat.ne_of_beq_eq_false rfl) rfl ?_
    refine U_gf (v := (0, (M3 66 54))) (k := 54) (kI := 54) (pc' := 120) dX12_undo_117 rfl cl12 (by decide) rfl (by decide) flX12_343 rfl rfl (by decide) rfl rfl ?_
    refine T_iconst (pc' := 121) dX12_undo_120 (by decide) rfl ?_
    refine T_isub (pc' := 122) dX12_undo_121 rfl ?_
    refine U_pf (y := (wr32 ((M3 66 54) - 1))) (k := 54) (kI := 54) (pc' := 125) dX12_undo_122 rfl cl12 (by decide) rfl (by decide) flX12_343 rfl rfl rfl rfl rfl (by decide) (fun z => z) rfl ?_
    have hG4 := (G_fld (x := 66) (i := 54) (y := (wr32 ((M3 66 54) - 1))) rfl (by decide) (by decide) (by decide) hG2)
    obtain ⟨M5, eM5⟩ : ∃ m : Mem, m = (mset M3 66 54 (wr32 ((M3 66 54) - 1))) := ⟨_, rfl⟩
    rw [← eM5] at hG4 ⊢
    replace H := H M5 eM5
    refine T_iconst (pc' := 126) dX12_undo_125 (by decide) rfl ?_
    exact T_zret dX12_undo_126 rfl (by decide) ⟨rfl, hG4, H⟩
  · skip
    replace H := H.2 c1
    refine T_aload_n (i := 0) (pc' := 71) dX12_undo_70 rfl rfl rfl ?_
    refine U_gr (q := 92) (k := 41) (kI := 41) (pc' := 74) dX12_undo_71 rfl cl12 (by decide) rfl (by decide) flX12_92 rfl rfl rfl (G_at hG 92 rfl) (by decide) rfl ?_
    refine T_iload_n (i := 1) (pc' := 75) dX12_undo_74 rfl rfl rfl ?_
    refine T_aload_n (i := 0) (pc' := 76) dX12_undo_75 rfl rfl rfl ?_
    refine U_gr (q := 100) (k := 53) (kI := 53) (pc' := 79) dX12_undo_76 rfl cl12 (by decide) rfl (by decide) flX12_116 rfl rfl rfl (G_at hG 100 rfl) (by decide) rfl ?_
    refine T_bipush (pc' := 81) dX12_undo_79 rfl (by decide) rfl ?_
    refine T_aload_n (i := 0) (pc' := 82) dX12_undo_81 rfl rfl rfl ?_
    refine U_gf (v := (0, (M 66 55))) (k := 55) (kI := 55) (pc' := 85) dX12_undo_82 rfl cl12 (by decide) rfl (by decide) flX12_470 rfl rfl (by decide) rfl rfl ?_
    refine T_imul (pc' := 86) dX12_undo_85 rfl ?_
    refine T_bipush (pc' := 88) dX12_undo_86 rfl (by decide) rfl ?_
    refine T_iadd (pc' := 89) dX12_undo_88 rfl ?_
    refine T_iload_n (i := 1) (pc' := 90) dX12_undo_89 rfl rfl rfl ?_
    refine T_iadd (pc' := 91) dX12_undo_90 rfl ?_
    obtain ⟨z1, z2, H⟩ := H
    refine T_iald (pc' := 92) dX12_undo_91 (by decide) rfl z1 z2 rfl ?_
    obtain ⟨z1, z2, H⟩ := H
    refine T_iast (pc' := 93) dX12_undo_92 (by decide) rfl z1 z2 rfl ?_
    have hG6 := (G_arr (x := 92) (i := v1) (y := (M 100 (wr32 ((wr32 ((wr32 (33 * (M 66 55))) + 27)) + v1)))) rfl (by decide) hG)
    obtain ⟨M7, eM7⟩ : ∃ m : Mem, m = (mset M 92 v1 (M 100 (wr32 ((wr32 ((wr32 (33 * (M 66 55))) + 27)) + v1)))) := ⟨_, rfl⟩
    rw [← eM7] at hG6 ⊢
    replace H := H M7 eM7
    refine T_iinc (L' := [(2, 66), (0, (wr32 (v1 + 1))), (3, 0)]) (pc' := 96) dX12_undo_93 rfl (by decide) rfl rfl ?_
    refine T_goto (pc' := 64) dX12_undo_96 (by decide) ?_
    exact T_wk (H hG6) ⟨Or.inr rfl, Or.inr rfl, Or.inl rfl, trivial⟩
theorem eX12_undo {E : EV} {h : Int} {M : Mem} {Q : Option MV → Mem → Prop}  (H : G h M → TG E miX12_undo 2 h Q 0 [(2, 66), (3, 0), (3, 0)] [] M) : C2 E miX12_undo 2 h [(2, 66)] M Q :=
  C2_of (by decide +kernel) (Nat.le_of_ble_eq_true rfl) rfl H
set_option maxRecDepth 100000 in
set_option maxHeartbeats 2000000 in
theorem wX12_lot_0 {E : EV} {h : Int} {M : Mem} {Q : Option MV → Mem → Prop}   (H : (∀ M2 : Mem, M2 = (mset M 66 42 0) → (G h M2 → TG E miX12_lot 2 h Q 7 [(2, 66), (0, 0)] [] M2))) : G h M → TG E miX12_lot 2 h Q 0 [(2, 66), (3, 0)] [] M := by
  intro hG
  refine T_aload_n (i := 0) (pc' := 1) dX12_lot_0 rfl rfl rfl ?_
  refine T_iconst (pc' := 2) dX12_lot_1 (by decide) rfl ?_
  refine U_pf (y := 0) (k := 42) (kI := 42) (pc' := 5) dX12_lot_2 rfl cl12 (by decide) rfl (by decide) flX12_340 rfl rfl rfl rfl rfl (by decide) (fun z => z) rfl ?_
  have hG1 := (G_fld (x := 66) (i := 42) (y := 0) rfl (by decide) (by decide) (by decide) hG)
  obtain ⟨M2, eM2⟩ : ∃ m : Mem, m = (mset M 66 42 0) := ⟨_, rfl⟩
  rw [← eM2] at hG1 ⊢
  replace H := H M2 eM2
  refine T_iconst (pc' := 6) dX12_lot_5 (by decide) rfl ?_
  refine T_istore_n (i := 1) (L' := [(2, 66), (0, 0)]) (pc' := 7) dX12_lot_6 rfl (by decide) rfl rfl ?_
  exact T_wk (H hG1) ⟨Or.inr rfl, Or.inr rfl, trivial⟩
set_option maxRecDepth 100000 in
set_option maxHeartbeats 2000000 in
theorem wX12_lot_7 {E : EV} {h : Int} {M : Mem} {Q : Option MV → Mem → Prop} {v1 : Int}  (H : (((fX12_peopleMany M) ≤ v1 → Q (some (0, (M 66 42))) M) ∧ (¬ ((fX12_peopleMany M) ≤ v1) → (nX12_drawOf 4) ∧ (∀ M5 : Mem, M5 = (fmX12_drawOf M) → (nX12_personOf v1 3) ∧ (((fX12_personOf M5 v1 3) ≤ (fX12_drawOf M 4) → (G h M5 → TG E miX12_lot 2 h Q 7 [(2, 66), (0, (wr32 (v1 + 1)))] [] M5)) ∧ (¬ ((fX12_personOf M5 v1 3) ≤ (fX12_drawOf M 4)) → (∀ M10 : Mem, M10 = (mset M5 66 42 (m_or (M5 66 42) (m_shl 1 v1))) → (G h M10 → TG E miX12_lot 2 h Q 7 [(2, 66), (0, (wr32 (v1 + 1)))] [] M10)))))))) : G h M → TG E miX12_lot 2 h Q 7 [(2, 66), (0, v1)] [] M := by
  intro hG
  refine T_iload_n (i := 1) (pc' := 8) dX12_lot_7 rfl rfl rfl ?_
  refine T_aload_n (i := 0) (pc' := 9) dX12_lot_8 rfl rfl rfl ?_
  refine T_callV (av := []) (st := [(0, v1)]) (d2 := 1) (nc2 := 0) (ns2 := 0) (pc' := 12) dX12_lot_9 rfl mtX12_peopleMany mvX12_peopleMany mlX12_349 cl12 rfl rfl rfl (Nat.le_of_ble_eq_true rfl) (by decide) ⟨by decide, by decide⟩ rfl (pX12_peopleMany (E := E) (h := h) (M := M) hG) (kF (st2 := [(0, (fX12_peopleMany M)), (0, v1)]) rfl (fun hG1 => ?_))
  refine T_icmp_ge (pc' := 47) dX12_lot_12 (by decide) (pf := 15) rfl (fun c2 => ?_) (fun c2 => ?_)
  · skip
    replace H := H.1 c2
    refine T_aload_n (i := 0) (pc' := 48) dX12_lot_47 rfl rfl rfl ?_
    refine U_gf (v := (0, (M 66 42))) (k := 42) (kI := 42) (pc' := 51) dX12_lot_48 rfl cl12 (by decide) rfl (by decide) flX12_340 rfl rfl (by decide) rfl rfl ?_
    exact T_iret dX12_lot_51 rfl ⟨rfl, hG, H⟩
  · skip
    replace H := H.2 c2
    refine T_aload_n (i := 0) (pc' := 16) dX12_lot_15 rfl rfl rfl ?_
    refine T_iconst (pc' := 17) dX12_lot_16 (by decide) rfl ?_
    obtain ⟨z3, H⟩ := H
    refine T_callV (av := [(0, 4)]) (st := []) (d2 := 1) (nc2 := 0) (ns2 := 0) (pc' := 20) dX12_lot_17 rfl mtX12_drawOf mvX12_drawOf mlX12_495 cl12 rfl rfl rfl (Nat.le_of_ble_eq_true rfl) (by decide) ⟨by decide, by decide⟩ rfl (pX12_drawOf (E := E) (h := h) (M := M) (v1 := 4) z3 hG) (kF (st2 := [(0, (fX12_drawOf M 4))]) rfl (fun hG4 => ?_))
    obtain ⟨M5, eM5⟩ : ∃ m : Mem, m = (fmX12_drawOf M) := ⟨_, rfl⟩
    rw [← eM5] at hG4 ⊢
    replace H := H M5 eM5
    refine T_aload_n (i := 0) (pc' := 21) dX12_lot_20 rfl rfl rfl ?_
    refine T_iload_n (i := 1) (pc' := 22) dX12_lot_21 rfl rfl rfl ?_
    refine T_iconst (pc' := 23) dX12_lot_22 (by decide) rfl ?_
    obtain ⟨z6, H⟩ := H
    refine T_callV (av := [(0, v1), (0, 3)]) (st := [(0, (fX12_drawOf M 4))]) (d2 := 1) (nc2 := 0) (ns2 := 0) (pc' := 26) dX12_lot_23 rfl mtX12_personOf mvX12_personOf mlX12_373 cl12 rfl rfl rfl (Nat.le_of_ble_eq_true rfl) (by decide) ⟨by decide, by decide⟩ rfl (pX12_personOf (E := E) (h := h) (M := M5) (v1 := v1) (v2 := 3) z6 hG4) (kF (st2 := [(0, (fX12_personOf M5 v1 3)), (0, (fX12_drawOf M 4))]) rfl (fun hG7 => ?_))
    refine T_icmp_ge (pc' := 41) dX12_lot_26 (by decide) (pf := 29) rfl (fun c8 => ?_) (fun c8 => ?_)
    · skip
      replace H := H.1 c8
      refine T_iinc (L' := [(2, 66), (0, (wr32 (v1 + 1)))]) (pc' := 44) dX12_lot_41 rfl (by decide) rfl rfl ?_
      refine T_goto (pc' := 7) dX12_lot_44 (by decide) ?_
      exact T_wk (H hG4) ⟨Or.inr rfl, Or.inr rfl, trivial⟩
    · skip
      replace H := H.2 c8
      refine T_aload_n (i := 0) (pc' := 30) dX12_lot_29 rfl rfl rfl ?_
      refine T_dup (pc' := 31) dX12_lot_30 (Nat.ne_of_beq_eq_false rfl) rfl ?_
      refine U_gf (v := (0, (M5 66 42))) (k := 42) (kI := 42) (pc' := 34) dX12_lot_31 rfl cl12 (by decide) rfl (by decide) flX12_340 rfl rfl (by decide) rfl rfl ?_
      refine T_iconst (pc' := 35) dX12_lot_34 (by decide) rfl ?_
      refine T_iload_n (i := 1) (pc' := 36) dX12_lot_35 rfl rfl rfl ?_
      refine T_ishl (pc' := 37) dX12_lot_36 rfl ?_
      refine T_ior (pc' := 38) dX12_lot_37 rfl ?_
      refine U_pf (y := (m_or (M5 66 42) (m_shl 1 v1))) (k := 42) (kI := 42) (pc' := 41) dX12_lot_38 rfl cl12 (by decide) rfl (by decide) flX12_340 rfl rfl rfl rfl rfl (by decide) (fun z => z) rfl ?_
      have hG9 := (G_fld (x := 66) (i := 42) (y := (m_or (M5 66 42) (m_shl 1 v1))) rfl (by decide) (by decide) (by decide) hG4)
      obtain ⟨M10, eM10⟩ : ∃ m : Mem, m = (mset M5 66 42 (m_or (M5 66 42) (m_shl 1 v1))) := ⟨_, rfl⟩
      rw [← eM10] at hG9 ⊢
      replace H := H M10 eM10
      refine T_iinc (L' := [(2, 66), (0, (wr32 (v1 + 1)))]) (pc' := 44) dX12_lot_41 rfl (by decide) rfl rfl ?_
      refine T_goto (pc' := 7) dX12_lot_44 (by decide) ?_
      exact T_wk (H hG9) ⟨Or.inr rfl, Or.inr rfl, trivial⟩
theorem eX12_lot {E : EV} {h : Int} {M : Mem} {Q : Option MV → Mem → Prop}  (H : G h M → TG E miX12_lot 2 h Q 0 [(2, 66), (3, 0)] [] M) : C2 E miX12_lot 2 h [(2, 66)] M Q :=
  C2_of (by decide +kernel) (Nat.le_of_ble_eq_true rfl) rfl H
set_option maxRecDepth 100000 in
set_option maxHeartbeats 2000000 in
theorem wX12_bits_0 {E : EV} {h : Int} {M : Mem} {Q : Option MV → Mem → Prop} {v0 : Int}  (H : (G h M → TG E miX12_bits 1 h Q 4 [(3, 0), (0, 0), (0, v0)] [] M)) : G h M → TG E miX12_bits 1 h Q 0 [(0, v0), (3, 0), (3, 0)] [] M := by
  intro hG
  refine T_iconst (pc' := 1) dX12_bits_0 (by decide) rfl ?_
  refine T_istore_n (i := 1) (L' := [(0, v0), (0, 0), (3, 0)]) (pc' := 2) dX12_bits_1 rfl (by decide) rfl rfl ?_
  refine T_iload_n (i := 0) (pc' := 3) dX12_bits_2 rfl rfl rfl ?_
  refine T_istore_n (i := 2) (L' := [(0, v0), (0, 0), (0, v0)]) (pc' := 4) dX12_bits_3 rfl (by decide) rfl rfl ?_
  exact T_wk (H hG) ⟨Or.inl rfl, Or.inr rfl, Or.inr rfl, trivial⟩
set_option maxRecDepth 100000 in
set_option maxHeartbeats 2000000 in
theorem wX12_bits_4 {E : EV} {h : Int} {M : Mem} {Q : Option MV → Mem → Prop} {v1 : Int} {v2 : Int}  (H : ((v2 = 0 → Q (some (0, v1)) M) ∧ (¬ (v2 = 0) → (G h M → TG E miX12_bits 1 h Q 4 [(3, 0), (0, (wr32 (v1 + 1))), (0, (m_and v2 (wr32 (v2 - 1))))] [] M)))) : G h M → TG E miX12_bits 1 h Q 4 [(3, 0), (0, v1), (0, v2)] [] M := by
  intro hG
  refine T_iload_n (i := 2) (pc' := 5) dX12_bits_4 rfl rfl rfl ?_
  refine T_if_eq (pc' := 20) dX12_bits_5 (by decide) (pf := 8) rfl (fun c1 => ?_) (fun c1 => ?_)
  · skip
    replace H := H.1 c1
    refine T_iload_n (i := 1) (pc' := 21) dX12_bits_20 rfl rfl rfl ?_
    exact T_iret dX12_bits_21 rfl ⟨rfl, hG, H⟩
  · skip
    replace H := H.2 c1
    refine T_iinc (L' := [(3, 0), (0, (wr32 (v1 + 1))), (0, v2)]) (pc' := 11) dX12_bits_8 rfl (by decide) rfl rfl ?_
    refine T_iload_n (i := 2) (pc' := 12) dX12_bits_11 rfl rfl rfl ?_
    refine T_iload_n (i := 2) (pc' := 13) dX12_bits_12 rfl rfl rfl ?_
    refine T_iconst (pc' := 14) dX12_bits_13 (by decide) rfl ?_
    refine T_isub (pc' := 15) dX12_bits_14 rfl ?_
    refine T_iand (pc' := 16) dX12_bits_15 rfl ?_
    refine T_istore_n (i := 2) (L' := [(3, 0), (0, (wr32 (v1 + 1))), (0, (m_and v2 (wr32 (v2 - 1))))]) (pc' := 17) dX12_bits_16 rfl (by decide) rfl rfl ?_
    refine T_goto (pc' := 4) dX12_bits_17 (by decide) ?_
    exact T_wk (H hG) ⟨Or.inl rfl, Or.inr rfl, Or.inr rfl, trivial⟩
theorem eX12_bits {E : EV} {h : Int} {M : Mem} {Q : Option MV → Mem → Prop} {v0 : Int} (H : G h M → TG E miX12_bits 1 h Q 0 [(0, v0), (3, 0), (3, 0)] [] M) : C2 E miX12_bits 1 h [(0, v0)] M Q :=
  C2_of (by decide +kernel) (Nat.le_of_ble_eq_true rfl) rfl H
set_option maxRecDepth 100000 in
set_option maxHeartbeats 2000000 in
theorem wX12_dares_0 {E : EV} {h : Int} {M : Mem} {Q : Option MV → Mem → Prop} {v1 : Int}  (H : (G h M → TG E miX12_dares 2 h Q 2 [(2, 66), (0, v1), (0, 0)] [] M)) : G h M → TG E miX12_dares 2 h Q 0 [(2, 66), (0, v1), (3, 0)] [] M := by
  intro hG
  refine T_iconst (pc' := 1) dX12_dares_0 (by decide) rfl ?_
  refine T_istore_n (i := 2) (L' := [(2, 66), (0, v1), (0, 0)]) (pc' := 2) dX12_dares_1 rfl (by decide) rfl rfl ?_
  exact T_wk (H hG) ⟨Or.inr rfl, Or.inr rfl, Or.inr rfl, trivial⟩
set_option maxRecDepth 100000 in
set_option maxHeartbeats 2000000 in
theorem wX12_dares_2 {E : EV} {h : Int} {M : Mem} {Q : Option MV → Mem → Prop} {v1 : Int} {v2 : Int}  (H : (((fX12_peopleMany M) ≤ v2 → Q none M) ∧ (¬ ((fX12_peopleMany M) ≤ v2) → (((m_and (m_shr v1 v2) 1) = 1 → (nX12_makes v2 2) ∧ (∀ M9 : Mem, M9 = (fmX12_makes M v2 2 1) → (G h M9 → TG E miX12_dares 2 h Q 2 [(2, 66), (0, v1), (0, (wr32 (v2 + 1)))] [] M9))) ∧ (¬ ((m_and (m_shr v1 v2) 1) = 1) → 0 ≤ v2 ∧ v2 < 9 ∧ (nX12_makes v2 2) ∧ (∀ M6 : Mem, M6 = (fmX12_makes M v2 2 (M 101 v2)) → (G h M6 → TG E miX12_dares 2 h Q 2 [(2, 66), (0, v1), (0, (wr32 (v2 + 1)))] [] M6))))))) : G h M → TG E miX12_dares 2 h Q 2 [(2, 66), (0, v1), (0, v2)] [] M := by
  intro hG
  refine T_iload_n (i := 2) (pc' := 3) dX12_dares_2 rfl rfl rfl ?_
  refine T_aload_n (i := 0) (pc' := 4) dX12_dares_3 rfl rfl rfl ?_
  refine T_callV (av := []) (st := [(0, v2)]) (d2 := 1) (nc2 := 0) (ns2 := 0) (pc' := 7) dX12_dares_4 rfl mtX12_peopleMany mvX12_peopleMany mlX12_349 cl12 rfl rfl rfl (Nat.le_of_ble_eq_true rfl) (by decide) ⟨by decide, by decide⟩ rfl (pX12_peopleMany (E := E) (h := h) (M := M) hG) (kF (st2 := [(0, (fX12_peopleMany M)), (0, v2)]) rfl (fun hG1 => ?_))
  refine T_icmp_ge (pc' := 41) dX12_dares_7 (by decide) (pf := 10) rfl (fun c2 => ?_) (fun c2 => ?_)
  · skip
    replace H := H.1 c2
    exact T_vret dX12_dares_41 rfl ⟨rfl, hG, H⟩
  · skip
    replace H := H.2 c2
    refine T_aload_n (i := 0) (pc' := 11) dX12_dares_10 rfl rfl rfl ?_
    refine T_iload_n (i := 2) (pc' := 12) dX12_dares_11 rfl rfl rfl ?_
    refine T_iconst (pc' := 13) dX12_dares_12 (by decide) rfl ?_
    refine T_iload_n (i := 1) (pc' := 14) dX12_dares_13 rfl rfl rfl ?_
    refine T_iload_n (i := 2) (pc' := 15) dX12_dares_14 rfl rfl rfl ?_
    refine T_ishr (pc' := 16) dX12_dares_15 rfl ?_
    refine T_iconst (pc' := 17) dX12_dares_16 (by decide) rfl ?_
    refine T_iand (pc' := 18) dX12_dares_17 rfl ?_
    refine T_iconst (pc' := 19) dX12_dares_18 (by decide) rfl ?_
    refine T_icmp_ne (pc' := 26) dX12_dares_19 (by decide) (pf := 22) rfl (fun c3 => ?_) (fun c3 => ?_)
    · skip
      replace H := H.2 c3
      refine T_aload_n (i := 0) (pc' := 27) dX12_dares_26 rfl rfl rfl ?_
      refine U_gr (q := 101) (k := 57) (kI := 57) (pc' := 30) dX12_dares_27 rfl cl12 (by decide) rfl (by decide) flX12_123 rfl rfl rfl (G_at hG 101 rfl) (by decide) rfl ?_
      refine T_iload_n (i := 2) (pc' := 31) dX12_dares_30 rfl rfl rfl ?_
      obtain ⟨z1, z2, H⟩ := H
      refine T_iald (pc' := 32) dX12_dares_31 (by decide) rfl z1 z2 rfl ?_
      obtain ⟨z4, H⟩ := H
      refine T_callV (av := [(0, v2), (0, 2), (0, (M 101 v2))]) (st := []) (d2 := 1) (nc2 := 0) (ns2 := 0) (pc' := 35) dX12_dares_32 rfl mtX12_makes mvX12_makes mlX12_473 cl12 rfl rfl rfl (Nat.le_of_ble_eq_true rfl) (by decide) ⟨by decide, by decide⟩ rfl (pX12_makes (E := E) (h := h) (M := M) (v1 := v2) (v2 := 2) (v3 := (M 101 v2)) z4 hG) (kF (st2 := []) rfl (fun hG5 => ?_))
      obtain ⟨M6, eM6⟩ : ∃ m : Mem, m = (fmX12_makes M v2 2 (M 101 v2)) := ⟨_, rfl⟩
      rw [← eM6] at hG5 ⊢
      replace H := H M6 eM6
      refine T_iinc (L' := [(2, 66), (0, v1), (0, (wr32 (v2 + 1)))]) (pc' := 38) dX12_dares_35 rfl (by decide) rfl rfl ?_
      refine T_goto (pc' := 2) dX12_dares_38 (by decide) ?_
      exact T_wk (H hG5) ⟨Or.inr rfl, Or.inr rfl, Or.inr rfl, trivial⟩
    · skip
      replace H := H.1 c3
      refine T_iconst (pc' := 23) dX12_dares_22 (by decide) rfl ?_
      refine T_goto (pc' := 32) dX12_dares_23 (by decide) ?_
      obtain ⟨z7, H⟩ := H
      refine T_callV (av := [(0, v2), (0, 2), (0, 1)]) (st := []) (d2 := 1) (nc2 := 0) (ns2 := 0) (pc' := 35) dX12_dares_32 rfl mtX12_makes mvX12_makes mlX12_473 cl12 rfl rfl rfl (Nat.le_of_ble_eq_true rfl) (by decide) ⟨by decide, by decide⟩ rfl (pX12_makes (E := E) (h := h) (M := M) (v1 := v2) (v2 := 2) (v3 := 1) z7 hG) (kF (st2 := []) rfl (fun hG8 => ?_))
      obtain ⟨M9, eM9⟩ : ∃ m : Mem, m = (fmX12_makes M v2 2 1) := ⟨_, rfl⟩
      rw [← eM9] at hG8 ⊢
      replace H := H M9 eM9
      refine T_iinc (L' := [(2, 66), (0, v1), (0, (wr32 (v2 + 1)))]) (pc' := 38) dX12_dares_35 rfl (by decide) rfl rfl ?_
      refine T_goto (pc' := 2) dX12_dares_38 (by decide) ?_
      exact T_wk (H hG8) ⟨Or.inr rfl, Or.inr rfl, Or.inr rfl, trivial⟩
theorem eX12_dares {E : EV} {h : Int} {M : Mem} {Q : Option MV → Mem → Prop} {v1 : Int} (H : G h M → TG E miX12_dares 2 h Q 0 [(2, 66), (0, v1), (3, 0)] [] M) : C2 E miX12_dares 2 h [(2, 66), (0, v1)] M Q :=
  C2_of (by decide +kernel) (Nat.le_of_ble_eq_true rfl) rfl H
set_option maxRecDepth 100000 in
set_option maxHeartbeats 2000000 in
theorem wX12_qBracket_0 {E : EV} {h : Int} {M : Mem} {Q : Option MV → Mem → Prop}   (H : (G h M → TG E miX12_qBracket 2 h Q 7 [(2, 66), (0, (wr32 ((M 66 81) - 1)))] [] M)) : G h M → TG E miX12_qBracket 2 h Q 0 [(2, 66), (3, 0)] [] M := by
  intro hG
  refine T_aload_n (i := 0) (pc' := 1) dX12_qBracket_0 rfl rfl rfl ?_
  refine U_gf (v := (0, (M 66 81))) (k := 81) (kI := 81) (pc' := 4) dX12_qBracket_1 rfl cl12 (by decide) rfl (by decide) flX12_523 rfl rfl (by decide) rfl rfl ?_
  refine T_iconst (pc' := 5) dX12_qBracket_4 (by decide) rfl ?_
  refine T_isub (pc' := 6) dX12_qBracket_5 rfl ?_
  refine T_istore_n (i := 1) (L' := [(2, 66), (0, (wr32 ((M 66 81) - 1)))]) (pc' := 7) dX12_qBracket_6 rfl (by decide) rfl rfl ?_
  exact T_wk (H hG) ⟨Or.inr rfl, Or.inr rfl, trivial⟩
set_option maxRecDepth 100000 in
set_option maxHeartbeats 2000000 in
theorem wX12_qBracket_7 {E : EV} {h : Int} {M : Mem} {Q : Option MV → Mem → Prop} {v1 : Int}  (H : ((v1 < (M 66 83) → ((v1 < (M 66 83) → Q (some (0, (-1))) M) ∧ (¬ (v1 < (M 66 83)) → 0 ≤ v1 ∧ v1 < 1700 ∧ Q (some (0, (M 123 v1))) M))) ∧ (¬ (v1 < (M 66 83)) → 0 ≤ v1 ∧ v1 < 1700 ∧ (((fX12_qIsBracket (M 123 v1)) = 0 → (G h M → TG E miX12_qBracket 2 h Q 7 [(2, 66), (0, (wr32 (v1 + (-1))))] [] M)) ∧ (¬ ((fX12_qIsBracket (M 123 v1)) = 0) → ((v1 < (M 66 83) → Q (some (0, (-1))) M) ∧ (¬ (v1 < (M 66 83)) → 0 ≤ v1 ∧ v1 < 1700 ∧ Q (some (0, (M 123 v1))) M))))))) : G h M → TG E miX12_qBracket 2 h Q 7 [(2, 66), (0, v1)] [] M := by
  intro hG
  refine T_iload_n (i := 1) (pc' := 8) dX12_qBracket_7 rfl rfl rfl ?_
  refine T_aload_n (i := 0) (pc' := 9) dX12_qBracket_8 rfl rfl rfl ?_
  refine U_gf (v := (0, (M 66 83))) (k := 83) (kI := 83) (pc' := 12) dX12_qBracket_9 rfl cl12 (by decide) rfl (by decide) flX12_529 rfl rfl (by decide) rfl rfl ?_
  refine T_icmp_lt (pc' := 33) dX12_qBracket_12 (by decide) (pf := 15) rfl (fun c1 => ?_) (fun c1 => ?_)
  · skip
    replace H := H.1 c1
    refine T_iload_n (i := 1) (pc' := 34) dX12_qBracket_33 rfl rfl rfl ?_
    refine T_aload_n (i := 0) (pc' := 35) dX12_qBracket_34 rfl rfl rfl ?_
    refine U_gf (v := (0, (M 66 83))) (k := 83) (kI := 83) (pc' := 38) dX12_qBracket_35 rfl cl12 (by decide) rfl (by decide) flX12_529 rfl rfl (by decide) rfl rfl ?_
    refine T_icmp_lt (pc' := 50) dX12_qBracket_38 (by decide) (pf := 41) rfl (fun c2 => ?_) (fun c2 => ?_)
    · skip
      replace H := H.1 c2
      refine T_iconst (pc' := 51) dX12_qBracket_50 (by decide) rfl ?_
      exact T_iret dX12_qBracket_51 rfl ⟨rfl, hG, H⟩
    · skip
      replace H := H.2 c2
      refine T_aload_n (i := 0) (pc' := 42) dX12_qBracket_41 rfl rfl rfl ?_
      refine U_gr (q := 123) (k := 80) (kI := 80) (pc' := 45) dX12_qBracket_42 rfl cl12 (by decide) rfl (by decide) flX12_189 rfl rfl rfl (G_at hG 123 rfl) (by decide) rfl ?_
      refine T_iload_n (i := 1) (pc' := 46) dX12_qBracket_45 rfl rfl rfl ?_
      obtain ⟨z1, z2, H⟩ := H
      refine T_iald (pc' := 47) dX12_qBracket_46 (by decide) rfl z1 z2 rfl ?_
      refine T_goto (pc' := 51) dX12_qBracket_47 (by decide) ?_
      exact T_iret dX12_qBracket_51 rfl ⟨rfl, hG, H⟩
  · skip
    replace H := H.2 c1
    refine T_aload_n (i := 0) (pc' := 16) dX12_qBracket_15 rfl rfl rfl ?_
    refine U_gr (q := 123) (k := 80) (kI := 80) (pc' := 19) dX12_qBracket_16 rfl cl12 (by decide) rfl (by decide) flX12_189 rfl rfl rfl (G_at hG 123 rfl) (by decide) rfl ?_
    refine T_iload_n (i := 1) (pc' := 20) dX12_qBracket_19 rfl rfl rfl ?_
    obtain ⟨z1, z2, H⟩ := H
    refine T_iald (pc' := 21) dX12_qBracket_20 (by decide) rfl z1 z2 rfl ?_
    refine T_callS (av := [(0, (M 123 v1))]) (st := []) (d2 := 1) (nc2 := 0) (ns2 := 0) (pc' := 24) dX12_qBracket_21 rfl mtX12_qIsBracket mvX12_qIsBracket mlX12_532 rfl rfl (Nat.le_of_ble_eq_true rfl) (by decide) ⟨by decide, by decide⟩ rfl (pX12_qIsBracket (E := E) (h := h) (M := M) (v0 := (M 123 v1)) hG) (kF (st2 := [(0, (fX12_qIsBracket (M 123 v1)))]) rfl (fun hG3 => ?_))
    refine T_if_ne (pc' := 33) dX12_qBracket_24 (by decide) (pf := 27) rfl (fun c4 => ?_) (fun c4 => ?_)
    · skip
      replace H := H.2 c4
      refine T_iload_n (i := 1) (pc' := 34) dX12_qBracket_33 rfl rfl rfl ?_
      refine T_aload_n (i := 0) (pc' := 35) dX12_qBracket_34 rfl rfl rfl ?_
      refine U_gf (v := (0, (M 66 83))) (k := 83) (kI := 83) (pc' := 38) dX12_qBracket_35 rfl cl12 (by decide) rfl (by decide) flX12_529 rfl rfl (by decide) rfl rfl ?_
      refine T_icmp_lt (pc' := 50) dX12_qBracket_38 (by decide) (pf := 41) rfl (fun c5 => ?_) (fun c5 => ?_)
      · skip
        replace H := H.1 c5
        refine T_iconst (pc' := 51) dX12_qBracket_50 (by decide) rfl ?_
        exact T_iret dX12_qBracket_51 rfl ⟨rfl, hG, H⟩
      · skip
        replace H := H.2 c5
        refine T_aload_n (i := 0) (pc' := 42) dX12_qBracket_41 rfl rfl rfl ?_
        refine U_gr (q := 123) (k := 80) (kI := 80) (pc' := 45) dX12_qBracket_42 rfl cl12 (by decide) rfl (by decide) flX12_189 rfl rfl rfl (G_at hG 123 rfl) (by decide) rfl ?_
        refine T_iload_n (i := 1) (pc' := 46) dX12_qBracket_45 rfl rfl rfl ?_
        obtain ⟨z1, z2, H⟩ := H
        refine T_iald (pc' := 47) dX12_qBracket_46 (by decide) rfl z1 z2 rfl ?_
        refine T_goto (pc' := 51) dX12_qBracket_47 (by decide) ?_
        exact T_iret dX12_qBracket_51 rfl ⟨rfl, hG, H⟩
    · skip
      replace H := H.1 c4
      refine T_iinc (L' := [(2, 66), (0, (wr32 (v1 + (-1))))]) (pc' := 30) dX12_qBracket_27 rfl (by decide) rfl rfl ?_
      refine T_goto (pc' := 7) dX12_qBracket_30 (by decide) ?_
      exact T_wk (H hG) ⟨Or.inr rfl, Or.inr rfl, trivial⟩
theorem eX12_qBracket {E : EV} {h : Int} {M : Mem} {Q : Option MV → Mem → Prop}  (H : G h M → TG E miX12_qBracket 2 h Q 0 [(2, 66), (3, 0)] [] M) : C2 E miX12_qBracket 2 h [(2, 66)] M Q :=
  C2_of (by decide +kernel) (Nat.le_of_ble_eq_true rfl) rfl H
set_option maxRecDepth 100000 in
set_option maxHeartbeats 2000000 in
theorem wX12_qHasSquare_0 {E : EV} {h : Int} {M : Mem} {Q : Option MV → Mem → Prop}   (H : (G h M → TG E miX12_qHasSquare 1 h Q 2 [(2, 66), (0, 0)] [] M)) : G h M → TG E miX12_qHasSquare 1 h Q 0 [(2, 66), (3, 0)] [] M := by
  intro hG
  refine T_iconst (pc' := 1) dX12_qHasSquare_0 (by decide) rfl ?_
  refine T_istore_n (i := 1) (L' := [(2, 66), (0, 0)]) (pc' := 2) dX12_qHasSquare_1 rfl (by decide) rfl rfl ?_
  exact T_wk (H hG) ⟨Or.inr rfl, Or.inr rfl, trivial⟩
set_option maxRecDepth 100000 in
set_option maxHeartbeats 2000000 in
theorem wX12_qHasSquare_2 {E : EV} {h : Int} {M : Mem} {Q : Option MV → Mem → Prop} {v1 : Int}  (H : (((M 66 81) ≤ v1 → Q (some (0, 0)) M) ∧ (¬ ((M 66 81) ≤ v1) → 0 ≤ v1 ∧ v1 < 1700 ∧ (((M 123 v1) = 25 → Q (some (0, 1)) M) ∧ (¬ ((M 123 v1) = 25) → (G h M → TG E miX12_qHasSquare 1 h Q 2 [(2, 66), (0, (wr32 (v1 + 1)))] [] M)))))) : G h M → TG E miX12_qHasSquare 1 h Q 2 [(2, 66), (0, v1)] [] M := by
  intro hG
  refine T_iload_n (i := 1) (pc' := 3) dX12_qHasSquare_2 rfl rfl rfl ?_
  refine T_aload_n (i := 0) (pc' := 4) dX12_qHasSquare_3 rfl rfl rfl ?_
  refine U_gf (v := (0, (M 66 81))) (k := 81) (kI := 81) (pc' := 7) dX12_qHasSquare_4 rfl cl12 (by decide) rfl (by decide) flX12_523 rfl rfl (by decide) rfl rfl ?_
  refine T_icmp_ge (pc' := 29) dX12_qHasSquare_7 (by decide) (pf := 10) rfl (fun c1 => ?_) (fun c1 => ?_)
  · skip
    replace H := H.1 c1
    refine T_iconst (pc' := 30) dX12_qHasSquare_29 (by decide) rfl ?_
    exact T_zret dX12_qHasSquare_30 rfl (by decide) ⟨rfl, hG, H⟩
  · skip
    replace H := H.2 c1
    refine T_aload_n (i := 0) (pc' := 11) dX12_qHasSquare_10 rfl rfl rfl ?_
    refine U_gr (q := 123) (k := 80) (kI := 80) (pc' := 14) dX12_qHasSquare_11 rfl cl12 (by decide) rfl (by decide) flX12_189 rfl rfl rfl (G_at hG 123 rfl) (by decide) rfl ?_
    refine T_iload_n (i := 1) (pc' := 15) dX12_qHasSquare_14 rfl rfl rfl ?_
    obtain ⟨z1, z2, H⟩ := H
    refine T_iald (pc' := 16) dX12_qHasSquare_15 (by decide) rfl z1 z2 rfl ?_
    refine T_bipush (pc' := 18) dX12_qHasSquare_16 rfl (by decide) rfl ?_
    refine T_icmp_ne (pc' := 23) dX12_qHasSquare_18 (by decide) (pf := 21) rfl (fun c2 => ?_) (fun c2 => ?_)
    · skip
      replace H := H.2 c2
      refine T_iinc (L' := [(2, 66), (0, (wr32 (v1 + 1)))]) (pc' := 26) dX12_qHasSquare_23 rfl (by decide) rfl rfl ?_
      refine T_goto (pc' := 2) dX12_qHasSquare_26 (by decide) ?_
      exact T_wk (H hG) ⟨Or.inr rfl, Or.inr rfl, trivial⟩
    · skip
      replace H := H.1 c2
      refine T_iconst (pc' := 22) dX12_qHasSquare_21 (by decide) rfl ?_
      exact T_zret dX12_qHasSquare_22 rfl (by decide) ⟨rfl, hG, H⟩
theorem eX12_qHasSquare {E : EV} {h : Int} {M : Mem} {Q : Option MV → Mem → Prop}  (H : G h M → TG E miX12_qHasSquare 1 h Q 0 [(2, 66), (3, 0)] [] M) : C2 E miX12_qHasSquare 1 h [(2, 66)] M Q :=
  C2_of (by decide +kernel) (Nat.le_of_ble_eq_true rfl) rfl H
set_option maxRecDepth 100000 in
set_option maxHeartbeats 2000000 in
theorem wX12_qDoing_0 {E : EV} {h : Int} {M : Mem} {Q : Option MV → Mem → Prop} {v1 : Int} {v2 : Int}  (H : (G h M → TG E miX12_qDoing 5 h Q 5 [(2, 66), (0, v1), (0, v2), (0, 0), (0, 0)] [] M)) : G h M → TG E miX12_qDoing 5 h Q 0 [(2, 66), (0, v1), (0, v2), (3, 0), (3, 0)] [] M := by
  intro hG
  refine T_iconst (pc' := 1) dX12_qDoing_0 (by decide) rfl ?_
  refine T_istore_n (i := 3) (L' := [(2, 66), (0, v1), (0, v2), (0, 0), (3, 0)]) (pc' := 2) dX12_qDoing_1 rfl (by decide) rfl rfl ?_
  refine T_iconst (pc' := 3) dX12_qDoing_2 (by decide) rfl ?_
  refine T_istore (i := 4) (L' := [(2, 66), (0, v1), (0, v2), (0, 0), (0, 0)]) (pc' := 5) dX12_qDoing_3 (by decide) rfl rfl ?_
  exact T_wk (H hG) ⟨Or.inr rfl, Or.inr rfl, Or.inr rfl, Or.inr rfl, Or.inr rfl, trivial⟩
set_option maxRecDepth 100000 in
set_option maxHeartbeats 2000000 in
theorem wX12_qDoing_5 {E : EV} {h : Int} {M : Mem} {Q : Option MV → Mem → Prop} {v1 : Int} {v2 : Int} {v3 : Int} {v4 : Int}  (H : (((fX12_peopleMany M) ≤ v4 → Q (some (1, v3)) M) ∧ (¬ ((fX12_peopleMany M) ≤ v4) → (nX12_qDoes M v4 v2) ∧ (G h M → TG E miX12_qDoing 5 h Q 5 [(2, 66), (0, v1), (0, v2), (0, (if (fX12_qDoes M v4 v2) = v1 then (wr32 (v3 + 1)) else v3)), (0, (wr32 (v4 + 1)))] [] M)))) : G h M → TG E miX12_qDoing 5 h Q 5 [(2, 66), (0, v1), (0, v2), (0, v3), (0, v4)] [] M := by
  intro hG
  refine T_iload (i := 4) (pc' := 7) dX12_qDoing_5 rfl rfl ?_
  refine T_aload_n (i := 0) (pc' := 8) dX12_qDoing_7 rfl rfl rfl ?_
  refine T_callV (av := []) (st := [(0, v4)]) (d2 := 1) (nc2 := 0) (ns2 := 0) (pc' := 11) dX12_qDoing_8 rfl mtX12_peopleMany mvX12_peopleMany mlX12_349 cl12 rfl rfl rfl (Nat.le_of_ble_eq_true rfl) (by decide) ⟨by decide, by decide⟩ rfl (pX12_peopleMany (E := E) (h := h) (M := M) hG) (kF (st2 := [(0, (fX12_peopleMany M)), (0, v4)]) rfl (fun hG1 => ?_))
  refine T_icmp_ge (pc' := 34) dX12_qDoing_11 (by decide) (pf := 14) rfl (fun c2 => ?_) (fun c2 => ?_)
  · skip
    replace H := H.1 c2
    refine T_iload_n (i := 3) (pc' := 35) dX12_qDoing_34 rfl rfl rfl ?_
    refine T_i2l (pc' := 36) dX12_qDoing_35 rfl ?_
    exact T_lret dX12_qDoing_36 rfl ⟨rfl, hG, H⟩
  · skip
    replace H := H.2 c2
    refine T_aload_n (i := 0) (pc' := 15) dX12_qDoing_14 rfl rfl rfl ?_
    refine T_iload (i := 4) (pc' := 17) dX12_qDoing_15 rfl rfl ?_
    refine T_iload_n (i := 2) (pc' := 18) dX12_qDoing_17 rfl rfl rfl ?_
    obtain ⟨z3, H⟩ := H
    refine T_callV (av := [(0, v4), (0, v2)]) (st := []) (d2 := 4) (nc2 := 0) (ns2 := 0) (pc' := 21) dX12_qDoing_18 rfl mtX12_qDoes mvX12_qDoes mlX12_606 cl12 rfl rfl rfl (Nat.le_of_ble_eq_true rfl) (by decide) ⟨by decide, by decide⟩ rfl (pX12_qDoes (E := E) (h := h) (M := M) (v1 := v4) (v2 := v2) z3 hG) (kF (st2 := [(0, (fX12_qDoes M v4 v2))]) rfl (fun hG4 => ?_))
    refine T_iload_n (i := 1) (pc' := 22) dX12_qDoing_21 rfl rfl rfl ?_
    have HJ5 : T E miX12_qDoing 5 126 0 0 (fun r S M' => S = S0 ∧ G h M' ∧ Q r M') 28 [(2, 66), (0, v1), (0, v2), (0, (if (fX12_qDoes M v4 v2) = v1 then (wr32 (v3 + 1)) else v3)), (0, v4)] [] S0 M 0 0 := by
      refine T_iinc (L' := [(2, 66), (0, v1), (0, v2), (0, (if (fX12_qDoes M v4 v2) = v1 then (wr32 (v3 + 1)) else v3)), (0, (wr32 (v4 + 1)))]) (pc' := 31) dX12_qDoing_28 rfl (by decide) rfl rfl ?_
      refine T_goto (pc' := 5) dX12_qDoing_31 (by decide) ?_
      exact T_wk (H hG) ⟨Or.inr rfl, Or.inr rfl, Or.inr rfl, Or.inr rfl, Or.inr rfl, trivial⟩
    refine T_icmp_ne (pc' := 28) dX12_qDoing_22 (by decide) (pf := 25) rfl (fun c6 => ?_) (fun c6 => ?_)
    · skip
      exact T_wk (L' := [(2, 66), (0, v1), (0, v2), (0, v3), (0, v4)]) (by have q := HJ5; try simp only [if_neg c6] at q; exact q) ⟨Or.inr rfl, Or.inr rfl, Or.inr rfl, Or.inr rfl, Or.inr rfl, trivial⟩
    · skip
      refine T_iinc (L' := [(2, 66), (0, v1), (0, v2), (0, (wr32 (v3 + 1))), (0, v4)]) (pc' := 28) dX12_qDoing_25 rfl (by decide) rfl rfl ?_
      exact T_wk (L' := [(2, 66), (0, v1), (0, v2), (0, (wr32 (v3 + 1))), (0, v4)]) (by have q := HJ5; try simp only [if_pos c6] at q; exact q) ⟨Or.inr rfl, Or.inr rfl, Or.inr rfl, Or.inr rfl, Or.inr rfl, trivial⟩
theorem eX12_qDoing {E : EV} {h : Int} {M : Mem} {Q : Option MV → Mem → Prop} {v1 : Int} {v2 : Int} (H : G h M → TG E miX12_qDoing 5 h Q 0 [(2, 66), (0, v1), (0, v2), (3, 0), (3, 0)] [] M) : C2 E miX12_qDoing 5 h [(2, 66), (0, v1), (0, v2)] M Q :=
  C2_of (by decide +kernel) (Nat.le_of_ble_eq_true rfl) rfl H
set_option maxRecDepth 100000 in
set_option maxHeartbeats 2000000 in
theorem wX12_checked_0 {E : EV} {h : Int} {M : Mem} {Q : Option MV → Mem → Prop} {p0 : Int} {np0 : Nat} {v1 : Int} (h0p0 : 0 ≤ p0) (hSp0 : S0[p0.toNat]? = some (0, 0, np0)) (hnp0 : np0 < 2147483648) (H : (G h M → TG E miX12_checked 1 h Q 6 [(2, p0), (0, v1), (0, 151), (0, 0)] [] M)) : G h M → TG E miX12_checked 1 h Q 0 [(2, p0), (0, v1), (3, 0), (3, 0)] [] M := by
  intro hG
  refine T_sipush (pc' := 3) dX12_checked_0 rfl (by decide) rfl ?_
  refine T_istore_n (i := 2) (L' := [(2, p0), (0, v1), (0, 151), (3, 0)]) (pc' := 4) dX12_checked_3 rfl (by decide) rfl rfl ?_
  refine T_iconst (pc' := 5) dX12_checked_4 (by decide) rfl ?_
  refine T_istore_n (i := 3) (L' := [(2, p0), (0, v1), (0, 151), (0, 0)]) (pc' := 6) dX12_checked_5 rfl (by decide) rfl rfl ?_
  exact T_wk (H hG) ⟨Or.inr rfl, Or.inr rfl, Or.inr rfl, Or.inr rfl, trivial⟩
set_option maxRecDepth 100000 in
set_option maxHeartbeats 2000000 in
theorem wX12_checked_6 {E : EV} {h : Int} {M : Mem} {Q : Option MV → Mem → Prop} {p0 : Int} {np0 : Nat} {v1 : Int} {v2 : Int} {v3 : Int} (h0p0 : 0 ≤ p0) (hSp0 : S0[p0.toNat]? = some (0, 0, np0)) (hnp0 : np0 < 2147483648) (H : ((v1 ≤ v3 → Q (some (0, v2)) M) ∧ (¬ (v1 ≤ v3) → 0 ≤ v3 ∧ v3 < np0 ∧ (G h M → TG E miX12_checked 1 h Q 6 [(2, p0), (0, v1), (0, (Int.tmod (wr32 ((wr32 (3 * v2)) + (M p0 v3))) 253)), (0, (wr32 (v3 + 1)))] [] M)))) : G h M → TG E miX12_checked 1 h Q 6 [(2, p0), (0, v1), (0, v2), (0, v3)] [] M := by
  intro hG
  refine T_iload_n (i := 3) (pc' := 7) dX12_checked_6 rfl rfl rfl ?_
  refine T_iload_n (i := 1) (pc' := 8) dX12_checked_7 rfl rfl rfl ?_
  refine T_icmp_ge (pc' := 29) dX12_checked_8 (by decide) (pf := 11) rfl (fun c1 => ?_) (fun c1 => ?_)
  · skip
    replace H := H.1 c1
    refine T_iload_n (i := 2) (pc' := 30) dX12_checked_29 rfl rfl rfl ?_
    exact T_iret dX12_checked_30 rfl ⟨rfl, hG, H⟩
  · skip
    replace H := H.2 c1
    refine T_iconst (pc' := 12) dX12_checked_11 (by decide) rfl ?_
    refine T_iload_n (i := 2) (pc' := 13) dX12_checked_12 rfl rfl rfl ?_
    refine T_imul (pc' := 14) dX12_checked_13 rfl ?_
    refine T_aload_n (i := 0) (pc' := 15) dX12_checked_14 rfl rfl rfl ?_
    refine T_iload_n (i := 3) (pc' := 16) dX12_checked_15 rfl rfl rfl ?_
    obtain ⟨z1, z2, H⟩ := H
    refine T_iald (pc' := 17) dX12_checked_16 h0p0 hSp0 z1 z2 rfl ?_
    refine T_iadd (pc' := 18) dX12_checked_17 rfl ?_
    refine T_sipush (pc' := 21) dX12_checked_18 rfl (by decide) rfl ?_
    refine T_irem (pc' := 22) dX12_checked_21 (by decide) rfl ?_
    refine T_istore_n (i := 2) (L' := [(2, p0), (0, v1), (0, (Int.tmod (wr32 ((wr32 (3 * v2)) + (M p0 v3))) 253)), (0, v3)]) (pc' := 23) dX12_checked_22 rfl (by decide) rfl rfl ?_
    refine T_iinc (L' := [(2, p0), (0, v1), (0, (Int.tmod (wr32 ((wr32 (3 * v2)) + (M p0 v3))) 253)), (0, (wr32 (v3 + 1)))]) (pc' := 26) dX12_checked_23 rfl (by decide) rfl rfl ?_
    refine T_goto (pc' := 6) dX12_checked_26 (by decide) ?_
    exact T_wk (H hG) ⟨Or.inr rfl, Or.inr rfl, Or.inr rfl, Or.inr rfl, trivial⟩
theorem eX12_checked {E : EV} {h : Int} {M : Mem} {Q : Option MV → Mem → Prop} {p0 : Int} {np0 : Nat} {v1 : Int} (H : G h M → TG E miX12_checked 1 h Q 0 [(2, p0), (0, v1), (3, 0), (3, 0)] [] M) : C2 E miX12_checked 1 h [(2, p0), (0, v1)] M Q :=
  C2_of (by decide +kernel) (Nat.le_of_ble_eq_true rfl) rfl H
