/-! counted loops, by program -/
def lX1_wallCells_4 (g : Int) : Nat → Int → Int → Mem → Int
  | 0, v1, v2, M => v1
  | k + 1, v1, v2, M => (lX1_wallCells_4 g k (wr32 (v1 + (fX11_get M (g + 9) 54 v2))) (v2 + 1) M)
set_option maxRecDepth 100000 in
set_option maxHeartbeats 2000000 in
theorem qX1_wallCells_4 {E : EV} {h : Int} {Q : Option MV → Mem → Prop} {g : Int} (hg : isG g) : ∀ (k : Nat) (v1 v2 : Int) (M : Mem), 0 ≤ v2 → (((fX1_cells M g)) - v2).toNat = k → Q (some (0, (lX1_wallCells_4 g k v1 v2 M))) M → G h M → TG E miX1_wallCells 2 h Q 4 [(2, g), (0, v1), (0, v2)] [] M := by
  intro k
  induction k with
  | zero =>
    intro v1 v2 M hv0 hk hQ hG
    have hQ : Q (some (0, v1)) M := hQ
    refine T_iload_n (i := 2) (pc' := 5) dX1_wallCells_4 rfl rfl rfl ?_
    refine T_aload_n (i := 0) (pc' := 6) dX1_wallCells_5 rfl rfl rfl ?_
    refine T_callV (av := []) (st := [(0, v2)]) (d2 := 1) (nc2 := 0) (ns2 := 0) (pc' := 9) dX1_wallCells_6 rfl mtX1_cells mvX1_cells mlX1_85 cl1 (shg0 hg) rfl rfl (Nat.le_of_ble_eq_true rfl) (by decide) ⟨by decide, by decide⟩ rfl (pX1_cells (E := E) (h := h) (M := M) (g := g) hg hG) (kF (st2 := [(0, (fX1_cells M g)), (0, v2)]) rfl (fun hG1 => ?_))
    refine T_rng (fun _ z9 _ => ?_)
    have hB : r32 (fX1_cells M g) := (ok_cons.mp z9).1
    unfold r32 at hB
    refine T_icmp_ge (pc' := 29) dX1_wallCells_9 (by decide) (pf := 12) rfl (fun c2 => ?_) (fun c2 => ?_)
    · skip
      refine T_iload_n (i := 1) (pc' := 30) dX1_wallCells_29 rfl rfl rfl ?_
      exact T_iret dX1_wallCells_30 rfl ⟨rfl, hG, hQ⟩
    · exact absurd c2 (by omega)
  | succ k ih =>
    intro v1 v2 M hv0 hk hQ hG
    have hQ : Q (some (0, (lX1_wallCells_4 g k (wr32 (v1 + (fX11_get M (g + 9) 54 v2))) (v2 + 1) M))) M := hQ
    refine T_iload_n (i := 2) (pc' := 5) dX1_wallCells_4 rfl rfl rfl ?_
    refine T_aload_n (i := 0) (pc' := 6) dX1_wallCells_5 rfl rfl rfl ?_
    refine T_callV (av := []) (st := [(0, v2)]) (d2 := 1) (nc2 := 0) (ns2 := 0) (pc' := 9) dX1_wallCells_6 rfl mtX1_cells mvX1_cells mlX1_85 cl1 (shg0 hg) rfl rfl (Nat.le_of_ble_eq_true rfl) (by decide) ⟨by decide, by decide⟩ rfl (pX1_cells (E := E) (h := h) (M := M) (g := g) hg hG) (kF (st2 := [(0, (fX1_cells M g)), (0, v2)]) rfl (fun hG1 => ?_))
    refine T_rng (fun _ z9 _ => ?_)
    have hB : r32 (fX1_cells M g) := (ok_cons.mp z9).1
    unfold r32 at hB
    refine T_icmp_ge (pc' := 29) dX1_wallCells_9 (by decide) (pf := 12) rfl (fun c2 => ?_) (fun c2 => ?_)
    · exact absurd c2 (by omega)
    · skip
      have hw : wr32 (v2 + 1) = v2 + 1 := wr32_id (by unfold r32; omega)
      refine T_iload_n (i := 1) (pc' := 13) dX1_wallCells_12 rfl rfl rfl ?_
      refine T_aload_n (i := 0) (pc' := 14) dX1_wallCells_13 rfl rfl rfl ?_
      refine U_gr (q := (g + 9)) (k := 1) (kI := 1) (pc' := 17) dX1_wallCells_14 rfl cl1 (pog0 hg) (shg0 hg) (by decide) flX1_18 rfl rfl rfl (grg0_1 hg hG) (pog9 hg) rfl ?_
      refine T_iload_n (i := 2) (pc' := 18) dX1_wallCells_17 rfl rfl rfl ?_
      refine T_callSN (av := [(2, (g + 9)), (0, v2)]) (st := [(0, v1)]) (d2 := 1) (nc2 := 0) (ns2 := 0) (pc' := 21) dX1_wallCells_18 rfl mtX11_get mvX11_get mlX1_89 rfl rfl (Nat.le_of_ble_eq_true rfl) (by decide) ⟨by decide, by decide⟩ rfl (pX11_get (E := E) (h := h) (M := M) (p0 := (g + 9)) (np0 := 54) (v1 := v2) (pog9 hg) (shg9 hg) (by decide) hG) (kF (st2 := [(0, (fX11_get M (g + 9) 54 v2)), (0, v1)]) rfl (fun hG3 => ?_))
      refine T_iadd (pc' := 22) dX1_wallCells_21 rfl ?_
      refine T_istore_n (i := 1) (L' := [(2, g), (0, (wr32 (v1 + (fX11_get M (g + 9) 54 v2)))), (0, v2)]) (pc' := 23) dX1_wallCells_22 rfl (by decide) rfl rfl ?_
      refine T_iinc (L' := [(2, g), (0, (wr32 (v1 + (fX11_get M (g + 9) 54 v2)))), (0, (wr32 (v2 + 1)))]) (pc' := 26) dX1_wallCells_23 rfl (by decide) rfl rfl ?_
      refine T_goto (pc' := 4) dX1_wallCells_26 (by decide) ?_
      rw [hw]
      exact T_wk (ih _ (v2 + 1) _ (by omega) (by omega) hQ hG) ⟨Or.inr rfl, Or.inr rfl, Or.inr rfl, trivial⟩
def fX1_wallCells (M : Mem) (g : Int) : Int :=
  (lX1_wallCells_4 g ((((fX1_cells M g)) : Int) - 0).toNat 0 0 M)
set_option maxRecDepth 100000 in
theorem pX1_wallCells {E : EV} {h : Int} {M : Mem} {g : Int} (hg : isG g) : C2 E miX1_wallCells 2 h [(2, g)] M (fun r M' => r = some (0, (fX1_wallCells M g)) ∧ M' = M) := by
  obtain ⟨Q, hQ0⟩ : ∃ Q : Option MV → Mem → Prop, Q = (fun r M' => r = some (0, (fX1_wallCells M g)) ∧ M' = M) := ⟨_, rfl⟩
  rw [← hQ0]
  have hQ : Q (some (0, (lX1_wallCells_4 g ((((fX1_cells M g)) : Int) - 0).toNat 0 0 M))) M := by rw [hQ0]; exact ⟨rfl, rfl⟩
  refine C2_of (L := [(2, g), (3, 0), (3, 0)]) (by decide +kernel) (Nat.le_of_ble_eq_true rfl) rfl (fun hG => ?_)
  refine T_iconst (pc' := 1) dX1_wallCells_0 (by decide) rfl ?_
  refine T_istore_n (i := 1) (L' := [(2, g), (0, 0), (3, 0)]) (pc' := 2) dX1_wallCells_1 rfl (by decide) rfl rfl ?_
  refine T_iconst (pc' := 3) dX1_wallCells_2 (by decide) rfl ?_
  refine T_istore_n (i := 2) (L' := [(2, g), (0, 0), (0, 0)]) (pc' := 4) dX1_wallCells_3 rfl (by decide) rfl rfl ?_
  exact T_wk (qX1_wallCells_4 hg _ 0 0 _ (by first | decide | omega) rfl hQ hG) ⟨Or.inr rfl, Or.inr rfl, Or.inr rfl, trivial⟩
def lX1_closedDoors_4 (g : Int) : Nat → Int → Int → Mem → Int
  | 0, v1, v2, M => v1
  | k + 1, v1, v2, M => (lX1_closedDoors_4 g k (wr32 (v1 + (fX11_get M (g + 11) 6 v2))) (v2 + 1) M)
set_option maxRecDepth 100000 in
set_option maxHeartbeats 2000000 in
theorem qX1_closedDoors_4 {E : EV} {h : Int} {Q : Option MV → Mem → Prop} {g : Int} (hg : isG g) : ∀ (k : Nat) (v1 v2 : Int) (M : Mem), 0 ≤ v2 → (((M g 12)) - v2).toNat = k → Q (some (0, (lX1_closedDoors_4 g k v1 v2 M))) M → G h M → TG E miX1_closedDoors 2 h Q 4 [(2, g), (0, v1), (0, v2)] [] M := by
  intro k
  induction k with
  | zero =>
    intro v1 v2 M hv0 hk hQ hG
    have hQ : Q (some (0, v1)) M := hQ
    refine T_iload_n (i := 2) (pc' := 5) dX1_closedDoors_4 rfl rfl rfl ?_
    refine T_aload_n (i := 0) (pc' := 6) dX1_closedDoors_5 rfl rfl rfl ?_
    refine U_gf (v := (0, (M g 12))) (k := 12) (kI := 12) (pc' := 9) dX1_closedDoors_6 rfl cl1 (pog0 hg) (shg0 hg) (by decide) flX1_67 rfl rfl (by decide) rfl rfl ?_
    refine T_rng (fun _ z9 _ => ?_)
    have hB : r32 (M g 12) := (ok_cons.mp z9).1
    unfold r32 at hB
    refine T_icmp_ge (pc' := 29) dX1_closedDoors_9 (by decide) (pf := 12) rfl (fun c1 => ?_) (fun c1 => ?_)
    · skip
      refine T_iload_n (i := 1) (pc' := 30) dX1_closedDoors_29 rfl rfl rfl ?_
      exact T_iret dX1_closedDoors_30 rfl ⟨rfl, hG, hQ⟩
    · exact absurd c1 (by omega)
  | succ k ih =>
    intro v1 v2 M hv0 hk hQ hG
    have hQ : Q (some (0, (lX1_closedDoors_4 g k (wr32 (v1 + (fX11_get M (g + 11) 6 v2))) (v2 + 1) M))) M := hQ
    refine T_iload_n (i := 2) (pc' := 5) dX1_closedDoors_4 rfl rfl rfl ?_
    refine T_aload_n (i := 0) (pc' := 6) dX1_closedDoors_5 rfl rfl rfl ?_
    refine U_gf (v := (0, (M g 12))) (k := 12) (kI := 12) (pc' := 9) dX1_closedDoors_6 rfl cl1 (pog0 hg) (shg0 hg) (by decide) flX1_67 rfl rfl (by decide) rfl rfl ?_
    refine T_rng (fun _ z9 _ => ?_)
    have hB : r32 (M g 12) := (ok_cons.mp z9).1
    unfold r32 at hB
    refine T_icmp_ge (pc' := 29) dX1_closedDoors_9 (by decide) (pf := 12) rfl (fun c1 => ?_) (fun c1 => ?_)
    · exact absurd c1 (by omega)
    · skip
      have hw : wr32 (v2 + 1) = v2 + 1 := wr32_id (by unfold r32; omega)
      refine T_iload_n (i := 1) (pc' := 13) dX1_closedDoors_12 rfl rfl rfl ?_
      refine T_aload_n (i := 0) (pc' := 14) dX1_closedDoors_13 rfl rfl rfl ?_
      refine U_gr (q := (g + 11)) (k := 3) (kI := 3) (pc' := 17) dX1_closedDoors_14 rfl cl1 (pog0 hg) (shg0 hg) (by decide) flX1_25 rfl rfl rfl (grg0_3 hg hG) (pog11 hg) rfl ?_
      refine T_iload_n (i := 2) (pc' := 18) dX1_closedDoors_17 rfl rfl rfl ?_
      refine T_callSN (av := [(2, (g + 11)), (0, v2)]) (st := [(0, v1)]) (d2 := 1) (nc2 := 0) (ns2 := 0) (pc' := 21) dX1_closedDoors_18 rfl mtX11_get mvX11_get mlX1_89 rfl rfl (Nat.le_of_ble_eq_true rfl) (by decide) ⟨by decide, by decide⟩ rfl (pX11_get (E := E) (h := h) (M := M) (p0 := (g + 11)) (np0 := 6) (v1 := v2) (pog11 hg) (shg11 hg) (by decide) hG) (kF (st2 := [(0, (fX11_get M (g + 11) 6 v2)), (0, v1)]) rfl (fun hG2 => ?_))
      refine T_iadd (pc' := 22) dX1_closedDoors_21 rfl ?_
      refine T_istore_n (i := 1) (L' := [(2, g), (0, (wr32 (v1 + (fX11_get M (g + 11) 6 v2)))), (0, v2)]) (pc' := 23) dX1_closedDoors_22 rfl (by decide) rfl rfl ?_
      refine T_iinc (L' := [(2, g), (0, (wr32 (v1 + (fX11_get M (g + 11) 6 v2)))), (0, (wr32 (v2 + 1)))]) (pc' := 26) dX1_closedDoors_23 rfl (by decide) rfl rfl ?_
      refine T_goto (pc' := 4) dX1_closedDoors_26 (by decide) ?_
      rw [hw]
      exact T_wk (ih _ (v2 + 1) _ (by omega) (by omega) hQ hG) ⟨Or.inr rfl, Or.inr rfl, Or.inr rfl, trivial⟩
def fX1_closedDoors (M : Mem) (g : Int) : Int :=
  (lX1_closedDoors_4 g ((((M g 12)) : Int) - 0).toNat 0 0 M)
set_option maxRecDepth 100000 in
theorem pX1_closedDoors {E : EV} {h : Int} {M : Mem} {g : Int} (hg : isG g) : C2 E miX1_closedDoors 2 h [(2, g)] M (fun r M' => r = some (0, (fX1_closedDoors M g)) ∧ M' = M) := by
  obtain ⟨Q, hQ0⟩ : ∃ Q : Option MV → Mem → Prop, Q = (fun r M' => r = some (0, (fX1_closedDoors M g)) ∧ M' = M) := ⟨_, rfl⟩
  rw [← hQ0]
  have hQ : Q (some (0, (lX1_closedDoors_4 g ((((M g 12)) : Int) - 0).toNat 0 0 M))) M := by rw [hQ0]; exact ⟨rfl, rfl⟩
  refine C2_of (L := [(2, g), (3, 0), (3, 0)]) (by decide +kernel) (Nat.le_of_ble_eq_true rfl) rfl (fun hG => ?_)
  refine T_iconst (pc' := 1) dX1_closedDoors_0 (by decide) rfl ?_
  refine T_istore_n (i := 1) (L' := [(2, g), (0, 0), (3, 0)]) (pc' := 2) dX1_closedDoors_1 rfl (by decide) rfl rfl ?_
  refine T_iconst (pc' := 3) dX1_closedDoors_2 (by decide) rfl ?_
  refine T_istore_n (i := 2) (L' := [(2, g), (0, 0), (0, 0)]) (pc' := 4) dX1_closedDoors_3 rfl (by decide) rfl rfl ?_
  exact T_wk (qX1_closedDoors_4 hg _ 0 0 _ (by first | decide | omega) rfl hQ hG) ⟨Or.inr rfl, Or.inr rfl, Or.inr rfl, trivial⟩
def lX1_doorIn_2 (g : Int) : Nat → Int → Int → Mem → Int
  | 0, v1, v2, M => (-1)
  | k + 1, v1, v2, M => (if (fX11_get M (g + 10) 6 v2) = v1 then v2 else (lX1_doorIn_2 g k v1 (v2 + 1) M))
set_option maxRecDepth 100000 in
set_option maxHeartbeats 2000000 in
theorem qX1_doorIn_2 {E : EV} {h : Int} {Q : Option MV → Mem → Prop} {g : Int} (hg : isG g) : ∀ (k : Nat) (v1 v2 : Int) (M : Mem), 0 ≤ v2 → (((M g 12)) - v2).toNat = k → Q (some (0, (lX1_doorIn_2 g k v1 v2 M))) M → G h M → TG E miX1_doorIn 2 h Q 2 [(2, g), (0, v1), (0, v2)] [] M := by
  intro k
  induction k with
  | zero =>
    intro v1 v2 M hv0 hk hQ hG
    have hQ : Q (some (0, (-1))) M := hQ
    refine T_iload_n (i := 2) (pc' := 3) dX1_doorIn_2 rfl rfl rfl ?_
    refine T_aload_n (i := 0) (pc' := 4) dX1_doorIn_3 rfl rfl rfl ?_
    refine U_gf (v := (0, (M g 12))) (k := 12) (kI := 12) (pc' := 7) dX1_doorIn_4 rfl cl1 (pog0 hg) (shg0 hg) (by decide) flX1_67 rfl rfl (by decide) rfl rfl ?_
    refine T_rng (fun _ z9 _ => ?_)
    have hB : r32 (M g 12) := (ok_cons.mp z9).1
    unfold r32 at hB
    refine T_icmp_ge (pc' := 30) dX1_doorIn_7 (by decide) (pf := 10) rfl (fun c1 => ?_) (fun c1 => ?_)
    · skip
      refine T_iconst (pc' := 31) dX1_doorIn_30 (by decide) rfl ?_
      exact T_iret dX1_doorIn_31 rfl ⟨rfl, hG, hQ⟩
    · exact absurd c1 (by omega)
  | succ k ih =>
    intro v1 v2 M hv0 hk hQ hG
    have hQ : Q (some (0, (if (fX11_get M (g + 10) 6 v2) = v1 then v2 else (lX1_doorIn_2 g k v1 (v2 + 1) M)))) M := hQ
    refine T_iload_n (i := 2) (pc' := 3) dX1_doorIn_2 rfl rfl rfl ?_
    refine T_aload_n (i := 0) (pc' := 4) dX1_doorIn_3 rfl rfl rfl ?_
    refine U_gf (v := (0, (M g 12))) (k := 12) (kI := 12) (pc' := 7) dX1_doorIn_4 rfl cl1 (pog0 hg) (shg0 hg) (by decide) flX1_67 rfl rfl (by decide) rfl rfl ?_
    refine T_rng (fun _ z9 _ => ?_)
    have hB : r32 (M g 12) := (ok_cons.mp z9).1
    unfold r32 at hB
    refine T_icmp_ge (pc' := 30) dX1_doorIn_7 (by decide) (pf := 10) rfl (fun c1 => ?_) (fun c1 => ?_)
    · exact absurd c1 (by omega)
    · skip
      have hw : wr32 (v2 + 1) = v2 + 1 := wr32_id (by unfold r32; omega)
      refine T_aload_n (i := 0) (pc' := 11) dX1_doorIn_10 rfl rfl rfl ?_
      refine U_gr (q := (g + 10)) (k := 2) (kI := 2) (pc' := 14) dX1_doorIn_11 rfl cl1 (pog0 hg) (shg0 hg) (by decide) flX1_22 rfl rfl rfl (grg0_2 hg hG) (pog10 hg) rfl ?_
      refine T_iload_n (i := 2) (pc' := 15) dX1_doorIn_14 rfl rfl rfl ?_
      refine T_callSN (av := [(2, (g + 10)), (0, v2)]) (st := []) (d2 := 1) (nc2 := 0) (ns2 := 0) (pc' := 18) dX1_doorIn_15 rfl mtX11_get mvX11_get mlX1_89 rfl rfl (Nat.le_of_ble_eq_true rfl) (by decide) ⟨by decide, by decide⟩ rfl (pX11_get (E := E) (h := h) (M := M) (p0 := (g + 10)) (np0 := 6) (v1 := v2) (pog10 hg) (shg10 hg) (by decide) hG) (kF (st2 := [(0, (fX11_get M (g + 10) 6 v2))]) rfl (fun hG2 => ?_))
      refine T_iload_n (i := 1) (pc' := 19) dX1_doorIn_18 rfl rfl rfl ?_
      refine T_icmp_ne (pc' := 24) dX1_doorIn_19 (by decide) (pf := 22) rfl (fun c3 => ?_) (fun c3 => ?_)
      · skip
        refine T_iinc (L' := [(2, g), (0, v1), (0, (wr32 (v2 + 1)))]) (pc' := 27) dX1_doorIn_24 rfl (by decide) rfl rfl ?_
        refine T_goto (pc' := 2) dX1_doorIn_27 (by decide) ?_
        rw [hw]
        exact T_wk (ih _ (v2 + 1) _ (by omega) (by omega) (by have q := hQ; try simp only [if_neg c3] at q; exact q) hG) ⟨Or.inr rfl, Or.inr rfl, Or.inr rfl, trivial⟩
      · skip
        refine T_iload_n (i := 2) (pc' := 23) dX1_doorIn_22 rfl rfl rfl ?_
        exact T_iret dX1_doorIn_23 rfl ⟨rfl, hG, (by have q := hQ; try simp only [if_pos c3] at q; exact q)⟩
def fX1_doorIn (M : Mem) (g : Int) (v1 : Int) : Int :=
  (lX1_doorIn_2 g ((((M g 12)) : Int) - 0).toNat v1 0 M)
set_option maxRecDepth 100000 in
theorem pX1_doorIn {E : EV} {h : Int} {M : Mem} {g : Int} {v1 : Int} (hg : isG g) : C2 E miX1_doorIn 2 h [(2, g), (0, v1)] M (fun r M' => r = some (0, (fX1_doorIn M g v1)) ∧ M' = M) := by
  obtain ⟨Q, hQ0⟩ : ∃ Q : Option MV → Mem → Prop, Q = (fun r M' => r = some (0, (fX1_doorIn M g v1)) ∧ M' = M) := ⟨_, rfl⟩
  rw [← hQ0]
  have hQ : Q (some (0, (lX1_doorIn_2 g ((((M g 12)) : Int) - 0).toNat v1 0 M))) M := by rw [hQ0]; exact ⟨rfl, rfl⟩
  refine C2_of (L := [(2, g), (0, v1), (3, 0)]) (by decide +kernel) (Nat.le_of_ble_eq_true rfl) rfl (fun hG => ?_)
  refine T_iconst (pc' := 1) dX1_doorIn_0 (by decide) rfl ?_
  refine T_istore_n (i := 2) (L' := [(2, g), (0, v1), (0, 0)]) (pc' := 2) dX1_doorIn_1 rfl (by decide) rfl rfl ?_
  exact T_wk (qX1_doorIn_2 hg _ v1 0 _ (by first | decide | omega) rfl hQ hG) ⟨Or.inr rfl, Or.inr rfl, Or.inr rfl, trivial⟩
def lX1_isTaken_38 (g : Int) : Nat → Int → Int → Mem → Int
  | 0, v1, v2, M => 0
  | k + 1, v1, v2, M => (if (fX11_get M (g + 13) 4 v2) = v1 then 1 else (lX1_isTaken_38 g k v1 (v2 + 1) M))
set_option maxRecDepth 100000 in
set_option maxHeartbeats 2000000 in
theorem qX1_isTaken_38 {E : EV} {h : Int} {Q : Option MV → Mem → Prop} {g : Int} (hg : isG g) : ∀ (k : Nat) (v1 v2 : Int) (M : Mem), 0 ≤ v2 → (((M g 13)) - v2).toNat = k → Q (some (0, (lX1_isTaken_38 g k v1 v2 M))) M → G h M → TG E miX1_isTaken 2 h Q 38 [(2, g), (0, v1), (0, v2)] [] M := by
  intro k
  induction k with
  | zero =>
    intro v1 v2 M hv0 hk hQ hG
    have hQ : Q (some (0, 0)) M := hQ
    refine T_iload_n (i := 2) (pc' := 39) dX1_isTaken_38 rfl rfl rfl ?_
    refine T_aload_n (i := 0) (pc' := 40) dX1_isTaken_39 rfl rfl rfl ?_
    refine U_gf (v := (0, (M g 13))) (k := 13) (kI := 13) (pc' := 43) dX1_isTaken_40 rfl cl1 (pog0 hg) (shg0 hg) (by decide) flX1_70 rfl rfl (by decide) rfl rfl ?_
    refine T_rng (fun _ z9 _ => ?_)
    have hB : r32 (M g 13) := (ok_cons.mp z9).1
    unfold r32 at hB
    refine T_icmp_ge (pc' := 66) dX1_isTaken_43 (by decide) (pf := 46) rfl (fun c1 => ?_) (fun c1 => ?_)
    · skip
      refine T_iconst (pc' := 67) dX1_isTaken_66 (by decide) rfl ?_
      exact T_zret dX1_isTaken_67 rfl (by decide) ⟨rfl, hG, hQ⟩
    · exact absurd c1 (by omega)
  | succ k ih =>
    intro v1 v2 M hv0 hk hQ hG
    have hQ : Q (some (0, (if (fX11_get M (g + 13) 4 v2) = v1 then 1 else (lX1_isTaken_38 g k v1 (v2 + 1) M)))) M := hQ
    refine T_iload_n (i := 2) (pc' := 39) dX1_isTaken_38 rfl rfl rfl ?_
    refine T_aload_n (i := 0) (pc' := 40) dX1_isTaken_39 rfl rfl rfl ?_
    refine U_gf (v := (0, (M g 13))) (k := 13) (kI := 13) (pc' := 43) dX1_isTaken_40 rfl cl1 (pog0 hg) (shg0 hg) (by decide) flX1_70 rfl rfl (by decide) rfl rfl ?_
    refine T_rng (fun _ z9 _ => ?_)
    have hB : r32 (M g 13) := (ok_cons.mp z9).1
    unfold r32 at hB
    refine T_icmp_ge (pc' := 66) dX1_isTaken_43 (by decide) (pf := 46) rfl (fun c1 => ?_) (fun c1 => ?_)
    · exact absurd c1 (by omega)
    · skip
      have hw : wr32 (v2 + 1) = v2 + 1 := wr32_id (by unfold r32; omega)
      refine T_aload_n (i := 0) (pc' := 47) dX1_isTaken_46 rfl rfl rfl ?_
      refine U_gr (q := (g + 13)) (k := 5) (kI := 5) (pc' := 50) dX1_isTaken_47 rfl cl1 (pog0 hg) (shg0 hg) (by decide) flX1_31 rfl rfl rfl (grg0_5 hg hG) (pog13 hg) rfl ?_
      refine T_iload_n (i := 2) (pc' := 51) dX1_isTaken_50 rfl rfl rfl ?_
      refine T_callSN (av := [(2, (g + 13)), (0, v2)]) (st := []) (d2 := 1) (nc2 := 0) (ns2 := 0) (pc' := 54) dX1_isTaken_51 rfl mtX11_get mvX11_get mlX1_89 rfl rfl (Nat.le_of_ble_eq_true rfl) (by decide) ⟨by decide, by decide⟩ rfl (pX11_get (E := E) (h := h) (M := M) (p0 := (g + 13)) (np0 := 4) (v1 := v2) (pog13 hg) (shg13 hg) (by decide) hG) (kF (st2 := [(0, (fX11_get M (g + 13) 4 v2))]) rfl (fun hG2 => ?_))
      refine T_iload_n (i := 1) (pc' := 55) dX1_isTaken_54 rfl rfl rfl ?_
      refine T_icmp_ne (pc' := 60) dX1_isTaken_55 (by decide) (pf := 58) rfl (fun c3 => ?_) (fun c3 => ?_)
      · skip
        refine T_iinc (L' := [(2, g), (0, v1), (0, (wr32 (v2 + 1)))]) (pc' := 63) dX1_isTaken_60 rfl (by decide) rfl rfl ?_
        refine T_goto (pc' := 38) dX1_isTaken_63 (by decide) ?_
        rw [hw]
        exact T_wk (ih _ (v2 + 1) _ (by omega) (by omega) (by have q := hQ; try simp only [if_neg c3] at q; exact q) hG) ⟨Or.inr rfl, Or.inr rfl, Or.inr rfl, trivial⟩
      · skip
        refine T_iconst (pc' := 59) dX1_isTaken_58 (by decide) rfl ?_
        exact T_zret dX1_isTaken_59 rfl (by decide) ⟨rfl, hG, (by have q := hQ; try simp only [if_pos c3] at q; exact q)⟩
def lX1_isTaken_2 (g : Int) : Nat → Int → Int → Mem → Int
  | 0, v1, v2, M => (lX1_isTaken_38 g ((((M g 13)) : Int) - 0).toNat v1 0 M)
  | k + 1, v1, v2, M => (if (fX11_get M (g + 3) 9 v2) = v1 then 1 else (lX1_isTaken_2 g k v1 (v2 + 1) M))
set_option maxRecDepth 100000 in
set_option maxHeartbeats 2000000 in
theorem qX1_isTaken_2 {E : EV} {h : Int} {Q : Option MV → Mem → Prop} {g : Int} (hg : isG g) : ∀ (k : Nat) (v1 v2 : Int) (M : Mem), 0 ≤ v2 → (((M (g + 1) 8)) - v2).toNat = k → Q (some (0, (lX1_isTaken_2 g k v1 v2 M))) M → G h M → TG E miX1_isTaken 2 h Q 2 [(2, g), (0, v1), (0, v2)] [] M := by
  intro k
  induction k with
  | zero =>
    intro v1 v2 M hv0 hk hQ hG
    have hQ : Q (some (0, (lX1_isTaken_38 g ((((M g 13)) : Int) - 0).toNat v1 0 M))) M := hQ
    refine T_iload_n (i := 2) (pc' := 3) dX1_isTaken_2 rfl rfl rfl ?_
    refine T_aload_n (i := 0) (pc' := 4) dX1_isTaken_3 rfl rfl rfl ?_
    refine U_gr (q := (g + 1)) (k := 0) (kI := 0) (pc' := 7) dX1_isTaken_4 rfl cl1 (pog0 hg) (shg0 hg) (by decide) flX1_12 rfl rfl rfl (grg0_0 hg hG) (pog1 hg) rfl ?_
    refine U_gfN (v := (0, (M (g + 1) 8))) (k := 8) (kI := 8) (pc' := 10) dX1_isTaken_7 rfl cl4 (pog1 hg) (shg1 hg) (by decide) flX1_47 rfl rfl (by decide) rfl rfl ?_
    refine T_rng (fun _ z9 _ => ?_)
    have hB : r32 (M (g + 1) 8) := (ok_cons.mp z9).1
    unfold r32 at hB
    refine T_icmp_ge (pc' := 36) dX1_isTaken_10 (by decide) (pf := 13) rfl (fun c1 => ?_) (fun c1 => ?_)
    · skip
      refine T_iconst (pc' := 37) dX1_isTaken_36 (by decide) rfl ?_
      refine T_istore_n (i := 2) (L' := [(2, g), (0, v1), (0, 0)]) (pc' := 38) dX1_isTaken_37 rfl (by decide) rfl rfl ?_
      exact T_wk (qX1_isTaken_38 hg _ v1 0 _ (by first | decide | omega) rfl hQ hG) ⟨Or.inr rfl, Or.inr rfl, Or.inr rfl, trivial⟩
    · exact absurd c1 (by omega)
  | succ k ih =>
    intro v1 v2 M hv0 hk hQ hG
    have hQ : Q (some (0, (if (fX11_get M (g + 3) 9 v2) = v1 then 1 else (lX1_isTaken_2 g k v1 (v2 + 1) M)))) M := hQ
    refine T_iload_n (i := 2) (pc' := 3) dX1_isTaken_2 rfl rfl rfl ?_
    refine T_aload_n (i := 0) (pc' := 4) dX1_isTaken_3 rfl rfl rfl ?_
    refine U_gr (q := (g + 1)) (k := 0) (kI := 0) (pc' := 7) dX1_isTaken_4 rfl cl1 (pog0 hg) (shg0 hg) (by decide) flX1_12 rfl rfl rfl (grg0_0 hg hG) (pog1 hg) rfl ?_
    refine U_gfN (v := (0, (M (g + 1) 8))) (k := 8) (kI := 8) (pc' := 10) dX1_isTaken_7 rfl cl4 (pog1 hg) (shg1 hg) (by decide) flX1_47 rfl rfl (by decide) rfl rfl ?_
    refine T_rng (fun _ z9 _ => ?_)
    have hB : r32 (M (g + 1) 8) := (ok_cons.mp z9).1
    unfold r32 at hB
    refine T_icmp_ge (pc' := 36) dX1_isTaken_10 (by decide) (pf := 13) rfl (fun c1 => ?_) (fun c1 => ?_)
    · exact absurd c1 (by omega)
    · skip
      have hw : wr32 (v2 + 1) = v2 + 1 := wr32_id (by unfold r32; omega)
      refine T_aload_n (i := 0) (pc' := 14) dX1_isTaken_13 rfl rfl rfl ?_
      refine U_gr (q := (g + 1)) (k := 0) (kI := 0) (pc' := 17) dX1_isTaken_14 rfl cl1 (pog0 hg) (shg0 hg) (by decide) flX1_12 rfl rfl rfl (grg0_0 hg hG) (pog1 hg) rfl ?_
      refine U_grN (q := (g + 3)) (k := 1) (kI := 1) (pc' := 20) dX1_isTaken_17 rfl cl4 (pog1 hg) (shg1 hg) (by decide) flX1_97 rfl rfl rfl (grg1_1 hg hG) (pog3 hg) rfl ?_
      refine T_iload_n (i := 2) (pc' := 21) dX1_isTaken_20 rfl rfl rfl ?_
      refine T_callSN (av := [(2, (g + 3)), (0, v2)]) (st := []) (d2 := 1) (nc2 := 0) (ns2 := 0) (pc' := 24) dX1_isTaken_21 rfl mtX11_get mvX11_get mlX1_89 rfl rfl (Nat.le_of_ble_eq_true rfl) (by decide) ⟨by decide, by decide⟩ rfl (pX11_get (E := E) (h := h) (M := M) (p0 := (g + 3)) (np0 := 9) (v1 := v2) (pog3 hg) (shg3 hg) (by decide) hG) (kF (st2 := [(0, (fX11_get M (g + 3) 9 v2))]) rfl (fun hG2 => ?_))
      refine T_iload_n (i := 1) (pc' := 25) dX1_isTaken_24 rfl rfl rfl ?_
      refine T_icmp_ne (pc' := 30) dX1_isTaken_25 (by decide) (pf := 28) rfl (fun c3 => ?_) (fun c3 => ?_)
      · skip
        refine T_iinc (L' := [(2, g), (0, v1), (0, (wr32 (v2 + 1)))]) (pc' := 33) dX1_isTaken_30 rfl (by decide) rfl rfl ?_
        refine T_goto (pc' := 2) dX1_isTaken_33 (by decide) ?_
        rw [hw]
        exact T_wk (ih _ (v2 + 1) _ (by omega) (by omega) (by have q := hQ; try simp only [if_neg c3] at q; exact q) hG) ⟨Or.inr rfl, Or.inr rfl, Or.inr rfl, trivial⟩
      · skip
        refine T_iconst (pc' := 29) dX1_isTaken_28 (by decide) rfl ?_
        exact T_zret dX1_isTaken_29 rfl (by decide) ⟨rfl, hG, (by have q := hQ; try simp only [if_pos c3] at q; exact q)⟩
def fX1_isTaken (M : Mem) (g : Int) (v1 : Int) : Int :=
  (lX1_isTaken_2 g ((((M (g + 1) 8)) : Int) - 0).toNat v1 0 M)
set_option maxRecDepth 100000 in
theorem pX1_isTaken {E : EV} {h : Int} {M : Mem} {g : Int} {v1 : Int} (hg : isG g) : C2 E miX1_isTaken 2 h [(2, g), (0, v1)] M (fun r M' => r = some (0, (fX1_isTaken M g v1)) ∧ M' = M) := by
  obtain ⟨Q, hQ0⟩ : ∃ Q : Option MV → Mem → Prop, Q = (fun r M' => r = some (0, (fX1_isTaken M g v1)) ∧ M' = M) := ⟨_, rfl⟩
  rw [← hQ0]
  have hQ : Q (some (0, (lX1_isTaken_2 g ((((M (g + 1) 8)) : Int) - 0).toNat v1 0 M))) M := by rw [hQ0]; exact ⟨rfl, rfl⟩
  refine C2_of (L := [(2, g), (0, v1), (3, 0)]) (by decide +kernel) (Nat.le_of_ble_eq_true rfl) rfl (fun hG => ?_)
  refine T_iconst (pc' := 1) dX1_isTaken_0 (by decide) rfl ?_
  refine T_istore_n (i := 2) (L' := [(2, g), (0, v1), (0, 0)]) (pc' := 2) dX1_isTaken_1 rfl (by decide) rfl rfl ?_
  exact T_wk (qX1_isTaken_2 hg _ v1 0 _ (by first | decide | omega) rfl hQ hG) ⟨Or.inr rfl, Or.inr rfl, Or.inr rfl, trivial⟩
def lX1_hasName_38 (g : Int) : Nat → Int → Int → Mem → Int
  | 0, v1, v2, M => 0
  | k + 1, v1, v2, M => (if (fX11_get M (g + 12) 4 v2) = v1 then 1 else (lX1_hasName_38 g k v1 (v2 + 1) M))
set_option maxRecDepth 100000 in
set_option maxHeartbeats 2000000 in
theorem qX1_hasName_38 {E : EV} {h : Int} {Q : Option MV → Mem → Prop} {g : Int} (hg : isG g) : ∀ (k : Nat) (v1 v2 : Int) (M : Mem), 0 ≤ v2 → (((M g 13)) - v2).toNat = k → Q (some (0, (lX1_hasName_38 g k v1 v2 M))) M → G h M → TG E miX1_hasName 2 h Q 38 [(2, g), (0, v1), (0, v2)] [] M := by
  intro k
  induction k with
  | zero =>
    intro v1 v2 M hv0 hk hQ hG
    have hQ : Q (some (0, 0)) M := hQ
    refine T_iload_n (i := 2) (pc' := 39) dX1_hasName_38 rfl rfl rfl ?_
    refine T_aload_n (i := 0) (pc' := 40) dX1_hasName_39 rfl rfl rfl ?_
    refine U_gf (v := (0, (M g 13))) (k := 13) (kI := 13) (pc' := 43) dX1_hasName_40 rfl cl1 (pog0 hg) (shg0 hg) (by decide) flX1_70 rfl rfl (by decide) rfl rfl ?_
    refine T_rng (fun _ z9 _ => ?_)
    have hB : r32 (M g 13) := (ok_cons.mp z9).1
    unfold r32 at hB
    refine T_icmp_ge (pc' := 66) dX1_hasName_43 (by decide) (pf := 46) rfl (fun c1 => ?_) (fun c1 => ?_)
    · skip
      refine T_iconst (pc' := 67) dX1_hasName_66 (by decide) rfl ?_
      exact T_zret dX1_hasName_67 rfl (by decide) ⟨rfl, hG, hQ⟩
    · exact absurd c1 (by omega)
  | succ k ih =>
    intro v1 v2 M hv0 hk hQ hG
    have hQ : Q (some (0, (if (fX11_get M (g + 12) 4 v2) = v1 then 1 else (lX1_hasName_38 g k v1 (v2 + 1) M)))) M := hQ
    refine T_iload_n (i := 2) (pc' := 39) dX1_hasName_38 rfl rfl rfl ?_
    refine T_aload_n (i := 0) (pc' := 40) dX1_hasName_39 rfl rfl rfl ?_
    refine U_gf (v := (0, (M g 13))) (k := 13) (kI := 13) (pc' := 43) dX1_hasName_40 rfl cl1 (pog0 hg) (shg0 hg) (by decide) flX1_70 rfl rfl (by decide) rfl rfl ?_
    refine T_rng (fun _ z9 _ => ?_)
    have hB : r32 (M g 13) := (ok_cons.mp z9).1
    unfold r32 at hB
    refine T_icmp_ge (pc' := 66) dX1_hasName_43 (by decide) (pf := 46) rfl (fun c1 => ?_) (fun c1 => ?_)
    · exact absurd c1 (by omega)
    · skip
      have hw : wr32 (v2 + 1) = v2 + 1 := wr32_id (by unfold r32; omega)
      refine T_aload_n (i := 0) (pc' := 47) dX1_hasName_46 rfl rfl rfl ?_
      refine U_gr (q := (g + 12)) (k := 4) (kI := 4) (pc' := 50) dX1_hasName_47 rfl cl1 (pog0 hg) (shg0 hg) (by decide) flX1_28 rfl rfl rfl (grg0_4 hg hG) (pog12 hg) rfl ?_
      refine T_iload_n (i := 2) (pc' := 51) dX1_hasName_50 rfl rfl rfl ?_
      refine T_callSN (av := [(2, (g + 12)), (0, v2)]) (st := []) (d2 := 1) (nc2 := 0) (ns2 := 0) (pc' := 54) dX1_hasName_51 rfl mtX11_get mvX11_get mlX1_89 rfl rfl (Nat.le_of_ble_eq_true rfl) (by decide) ⟨by decide, by decide⟩ rfl (pX11_get (E := E) (h := h) (M := M) (p0 := (g + 12)) (np0 := 4) (v1 := v2) (pog12 hg) (shg12 hg) (by decide) hG) (kF (st2 := [(0, (fX11_get M (g + 12) 4 v2))]) rfl (fun hG2 => ?_))
      refine T_iload_n (i := 1) (pc' := 55) dX1_hasName_54 rfl rfl rfl ?_
      refine T_icmp_ne (pc' := 60) dX1_hasName_55 (by decide) (pf := 58) rfl (fun c3 => ?_) (fun c3 => ?_)
      · skip
        refine T_iinc (L' := [(2, g), (0, v1), (0, (wr32 (v2 + 1)))]) (pc' := 63) dX1_hasName_60 rfl (by decide) rfl rfl ?_
        refine T_goto (pc' := 38) dX1_hasName_63 (by decide) ?_
        rw [hw]
        exact T_wk (ih _ (v2 + 1) _ (by omega) (by omega) (by have q := hQ; try simp only [if_neg c3] at q; exact q) hG) ⟨Or.inr rfl, Or.inr rfl, Or.inr rfl, trivial⟩
      · skip
        refine T_iconst (pc' := 59) dX1_hasName_58 (by decide) rfl ?_
        exact T_zret dX1_hasName_59 rfl (by decide) ⟨rfl, hG, (by have q := hQ; try simp only [if_pos c3] at q; exact q)⟩
def lX1_hasName_2 (g : Int) : Nat → Int → Int → Mem → Int
  | 0, v1, v2, M => (lX1_hasName_38 g ((((M g 13)) : Int) - 0).toNat v1 0 M)
  | k + 1, v1, v2, M => (if (fX11_get M (g + 2) 9 v2) = v1 then 1 else (lX1_hasName_2 g k v1 (v2 + 1) M))
set_option maxRecDepth 100000 in
set_option maxHeartbeats 2000000 in
theorem qX1_hasName_2 {E : EV} {h : Int} {Q : Option MV → Mem → Prop} {g : Int} (hg : isG g) : ∀ (k : Nat) (v1 v2 : Int) (M : Mem), 0 ≤ v2 → (((M (g + 1) 8)) - v2).toNat = k → Q (some (0, (lX1_hasName_2 g k v1 v2 M))) M → G h M → TG E miX1_hasName 2 h Q 2 [(2, g), (0, v1), (0, v2)] [] M := by
  intro k
  induction k with
  | zero =>
    intro v1 v2 M hv0 hk hQ hG
    have hQ : Q (some (0, (lX1_hasName_38 g ((((M g 13)) : Int) - 0).toNat v1 0 M))) M := hQ
    refine T_iload_n (i := 2) (pc' := 3) dX1_hasName_2 rfl rfl rfl ?_
    refine T_aload_n (i := 0) (pc' := 4) dX1_hasName_3 rfl rfl rfl ?_
    refine U_gr (q := (g + 1)) (k := 0) (kI := 0) (pc' := 7) dX1_hasName_4 rfl cl1 (pog0 hg) (shg0 hg) (by decide) flX1_12 rfl rfl rfl (grg0_0 hg hG) (pog1 hg) rfl ?_
    refine U_gfN (v := (0, (M (g + 1) 8))) (k := 8) (kI := 8) (pc' := 10) dX1_hasName_7 rfl cl4 (pog1 hg) (shg1 hg) (by decide) flX1_47 rfl rfl (by decide) rfl rfl ?_
    refine T_rng (fun _ z9 _ => ?_)
    have hB : r32 (M (g + 1) 8) := (ok_cons.mp z9).1
    unfold r32 at hB
    refine T_icmp_ge (pc' := 36) dX1_hasName_10 (by decide) (pf := 13) rfl (fun c1 => ?_) (fun c1 => ?_)
    · skip
      refine T_iconst (pc' := 37) dX1_hasName_36 (by decide) rfl ?_
      refine T_istore_n (i := 2) (L' := [(2, g), (0, v1), (0, 0)]) (pc' := 38) dX1_hasName_37 rfl (by decide) rfl rfl ?_
      exact T_wk (qX1_hasName_38 hg _ v1 0 _ (by first | decide | omega) rfl hQ hG) ⟨Or.inr rfl, Or.inr rfl, Or.inr rfl, trivial⟩
    · exact absurd c1 (by omega)
  | succ k ih =>
    intro v1 v2 M hv0 hk hQ hG
    have hQ : Q (some (0, (if (fX11_get M (g + 2) 9 v2) = v1 then 1 else (lX1_hasName_2 g k v1 (v2 + 1) M)))) M := hQ
    refine T_iload_n (i := 2) (pc' := 3) dX1_hasName_2 rfl rfl rfl ?_
    refine T_aload_n (i := 0) (pc' := 4) dX1_hasName_3 rfl rfl rfl ?_
    refine U_gr (q := (g + 1)) (k := 0) (kI := 0) (pc' := 7) dX1_hasName_4 rfl cl1 (pog0 hg) (shg0 hg) (by decide) flX1_12 rfl rfl rfl (grg0_0 hg hG) (pog1 hg) rfl ?_
    refine U_gfN (v := (0, (M (g + 1) 8))) (k := 8) (kI := 8) (pc' := 10) dX1_hasName_7 rfl cl4 (pog1 hg) (shg1 hg) (by decide) flX1_47 rfl rfl (by decide) rfl rfl ?_
    refine T_rng (fun _ z9 _ => ?_)
    have hB : r32 (M (g + 1) 8) := (ok_cons.mp z9).1
    unfold r32 at hB
    refine T_icmp_ge (pc' := 36) dX1_hasName_10 (by decide) (pf := 13) rfl (fun c1 => ?_) (fun c1 => ?_)
    · exact absurd c1 (by omega)
    · skip
      have hw : wr32 (v2 + 1) = v2 + 1 := wr32_id (by unfold r32; omega)
      refine T_aload_n (i := 0) (pc' := 14) dX1_hasName_13 rfl rfl rfl ?_
      refine U_gr (q := (g + 1)) (k := 0) (kI := 0) (pc' := 17) dX1_hasName_14 rfl cl1 (pog0 hg) (shg0 hg) (by decide) flX1_12 rfl rfl rfl (grg0_0 hg hG) (pog1 hg) rfl ?_
      refine U_grN (q := (g + 2)) (k := 0) (kI := 0) (pc' := 20) dX1_hasName_17 rfl cl4 (pog1 hg) (shg1 hg) (by decide) flX1_100 rfl rfl rfl (grg1_0 hg hG) (pog2 hg) rfl ?_
      refine T_iload_n (i := 2) (pc' := 21) dX1_hasName_20 rfl rfl rfl ?_
      refine T_callSN (av := [(2, (g + 2)), (0, v2)]) (st := []) (d2 := 1) (nc2 := 0) (ns2 := 0) (pc' := 24) dX1_hasName_21 rfl mtX11_get mvX11_get mlX1_89 rfl rfl (Nat.le_of_ble_eq_true rfl) (by decide) ⟨by decide, by decide⟩ rfl (pX11_get (E := E) (h := h) (M := M) (p0 := (g + 2)) (np0 := 9) (v1 := v2) (pog2 hg) (shg2 hg) (by decide) hG) (kF (st2 := [(0, (fX11_get M (g + 2) 9 v2))]) rfl (fun hG2 => ?_))
      refine T_iload_n (i := 1) (pc' := 25) dX1_hasName_24 rfl rfl rfl ?_
      refine T_icmp_ne (pc' := 30) dX1_hasName_25 (by decide) (pf := 28) rfl (fun c3 => ?_) (fun c3 => ?_)
      · skip
        refine T_iinc (L' := [(2, g), (0, v1), (0, (wr32 (v2 + 1)))]) (pc' := 33) dX1_hasName_30 rfl (by decide) rfl rfl ?_
        refine T_goto (pc' := 2) dX1_hasName_33 (by decide) ?_
        rw [hw]
        exact T_wk (ih _ (v2 + 1) _ (by omega) (by omega) (by have q := hQ; try simp only [if_neg c3] at q; exact q) hG) ⟨Or.inr rfl, Or.inr rfl, Or.inr rfl, trivial⟩
      · skip
        refine T_iconst (pc' := 29) dX1_hasName_28 (by decide) rfl ?_
        exact T_zret dX1_hasName_29 rfl (by decide) ⟨rfl, hG, (by have q := hQ; try simp only [if_pos c3] at q; exact q)⟩
def fX1_hasName (M : Mem) (g : Int) (v1 : Int) : Int :=
  (lX1_hasName_2 g ((((M (g + 1) 8)) : Int) - 0).toNat v1 0 M)
set_option maxRecDepth 100000 in
theorem pX1_hasName {E : EV} {h : Int} {M : Mem} {g : Int} {v1 : Int} (hg : isG g) : C2 E miX1_hasName 2 h [(2, g), (0, v1)] M (fun r M' => r = some (0, (fX1_hasName M g v1)) ∧ M' = M) := by
  obtain ⟨Q, hQ0⟩ : ∃ Q : Option MV → Mem → Prop, Q = (fun r M' => r = some (0, (fX1_hasName M g v1)) ∧ M' = M) := ⟨_, rfl⟩
  rw [← hQ0]
  have hQ : Q (some (0, (lX1_hasName_2 g ((((M (g + 1) 8)) : Int) - 0).toNat v1 0 M))) M := by rw [hQ0]; exact ⟨rfl, rfl⟩
  refine C2_of (L := [(2, g), (0, v1), (3, 0)]) (by decide +kernel) (Nat.le_of_ble_eq_true rfl) rfl (fun hG => ?_)
  refine T_iconst (pc' := 1) dX1_hasName_0 (by decide) rfl ?_
  refine T_istore_n (i := 2) (L' := [(2, g), (0, v1), (0, 0)]) (pc' := 2) dX1_hasName_1 rfl (by decide) rfl rfl ?_
  exact T_wk (qX1_hasName_2 hg _ v1 0 _ (by first | decide | omega) rfl hQ hG) ⟨Or.inr rfl, Or.inr rfl, Or.inr rfl, trivial⟩
def lX1_cellsAround_5 (g : Int) : Nat → Int → Int → Int → Int → Mem → Int
  | 0, v1, v2, v3, v5, M => v3
  | k + 1, v1, v2, v3, v5, M => (lX1_cellsAround_5 g k v1 v2 (if v2 < (fX1_distance M g v1 v5) then v3 else (m_lor v3 (m_lshl 1 v5))) (v5 + 1) M)
set_option maxRecDepth 100000 in
set_option maxHeartbeats 2000000 in
theorem qX1_cellsAround_5 {E : EV} {h : Int} {Q : Option MV → Mem → Prop} {g : Int} (hg : isG g) : ∀ (k : Nat) (v1 v2 v3 v5 : Int) (M : Mem), 0 ≤ v5 → (((fX1_cells M g)) - v5).toNat = k → Q (some (1, (lX1_cellsAround_5 g k v1 v2 v3 v5 M))) M → G h M → TG E miX1_cellsAround 3 h Q 5 [(2, g), (0, v1), (0, v2), (1, v3), (3, 0), (0, v5)] [] M := by
  intro k
  induction k with
  | zero =>
    intro v1 v2 v3 v5 M hv0 hk hQ hG
    have hQ : Q (some (1, v3)) M := hQ
    refine T_iload (i := 5) (pc' := 7) dX1_cellsAround_5 rfl rfl ?_
    refine T_aload_n (i := 0) (pc' := 8) dX1_cellsAround_7 rfl rfl rfl ?_
    refine T_callV (av := []) (st := [(0, v5)]) (d2 := 1) (nc2 := 0) (ns2 := 0) (pc' := 11) dX1_cellsAround_8 rfl mtX1_cells mvX1_cells mlX1_85 cl1 (shg0 hg) rfl rfl (Nat.le_of_ble_eq_true rfl) (by decide) ⟨by decide, by decide⟩ rfl (pX1_cells (E := E) (h := h) (M := M) (g := g) hg hG) (kF (st2 := [(0, (fX1_cells M g)), (0, v5)]) rfl (fun hG1 => ?_))
    refine T_rng (fun _ z9 _ => ?_)
    have hB : r32 (fX1_cells M g) := (ok_cons.mp z9).1
    unfold r32 at hB
    refine T_icmp_ge (pc' := 38) dX1_cellsAround_11 (by decide) (pf := 14) rfl (fun c2 => ?_) (fun c2 => ?_)
    · skip
      refine T_lload_n (i := 3) (pc' := 39) dX1_cellsAround_38 rfl rfl rfl ?_
      exact T_lret dX1_cellsAround_39 rfl ⟨rfl, hG, hQ⟩
    · exact absurd c2 (by omega)
  | succ k ih =>
    intro v1 v2 v3 v5 M hv0 hk hQ hG
    have hQ : Q (some (1, (lX1_cellsAround_5 g k v1 v2 (if v2 < (fX1_distance M g v1 v5) then v3 else (m_lor v3 (m_lshl 1 v5))) (v5 + 1) M))) M := hQ
    refine T_iload (i := 5) (pc' := 7) dX1_cellsAround_5 rfl rfl ?_
    refine T_aload_n (i := 0) (pc' := 8) dX1_cellsAround_7 rfl rfl rfl ?_
    refine T_callV (av := []) (st := [(0, v5)]) (d2 := 1) (nc2 := 0) (ns2 := 0) (pc' := 11) dX1_cellsAround_8 rfl mtX1_cells mvX1_cells mlX1_85 cl1 (shg0 hg) rfl rfl (Nat.le_of_ble_eq_true rfl) (by decide) ⟨by decide, by decide⟩ rfl (pX1_cells (E := E) (h := h) (M := M) (g := g) hg hG) (kF (st2 := [(0, (fX1_cells M g)), (0, v5)]) rfl (fun hG1 => ?_))
    refine T_rng (fun _ z9 _ => ?_)
    have hB : r32 (fX1_cells M g) := (ok_cons.mp z9).1
    unfold r32 at hB
    refine T_icmp_ge (pc' := 38) dX1_cellsAround_11 (by decide) (pf := 14) rfl (fun c2 => ?_) (fun c2 => ?_)
    · exact absurd c2 (by omega)
    · skip
      have hw : wr32 (v5 + 1) = v5 + 1 := wr32_id (by unfold r32; omega)
      refine T_aload_n (i := 0) (pc' := 15) dX1_cellsAround_14 rfl rfl rfl ?_
      refine T_iload_n (i := 1) (pc' := 16) dX1_cellsAround_15 rfl rfl rfl ?_
      refine T_iload (i := 5) (pc' := 18) dX1_cellsAround_16 rfl rfl ?_
      refine T_callV (av := [(0, v1), (0, v5)]) (st := []) (d2 := 2) (nc2 := 0) (ns2 := 0) (pc' := 21) dX1_cellsAround_18 rfl mtX1_distance mvX1_distance mlX1_118 cl1 (shg0 hg) rfl rfl (Nat.le_of_ble_eq_true rfl) (by decide) ⟨by decide, by decide⟩ rfl (pX1_distance (E := E) (h := h) (M := M) (g := g) (v1 := v1) (v2 := v5) hg hG) (kF (st2 := [(0, (fX1_distance M g v1 v5))]) rfl (fun hG3 => ?_))
      refine T_iload_n (i := 2) (pc' := 22) dX1_cellsAround_21 rfl rfl rfl ?_
      have HJ4 : T E miX1_cellsAround 3 126 0 0 (fun r S M' => S = S0 ∧ G h M' ∧ Q r M') 32 [(2, g), (0, v1), (0, v2), (1, (if v2 < (fX1_distance M g v1 v5) then v3 else (m_lor v3 (m_lshl 1 v5)))), (3, 0), (0, v5)] [] S0 M 0 0 := by
        refine T_iinc (L' := [(2, g), (0, v1), (0, v2), (1, (if v2 < (fX1_distance M g v1 v5) then v3 else (m_lor v3 (m_lshl 1 v5)))), (3, 0), (0, (wr32 (v5 + 1)))]) (pc' := 35) dX1_cellsAround_32 rfl (by decide) rfl rfl ?_
        refine T_goto (pc' := 5) dX1_cellsAround_35 (by decide) ?_
        rw [hw]
        exact T_wk (ih _ _ _ (v5 + 1) _ (by omega) (by omega) hQ hG) ⟨Or.inr rfl, Or.inr rfl, Or.inr rfl, Or.inr rfl, Or.inl rfl, Or.inr rfl, trivial⟩
      refine T_icmp_gt (pc' := 32) dX1_cellsAround_22 (by decide) (pf := 25) rfl (fun c5 => ?_) (fun c5 => ?_)
      · skip
        exact T_wk (L' := [(2, g), (0, v1), (0, v2), (1, v3), (3, 0), (0, v5)]) (by have q := HJ4; try simp only [if_pos c5] at q; exact q) ⟨Or.inr rfl, Or.inr rfl, Or.inr rfl, Or.inr rfl, Or.inl rfl, Or.inr rfl, trivial⟩
      · skip
        refine T_lload_n (i := 3) (pc' := 26) dX1_cellsAround_25 rfl rfl rfl ?_
        refine T_lconst (v := 1) (pc' := 27) dX1_cellsAround_26 rfl (by decide) rfl ?_
        refine T_iload (i := 5) (pc' := 29) dX1_cellsAround_27 rfl rfl ?_
        refine T_lshl (pc' := 30) dX1_cellsAround_29 rfl ?_
        refine T_lor (pc' := 31) dX1_cellsAround_30 rfl ?_
        refine T_lstore_n (i := 3) (L' := [(2, g), (0, v1), (0, v2), (1, (m_lor v3 (m_lshl 1 v5))), (3, 0), (0, v5)]) (pc' := 32) dX1_cellsAround_31 rfl (by decide) rfl rfl ?_
        exact T_wk (L' := [(2, g), (0, v1), (0, v2), (1, (m_lor v3 (m_lshl 1 v5))), (3, 0), (0, v5)]) (by have q := HJ4; try simp only [if_neg c5] at q; exact q) ⟨Or.inr rfl, Or.inr rfl, Or.inr rfl, Or.inr rfl, Or.inl rfl, Or.inr rfl, trivial⟩
def fX1_cellsAround (M : Mem) (g : Int) (v1 : Int) (v2 : Int) : Int :=
  (lX1_cellsAround_5 g ((((fX1_cells M g)) : Int) - 0).toNat v1 v2 0 0 M)
set_option maxRecDepth 100000 in
theorem pX1_cellsAround {E : EV} {h : Int} {M : Mem} {g : Int} {v1 : Int} {v2 : Int} (hg : isG g) : C2 E miX1_cellsAround 3 h [(2, g), (0, v1), (0, v2)] M (fun r M' => r = some (1, (fX1_cellsAround M g v1 v2)) ∧ M' = M) := by
  obtain ⟨Q, hQ0⟩ : ∃ Q : Option MV → Mem → Prop, Q = (fun r M' => r = some (1, (fX1_cellsAround M g v1 v2)) ∧ M' = M) := ⟨_, rfl⟩
  rw [← hQ0]
  have hQ : Q (some (1, (lX1_cellsAround_5 g ((((fX1_cells M g)) : Int) - 0).toNat v1 v2 0 0 M))) M := by rw [hQ0]; exact ⟨rfl, rfl⟩
  refine C2_of (L := [(2, g), (0, v1), (0, v2), (3, 0), (3, 0), (3, 0)]) (by decide +kernel) (Nat.le_of_ble_eq_true rfl) rfl (fun hG => ?_)
  refine T_lconst (v := 0) (pc' := 1) dX1_cellsAround_0 rfl (by decide) rfl ?_
  refine T_lstore_n (i := 3) (L' := [(2, g), (0, v1), (0, v2), (1, 0), (3, 0), (3, 0)]) (pc' := 2) dX1_cellsAround_1 rfl (by decide) rfl rfl ?_
  refine T_iconst (pc' := 3) dX1_cellsAround_2 (by decide) rfl ?_
  refine T_istore (i := 5) (L' := [(2, g), (0, v1), (0, v2), (1, 0), (3, 0), (0, 0)]) (pc' := 5) dX1_cellsAround_3 (by decide) rfl rfl ?_
  exact T_wk (qX1_cellsAround_5 hg _ v1 v2 0 0 _ (by first | decide | omega) rfl hQ hG) ⟨Or.inr rfl, Or.inr rfl, Or.inr rfl, Or.inr rfl, Or.inl rfl, Or.inr rfl, trivial⟩
def lX1_isImage_26 (g : Int) : Nat → Int → Int → Int → Mem → Int
  | 0, v2, v3, v4, M => (if (fX8_byteAt M v2) = v3 then (1 : Int) else 0)
  | k + 1, v2, v3, v4, M => (if (if (M (g + 1) 8) ≤ (wr32 (Int.tdiv v4 3)) then (if (fX8_byteAt M v4) = 0 then (1 : Int) else (if (fX8_byteAt M v4) = 1 then (1 : Int) else 0)) else (fX1_mayBe M g (Int.tmod v4 3) (fX8_byteAt M v4))) = 0 then 0 else (lX1_isImage_26 g k v2 (fX1_checkWith v3 (fX8_byteAt M v4)) (v4 + 1) M))
set_option maxRecDepth 100000 in
set_option maxHeartbeats 2000000 in
theorem qX1_isImage_26 {E : EV} {h : Int} {Q : Option MV → Mem → Prop} {g : Int} (hg : isG g) : ∀ (k : Nat) (v2 v3 v4 : Int) (M : Mem), 0 ≤ v4 → ((v2) - v4).toNat = k → Q (some (0, (lX1_isImage_26 g k v2 v3 v4 M))) M → G h M → TG E miX1_isImage 4 h Q 26 [(2, g), (2, 1), (0, v2), (0, v3), (0, v4), (3, 0), (3, 0)] [] M := by
  intro k
  induction k with
  | zero =>
    intro v2 v3 v4 M hv0 hk hQ hG
    have hQ : Q (some (0, (if (fX8_byteAt M v2) = v3 then (1 : Int) else 0))) M := hQ
    refine T_iload (i := 4) (pc' := 28) dX1_isImage_26 rfl rfl ?_
    refine T_iload_n (i := 2) (pc' := 29) dX1_isImage_28 rfl rfl rfl ?_
    refine T_rng (fun _ z9 _ => ?_)
    have hB : r32 v2 := (ok_cons.mp z9).1
    unfold r32 at hB
    refine T_icmp_ge (pc' := 105) dX1_isImage_29 (by decide) (pf := 32) rfl (fun c1 => ?_) (fun c1 => ?_)
    · skip
      refine T_aload_n (i := 1) (pc' := 106) dX1_isImage_105 rfl rfl rfl ?_
      refine T_iload_n (i := 2) (pc' := 107) dX1_isImage_106 rfl rfl rfl ?_
      refine T_callV (av := [(0, v2)]) (st := []) (d2 := 1) (nc2 := 0) (ns2 := 0) (pc' := 110) dX1_isImage_107 rfl mtX8_byteAt mvX8_byteAt mlX1_140 cl8 rfl rfl rfl (Nat.le_of_ble_eq_true rfl) (by decide) ⟨by decide, by decide⟩ rfl (pX8_byteAt (E := E) (h := h) (M := M) (v1 := v2) hG) (kF (st2 := [(0, (fX8_byteAt M v2))]) rfl (fun hG2 => ?_))
      refine T_iload_n (i := 3) (pc' := 111) dX1_isImage_110 rfl rfl rfl ?_
      have HJ3 : T E miX1_isImage 4 126 0 0 (fun r S M' => S = S0 ∧ G h M' ∧ Q r M') 119 [(3, 0), (3, 0), (3, 0), (3, 0), (3, 0), (3, 0), (3, 0)] [(0, (if (fX8_byteAt M v2) = v3 then (1 : Int) else 0))] S0 M 0 0 := by
        exact T_zret dX1_isImage_119 rfl (by repeat' (first | apply bi | exact Or.inl rfl | exact Or.inr rfl | apply fbX1_mayBe)) ⟨rfl, hG, hQ⟩
      refine T_icmp_ne (pc' := 118) dX1_isImage_111 (by decide) (pf := 114) rfl (fun c4 => ?_) (fun c4 => ?_)
      · skip
        refine T_iconst (pc' := 119) dX1_isImage_118 (by decide) rfl ?_
        exact T_wk (L' := [(3, 0), (3, 0), (3, 0), (3, 0), (3, 0), (3, 0), (3, 0)]) (by have q := HJ3; try simp only [if_neg c4] at q; exact q) ⟨Or.inl rfl, Or.inl rfl, Or.inl rfl, Or.inl rfl, Or.inl rfl, Or.inl rfl, Or.inl rfl, trivial⟩
      · skip
        refine T_iconst (pc' := 115) dX1_isImage_114 (by decide) rfl ?_
        refine T_goto (pc' := 119) dX1_isImage_115 (by decide) ?_
        exact T_wk (L' := [(3, 0), (3, 0), (3, 0), (3, 0), (3, 0), (3, 0), (3, 0)]) (by have q := HJ3; try simp only [if_pos c4] at q; exact q) ⟨Or.inl rfl, Or.inl rfl, Or.inl rfl, Or.inl rfl, Or.inl rfl, Or.inl rfl, Or.inl rfl, trivial⟩
    · exact absurd c1 (by omega)
  | succ k ih =>
    intro v2 v3 v4 M hv0 hk hQ hG
    have hQ : Q (some (0, (if (if (M (g + 1) 8) ≤ (wr32 (Int.tdiv v4 3)) then (if (fX8_byteAt M v4) = 0 then (1 : Int) else (if (fX8_byteAt M v4) = 1 then (1 : Int) else 0)) else (fX1_mayBe M g (Int.tmod v4 3) (fX8_byteAt M v4))) = 0 then 0 else (lX1_isImage_26 g k v2 (fX1_checkWith v3 (fX8_byteAt M v4)) (v4 + 1) M)))) M := hQ
    refine T_iload (i := 4) (pc' := 28) dX1_isImage_26 rfl rfl ?_
    refine T_iload_n (i := 2) (pc' := 29) dX1_isImage_28 rfl rfl rfl ?_
    refine T_rng (fun _ z9 _ => ?_)
    have hB : r32 v2 := (ok_cons.mp z9).1
    unfold r32 at hB
    refine T_icmp_ge (pc' := 105) dX1_isImage_29 (by decide) (pf := 32) rfl (fun c1 => ?_) (fun c1 => ?_)
    · exact absurd c1 (by omega)
    · skip
      have hw : wr32 (v4 + 1) = v4 + 1 := wr32_id (by unfold r32; omega)
      refine T_aload_n (i := 1) (pc' := 33) dX1_isImage_32 rfl rfl rfl ?_
      refine T_iload (i := 4) (pc' := 35) dX1_isImage_33 rfl rfl ?_
      refine T_callV (av := [(0, v4)]) (st := []) (d2 := 1) (nc2 := 0) (ns2 := 0) (pc' := 38) dX1_isImage_35 rfl mtX8_byteAt mvX8_byteAt mlX1_140 cl8 rfl rfl rfl (Nat.le_of_ble_eq_true rfl) (by decide) ⟨by decide, by decide⟩ rfl (pX8_byteAt (E := E) (h := h) (M := M) (v1 := v4) hG) (kF (st2 := [(0, (fX8_byteAt M v4))]) rfl (fun hG5 => ?_))
      refine T_istore (i := 5) (L' := [(2, g), (2, 1), (0, v2), (0, v3), (0, v4), (0, (fX8_byteAt M v4)), (3, 0)]) (pc' := 40) dX1_isImage_38 (by decide) rfl rfl ?_
      refine T_iload (i := 4) (pc' := 42) dX1_isImage_40 rfl rfl ?_
      refine T_iconst (pc' := 43) dX1_isImage_42 (by decide) rfl ?_
      refine T_idiv (pc' := 44) dX1_isImage_43 (by decide) rfl ?_
      refine T_aload_n (i := 0) (pc' := 45) dX1_isImage_44 rfl rfl rfl ?_
      refine U_gr (q := (g + 1)) (k := 0) (kI := 0) (pc' := 48) dX1_isImage_45 rfl cl1 (pog0 hg) (shg0 hg) (by decide) flX1_12 rfl rfl rfl (grg0_0 hg hG) (pog1 hg) rfl ?_
      refine U_gfN (v := (0, (M (g + 1) 8))) (k := 8) (kI := 8) (pc' := 51) dX1_isImage_48 rfl cl4 (pog1 hg) (shg1 hg) (by decide) flX1_47 rfl rfl (by decide) rfl rfl ?_
      have HJ6 : T E miX1_isImage 4 126 0 0 (fun r S M' => S = S0 ∧ G h M' ∧ Q r M') 83 [(2, g), (2, 1), (0, v2), (0, v3), (0, v4), (0, (fX8_byteAt M v4)), (3, 0)] [(0, (if (M (g + 1) 8) ≤ (wr32 (Int.tdiv v4 3)) then (if (fX8_byteAt M v4) = 0 then (1 : Int) else (if (fX8_byteAt M v4) = 1 then (1 : Int) else 0)) else (fX1_mayBe M g (Int.tmod v4 3) (fX8_byteAt M v4))))] S0 M 0 0 := by
        refine T_istore (i := 6) (L' := [(2, g), (2, 1), (0, v2), (0, v3), (0, v4), (0, (fX8_byteAt M v4)), (0, (if (M (g + 1) 8) ≤ (wr32 (Int.tdiv v4 3)) then (if (fX8_byteAt M v4) = 0 then (1 : Int) else (if (fX8_byteAt M v4) = 1 then (1 : Int) else 0)) else (fX1_mayBe M g (Int.tmod v4 3) (fX8_byteAt M v4))))]) (pc' := 85) dX1_isImage_83 (by decide) rfl rfl ?_
        refine T_iload (i := 6) (pc' := 87) dX1_isImage_85 rfl rfl ?_
        refine T_if_ne (pc' := 92) dX1_isImage_87 (by decide) (pf := 90) rfl (fun c7 => ?_) (fun c7 => ?_)
        · skip
          refine T_iload_n (i := 3) (pc' := 93) dX1_isImage_92 rfl rfl rfl ?_
          refine T_iload (i := 5) (pc' := 95) dX1_isImage_93 rfl rfl ?_
          refine T_callS (av := [(0, v3), (0, (fX8_byteAt M v4))]) (st := []) (d2 := 1) (nc2 := 0) (ns2 := 0) (pc' := 98) dX1_isImage_95 rfl mtX1_checkWith mvX1_checkWith mlX1_132 rfl rfl (Nat.le_of_ble_eq_true rfl) (by decide) ⟨by decide, by decide⟩ rfl (pX1_checkWith (E := E) (h := h) (M := M) (v0 := v3) (v1 := (fX8_byteAt M v4)) hG) (kF (st2 := [(0, (fX1_checkWith v3 (fX8_byteAt M v4)))]) rfl (fun hG8 => ?_))
          refine T_istore_n (i := 3) (L' := [(2, g), (2, 1), (0, v2), (0, (fX1_checkWith v3 (fX8_byteAt M v4))), (0, v4), (0, (fX8_byteAt M v4)), (0, (if (M (g + 1) 8) ≤ (wr32 (Int.tdiv v4 3)) then (if (fX8_byteAt M v4) = 0 then (1 : Int) else (if (fX8_byteAt M v4) = 1 then (1 : Int) else 0)) else (fX1_mayBe M g (Int.tmod v4 3) (fX8_byteAt M v4))))]) (pc' := 99) dX1_isImage_98 rfl (by decide) rfl rfl ?_
          refine T_iinc (L' := [(2, g), (2, 1), (0, v2), (0, (fX1_checkWith v3 (fX8_byteAt M v4))), (0, (wr32 (v4 + 1))), (0, (fX8_byteAt M v4)), (0, (if (M (g + 1) 8) ≤ (wr32 (Int.tdiv v4 3)) then (if (fX8_byteAt M v4) = 0 then (1 : Int) else (if (fX8_byteAt M v4) = 1 then (1 : Int) else 0)) else (fX1_mayBe M g (Int.tmod v4 3) (fX8_byteAt M v4))))]) (pc' := 102) dX1_isImage_99 rfl (by decide) rfl rfl ?_
          refine T_goto (pc' := 26) dX1_isImage_102 (by decide) ?_
          rw [hw]
          exact T_wk (ih _ _ (v4 + 1) _ (by omega) (by omega) (by have q := hQ; try simp only [if_neg c7] at q; exact q) hG) ⟨Or.inr rfl, Or.inr rfl, Or.inr rfl, Or.inr rfl, Or.inr rfl, Or.inl rfl, Or.inl rfl, trivial⟩
        · skip
          refine T_iconst (pc' := 91) dX1_isImage_90 (by decide) rfl ?_
          exact T_zret dX1_isImage_91 rfl (by decide) ⟨rfl, hG, (by have q := hQ; try simp only [if_pos c7] at q; exact q)⟩
      refine T_icmp_ge (pc' := 67) dX1_isImage_51 (by decide) (pf := 54) rfl (fun c9 => ?_) (fun c9 => ?_)
      · skip
        refine T_iload (i := 5) (pc' := 69) dX1_isImage_67 rfl rfl ?_
        refine T_if_eq (pc' := 78) dX1_isImage_69 (by decide) (pf := 72) rfl (fun c10 => ?_) (fun c10 => ?_)
        · skip
          refine T_iconst (pc' := 79) dX1_isImage_78 (by decide) rfl ?_
          refine T_goto (pc' := 83) dX1_isImage_79 (by decide) ?_
          exact T_wk (L' := [(2, g), (2, 1), (0, v2), (0, v3), (0, v4), (0, (fX8_byteAt M v4)), (3, 0)]) (by have q := HJ6; try simp only [if_pos c9] at q; try simp only [if_pos c10] at q; exact q) ⟨Or.inr rfl, Or.inr rfl, Or.inr rfl, Or.inr rfl, Or.inr rfl, Or.inr rfl, Or.inl rfl, trivial⟩
        · skip
          refine T_iload (i := 5) (pc' := 74) dX1_isImage_72 rfl rfl ?_
          refine T_iconst (pc' := 75) dX1_isImage_74 (by decide) rfl ?_
          refine T_icmp_ne (pc' := 82) dX1_isImage_75 (by decide) (pf := 78) rfl (fun c11 => ?_) (fun c11 => ?_)
          · skip
            refine T_iconst (pc' := 83) dX1_isImage_82 (by decide) rfl ?_
            exact T_wk (L' := [(2, g), (2, 1), (0, v2), (0, v3), (0, v4), (0, (fX8_byteAt M v4)), (3, 0)]) (by have q := HJ6; try simp only [if_pos c9] at q; try simp only [if_neg c10] at q; try simp only [if_neg c11] at q; exact q) ⟨Or.inr rfl, Or.inr rfl, Or.inr rfl, Or.inr rfl, Or.inr rfl, Or.inr rfl, Or.inl rfl, trivial⟩
          · skip
            refine T_iconst (pc' := 79) dX1_isImage_78 (by decide) rfl ?_
            refine T_goto (pc' := 83) dX1_isImage_79 (by decide) ?_
            exact T_wk (L' := [(2, g), (2, 1), (0, v2), (0, v3), (0, v4), (0, (fX8_byteAt M v4)), (3, 0)]) (by have q := HJ6; try simp only [if_pos c9] at q; try simp only [if_neg c10] at q; try simp only [if_pos c11] at q; exact q) ⟨Or.inr rfl, Or.inr rfl, Or.inr rfl, Or.inr rfl, Or.inr rfl, Or.inr rfl, Or.inl rfl, trivial⟩
      · skip
        refine T_aload_n (i := 0) (pc' := 55) dX1_isImage_54 rfl rfl rfl ?_
        refine T_iload (i := 4) (pc' := 57) dX1_isImage_55 rfl rfl ?_
        refine T_iconst (pc' := 58) dX1_isImage_57 (by decide) rfl ?_
        refine T_irem (pc' := 59) dX1_isImage_58 (by decide) rfl ?_
        refine T_iload (i := 5) (pc' := 61) dX1_isImage_59 rfl rfl ?_
        refine T_callV (av := [(0, (Int.tmod v4 3)), (0, (fX8_byteAt M v4))]) (st := []) (d2 := 3) (nc2 := 0) (ns2 := 0) (pc' := 64) dX1_isImage_61 rfl mtX1_mayBe mvX1_mayBe mlX1_143 cl1 (shg0 hg) rfl rfl (Nat.le_of_ble_eq_true rfl) (by decide) ⟨by decide, by decide⟩ rfl (pX1_mayBe (E := E) (h := h) (M := M) (g := g) (v1 := (Int.tmod v4 3)) (v2 := (fX8_byteAt M v4)) hg hG) (kF (st2 := [(0, (fX1_mayBe M g (Int.tmod v4 3) (fX8_byteAt M v4)))]) rfl (fun hG12 => ?_))
        refine T_goto (pc' := 83) dX1_isImage_64 (by decide) ?_
        exact T_wk (L' := [(2, g), (2, 1), (0, v2), (0, v3), (0, v4), (0, (fX8_byteAt M v4)), (3, 0)]) (by have q := HJ6; try simp only [if_neg c9] at q; exact q) ⟨Or.inr rfl, Or.inr rfl, Or.inr rfl, Or.inr rfl, Or.inr rfl, Or.inr rfl, Or.inl rfl, trivial⟩
def fX1_isImage (M : Mem) (g : Int) : Int :=
  (if (M 1 1) = (wr32 ((wr32 ((fX1_imageLength M g) - 1)) + 1)) then (lX1_isImage_26 g ((((wr32 ((fX1_imageLength M g) - 1))) : Int) - 0).toNat (wr32 ((fX1_imageLength M g) - 1)) 151 0 M) else 0)
set_option maxRecDepth 100000 in
theorem pX1_isImage {E : EV} {h : Int} {M : Mem} {g : Int} (hg : isG g) : C2 E miX1_isImage 4 h [(2, g), (2, 1)] M (fun r M' => r = some (0, (fX1_isImage M g)) ∧ M' = M) := by
  obtain ⟨Q, hQ0⟩ : ∃ Q : Option MV → Mem → Prop, Q = (fun r M' => r = some (0, (fX1_isImage M g)) ∧ M' = M) := ⟨_, rfl⟩
  rw [← hQ0]
  have hQ : Q (some (0, (if (M 1 1) = (wr32 ((wr32 ((fX1_imageLength M g) - 1)) + 1)) then (lX1_isImage_26 g ((((wr32 ((fX1_imageLength M g) - 1))) : Int) - 0).toNat (wr32 ((fX1_imageLength M g) - 1)) 151 0 M) else 0))) M := by rw [hQ0]; exact ⟨rfl, rfl⟩
  refine C2_of (L := [(2, g), (2, 1), (3, 0), (3, 0), (3, 0), (3, 0), (3, 0)]) (by decide +kernel) (Nat.le_of_ble_eq_true rfl) rfl (fun hG => ?_)
  refine T_aload_n (i := 0) (pc' := 1) dX1_isImage_0 rfl rfl rfl ?_
  refine T_callV (av := []) (st := []) (d2 := 1) (nc2 := 0) (ns2 := 0) (pc' := 4) dX1_isImage_1 rfl mtX1_imageLength mvX1_imageLength mlX1_126 cl1 (shg0 hg) rfl rfl (Nat.le_of_ble_eq_true rfl) (by decide) ⟨by decide, by decide⟩ rfl (pX1_imageLength (E := E) (h := h) (M := M) (g := g) hg hG) (kF (st2 := [(0, (fX1_imageLength M g))]) rfl (fun hG1 => ?_))
  refine T_iconst (pc' := 5) dX1_isImage_4 (by decide) rfl ?_
  refine T_isub (pc' := 6) dX1_isImage_5 rfl ?_
  refine T_istore_n (i := 2) (L' := [(2, g), (2, 1), (0, (wr32 ((fX1_imageLength M g) - 1))), (3, 0), (3, 0), (3, 0), (3, 0)]) (pc' := 7) dX1_isImage_6 rfl (by decide) rfl rfl ?_
  refine T_aload_n (i := 1) (pc' := 8) dX1_isImage_7 rfl rfl rfl ?_
  refine U_gfN (v := (0, (M 1 1))) (k := 1) (kI := 1) (pc' := 11) dX1_isImage_8 rfl cl8 (by decide) rfl (by decide) flX1_135 rfl rfl (by decide) rfl rfl ?_
  refine T_iload_n (i := 2) (pc' := 12) dX1_isImage_11 rfl rfl rfl ?_
  refine T_iconst (pc' := 13) dX1_isImage_12 (by decide) rfl ?_
  refine T_iadd (pc' := 14) dX1_isImage_13 rfl ?_
  refine T_icmp_eq (pc' := 19) dX1_isImage_14 (by decide) (pf := 17) rfl (fun c2 => ?_) (fun c2 => ?_)
  · skip
    refine T_sipush (pc' := 22) dX1_isImage_19 rfl (by decide) rfl ?_
    refine T_istore_n (i := 3) (L' := [(2, g), (2, 1), (0, (wr32 ((fX1_imageLength M g) - 1))), (0, 151), (3, 0), (3, 0), (3, 0)]) (pc' := 23) dX1_isImage_22 rfl (by decide) rfl rfl ?_
    refine T_iconst (pc' := 24) dX1_isImage_23 (by decide) rfl ?_
    refine T_istore (i := 4) (L' := [(2, g), (2, 1), (0, (wr32 ((fX1_imageLength M g) - 1))), (0, 151), (0, 0), (3, 0), (3, 0)]) (pc' := 26) dX1_isImage_24 (by decide) rfl rfl ?_
    exact T_wk (qX1_isImage_26 hg _ (wr32 ((fX1_imageLength M g) - 1)) 151 0 _ (by first | decide | omega) rfl (by have q := hQ; try simp only [if_pos c2] at q; exact q) hG) ⟨Or.inr rfl, Or.inr rfl, Or.inr rfl, Or.inr rfl, Or.inr rfl, Or.inl rfl, Or.inl rfl, trivial⟩
  · skip
    refine T_iconst (pc' := 18) dX1_isImage_17 (by decide) rfl ?_
    exact T_zret dX1_isImage_18 rfl (by decide) ⟨rfl, hG, (by have q := hQ; try simp only [if_neg c2] at q; exact q)⟩
def lX3_peak_4  : Nat → Int → Int → Mem → Int
  | 0, v1, v2, M => v1
  | k + 1, v1, v2, M => (lX3_peak_4 k (if (fX3_howMany M v2 0) ≤ (fX3_howMany M v1 0) then v1 else v2) (v2 + 1) M)
set_option maxRecDepth 100000 in
set_option maxHeartbeats 2000000 in
theorem qX3_peak_4 {E : EV} {h : Int} {Q : Option MV → Mem → Prop}   : ∀ (k : Nat) (v1 v2 : Int) (M : Mem), 0 ≤ v2 → ((201) - v2).toNat = k → Q (some (0, (lX3_peak_4 k v1 v2 M))) M → G h M → TG E miX3_peak 3 h Q 4 [(2, 16), (0, v1), (0, v2)] [] M := by
  intro k
  induction k with
  | zero =>
    intro v1 v2 M hv0 hk hQ hG
    have hQ : Q (some (0, v1)) M := hQ
    refine T_iload_n (i := 2) (pc' := 5) dX3_peak_4 rfl rfl rfl ?_
    refine T_sipush (pc' := 8) dX3_peak_5 rfl (by decide) rfl ?_
    refine T_rng (fun _ z9 _ => ?_)
    have hB : r32 201 := (ok_cons.mp z9).1
    unfold r32 at hB
    refine T_icmp_ge (pc' := 34) dX3_peak_8 (by decide) (pf := 11) rfl (fun c1 => ?_) (fun c1 => ?_)
    · skip
      refine T_iload_n (i := 1) (pc' := 35) dX3_peak_34 rfl rfl rfl ?_
      exact T_iret dX3_peak_35 rfl ⟨rfl, hG, hQ⟩
    · exact absurd c1 (by omega)
  | succ k ih =>
    intro v1 v2 M hv0 hk hQ hG
    have hQ : Q (some (0, (lX3_peak_4 k (if (fX3_howMany M v2 0) ≤ (fX3_howMany M v1 0) then v1 else v2) (v2 + 1) M))) M := hQ
    refine T_iload_n (i := 2) (pc' := 5) dX3_peak_4 rfl rfl rfl ?_
    refine T_sipush (pc' := 8) dX3_peak_5 rfl (by decide) rfl ?_
    refine T_rng (fun _ z9 _ => ?_)
    have hB : r32 201 := (ok_cons.mp z9).1
    unfold r32 at hB
    refine T_icmp_ge (pc' := 34) dX3_peak_8 (by decide) (pf := 11) rfl (fun c1 => ?_) (fun c1 => ?_)
    · exact absurd c1 (by omega)
    · skip
      have hw : wr32 (v2 + 1) = v2 + 1 := wr32_id (by unfold r32; omega)
      refine T_aload_n (i := 0) (pc' := 12) dX3_peak_11 rfl rfl rfl ?_
      refine T_iload_n (i := 2) (pc' := 13) dX3_peak_12 rfl rfl rfl ?_
      refine T_iconst (pc' := 14) dX3_peak_13 (by decide) rfl ?_
      refine T_callV (av := [(0, v2), (0, 0)]) (st := []) (d2 := 2) (nc2 := 0) (ns2 := 0) (pc' := 17) dX3_peak_14 rfl mtX3_howMany mvX3_howMany mlX3_114 cl3 rfl rfl rfl (Nat.le_of_ble_eq_true rfl) (by decide) ⟨by decide, by decide⟩ rfl (pX3_howMany (E := E) (h := h) (M := M) (v1 := v2) (v2 := 0) hG) (kF (st2 := [(0, (fX3_howMany M v2 0))]) rfl (fun hG2 => ?_))
      refine T_aload_n (i := 0) (pc' := 18) dX3_peak_17 rfl rfl rfl ?_
      refine T_iload_n (i := 1) (pc' := 19) dX3_peak_18 rfl rfl rfl ?_
      refine T_iconst (pc' := 20) dX3_peak_19 (by decide) rfl ?_
      refine T_callV (av := [(0, v1), (0, 0)]) (st := [(0, (fX3_howMany M v2 0))]) (d2 := 2) (nc2 := 0) (ns2 := 0) (pc' := 23) dX3_peak_20 rfl mtX3_howMany mvX3_howMany mlX3_114 cl3 rfl rfl rfl (Nat.le_of_ble_eq_true rfl) (by decide) ⟨by decide, by decide⟩ rfl (pX3_howMany (E := E) (h := h) (M := M) (v1 := v1) (v2 := 0) hG) (kF (st2 := [(0, (fX3_howMany M v1 0)), (0, (fX3_howMany M v2 0))]) rfl (fun hG3 => ?_))
      have HJ4 : T E miX3_peak 3 126 0 0 (fun r S M' => S = S0 ∧ G h M' ∧ Q r M') 28 [(2, 16), (0, (if (fX3_howMany M v2 0) ≤ (fX3_howMany M v1 0) then v1 else v2)), (0, v2)] [] S0 M 0 0 := by
        refine T_iinc (L' := [(2, 16), (0, (if (fX3_howMany M v2 0) ≤ (fX3_howMany M v1 0) then v1 else v2)), (0, (wr32 (v2 + 1)))]) (pc' := 31) dX3_peak_28 rfl (by decide) rfl rfl ?_
        refine T_goto (pc' := 4) dX3_peak_31 (by decide) ?_
        rw [hw]
        exact T_wk (ih _ (v2 + 1) _ (by omega) (by omega) hQ hG) ⟨Or.inr rfl, Or.inr rfl, Or.inr rfl, trivial⟩
      refine T_icmp_le (pc' := 28) dX3_peak_23 (by decide) (pf := 26) rfl (fun c5 => ?_) (fun c5 => ?_)
      · skip
        exact T_wk (L' := [(2, 16), (0, v1), (0, v2)]) (by have q := HJ4; try simp only [if_pos c5] at q; exact q) ⟨Or.inr rfl, Or.inr rfl, Or.inr rfl, trivial⟩
      · skip
        refine T_iload_n (i := 2) (pc' := 27) dX3_peak_26 rfl rfl rfl ?_
        refine T_istore_n (i := 1) (L' := [(2, 16), (0, v2), (0, v2)]) (pc' := 28) dX3_peak_27 rfl (by decide) rfl rfl ?_
        exact T_wk (L' := [(2, 16), (0, v2), (0, v2)]) (by have q := HJ4; try simp only [if_neg c5] at q; exact q) ⟨Or.inr rfl, Or.inr rfl, Or.inr rfl, trivial⟩
def fX3_peak (M : Mem) : Int :=
  (lX3_peak_4 200 0 1 M)
set_option maxRecDepth 100000 in
theorem pX3_peak {E : EV} {h : Int} {M : Mem}   : C2 E miX3_peak 3 h [(2, 16)] M (fun r M' => r = some (0, (fX3_peak M)) ∧ M' = M) := by
  obtain ⟨Q, hQ0⟩ : ∃ Q : Option MV → Mem → Prop, Q = (fun r M' => r = some (0, (fX3_peak M)) ∧ M' = M) := ⟨_, rfl⟩
  rw [← hQ0]
  have hQ : Q (some (0, (lX3_peak_4 200 0 1 M))) M := by rw [hQ0]; exact ⟨rfl, rfl⟩
  refine C2_of (L := [(2, 16), (3, 0), (3, 0)]) (by decide +kernel) (Nat.le_of_ble_eq_true rfl) rfl (fun hG => ?_)
  refine T_iconst (pc' := 1) dX3_peak_0 (by decide) rfl ?_
  refine T_istore_n (i := 1) (L' := [(2, 16), (0, 0), (3, 0)]) (pc' := 2) dX3_peak_1 rfl (by decide) rfl rfl ?_
  refine T_iconst (pc' := 3) dX3_peak_2 (by decide) rfl ?_
  refine T_istore_n (i := 2) (L' := [(2, 16), (0, 0), (0, 1)]) (pc' := 4) dX3_peak_3 rfl (by decide) rfl rfl ?_
  exact T_wk (qX3_peak_4  200 0 1 _ (by first | decide | omega) rfl hQ hG) ⟨Or.inr rfl, Or.inr rfl, Or.inr rfl, trivial⟩
def lX3_firstWith_2  : Nat → Int → Int → Mem → Int
  | 0, v1, v2, M => (-1)
  | k + 1, v1, v2, M => (if (fX3_howMany M v2 0) < v1 then (lX3_firstWith_2 k v1 (v2 + 1) M) else v2)
set_option maxRecDepth 100000 in
set_option maxHeartbeats 2000000 in
theorem qX3_firstWith_2 {E : EV} {h : Int} {Q : Option MV → Mem → Prop}   : ∀ (k : Nat) (v1 v2 : Int) (M : Mem), 0 ≤ v2 → ((201) - v2).toNat = k → Q (some (0, (lX3_firstWith_2 k v1 v2 M))) M → G h M → TG E miX3_firstWith 3 h Q 2 [(2, 16), (0, v1), (0, v2)] [] M := by
  intro k
  induction k with
  | zero =>
    intro v1 v2 M hv0 hk hQ hG
    have hQ : Q (some (0, (-1))) M := hQ
    refine T_iload_n (i := 2) (pc' := 3) dX3_firstWith_2 rfl rfl rfl ?_
    refine T_sipush (pc' := 6) dX3_firstWith_3 rfl (by decide) rfl ?_
    refine T_rng (fun _ z9 _ => ?_)
    have hB : r32 201 := (ok_cons.mp z9).1
    unfold r32 at hB
    refine T_icmp_ge (pc' := 27) dX3_firstWith_6 (by decide) (pf := 9) rfl (fun c1 => ?_) (fun c1 => ?_)
    · skip
      refine T_iconst (pc' := 28) dX3_firstWith_27 (by decide) rfl ?_
      exact T_iret dX3_firstWith_28 rfl ⟨rfl, hG, hQ⟩
    · exact absurd c1 (by omega)
  | succ k ih =>
    intro v1 v2 M hv0 hk hQ hG
    have hQ : Q (some (0, (if (fX3_howMany M v2 0) < v1 then (lX3_firstWith_2 k v1 (v2 + 1) M) else v2))) M := hQ
    refine T_iload_n (i := 2) (pc' := 3) dX3_firstWith_2 rfl rfl rfl ?_
    refine T_sipush (pc' := 6) dX3_firstWith_3 rfl (by decide) rfl ?_
    refine T_rng (fun _ z9 _ => ?_)
    have hB : r32 201 := (ok_cons.mp z9).1
    unfold r32 at hB
    refine T_icmp_ge (pc' := 27) dX3_firstWith_6 (by decide) (pf := 9) rfl (fun c1 => ?_) (fun c1 => ?_)
    · exact absurd c1 (by omega)
    · skip
      have hw : wr32 (v2 + 1) = v2 + 1 := wr32_id (by unfold r32; omega)
      refine T_aload_n (i := 0) (pc' := 10) dX3_firstWith_9 rfl rfl rfl ?_
      refine T_iload_n (i := 2) (pc' := 11) dX3_firstWith_10 rfl rfl rfl ?_
      refine T_iconst (pc' := 12) dX3_firstWith_11 (by decide) rfl ?_
      refine T_callV (av := [(0, v2), (0, 0)]) (st := []) (d2 := 2) (nc2 := 0) (ns2 := 0) (pc' := 15) dX3_firstWith_12 rfl mtX3_howMany mvX3_howMany mlX3_114 cl3 rfl rfl rfl (Nat.le_of_ble_eq_true rfl) (by decide) ⟨by decide, by decide⟩ rfl (pX3_howMany (E := E) (h := h) (M := M) (v1 := v2) (v2 := 0) hG) (kF (st2 := [(0, (fX3_howMany M v2 0))]) rfl (fun hG2 => ?_))
      refine T_iload_n (i := 1) (pc' := 16) dX3_firstWith_15 rfl rfl rfl ?_
      refine T_icmp_lt (pc' := 21) dX3_firstWith_16 (by decide) (pf := 19) rfl (fun c3 => ?_) (fun c3 => ?_)
      · skip
        refine T_iinc (L' := [(2, 16), (0, v1), (0, (wr32 (v2 + 1)))]) (pc' := 24) dX3_firstWith_21 rfl (by decide) rfl rfl ?_
        refine T_goto (pc' := 2) dX3_firstWith_24 (by decide) ?_
        rw [hw]
        exact T_wk (ih _ (v2 + 1) _ (by omega) (by omega) (by have q := hQ; try simp only [if_pos c3] at q; exact q) hG) ⟨Or.inr rfl, Or.inr rfl, Or.inr rfl, trivial⟩
      · skip
        refine T_iload_n (i := 2) (pc' := 20) dX3_firstWith_19 rfl rfl rfl ?_
        exact T_iret dX3_firstWith_20 rfl ⟨rfl, hG, (by have q := hQ; try simp only [if_neg c3] at q; exact q)⟩
def fX3_firstWith (M : Mem) (v1 : Int) : Int :=
  (lX3_firstWith_2 201 v1 0 M)
set_option maxRecDepth 100000 in
theorem pX3_firstWith {E : EV} {h : Int} {M : Mem} {v1 : Int}  : C2 E miX3_firstWith 3 h [(2, 16), (0, v1)] M (fun r M' => r = some (0, (fX3_firstWith M v1)) ∧ M' = M) := by
  obtain ⟨Q, hQ0⟩ : ∃ Q : Option MV → Mem → Prop, Q = (fun r M' => r = some (0, (fX3_firstWith M v1)) ∧ M' = M) := ⟨_, rfl⟩
  rw [← hQ0]
  have hQ : Q (some (0, (lX3_firstWith_2 201 v1 0 M))) M := by rw [hQ0]; exact ⟨rfl, rfl⟩
  refine C2_of (L := [(2, 16), (0, v1), (3, 0)]) (by decide +kernel) (Nat.le_of_ble_eq_true rfl) rfl (fun hG => ?_)
  refine T_iconst (pc' := 1) dX3_firstWith_0 (by decide) rfl ?_
  refine T_istore_n (i := 2) (L' := [(2, 16), (0, v1), (0, 0)]) (pc' := 2) dX3_firstWith_1 rfl (by decide) rfl rfl ?_
  exact T_wk (qX3_firstWith_2  201 v1 0 _ (by first | decide | omega) rfl hQ hG) ⟨Or.inr rfl, Or.inr rfl, Or.inr rfl, trivial⟩
def lX3_openersOf_4  : Nat → Int → Int → Int → Mem → Int
  | 0, v1, v2, v3, M => v2
  | k + 1, v1, v2, v3, M => (lX3_openersOf_4 k v1 (if (fX11_hasBit v1 v3) = 0 then v2 else (if (fX11_get M 19 9 v3) = (-1) then v2 else (wr32 (v2 + 1)))) (v3 + 1) M)
set_option maxRecDepth 100000 in
set_option maxHeartbeats 2000000 in
theorem qX3_openersOf_4 {E : EV} {h : Int} {Q : Option MV → Mem → Prop}   : ∀ (k : Nat) (v1 v2 v3 : Int) (M : Mem), 0 ≤ v3 → ((9) - v3).toNat = k → Q (some (0, (lX3_openersOf_4 k v1 v2 v3 M))) M → G h M → TG E miX3_openersOf 2 h Q 4 [(2, 16), (0, v1), (0, v2), (0, v3)] [] M := by
  intro k
  induction k with
  | zero =>
    intro v1 v2 v3 M hv0 hk hQ hG
    have hQ : Q (some (0, v2)) M := hQ
    refine T_iload_n (i := 3) (pc' := 5) dX3_openersOf_4 rfl rfl rfl ?_
    refine T_bipush (pc' := 7) dX3_openersOf_5 rfl (by decide) rfl ?_
    refine T_rng (fun _ z9 _ => ?_)
    have hB : r32 9 := (ok_cons.mp z9).1
    unfold r32 at hB
    refine T_icmp_ge (pc' := 39) dX3_openersOf_7 (by decide) (pf := 10) rfl (fun c1 => ?_) (fun c1 => ?_)
    · skip
      refine T_iload_n (i := 2) (pc' := 40) dX3_openersOf_39 rfl rfl rfl ?_
      exact T_iret dX3_openersOf_40 rfl ⟨rfl, hG, hQ⟩
    · exact absurd c1 (by omega)
  | succ k ih =>
    intro v1 v2 v3 M hv0 hk hQ hG
    have hQ : Q (some (0, (lX3_openersOf_4 k v1 (if (fX11_hasBit v1 v3) = 0 then v2 else (if (fX11_get M 19 9 v3) = (-1) then v2 else (wr32 (v2 + 1)))) (v3 + 1) M))) M := hQ
    refine T_iload_n (i := 3) (pc' := 5) dX3_openersOf_4 rfl rfl rfl ?_
    refine T_bipush (pc' := 7) dX3_openersOf_5 rfl (by decide) rfl ?_
    refine T_rng (fun _ z9 _ => ?_)
    have hB : r32 9 := (ok_cons.mp z9).1
    unfold r32 at hB
    refine T_icmp_ge (pc' := 39) dX3_openersOf_7 (by decide) (pf := 10) rfl (fun c1 => ?_) (fun c1 => ?_)
    · exact absurd c1 (by omega)
    · skip
      have hw : wr32 (v3 + 1) = v3 + 1 := wr32_id (by unfold r32; omega)
      refine T_iload_n (i := 1) (pc' := 11) dX3_openersOf_10 rfl rfl rfl ?_
      refine T_iload_n (i := 3) (pc' := 12) dX3_openersOf_11 rfl rfl rfl ?_
      refine T_callSN (av := [(0, v1), (0, v3)]) (st := []) (d2 := 1) (nc2 := 0) (ns2 := 0) (pc' := 15) dX3_openersOf_12 rfl mtX11_hasBit mvX11_hasBit mlX3_76 rfl rfl (Nat.le_of_ble_eq_true rfl) (by decide) ⟨by decide, by decide⟩ rfl (pX11_hasBit (E := E) (h := h) (M := M) (v0 := v1) (v1 := v3) hG) (kF (st2 := [(0, (fX11_hasBit v1 v3))]) rfl (fun hG2 => ?_))
      have HJ3 : T E miX3_openersOf 2 126 0 0 (fun r S M' => S = S0 ∧ G h M' ∧ Q r M') 33 [(2, 16), (0, v1), (0, (if (fX11_hasBit v1 v3) = 0 then v2 else (if (fX11_get M 19 9 v3) = (-1) then v2 else (wr32 (v2 + 1))))), (0, v3)] [] S0 M 0 0 := by
        refine T_iinc (L' := [(2, 16), (0, v1), (0, (if (fX11_hasBit v1 v3) = 0 then v2 else (if (fX11_get M 19 9 v3) = (-1) then v2 else (wr32 (v2 + 1))))), (0, (wr32 (v3 + 1)))]) (pc' := 36) dX3_openersOf_33 rfl (by decide) rfl rfl ?_
        refine T_goto (pc' := 4) dX3_openersOf_36 (by decide) ?_
        rw [hw]
        exact T_wk (ih _ _ (v3 + 1) _ (by omega) (by omega) hQ hG) ⟨Or.inr rfl, Or.inr rfl, Or.inr rfl, Or.inr rfl, trivial⟩
      refine T_if_eq (pc' := 33) dX3_openersOf_15 (by decide) (pf := 18) rfl (fun c4 => ?_) (fun c4 => ?_)
      · skip
        exact T_wk (L' := [(2, 16), (0, v1), (0, v2), (0, v3)]) (by have q := HJ3; try simp only [if_pos c4] at q; exact q) ⟨Or.inr rfl, Or.inr rfl, Or.inr rfl, Or.inr rfl, trivial⟩
      · skip
        refine T_aload_n (i := 0) (pc' := 19) dX3_openersOf_18 rfl rfl rfl ?_
        refine U_gr (q := 19) (k := 2) (kI := 2) (pc' := 22) dX3_openersOf_19 rfl cl3 (by decide) rfl (by decide) flX3_18 rfl rfl rfl (G_at hG 24 rfl) (by decide) rfl ?_
        refine T_iload_n (i := 3) (pc' := 23) dX3_openersOf_22 rfl rfl rfl ?_
        refine T_callSN (av := [(2, 19), (0, v3)]) (st := []) (d2 := 1) (nc2 := 0) (ns2 := 0) (pc' := 26) dX3_openersOf_23 rfl mtX11_get mvX11_get mlX3_67 rfl rfl (Nat.le_of_ble_eq_true rfl) (by decide) ⟨by decide, by decide⟩ rfl (pX11_get (E := E) (h := h) (M := M) (p0 := 19) (np0 := 9) (v1 := v3) (by decide) rfl (by decide) hG) (kF (st2 := [(0, (fX11_get M 19 9 v3))]) rfl (fun hG5 => ?_))
        refine T_iconst (pc' := 27) dX3_openersOf_26 (by decide) rfl ?_
        refine T_icmp_eq (pc' := 33) dX3_openersOf_27 (by decide) (pf := 30) rfl (fun c6 => ?_) (fun c6 => ?_)
        · skip
          exact T_wk (L' := [(2, 16), (0, v1), (0, v2), (0, v3)]) (by have q := HJ3; try simp only [if_neg c4] at q; try simp only [if_pos c6] at q; exact q) ⟨Or.inr rfl, Or.inr rfl, Or.inr rfl, Or.inr rfl, trivial⟩
        · skip
          refine T_iinc (L' := [(2, 16), (0, v1), (0, (wr32 (v2 + 1))), (0, v3)]) (pc' := 33) dX3_openersOf_30 rfl (by decide) rfl rfl ?_
          exact T_wk (L' := [(2, 16), (0, v1), (0, (wr32 (v2 + 1))), (0, v3)]) (by have q := HJ3; try simp only [if_neg c4] at q; try simp only [if_neg c6] at q; exact q) ⟨Or.inr rfl, Or.inr rfl, Or.inr rfl, Or.inr rfl, trivial⟩
def fX3_openersOf (M : Mem) (v1 : Int) : Int :=
  (lX3_openersOf_4 9 v1 0 0 M)
set_option maxRecDepth 100000 in
theorem pX3_openersOf {E : EV} {h : Int} {M : Mem} {v1 : Int}  : C2 E miX3_openersOf 2 h [(2, 16), (0, v1)] M (fun r M' => r = some (0, (fX3_openersOf M v1)) ∧ M' = M) := by
  obtain ⟨Q, hQ0⟩ : ∃ Q : Option MV → Mem → Prop, Q = (fun r M' => r = some (0, (fX3_openersOf M v1)) ∧ M' = M) := ⟨_, rfl⟩
  rw [← hQ0]
  have hQ : Q (some (0, (lX3_openersOf_4 9 v1 0 0 M))) M := by rw [hQ0]; exact ⟨rfl, rfl⟩
  refine C2_of (L := [(2, 16), (0, v1), (3, 0), (3, 0)]) (by decide +kernel) (Nat.le_of_ble_eq_true rfl) rfl (fun hG => ?_)
  refine T_iconst (pc' := 1) dX3_openersOf_0 (by decide) rfl ?_
  refine T_istore_n (i := 2) (L' := [(2, 16), (0, v1), (0, 0), (3, 0)]) (pc' := 2) dX3_openersOf_1 rfl (by decide) rfl rfl ?_
  refine T_iconst (pc' := 3) dX3_openersOf_2 (by decide) rfl ?_
  refine T_istore_n (i := 3) (L' := [(2, 16), (0, v1), (0, 0), (0, 0)]) (pc' := 4) dX3_openersOf_3 rfl (by decide) rfl rfl ?_
  exact T_wk (qX3_openersOf_4  9 v1 0 0 _ (by first | decide | omega) rfl hQ hG) ⟨Or.inr rfl, Or.inr rfl, Or.inr rfl, Or.inr rfl, trivial⟩
def lX3_openersAhead_4  : Nat → Int → Int → Int → Mem → Int
  | 0, v1, v2, v3, M => v2
  | k + 1, v1, v2, v3, M => (lX3_openersAhead_4 k v1 (if (fX11_get M 19 9 v3) = (-1) then v2 else (if v1 ≤ (fX11_get M 19 9 v3) then v2 else (wr32 (v2 + 1)))) (v3 + 1) M)
set_option maxRecDepth 100000 in
set_option maxHeartbeats 2000000 in
theorem qX3_openersAhead_4 {E : EV} {h : Int} {Q : Option MV → Mem → Prop}   : ∀ (k : Nat) (v1 v2 v3 : Int) (M : Mem), 0 ≤ v3 → ((9) - v3).toNat = k → Q (some (0, (lX3_openersAhead_4 k v1 v2 v3 M))) M → G h M → TG E miX3_openersAhead 2 h Q 4 [(2, 16), (0, v1), (0, v2), (0, v3)] [] M := by
  intro k
  induction k with
  | zero =>
    intro v1 v2 v3 M hv0 hk hQ hG
    have hQ : Q (some (0, v2)) M := hQ
    refine T_iload_n (i := 3) (pc' := 5) dX3_openersAhead_4 rfl rfl rfl ?_
    refine T_bipush (pc' := 7) dX3_openersAhead_5 rfl (by decide) rfl ?_
    refine T_rng (fun _ z9 _ => ?_)
    have hB : r32 9 := (ok_cons.mp z9).1
    unfold r32 at hB
    refine T_icmp_ge (pc' := 43) dX3_openersAhead_7 (by decide) (pf := 10) rfl (fun c1 => ?_) (fun c1 => ?_)
    · skip
      refine T_iload_n (i := 2) (pc' := 44) dX3_openersAhead_43 rfl rfl rfl ?_
      exact T_iret dX3_openersAhead_44 rfl ⟨rfl, hG, hQ⟩
    · exact absurd c1 (by omega)
  | succ k ih =>
    intro v1 v2 v3 M hv0 hk hQ hG
    have hQ : Q (some (0, (lX3_openersAhead_4 k v1 (if (fX11_get M 19 9 v3) = (-1) then v2 else (if v1 ≤ (fX11_get M 19 9 v3) then v2 else (wr32 (v2 + 1)))) (v3 + 1) M))) M := hQ
    refine T_iload_n (i := 3) (pc' := 5) dX3_openersAhead_4 rfl rfl rfl ?_
    refine T_bipush (pc' := 7) dX3_openersAhead_5 rfl (by decide) rfl ?_
    refine T_rng (fun _ z9 _ => ?_)
    have hB : r32 9 := (ok_cons.mp z9).1
    unfold r32 at hB
    refine T_icmp_ge (pc' := 43) dX3_openersAhead_7 (by decide) (pf := 10) rfl (fun c1 => ?_) (fun c1 => ?_)
    · exact absurd c1 (by omega)
    · skip
      have hw : wr32 (v3 + 1) = v3 + 1 := wr32_id (by unfold r32; omega)
      refine T_aload_n (i := 0) (pc' := 11) dX3_openersAhead_10 rfl rfl rfl ?_
      refine U_gr (q := 19) (k := 2) (kI := 2) (pc' := 14) dX3_openersAhead_11 rfl cl3 (by decide) rfl (by decide) flX3_18 rfl rfl rfl (G_at hG 24 rfl) (by decide) rfl ?_
      refine T_iload_n (i := 3) (pc' := 15) dX3_openersAhead_14 rfl rfl rfl ?_
      refine T_callSN (av := [(2, 19), (0, v3)]) (st := []) (d2 := 1) (nc2 := 0) (ns2 := 0) (pc' := 18) dX3_openersAhead_15 rfl mtX11_get mvX11_get mlX3_67 rfl rfl (Nat.le_of_ble_eq_true rfl) (by decide) ⟨by decide, by decide⟩ rfl (pX11_get (E := E) (h := h) (M := M) (p0 := 19) (np0 := 9) (v1 := v3) (by decide) rfl (by decide) hG) (kF (st2 := [(0, (fX11_get M 19 9 v3))]) rfl (fun hG2 => ?_))
      refine T_iconst (pc' := 19) dX3_openersAhead_18 (by decide) rfl ?_
      have HJ3 : T E miX3_openersAhead 2 126 0 0 (fun r S M' => S = S0 ∧ G h M' ∧ Q r M') 37 [(2, 16), (0, v1), (0, (if (fX11_get M 19 9 v3) = (-1) then v2 else (if v1 ≤ (fX11_get M 19 9 v3) then v2 else (wr32 (v2 + 1))))), (0, v3)] [] S0 M 0 0 := by
        refine T_iinc (L' := [(2, 16), (0, v1), (0, (if (fX11_get M 19 9 v3) = (-1) then v2 else (if v1 ≤ (fX11_get M 19 9 v3) then v2 else (wr32 (v2 + 1))))), (0, (wr32 (v3 + 1)))]) (pc' := 40) dX3_openersAhead_37 rfl (by decide) rfl rfl ?_
        refine T_goto (pc' := 4) dX3_openersAhead_40 (by decide) ?_
        rw [hw]
        exact T_wk (ih _ _ (v3 + 1) _ (by omega) (by omega) hQ hG) ⟨Or.inr rfl, Or.inr rfl, Or.inr rfl, Or.inr rfl, trivial⟩
      refine T_icmp_eq (pc' := 37) dX3_openersAhead_19 (by decide) (pf := 22) rfl (fun c4 => ?_) (fun c4 => ?_)
      · skip
        exact T_wk (L' := [(2, 16), (0, v1), (0, v2), (0, v3)]) (by have q := HJ3; try simp only [if_pos c4] at q; exact q) ⟨Or.inr rfl, Or.inr rfl, Or.inr rfl, Or.inr rfl, trivial⟩
      · skip
        refine T_aload_n (i := 0) (pc' := 23) dX3_openersAhead_22 rfl rfl rfl ?_
        refine U_gr (q := 19) (k := 2) (kI := 2) (pc' := 26) dX3_openersAhead_23 rfl cl3 (by decide) rfl (by decide) flX3_18 rfl rfl rfl (G_at hG 24 rfl) (by decide) rfl ?_
        refine T_iload_n (i := 3) (pc' := 27) dX3_openersAhead_26 rfl rfl rfl ?_
        refine T_callSN (av := [(2, 19), (0, v3)]) (st := []) (d2 := 1) (nc2 := 0) (ns2 := 0) (pc' := 30) dX3_openersAhead_27 rfl mtX11_get mvX11_get mlX3_67 rfl rfl (Nat.le_of_ble_eq_true rfl) (by decide) ⟨by decide, by decide⟩ rfl (pX11_get (E := E) (h := h) (M := M) (p0 := 19) (np0 := 9) (v1 := v3) (by decide) rfl (by decide) hG) (kF (st2 := [(0, (fX11_get M 19 9 v3))]) rfl (fun hG5 => ?_))
        refine T_iload_n (i := 1) (pc' := 31) dX3_openersAhead_30 rfl rfl rfl ?_
        refine T_icmp_ge (pc' := 37) dX3_openersAhead_31 (by decide) (pf := 34) rfl (fun c6 => ?_) (fun c6 => ?_)
        · skip
          exact T_wk (L' := [(2, 16), (0, v1), (0, v2), (0, v3)]) (by have q := HJ3; try simp only [if_neg c4] at q; try simp only [if_pos c6] at q; exact q) ⟨Or.inr rfl, Or.inr rfl, Or.inr rfl, Or.inr rfl, trivial⟩
        · skip
          refine T_iinc (L' := [(2, 16), (0, v1), (0, (wr32 (v2 + 1))), (0, v3)]) (pc' := 37) dX3_openersAhead_34 rfl (by decide) rfl rfl ?_
          exact T_wk (L' := [(2, 16), (0, v1), (0, (wr32 (v2 + 1))), (0, v3)]) (by have q := HJ3; try simp only [if_neg c4] at q; try simp only [if_neg c6] at q; exact q) ⟨Or.inr rfl, Or.inr rfl, Or.inr rfl, Or.inr rfl, trivial⟩
def fX3_openersAhead (M : Mem) (v1 : Int) : Int :=
  (lX3_openersAhead_4 9 v1 0 0 M)
set_option maxRecDepth 100000 in
theorem pX3_openersAhead {E : EV} {h : Int} {M : Mem} {v1 : Int}  : C2 E miX3_openersAhead 2 h [(2, 16), (0, v1)] M (fun r M' => r = some (0, (fX3_openersAhead M v1)) ∧ M' = M) := by
  obtain ⟨Q, hQ0⟩ : ∃ Q : Option MV → Mem → Prop, Q = (fun r M' => r = some (0, (fX3_openersAhead M v1)) ∧ M' = M) := ⟨_, rfl⟩
  rw [← hQ0]
  have hQ : Q (some (0, (lX3_openersAhead_4 9 v1 0 0 M))) M := by rw [hQ0]; exact ⟨rfl, rfl⟩
  refine C2_of (L := [(2, 16), (0, v1), (3, 0), (3, 0)]) (by decide +kernel) (Nat.le_of_ble_eq_true rfl) rfl (fun hG => ?_)
  refine T_iconst (pc' := 1) dX3_openersAhead_0 (by decide) rfl ?_
  refine T_istore_n (i := 2) (L' := [(2, 16), (0, v1), (0, 0), (3, 0)]) (pc' := 2) dX3_openersAhead_1 rfl (by decide) rfl rfl ?_
  refine T_iconst (pc' := 3) dX3_openersAhead_2 (by decide) rfl ?_
  refine T_istore_n (i := 3) (L' := [(2, 16), (0, v1), (0, 0), (0, 0)]) (pc' := 4) dX3_openersAhead_3 rfl (by decide) rfl rfl ?_
  exact T_wk (qX3_openersAhead_4  9 v1 0 0 _ (by first | decide | omega) rfl hQ hG) ⟨Or.inr rfl, Or.inr rfl, Or.inr rfl, Or.inr rfl, trivial⟩
def lX3_lastOut_4  : Nat → Int → Int → Mem → Int
  | 0, v1, v2, M => v1
  | k + 1, v1, v2, M => (lX3_lastOut_4 k (if v1 < (fX11_get M 21 9 v2) then (fX11_get M 21 9 v2) else v1) (v2 + 1) M)
set_option maxRecDepth 100000 in
set_option maxHeartbeats 2000000 in
theorem qX3_lastOut_4 {E : EV} {h : Int} {Q : Option MV → Mem → Prop}   : ∀ (k : Nat) (v1 v2 : Int) (M : Mem), 0 ≤ v2 → ((9) - v2).toNat = k → Q (some (0, (lX3_lastOut_4 k v1 v2 M))) M → G h M → TG E miX3_lastOut 2 h Q 4 [(2, 16), (0, v1), (0, v2)] [] M := by
  intro k
  induction k with
  | zero =>
    intro v1 v2 M hv0 hk hQ hG
    have hQ : Q (some (0, v1)) M := hQ
    refine T_iload_n (i := 2) (pc' := 5) dX3_lastOut_4 rfl rfl rfl ?_
    refine T_bipush (pc' := 7) dX3_lastOut_5 rfl (by decide) rfl ?_
    refine T_rng (fun _ z9 _ => ?_)
    have hB : r32 9 := (ok_cons.mp z9).1
    unfold r32 at hB
    refine T_icmp_ge (pc' := 29) dX3_lastOut_7 (by decide) (pf := 10) rfl (fun c1 => ?_) (fun c1 => ?_)
    · skip
      refine T_iload_n (i := 1) (pc' := 30) dX3_lastOut_29 rfl rfl rfl ?_
      exact T_iret dX3_lastOut_30 rfl ⟨rfl, hG, hQ⟩
    · exact absurd c1 (by omega)
  | succ k ih =>
    intro v1 v2 M hv0 hk hQ hG
    have hQ : Q (some (0, (lX3_lastOut_4 k (if v1 < (fX11_get M 21 9 v2) then (fX11_get M 21 9 v2) else v1) (v2 + 1) M))) M := hQ
    refine T_iload_n (i := 2) (pc' := 5) dX3_lastOut_4 rfl rfl rfl ?_
    refine T_bipush (pc' := 7) dX3_lastOut_5 rfl (by decide) rfl ?_
    refine T_rng (fun _ z9 _ => ?_)
    have hB : r32 9 := (ok_cons.mp z9).1
    unfold r32 at hB
    refine T_icmp_ge (pc' := 29) dX3_lastOut_7 (by decide) (pf := 10) rfl (fun c1 => ?_) (fun c1 => ?_)
    · exact absurd c1 (by omega)
    · skip
      have hw : wr32 (v2 + 1) = v2 + 1 := wr32_id (by unfold r32; omega)
      refine T_iload_n (i := 1) (pc' := 11) dX3_lastOut_10 rfl rfl rfl ?_
      refine T_aload_n (i := 0) (pc' := 12) dX3_lastOut_11 rfl rfl rfl ?_
      refine U_gr (q := 21) (k := 4) (kI := 4) (pc' := 15) dX3_lastOut_12 rfl cl3 (by decide) rfl (by decide) flX3_24 rfl rfl rfl (G_at hG 26 rfl) (by decide) rfl ?_
      refine T_iload_n (i := 2) (pc' := 16) dX3_lastOut_15 rfl rfl rfl ?_
      refine T_callSN (av := [(2, 21), (0, v2)]) (st := [(0, v1)]) (d2 := 1) (nc2 := 0) (ns2 := 0) (pc' := 19) dX3_lastOut_16 rfl mtX11_get mvX11_get mlX3_67 rfl rfl (Nat.le_of_ble_eq_true rfl) (by decide) ⟨by decide, by decide⟩ rfl (pX11_get (E := E) (h := h) (M := M) (p0 := 21) (np0 := 9) (v1 := v2) (by decide) rfl (by decide) hG) (kF (st2 := [(0, (fX11_get M 21 9 v2)), (0, v1)]) rfl (fun hG2 => ?_))
      refine U_mmax (pc' := 22) dX3_lastOut_19 rfl mlX3_117 (Nat.le_of_ble_eq_true rfl) (by decide) ⟨by decide, by decide⟩ rfl ?_
      refine T_istore_n (i := 1) (L' := [(2, 16), (0, (if v1 < (fX11_get M 21 9 v2) then (fX11_get M 21 9 v2) else v1)), (0, v2)]) (pc' := 23) dX3_lastOut_22 rfl (by decide) rfl rfl ?_
      refine T_iinc (L' := [(2, 16), (0, (if v1 < (fX11_get M 21 9 v2) then (fX11_get M 21 9 v2) else v1)), (0, (wr32 (v2 + 1)))]) (pc' := 26) dX3_lastOut_23 rfl (by decide) rfl rfl ?_
      refine T_goto (pc' := 4) dX3_lastOut_26 (by decide) ?_
      rw [hw]
      exact T_wk (ih _ (v2 + 1) _ (by omega) (by omega) hQ hG) ⟨Or.inr rfl, Or.inr rfl, Or.inr rfl, trivial⟩
def fX3_lastOut (M : Mem) : Int :=
  (lX3_lastOut_4 9 (-1) 0 M)
set_option maxRecDepth 100000 in
theorem pX3_lastOut {E : EV} {h : Int} {M : Mem}   : C2 E miX3_lastOut 2 h [(2, 16)] M (fun r M' => r = some (0, (fX3_lastOut M)) ∧ M' = M) := by
  obtain ⟨Q, hQ0⟩ : ∃ Q : Option MV → Mem → Prop, Q = (fun r M' => r = some (0, (fX3_lastOut M)) ∧ M' = M) := ⟨_, rfl⟩
  rw [← hQ0]
  have hQ : Q (some (0, (lX3_lastOut_4 9 (-1) 0 M))) M := by rw [hQ0]; exact ⟨rfl, rfl⟩
  refine C2_of (L := [(2, 16), (3, 0), (3, 0)]) (by decide +kernel) (Nat.le_of_ble_eq_true rfl) rfl (fun hG => ?_)
  refine T_iconst (pc' := 1) dX3_lastOut_0 (by decide) rfl ?_
  refine T_istore_n (i := 1) (L' := [(2, 16), (0, (-1)), (3, 0)]) (pc' := 2) dX3_lastOut_1 rfl (by decide) rfl rfl ?_
  refine T_iconst (pc' := 3) dX3_lastOut_2 (by decide) rfl ?_
  refine T_istore_n (i := 2) (L' := [(2, 16), (0, (-1)), (0, 0)]) (pc' := 4) dX3_lastOut_3 rfl (by decide) rfl rfl ?_
  exact T_wk (qX3_lastOut_4  9 (-1) 0 _ (by first | decide | omega) rfl hQ hG) ⟨Or.inr rfl, Or.inr rfl, Or.inr rfl, trivial⟩
def lX3_outBy_4  : Nat → Int → Int → Int → Mem → Int
  | 0, v1, v2, v3, M => v2
  | k + 1, v1, v2, v3, M => (lX3_outBy_4 k v1 (if (fX11_get M 22 9 v3) = v1 then (wr32 (v2 + 1)) else v2) (v3 + 1) M)
set_option maxRecDepth 100000 in
set_option maxHeartbeats 2000000 in
theorem qX3_outBy_4 {E : EV} {h : Int} {Q : Option MV → Mem → Prop}   : ∀ (k : Nat) (v1 v2 v3 : Int) (M : Mem), 0 ≤ v3 → ((9) - v3).toNat = k → Q (some (0, (lX3_outBy_4 k v1 v2 v3 M))) M → G h M → TG E miX3_outBy 2 h Q 4 [(2, 16), (0, v1), (0, v2), (0, v3)] [] M := by
  intro k
  induction k with
  | zero =>
    intro v1 v2 v3 M hv0 hk hQ hG
    have hQ : Q (some (0, v2)) M := hQ
    refine T_iload_n (i := 3) (pc' := 5) dX3_outBy_4 rfl rfl rfl ?_
    refine T_bipush (pc' := 7) dX3_outBy_5 rfl (by decide) rfl ?_
    refine T_rng (fun _ z9 _ => ?_)
    have hB : r32 9 := (ok_cons.mp z9).1
    unfold r32 at hB
    refine T_icmp_ge (pc' := 31) dX3_outBy_7 (by decide) (pf := 10) rfl (fun c1 => ?_) (fun c1 => ?_)
    · skip
      refine T_iload_n (i := 2) (pc' := 32) dX3_outBy_31 rfl rfl rfl ?_
      exact T_iret dX3_outBy_32 rfl ⟨rfl, hG, hQ⟩
    · exact absurd c1 (by omega)
  | succ k ih =>
    intro v1 v2 v3 M hv0 hk hQ hG
    have hQ : Q (some (0, (lX3_outBy_4 k v1 (if (fX11_get M 22 9 v3) = v1 then (wr32 (v2 + 1)) else v2) (v3 + 1) M))) M := hQ
    refine T_iload_n (i := 3) (pc' := 5) dX3_outBy_4 rfl rfl rfl ?_
    refine T_bipush (pc' := 7) dX3_outBy_5 rfl (by decide) rfl ?_
    refine T_rng (fun _ z9 _ => ?_)
    have hB : r32 9 := (ok_cons.mp z9).1
    unfold r32 at hB
    refine T_icmp_ge (pc' := 31) dX3_outBy_7 (by decide) (pf := 10) rfl (fun c1 => ?_) (fun c1 => ?_)
    · exact absurd c1 (by omega)
    · skip
      have hw : wr32 (v3 + 1) = v3 + 1 := wr32_id (by unfold r32; omega)
      refine T_aload_n (i := 0) (pc' := 11) dX3_outBy_10 rfl rfl rfl ?_
      refine U_gr (q := 22) (k := 5) (kI := 5) (pc' := 14) dX3_outBy_11 rfl cl3 (by decide) rfl (by decide) flX3_27 rfl rfl rfl (G_at hG 27 rfl) (by decide) rfl ?_
      refine T_iload_n (i := 3) (pc' := 15) dX3_outBy_14 rfl rfl rfl ?_
      refine T_callSN (av := [(2, 22), (0, v3)]) (st := []) (d2 := 1) (nc2 := 0) (ns2 := 0) (pc' := 18) dX3_outBy_15 rfl mtX11_get mvX11_get mlX3_67 rfl rfl (Nat.le_of_ble_eq_true rfl) (by decide) ⟨by decide, by decide⟩ rfl (pX11_get (E := E) (h := h) (M := M) (p0 := 22) (np0 := 9) (v1 := v3) (by decide) rfl (by decide) hG) (kF (st2 := [(0, (fX11_get M 22 9 v3))]) rfl (fun hG2 => ?_))
      refine T_iload_n (i := 1) (pc' := 19) dX3_outBy_18 rfl rfl rfl ?_
      have HJ3 : T E miX3_outBy 2 126 0 0 (fun r S M' => S = S0 ∧ G h M' ∧ Q r M') 25 [(2, 16), (0, v1), (0, (if (fX11_get M 22 9 v3) = v1 then (wr32 (v2 + 1)) else v2)), (0, v3)] [] S0 M 0 0 := by
        refine T_iinc (L' := [(2, 16), (0, v1), (0, (if (fX11_get M 22 9 v3) = v1 then (wr32 (v2 + 1)) else v2)), (0, (wr32 (v3 + 1)))]) (pc' := 28) dX3_outBy_25 rfl (by decide) rfl rfl ?_
        refine T_goto (pc' := 4) dX3_outBy_28 (by decide) ?_
        rw [hw]
        exact T_wk (ih _ _ (v3 + 1) _ (by omega) (by omega) hQ hG) ⟨Or.inr rfl, Or.inr rfl, Or.inr rfl, Or.inr rfl, trivial⟩
      refine T_icmp_ne (pc' := 25) dX3_outBy_19 (by decide) (pf := 22) rfl (fun c4 => ?_) (fun c4 => ?_)
      · skip
        exact T_wk (L' := [(2, 16), (0, v1), (0, v2), (0, v3)]) (by have q := HJ3; try simp only [if_neg c4] at q; exact q) ⟨Or.inr rfl, Or.inr rfl, Or.inr rfl, Or.inr rfl, trivial⟩
      · skip
        refine T_iinc (L' := [(2, 16), (0, v1), (0, (wr32 (v2 + 1))), (0, v3)]) (pc' := 25) dX3_outBy_22 rfl (by decide) rfl rfl ?_
        exact T_wk (L' := [(2, 16), (0, v1), (0, (wr32 (v2 + 1))), (0, v3)]) (by have q := HJ3; try simp only [if_pos c4] at q; exact q) ⟨Or.inr rfl, Or.inr rfl, Or.inr rfl, Or.inr rfl, trivial⟩
def fX3_outBy (M : Mem) (v1 : Int) : Int :=
  (lX3_outBy_4 9 v1 0 0 M)
set_option maxRecDepth 100000 in
theorem pX3_outBy {E : EV} {h : Int} {M : Mem} {v1 : Int}  : C2 E miX3_outBy 2 h [(2, 16), (0, v1)] M (fun r M' => r = some (0, (fX3_outBy M v1)) ∧ M' = M) := by
  obtain ⟨Q, hQ0⟩ : ∃ Q : Option MV → Mem → Prop, Q = (fun r M' => r = some (0, (fX3_outBy M v1)) ∧ M' = M) := ⟨_, rfl⟩
  rw [← hQ0]
  have hQ : Q (some (0, (lX3_outBy_4 9 v1 0 0 M))) M := by rw [hQ0]; exact ⟨rfl, rfl⟩
  refine C2_of (L := [(2, 16), (0, v1), (3, 0), (3, 0)]) (by decide +kernel) (Nat.le_of_ble_eq_true rfl) rfl (fun hG => ?_)
  refine T_iconst (pc' := 1) dX3_outBy_0 (by decide) rfl ?_
  refine T_istore_n (i := 2) (L' := [(2, 16), (0, v1), (0, 0), (3, 0)]) (pc' := 2) dX3_outBy_1 rfl (by decide) rfl rfl ?_
  refine T_iconst (pc' := 3) dX3_outBy_2 (by decide) rfl ?_
  refine T_istore_n (i := 3) (L' := [(2, 16), (0, v1), (0, 0), (0, 0)]) (pc' := 4) dX3_outBy_3 rfl (by decide) rfl rfl ?_
  exact T_wk (qX3_outBy_4  9 v1 0 0 _ (by first | decide | omega) rfl hQ hG) ⟨Or.inr rfl, Or.inr rfl, Or.inr rfl, Or.inr rfl, trivial⟩
def lX3_lastOutBy_4  : Nat → Int → Int → Int → Mem → Int
  | 0, v1, v2, v3, M => v2
  | k + 1, v1, v2, v3, M => (lX3_lastOutBy_4 k v1 (if (fX11_get M 22 9 v3) = v1 then (if v2 < (fX11_get M 21 9 v3) then (fX11_get M 21 9 v3) else v2) else v2) (v3 + 1) M)
set_option maxRecDepth 100000 in
set_option maxHeartbeats 2000000 in
theorem qX3_lastOutBy_4 {E : EV} {h : Int} {Q : Option MV → Mem → Prop}   : ∀ (k : Nat) (v1 v2 v3 : Int) (M : Mem), 0 ≤ v3 → ((9) - v3).toNat = k → Q (some (0, (lX3_lastOutBy_4 k v1 v2 v3 M))) M → G h M → TG E miX3_lastOutBy 2 h Q 4 [(2, 16), (0, v1), (0, v2), (0, v3)] [] M := by
  intro k
  induction k with
  | zero =>
    intro v1 v2 v3 M hv0 hk hQ hG
    have hQ : Q (some (0, v2)) M := hQ
    refine T_iload_n (i := 3) (pc' := 5) dX3_lastOutBy_4 rfl rfl rfl ?_
    refine T_bipush (pc' := 7) dX3_lastOutBy_5 rfl (by decide) rfl ?_
    refine T_rng (fun _ z9 _ => ?_)
    have hB : r32 9 := (ok_cons.mp z9).1
    unfold r32 at hB
    refine T_icmp_ge (pc' := 41) dX3_lastOutBy_7 (by decide) (pf := 10) rfl (fun c1 => ?_) (fun c1 => ?_)
    · skip
      refine T_iload_n (i := 2) (pc' := 42) dX3_lastOutBy_41 rfl rfl rfl ?_
      exact T_iret dX3_lastOutBy_42 rfl ⟨rfl, hG, hQ⟩
    · exact absurd c1 (by omega)
  | succ k ih =>
    intro v1 v2 v3 M hv0 hk hQ hG
    have hQ : Q (some (0, (lX3_lastOutBy_4 k v1 (if (fX11_get M 22 9 v3) = v1 then (if v2 < (fX11_get M 21 9 v3) then (fX11_get M 21 9 v3) else v2) else v2) (v3 + 1) M))) M := hQ
    refine T_iload_n (i := 3) (pc' := 5) dX3_lastOutBy_4 rfl rfl rfl ?_
    refine T_bipush (pc' := 7) dX3_lastOutBy_5 rfl (by decide) rfl ?_
    refine T_rng (fun _ z9 _ => ?_)
    have hB : r32 9 := (ok_cons.mp z9).1
    unfold r32 at hB
    refine T_icmp_ge (pc' := 41) dX3_lastOutBy_7 (by decide) (pf := 10) rfl (fun c1 => ?_) (fun c1 => ?_)
    · exact absurd c1 (by omega)
    · skip
      have hw : wr32 (v3 + 1) = v3 + 1 := wr32_id (by unfold r32; omega)
      refine T_aload_n (i := 0) (pc' := 11) dX3_lastOutBy_10 rfl rfl rfl ?_
      refine U_gr (q := 22) (k := 5) (kI := 5) (pc' := 14) dX3_lastOutBy_11 rfl cl3 (by decide) rfl (by decide) flX3_27 rfl rfl rfl (G_at hG 27 rfl) (by decide) rfl ?_
      refine T_iload_n (i := 3) (pc' := 15) dX3_lastOutBy_14 rfl rfl rfl ?_
      refine T_callSN (av := [(2, 22), (0, v3)]) (st := []) (d2 := 1) (nc2 := 0) (ns2 := 0) (pc' := 18) dX3_lastOutBy_15 rfl mtX11_get mvX11_get mlX3_67 rfl rfl (Nat.le_of_ble_eq_true rfl) (by decide) ⟨by decide, by decide⟩ rfl (pX11_get (E := E) (h := h) (M := M) (p0 := 22) (np0 := 9) (v1 := v3) (by decide) rfl (by decide) hG) (kF (st2 := [(0, (fX11_get M 22 9 v3))]) rfl (fun hG2 => ?_))
      refine T_iload_n (i := 1) (pc' := 19) dX3_lastOutBy_18 rfl rfl rfl ?_
      have HJ3 : T E miX3_lastOutBy 2 126 0 0 (fun r S M' => S = S0 ∧ G h M' ∧ Q r M') 35 [(2, 16), (0, v1), (0, (if (fX11_get M 22 9 v3) = v1 then (if v2 < (fX11_get M 21 9 v3) then (fX11_get M 21 9 v3) else v2) else v2)), (0, v3)] [] S0 M 0 0 := by
        refine T_iinc (L' := [(2, 16), (0, v1), (0, (if (fX11_get M 22 9 v3) = v1 then (if v2 < (fX11_get M 21 9 v3) then (fX11_get M 21 9 v3) else v2) else v2)), (0, (wr32 (v3 + 1)))]) (pc' := 38) dX3_lastOutBy_35 rfl (by decide) rfl rfl ?_
        refine T_goto (pc' := 4) dX3_lastOutBy_38 (by decide) ?_
        rw [hw]
        exact T_wk (ih _ _ (v3 + 1) _ (by omega) (by omega) hQ hG) ⟨Or.inr rfl, Or.inr rfl, Or.inr rfl, Or.inr rfl, trivial⟩
      refine T_icmp_ne (pc' := 35) dX3_lastOutBy_19 (by decide) (pf := 22) rfl (fun c4 => ?_) (fun c4 => ?_)
      · skip
        exact T_wk (L' := [(2, 16), (0, v1), (0, v2), (0, v3)]) (by have q := HJ3; try simp only [if_neg c4] at q; exact q) ⟨Or.inr rfl, Or.inr rfl, Or.inr rfl, Or.inr rfl, trivial⟩
      · skip
        refine T_iload_n (i := 2) (pc' := 23) dX3_lastOutBy_22 rfl rfl rfl ?_
        refine T_aload_n (i := 0) (pc' := 24) dX3_lastOutBy_23 rfl rfl rfl ?_
        refine U_gr (q := 21) (k := 4) (kI := 4) (pc' := 27) dX3_lastOutBy_24 rfl cl3 (by decide) rfl (by decide) flX3_24 rfl rfl rfl (G_at hG 26 rfl) (by decide) rfl ?_
        refine T_iload_n (i := 3) (pc' := 28) dX3_lastOutBy_27 rfl rfl rfl ?_
        refine T_callSN (av := [(2, 21), (0, v3)]) (st := [(0, v2)]) (d2 := 1) (nc2 := 0) (ns2 := 0) (pc' := 31) dX3_lastOutBy_28 rfl mtX11_get mvX11_get mlX3_67 rfl rfl (Nat.le_of_ble_eq_true rfl) (by decide) ⟨by decide, by decide⟩ rfl (pX11_get (E := E) (h := h) (M := M) (p0 := 21) (np0 := 9) (v1 := v3) (by decide) rfl (by decide) hG) (kF (st2 := [(0, (fX11_get M 21 9 v3)), (0, v2)]) rfl (fun hG5 => ?_))
        refine U_mmax (pc' := 34) dX3_lastOutBy_31 rfl mlX3_117 (Nat.le_of_ble_eq_true rfl) (by decide) ⟨by decide, by decide⟩ rfl ?_
        refine T_istore_n (i := 2) (L' := [(2, 16), (0, v1), (0, (if v2 < (fX11_get M 21 9 v3) then (fX11_get M 21 9 v3) else v2)), (0, v3)]) (pc' := 35) dX3_lastOutBy_34 rfl (by decide) rfl rfl ?_
        exact T_wk (L' := [(2, 16), (0, v1), (0, (if v2 < (fX11_get M 21 9 v3) then (fX11_get M 21 9 v3) else v2)), (0, v3)]) (by have q := HJ3; try simp only [if_pos c4] at q; exact q) ⟨Or.inr rfl, Or.inr rfl, Or.inr rfl, Or.inr rfl, trivial⟩
def fX3_lastOutBy (M : Mem) (v1 : Int) : Int :=
  (lX3_lastOutBy_4 9 v1 (-1) 0 M)
set_option maxRecDepth 100000 in
theorem pX3_lastOutBy {E : EV} {h : Int} {M : Mem} {v1 : Int}  : C2 E miX3_lastOutBy 2 h [(2, 16), (0, v1)] M (fun r M' => r = some (0, (fX3_lastOutBy M v1)) ∧ M' = M) := by
  obtain ⟨Q, hQ0⟩ : ∃ Q : Option MV → Mem → Prop, Q = (fun r M' => r = some (0, (fX3_lastOutBy M v1)) ∧ M' = M) := ⟨_, rfl⟩
  rw [← hQ0]
  have hQ : Q (some (0, (lX3_lastOutBy_4 9 v1 (-1) 0 M))) M := by rw [hQ0]; exact ⟨rfl, rfl⟩
  refine C2_of (L := [(2, 16), (0, v1), (3, 0), (3, 0)]) (by decide +kernel) (Nat.le_of_ble_eq_true rfl) rfl (fun hG => ?_)
  refine T_iconst (pc' := 1) dX3_lastOutBy_0 (by decide) rfl ?_
  refine T_istore_n (i := 2) (L' := [(2, 16), (0, v1), (0, (-1)), (3, 0)]) (pc' := 2) dX3_lastOutBy_1 rfl (by decide) rfl rfl ?_
  refine T_iconst (pc' := 3) dX3_lastOutBy_2 (by decide) rfl ?_
  refine T_istore_n (i := 3) (L' := [(2, 16), (0, v1), (0, (-1)), (0, 0)]) (pc' := 4) dX3_lastOutBy_3 rfl (by decide) rfl rfl ?_
  exact T_wk (qX3_lastOutBy_4  9 v1 (-1) 0 _ (by first | decide | omega) rfl hQ hG) ⟨Or.inr rfl, Or.inr rfl, Or.inr rfl, Or.inr rfl, trivial⟩
def lX3_nearer_12 (g : Int) : Nat → Int → Int → Int → Mem → Int
  | 0, v2, v3, v4, M => v2
  | k + 1, v2, v3, v4, M => (if (fX1_stepFrom M g v2 v4) = (-1) then (lX3_nearer_12 g k v2 v3 (v4 + 1) M) else (if v3 = (-1) then (lX3_nearer_12 g k v2 v3 (v4 + 1) M) else (if v3 ≤ (fX11_get M 23 54 (fX1_stepFrom M g v2 v4)) then (lX3_nearer_12 g k v2 v3 (v4 + 1) M) else (fX1_stepFrom M g v2 v4))))
set_option maxRecDepth 100000 in
set_option maxHeartbeats 2000000 in
theorem qX3_nearer_12 {E : EV} {h : Int} {Q : Option MV → Mem → Prop} {g : Int} (hg : isG g) : ∀ (k : Nat) (v2 v3 v4 : Int) (M : Mem), 0 ≤ v4 → ((4) - v4).toNat = k → Q (some (0, (lX3_nearer_12 g k v2 v3 v4 M))) M → G h M → TG E miX3_nearer 4 h Q 12 [(2, 16), (2, g), (0, v2), (0, v3), (0, v4), (3, 0)] [] M := by
  intro k
  induction k with
  | zero =>
    intro v2 v3 v4 M hv0 hk hQ hG
    have hQ : Q (some (0, v2)) M := hQ
    refine T_iload (i := 4) (pc' := 14) dX3_nearer_12 rfl rfl ?_
    refine T_iconst (pc' := 15) dX3_nearer_14 (by decide) rfl ?_
    refine T_rng (fun _ z9 _ => ?_)
    have hB : r32 3 := (ok_cons.mp z9).1
    unfold r32 at hB
    refine T_icmp_gt (pc' := 60) dX3_nearer_15 (by decide) (pf := 18) rfl (fun c1 => ?_) (fun c1 => ?_)
    · skip
      refine T_iload_n (i := 2) (pc' := 61) dX3_nearer_60 rfl rfl rfl ?_
      exact T_iret dX3_nearer_61 rfl ⟨rfl, hG, hQ⟩
    · exact absurd c1 (by omega)
  | succ k ih =>
    intro v2 v3 v4 M hv0 hk hQ hG
    have hQ : Q (some (0, (if (fX1_stepFrom M g v2 v4) = (-1) then (lX3_nearer_12 g k v2 v3 (v4 + 1) M) else (if v3 = (-1) then (lX3_nearer_12 g k v2 v3 (v4 + 1) M) else (if v3 ≤ (fX11_get M 23 54 (fX1_stepFrom M g v2 v4)) then (lX3_nearer_12 g k v2 v3 (v4 + 1) M) else (fX1_stepFrom M g v2 v4)))))) M := hQ
    refine T_iload (i := 4) (pc' := 14) dX3_nearer_12 rfl rfl ?_
    refine T_iconst (pc' := 15) dX3_nearer_14 (by decide) rfl ?_
    refine T_rng (fun _ z9 _ => ?_)
    have hB : r32 3 := (ok_cons.mp z9).1
    unfold r32 at hB
    refine T_icmp_gt (pc' := 60) dX3_nearer_15 (by decide) (pf := 18) rfl (fun c1 => ?_) (fun c1 => ?_)
    · exact absurd c1 (by omega)
    · skip
      have hw : wr32 (v4 + 1) = v4 + 1 := wr32_id (by unfold r32; omega)
      refine T_aload_n (i := 1) (pc' := 19) dX3_nearer_18 rfl rfl rfl ?_
      refine T_iload_n (i := 2) (pc' := 20) dX3_nearer_19 rfl rfl rfl ?_
      refine T_iload (i := 4) (pc' := 22) dX3_nearer_20 rfl rfl ?_
      refine T_callV (av := [(0, v2), (0, v4)]) (st := []) (d2 := 3) (nc2 := 0) (ns2 := 0) (pc' := 25) dX3_nearer_22 rfl mtX1_stepFrom mvX1_stepFrom mlX3_93 cl1 (shg0 hg) rfl rfl (Nat.le_of_ble_eq_true rfl) (by decide) ⟨by decide, by decide⟩ rfl (pX1_stepFrom (E := E) (h := h) (M := M) (g := g) (v1 := v2) (v2 := v4) hg hG) (kF (st2 := [(0, (fX1_stepFrom M g v2 v4))]) rfl (fun hG2 => ?_))
      refine T_istore (i := 5) (L' := [(2, 16), (2, g), (0, v2), (0, v3), (0, v4), (0, (fX1_stepFrom M g v2 v4))]) (pc' := 27) dX3_nearer_25 (by decide) rfl rfl ?_
      refine T_iload (i := 5) (pc' := 29) dX3_nearer_27 rfl rfl ?_
      refine T_iconst (pc' := 30) dX3_nearer_29 (by decide) rfl ?_
      refine T_icmp_eq (pc' := 54) dX3_nearer_30 (by decide) (pf := 33) rfl (fun c3 => ?_) (fun c3 => ?_)
      · skip
        refine T_iinc (L' := [(2, 16), (2, g), (0, v2), (0, v3), (0, (wr32 (v4 + 1))), (0, (fX1_stepFrom M g v2 v4))]) (pc' := 57) dX3_nearer_54 rfl (by decide) rfl rfl ?_
        refine T_goto (pc' := 12) dX3_nearer_57 (by decide) ?_
        rw [hw]
        exact T_wk (ih _ _ (v4 + 1) _ (by omega) (by omega) (by have q := hQ; try simp only [if_pos c3] at q; exact q) hG) ⟨Or.inr rfl, Or.inr rfl, Or.inr rfl, Or.inr rfl, Or.inr rfl, Or.inl rfl, trivial⟩
      · skip
        refine T_iload_n (i := 3) (pc' := 34) dX3_nearer_33 rfl rfl rfl ?_
        refine T_iconst (pc' := 35) dX3_nearer_34 (by decide) rfl ?_
        refine T_icmp_eq (pc' := 54) dX3_nearer_35 (by decide) (pf := 38) rfl (fun c4 => ?_) (fun c4 => ?_)
        · skip
          refine T_iinc (L' := [(2, 16), (2, g), (0, v2), (0, v3), (0, (wr32 (v4 + 1))), (0, (fX1_stepFrom M g v2 v4))]) (pc' := 57) dX3_nearer_54 rfl (by decide) rfl rfl ?_
          refine T_goto (pc' := 12) dX3_nearer_57 (by decide) ?_
          rw [hw]
          exact T_wk (ih _ _ (v4 + 1) _ (by omega) (by omega) (by have q := hQ; try simp only [if_neg c3] at q; try simp only [if_pos c4] at q; exact q) hG) ⟨Or.inr rfl, Or.inr rfl, Or.inr rfl, Or.inr rfl, Or.inr rfl, Or.inl rfl, trivial⟩
        · skip
          refine T_aload_n (i := 0) (pc' := 39) dX3_nearer_38 rfl rfl rfl ?_
          refine U_gr (q := 23) (k := 6) (kI := 6) (pc' := 42) dX3_nearer_39 rfl cl3 (by decide) rfl (by decide) flX3_30 rfl rfl rfl (G_at hG 28 rfl) (by decide) rfl ?_
          refine T_iload (i := 5) (pc' := 44) dX3_nearer_42 rfl rfl ?_
          refine T_callSN (av := [(2, 23), (0, (fX1_stepFrom M g v2 v4))]) (st := []) (d2 := 1) (nc2 := 0) (ns2 := 0) (pc' := 47) dX3_nearer_44 rfl mtX11_get mvX11_get mlX3_67 rfl rfl (Nat.le_of_ble_eq_true rfl) (by decide) ⟨by decide, by decide⟩ rfl (pX11_get (E := E) (h := h) (M := M) (p0 := 23) (np0 := 54) (v1 := (fX1_stepFrom M g v2 v4)) (by decide) rfl (by decide) hG) (kF (st2 := [(0, (fX11_get M 23 54 (fX1_stepFrom M g v2 v4)))]) rfl (fun hG5 => ?_))
          refine T_iload_n (i := 3) (pc' := 48) dX3_nearer_47 rfl rfl rfl ?_
          refine T_icmp_ge (pc' := 54) dX3_nearer_48 (by decide) (pf := 51) rfl (fun c6 => ?_) (fun c6 => ?_)
          · skip
            refine T_iinc (L' := [(2, 16), (2, g), (0, v2), (0, v3), (0, (wr32 (v4 + 1))), (0, (fX1_stepFrom M g v2 v4))]) (pc' := 57) dX3_nearer_54 rfl (by decide) rfl rfl ?_
            refine T_goto (pc' := 12) dX3_nearer_57 (by decide) ?_
            rw [hw]
            exact T_wk (ih _ _ (v4 + 1) _ (by omega) (by omega) (by have q := hQ; try simp only [if_neg c3] at q; try simp only [if_neg c4] at q; try simp only [if_pos c6] at q; exact q) hG) ⟨Or.inr rfl, Or.inr rfl, Or.inr rfl, Or.inr rfl, Or.inr rfl, Or.inl rfl, trivial⟩
          · skip
            refine T_iload (i := 5) (pc' := 53) dX3_nearer_51 rfl rfl ?_
            exact T_iret dX3_nearer_53 rfl ⟨rfl, hG, (by have q := hQ; try simp only [if_neg c3] at q; try simp only [if_neg c4] at q; try simp only [if_neg c6] at q; exact q)⟩
def fX3_nearer (M : Mem) (g : Int) (v2 : Int) : Int :=
  (lX3_nearer_12 g 4 v2 (fX11_get M 23 54 v2) 0 M)
set_option maxRecDepth 100000 in
theorem pX3_nearer {E : EV} {h : Int} {M : Mem} {g : Int} {v2 : Int} (hg : isG g) : C2 E miX3_nearer 4 h [(2, 16), (2, g), (0, v2)] M (fun r M' => r = some (0, (fX3_nearer M g v2)) ∧ M' = M) := by
  obtain ⟨Q, hQ0⟩ : ∃ Q : Option MV → Mem → Prop, Q = (fun r M' => r = some (0, (fX3_nearer M g v2)) ∧ M' = M) := ⟨_, rfl⟩
  rw [← hQ0]
  have hQ : Q (some (0, (lX3_nearer_12 g 4 v2 (fX11_get M 23 54 v2) 0 M))) M := by rw [hQ0]; exact ⟨rfl, rfl⟩
  refine C2_of (L := [(2, 16), (2, g), (0, v2), (3, 0), (3, 0), (3, 0)]) (by decide +kernel) (Nat.le_of_ble_eq_true rfl) rfl (fun hG => ?_)
  refine T_aload_n (i := 0) (pc' := 1) dX3_nearer_0 rfl rfl rfl ?_
  refine U_gr (q := 23) (k := 6) (kI := 6) (pc' := 4) dX3_nearer_1 rfl cl3 (by decide) rfl (by decide) flX3_30 rfl rfl rfl (G_at hG 28 rfl) (by decide) rfl ?_
  refine T_iload_n (i := 2) (pc' := 5) dX3_nearer_4 rfl rfl rfl ?_
  refine T_callSN (av := [(2, 23), (0, v2)]) (st := []) (d2 := 1) (nc2 := 0) (ns2 := 0) (pc' := 8) dX3_nearer_5 rfl mtX11_get mvX11_get mlX3_67 rfl rfl (Nat.le_of_ble_eq_true rfl) (by decide) ⟨by decide, by decide⟩ rfl (pX11_get (E := E) (h := h) (M := M) (p0 := 23) (np0 := 54) (v1 := v2) (by decide) rfl (by decide) hG) (kF (st2 := [(0, (fX11_get M 23 54 v2))]) rfl (fun hG1 => ?_))
  refine T_istore_n (i := 3) (L' := [(2, 16), (2, g), (0, v2), (0, (fX11_get M 23 54 v2)), (3, 0), (3, 0)]) (pc' := 9) dX3_nearer_8 rfl (by decide) rfl rfl ?_
  refine T_iconst (pc' := 10) dX3_nearer_9 (by decide) rfl ?_
  refine T_istore (i := 4) (L' := [(2, 16), (2, g), (0, v2), (0, (fX11_get M 23 54 v2)), (0, 0), (3, 0)]) (pc' := 12) dX3_nearer_10 (by decide) rfl rfl ?_
  exact T_wk (qX3_nearer_12 hg 4 v2 (fX11_get M 23 54 v2) 0 _ (by first | decide | omega) rfl hQ hG) ⟨Or.inr rfl, Or.inr rfl, Or.inr rfl, Or.inr rfl, Or.inr rfl, Or.inl rfl, trivial⟩
def lX7_findFirst_7 (g : Int) : Nat → Int → Int → Int → Mem → Int
  | 0, v2, v3, v4, M => v3
  | k + 1, v2, v3, v4, M => (lX7_findFirst_7 g k v2 (if (fX11_hasBit v2 v4) = 0 then v3 else (if (if (fX11_hasBit (M (g + 1) 7) v4) = 0 then (if 1 < (wr32 ((wr32 ((M g 14) + (fX11_get M (g + 4) 9 v4))) - 60)) then (wr32 ((wr32 ((M g 14) + (fX11_get M (g + 4) 9 v4))) - 60)) else 1) else 201) < v3 then (if (fX11_hasBit (M (g + 1) 7) v4) = 0 then (if 1 < (wr32 ((wr32 ((M g 14) + (fX11_get M (g + 4) 9 v4))) - 60)) then (wr32 ((wr32 ((M g 14) + (fX11_get M (g + 4) 9 v4))) - 60)) else 1) else 201) else v3)) (v4 + 1) (fmX11_put M 12 9 v4 (if (fX11_hasBit (M (g + 1) 7) v4) = 0 then (if 1 < (wr32 ((wr32 ((M g 14) + (fX11_get M (g + 4) 9 v4))) - 60)) then (wr32 ((wr32 ((M g 14) + (fX11_get M (g + 4) 9 v4))) - 60)) else 1) else 201)))
def lmX7_findFirst_7 (g : Int) : Nat → Int → Int → Int → Mem → Mem
  | 0, v2, v3, v4, M => M
  | k + 1, v2, v3, v4, M => (lmX7_findFirst_7 g k v2 (if (fX11_hasBit v2 v4) = 0 then v3 else (if (if (fX11_hasBit (M (g + 1) 7) v4) = 0 then (if 1 < (wr32 ((wr32 ((M g 14) + (fX11_get M (g + 4) 9 v4))) - 60)) then (wr32 ((wr32 ((M g 14) + (fX11_get M (g + 4) 9 v4))) - 60)) else 1) else 201) < v3 then (if (fX11_hasBit (M (g + 1) 7) v4) = 0 then (if 1 < (wr32 ((wr32 ((M g 14) + (fX11_get M (g + 4) 9 v4))) - 60)) then (wr32 ((wr32 ((M g 14) + (fX11_get M (g + 4) 9 v4))) - 60)) else 1) else 201) else v3)) (v4 + 1) (fmX11_put M 12 9 v4 (if (fX11_hasBit (M (g + 1) 7) v4) = 0 then (if 1 < (wr32 ((wr32 ((M g 14) + (fX11_get M (g + 4) 9 v4))) - 60)) then (wr32 ((wr32 ((M g 14) + (fX11_get M (g + 4) 9 v4))) - 60)) else 1) else 201)))
theorem frlX7_findFirst_7 {g : Int} {q : Int} (hq0 : q ≠ 12) : ∀ {k : Nat} {v2 v3 v4 : Int} {M : Mem}, (lmX7_findFirst_7 g k v2 v3 v4 M) q = M q := by
  intro k
  induction k with
  | zero =>
    intro v2 v3 v4 M
    show M q = M q
    repeat' (first | rfl | rw [mset_p hq0] | rw [mcpy_p hq0] | (rw [frX11_put] <;> try assumption) | rw [ite_ap] | split)
  | succ k ih =>
    intro v2 v3 v4 M
    show (lmX7_findFirst_7 g k v2 (if (fX11_hasBit v2 v4) = 0 then v3 else (if (if (fX11_hasBit (M (g + 1) 7) v4) = 0 then (if 1 < (wr32 ((wr32 ((M g 14) + (fX11_get M (g + 4) 9 v4))) - 60)) then (wr32 ((wr32 ((M g 14) + (fX11_get M (g + 4) 9 v4))) - 60)) else 1) else 201) < v3 then (if (fX11_hasBit (M (g + 1) 7) v4) = 0 then (if 1 < (wr32 ((wr32 ((M g 14) + (fX11_get M (g + 4) 9 v4))) - 60)) then (wr32 ((wr32 ((M g 14) + (fX11_get M (g + 4) 9 v4))) - 60)) else 1) else 201) else v3)) (v4 + 1) (fmX11_put M 12 9 v4 (if (fX11_hasBit (M (g + 1) 7) v4) = 0 then (if 1 < (wr32 ((wr32 ((M g 14) + (fX11_get M (g + 4) 9 v4))) - 60)) then (wr32 ((wr32 ((M g 14) + (fX11_get M (g + 4) 9 v4))) - 60)) else 1) else 201))) q = M q
    repeat' (first | rfl | rw [mset_p hq0] | rw [mcpy_p hq0] | (rw [frX11_put] <;> try assumption) | rw [ite_ap] | split | rw [ih])
set_option maxRecDepth 100000 in
set_option maxHeartbeats 2000000 in
theorem qX7_findFirst_7 {E : EV} {h : Int} {Q : Option MV → Mem → Prop} {g : Int} (hg : isG g) : ∀ (k : Nat) (v2 v3 v4 : Int) (M : Mem), 0 ≤ v4 → (((M (g + 1) 8)) - v4).toNat = k → Q (some (0, (lX7_findFirst_7 g k v2 v3 v4 M))) (lmX7_findFirst_7 g k v2 v3 v4 M) → G h M → TG E miX7_findFirst 2 h Q 7 [(2, 9), (2, g), (0, v2), (0, v3), (0, v4), (3, 0)] [] M := by
  intro k
  induction k with
  | zero =>
    intro v2 v3 v4 M hv0 hk hQ hG
    have hQ : Q (some (0, v3)) M := hQ
    refine T_iload (i := 4) (pc' := 9) dX7_findFirst_7 rfl rfl ?_
    refine T_aload_n (i := 1) (pc' := 10) dX7_findFirst_9 rfl rfl rfl ?_
    refine U_grN (q := (g + 1)) (k := 0) (kI := 0) (pc' := 13) dX7_findFirst_10 rfl cl1 (pog0 hg) (shg0 hg) (by decide) flX7_46 rfl rfl rfl (grg0_0 hg hG) (pog1 hg) rfl ?_
    refine U_gfN (v := (0, (M (g + 1) 8))) (k := 8) (kI := 8) (pc' := 16) dX7_findFirst_13 rfl cl4 (pog1 hg) (shg1 hg) (by decide) flX7_52 rfl rfl (by decide) rfl rfl ?_
    refine T_rng (fun _ z9 _ => ?_)
    have hB : r32 (M (g + 1) 8) := (ok_cons.mp z9).1
    unfold r32 at hB
    refine T_icmp_ge (pc' := 98) dX7_findFirst_16 (by decide) (pf := 19) rfl (fun c1 => ?_) (fun c1 => ?_)
    · skip
      refine T_iload_n (i := 3) (pc' := 99) dX7_findFirst_98 rfl rfl rfl ?_
      exact T_iret dX7_findFirst_99 rfl ⟨rfl, hG, hQ⟩
    · exact absurd c1 (by omega)
  | succ k ih =>
    intro v2 v3 v4 M hv0 hk hQ hG
    have hQ : Q (some (0, (lX7_findFirst_7 g k v2 (if (fX11_hasBit v2 v4) = 0 then v3 else (if (if (fX11_hasBit (M (g + 1) 7) v4) = 0 then (if 1 < (wr32 ((wr32 ((M g 14) + (fX11_get M (g + 4) 9 v4))) - 60)) then (wr32 ((wr32 ((M g 14) + (fX11_get M (g + 4) 9 v4))) - 60)) else 1) else 201) < v3 then (if (fX11_hasBit (M (g + 1) 7) v4) = 0 then (if 1 < (wr32 ((wr32 ((M g 14) + (fX11_get M (g + 4) 9 v4))) - 60)) then (wr32 ((wr32 ((M g 14) + (fX11_get M (g + 4) 9 v4))) - 60)) else 1) else 201) else v3)) (v4 + 1) (fmX11_put M 12 9 v4 (if (fX11_hasBit (M (g + 1) 7) v4) = 0 then (if 1 < (wr32 ((wr32 ((M g 14) + (fX11_get M (g + 4) 9 v4))) - 60)) then (wr32 ((wr32 ((M g 14) + (fX11_get M (g + 4) 9 v4))) - 60)) else 1) else 201))))) (lmX7_findFirst_7 g k v2 (if (fX11_hasBit v2 v4) = 0 then v3 else (if (if (fX11_hasBit (M (g + 1) 7) v4) = 0 then (if 1 < (wr32 ((wr32 ((M g 14) + (fX11_get M (g + 4) 9 v4))) - 60)) then (wr32 ((wr32 ((M g 14) + (fX11_get M (g + 4) 9 v4))) - 60)) else 1) else 201) < v3 then (if (fX11_hasBit (M (g + 1) 7) v4) = 0 then (if 1 < (wr32 ((wr32 ((M g 14) + (fX11_get M (g + 4) 9 v4))) - 60)) then (wr32 ((wr32 ((M g 14) + (fX11_get M (g + 4) 9 v4))) - 60)) else 1) else 201) else v3)) (v4 + 1) (fmX11_put M 12 9 v4 (if (fX11_hasBit (M (g + 1) 7) v4) = 0 then (if 1 < (wr32 ((wr32 ((M g 14) + (fX11_get M (g + 4) 9 v4))) - 60)) then (wr32 ((wr32 ((M g 14) + (fX11_get M (g + 4) 9 v4))) - 60)) else 1) else 201))) := hQ
    refine T_iload (i := 4) (pc' := 9) dX7_findFirst_7 rfl rfl ?_
    refine T_aload_n (i := 1) (pc' := 10) dX7_findFirst_9 rfl rfl rfl ?_
    refine U_grN (q := (g + 1)) (k := 0) (kI := 0) (pc' := 13) dX7_findFirst_10 rfl cl1 (pog0 hg) (shg0 hg) (by decide) flX7_46 rfl rfl rfl (grg0_0 hg hG) (pog1 hg) rfl ?_
    refine U_gfN (v := (0, (M (g + 1) 8))) (k := 8) (kI := 8) (pc' := 16) dX7_findFirst_13 rfl cl4 (pog1 hg) (shg1 hg) (by decide) flX7_52 rfl rfl (by decide) rfl rfl ?_
    refine T_rng (fun _ z9 _ => ?_)
    have hB : r32 (M (g + 1) 8) := (ok_cons.mp z9).1
    unfold r32 at hB
    refine T_icmp_ge (pc' := 98) dX7_findFirst_16 (by decide) (pf := 19) rfl (fun c1 => ?_) (fun c1 => ?_)
    · exact absurd c1 (by omega)
    · skip
      have hw : wr32 (v4 + 1) = v4 + 1 := wr32_id (by unfold r32; omega)
      refine T_sipush (pc' := 22) dX7_findFirst_19 rfl (by decide) rfl ?_
      refine T_istore (i := 5) (L' := [(2, 9), (2, g), (0, v2), (0, v3), (0, v4), (0, 201)]) (pc' := 24) dX7_findFirst_22 (by decide) rfl rfl ?_
      refine T_aload_n (i := 1) (pc' := 25) dX7_findFirst_24 rfl rfl rfl ?_
      refine U_grN (q := (g + 1)) (k := 0) (kI := 0) (pc' := 28) dX7_findFirst_25 rfl cl1 (pog0 hg) (shg0 hg) (by decide) flX7_46 rfl rfl rfl (grg0_0 hg hG) (pog1 hg) rfl ?_
      refine U_gfN (v := (0, (M (g + 1) 7))) (k := 7) (kI := 7) (pc' := 31) dX7_findFirst_28 rfl cl4 (pog1 hg) (shg1 hg) (by decide) flX7_129 rfl rfl (by decide) rfl rfl ?_
      refine T_iload (i := 4) (pc' := 33) dX7_findFirst_31 rfl rfl ?_
      refine T_callSN (av := [(0, (M (g + 1) 7)), (0, v4)]) (st := []) (d2 := 1) (nc2 := 0) (ns2 := 0) (pc' := 36) dX7_findFirst_33 rfl mtX11_hasBit mvX11_hasBit mlX7_122 rfl rfl (Nat.le_of_ble_eq_true rfl) (by decide) ⟨by decide, by decide⟩ rfl (pX11_hasBit (E := E) (h := h) (M := M) (v0 := (M (g + 1) 7)) (v1 := v4) hG) (kF (st2 := [(0, (fX11_hasBit (M (g + 1) 7) v4))]) rfl (fun hG2 => ?_))
      have HJ3 : T E miX7_findFirst 2 126 0 0 (fun r S M' => S = S0 ∧ G h M' ∧ Q r M') 65 [(2, 9), (2, g), (0, v2), (0, v3), (0, v4), (0, (if (fX11_hasBit (M (g + 1) 7) v4) = 0 then (if 1 < (wr32 ((wr32 ((M g 14) + (fX11_get M (g + 4) 9 v4))) - 60)) then (wr32 ((wr32 ((M g 14) + (fX11_get M (g + 4) 9 v4))) - 60)) else 1) else 201))] [] S0 M 0 0 := by
        refine T_aload_n (i := 0) (pc' := 66) dX7_findFirst_65 rfl rfl rfl ?_
        refine U_gr (q := 12) (k := 2) (kI := 2) (pc' := 69) dX7_findFirst_66 rfl cl7 (by decide) rfl (by decide) flX7_18 rfl rfl rfl (G_at hG 18 rfl) (by decide) rfl ?_
        refine T_iload (i := 4) (pc' := 71) dX7_findFirst_69 rfl rfl ?_
        refine T_iload (i := 5) (pc' := 73) dX7_findFirst_71 rfl rfl ?_
        refine T_callSN (av := [(2, 12), (0, v4), (0, (if (fX11_hasBit (M (g + 1) 7) v4) = 0 then (if 1 < (wr32 ((wr32 ((M g 14) + (fX11_get M (g + 4) 9 v4))) - 60)) then (wr32 ((wr32 ((M g 14) + (fX11_get M (g + 4) 9 v4))) - 60)) else 1) else 201))]) (st := []) (d2 := 1) (nc2 := 0) (ns2 := 0) (pc' := 76) dX7_findFirst_73 rfl mtX11_put mvX11_put mlX7_75 rfl rfl (Nat.le_of_ble_eq_true rfl) (by decide) ⟨by decide, by decide⟩ rfl (pX11_put (E := E) (h := h) (M := M) (p0 := 12) (np0 := 9) (v1 := v4) (v2 := (if (fX11_hasBit (M (g + 1) 7) v4) = 0 then (if 1 < (wr32 ((wr32 ((M g 14) + (fX11_get M (g + 4) 9 v4))) - 60)) then (wr32 ((wr32 ((M g 14) + (fX11_get M (g + 4) 9 v4))) - 60)) else 1) else 201)) (by decide) rfl (by decide) hG) (kF (st2 := []) rfl (fun hG4 => ?_))
        refine T_iload_n (i := 2) (pc' := 77) dX7_findFirst_76 rfl rfl rfl ?_
        refine T_iload (i := 4) (pc' := 79) dX7_findFirst_77 rfl rfl ?_
        refine T_callSN (av := [(0, v2), (0, v4)]) (st := []) (d2 := 1) (nc2 := 0) (ns2 := 0) (pc' := 82) dX7_findFirst_79 rfl mtX11_hasBit mvX11_hasBit mlX7_122 rfl rfl (Nat.le_of_ble_eq_true rfl) (by decide) ⟨by decide, by decide⟩ rfl (pX11_hasBit (E := E) (h := h) (M := (fmX11_put M 12 9 v4 (if (fX11_hasBit (M (g + 1) 7) v4) = 0 then (if 1 < (wr32 ((wr32 ((M g 14) + (fX11_get M (g + 4) 9 v4))) - 60)) then (wr32 ((wr32 ((M g 14) + (fX11_get M (g + 4) 9 v4))) - 60)) else 1) else 201))) (v0 := v2) (v1 := v4) (gX11_put (h := h) (M := M) (p0 := 12) (np0 := 9) (v1 := v4) (v2 := (if (fX11_hasBit (M (g + 1) 7) v4) = 0 then (if 1 < (wr32 ((wr32 ((M g 14) + (fX11_get M (g + 4) 9 v4))) - 60)) then (wr32 ((wr32 ((M g 14) + (fX11_get M (g + 4) 9 v4))) - 60)) else 1) else 201)) (by decide) rfl (by decide) hG)) (kF (st2 := [(0, (fX11_hasBit v2 v4))]) rfl (fun hG5 => ?_))
        have HJ6 : T E miX7_findFirst 2 126 0 0 (fun r S M' => S = S0 ∧ G h M' ∧ Q r M') 92 [(2, 9), (2, g), (0, v2), (0, (if (fX11_hasBit v2 v4) = 0 then v3 else (if (if (fX11_hasBit (M (g + 1) 7) v4) = 0 then (if 1 < (wr32 ((wr32 ((M g 14) + (fX11_get M (g + 4) 9 v4))) - 60)) then (wr32 ((wr32 ((M g 14) + (fX11_get M (g + 4) 9 v4))) - 60)) else 1) else 201) < v3 then (if (fX11_hasBit (M (g + 1) 7) v4) = 0 then (if 1 < (wr32 ((wr32 ((M g 14) + (fX11_get M (g + 4) 9 v4))) - 60)) then (wr32 ((wr32 ((M g 14) + (fX11_get M (g + 4) 9 v4))) - 60)) else 1) else 201) else v3))), (0, v4), (3, 0)] [] S0 (fmX11_put M 12 9 v4 (if (fX11_hasBit (M (g + 1) 7) v4) = 0 then (if 1 < (wr32 ((wr32 ((M g 14) + (fX11_get M (g + 4) 9 v4))) - 60)) then (wr32 ((wr32 ((M g 14) + (fX11_get M (g + 4) 9 v4))) - 60)) else 1) else 201)) 0 0 := by
          refine T_iinc (L' := [(2, 9), (2, g), (0, v2), (0, (if (fX11_hasBit v2 v4) = 0 then v3 else (if (if (fX11_hasBit (M (g + 1) 7) v4) = 0 then (if 1 < (wr32 ((wr32 ((M g 14) + (fX11_get M (g + 4) 9 v4))) - 60)) then (wr32 ((wr32 ((M g 14) + (fX11_get M (g + 4) 9 v4))) - 60)) else 1) else 201) < v3 then (if (fX11_hasBit (M (g + 1) 7) v4) = 0 then (if 1 < (wr32 ((wr32 ((M g 14) + (fX11_get M (g + 4) 9 v4))) - 60)) then (wr32 ((wr32 ((M g 14) + (fX11_get M (g + 4) 9 v4))) - 60)) else 1) else 201) else v3))), (0, (wr32 (v4 + 1))), (3, 0)]) (pc' := 95) dX7_findFirst_92 rfl (by decide) rfl rfl ?_
          refine T_goto (pc' := 7) dX7_findFirst_95 (by decide) ?_
          rw [hw]
          have hbd : ((fmX11_put M 12 9 v4 (if (fX11_hasBit (M (g + 1) 7) v4) = 0 then (if 1 < (wr32 ((wr32 ((M g 14) + (fX11_get M (g + 4) 9 v4))) - 60)) then (wr32 ((wr32 ((M g 14) + (fX11_get M (g + 4) 9 v4))) - 60)) else 1) else 201)) (g + 1) 8) = (M (g + 1) 8) := by
            repeat' (first | rfl | (rw [mset_p] <;> first | decide | (unfold isG at *; omega)) | (rw [frX11_put] <;> first | decide | (unfold isG at *; omega)) | rw [ite_ap] | split)
          exact T_wk (ih _ _ (v4 + 1) _ (by omega) (by rw [hbd]; omega) hQ (gX11_put (h := h) (M := M) (p0 := 12) (np0 := 9) (v1 := v4) (v2 := (if (fX11_hasBit (M (g + 1) 7) v4) = 0 then (if 1 < (wr32 ((wr32 ((M g 14) + (fX11_get M (g + 4) 9 v4))) - 60)) then (wr32 ((wr32 ((M g 14) + (fX11_get M (g + 4) 9 v4))) - 60)) else 1) else 201)) (by decide) rfl (by decide) hG)) ⟨Or.inr rfl, Or.inr rfl, Or.inr rfl, Or.inr rfl, Or.inr rfl, Or.inl rfl, trivial⟩
        refine T_if_eq (pc' := 92) dX7_findFirst_82 (by decide) (pf := 85) rfl (fun c7 => ?_) (fun c7 => ?_)
        · skip
          exact T_wk (L' := [(2, 9), (2, g), (0, v2), (0, v3), (0, v4), (3, 0)]) (by have q := HJ6; try simp only [if_pos c7] at q; exact q) ⟨Or.inr rfl, Or.inr rfl, Or.inr rfl, Or.inr rfl, Or.inr rfl, Or.inl rfl, trivial⟩
        · skip
          refine T_iload_n (i := 3) (pc' := 86) dX7_findFirst_85 rfl rfl rfl ?_
          refine T_iload (i := 5) (pc' := 88) dX7_findFirst_86 rfl rfl ?_
          refine U_mmin (pc' := 91) dX7_findFirst_88 rfl mlX7_126 (Nat.le_of_ble_eq_true rfl) (by decide) ⟨by decide, by decide⟩ rfl ?_
          refine T_istore_n (i := 3) (L' := [(2, 9), (2, g), (0, v2), (0, (if (if (fX11_hasBit (M (g + 1) 7) v4) = 0 then (if 1 < (wr32 ((wr32 ((M g 14) + (fX11_get M (g + 4) 9 v4))) - 60)) then (wr32 ((wr32 ((M g 14) + (fX11_get M (g + 4) 9 v4))) - 60)) else 1) else 201) < v3 then (if (fX11_hasBit (M (g + 1) 7) v4) = 0 then (if 1 < (wr32 ((wr32 ((M g 14) + (fX11_get M (g + 4) 9 v4))) - 60)) then (wr32 ((wr32 ((M g 14) + (fX11_get M (g + 4) 9 v4))) - 60)) else 1) else 201) else v3)), (0, v4), (0, (if (fX11_hasBit (M (g + 1) 7) v4) = 0 then (if 1 < (wr32 ((wr32 ((M g 14) + (fX11_get M (g + 4) 9 v4))) - 60)) then (wr32 ((wr32 ((M g 14) + (fX11_get M (g + 4) 9 v4))) - 60)) else 1) else 201))]) (pc' := 92) dX7_findFirst_91 rfl (by decide) rfl rfl ?_
          exact T_wk (L' := [(2, 9), (2, g), (0, v2), (0, (if (if (fX11_hasBit (M (g + 1) 7) v4) = 0 then (if 1 < (wr32 ((wr32 ((M g 14) + (fX11_get M (g + 4) 9 v4))) - 60)) then (wr32 ((wr32 ((M g 14) + (fX11_get M (g + 4) 9 v4))) - 60)) else 1) else 201) < v3 then (if (fX11_hasBit (M (g + 1) 7) v4) = 0 then (if 1 < (wr32 ((wr32 ((M g 14) + (fX11_get M (g + 4) 9 v4))) - 60)) then (wr32 ((wr32 ((M g 14) + (fX11_get M (g + 4) 9 v4))) - 60)) else 1) else 201) else v3)), (0, v4), (3, 0)]) (by have q := HJ6; try simp only [if_neg c7] at q; exact q) ⟨Or.inr rfl, Or.inr rfl, Or.inr rfl, Or.inr rfl, Or.inr rfl, Or.inl rfl, trivial⟩
      refine T_if_ne (pc' := 65) dX7_findFirst_36 (by decide) (pf := 39) rfl (fun c8 => ?_) (fun c8 => ?_)
      · skip
        exact T_wk (L' := [(2, 9), (2, g), (0, v2), (0, v3), (0, v4), (0, 201)]) (by have q := HJ3; try simp only [if_neg c8] at q; exact q) ⟨Or.inr rfl, Or.inr rfl, Or.inr rfl, Or.inr rfl, Or.inr rfl, Or.inr rfl, trivial⟩
      · skip
        refine T_iconst (pc' := 40) dX7_findFirst_39 (by decide) rfl ?_
        refine T_aload_n (i := 1) (pc' := 41) dX7_findFirst_40 rfl rfl rfl ?_
        refine U_gfN (v := (0, (M g 14))) (k := 14) (kI := 14) (pc' := 44) dX7_findFirst_41 rfl cl1 (pog0 hg) (shg0 hg) (by decide) flX7_132 rfl rfl (by decide) rfl rfl ?_
        refine T_aload_n (i := 1) (pc' := 45) dX7_findFirst_44 rfl rfl rfl ?_
        refine U_grN (q := (g + 1)) (k := 0) (kI := 0) (pc' := 48) dX7_findFirst_45 rfl cl1 (pog0 hg) (shg0 hg) (by decide) flX7_46 rfl rfl rfl (grg0_0 hg hG) (pog1 hg) rfl ?_
        refine U_grN (q := (g + 4)) (k := 2) (kI := 2) (pc' := 51) dX7_findFirst_48 rfl cl4 (pog1 hg) (shg1 hg) (by decide) flX7_135 rfl rfl rfl (grg1_2 hg hG) (pog4 hg) rfl ?_
        refine T_iload (i := 4) (pc' := 53) dX7_findFirst_51 rfl rfl ?_
        refine T_callSN (av := [(2, (g + 4)), (0, v4)]) (st := [(0, (M g 14)), (0, 1)]) (d2 := 1) (nc2 := 0) (ns2 := 0) (pc' := 56) dX7_findFirst_53 rfl mtX11_get mvX11_get mlX7_71 rfl rfl (Nat.le_of_ble_eq_true rfl) (by decide) ⟨by decide, by decide⟩ rfl (pX11_get (E := E) (h := h) (M := M) (p0 := (g + 4)) (np0 := 9) (v1 := v4) (pog4 hg) (shg4 hg) (by decide) hG) (kF (st2 := [(0, (fX11_get M (g + 4) 9 v4)), (0, (M g 14)), (0, 1)]) rfl (fun hG9 => ?_))
        refine T_iadd (pc' := 57) dX7_findFirst_56 rfl ?_
        refine T_bipush (pc' := 59) dX7_findFirst_57 rfl (by decide) rfl ?_
        refine T_isub (pc' := 60) dX7_findFirst_59 rfl ?_
        refine U_mmax (pc' := 63) dX7_findFirst_60 rfl mlX7_117 (Nat.le_of_ble_eq_true rfl) (by decide) ⟨by decide, by decide⟩ rfl ?_
        refine T_istore (i := 5) (L' := [(2, 9), (2, g), (0, v2), (0, v3), (0, v4), (0, (if 1 < (wr32 ((wr32 ((M g 14) + (fX11_get M (g + 4) 9 v4))) - 60)) then (wr32 ((wr32 ((M g 14) + (fX11_get M (g + 4) 9 v4))) - 60)) else 1))]) (pc' := 65) dX7_findFirst_63 (by decide) rfl rfl ?_
        exact T_wk (L' := [(2, 9), (2, g), (0, v2), (0, v3), (0, v4), (0, (if 1 < (wr32 ((wr32 ((M g 14) + (fX11_get M (g + 4) 9 v4))) - 60)) then (wr32 ((wr32 ((M g 14) + (fX11_get M (g + 4) 9 v4))) - 60)) else 1))]) (by have q := HJ3; try simp only [if_pos c8] at q; exact q) ⟨Or.inr rfl, Or.inr rfl, Or.inr rfl, Or.inr rfl, Or.inr rfl, Or.inr rfl, trivial⟩
def fX7_findFirst (M : Mem) (g : Int) (v2 : Int) : Int :=
  (lX7_findFirst_7 g ((((M (g + 1) 8)) : Int) - 0).toNat v2 201 0 M)
def fmX7_findFirst (M : Mem) (g : Int) (v2 : Int) : Mem :=
  (lmX7_findFirst_7 g ((((M (g + 1) 8)) : Int) - 0).toNat v2 201 0 M)
theorem frX7_findFirst {M : Mem} {g : Int} {v2 : Int} {q : Int} (hq0 : q ≠ 12) : (fmX7_findFirst M g v2) q = M q := by
  unfold fmX7_findFirst
  repeat' (first | rfl | rw [mset_p hq0] | rw [mcpy_p hq0] | (rw [frX11_put] <;> try assumption) | (rw [frlX7_findFirst_7] <;> try assumption) | rw [ite_ap] | split)
set_option maxRecDepth 100000 in
theorem pX7_findFirst {E : EV} {h : Int} {M : Mem} {g : Int} {v2 : Int} (hg : isG g) : C2 E miX7_findFirst 2 h [(2, 9), (2, g), (0, v2)] M (fun r M' => r = some (0, (fX7_findFirst M g v2)) ∧ M' = (fmX7_findFirst M g v2)) := by
  obtain ⟨Q, hQ0⟩ : ∃ Q : Option MV → Mem → Prop, Q = (fun r M' => r = some (0, (fX7_findFirst M g v2)) ∧ M' = (fmX7_findFirst M g v2)) := ⟨_, rfl⟩
  rw [← hQ0]
  have hQ : Q (some (0, (lX7_findFirst_7 g ((((M (g + 1) 8)) : Int) - 0).toNat v2 201 0 M))) (lmX7_findFirst_7 g ((((M (g + 1) 8)) : Int) - 0).toNat v2 201 0 M) := by rw [hQ0]; exact ⟨rfl, rfl⟩
  refine C2_of (L := [(2, 9), (2, g), (0, v2), (3, 0), (3, 0), (3, 0)]) (by decide +kernel) (Nat.le_of_ble_eq_true rfl) rfl (fun hG => ?_)
  refine T_sipush (pc' := 3) dX7_findFirst_0 rfl (by decide) rfl ?_
  refine T_istore_n (i := 3) (L' := [(2, 9), (2, g), (0, v2), (0, 201), (3, 0), (3, 0)]) (pc' := 4) dX7_findFirst_3 rfl (by decide) rfl rfl ?_
  refine T_iconst (pc' := 5) dX7_findFirst_4 (by decide) rfl ?_
  refine T_istore (i := 4) (L' := [(2, 9), (2, g), (0, v2), (0, 201), (0, 0), (3, 0)]) (pc' := 7) dX7_findFirst_5 (by decide) rfl rfl ?_
  exact T_wk (qX7_findFirst_7 hg _ v2 201 0 _ (by first | decide | omega) rfl hQ hG) ⟨Or.inr rfl, Or.inr rfl, Or.inr rfl, Or.inr rfl, Or.inr rfl, Or.inl rfl, trivial⟩
def lX7_nextStrike_6 (g : Int) : Nat → Int → Int → Mem → Int
  | 0, v2, v3, M => v2
  | k + 1, v2, v3, M => (lX7_nextStrike_6 g k (if (fX11_hasBit (M 9 6) v3) = 0 then v2 else (if (fX11_get M 12 9 v3) < v2 then (fX11_get M 12 9 v3) else v2)) (v3 + 1) M)
set_option maxRecDepth 100000 in
set_option maxHeartbeats 2000000 in
theorem qX7_nextStrike_6 {E : EV} {h : Int} {Q : Option MV → Mem → Prop} {g : Int} (hg : isG g) : ∀ (k : Nat) (v2 v3 : Int) (M : Mem), 0 ≤ v3 → (((M (g + 1) 8)) - v3).toNat = k → Q (some (0, (lX7_nextStrike_6 g k v2 v3 M))) M → G h M → TG E miX7_nextStrike 2 h Q 6 [(2, 9), (2, g), (0, v2), (0, v3)] [] M := by
  intro k
  induction k with
  | zero =>
    intro v2 v3 M hv0 hk hQ hG
    have hQ : Q (some (0, v2)) M := hQ
    refine T_iload_n (i := 3) (pc' := 7) dX7_nextStrike_6 rfl rfl rfl ?_
    refine T_aload_n (i := 1) (pc' := 8) dX7_nextStrike_7 rfl rfl rfl ?_
    refine U_grN (q := (g + 1)) (k := 0) (kI := 0) (pc' := 11) dX7_nextStrike_8 rfl cl1 (pog0 hg) (shg0 hg) (by decide) flX7_46 rfl rfl rfl (grg0_0 hg hG) (pog1 hg) rfl ?_
    refine U_gfN (v := (0, (M (g + 1) 8))) (k := 8) (kI := 8) (pc' := 14) dX7_nextStrike_11 rfl cl4 (pog1 hg) (shg1 hg) (by decide) flX7_52 rfl rfl (by decide) rfl rfl ?_
    refine T_rng (fun _ z9 _ => ?_)
    have hB : r32 (M (g + 1) 8) := (ok_cons.mp z9).1
    unfold r32 at hB
    refine T_icmp_ge (pc' := 47) dX7_nextStrike_14 (by decide) (pf := 17) rfl (fun c1 => ?_) (fun c1 => ?_)
    · skip
      refine T_iload_n (i := 2) (pc' := 48) dX7_nextStrike_47 rfl rfl rfl ?_
      exact T_iret dX7_nextStrike_48 rfl ⟨rfl, hG, hQ⟩
    · exact absurd c1 (by omega)
  | succ k ih =>
    intro v2 v3 M hv0 hk hQ hG
    have hQ : Q (some (0, (lX7_nextStrike_6 g k (if (fX11_hasBit (M 9 6) v3) = 0 then v2 else (if (fX11_get M 12 9 v3) < v2 then (fX11_get M 12 9 v3) else v2)) (v3 + 1) M))) M := hQ
    refine T_iload_n (i := 3) (pc' := 7) dX7_nextStrike_6 rfl rfl rfl ?_
    refine T_aload_n (i := 1) (pc' := 8) dX7_nextStrike_7 rfl rfl rfl ?_
    refine U_grN (q := (g + 1)) (k := 0) (kI := 0) (pc' := 11) dX7_nextStrike_8 rfl cl1 (pog0 hg) (shg0 hg) (by decide) flX7_46 rfl rfl rfl (grg0_0 hg hG) (pog1 hg) rfl ?_
    refine U_gfN (v := (0, (M (g + 1) 8))) (k := 8) (kI := 8) (pc' := 14) dX7_nextStrike_11 rfl cl4 (pog1 hg) (shg1 hg) (by decide) flX7_52 rfl rfl (by decide) rfl rfl ?_
    refine T_rng (fun _ z9 _ => ?_)
    have hB : r32 (M (g + 1) 8) := (ok_cons.mp z9).1
    unfold r32 at hB
    refine T_icmp_ge (pc' := 47) dX7_nextStrike_14 (by decide) (pf := 17) rfl (fun c1 => ?_) (fun c1 => ?_)
    · exact absurd c1 (by omega)
    · skip
      have hw : wr32 (v3 + 1) = v3 + 1 := wr32_id (by unfold r32; omega)
      refine T_aload_n (i := 0) (pc' := 18) dX7_nextStrike_17 rfl rfl rfl ?_
      refine U_gf (v := (0, (M 9 6))) (k := 6) (kI := 6) (pc' := 21) dX7_nextStrike_18 rfl cl7 (by decide) rfl (by decide) flX7_30 rfl rfl (by decide) rfl rfl ?_
      refine T_iload_n (i := 3) (pc' := 22) dX7_nextStrike_21 rfl rfl rfl ?_
      refine T_callSN (av := [(0, (M 9 6)), (0, v3)]) (st := []) (d2 := 1) (nc2 := 0) (ns2 := 0) (pc' := 25) dX7_nextStrike_22 rfl mtX11_hasBit mvX11_hasBit mlX7_122 rfl rfl (Nat.le_of_ble_eq_true rfl) (by decide) ⟨by decide, by decide⟩ rfl (pX11_hasBit (E := E) (h := h) (M := M) (v0 := (M 9 6)) (v1 := v3) hG) (kF (st2 := [(0, (fX11_hasBit (M 9 6) v3))]) rfl (fun hG2 => ?_))
      have HJ3 : T E miX7_nextStrike 2 126 0 0 (fun r S M' => S = S0 ∧ G h M' ∧ Q r M') 41 [(2, 9), (2, g), (0, (if (fX11_hasBit (M 9 6) v3) = 0 then v2 else (if (fX11_get M 12 9 v3) < v2 then (fX11_get M 12 9 v3) else v2))), (0, v3)] [] S0 M 0 0 := by
        refine T_iinc (L' := [(2, 9), (2, g), (0, (if (fX11_hasBit (M 9 6) v3) = 0 then v2 else (if (fX11_get M 12 9 v3) < v2 then (fX11_get M 12 9 v3) else v2))), (0, (wr32 (v3 + 1)))]) (pc' := 44) dX7_nextStrike_41 rfl (by decide) rfl rfl ?_
        refine T_goto (pc' := 6) dX7_nextStrike_44 (by decide) ?_
        rw [hw]
        exact T_wk (ih _ (v3 + 1) _ (by omega) (by omega) hQ hG) ⟨Or.inr rfl, Or.inr rfl, Or.inr rfl, Or.inr rfl, trivial⟩
      refine T_if_eq (pc' := 41) dX7_nextStrike_25 (by decide) (pf := 28) rfl (fun c4 => ?_) (fun c4 => ?_)
      · skip
        exact T_wk (L' := [(2, 9), (2, g), (0, v2), (0, v3)]) (by have q := HJ3; try simp only [if_pos c4] at q; exact q) ⟨Or.inr rfl, Or.inr rfl, Or.inr rfl, Or.inr rfl, trivial⟩
      · skip
        refine T_iload_n (i := 2) (pc' := 29) dX7_nextStrike_28 rfl rfl rfl ?_
        refine T_aload_n (i := 0) (pc' := 30) dX7_nextStrike_29 rfl rfl rfl ?_
        refine U_gr (q := 12) (k := 2) (kI := 2) (pc' := 33) dX7_nextStrike_30 rfl cl7 (by decide) rfl (by decide) flX7_18 rfl rfl rfl (G_at hG 18 rfl) (by decide) rfl ?_
        refine T_iload_n (i := 3) (pc' := 34) dX7_nextStrike_33 rfl rfl rfl ?_
        refine T_callSN (av := [(2, 12), (0, v3)]) (st := [(0, v2)]) (d2 := 1) (nc2 := 0) (ns2 := 0) (pc' := 37) dX7_nextStrike_34 rfl mtX11_get mvX11_get mlX7_71 rfl rfl (Nat.le_of_ble_eq_true rfl) (by decide) ⟨by decide, by decide⟩ rfl (pX11_get (E := E) (h := h) (M := M) (p0 := 12) (np0 := 9) (v1 := v3) (by decide) rfl (by decide) hG) (kF (st2 := [(0, (fX11_get M 12 9 v3)), (0, v2)]) rfl (fun hG5 => ?_))
        refine U_mmin (pc' := 40) dX7_nextStrike_37 rfl mlX7_126 (Nat.le_of_ble_eq_true rfl) (by decide) ⟨by decide, by decide⟩ rfl ?_
        refine T_istore_n (i := 2) (L' := [(2, 9), (2, g), (0, (if (fX11_get M 12 9 v3) < v2 then (fX11_get M 12 9 v3) else v2)), (0, v3)]) (pc' := 41) dX7_nextStrike_40 rfl (by decide) rfl rfl ?_
        exact T_wk (L' := [(2, 9), (2, g), (0, (if (fX11_get M 12 9 v3) < v2 then (fX11_get M 12 9 v3) else v2)), (0, v3)]) (by have q := HJ3; try simp only [if_neg c4] at q; exact q) ⟨Or.inr rfl, Or.inr rfl, Or.inr rfl, Or.inr rfl, trivial⟩
def fX7_nextStrike (M : Mem) (g : Int) : Int :=
  (lX7_nextStrike_6 g ((((M (g + 1) 8)) : Int) - 0).toNat 201 0 M)
set_option maxRecDepth 100000 in
theorem pX7_nextStrike {E : EV} {h : Int} {M : Mem} {g : Int} (hg : isG g) : C2 E miX7_nextStrike 2 h [(2, 9), (2, g)] M (fun r M' => r = some (0, (fX7_nextStrike M g)) ∧ M' = M) := by
  obtain ⟨Q, hQ0⟩ : ∃ Q : Option MV → Mem → Prop, Q = (fun r M' => r = some (0, (fX7_nextStrike M g)) ∧ M' = M) := ⟨_, rfl⟩
  rw [← hQ0]
  have hQ : Q (some (0, (lX7_nextStrike_6 g ((((M (g + 1) 8)) : Int) - 0).toNat 201 0 M))) M := by rw [hQ0]; exact ⟨rfl, rfl⟩
  refine C2_of (L := [(2, 9), (2, g), (3, 0), (3, 0)]) (by decide +kernel) (Nat.le_of_ble_eq_true rfl) rfl (fun hG => ?_)
  refine T_sipush (pc' := 3) dX7_nextStrike_0 rfl (by decide) rfl ?_
  refine T_istore_n (i := 2) (L' := [(2, 9), (2, g), (0, 201), (3, 0)]) (pc' := 4) dX7_nextStrike_3 rfl (by decide) rfl rfl ?_
  refine T_iconst (pc' := 5) dX7_nextStrike_4 (by decide) rfl ?_
  refine T_istore_n (i := 3) (L' := [(2, 9), (2, g), (0, 201), (0, 0)]) (pc' := 6) dX7_nextStrike_5 rfl (by decide) rfl rfl ?_
  exact T_wk (qX7_nextStrike_6 hg _ 201 0 _ (by first | decide | omega) rfl hQ hG) ⟨Or.inr rfl, Or.inr rfl, Or.inr rfl, Or.inr rfl, trivial⟩
def lX7_opensBy_68 (g : Int) (v2 : Int) (v3 : Int) : Nat → Int → Int → Int → Int → Int → Mem → Int
  | 0, v4, v5, v6, v7, v8, M => (if v7 < v5 then (0 : Int) else 2)
  | k + 1, v4, v5, v6, v7, v8, M => (lX7_opensBy_68 g v2 v3 k v4 v5 v6 (if (fX11_hasBit v4 v8) = 0 then v7 else (if (fX1_isNear M g v6 (fX11_get M 14 9 v8)) = 0 then v7 else (wr32 (v7 + 1)))) (v8 + 1) M)
set_option maxRecDepth 100000 in
set_option maxHeartbeats 2000000 in
theorem qX7_opensBy_68 {E : EV} {h : Int} {Q : Option MV → Mem → Prop} {g : Int} {v2 : Int} {v3 : Int} (hg : isG g) : ∀ (k : Nat) (v4 v5 v6 v7 v8 : Int) (M : Mem), 0 ≤ v8 → (((M (g + 1) 8)) - v8).toNat = k → Q (some (0, (lX7_opensBy_68 g v2 v3 k v4 v5 v6 v7 v8 M))) M → G h M → TG E miX7_opensBy 2 h Q 68 [(2, 9), (2, g), (3, 0), (3, 0), (0, v4), (0, v5), (0, v6), (0, v7), (0, v8)] [] M := by
  intro k
  induction k with
  | zero =>
    intro v4 v5 v6 v7 v8 M hv0 hk hQ hG
    have hQ : Q (some (0, (if v7 < v5 then (0 : Int) else 2))) M := hQ
    refine T_iload (i := 8) (pc' := 70) dX7_opensBy_68 rfl rfl ?_
    refine T_aload_n (i := 1) (pc' := 71) dX7_opensBy_70 rfl rfl rfl ?_
    refine U_grN (q := (g + 1)) (k := 0) (kI := 0) (pc' := 74) dX7_opensBy_71 rfl cl1 (pog0 hg) (shg0 hg) (by decide) flX7_46 rfl rfl rfl (grg0_0 hg hG) (pog1 hg) rfl ?_
    refine U_gfN (v := (0, (M (g + 1) 8))) (k := 8) (kI := 8) (pc' := 77) dX7_opensBy_74 rfl cl4 (pog1 hg) (shg1 hg) (by decide) flX7_52 rfl rfl (by decide) rfl rfl ?_
    refine T_rng (fun _ z9 _ => ?_)
    have hB : r32 (M (g + 1) 8) := (ok_cons.mp z9).1
    unfold r32 at hB
    refine T_icmp_ge (pc' := 117) dX7_opensBy_77 (by decide) (pf := 80) rfl (fun c1 => ?_) (fun c1 => ?_)
    · skip
      refine T_iload (i := 7) (pc' := 119) dX7_opensBy_117 rfl rfl ?_
      refine T_iload (i := 5) (pc' := 121) dX7_opensBy_119 rfl rfl ?_
      have HJ2 : T E miX7_opensBy 2 126 0 0 (fun r S M' => S = S0 ∧ G h M' ∧ Q r M') 129 [(3, 0), (3, 0), (3, 0), (3, 0), (3, 0), (3, 0), (3, 0), (3, 0), (3, 0)] [(0, (if v7 < v5 then (0 : Int) else 2))] S0 M 0 0 := by
        exact T_iret dX7_opensBy_129 rfl ⟨rfl, hG, hQ⟩
      refine T_icmp_lt (pc' := 128) dX7_opensBy_121 (by decide) (pf := 124) rfl (fun c3 => ?_) (fun c3 => ?_)
      · skip
        refine T_iconst (pc' := 129) dX7_opensBy_128 (by decide) rfl ?_
        exact T_wk (L' := [(3, 0), (3, 0), (3, 0), (3, 0), (3, 0), (3, 0), (3, 0), (3, 0), (3, 0)]) (by have q := HJ2; try simp only [if_pos c3] at q; exact q) ⟨Or.inl rfl, Or.inl rfl, Or.inl rfl, Or.inl rfl, Or.inl rfl, Or.inl rfl, Or.inl rfl, Or.inl rfl, Or.inl rfl, trivial⟩
      · skip
        refine T_iconst (pc' := 125) dX7_opensBy_124 (by decide) rfl ?_
        refine T_goto (pc' := 129) dX7_opensBy_125 (by decide) ?_
        exact T_wk (L' := [(3, 0), (3, 0), (3, 0), (3, 0), (3, 0), (3, 0), (3, 0), (3, 0), (3, 0)]) (by have q := HJ2; try simp only [if_neg c3] at q; exact q) ⟨Or.inl rfl, Or.inl rfl, Or.inl rfl, Or.inl rfl, Or.inl rfl, Or.inl rfl, Or.inl rfl, Or.inl rfl, Or.inl rfl, trivial⟩
    · exact absurd c1 (by omega)
  | succ k ih =>
    intro v4 v5 v6 v7 v8 M hv0 hk hQ hG
    have hQ : Q (some (0, (lX7_opensBy_68 g v2 v3 k v4 v5 v6 (if (fX11_hasBit v4 v8) = 0 then v7 else (if (fX1_isNear M g v6 (fX11_get M 14 9 v8)) = 0 then v7 else (wr32 (v7 + 1)))) (v8 + 1) M))) M := hQ
    refine T_iload (i := 8) (pc' := 70) dX7_opensBy_68 rfl rfl ?_
    refine T_aload_n (i := 1) (pc' := 71) dX7_opensBy_70 rfl rfl rfl ?_
    refine U_grN (q := (g + 1)) (k := 0) (kI := 0) (pc' := 74) dX7_opensBy_71 rfl cl1 (pog0 hg) (shg0 hg) (by decide) flX7_46 rfl rfl rfl (grg0_0 hg hG) (pog1 hg) rfl ?_
    refine U_gfN (v := (0, (M (g + 1) 8))) (k := 8) (kI := 8) (pc' := 77) dX7_opensBy_74 rfl cl4 (pog1 hg) (shg1 hg) (by decide) flX7_52 rfl rfl (by decide) rfl rfl ?_
    refine T_rng (fun _ z9 _ => ?_)
    have hB : r32 (M (g + 1) 8) := (ok_cons.mp z9).1
    unfold r32 at hB
    refine T_icmp_ge (pc' := 117) dX7_opensBy_77 (by decide) (pf := 80) rfl (fun c1 => ?_) (fun c1 => ?_)
    · exact absurd c1 (by omega)
    · skip
      have hw : wr32 (v8 + 1) = v8 + 1 := wr32_id (by unfold r32; omega)
      refine T_iload (i := 4) (pc' := 82) dX7_opensBy_80 rfl rfl ?_
      refine T_iload (i := 8) (pc' := 84) dX7_opensBy_82 rfl rfl ?_
      refine T_callSN (av := [(0, v4), (0, v8)]) (st := []) (d2 := 1) (nc2 := 0) (ns2 := 0) (pc' := 87) dX7_opensBy_84 rfl mtX11_hasBit mvX11_hasBit mlX7_122 rfl rfl (Nat.le_of_ble_eq_true rfl) (by decide) ⟨by decide, by decide⟩ rfl (pX11_hasBit (E := E) (h := h) (M := M) (v0 := v4) (v1 := v8) hG) (kF (st2 := [(0, (fX11_hasBit v4 v8))]) rfl (fun hG4 => ?_))
      have HJ5 : T E miX7_opensBy 2 126 0 0 (fun r S M' => S = S0 ∧ G h M' ∧ Q r M') 111 [(2, 9), (2, g), (3, 0), (3, 0), (0, v4), (0, v5), (0, v6), (0, (if (fX11_hasBit v4 v8) = 0 then v7 else (if (fX1_isNear M g v6 (fX11_get M 14 9 v8)) = 0 then v7 else (wr32 (v7 + 1))))), (0, v8)] [] S0 M 0 0 := by
        refine T_iinc (L' := [(2, 9), (2, g), (3, 0), (3, 0), (0, v4), (0, v5), (0, v6), (0, (if (fX11_hasBit v4 v8) = 0 then v7 else (if (fX1_isNear M g v6 (fX11_get M 14 9 v8)) = 0 then v7 else (wr32 (v7 + 1))))), (0, (wr32 (v8 + 1)))]) (pc' := 114) dX7_opensBy_111 rfl (by decide) rfl rfl ?_
        refine T_goto (pc' := 68) dX7_opensBy_114 (by decide) ?_
        rw [hw]
        exact T_wk (ih _ _ _ _ (v8 + 1) _ (by omega) (by omega) hQ hG) ⟨Or.inr rfl, Or.inr rfl, Or.inl rfl, Or.inl rfl, Or.inr rfl, Or.inr rfl, Or.inr rfl, Or.inr rfl, Or.inr rfl, trivial⟩
      refine T_if_eq (pc' := 111) dX7_opensBy_87 (by decide) (pf := 90) rfl (fun c6 => ?_) (fun c6 => ?_)
      · skip
        exact T_wk (L' := [(2, 9), (2, g), (3, 0), (3, 0), (0, v4), (0, v5), (0, v6), (0, v7), (0, v8)]) (by have q := HJ5; try simp only [if_pos c6] at q; exact q) ⟨Or.inr rfl, Or.inr rfl, Or.inl rfl, Or.inl rfl, Or.inr rfl, Or.inr rfl, Or.inr rfl, Or.inr rfl, Or.inr rfl, trivial⟩
      · skip
        refine T_aload_n (i := 1) (pc' := 91) dX7_opensBy_90 rfl rfl rfl ?_
        refine T_iload (i := 6) (pc' := 93) dX7_opensBy_91 rfl rfl ?_
        refine T_aload_n (i := 0) (pc' := 94) dX7_opensBy_93 rfl rfl rfl ?_
        refine U_gr (q := 14) (k := 4) (kI := 4) (pc' := 97) dX7_opensBy_94 rfl cl7 (by decide) rfl (by decide) flX7_24 rfl rfl rfl (G_at hG 20 rfl) (by decide) rfl ?_
        refine T_iload (i := 8) (pc' := 99) dX7_opensBy_97 rfl rfl ?_
        refine T_callSN (av := [(2, 14), (0, v8)]) (st := [(0, v6), (2, g)]) (d2 := 1) (nc2 := 0) (ns2 := 0) (pc' := 102) dX7_opensBy_99 rfl mtX11_get mvX11_get mlX7_71 rfl rfl (Nat.le_of_ble_eq_true rfl) (by decide) ⟨by decide, by decide⟩ rfl (pX11_get (E := E) (h := h) (M := M) (p0 := 14) (np0 := 9) (v1 := v8) (by decide) rfl (by decide) hG) (kF (st2 := [(0, (fX11_get M 14 9 v8)), (0, v6), (2, g)]) rfl (fun hG7 => ?_))
        refine T_callV (av := [(0, v6), (0, (fX11_get M 14 9 v8))]) (st := []) (d2 := 1) (nc2 := 0) (ns2 := 0) (pc' := 105) dX7_opensBy_102 rfl mtX1_isNear mvX1_isNear mlX7_158 cl1 (shg0 hg) rfl rfl (Nat.le_of_ble_eq_true rfl) (by decide) ⟨by decide, by decide⟩ rfl (pX1_isNear (E := E) (h := h) (M := M) (g := g) (v1 := v6) (v2 := (fX11_get M 14 9 v8)) hg hG) (kF (st2 := [(0, (fX1_isNear M g v6 (fX11_get M 14 9 v8)))]) rfl (fun hG8 => ?_))
        refine T_if_eq (pc' := 111) dX7_opensBy_105 (by decide) (pf := 108) rfl (fun c9 => ?_) (fun c9 => ?_)
        · skip
          exact T_wk (L' := [(2, 9), (2, g), (3, 0), (3, 0), (0, v4), (0, v5), (0, v6), (0, v7), (0, v8)]) (by have q := HJ5; try simp only [if_neg c6] at q; try simp only [if_pos c9] at q; exact q) ⟨Or.inr rfl, Or.inr rfl, Or.inl rfl, Or.inl rfl, Or.inr rfl, Or.inr rfl, Or.inr rfl, Or.inr rfl, Or.inr rfl, trivial⟩
        · skip
          refine T_iinc (L' := [(2, 9), (2, g), (3, 0), (3, 0), (0, v4), (0, v5), (0, v6), (0, (wr32 (v7 + 1))), (0, v8)]) (pc' := 111) dX7_opensBy_108 rfl (by decide) rfl rfl ?_
          exact T_wk (L' := [(2, 9), (2, g), (3, 0), (3, 0), (0, v4), (0, v5), (0, v6), (0, (wr32 (v7 + 1))), (0, v8)]) (by have q := HJ5; try simp only [if_neg c6] at q; try simp only [if_neg c9] at q; exact q) ⟨Or.inr rfl, Or.inr rfl, Or.inl rfl, Or.inl rfl, Or.inr rfl, Or.inr rfl, Or.inr rfl, Or.inr rfl, Or.inr rfl, trivial⟩
def fX7_opensBy (M : Mem) (g : Int) (v2 : Int) (v3 : Int) (v4 : Int) : Int :=
  (if v3 < (fX11_get M 12 9 v2) then (if (fX11_get M (g + 5) 9 v2) ≤ 0 then 0 else (if (fX11_get M (g + 5) 9 v2) ≤ (fJ6_bitCount_0f7a4 v4) then (lX7_opensBy_68 g v2 v3 ((((M (g + 1) 8)) : Int) - 0).toNat v4 (fX11_get M (g + 5) 9 v2) (fX11_get M 10 1809 (wr32 ((wr32 ((wr32 (v2 * 201)) + v3)) - 1))) 0 0 M) else 0)) else 1)
set_option maxRecDepth 100000 in
theorem pX7_opensBy {E : EV} {h : Int} {M : Mem} {g : Int} {v2 : Int} {v3 : Int} {v4 : Int} (hg : isG g) : C2 E miX7_opensBy 2 h [(2, 9), (2, g), (0, v2), (0, v3), (0, v4)] M (fun r M' => r = some (0, (fX7_opensBy M g v2 v3 v4)) ∧ M' = M) := by
  obtain ⟨Q, hQ0⟩ : ∃ Q : Option MV → Mem → Prop, Q = (fun r M' => r = some (0, (fX7_opensBy M g v2 v3 v4)) ∧ M' = M) := ⟨_, rfl⟩
  rw [← hQ0]
  have hQ : Q (some (0, (if v3 < (fX11_get M 12 9 v2) then (if (fX11_get M (g + 5) 9 v2) ≤ 0 then 0 else (if (fX11_get M (g + 5) 9 v2) ≤ (fJ6_bitCount_0f7a4 v4) then (lX7_opensBy_68 g v2 v3 ((((M (g + 1) 8)) : Int) - 0).toNat v4 (fX11_get M (g + 5) 9 v2) (fX11_get M 10 1809 (wr32 ((wr32 ((wr32 (v2 * 201)) + v3)) - 1))) 0 0 M) else 0)) else 1))) M := by rw [hQ0]; exact ⟨rfl, rfl⟩
  refine C2_of (L := [(2, 9), (2, g), (0, v2), (0, v3), (0, v4), (3, 0), (3, 0), (3, 0), (3, 0)]) (by decide +kernel) (Nat.le_of_ble_eq_true rfl) rfl (fun hG => ?_)
  refine T_iload_n (i := 3) (pc' := 1) dX7_opensBy_0 rfl rfl rfl ?_
  refine T_aload_n (i := 0) (pc' := 2) dX7_opensBy_1 rfl rfl rfl ?_
  refine U_gr (q := 12) (k := 2) (kI := 2) (pc' := 5) dX7_opensBy_2 rfl cl7 (by decide) rfl (by decide) flX7_18 rfl rfl rfl (G_at hG 18 rfl) (by decide) rfl ?_
  refine T_iload_n (i := 2) (pc' := 6) dX7_opensBy_5 rfl rfl rfl ?_
  refine T_callSN (av := [(2, 12), (0, v2)]) (st := [(0, v3)]) (d2 := 1) (nc2 := 0) (ns2 := 0) (pc' := 9) dX7_opensBy_6 rfl mtX11_get mvX11_get mlX7_71 rfl rfl (Nat.le_of_ble_eq_true rfl) (by decide) ⟨by decide, by decide⟩ rfl (pX11_get (E := E) (h := h) (M := M) (p0 := 12) (np0 := 9) (v1 := v2) (by decide) rfl (by decide) hG) (kF (st2 := [(0, (fX11_get M 12 9 v2)), (0, v3)]) rfl (fun hG1 => ?_))
  refine T_icmp_lt (pc' := 14) dX7_opensBy_9 (by decide) (pf := 12) rfl (fun c2 => ?_) (fun c2 => ?_)
  · skip
    refine T_aload_n (i := 1) (pc' := 15) dX7_opensBy_14 rfl rfl rfl ?_
    refine U_grN (q := (g + 1)) (k := 0) (kI := 0) (pc' := 18) dX7_opensBy_15 rfl cl1 (pog0 hg) (shg0 hg) (by decide) flX7_46 rfl rfl rfl (grg0_0 hg hG) (pog1 hg) rfl ?_
    refine U_grN (q := (g + 5)) (k := 3) (kI := 3) (pc' := 21) dX7_opensBy_18 rfl cl4 (pog1 hg) (shg1 hg) (by decide) flX7_155 rfl rfl rfl (grg1_3 hg hG) (pog5 hg) rfl ?_
    refine T_iload_n (i := 2) (pc' := 22) dX7_opensBy_21 rfl rfl rfl ?_
    refine T_callSN (av := [(2, (g + 5)), (0, v2)]) (st := []) (d2 := 1) (nc2 := 0) (ns2 := 0) (pc' := 25) dX7_opensBy_22 rfl mtX11_get mvX11_get mlX7_71 rfl rfl (Nat.le_of_ble_eq_true rfl) (by decide) ⟨by decide, by decide⟩ rfl (pX11_get (E := E) (h := h) (M := M) (p0 := (g + 5)) (np0 := 9) (v1 := v2) (pog5 hg) (shg5 hg) (by decide) hG) (kF (st2 := [(0, (fX11_get M (g + 5) 9 v2))]) rfl (fun hG3 => ?_))
    refine T_istore (i := 5) (L' := [(2, 9), (2, g), (0, v2), (0, v3), (0, v4), (0, (fX11_get M (g + 5) 9 v2)), (3, 0), (3, 0), (3, 0)]) (pc' := 27) dX7_opensBy_25 (by decide) rfl rfl ?_
    refine T_iload (i := 5) (pc' := 29) dX7_opensBy_27 rfl rfl ?_
    refine T_if_le (pc' := 42) dX7_opensBy_29 (by decide) (pf := 32) rfl (fun c4 => ?_) (fun c4 => ?_)
    · skip
      refine T_iconst (pc' := 43) dX7_opensBy_42 (by decide) rfl ?_
      exact T_iret dX7_opensBy_43 rfl ⟨rfl, hG, (by have q := hQ; try simp only [if_pos c2] at q; try simp only [if_pos c4] at q; exact q)⟩
    · skip
      refine T_iload (i := 5) (pc' := 34) dX7_opensBy_32 rfl rfl ?_
      refine T_iload (i := 4) (pc' := 36) dX7_opensBy_34 rfl rfl ?_
      refine T_callS (av := [(0, v4)]) (st := [(0, (fX11_get M (g + 5) 9 v2))]) (d2 := 1) (nc2 := 0) (ns2 := 0) (pc' := 39) dX7_opensBy_36 rfl mtJ6_bitCount_0f7a4 mvJ6_bitCount_0f7a4 mlX7_138 rfl rfl (Nat.le_of_ble_eq_true rfl) (by decide) ⟨by decide, by decide⟩ rfl (pJ6_bitCount_0f7a4 (E := E) (h := h) (M := M) (v0 := v4) hG) (kF (st2 := [(0, (fJ6_bitCount_0f7a4 v4)), (0, (fX11_get M (g + 5) 9 v2))]) rfl (fun hG5 => ?_))
      refine T_icmp_le (pc' := 44) dX7_opensBy_39 (by decide) (pf := 42) rfl (fun c6 => ?_) (fun c6 => ?_)
      · skip
        refine T_aload_n (i := 0) (pc' := 45) dX7_opensBy_44 rfl rfl rfl ?_
        refine U_gr (q := 10) (k := 0) (kI := 0) (pc' := 48) dX7_opensBy_45 rfl cl7 (by decide) rfl (by decide) flX7_9 rfl rfl rfl (G_at hG 16 rfl) (by decide) rfl ?_
        refine T_iload_n (i := 2) (pc' := 49) dX7_opensBy_48 rfl rfl rfl ?_
        refine T_sipush (pc' := 52) dX7_opensBy_49 rfl (by decide) rfl ?_
        refine T_imul (pc' := 53) dX7_opensBy_52 rfl ?_
        refine T_iload_n (i := 3) (pc' := 54) dX7_opensBy_53 rfl rfl rfl ?_
        refine T_iadd (pc' := 55) dX7_opensBy_54 rfl ?_
        refine T_iconst (pc' := 56) dX7_opensBy_55 (by decide) rfl ?_
        refine T_isub (pc' := 57) dX7_opensBy_56 rfl ?_
        refine T_callSN (av := [(2, 10), (0, (wr32 ((wr32 ((wr32 (v2 * 201)) + v3)) - 1)))]) (st := []) (d2 := 1) (nc2 := 0) (ns2 := 0) (pc' := 60) dX7_opensBy_57 rfl mtX11_get mvX11_get mlX7_71 rfl rfl (Nat.le_of_ble_eq_true rfl) (by decide) ⟨by decide, by decide⟩ rfl (pX11_get (E := E) (h := h) (M := M) (p0 := 10) (np0 := 1809) (v1 := (wr32 ((wr32 ((wr32 (v2 * 201)) + v3)) - 1))) (by decide) rfl (by decide) hG) (kF (st2 := [(0, (fX11_get M 10 1809 (wr32 ((wr32 ((wr32 (v2 * 201)) + v3)) - 1))))]) rfl (fun hG7 => ?_))
        refine T_istore (i := 6) (L' := [(2, 9), (2, g), (0, v2), (0, v3), (0, v4), (0, (fX11_get M (g + 5) 9 v2)), (0, (fX11_get M 10 1809 (wr32 ((wr32 ((wr32 (v2 * 201)) + v3)) - 1)))), (3, 0), (3, 0)]) (pc' := 62) dX7_opensBy_60 (by decide) rfl rfl ?_
        refine T_iconst (pc' := 63) dX7_opensBy_62 (by decide) rfl ?_
        refine T_istore (i := 7) (L' := [(2, 9), (2, g), (0, v2), (0, v3), (0, v4), (0, (fX11_get M (g + 5) 9 v2)), (0, (fX11_get M 10 1809 (wr32 ((wr32 ((wr32 (v2 * 201)) + v3)) - 1)))), (0, 0), (3, 0)]) (pc' := 65) dX7_opensBy_63 (by decide) rfl rfl ?_
        refine T_iconst (pc' := 66) dX7_opensBy_65 (by decide) rfl ?_
        refine T_istore (i := 8) (L' := [(2, 9), (2, g), (0, v2), (0, v3), (0, v4), (0, (fX11_get M (g + 5) 9 v2)), (0, (fX11_get M 10 1809 (wr32 ((wr32 ((wr32 (v2 * 201)) + v3)) - 1)))), (0, 0), (0, 0)]) (pc' := 68) dX7_opensBy_66 (by decide) rfl rfl ?_
        exact T_wk (qX7_opensBy_68 hg _ v4 (fX11_get M (g + 5) 9 v2) (fX11_get M 10 1809 (wr32 ((wr32 ((wr32 (v2 * 201)) + v3)) - 1))) 0 0 _ (by first | decide | omega) rfl (by have q := hQ; try simp only [if_pos c2] at q; try simp only [if_neg c4] at q; try simp only [if_pos c6] at q; exact q) hG) ⟨Or.inr rfl, Or.inr rfl, Or.inl rfl, Or.inl rfl, Or.inr rfl, Or.inr rfl, Or.inr rfl, Or.inr rfl, Or.inr rfl, trivial⟩
      · skip
        refine T_iconst (pc' := 43) dX7_opensBy_42 (by decide) rfl ?_
        exact T_iret dX7_opensBy_43 rfl ⟨rfl, hG, (by have q := hQ; try simp only [if_pos c2] at q; try simp only [if_neg c4] at q; try simp only [if_neg c6] at q; exact q)⟩
  · skip
    refine T_iconst (pc' := 13) dX7_opensBy_12 (by decide) rfl ?_
    exact T_iret dX7_opensBy_13 rfl ⟨rfl, hG, (by have q := hQ; try simp only [if_neg c2] at q; exact q)⟩
def lX10_weightOf_5 (g : Int) : Nat → Int → Int → Int → Mem → Int
  | 0, v1, v2, v4, M => v2
  | k + 1, v1, v2, v4, M => (lX10_weightOf_5 g k v1 (wr64 (v2 * (if (fX11_hasBit v1 v4) = 0 then (wr32 (4 - (fX11_get M (g + 6) 9 v4))) else (fX11_get M (g + 6) 9 v4)))) (v4 + 1) M)
set_option maxRecDepth 100000 in
set_option maxHeartbeats 2000000 in
theorem qX10_weightOf_5 {E : EV} {h : Int} {Q : Option MV → Mem → Prop} {g : Int} (hg : isG g) : ∀ (k : Nat) (v1 v2 v4 : Int) (M : Mem), 0 ≤ v4 → (((M (g + 1) 8)) - v4).toNat = k → Q (some (1, (lX10_weightOf_5 g k v1 v2 v4 M))) M → G h M → TG E miX10_weightOf 2 h Q 5 [(2, (g + 1)), (0, v1), (1, v2), (3, 0), (0, v4), (3, 0)] [] M := by
  intro k
  induction k with
  | zero =>
    intro v1 v2 v4 M hv0 hk hQ hG
    have hQ : Q (some (1, v2)) M := hQ
    refine T_iload (i := 4) (pc' := 7) dX10_weightOf_5 rfl rfl ?_
    refine T_aload_n (i := 0) (pc' := 8) dX10_weightOf_7 rfl rfl rfl ?_
    refine U_gfN (v := (0, (M (g + 1) 8))) (k := 8) (kI := 8) (pc' := 11) dX10_weightOf_8 rfl cl4 (pog1 hg) (shg1 hg) (by decide) flX10_66 rfl rfl (by decide) rfl rfl ?_
    refine T_rng (fun _ z9 _ => ?_)
    have hB : r32 (M (g + 1) 8) := (ok_cons.mp z9).1
    unfold r32 at hB
    refine T_icmp_ge (pc' := 54) dX10_weightOf_11 (by decide) (pf := 14) rfl (fun c1 => ?_) (fun c1 => ?_)
    · skip
      refine T_lload_n (i := 2) (pc' := 55) dX10_weightOf_54 rfl rfl rfl ?_
      exact T_lret dX10_weightOf_55 rfl ⟨rfl, hG, hQ⟩
    · exact absurd c1 (by omega)
  | succ k ih =>
    intro v1 v2 v4 M hv0 hk hQ hG
    have hQ : Q (some (1, (lX10_weightOf_5 g k v1 (wr64 (v2 * (if (fX11_hasBit v1 v4) = 0 then (wr32 (4 - (fX11_get M (g + 6) 9 v4))) else (fX11_get M (g + 6) 9 v4)))) (v4 + 1) M))) M := hQ
    refine T_iload (i := 4) (pc' := 7) dX10_weightOf_5 rfl rfl ?_
    refine T_aload_n (i := 0) (pc' := 8) dX10_weightOf_7 rfl rfl rfl ?_
    refine U_gfN (v := (0, (M (g + 1) 8))) (k := 8) (kI := 8) (pc' := 11) dX10_weightOf_8 rfl cl4 (pog1 hg) (shg1 hg) (by decide) flX10_66 rfl rfl (by decide) rfl rfl ?_
    refine T_rng (fun _ z9 _ => ?_)
    have hB : r32 (M (g + 1) 8) := (ok_cons.mp z9).1
    unfold r32 at hB
    refine T_icmp_ge (pc' := 54) dX10_weightOf_11 (by decide) (pf := 14) rfl (fun c1 => ?_) (fun c1 => ?_)
    · exact absurd c1 (by omega)
    · skip
      have hw : wr32 (v4 + 1) = v4 + 1 := wr32_id (by unfold r32; omega)
      refine T_aload_n (i := 0) (pc' := 15) dX10_weightOf_14 rfl rfl rfl ?_
      refine U_grN (q := (g + 6)) (k := 4) (kI := 4) (pc' := 18) dX10_weightOf_15 rfl cl4 (pog1 hg) (shg1 hg) (by decide) flX10_69 rfl rfl rfl (grg1_4 hg hG) (pog6 hg) rfl ?_
      refine T_iload (i := 4) (pc' := 20) dX10_weightOf_18 rfl rfl ?_
      refine T_callSN (av := [(2, (g + 6)), (0, v4)]) (st := []) (d2 := 1) (nc2 := 0) (ns2 := 0) (pc' := 23) dX10_weightOf_20 rfl mtX11_get mvX11_get mlX10_72 rfl rfl (Nat.le_of_ble_eq_true rfl) (by decide) ⟨by decide, by decide⟩ rfl (pX11_get (E := E) (h := h) (M := M) (p0 := (g + 6)) (np0 := 9) (v1 := v4) (pog6 hg) (shg6 hg) (by decide) hG) (kF (st2 := [(0, (fX11_get M (g + 6) 9 v4))]) rfl (fun hG2 => ?_))
      refine T_istore (i := 5) (L' := [(2, (g + 1)), (0, v1), (1, v2), (3, 0), (0, v4), (0, (fX11_get M (g + 6) 9 v4))]) (pc' := 25) dX10_weightOf_23 (by decide) rfl rfl ?_
      refine T_lload_n (i := 2) (pc' := 26) dX10_weightOf_25 rfl rfl rfl ?_
      refine T_iload_n (i := 1) (pc' := 27) dX10_weightOf_26 rfl rfl rfl ?_
      refine T_iload (i := 4) (pc' := 29) dX10_weightOf_27 rfl rfl ?_
      refine T_callSN (av := [(0, v1), (0, v4)]) (st := [(1, v2)]) (d2 := 1) (nc2 := 0) (ns2 := 0) (pc' := 32) dX10_weightOf_29 rfl mtX11_hasBit mvX11_hasBit mlX10_76 rfl rfl (Nat.le_of_ble_eq_true rfl) (by decide) ⟨by decide, by decide⟩ rfl (pX11_hasBit (E := E) (h := h) (M := M) (v0 := v1) (v1 := v4) hG) (kF (st2 := [(0, (fX11_hasBit v1 v4)), (1, v2)]) rfl (fun hG3 => ?_))
      have HJ4 : T E miX10_weightOf 2 126 0 0 (fun r S M' => S = S0 ∧ G h M' ∧ Q r M') 46 [(2, (g + 1)), (0, v1), (3, 0), (3, 0), (0, v4), (3, 0)] [(1, (if (fX11_hasBit v1 v4) = 0 then (wr32 (4 - (fX11_get M (g + 6) 9 v4))) else (fX11_get M (g + 6) 9 v4))), (1, v2)] S0 M 0 0 := by
        refine T_lmul (pc' := 47) dX10_weightOf_46 rfl ?_
        refine T_lstore_n (i := 2) (L' := [(2, (g + 1)), (0, v1), (1, (wr64 (v2 * (if (fX11_hasBit v1 v4) = 0 then (wr32 (4 - (fX11_get M (g + 6) 9 v4))) else (fX11_get M (g + 6) 9 v4))))), (3, 0), (0, v4), (3, 0)]) (pc' := 48) dX10_weightOf_47 rfl (by decide) rfl rfl ?_
        refine T_iinc (L' := [(2, (g + 1)), (0, v1), (1, (wr64 (v2 * (if (fX11_hasBit v1 v4) = 0 then (wr32 (4 - (fX11_get M (g + 6) 9 v4))) else (fX11_get M (g + 6) 9 v4))))), (3, 0), (0, (wr32 (v4 + 1))), (3, 0)]) (pc' := 51) dX10_weightOf_48 rfl (by decide) rfl rfl ?_
        refine T_goto (pc' := 5) dX10_weightOf_51 (by decide) ?_
        rw [hw]
        exact T_wk (ih _ _ (v4 + 1) _ (by omega) (by omega) hQ hG) ⟨Or.inr rfl, Or.inr rfl, Or.inr rfl, Or.inl rfl, Or.inr rfl, Or.inl rfl, trivial⟩
      refine T_if_eq (pc' := 41) dX10_weightOf_32 (by decide) (pf := 35) rfl (fun c5 => ?_) (fun c5 => ?_)
      · skip
        refine T_iconst (pc' := 42) dX10_weightOf_41 (by decide) rfl ?_
        refine T_iload (i := 5) (pc' := 44) dX10_weightOf_42 rfl rfl ?_
        refine T_isub (pc' := 45) dX10_weightOf_44 rfl ?_
        refine T_i2l (pc' := 46) dX10_weightOf_45 rfl ?_
        exact T_wk (L' := [(2, (g + 1)), (0, v1), (3, 0), (3, 0), (0, v4), (3, 0)]) (by have q := HJ4; try simp only [if_pos c5] at q; exact q) ⟨Or.inr rfl, Or.inr rfl, Or.inl rfl, Or.inl rfl, Or.inr rfl, Or.inl rfl, trivial⟩
      · skip
        refine T_iload (i := 5) (pc' := 37) dX10_weightOf_35 rfl rfl ?_
        refine T_i2l (pc' := 38) dX10_weightOf_37 rfl ?_
        refine T_goto (pc' := 46) dX10_weightOf_38 (by decide) ?_
        exact T_wk (L' := [(2, (g + 1)), (0, v1), (3, 0), (3, 0), (0, v4), (3, 0)]) (by have q := HJ4; try simp only [if_neg c5] at q; exact q) ⟨Or.inr rfl, Or.inr rfl, Or.inl rfl, Or.inl rfl, Or.inr rfl, Or.inl rfl, trivial⟩
def fX10_weightOf (M : Mem) (g : Int) (v1 : Int) : Int :=
  (lX10_weightOf_5 g ((((M (g + 1) 8)) : Int) - 0).toNat v1 1 0 M)
set_option maxRecDepth 100000 in
theorem pX10_weightOf {E : EV} {h : Int} {M : Mem} {g : Int} {v1 : Int} (hg : isG g) : C2 E miX10_weightOf 2 h [(2, (g + 1)), (0, v1)] M (fun r M' => r = some (1, (fX10_weightOf M g v1)) ∧ M' = M) := by
  obtain ⟨Q, hQ0⟩ : ∃ Q : Option MV → Mem → Prop, Q = (fun r M' => r = some (1, (fX10_weightOf M g v1)) ∧ M' = M) := ⟨_, rfl⟩
  rw [← hQ0]
  have hQ : Q (some (1, (lX10_weightOf_5 g ((((M (g + 1) 8)) : Int) - 0).toNat v1 1 0 M))) M := by rw [hQ0]; exact ⟨rfl, rfl⟩
  refine C2_of (L := [(2, (g + 1)), (0, v1), (3, 0), (3, 0), (3, 0), (3, 0)]) (by decide +kernel) (Nat.le_of_ble_eq_true rfl) rfl (fun hG => ?_)
  refine T_lconst (v := 1) (pc' := 1) dX10_weightOf_0 rfl (by decide) rfl ?_
  refine T_lstore_n (i := 2) (L' := [(2, (g + 1)), (0, v1), (1, 1), (3, 0), (3, 0), (3, 0)]) (pc' := 2) dX10_weightOf_1 rfl (by decide) rfl rfl ?_
  refine T_iconst (pc' := 3) dX10_weightOf_2 (by decide) rfl ?_
  refine T_istore (i := 4) (L' := [(2, (g + 1)), (0, v1), (1, 1), (3, 0), (0, 0), (3, 0)]) (pc' := 5) dX10_weightOf_3 (by decide) rfl rfl ?_
  exact T_wk (qX10_weightOf_5 hg _ v1 1 0 _ (by first | decide | omega) rfl hQ hG) ⟨Or.inr rfl, Or.inr rfl, Or.inr rfl, Or.inl rfl, Or.inr rfl, Or.inl rfl, trivial⟩
def lX11_lot_4  (h : Int) : Nat → Int → Int → Mem → Int
  | 0, v1, v2, M => v1
  | k + 1, v1, v2, M => (lX11_lot_4 h k (if (fX11_get (fmX11_draw M) (h + 6) 9 v2) ≤ (fX11_draw M 4) then v1 else (m_or v1 (m_shl 1 v2))) (v2 + 1) (fmX11_draw M))
def lmX11_lot_4  (h : Int) : Nat → Int → Int → Mem → Mem
  | 0, v1, v2, M => (fmX11_changed (mset M 0 12 v1) 0)
  | k + 1, v1, v2, M => (lmX11_lot_4 h k (if (fX11_get (fmX11_draw M) (h + 6) 9 v2) ≤ (fX11_draw M 4) then v1 else (m_or v1 (m_shl 1 v2))) (v2 + 1) (fmX11_draw M))
theorem frlX11_lot_4  {h : Int} {q : Int} (hq0 : q ≠ 0) : ∀ {k : Nat} {v1 v2 : Int} {M : Mem}, (lmX11_lot_4  h k v1 v2 M) q = M q := by
  intro k
  induction k with
  | zero =>
    intro v1 v2 M
    show (fmX11_changed (mset M 0 12 v1) 0) q = M q
    repeat' (first | rfl | rw [mset_p hq0] | rw [mcpy_p hq0] | (rw [frX11_changed] <;> try assumption) | (rw [frX11_draw] <;> try assumption) | rw [ite_ap] | split)
  | succ k ih =>
    intro v1 v2 M
    show (lmX11_lot_4 h k (if (fX11_get (fmX11_draw M) (h + 6) 9 v2) ≤ (fX11_draw M 4) then v1 else (m_or v1 (m_shl 1 v2))) (v2 + 1) (fmX11_draw M)) q = M q
    repeat' (first | rfl | rw [mset_p hq0] | rw [mcpy_p hq0] | (rw [frX11_changed] <;> try assumption) | (rw [frX11_draw] <;> try assumption) | rw [ite_ap] | split | rw [ih])
set_option maxRecDepth 100000 in
set_option maxHeartbeats 2000000 in
theorem qX11_lot_4 {E : EV} {h : Int} {Q : Option MV → Mem → Prop}   : ∀ (k : Nat) (v1 v2 : Int) (M : Mem), 0 ≤ v2 → (((M (h + 1) 8)) - v2).toNat = k → Q (some (0, (lX11_lot_4 h k v1 v2 M))) (lmX11_lot_4 h k v1 v2 M) → G h M → TG E miX11_lot 2 h Q 4 [(2, 0), (0, v1), (0, v2)] [] M := by
  intro k
  induction k with
  | zero =>
    intro v1 v2 M hv0 hk hQ hG
    have hQ : Q (some (0, v1)) (fmX11_changed (mset M 0 12 v1) 0) := hQ
    have hh := hG.2.2.2
    refine T_iload_n (i := 2) (pc' := 5) dX11_lot_4 rfl rfl rfl ?_
    refine T_aload_n (i := 0) (pc' := 6) dX11_lot_5 rfl rfl rfl ?_
    refine U_gr (q := h) (k := 10) (kI := 10) (pc' := 9) dX11_lot_6 rfl cl11 (by decide) rfl (by decide) flX11_82 rfl rfl rfl hG.2.1 (pog0 hh) rfl ?_
    refine U_grN (q := (h + 1)) (k := 0) (kI := 0) (pc' := 12) dX11_lot_9 rfl cl1 (pog0 hh) (shg0 hh) (by decide) flX11_129 rfl rfl rfl (grg0_0 hh hG) (pog1 hh) rfl ?_
    refine U_gfN (v := (0, (M (h + 1) 8))) (k := 8) (kI := 8) (pc' := 15) dX11_lot_12 rfl cl4 (pog1 hh) (shg1 hh) (by decide) flX11_164 rfl rfl (by decide) rfl rfl ?_
    refine T_rng (fun _ z9 _ => ?_)
    have hB : r32 (M (h + 1) 8) := (ok_cons.mp z9).1
    unfold r32 at hB
    refine T_icmp_ge (pc' := 52) dX11_lot_15 (by decide) (pf := 18) rfl (fun c1 => ?_) (fun c1 => ?_)
    · skip
      refine T_aload_n (i := 0) (pc' := 53) dX11_lot_52 rfl rfl rfl ?_
      refine T_iload_n (i := 1) (pc' := 54) dX11_lot_53 rfl rfl rfl ?_
      refine U_pf (y := v1) (k := 12) (kI := 12) (pc' := 57) dX11_lot_54 rfl cl11 (by decide) rfl (by decide) flX11_89 rfl rfl rfl rfl rfl (by decide) (fun z => z) rfl ?_
      refine T_aload_n (i := 0) (pc' := 58) dX11_lot_57 rfl rfl rfl ?_
      refine T_iconst (pc' := 59) dX11_lot_58 (by decide) rfl ?_
      refine T_callV (av := [(0, 0)]) (st := []) (d2 := 1) (nc2 := 0) (ns2 := 0) (pc' := 62) dX11_lot_59 rfl mtX11_changed mvX11_changed mlX11_142 cl11 rfl rfl rfl (Nat.le_of_ble_eq_true rfl) (by decide) ⟨by decide, by decide⟩ rfl (pX11_changed (E := E) (h := h) (M := (mset M 0 12 v1)) (v1 := 0) (G_fld (x := 0) (i := 12) (y := v1) rfl (by decide) (by decide) (by decide) hG)) (kF (st2 := []) rfl (fun hG2 => ?_))
      refine T_iload_n (i := 1) (pc' := 63) dX11_lot_62 rfl rfl rfl ?_
      exact T_iret dX11_lot_63 rfl ⟨rfl, (gX11_changed (h := h) (M := (mset M 0 12 v1)) (v1 := 0) (G_fld (x := 0) (i := 12) (y := v1) rfl (by decide) (by decide) (by decide) hG)), hQ⟩
    · exact absurd c1 (by omega)
  | succ k ih =>
    intro v1 v2 M hv0 hk hQ hG
    have hQ : Q (some (0, (lX11_lot_4 h k (if (fX11_get (fmX11_draw M) (h + 6) 9 v2) ≤ (fX11_draw M 4) then v1 else (m_or v1 (m_shl 1 v2))) (v2 + 1) (fmX11_draw M)))) (lmX11_lot_4 h k (if (fX11_get (fmX11_draw M) (h + 6) 9 v2) ≤ (fX11_draw M 4) then v1 else (m_or v1 (m_shl 1 v2))) (v2 + 1) (fmX11_draw M)) := hQ
    have hh := hG.2.2.2
    refine T_iload_n (i := 2) (pc' := 5) dX11_lot_4 rfl rfl rfl ?_
    refine T_aload_n (i := 0) (pc' := 6) dX11_lot_5 rfl rfl rfl ?_
    refine U_gr (q := h) (k := 10) (kI := 10) (pc' := 9) dX11_lot_6 rfl cl11 (by decide) rfl (by decide) flX11_82 rfl rfl rfl hG.2.1 (pog0 hh) rfl ?_
    refine U_grN (q := (h + 1)) (k := 0) (kI := 0) (pc' := 12) dX11_lot_9 rfl cl1 (pog0 hh) (shg0 hh) (by decide) flX11_129 rfl rfl rfl (grg0_0 hh hG) (pog1 hh) rfl ?_
    refine U_gfN (v := (0, (M (h + 1) 8))) (k := 8) (kI := 8) (pc' := 15) dX11_lot_12 rfl cl4 (pog1 hh) (shg1 hh) (by decide) flX11_164 rfl rfl (by decide) rfl rfl ?_
    refine T_rng (fun _ z9 _ => ?_)
    have hB : r32 (M (h + 1) 8) := (ok_cons.mp z9).1
    unfold r32 at hB
    refine T_icmp_ge (pc' := 52) dX11_lot_15 (by decide) (pf := 18) rfl (fun c1 => ?_) (fun c1 => ?_)
    · exact absurd c1 (by omega)
    · skip
      have hw : wr32 (v2 + 1) = v2 + 1 := wr32_id (by unfold r32; omega)
      refine T_aload_n (i := 0) (pc' := 19) dX11_lot_18 rfl rfl rfl ?_
      refine T_iconst (pc' := 20) dX11_lot_19 (by decide) rfl ?_
      refine T_callV (av := [(0, 4)]) (st := []) (d2 := 1) (nc2 := 0) (ns2 := 0) (pc' := 23) dX11_lot_20 rfl mtX11_draw mvX11_draw mlX11_324 cl11 rfl rfl rfl (Nat.le_of_ble_eq_true rfl) (by decide) ⟨by decide, by decide⟩ rfl (pX11_draw (E := E) (h := h) (M := M) (v1 := 4) hG) (kF (st2 := [(0, (fX11_draw M 4))]) rfl (fun hG3 => ?_))
      refine T_aload_n (i := 0) (pc' := 24) dX11_lot_23 rfl rfl rfl ?_
      refine U_gr (q := h) (k := 10) (kI := 10) (pc' := 27) dX11_lot_24 rfl cl11 (by decide) rfl (by decide) flX11_82 rfl rfl rfl (gX11_draw (h := h) (M := M) (v1 := 4) hG).2.1 (pog0 hh) rfl ?_
      refine U_grN (q := (h + 1)) (k := 0) (kI := 0) (pc' := 30) dX11_lot_27 rfl cl1 (pog0 hh) (shg0 hh) (by decide) flX11_129 rfl rfl rfl (grg0_0 hh (gX11_draw (h := h) (M := M) (v1 := 4) hG)) (pog1 hh) rfl ?_
      refine U_grN (q := (h + 6)) (k := 4) (kI := 4) (pc' := 33) dX11_lot_30 rfl cl4 (pog1 hh) (shg1 hh) (by decide) flX11_212 rfl rfl rfl (grg1_4 hh (gX11_draw (h := h) (M := M) (v1 := 4) hG)) (pog6 hh) rfl ?_
      refine T_iload_n (i := 2) (pc' := 34) dX11_lot_33 rfl rfl rfl ?_
      refine T_callS (av := [(2, (h + 6)), (0, v2)]) (st := [(0, (fX11_draw M 4))]) (d2 := 1) (nc2 := 0) (ns2 := 0) (pc' := 37) dX11_lot_34 rfl mtX11_get mvX11_get mlX11_189 rfl rfl (Nat.le_of_ble_eq_true rfl) (by decide) ⟨by decide, by decide⟩ rfl (pX11_get (E := E) (h := h) (M := (fmX11_draw M)) (p0 := (h + 6)) (np0 := 9) (v1 := v2) (pog6 hh) (shg6 hh) (by decide) (gX11_draw (h := h) (M := M) (v1 := 4) hG)) (kF (st2 := [(0, (fX11_get (fmX11_draw M) (h + 6) 9 v2)), (0, (fX11_draw M 4))]) rfl (fun hG4 => ?_))
      have HJ5 : T E miX11_lot 2 126 0 0 (fun r S M' => S = S0 ∧ G h M' ∧ Q r M') 46 [(2, 0), (0, (if (fX11_get (fmX11_draw M) (h + 6) 9 v2) ≤ (fX11_draw M 4) then v1 else (m_or v1 (m_shl 1 v2)))), (0, v2)] [] S0 (fmX11_draw M) 0 0 := by
        refine T_iinc (L' := [(2, 0), (0, (if (fX11_get (fmX11_draw M) (h + 6) 9 v2) ≤ (fX11_draw M 4) then v1 else (m_or v1 (m_shl 1 v2)))), (0, (wr32 (v2 + 1)))]) (pc' := 49) dX11_lot_46 rfl (by decide) rfl rfl ?_
        refine T_goto (pc' := 4) dX11_lot_49 (by decide) ?_
        rw [hw]
        have hbd : ((fmX11_draw M) (h + 1) 8) = (M (h + 1) 8) := by
          repeat' (first | rfl | (rw [mset_p] <;> first | decide | (unfold isG at *; omega)) | (rw [frX11_changed] <;> first | decide | (unfold isG at *; omega)) | (rw [frX11_draw] <;> first | decide | (unfold isG at *; omega)) | rw [ite_ap] | split)
        exact T_wk (ih _ (v2 + 1) _ (by omega) (by rw [hbd]; omega) hQ (gX11_draw (h := h) (M := M) (v1 := 4) hG)) ⟨Or.inr rfl, Or.inr rfl, Or.inr rfl, trivial⟩
      refine T_icmp_ge (pc' := 46) dX11_lot_37 (by decide) (pf := 40) rfl (fun c6 => ?_) (fun c6 => ?_)
      · skip
        exact T_wk (L' := [(2, 0), (0, v1), (0, v2)]) (by have q := HJ5; try simp only [if_pos c6] at q; exact q) ⟨Or.inr rfl, Or.inr rfl, Or.inr rfl, trivial⟩
      · skip
        refine T_iload_n (i := 1) (pc' := 41) dX11_lot_40 rfl rfl rfl ?_
        refine T_iconst (pc' := 42) dX11_lot_41 (by decide) rfl ?_
        refine T_iload_n (i := 2) (pc' := 43) dX11_lot_42 rfl rfl rfl ?_
        refine T_ishl (pc' := 44) dX11_lot_43 rfl ?_
        refine T_ior (pc' := 45) dX11_lot_44 rfl ?_
        refine T_istore_n (i := 1) (L' := [(2, 0), (0, (m_or v1 (m_shl 1 v2))), (0, v2)]) (pc' := 46) dX11_lot_45 rfl (by decide) rfl rfl ?_
        exact T_wk (L' := [(2, 0), (0, (m_or v1 (m_shl 1 v2))), (0, v2)]) (by have q := HJ5; try simp only [if_neg c6] at q; exact q) ⟨Or.inr rfl, Or.inr rfl, Or.inr rfl, trivial⟩
def fX11_lot (M : Mem) (h : Int) : Int :=
  (lX11_lot_4 h ((((M (h + 1) 8)) : Int) - 0).toNat 0 0 M)
def fmX11_lot (M : Mem) (h : Int) : Mem :=
  (lmX11_lot_4 h ((((M (h + 1) 8)) : Int) - 0).toNat 0 0 M)
theorem frX11_lot {M : Mem} {h : Int} {q : Int} (hq0 : q ≠ 0) : (fmX11_lot M h) q = M q := by
  unfold fmX11_lot
  repeat' (first | rfl | rw [mset_p hq0] | rw [mcpy_p hq0] | (rw [frX11_changed] <;> try assumption) | (rw [frX11_draw] <;> try assumption) | (rw [frlX11_lot_4] <;> try assumption) | rw [ite_ap] | split)
set_option maxRecDepth 100000 in
theorem pX11_lot {E : EV} {h : Int} {M : Mem}   : C2 E miX11_lot 2 h [(2, 0)] M (fun r M' => r = some (0, (fX11_lot M h)) ∧ M' = (fmX11_lot M h)) := by
  obtain ⟨Q, hQ0⟩ : ∃ Q : Option MV → Mem → Prop, Q = (fun r M' => r = some (0, (fX11_lot M h)) ∧ M' = (fmX11_lot M h)) := ⟨_, rfl⟩
  rw [← hQ0]
  have hQ : Q (some (0, (lX11_lot_4 h ((((M (h + 1) 8)) : Int) - 0).toNat 0 0 M))) (lmX11_lot_4 h ((((M (h + 1) 8)) : Int) - 0).toNat 0 0 M) := by rw [hQ0]; exact ⟨rfl, rfl⟩
  refine C2_of (L := [(2, 0), (3, 0), (3, 0)]) (by decide +kernel) (Nat.le_of_ble_eq_true rfl) rfl (fun hG => ?_)
  refine T_iconst (pc' := 1) dX11_lot_0 (by decide) rfl ?_
  refine T_istore_n (i := 1) (L' := [(2, 0), (0, 0), (3, 0)]) (pc' := 2) dX11_lot_1 rfl (by decide) rfl rfl ?_
  refine T_iconst (pc' := 3) dX11_lot_2 (by decide) rfl ?_
  refine T_istore_n (i := 2) (L' := [(2, 0), (0, 0), (0, 0)]) (pc' := 4) dX11_lot_3 rfl (by decide) rfl rfl ?_
  exact T_wk (qX11_lot_4  _ 0 0 _ (by first | decide | omega) rfl hQ hG) ⟨Or.inr rfl, Or.inr rfl, Or.inr rfl, trivial⟩
def lX12_feed_18  : Nat → Int → Int → Int → Int → Int → Int → Mem → Int
  | 0, v1, v2, v3, v4, v5, v6, M => (M 66 1)
  | k + 1, v1, v2, v3, v4, v5, v6, M => (lX12_feed_18 k v1 v2 v3 v4 v5 (v6 + 1) (mset (mset M 67 (M 66 1) (m_and (m_shr (if 4 ≤ v6 then (if 8 ≤ v6 then (if 12 ≤ v6 then (if 16 ≤ v6 then v5 else v4) else v3) else v2) else v1) (wr32 (8 * (wr32 (3 - (Int.tmod v6 4)))))) 255)) 66 1 (wr32 (((mset M 67 (M 66 1) (m_and (m_shr (if 4 ≤ v6 then (if 8 ≤ v6 then (if 12 ≤ v6 then (if 16 ≤ v6 then v5 else v4) else v3) else v2) else v1) (wr32 (8 * (wr32 (3 - (Int.tmod v6 4)))))) 255)) 66 1) + 1))))
def lmX12_feed_18  : Nat → Int → Int → Int → Int → Int → Int → Mem → Mem
  | 0, v1, v2, v3, v4, v5, v6, M => M
  | k + 1, v1, v2, v3, v4, v5, v6, M => (lmX12_feed_18 k v1 v2 v3 v4 v5 (v6 + 1) (mset (mset M 67 (M 66 1) (m_and (m_shr (if 4 ≤ v6 then (if 8 ≤ v6 then (if 12 ≤ v6 then (if 16 ≤ v6 then v5 else v4) else v3) else v2) else v1) (wr32 (8 * (wr32 (3 - (Int.tmod v6 4)))))) 255)) 66 1 (wr32 (((mset M 67 (M 66 1) (m_and (m_shr (if 4 ≤ v6 then (if 8 ≤ v6 then (if 12 ≤ v6 then (if 16 ≤ v6 then v5 else v4) else v3) else v2) else v1) (wr32 (8 * (wr32 (3 - (Int.tmod v6 4)))))) 255)) 66 1) + 1))))
theorem frlX12_feed_18  {q : Int} (hq0 : q ≠ 67) (hq1 : q ≠ 66) : ∀ {k : Nat} {v1 v2 v3 v4 v5 v6 : Int} {M : Mem}, (lmX12_feed_18  k v1 v2 v3 v4 v5 v6 M) q = M q := by
  intro k
  induction k with
  | zero =>
    intro v1 v2 v3 v4 v5 v6 M
    show M q = M q
    repeat' (first | rfl | rw [mset_p hq0] | rw [mset_p hq1] | rw [mcpy_p hq0] | rw [mcpy_p hq1] | rw [ite_ap] | split)
  | succ k ih =>
    intro v1 v2 v3 v4 v5 v6 M
    show (lmX12_feed_18 k v1 v2 v3 v4 v5 (v6 + 1) (mset (mset M 67 (M 66 1) (m_and (m_shr (if 4 ≤ v6 then (if 8 ≤ v6 then (if 12 ≤ v6 then (if 16 ≤ v6 then v5 else v4) else v3) else v2) else v1) (wr32 (8 * (wr32 (3 - (Int.tmod v6 4)))))) 255)) 66 1 (wr32 (((mset M 67 (M 66 1) (m_and (m_shr (if 4 ≤ v6 then (if 8 ≤ v6 then (if 12 ≤ v6 then (if 16 ≤ v6 then v5 else v4) else v3) else v2) else v1) (wr32 (8 * (wr32 (3 - (Int.tmod v6 4)))))) 255)) 66 1) + 1)))) q = M q
    repeat' (first | rfl | rw [mset_p hq0] | rw [mset_p hq1] | rw [mcpy_p hq0] | rw [mcpy_p hq1] | rw [ite_ap] | split | rw [ih])
def nlX12_feed_18  : Nat → Int → Int → Int → Int → Int → Int → Mem → Prop
  | 0, v1, v2, v3, v4, v5, v6, M => True
  | k + 1, v1, v2, v3, v4, v5, v6, M => (0 ≤ (M 66 1) ∧ (M 66 1) < 1600) ∧ ((nlX12_feed_18 k v1 v2 v3 v4 v5 (v6 + 1) (mset (mset M 67 (M 66 1) (m_and (m_shr (if 4 ≤ v6 then (if 8 ≤ v6 then (if 12 ≤ v6 then (if 16 ≤ v6 then v5 else v4) else v3) else v2) else v1) (wr32 (8 * (wr32 (3 - (Int.tmod v6 4)))))) 255)) 66 1 (wr32 (((mset M 67 (M 66 1) (m_and (m_shr (if 4 ≤ v6 then (if 8 ≤ v6 then (if 12 ≤ v6 then (if 16 ≤ v6 then v5 else v4) else v3) else v2) else v1) (wr32 (8 * (wr32 (3 - (Int.tmod v6 4)))))) 255)) 66 1) + 1)))))
set_option maxRecDepth 100000 in
set_option maxHeartbeats 2000000 in
theorem qX12_feed_18 {E : EV} {h : Int} {Q : Option MV → Mem → Prop}   : ∀ (k : Nat) (v1 v2 v3 v4 v5 v6 : Int) (M : Mem), 0 ≤ v6 → ((20) - v6).toNat = k → (nlX12_feed_18 k v1 v2 v3 v4 v5 v6 M) → Q (some (0, (lX12_feed_18 k v1 v2 v3 v4 v5 v6 M))) (lmX12_feed_18 k v1 v2 v3 v4 v5 v6 M) → G h M → TG E miX12_feed 1 h Q 18 [(2, 66), (0, v1), (0, v2), (0, v3), (0, v4), (0, v5), (0, v6), (3, 0)] [] M := by
  intro k
  induction k with
  | zero =>
    intro v1 v2 v3 v4 v5 v6 M hv0 hk hs hQ hG
    have hQ : Q (some (0, (M 66 1))) M := hQ
    have hs : True := hs
    refine T_iload (i := 6) (pc' := 20) dX12_feed_18 rfl rfl ?_
    refine T_bipush (pc' := 22) dX12_feed_20 rfl (by decide) rfl ?_
    refine T_rng (fun _ z9 _ => ?_)
    have hB : r32 20 := (ok_cons.mp z9).1
    unfold r32 at hB
    refine T_icmp_ge (pc' := 114) dX12_feed_22 (by decide) (pf := 25) rfl (fun c1 => ?_) (fun c1 => ?_)
    · skip
      refine T_aload_n (i := 0) (pc' := 115) dX12_feed_114 rfl rfl rfl ?_
      refine U_gf (v := (0, (M 66 1))) (k := 1) (kI := 1) (pc' := 118) dX12_feed_115 rfl cl12 (by decide) rfl (by decide) flX12_198 rfl rfl (by decide) rfl rfl ?_
      exact T_iret dX12_feed_118 rfl ⟨rfl, hG, hQ⟩
    · exact absurd c1 (by omega)
  | succ k ih =>
    intro v1 v2 v3 v4 v5 v6 M hv0 hk hs hQ hG
    have hQ : Q (some (0, (lX12_feed_18 k v1 v2 v3 v4 v5 (v6 + 1) (mset (mset M 67 (M 66 1) (m_and (m_shr (if 4 ≤ v6 then (if 8 ≤ v6 then (if 12 ≤ v6 then (if 16 ≤ v6 then v5 else v4) else v3) else v2) else v1) (wr32 (8 * (wr32 (3 - (Int.tmod v6 4)))))) 255)) 66 1 (wr32 (((mset M 67 (M 66 1) (m_and (m_shr (if 4 ≤ v6 then (if 8 ≤ v6 then (if 12 ≤ v6 then (if 16 ≤ v6 then v5 else v4) else v3) else v2) else v1) (wr32 (8 * (wr32 (3 - (Int.tmod v6 4)))))) 255)) 66 1) + 1)))))) (lmX12_feed_18 k v1 v2 v3 v4 v5 (v6 + 1) (mset (mset M 67 (M 66 1) (m_and (m_shr (if 4 ≤ v6 then (if 8 ≤ v6 then (if 12 ≤ v6 then (if 16 ≤ v6 then v5 else v4) else v3) else v2) else v1) (wr32 (8 * (wr32 (3 - (Int.tmod v6 4)))))) 255)) 66 1 (wr32 (((mset M 67 (M 66 1) (m_and (m_shr (if 4 ≤ v6 then (if 8 ≤ v6 then (if 12 ≤ v6 then (if 16 ≤ v6 then v5 else v4) else v3) else v2) else v1) (wr32 (8 * (wr32 (3 - (Int.tmod v6 4)))))) 255)) 66 1) + 1)))) := hQ
    have hs : (0 ≤ (M 66 1) ∧ (M 66 1) < 1600) ∧ ((nlX12_feed_18 k v1 v2 v3 v4 v5 (v6 + 1) (mset (mset M 67 (M 66 1) (m_and (m_shr (if 4 ≤ v6 then (if 8 ≤ v6 then (if 12 ≤ v6 then (if 16 ≤ v6 then v5 else v4) else v3) else v2) else v1) (wr32 (8 * (wr32 (3 - (Int.tmod v6 4)))))) 255)) 66 1 (wr32 (((mset M 67 (M 66 1) (m_and (m_shr (if 4 ≤ v6 then (if 8 ≤ v6 then (if 12 ≤ v6 then (if 16 ≤ v6 then v5 else v4) else v3) else v2) else v1) (wr32 (8 * (wr32 (3 - (Int.tmod v6 4)))))) 255)) 66 1) + 1))))) := hs
    obtain ⟨n1, n2⟩ := hs
    refine T_iload (i := 6) (pc' := 20) dX12_feed_18 rfl rfl ?_
    refine T_bipush (pc' := 22) dX12_feed_20 rfl (by decide) rfl ?_
    refine T_rng (fun _ z9 _ => ?_)
    have hB : r32 20 := (ok_cons.mp z9).1
    unfold r32 at hB
    refine T_icmp_ge (pc' := 114) dX12_feed_22 (by decide) (pf := 25) rfl (fun c1 => ?_) (fun c1 => ?_)
    · exact absurd c1 (by omega)
    · skip
      have hw : wr32 (v6 + 1) = v6 + 1 := wr32_id (by unfold r32; omega)
      refine T_iload (i := 6) (pc' := 27) dX12_feed_25 rfl rfl ?_
      refine T_iconst (pc' := 28) dX12_feed_27 (by decide) rfl ?_
      have HJ2 : T E miX12_feed 1 126 0 0 (fun r S M' => S = S0 ∧ G h M' ∧ Q r M') 71 [(2, 66), (0, v1), (0, v2), (0, v3), (0, v4), (0, v5), (0, v6), (3, 0)] [(0, (if 4 ≤ v6 then (if 8 ≤ v6 then (if 12 ≤ v6 then (if 16 ≤ v6 then v5 else v4) else v3) else v2) else v1))] S0 M 0 0 := by
        refine T_istore (i := 7) (L' := [(2, 66), (0, v1), (0, v2), (0, v3), (0, v4), (0, v5), (0, v6), (0, (if 4 ≤ v6 then (if 8 ≤ v6 then (if 12 ≤ v6 then (if 16 ≤ v6 then v5 else v4) else v3) else v2) else v1))]) (pc' := 73) dX12_feed_71 (by decide) rfl rfl ?_
        refine T_aload_n (i := 0) (pc' := 74) dX12_feed_73 rfl rfl rfl ?_
        refine U_gr (q := 67) (k := 0) (kI := 0) (pc' := 77) dX12_feed_74 rfl cl12 (by decide) rfl (by decide) flX12_7 rfl rfl rfl (G_at hG 67 rfl) (by decide) rfl ?_
        refine T_aload_n (i := 0) (pc' := 78) dX12_feed_77 rfl rfl rfl ?_
        refine U_gf (v := (0, (M 66 1))) (k := 1) (kI := 1) (pc' := 81) dX12_feed_78 rfl cl12 (by decide) rfl (by decide) flX12_198 rfl rfl (by decide) rfl rfl ?_
        refine T_iload (i := 7) (pc' := 83) dX12_feed_81 rfl rfl ?_
        refine T_bipush (pc' := 85) dX12_feed_83 rfl (by decide) rfl ?_
        refine T_iconst (pc' := 86) dX12_feed_85 (by decide) rfl ?_
        refine T_iload (i := 6) (pc' := 88) dX12_feed_86 rfl rfl ?_
        refine T_iconst (pc' := 89) dX12_feed_88 (by decide) rfl ?_
        refine T_irem (pc' := 90) dX12_feed_89 (by decide) rfl ?_
        refine T_isub (pc' := 91) dX12_feed_90 rfl ?_
        refine T_imul (pc' := 92) dX12_feed_91 rfl ?_
        refine T_ishr (pc' := 93) dX12_feed_92 rfl ?_
        refine T_sipush (pc' := 96) dX12_feed_93 rfl (by decide) rfl ?_
        refine T_iand (pc' := 97) dX12_feed_96 rfl ?_
        refine T_iast (pc' := 98) dX12_feed_97 (by decide) rfl (n1).1 (n1).2 rfl ?_
        refine T_aload_n (i := 0) (pc' := 99) dX12_feed_98 rfl rfl rfl ?_
        refine T_dup (pc' := 100) dX12_feed_99 (Nat.ne_of_beq_eq_false rfl) rfl ?_
        refine U_gf (v := (0, ((mset M 67 (M 66 1) (m_and (m_shr (if 4 ≤ v6 then (if 8 ≤ v6 then (if 12 ≤ v6 then (if 16 ≤ v6 then v5 else v4) else v3) else v2) else v1) (wr32 (8 * (wr32 (3 - (Int.tmod v6 4)))))) 255)) 66 1))) (k := 1) (kI := 1) (pc' := 103) dX12_feed_100 rfl cl12 (by decide) rfl (by decide) flX12_198 rfl rfl (by decide) rfl rfl ?_
        refine T_iconst (pc' := 104) dX12_feed_103 (by decide) rfl ?_
        refine T_iadd (pc' := 105) dX12_feed_104 rfl ?_
        refine U_pf (y := (wr32 (((mset M 67 (M 66 1) (m_and (m_shr (if 4 ≤ v6 then (if 8 ≤ v6 then (if 12 ≤ v6 then (if 16 ≤ v6 then v5 else v4) else v3) else v2) else v1) (wr32 (8 * (wr32 (3 - (Int.tmod v6 4)))))) 255)) 66 1) + 1))) (k := 1) (kI := 1) (pc' := 108) dX12_feed_105 rfl cl12 (by decide) rfl (by decide) flX12_198 rfl rfl rfl rfl rfl (by decide) (fun z => z) rfl ?_
        refine T_iinc (L' := [(2, 66), (0, v1), (0, v2), (0, v3), (0, v4), (0, v5), (0, (wr32 (v6 + 1))), (0, (if 4 ≤ v6 then (if 8 ≤ v6 then (if 12 ≤ v6 then (if 16 ≤ v6 then v5 else v4) else v3) else v2) else v1))]) (pc' := 111) dX12_feed_108 rfl (by decide) rfl rfl ?_
        refine T_goto (pc' := 18) dX12_feed_111 (by decide) ?_
        rw [hw]
        exact T_wk (ih _ _ _ _ _ (v6 + 1) _ (by omega) (by omega) (n2) hQ (G_fld (x := 66) (i := 1) (y := (wr32 (((mset M 67 (M 66 1) (m_and (m_shr (if 4 ≤ v6 then (if 8 ≤ v6 then (if 12 ≤ v6 then (if 16 ≤ v6 then v5 else v4) else v3) else v2) else v1) (wr32 (8 * (wr32 (3 - (Int.tmod v6 4)))))) 255)) 66 1) + 1))) rfl (by decide) (by decide) (by decide) (G_arr (x := 67) (i := (M 66 1)) (y := (m_and (m_shr (if 4 ≤ v6 then (if 8 ≤ v6 then (if 12 ≤ v6 then (if 16 ≤ v6 then v5 else v4) else v3) else v2) else v1) (wr32 (8 * (wr32 (3 - (Int.tmod v6 4)))))) 255)) rfl (by decide) hG))) ⟨Or.inr rfl, Or.inr rfl, Or.inr rfl, Or.inr rfl, Or.inr rfl, Or.inr rfl, Or.inr rfl, Or.inl rfl, trivial⟩
      refine T_icmp_ge (pc' := 35) dX12_feed_28 (by decide) (pf := 31) rfl (fun c3 => ?_) (fun c3 => ?_)
      · skip
        refine T_iload (i := 6) (pc' := 37) dX12_feed_35 rfl rfl ?_
        refine T_bipush (pc' := 39) dX12_feed_37 rfl (by decide) rfl ?_
        refine T_icmp_ge (pc' := 46) dX12_feed_39 (by decide) (pf := 42) rfl (fun c4 => ?_) (fun c4 => ?_)
        · skip
          refine T_iload (i := 6) (pc' := 48) dX12_feed_46 rfl rfl ?_
          refine T_bipush (pc' := 50) dX12_feed_48 rfl (by decide) rfl ?_
          refine T_icmp_ge (pc' := 57) dX12_feed_50 (by decide) (pf := 53) rfl (fun c5 => ?_) (fun c5 => ?_)
          · skip
            refine T_iload (i := 6) (pc' := 59) dX12_feed_57 rfl rfl ?_
            refine T_bipush (pc' := 61) dX12_feed_59 rfl (by decide) rfl ?_
            refine T_icmp_ge (pc' := 69) dX12_feed_61 (by decide) (pf := 64) rfl (fun c6 => ?_) (fun c6 => ?_)
            · skip
              refine T_iload (i := 5) (pc' := 71) dX12_feed_69 rfl rfl ?_
              exact T_wk (L' := [(2, 66), (0, v1), (0, v2), (0, v3), (0, v4), (0, v5), (0, v6), (3, 0)]) (by have q := HJ2; try simp only [if_pos c3] at q; try simp only [if_pos c4] at q; try simp only [if_pos c5] at q; try simp only [if_pos c6] at q; exact q) ⟨Or.inr rfl, Or.inr rfl, Or.inr rfl, Or.inr rfl, Or.inr rfl, Or.inr rfl, Or.inr rfl, Or.inl rfl, trivial⟩
            · skip
              refine T_iload (i := 4) (pc' := 66) dX12_feed_64 rfl rfl ?_
              refine T_goto (pc' := 71) dX12_feed_66 (by decide) ?_
              exact T_wk (L' := [(2, 66), (0, v1), (0, v2), (0, v3), (0, v4), (0, v5), (0, v6), (3, 0)]) (by have q := HJ2; try simp only [if_pos c3] at q; try simp only [if_pos c4] at q; try simp only [if_pos c5] at q; try simp only [if_neg c6] at q; exact q) ⟨Or.inr rfl, Or.inr rfl, Or.inr rfl, Or.inr rfl, Or.inr rfl, Or.inr rfl, Or.inr rfl, Or.inl rfl, trivial⟩
          · skip
            refine T_iload_n (i := 3) (pc' := 54) dX12_feed_53 rfl rfl rfl ?_
            refine T_goto (pc' := 71) dX12_feed_54 (by decide) ?_
            exact T_wk (L' := [(2, 66), (0, v1), (0, v2), (0, v3), (0, v4), (0, v5), (0, v6), (3, 0)]) (by have q := HJ2; try simp only [if_pos c3] at q; try simp only [if_pos c4] at q; try simp only [if_neg c5] at q; exact q) ⟨Or.inr rfl, Or.inr rfl, Or.inr rfl, Or.inr rfl, Or.inr rfl, Or.inr rfl, Or.inr rfl, Or.inl rfl, trivial⟩
        · skip
          refine T_iload_n (i := 2) (pc' := 43) dX12_feed_42 rfl rfl rfl ?_
          refine T_goto (pc' := 71) dX12_feed_43 (by decide) ?_
          exact T_wk (L' := [(2, 66), (0, v1), (0, v2), (0, v3), (0, v4), (0, v5), (0, v6), (3, 0)]) (by have q := HJ2; try simp only [if_pos c3] at q; try simp only [if_neg c4] at q; exact q) ⟨Or.inr rfl, Or.inr rfl, Or.inr rfl, Or.inr rfl, Or.inr rfl, Or.inr rfl, Or.inr rfl, Or.inl rfl, trivial⟩
      · skip
        refine T_iload_n (i := 1) (pc' := 32) dX12_feed_31 rfl rfl rfl ?_
        refine T_goto (pc' := 71) dX12_feed_32 (by decide) ?_
        exact T_wk (L' := [(2, 66), (0, v1), (0, v2), (0, v3), (0, v4), (0, v5), (0, v6), (3, 0)]) (by have q := HJ2; try simp only [if_neg c3] at q; exact q) ⟨Or.inr rfl, Or.inr rfl, Or.inr rfl, Or.inr rfl, Or.inr rfl, Or.inr rfl, Or.inr rfl, Or.inl rfl, trivial⟩
def fX12_feed (M : Mem) (v1 : Int) (v2 : Int) (v3 : Int) (v4 : Int) (v5 : Int) : Int :=
  (if (wr32 ((M 66 1) + 20)) ≤ 1600 then (lX12_feed_18 20 v1 v2 v3 v4 v5 0 M) else (-1))
def fmX12_feed (M : Mem) (v1 : Int) (v2 : Int) (v3 : Int) (v4 : Int) (v5 : Int) : Mem :=
  (if (wr32 ((M 66 1) + 20)) ≤ 1600 then (lmX12_feed_18 20 v1 v2 v3 v4 v5 0 M) else M)
def nX12_feed (M : Mem) (v1 : Int) (v2 : Int) (v3 : Int) (v4 : Int) (v5 : Int) : Prop :=
  ((wr32 ((M 66 1) + 20)) ≤ 1600 → (nlX12_feed_18 20 v1 v2 v3 v4 v5 0 M))
theorem frX12_feed {M : Mem} {v1 : Int} {v2 : Int} {v3 : Int} {v4 : Int} {v5 : Int} {q : Int} (hq0 : q ≠ 67) (hq1 : q ≠ 66) : (fmX12_feed M v1 v2 v3 v4 v5) q = M q := by
  unfold fmX12_feed
  repeat' (first | rfl | rw [mset_p hq0] | rw [mset_p hq1] | rw [mcpy_p hq0] | rw [mcpy_p hq1] | (rw [frlX12_feed_18] <;> try assumption) | rw [ite_ap] | split)
set_option maxRecDepth 100000 in
theorem pX12_feed {E : EV} {h : Int} {M : Mem} {v1 : Int} {v2 : Int} {v3 : Int} {v4 : Int} {v5 : Int} (hs : (nX12_feed M v1 v2 v3 v4 v5)) : C2 E miX12_feed 1 h [(2, 66), (0, v1), (0, v2), (0, v3), (0, v4), (0, v5)] M (fun r M' => r = some (0, (fX12_feed M v1 v2 v3 v4 v5)) ∧ M' = (fmX12_feed M v1 v2 v3 v4 v5)) := by
  obtain ⟨Q, hQ0⟩ : ∃ Q : Option MV → Mem → Prop, Q = (fun r M' => r = some (0, (fX12_feed M v1 v2 v3 v4 v5)) ∧ M' = (fmX12_feed M v1 v2 v3 v4 v5)) := ⟨_, rfl⟩
  rw [← hQ0]
  have hQ : Q (some (0, (if (wr32 ((M 66 1) + 20)) ≤ 1600 then (lX12_feed_18 20 v1 v2 v3 v4 v5 0 M) else (-1)))) (if (wr32 ((M 66 1) + 20)) ≤ 1600 then (lmX12_feed_18 20 v1 v2 v3 v4 v5 0 M) else M) := by rw [hQ0]; exact ⟨rfl, rfl⟩
  have o1 := hs
  refine C2_of (L := [(2, 66), (0, v1), (0, v2), (0, v3), (0, v4), (0, v5), (3, 0), (3, 0)]) (by decide +kernel) (Nat.le_of_ble_eq_true rfl) rfl (fun hG => ?_)
  refine T_aload_n (i := 0) (pc' := 1) dX12_feed_0 rfl rfl rfl ?_
  refine U_gf (v := (0, (M 66 1))) (k := 1) (kI := 1) (pc' := 4) dX12_feed_1 rfl cl12 (by decide) rfl (by decide) flX12_198 rfl rfl (by decide) rfl rfl ?_
  refine T_bipush (pc' := 6) dX12_feed_4 rfl (by decide) rfl ?_
  refine T_iadd (pc' := 7) dX12_feed_6 rfl ?_
  refine T_sipush (pc' := 10) dX12_feed_7 rfl (by decide) rfl ?_
  refine T_icmp_le (pc' := 15) dX12_feed_10 (by decide) (pf := 13) rfl (fun c1 => ?_) (fun c1 => ?_)
  · skip
    refine T_iconst (pc' := 16) dX12_feed_15 (by decide) rfl ?_
    refine T_istore (i := 6) (L' := [(2, 66), (0, v1), (0, v2), (0, v3), (0, v4), (0, v5), (0, 0), (3, 0)]) (pc' := 18) dX12_feed_16 (by decide) rfl rfl ?_
    exact T_wk (qX12_feed_18  20 v1 v2 v3 v4 v5 0 _ (by first | decide | omega) rfl (o1 c1) (by have q := hQ; try simp only [if_pos c1] at q; exact q) hG) ⟨Or.inr rfl, Or.inr rfl, Or.inr rfl, Or.inr rfl, Or.inr rfl, Or.inr rfl, Or.inr rfl, Or.inl rfl, trivial⟩
  · skip
    refine T_iconst (pc' := 14) dX12_feed_13 (by decide) rfl ?_
    exact T_iret dX12_feed_14 rfl ⟨rfl, hG, (by have q := hQ; try simp only [if_neg c1] at q; exact q)⟩
def lX12_doorAt_2  : Nat → Int → Int → Mem → Int
  | 0, v1, v2, M => (-1)
  | k + 1, v1, v2, M => (if (M 90 v2) = v1 then v2 else (lX12_doorAt_2 k v1 (v2 + 1) M))
def nlX12_doorAt_2  : Nat → Int → Int → Mem → Prop
  | 0, v1, v2, M => True
  | k + 1, v1, v2, M => (0 ≤ v2 ∧ v2 < 12) ∧ (¬ ((M 90 v2) = v1) → (nlX12_doorAt_2 k v1 (v2 + 1) M))
set_option maxRecDepth 100000 in
set_option maxHeartbeats 2000000 in
theorem qX12_doorAt_2 {E : EV} {h : Int} {Q : Option MV → Mem → Prop}   : ∀ (k : Nat) (v1 v2 : Int) (M : Mem), 0 ≤ v2 → (((M 85 2)) - v2).toNat = k → (nlX12_doorAt_2 k v1 v2 M) → Q (some (0, (lX12_doorAt_2 k v1 v2 M))) M → G h M → TG E miX12_doorAt 1 h Q 2 [(2, 66), (0, v1), (0, v2)] [] M := by
  intro k
  induction k with
  | zero =>
    intro v1 v2 M hv0 hk hs hQ hG
    have hQ : Q (some (0, (-1))) M := hQ
    have hs : True := hs
    refine T_iload_n (i := 2) (pc' := 3) dX12_doorAt_2 rfl rfl rfl ?_
    refine T_aload_n (i := 0) (pc' := 4) dX12_doorAt_3 rfl rfl rfl ?_
    refine U_gr (q := 85) (k := 28) (kI := 28) (pc' := 7) dX12_doorAt_4 rfl cl12 (by decide) rfl (by decide) flX12_69 rfl rfl rfl (G_at hG 85 rfl) (by decide) rfl ?_
    refine T_iconst (pc' := 8) dX12_doorAt_7 (by decide) rfl ?_
    refine T_iald (pc' := 9) dX12_doorAt_8 (by decide) rfl (by decide) (by decide) rfl ?_
    refine T_rng (fun _ z9 _ => ?_)
    have hB : r32 (M 85 2) := (ok_cons.mp z9).1
    unfold r32 at hB
    refine T_icmp_ge (pc' := 30) dX12_doorAt_9 (by decide) (pf := 12) rfl (fun c1 => ?_) (fun c1 => ?_)
    · skip
      refine T_iconst (pc' := 31) dX12_doorAt_30 (by decide) rfl ?_
      exact T_iret dX12_doorAt_31 rfl ⟨rfl, hG, hQ⟩
    · exact absurd c1 (by omega)
  | succ k ih =>
    intro v1 v2 M hv0 hk hs hQ hG
    have hQ : Q (some (0, (if (M 90 v2) = v1 then v2 else (lX12_doorAt_2 k v1 (v2 + 1) M)))) M := hQ
    have hs : (0 ≤ v2 ∧ v2 < 12) ∧ (¬ ((M 90 v2) = v1) → (nlX12_doorAt_2 k v1 (v2 + 1) M)) := hs
    obtain ⟨n1, n2⟩ := hs
    refine T_iload_n (i := 2) (pc' := 3) dX12_doorAt_2 rfl rfl rfl ?_
    refine T_aload_n (i := 0) (pc' := 4) dX12_doorAt_3 rfl rfl rfl ?_
    refine U_gr (q := 85) (k := 28) (kI := 28) (pc' := 7) dX12_doorAt_4 rfl cl12 (by decide) rfl (by decide) flX12_69 rfl rfl rfl (G_at hG 85 rfl) (by decide) rfl ?_
    refine T_iconst (pc' := 8) dX12_doorAt_7 (by decide) rfl ?_
    refine T_iald (pc' := 9) dX12_doorAt_8 (by decide) rfl (by decide) (by decide) rfl ?_
    refine T_rng (fun _ z9 _ => ?_)
    have hB : r32 (M 85 2) := (ok_cons.mp z9).1
    unfold r32 at hB
    refine T_icmp_ge (pc' := 30) dX12_doorAt_9 (by decide) (pf := 12) rfl (fun c1 => ?_) (fun c1 => ?_)
    · exact absurd c1 (by omega)
    · skip
      have hw : wr32 (v2 + 1) = v2 + 1 := wr32_id (by unfold r32; omega)
      refine T_aload_n (i := 0) (pc' := 13) dX12_doorAt_12 rfl rfl rfl ?_
      refine U_gr (q := 90) (k := 33) (kI := 33) (pc' := 16) dX12_doorAt_13 rfl cl12 (by decide) rfl (by decide) flX12_86 rfl rfl rfl (G_at hG 90 rfl) (by decide) rfl ?_
      refine T_iload_n (i := 2) (pc' := 17) dX12_doorAt_16 rfl rfl rfl ?_
      refine T_iald (pc' := 18) dX12_doorAt_17 (by decide) rfl (n1).1 (n1).2 rfl ?_
      refine T_iload_n (i := 1) (pc' := 19) dX12_doorAt_18 rfl rfl rfl ?_
      refine T_icmp_ne (pc' := 24) dX12_doorAt_19 (by decide) (pf := 22) rfl (fun c2 => ?_) (fun c2 => ?_)
      · skip
        refine T_iinc (L' := [(2, 66), (0, v1), (0, (wr32 (v2 + 1)))]) (pc' := 27) dX12_doorAt_24 rfl (by decide) rfl rfl ?_
        refine T_goto (pc' := 2) dX12_doorAt_27 (by decide) ?_
        rw [hw]
        exact T_wk (ih _ (v2 + 1) _ (by omega) (by omega) (n2 c2) (by have q := hQ; try simp only [if_neg c2] at q; exact q) hG) ⟨Or.inr rfl, Or.inr rfl, Or.inr rfl, trivial⟩
      · skip
        refine T_iload_n (i := 2) (pc' := 23) dX12_doorAt_22 rfl rfl rfl ?_
        exact T_iret dX12_doorAt_23 rfl ⟨rfl, hG, (by have q := hQ; try simp only [if_pos c2] at q; exact q)⟩
def fX12_doorAt (M : Mem) (v1 : Int) : Int :=
  (lX12_doorAt_2 ((((M 85 2)) : Int) - 0).toNat v1 0 M)
def nX12_doorAt (M : Mem) (v1 : Int) : Prop :=
  ((nlX12_doorAt_2 ((((M 85 2)) : Int) - 0).toNat v1 0 M))
set_option maxRecDepth 100000 in
theorem pX12_doorAt {E : EV} {h : Int} {M : Mem} {v1 : Int} (hs : (nX12_doorAt M v1)) : C2 E miX12_doorAt 1 h [(2, 66), (0, v1)] M (fun r M' => r = some (0, (fX12_doorAt M v1)) ∧ M' = M) := by
  obtain ⟨Q, hQ0⟩ : ∃ Q : Option MV → Mem → Prop, Q = (fun r M' => r = some (0, (fX12_doorAt M v1)) ∧ M' = M) := ⟨_, rfl⟩
  rw [← hQ0]
  have hQ : Q (some (0, (lX12_doorAt_2 ((((M 85 2)) : Int) - 0).toNat v1 0 M))) M := by rw [hQ0]; exact ⟨rfl, rfl⟩
  have o1 := hs
  refine C2_of (L := [(2, 66), (0, v1), (3, 0)]) (by decide +kernel) (Nat.le_of_ble_eq_true rfl) rfl (fun hG => ?_)
  refine T_iconst (pc' := 1) dX12_doorAt_0 (by decide) rfl ?_
  refine T_istore_n (i := 2) (L' := [(2, 66), (0, v1), (0, 0)]) (pc' := 2) dX12_doorAt_1 rfl (by decide) rfl rfl ?_
  exact T_wk (qX12_doorAt_2  _ v1 0 _ (by first | decide | omega) rfl (o1) hQ hG) ⟨Or.inr rfl, Or.inr rfl, Or.inr rfl, trivial⟩
def lX12_isSomebody_37  : Nat → Int → Int → Mem → Int
  | 0, v1, v2, M => 0
  | k + 1, v1, v2, M => (if (M 89 (wr32 (3 * v2))) = v1 then 1 else (lX12_isSomebody_37 k v1 (v2 + 1) M))
def nlX12_isSomebody_37  : Nat → Int → Int → Mem → Prop
  | 0, v1, v2, M => True
  | k + 1, v1, v2, M => (0 ≤ (wr32 (3 * v2)) ∧ (wr32 (3 * v2)) < 24) ∧ (¬ ((M 89 (wr32 (3 * v2))) = v1) → (nlX12_isSomebody_37 k v1 (v2 + 1) M))
set_option maxRecDepth 100000 in
set_option maxHeartbeats 2000000 in
theorem qX12_isSomebody_37 {E : EV} {h : Int} {Q : Option MV → Mem → Prop}   : ∀ (k : Nat) (v1 v2 : Int) (M : Mem), 0 ≤ v2 → (((M 85 1)) - v2).toNat = k → (nlX12_isSomebody_37 k v1 v2 M) → Q (some (0, (lX12_isSomebody_37 k v1 v2 M))) M → G h M → TG E miX12_isSomebody 1 h Q 37 [(2, 66), (0, v1), (0, v2)] [] M := by
  intro k
  induction k with
  | zero =>
    intro v1 v2 M hv0 hk hs hQ hG
    have hQ : Q (some (0, 0)) M := hQ
    have hs : True := hs
    refine T_iload_n (i := 2) (pc' := 38) dX12_isSomebody_37 rfl rfl rfl ?_
    refine T_aload_n (i := 0) (pc' := 39) dX12_isSomebody_38 rfl rfl rfl ?_
    refine U_gr (q := 85) (k := 28) (kI := 28) (pc' := 42) dX12_isSomebody_39 rfl cl12 (by decide) rfl (by decide) flX12_69 rfl rfl rfl (G_at hG 85 rfl) (by decide) rfl ?_
    refine T_iconst (pc' := 43) dX12_isSomebody_42 (by decide) rfl ?_
    refine T_iald (pc' := 44) dX12_isSomebody_43 (by decide) rfl (by decide) (by decide) rfl ?_
    refine T_rng (fun _ z9 _ => ?_)
    have hB : r32 (M 85 1) := (ok_cons.mp z9).1
    unfold r32 at hB
    refine T_icmp_ge (pc' := 67) dX12_isSomebody_44 (by decide) (pf := 47) rfl (fun c1 => ?_) (fun c1 => ?_)
    · skip
      refine T_iconst (pc' := 68) dX12_isSomebody_67 (by decide) rfl ?_
      exact T_zret dX12_isSomebody_68 rfl (by decide) ⟨rfl, hG, hQ⟩
    · exact absurd c1 (by omega)
  | succ k ih =>
    intro v1 v2 M hv0 hk hs hQ hG
    have hQ : Q (some (0, (if (M 89 (wr32 (3 * v2))) = v1 then 1 else (lX12_isSomebody_37 k v1 (v2 + 1) M)))) M := hQ
    have hs : (0 ≤ (wr32 (3 * v2)) ∧ (wr32 (3 * v2)) < 24) ∧ (¬ ((M 89 (wr32 (3 * v2))) = v1) → (nlX12_isSomebody_37 k v1 (v2 + 1) M)) := hs
    obtain ⟨n1, n2⟩ := hs
    refine T_iload_n (i := 2) (pc' := 38) dX12_isSomebody_37 rfl rfl rfl ?_
    refine T_aload_n (i := 0) (pc' := 39) dX12_isSomebody_38 rfl rfl rfl ?_
    refine U_gr (q := 85) (k := 28) (kI := 28) (pc' := 42) dX12_isSomebody_39 rfl cl12 (by decide) rfl (by decide) flX12_69 rfl rfl rfl (G_at hG 85 rfl) (by decide) rfl ?_
    refine T_iconst (pc' := 43) dX12_isSomebody_42 (by decide) rfl ?_
    refine T_iald (pc' := 44) dX12_isSomebody_43 (by decide) rfl (by decide) (by decide) rfl ?_
    refine T_rng (fun _ z9 _ => ?_)
    have hB : r32 (M 85 1) := (ok_cons.mp z9).1
    unfold r32 at hB
    refine T_icmp_ge (pc' := 67) dX12_isSomebody_44 (by decide) (pf := 47) rfl (fun c1 => ?_) (fun c1 => ?_)
    · exact absurd c1 (by omega)
    · skip
      have hw : wr32 (v2 + 1) = v2 + 1 := wr32_id (by unfold r32; omega)
      refine T_aload_n (i := 0) (pc' := 48) dX12_isSomebody_47 rfl rfl rfl ?_
      refine U_gr (q := 89) (k := 32) (kI := 32) (pc' := 51) dX12_isSomebody_48 rfl cl12 (by decide) rfl (by decide) flX12_83 rfl rfl rfl (G_at hG 89 rfl) (by decide) rfl ?_
      refine T_iconst (pc' := 52) dX12_isSomebody_51 (by decide) rfl ?_
      refine T_iload_n (i := 2) (pc' := 53) dX12_isSomebody_52 rfl rfl rfl ?_
      refine T_imul (pc' := 54) dX12_isSomebody_53 rfl ?_
      refine T_iald (pc' := 55) dX12_isSomebody_54 (by decide) rfl (n1).1 (n1).2 rfl ?_
      refine T_iload_n (i := 1) (pc' := 56) dX12_isSomebody_55 rfl rfl rfl ?_
      refine T_icmp_ne (pc' := 61) dX12_isSomebody_56 (by decide) (pf := 59) rfl (fun c2 => ?_) (fun c2 => ?_)
      · skip
        refine T_iinc (L' := [(2, 66), (0, v1), (0, (wr32 (v2 + 1)))]) (pc' := 64) dX12_isSomebody_61 rfl (by decide) rfl rfl ?_
        refine T_goto (pc' := 37) dX12_isSomebody_64 (by decide) ?_
        rw [hw]
        exact T_wk (ih _ (v2 + 1) _ (by omega) (by omega) (n2 c2) (by have q := hQ; try simp only [if_neg c2] at q; exact q) hG) ⟨Or.inr rfl, Or.inr rfl, Or.inr rfl, trivial⟩
      · skip
        refine T_iconst (pc' := 60) dX12_isSomebody_59 (by decide) rfl ?_
        exact T_zret dX12_isSomebody_60 rfl (by decide) ⟨rfl, hG, (by have q := hQ; try simp only [if_pos c2] at q; exact q)⟩
def lX12_isSomebody_2  : Nat → Int → Int → Mem → Int
  | 0, v1, v2, M => (lX12_isSomebody_37 ((((M 85 1)) : Int) - 0).toNat v1 0 M)
  | k + 1, v1, v2, M => (if (M 88 (wr32 ((wr32 (18 * v2)) + 0))) = v1 then 1 else (lX12_isSomebody_2 k v1 (v2 + 1) M))
def nlX12_isSomebody_2  : Nat → Int → Int → Mem → Prop
  | 0, v1, v2, M => ((nlX12_isSomebody_37 ((((M 85 1)) : Int) - 0).toNat v1 0 M))
  | k + 1, v1, v2, M => (0 ≤ (wr32 ((wr32 (18 * v2)) + 0)) ∧ (wr32 ((wr32 (18 * v2)) + 0)) < 324) ∧ (¬ ((M 88 (wr32 ((wr32 (18 * v2)) + 0))) = v1) → (nlX12_isSomebody_2 k v1 (v2 + 1) M))
set_option maxRecDepth 100000 in
set_option maxHeartbeats 2000000 in
theorem qX12_isSomebody_2 {E : EV} {h : Int} {Q : Option MV → Mem → Prop}   : ∀ (k : Nat) (v1 v2 : Int) (M : Mem), 0 ≤ v2 → (((M 85 0)) - v2).toNat = k → (nlX12_isSomebody_2 k v1 v2 M) → Q (some (0, (lX12_isSomebody_2 k v1 v2 M))) M → G h M → TG E miX12_isSomebody 1 h Q 2 [(2, 66), (0, v1), (0, v2)] [] M := by
  intro k
  induction k with
  | zero =>
    intro v1 v2 M hv0 hk hs hQ hG
    have hQ : Q (some (0, (lX12_isSomebody_37 ((((M 85 1)) : Int) - 0).toNat v1 0 M))) M := hQ
    have hs : ((nlX12_isSomebody_37 ((((M 85 1)) : Int) - 0).toNat v1 0 M)) := hs
    have n1 := hs
    refine T_iload_n (i := 2) (pc' := 3) dX12_isSomebody_2 rfl rfl rfl ?_
    refine T_aload_n (i := 0) (pc' := 4) dX12_isSomebody_3 rfl rfl rfl ?_
    refine U_gr (q := 85) (k := 28) (kI := 28) (pc' := 7) dX12_isSomebody_4 rfl cl12 (by decide) rfl (by decide) flX12_69 rfl rfl rfl (G_at hG 85 rfl) (by decide) rfl ?_
    refine T_iconst (pc' := 8) dX12_isSomebody_7 (by decide) rfl ?_
    refine T_iald (pc' := 9) dX12_isSomebody_8 (by decide) rfl (by decide) (by decide) rfl ?_
    refine T_rng (fun _ z9 _ => ?_)
    have hB : r32 (M 85 0) := (ok_cons.mp z9).1
    unfold r32 at hB
    refine T_icmp_ge (pc' := 35) dX12_isSomebody_9 (by decide) (pf := 12) rfl (fun c1 => ?_) (fun c1 => ?_)
    · skip
      refine T_iconst (pc' := 36) dX12_isSomebody_35 (by decide) rfl ?_
      refine T_istore_n (i := 2) (L' := [(2, 66), (0, v1), (0, 0)]) (pc' := 37) dX12_isSomebody_36 rfl (by decide) rfl rfl ?_
      exact T_wk (qX12_isSomebody_37  _ v1 0 _ (by first | decide | omega) rfl (n1) hQ hG) ⟨Or.inr rfl, Or.inr rfl, Or.inr rfl, trivial⟩
    · exact absurd c1 (by omega)
  | succ k ih =>
    intro v1 v2 M hv0 hk hs hQ hG
    have hQ : Q (some (0, (if (M 88 (wr32 ((wr32 (18 * v2)) + 0))) = v1 then 1 else (lX12_isSomebody_2 k v1 (v2 + 1) M)))) M := hQ
    have hs : (0 ≤ (wr32 ((wr32 (18 * v2)) + 0)) ∧ (wr32 ((wr32 (18 * v2)) + 0)) < 324) ∧ (¬ ((M 88 (wr32 ((wr32 (18 * v2)) + 0))) = v1) → (nlX12_isSomebody_2 k v1 (v2 + 1) M)) := hs
    obtain ⟨n1, n2⟩ := hs
    refine T_iload_n (i := 2) (pc' := 3) dX12_isSomebody_2 rfl rfl rfl ?_
    refine T_aload_n (i := 0) (pc' := 4) dX12_isSomebody_3 rfl rfl rfl ?_
    refine U_gr (q := 85) (k := 28) (kI := 28) (pc' := 7) dX12_isSomebody_4 rfl cl12 (by decide) rfl (by decide) flX12_69 rfl rfl rfl (G_at hG 85 rfl) (by decide) rfl ?_
    refine T_iconst (pc' := 8) dX12_isSomebody_7 (by decide) rfl ?_
    refine T_iald (pc' := 9) dX12_isSomebody_8 (by decide) rfl (by decide) (by decide) rfl ?_
    refine T_rng (fun _ z9 _ => ?_)
    have hB : r32 (M 85 0) := (ok_cons.mp z9).1
    unfold r32 at hB
    refine T_icmp_ge (pc' := 35) dX12_isSomebody_9 (by decide) (pf := 12) rfl (fun c1 => ?_) (fun c1 => ?_)
    · exact absurd c1 (by omega)
    · skip
      have hw : wr32 (v2 + 1) = v2 + 1 := wr32_id (by unfold r32; omega)
      refine T_aload_n (i := 0) (pc' := 13) dX12_isSomebody_12 rfl rfl rfl ?_
      refine U_gr (q := 88) (k := 31) (kI := 31) (pc' := 16) dX12_isSomebody_13 rfl cl12 (by decide) rfl (by decide) flX12_80 rfl rfl rfl (G_at hG 88 rfl) (by decide) rfl ?_
      refine T_bipush (pc' := 18) dX12_isSomebody_16 rfl (by decide) rfl ?_
      refine T_iload_n (i := 2) (pc' := 19) dX12_isSomebody_18 rfl rfl rfl ?_
      refine T_imul (pc' := 20) dX12_isSomebody_19 rfl ?_
      refine T_iconst (pc' := 21) dX12_isSomebody_20 (by decide) rfl ?_
      refine T_iadd (pc' := 22) dX12_isSomebody_21 rfl ?_
      refine T_iald (pc' := 23) dX12_isSomebody_22 (by decide) rfl (n1).1 (n1).2 rfl ?_
      refine T_iload_n (i := 1) (pc' := 24) dX12_isSomebody_23 rfl rfl rfl ?_
      refine T_icmp_ne (pc' := 29) dX12_isSomebody_24 (by decide) (pf := 27) rfl (fun c2 => ?_) (fun c2 => ?_)
      · skip
        refine T_iinc (L' := [(2, 66), (0, v1), (0, (wr32 (v2 + 1)))]) (pc' := 32) dX12_isSomebody_29 rfl (by decide) rfl rfl ?_
        refine T_goto (pc' := 2) dX12_isSomebody_32 (by decide) ?_
        rw [hw]
        exact T_wk (ih _ (v2 + 1) _ (by omega) (by omega) (n2 c2) (by have q := hQ; try simp only [if_neg c2] at q; exact q) hG) ⟨Or.inr rfl, Or.inr rfl, Or.inr rfl, trivial⟩
      · skip
        refine T_iconst (pc' := 28) dX12_isSomebody_27 (by decide) rfl ?_
        exact T_zret dX12_isSomebody_28 rfl (by decide) ⟨rfl, hG, (by have q := hQ; try simp only [if_pos c2] at q; exact q)⟩
def fX12_isSomebody (M : Mem) (v1 : Int) : Int :=
  (lX12_isSomebody_2 ((((M 85 0)) : Int) - 0).toNat v1 0 M)
def nX12_isSomebody (M : Mem) (v1 : Int) : Prop :=
  ((nlX12_isSomebody_2 ((((M 85 0)) : Int) - 0).toNat v1 0 M))
set_option maxRecDepth 100000 in
theorem pX12_isSomebody {E : EV} {h : Int} {M : Mem} {v1 : Int} (hs : (nX12_isSomebody M v1)) : C2 E miX12_isSomebody 1 h [(2, 66), (0, v1)] M (fun r M' => r = some (0, (fX12_isSomebody M v1)) ∧ M' = M) := by
  obtain ⟨Q, hQ0⟩ : ∃ Q : Option MV → Mem → Prop, Q = (fun r M' => r = some (0, (fX12_isSomebody M v1)) ∧ M' = M) := ⟨_, rfl⟩
  rw [← hQ0]
  have hQ : Q (some (0, (lX12_isSomebody_2 ((((M 85 0)) : Int) - 0).toNat v1 0 M))) M := by rw [hQ0]; exact ⟨rfl, rfl⟩
  have o1 := hs
  refine C2_of (L := [(2, 66), (0, v1), (3, 0)]) (by decide +kernel) (Nat.le_of_ble_eq_true rfl) rfl (fun hG => ?_)
  refine T_iconst (pc' := 1) dX12_isSomebody_0 (by decide) rfl ?_
  refine T_istore_n (i := 2) (L' := [(2, 66), (0, v1), (0, 0)]) (pc' := 2) dX12_isSomebody_1 rfl (by decide) rfl rfl ?_
  exact T_wk (qX12_isSomebody_2  _ v1 0 _ (by first | decide | omega) rfl (o1) hQ hG) ⟨Or.inr rfl, Or.inr rfl, Or.inr rfl, trivial⟩
def lmX12_stands_199  : Nat → Int → Mem → Mem
  | 0, v1, M => (mset (mset M 66 42 (wr32 ((m_shl 1 (M 85 0)) - 1))) 66 54 0)
  | k + 1, v1, M => (lmX12_stands_199 k (v1 + 1) (mset M 91 (wr32 (4 + v1)) (M 91 v1)))
theorem frlX12_stands_199  {q : Int} (hq0 : q ≠ 66) (hq1 : q ≠ 91) : ∀ {k : Nat} {v1 : Int} {M : Mem}, (lmX12_stands_199  k v1 M) q = M q := by
  intro k
  induction k with
  | zero =>
    intro v1 M
    show (mset (mset M 66 42 (wr32 ((m_shl 1 (M 85 0)) - 1))) 66 54 0) q = M q
    repeat' (first | rfl | rw [mset_p hq0] | rw [mset_p hq1] | rw [mcpy_p hq0] | rw [mcpy_p hq1] | rw [ite_ap] | split)
  | succ k ih =>
    intro v1 M
    show (lmX12_stands_199 k (v1 + 1) (mset M 91 (wr32 (4 + v1)) (M 91 v1))) q = M q
    repeat' (first | rfl | rw [mset_p hq0] | rw [mset_p hq1] | rw [mcpy_p hq0] | rw [mcpy_p hq1] | rw [ite_ap] | split | rw [ih])
def nlX12_stands_199  : Nat → Int → Mem → Prop
  | 0, v1, M => True
  | k + 1, v1, M => (0 ≤ v1 ∧ v1 < 8) ∧ (0 ≤ (wr32 (4 + v1)) ∧ (wr32 (4 + v1)) < 8) ∧ ((nlX12_stands_199 k (v1 + 1) (mset M 91 (wr32 (4 + v1)) (M 91 v1))))
set_option maxRecDepth 100000 in
set_option maxHeartbeats 2000000 in
theorem qX12_stands_199 {E : EV} {h : Int} {Q : Option MV → Mem → Prop}   : ∀ (k : Nat) (v1 : Int) (M : Mem), 0 ≤ v1 → ((4) - v1).toNat = k → (nlX12_stands_199 k v1 M) → Q none (lmX12_stands_199 k v1 M) → G h M → TG E miX12_stands 1 h Q 199 [(2, 66), (0, v1)] [] M := by
  intro k
  induction k with
  | zero =>
    intro v1 M hv0 hk hs hQ hG
    have hQ : Q none (mset (mset M 66 42 (wr32 ((m_shl 1 (M 85 0)) - 1))) 66 54 0) := hQ
    have hs : True := hs
    refine T_iload_n (i := 1) (pc' := 200) dX12_stands_199 rfl rfl rfl ?_
    refine T_iconst (pc' := 201) dX12_stands_200 (by decide) rfl ?_
    refine T_rng (fun _ z9 _ => ?_)
    have hB : r32 4 := (ok_cons.mp z9).1
    unfold r32 at hB
    refine T_icmp_ge (pc' := 224) dX12_stands_201 (by decide) (pf := 204) rfl (fun c1 => ?_) (fun c1 => ?_)
    · skip
      refine T_aload_n (i := 0) (pc' := 225) dX12_stands_224 rfl rfl rfl ?_
      refine T_iconst (pc' := 226) dX12_stands_225 (by decide) rfl ?_
      refine T_aload_n (i := 0) (pc' := 227) dX12_stands_226 rfl rfl rfl ?_
      refine U_gr (q := 85) (k := 28) (kI := 28) (pc' := 230) dX12_stands_227 rfl cl12 (by decide) rfl (by decide) flX12_69 rfl rfl rfl (G_at hG 85 rfl) (by decide) rfl ?_
      refine T_iconst (pc' := 231) dX12_stands_230 (by decide) rfl ?_
      refine T_iald (pc' := 232) dX12_stands_231 (by decide) rfl (by decide) (by decide) rfl ?_
      refine T_ishl (pc' := 233) dX12_stands_232 rfl ?_
      refine T_iconst (pc' := 234) dX12_stands_233 (by decide) rfl ?_
      refine T_isub (pc' := 235) dX12_stands_234 rfl ?_
      refine U_pf (y := (wr32 ((m_shl 1 (M 85 0)) - 1))) (k := 42) (kI := 42) (pc' := 238) dX12_stands_235 rfl cl12 (by decide) rfl (by decide) flX12_340 rfl rfl rfl rfl rfl (by decide) (fun z => z) rfl ?_
      refine T_aload_n (i := 0) (pc' := 239) dX12_stands_238 rfl rfl rfl ?_
      refine T_iconst (pc' := 240) dX12_stands_239 (by decide) rfl ?_
      refine U_pf (y := 0) (k := 54) (kI := 54) (pc' := 243) dX12_stands_240 rfl cl12 (by decide) rfl (by decide) flX12_343 rfl rfl rfl rfl rfl (by decide) (fun z => z) rfl ?_
      exact T_vret dX12_stands_243 rfl ⟨rfl, (G_fld (x := 66) (i := 54) (y := 0) rfl (by decide) (by decide) (by decide) (G_fld (x := 66) (i := 42) (y := (wr32 ((m_shl 1 (M 85 0)) - 1))) rfl (by decide) (by decide) (by decide) hG)), hQ⟩
    · exact absurd c1 (by omega)
  | succ k ih =>
    intro v1 M hv0 hk hs hQ hG
    have hQ : Q none (lmX12_stands_199 k (v1 + 1) (mset M 91 (wr32 (4 + v1)) (M 91 v1))) := hQ
    have hs : (0 ≤ v1 ∧ v1 < 8) ∧ (0 ≤ (wr32 (4 + v1)) ∧ (wr32 (4 + v1)) < 8) ∧ ((nlX12_stands_199 k (v1 + 1) (mset M 91 (wr32 (4 + v1)) (M 91 v1)))) := hs
    obtain ⟨n1, n2, n3⟩ := hs
    refine T_iload_n (i := 1) (pc' := 200) dX12_stands_199 rfl rfl rfl ?_
    refine T_iconst (pc' := 201) dX12_stands_200 (by decide) rfl ?_
    refine T_rng (fun _ z9 _ => ?_)
    have hB : r32 4 := (ok_cons.mp z9).1
    unfold r32 at hB
    refine T_icmp_ge (pc' := 224) dX12_stands_201 (by decide) (pf := 204) rfl (fun c1 => ?_) (fun c1 => ?_)
    · exact absurd c1 (by omega)
    · skip
      have hw : wr32 (v1 + 1) = v1 + 1 := wr32_id (by unfold r32; omega)
      refine T_aload_n (i := 0) (pc' := 205) dX12_stands_204 rfl rfl rfl ?_
      refine U_gr (q := 91) (k := 34) (kI := 34) (pc' := 208) dX12_stands_205 rfl cl12 (by decide) rfl (by decide) flX12_89 rfl rfl rfl (G_at hG 91 rfl) (by decide) rfl ?_
      refine T_iconst (pc' := 209) dX12_stands_208 (by decide) rfl ?_
      refine T_iload_n (i := 1) (pc' := 210) dX12_stands_209 rfl rfl rfl ?_
      refine T_iadd (pc' := 211) dX12_stands_210 rfl ?_
      refine T_aload_n (i := 0) (pc' := 212) dX12_stands_211 rfl rfl rfl ?_
      refine U_gr (q := 91) (k := 34) (kI := 34) (pc' := 215) dX12_stands_212 rfl cl12 (by decide) rfl (by decide) flX12_89 rfl rfl rfl (G_at hG 91 rfl) (by decide) rfl ?_
      refine T_iload_n (i := 1) (pc' := 216) dX12_stands_215 rfl rfl rfl ?_
      refine T_iald (pc' := 217) dX12_stands_216 (by decide) rfl (n1).1 (n1).2 rfl ?_
      refine T_iast (pc' := 218) dX12_stands_217 (by decide) rfl (n2).1 (n2).2 rfl ?_
      refine T_iinc (L' := [(2, 66), (0, (wr32 (v1 + 1)))]) (pc' := 221) dX12_stands_218 rfl (by decide) rfl rfl ?_
      refine T_goto (pc' := 199) dX12_stands_221 (by decide) ?_
      rw [hw]
      exact T_wk (ih (v1 + 1) _ (by omega) (by omega) (n3) hQ (G_arr (x := 91) (i := (wr32 (4 + v1))) (y := (M 91 v1)) rfl (by decide) hG)) ⟨Or.inr rfl, Or.inr rfl, trivial⟩
def lmX12_stands_163  : Nat → Int → Mem → Mem
  | 0, v1, M => (lmX12_stands_199 4 0 M)
  | k + 1, v1, M => (lmX12_stands_163 k (v1 + 1) (mset (mset M 90 (wr32 (6 + v1)) (M 90 v1)) 92 v1 0))
theorem frlX12_stands_163  {q : Int} (hq0 : q ≠ 90) (hq1 : q ≠ 92) (hq2 : q ≠ 66) (hq3 : q ≠ 91) : ∀ {k : Nat} {v1 : Int} {M : Mem}, (lmX12_stands_163  k v1 M) q = M q := by
  intro k
  induction k with
  | zero =>
    intro v1 M
    show (lmX12_stands_199 4 0 M) q = M q
    repeat' (first | rfl | rw [mset_p hq0] | rw [mset_p hq1] | rw [mset_p hq2] | rw [mset_p hq3] | rw [mcpy_p hq0] | rw [mcpy_p hq1] | rw [mcpy_p hq2] | rw [mcpy_p hq3] | (rw [frlX12_stands_199] <;> try assumption) | rw [ite_ap] | split)
  | succ k ih =>
    intro v1 M
    show (lmX12_stands_163 k (v1 + 1) (mset (mset M 90 (wr32 (6 + v1)) (M 90 v1)) 92 v1 0)) q = M q
    repeat' (first | rfl | rw [mset_p hq0] | rw [mset_p hq1] | rw [mset_p hq2] | rw [mset_p hq3] | rw [mcpy_p hq0] | rw [mcpy_p hq1] | rw [mcpy_p hq2] | rw [mcpy_p hq3] | (rw [frlX12_stands_199] <;> try assumption) | rw [ite_ap] | split | rw [ih])
def nlX12_stands_163  : Nat → Int → Mem → Prop
  | 0, v1, M => ((nlX12_stands_199 4 0 M))
  | k + 1, v1, M => (0 ≤ v1 ∧ v1 < 12) ∧ (0 ≤ (wr32 (6 + v1)) ∧ (wr32 (6 + v1)) < 12) ∧ (0 ≤ v1 ∧ v1 < 6) ∧ ((nlX12_stands_163 k (v1 + 1) (mset (mset M 90 (wr32 (6 + v1)) (M 90 v1)) 92 v1 0)))
set_option maxRecDepth 100000 in
set_option maxHeartbeats 2000000 in
theorem qX12_stands_163 {E : EV} {h : Int} {Q : Option MV → Mem → Prop}   : ∀ (k : Nat) (v1 : Int) (M : Mem), 0 ≤ v1 → ((6) - v1).toNat = k → (nlX12_stands_163 k v1 M) → Q none (lmX12_stands_163 k v1 M) → G h M → TG E miX12_stands 1 h Q 163 [(2, 66), (0, v1)] [] M := by
  intro k
  induction k with
  | zero =>
    intro v1 M hv0 hk hs hQ hG
    have hQ : Q none (lmX12_stands_199 4 0 M) := hQ
    have hs : ((nlX12_stands_199 4 0 M)) := hs
    have n1 := hs
    refine T_iload_n (i := 1) (pc' := 164) dX12_stands_163 rfl rfl rfl ?_
    refine T_bipush (pc' := 166) dX12_stands_164 rfl (by decide) rfl ?_
    refine T_rng (fun _ z9 _ => ?_)
    have hB : r32 6 := (ok_cons.mp z9).1
    unfold r32 at hB
    refine T_icmp_ge (pc' := 197) dX12_stands_166 (by decide) (pf := 169) rfl (fun c1 => ?_) (fun c1 => ?_)
    · skip
      refine T_iconst (pc' := 198) dX12_stands_197 (by decide) rfl ?_
      refine T_istore_n (i := 1) (L' := [(2, 66), (0, 0)]) (pc' := 199) dX12_stands_198 rfl (by decide) rfl rfl ?_
      exact T_wk (qX12_stands_199  4 0 _ (by first | decide | omega) rfl (n1) hQ hG) ⟨Or.inr rfl, Or.inr rfl, trivial⟩
    · exact absurd c1 (by omega)
  | succ k ih =>
    intro v1 M hv0 hk hs hQ hG
    have hQ : Q none (lmX12_stands_163 k (v1 + 1) (mset (mset M 90 (wr32 (6 + v1)) (M 90 v1)) 92 v1 0)) := hQ
    have hs : (0 ≤ v1 ∧ v1 < 12) ∧ (0 ≤ (wr32 (6 + v1)) ∧ (wr32 (6 + v1)) < 12) ∧ (0 ≤ v1 ∧ v1 < 6) ∧ ((nlX12_stands_163 k (v1 + 1) (mset (mset M 90 (wr32 (6 + v1)) (M 90 v1)) 92 v1 0))) := hs
    obtain ⟨n1, n2, n3, n4⟩ := hs
    refine T_iload_n (i := 1) (pc' := 164) dX12_stands_163 rfl rfl rfl ?_
    refine T_bipush (pc' := 166) dX12_stands_164 rfl (by decide) rfl ?_
    refine T_rng (fun _ z9 _ => ?_)
    have hB : r32 6 := (ok_cons.mp z9).1
    unfold r32 at hB
    refine T_icmp_ge (pc' := 197) dX12_stands_166 (by decide) (pf := 169) rfl (fun c1 => ?_) (fun c1 => ?_)
    · exact absurd c1 (by omega)
    · skip
      have hw : wr32 (v1 + 1) = v1 + 1 := wr32_id (by unfold r32; omega)
      refine T_aload_n (i := 0) (pc' := 170) dX12_stands_169 rfl rfl rfl ?_
      refine U_gr (q := 90) (k := 33) (kI := 33) (pc' := 173) dX12_stands_170 rfl cl12 (by decide) rfl (by decide) flX12_86 rfl rfl rfl (G_at hG 90 rfl) (by decide) rfl ?_
      refine T_bipush (pc' := 175) dX12_stands_173 rfl (by decide) rfl ?_
      refine T_iload_n (i := 1) (pc' := 176) dX12_stands_175 rfl rfl rfl ?_
      refine T_iadd (pc' := 177) dX12_stands_176 rfl ?_
      refine T_aload_n (i := 0) (pc' := 178) dX12_stands_177 rfl rfl rfl ?_
      refine U_gr (q := 90) (k := 33) (kI := 33) (pc' := 181) dX12_stands_178 rfl cl12 (by decide) rfl (by decide) flX12_86 rfl rfl rfl (G_at hG 90 rfl) (by decide) rfl ?_
      refine T_iload_n (i := 1) (pc' := 182) dX12_stands_181 rfl rfl rfl ?_
      refine T_iald (pc' := 183) dX12_stands_182 (by decide) rfl (n1).1 (n1).2 rfl ?_
      refine T_iast (pc' := 184) dX12_stands_183 (by decide) rfl (n2).1 (n2).2 rfl ?_
      refine T_aload_n (i := 0) (pc' := 185) dX12_stands_184 rfl rfl rfl ?_
      refine U_gr (q := 92) (k := 41) (kI := 41) (pc' := 188) dX12_stands_185 rfl cl12 (by decide) rfl (by decide) flX12_92 rfl rfl rfl (G_at (G_arr (x := 90) (i := (wr32 (6 + v1))) (y := (M 90 v1)) rfl (by decide) hG) 92 rfl) (by decide) rfl ?_
      refine T_iload_n (i := 1) (pc' := 189) dX12_stands_188 rfl rfl rfl ?_
      refine T_iconst (pc' := 190) dX12_stands_189 (by decide) rfl ?_
      refine T_iast (pc' := 191) dX12_stands_190 (by decide) rfl (n3).1 (n3).2 rfl ?_
      refine T_iinc (L' := [(2, 66), (0, (wr32 (v1 + 1)))]) (pc' := 194) dX12_stands_191 rfl (by decide) rfl rfl ?_
      refine T_goto (pc' := 163) dX12_stands_194 (by decide) ?_
      rw [hw]
      exact T_wk (ih (v1 + 1) _ (by omega) (by omega) (n4) hQ (G_arr (x := 92) (i := v1) (y := 0) rfl (by decide) (G_arr (x := 90) (i := (wr32 (6 + v1))) (y := (M 90 v1)) rfl (by decide) hG))) ⟨Or.inr rfl, Or.inr rfl, trivial⟩
def lmX12_stands_134  : Nat → Int → Mem → Mem
  | 0, v1, M => (lmX12_stands_163 6 0 M)
  | k + 1, v1, M => (lmX12_stands_134 k (v1 + 1) (mset M 89 (wr32 (12 + v1)) (M 89 v1)))
theorem frlX12_stands_134  {q : Int} (hq0 : q ≠ 89) (hq1 : q ≠ 90) (hq2 : q ≠ 92) (hq3 : q ≠ 66) (hq4 : q ≠ 91) : ∀ {k : Nat} {v1 : Int} {M : Mem}, (lmX12_stands_134  k v1 M) q = M q := by
  intro k
  induction k with
  | zero =>
    intro v1 M
    show (lmX12_stands_163 6 0 M) q = M q
    repeat' (first | rfl | rw [mset_p hq0] | rw [mset_p hq1] | rw [mset_p hq2] | rw [mset_p hq3] | rw [mset_p hq4] | rw [mcpy_p hq0] | rw [mcpy_p hq1] | rw [mcpy_p hq2] | rw [mcpy_p hq3] | rw [mcpy_p hq4] | (rw [frlX12_stands_163] <;> try assumption) | rw [ite_ap] | split)
  | succ k ih =>
    intro v1 M
    show (lmX12_stands_134 k (v1 + 1) (mset M 89 (wr32 (12 + v1)) (M 89 v1))) q = M q
    repeat' (first | rfl | rw [mset_p hq0] | rw [mset_p hq1] | rw [mset_p hq2] | rw [mset_p hq3] | rw [mset_p hq4] | rw [mcpy_p hq0] | rw [mcpy_p hq1] | rw [mcpy_p hq2] | rw [mcpy_p hq3] | rw [mcpy_p hq4] | (rw [frlX12_stands_163] <;> try assumption) | rw [ite_ap] | split | rw [ih])
def nlX12_stands_134  : Nat → Int → Mem → Prop
  | 0, v1, M => ((nlX12_stands_163 6 0 M))
  | k + 1, v1, M => (0 ≤ v1 ∧ v1 < 24) ∧ (0 ≤ (wr32 (12 + v1)) ∧ (wr32 (12 + v1)) < 24) ∧ ((nlX12_stands_134 k (v1 + 1) (mset M 89 (wr32 (12 + v1)) (M 89 v1))))
set_option maxRecDepth 100000 in
set_option maxHeartbeats 2000000 in
theorem qX12_stands_134 {E : EV} {h : Int} {Q : Option MV → Mem → Prop}   : ∀ (k : Nat) (v1 : Int) (M : Mem), 0 ≤ v1 → ((12) - v1).toNat = k → (nlX12_stands_134 k v1 M) → Q none (lmX12_stands_134 k v1 M) → G h M → TG E miX12_stands 1 h Q 134 [(2, 66), (0, v1)] [] M := by
  intro k
  induction k with
  | zero =>
    intro v1 M hv0 hk hs hQ hG
    have hQ : Q none (lmX12_stands_163 6 0 M) := hQ
    have hs : ((nlX12_stands_163 6 0 M)) := hs
    have n1 := hs
    refine T_iload_n (i := 1) (pc' := 135) dX12_stands_134 rfl rfl rfl ?_
    refine T_bipush (pc' := 137) dX12_stands_135 rfl (by decide) rfl ?_
    refine T_rng (fun _ z9 _ => ?_)
    have hB : r32 12 := (ok_cons.mp z9).1
    unfold r32 at hB
    refine T_icmp_ge (pc' := 161) dX12_stands_137 (by decide) (pf := 140) rfl (fun c1 => ?_) (fun c1 => ?_)
    · skip
      refine T_iconst (pc' := 162) dX12_stands_161 (by decide) rfl ?_
      refine T_istore_n (i := 1) (L' := [(2, 66), (0, 0)]) (pc' := 163) dX12_stands_162 rfl (by decide) rfl rfl ?_
      exact T_wk (qX12_stands_163  6 0 _ (by first | decide | omega) rfl (n1) hQ hG) ⟨Or.inr rfl, Or.inr rfl, trivial⟩
    · exact absurd c1 (by omega)
  | succ k ih =>
    intro v1 M hv0 hk hs hQ hG
    have hQ : Q none (lmX12_stands_134 k (v1 + 1) (mset M 89 (wr32 (12 + v1)) (M 89 v1))) := hQ
    have hs : (0 ≤ v1 ∧ v1 < 24) ∧ (0 ≤ (wr32 (12 + v1)) ∧ (wr32 (12 + v1)) < 24) ∧ ((nlX12_stands_134 k (v1 + 1) (mset M 89 (wr32 (12 + v1)) (M 89 v1)))) := hs
    obtain ⟨n1, n2, n3⟩ := hs
    refine T_iload_n (i := 1) (pc' := 135) dX12_stands_134 rfl rfl rfl ?_
    refine T_bipush (pc' := 137) dX12_stands_135 rfl (by decide) rfl ?_
    refine T_rng (fun _ z9 _ => ?_)
    have hB : r32 12 := (ok_cons.mp z9).1
    unfold r32 at hB
    refine T_icmp_ge (pc' := 161) dX12_stands_137 (by decide) (pf := 140) rfl (fun c1 => ?_) (fun c1 => ?_)
    · exact absurd c1 (by omega)
    · skip
      have hw : wr32 (v1 + 1) = v1 + 1 := wr32_id (by unfold r32; omega)
      refine T_aload_n (i := 0) (pc' := 141) dX12_stands_140 rfl rfl rfl ?_
      refine U_gr (q := 89) (k := 32) (kI := 32) (pc' := 144) dX12_stands_141 rfl cl12 (by decide) rfl (by decide) flX12_83 rfl rfl rfl (G_at hG 89 rfl) (by decide) rfl ?_
      refine T_bipush (pc' := 146) dX12_stands_144 rfl (by decide) rfl ?_
      refine T_iload_n (i := 1) (pc' := 147) dX12_stands_146 rfl rfl rfl ?_
      refine T_iadd (pc' := 148) dX12_stands_147 rfl ?_
      refine T_aload_n (i := 0) (pc' := 149) dX12_stands_148 rfl rfl rfl ?_
      refine U_gr (q := 89) (k := 32) (kI := 32) (pc' := 152) dX12_stands_149 rfl cl12 (by decide) rfl (by decide) flX12_83 rfl rfl rfl (G_at hG 89 rfl) (by decide) rfl ?_
      refine T_iload_n (i := 1) (pc' := 153) dX12_stands_152 rfl rfl rfl ?_
      refine T_iald (pc' := 154) dX12_stands_153 (by decide) rfl (n1).1 (n1).2 rfl ?_
      refine T_iast (pc' := 155) dX12_stands_154 (by decide) rfl (n2).1 (n2).2 rfl ?_
      refine T_iinc (L' := [(2, 66), (0, (wr32 (v1 + 1)))]) (pc' := 158) dX12_stands_155 rfl (by decide) rfl rfl ?_
      refine T_goto (pc' := 134) dX12_stands_158 (by decide) ?_
      rw [hw]
      exact T_wk (ih (v1 + 1) _ (by omega) (by omega) (n3) hQ (G_arr (x := 89) (i := (wr32 (12 + v1))) (y := (M 89 v1)) rfl (by decide) hG)) ⟨Or.inr rfl, Or.inr rfl, trivial⟩
def lmX12_stands_103  : Nat → Int → Mem → Mem
  | 0, v1, M => (lmX12_stands_134 12 0 M)
  | k + 1, v1, M => (lmX12_stands_103 k (v1 + 1) (mset M 88 (wr32 (162 + v1)) (M 88 v1)))
theorem frlX12_stands_103  {q : Int} (hq0 : q ≠ 88) (hq1 : q ≠ 89) (hq2 : q ≠ 90) (hq3 : q ≠ 92) (hq4 : q ≠ 66) (hq5 : q ≠ 91) : ∀ {k : Nat} {v1 : Int} {M : Mem}, (lmX12_stands_103  k v1 M) q = M q := by
  intro k
  induction k with
  | zero =>
    intro v1 M
    show (lmX12_stands_134 12 0 M) q = M q
    repeat' (first | rfl | rw [mset_p hq0] | rw [mset_p hq1] | rw [mset_p hq2] | rw [mset_p hq3] | rw [mset_p hq4] | rw [mset_p hq5] | rw [mcpy_p hq0] | rw [mcpy_p hq1] | rw [mcpy_p hq2] | rw [mcpy_p hq3] | rw [mcpy_p hq4] | rw [mcpy_p hq5] | (rw [frlX12_stands_134] <;> try assumption) | rw [ite_ap] | split)
  | succ k ih =>
    intro v1 M
    show (lmX12_stands_103 k (v1 + 1) (mset M 88 (wr32 (162 + v1)) (M 88 v1))) q = M q
    repeat' (first | rfl | rw [mset_p hq0] | rw [mset_p hq1] | rw [mset_p hq2] | rw [mset_p hq3] | rw [mset_p hq4] | rw [mset_p hq5] | rw [mcpy_p hq0] | rw [mcpy_p hq1] | rw [mcpy_p hq2] | rw [mcpy_p hq3] | rw [mcpy_p hq4] | rw [mcpy_p hq5] | (rw [frlX12_stands_134] <;> try assumption) | rw [ite_ap] | split | rw [ih])
def nlX12_stands_103  : Nat → Int → Mem → Prop
  | 0, v1, M => ((nlX12_stands_134 12 0 M))
  | k + 1, v1, M => (0 ≤ v1 ∧ v1 < 324) ∧ (0 ≤ (wr32 (162 + v1)) ∧ (wr32 (162 + v1)) < 324) ∧ ((nlX12_stands_103 k (v1 + 1) (mset M 88 (wr32 (162 + v1)) (M 88 v1))))
set_option maxRecDepth 100000 in
set_option maxHeartbeats 2000000 in
theorem qX12_stands_103 {E : EV} {h : Int} {Q : Option MV → Mem → Prop}   : ∀ (k : Nat) (v1 : Int) (M : Mem), 0 ≤ v1 → ((162) - v1).toNat = k → (nlX12_stands_103 k v1 M) → Q none (lmX12_stands_103 k v1 M) → G h M → TG E miX12_stands 1 h Q 103 [(2, 66), (0, v1)] [] M := by
  intro k
  induction k with
  | zero =>
    intro v1 M hv0 hk hs hQ hG
    have hQ : Q none (lmX12_stands_134 12 0 M) := hQ
    have hs : ((nlX12_stands_134 12 0 M)) := hs
    have n1 := hs
    refine T_iload_n (i := 1) (pc' := 104) dX12_stands_103 rfl rfl rfl ?_
    refine T_sipush (pc' := 107) dX12_stands_104 rfl (by decide) rfl ?_
    refine T_rng (fun _ z9 _ => ?_)
    have hB : r32 162 := (ok_cons.mp z9).1
    unfold r32 at hB
    refine T_icmp_ge (pc' := 132) dX12_stands_107 (by decide) (pf := 110) rfl (fun c1 => ?_) (fun c1 => ?_)
    · skip
      refine T_iconst (pc' := 133) dX12_stands_132 (by decide) rfl ?_
      refine T_istore_n (i := 1) (L' := [(2, 66), (0, 0)]) (pc' := 134) dX12_stands_133 rfl (by decide) rfl rfl ?_
      exact T_wk (qX12_stands_134  12 0 _ (by first | decide | omega) rfl (n1) hQ hG) ⟨Or.inr rfl, Or.inr rfl, trivial⟩
    · exact absurd c1 (by omega)
  | succ k ih =>
    intro v1 M hv0 hk hs hQ hG
    have hQ : Q none (lmX12_stands_103 k (v1 + 1) (mset M 88 (wr32 (162 + v1)) (M 88 v1))) := hQ
    have hs : (0 ≤ v1 ∧ v1 < 324) ∧ (0 ≤ (wr32 (162 + v1)) ∧ (wr32 (162 + v1)) < 324) ∧ ((nlX12_stands_103 k (v1 + 1) (mset M 88 (wr32 (162 + v1)) (M 88 v1)))) := hs
    obtain ⟨n1, n2, n3⟩ := hs
    refine T_iload_n (i := 1) (pc' := 104) dX12_stands_103 rfl rfl rfl ?_
    refine T_sipush (pc' := 107) dX12_stands_104 rfl (by decide) rfl ?_
    refine T_rng (fun _ z9 _ => ?_)
    have hB : r32 162 := (ok_cons.mp z9).1
    unfold r32 at hB
    refine T_icmp_ge (pc' := 132) dX12_stands_107 (by decide) (pf := 110) rfl (fun c1 => ?_) (fun c1 => ?_)
    · exact absurd c1 (by omega)
    · skip
      have hw : wr32 (v1 + 1) = v1 + 1 := wr32_id (by unfold r32; omega)
      refine T_aload_n (i := 0) (pc' := 111) dX12_stands_110 rfl rfl rfl ?_
      refine U_gr (q := 88) (k := 31) (kI := 31) (pc' := 114) dX12_stands_111 rfl cl12 (by decide) rfl (by decide) flX12_80 rfl rfl rfl (G_at hG 88 rfl) (by decide) rfl ?_
      refine T_sipush (pc' := 117) dX12_stands_114 rfl (by decide) rfl ?_
      refine T_iload_n (i := 1) (pc' := 118) dX12_stands_117 rfl rfl rfl ?_
      refine T_iadd (pc' := 119) dX12_stands_118 rfl ?_
      refine T_aload_n (i := 0) (pc' := 120) dX12_stands_119 rfl rfl rfl ?_
      refine U_gr (q := 88) (k := 31) (kI := 31) (pc' := 123) dX12_stands_120 rfl cl12 (by decide) rfl (by decide) flX12_80 rfl rfl rfl (G_at hG 88 rfl) (by decide) rfl ?_
      refine T_iload_n (i := 1) (pc' := 124) dX12_stands_123 rfl rfl rfl ?_
      refine T_iald (pc' := 125) dX12_stands_124 (by decide) rfl (n1).1 (n1).2 rfl ?_
      refine T_iast (pc' := 126) dX12_stands_125 (by decide) rfl (n2).1 (n2).2 rfl ?_
      refine T_iinc (L' := [(2, 66), (0, (wr32 (v1 + 1)))]) (pc' := 129) dX12_stands_126 rfl (by decide) rfl rfl ?_
      refine T_goto (pc' := 103) dX12_stands_129 (by decide) ?_
      rw [hw]
      exact T_wk (ih (v1 + 1) _ (by omega) (by omega) (n3) hQ (G_arr (x := 88) (i := (wr32 (162 + v1))) (y := (M 88 v1)) rfl (by decide) hG)) ⟨Or.inr rfl, Or.inr rfl, trivial⟩
def lmX12_stands_74  : Nat → Int → Mem → Mem
  | 0, v1, M => (lmX12_stands_103 162 0 M)
  | k + 1, v1, M => (lmX12_stands_74 k (v1 + 1) (mset M 87 (wr32 (54 + v1)) (M 87 v1)))
theorem frlX12_stands_74  {q : Int} (hq0 : q ≠ 87) (hq1 : q ≠ 88) (hq2 : q ≠ 89) (hq3 : q ≠ 90) (hq4 : q ≠ 92) (hq5 : q ≠ 66) (hq6 : q ≠ 91) : ∀ {k : Nat} {v1 : Int} {M : Mem}, (lmX12_stands_74  k v1 M) q = M q := by
  intro k
  induction k with
  | zero =>
    intro v1 M
    show (lmX12_stands_103 162 0 M) q = M q
    repeat' (first | rfl | rw [mset_p hq0] | rw [mset_p hq1] | rw [mset_p hq2] | rw [mset_p hq3] | rw [mset_p hq4] | rw [mset_p hq5] | rw [mset_p hq6] | rw [mcpy_p hq0] | rw [mcpy_p hq1] | rw [mcpy_p hq2] | rw [mcpy_p hq3] | rw [mcpy_p hq4] | rw [mcpy_p hq5] | rw [mcpy_p hq6] | (rw [frlX12_stands_103] <;> try assumption) | rw [ite_ap] | split)
  | succ k ih =>
    intro v1 M
    show (lmX12_stands_74 k (v1 + 1) (mset M 87 (wr32 (54 + v1)) (M 87 v1))) q = M q
    repeat' (first | rfl | rw [mset_p hq0] | rw [mset_p hq1] | rw [mset_p hq2] | rw [mset_p hq3] | rw [mset_p hq4] | rw [mset_p hq5] | rw [mset_p hq6] | rw [mcpy_p hq0] | rw [mcpy_p hq1] | rw [mcpy_p hq2] | rw [mcpy_p hq3] | rw [mcpy_p hq4] | rw [mcpy_p hq5] | rw [mcpy_p hq6] | (rw [frlX12_stands_103] <;> try assumption) | rw [ite_ap] | split | rw [ih])
def nlX12_stands_74  : Nat → Int → Mem → Prop
  | 0, v1, M => ((nlX12_stands_103 162 0 M))
  | k + 1, v1, M => (0 ≤ v1 ∧ v1 < 108) ∧ (0 ≤ (wr32 (54 + v1)) ∧ (wr32 (54 + v1)) < 108) ∧ ((0 ≤ (M 87 v1) ∧ (M 87 v1) ≤ 1)) ∧ ((nlX12_stands_74 k (v1 + 1) (mset M 87 (wr32 (54 + v1)) (M 87 v1))))
set_option maxRecDepth 100000 in
set_option maxHeartbeats 2000000 in
theorem qX12_stands_74 {E : EV} {h : Int} {Q : Option MV → Mem → Prop}   : ∀ (k : Nat) (v1 : Int) (M : Mem), 0 ≤ v1 → ((54) - v1).toNat = k → (nlX12_stands_74 k v1 M) → Q none (lmX12_stands_74 k v1 M) → G h M → TG E miX12_stands 1 h Q 74 [(2, 66), (0, v1)] [] M := by
  intro k
  induction k with
  | zero =>
    intro v1 M hv0 hk hs hQ hG
    have hQ : Q none (lmX12_stands_103 162 0 M) := hQ
    have hs : ((nlX12_stands_103 162 0 M)) := hs
    have n1 := hs
    refine T_iload_n (i := 1) (pc' := 75) dX12_stands_74 rfl rfl rfl ?_
    refine T_bipush (pc' := 77) dX12_stands_75 rfl (by decide) rfl ?_
    refine T_rng (fun _ z9 _ => ?_)
    have hB : r32 54 := (ok_cons.mp z9).1
    unfold r32 at hB
    refine T_icmp_ge (pc' := 101) dX12_stands_77 (by decide) (pf := 80) rfl (fun c1 => ?_) (fun c1 => ?_)
    · skip
      refine T_iconst (pc' := 102) dX12_stands_101 (by decide) rfl ?_
      refine T_istore_n (i := 1) (L' := [(2, 66), (0, 0)]) (pc' := 103) dX12_stands_102 rfl (by decide) rfl rfl ?_
      exact T_wk (qX12_stands_103  162 0 _ (by first | decide | omega) rfl (n1) hQ hG) ⟨Or.inr rfl, Or.inr rfl, trivial⟩
    · exact absurd c1 (by omega)
  | succ k ih =>
    intro v1 M hv0 hk hs hQ hG
    have hQ : Q none (lmX12_stands_74 k (v1 + 1) (mset M 87 (wr32 (54 + v1)) (M 87 v1))) := hQ
    have hs : (0 ≤ v1 ∧ v1 < 108) ∧ (0 ≤ (wr32 (54 + v1)) ∧ (wr32 (54 + v1)) < 108) ∧ ((0 ≤ (M 87 v1) ∧ (M 87 v1) ≤ 1)) ∧ ((nlX12_stands_74 k (v1 + 1) (mset M 87 (wr32 (54 + v1)) (M 87 v1)))) := hs
    obtain ⟨n1, n2, n3, n4⟩ := hs
    refine T_iload_n (i := 1) (pc' := 75) dX12_stands_74 rfl rfl rfl ?_
    refine T_bipush (pc' := 77) dX12_stands_75 rfl (by decide) rfl ?_
    refine T_rng (fun _ z9 _ => ?_)
    have hB : r32 54 := (ok_cons.mp z9).1
    unfold r32 at hB
    refine T_icmp_ge (pc' := 101) dX12_stands_77 (by decide) (pf := 80) rfl (fun c1 => ?_) (fun c1 => ?_)
    · exact absurd c1 (by omega)
    · skip
      have hw : wr32 (v1 + 1) = v1 + 1 := wr32_id (by unfold r32; omega)
      refine T_aload_n (i := 0) (pc' := 81) dX12_stands_80 rfl rfl rfl ?_
      refine U_gr (q := 87) (k := 30) (kI := 30) (pc' := 84) dX12_stands_81 rfl cl12 (by decide) rfl (by decide) flX12_76 rfl rfl rfl (G_at hG 87 rfl) (by decide) rfl ?_
      refine T_bipush (pc' := 86) dX12_stands_84 rfl (by decide) rfl ?_
      refine T_iload_n (i := 1) (pc' := 87) dX12_stands_86 rfl rfl rfl ?_
      refine T_iadd (pc' := 88) dX12_stands_87 rfl ?_
      refine T_aload_n (i := 0) (pc' := 89) dX12_stands_88 rfl rfl rfl ?_
      refine U_gr (q := 87) (k := 30) (kI := 30) (pc' := 92) dX12_stands_89 rfl cl12 (by decide) rfl (by decide) flX12_76 rfl rfl rfl (G_at hG 87 rfl) (by decide) rfl ?_
      refine T_iload_n (i := 1) (pc' := 93) dX12_stands_92 rfl rfl rfl ?_
      refine T_zald (pc' := 94) dX12_stands_93 (by decide) rfl (n1).1 (n1).2 rfl ?_
      refine T_zrng (x := 87) (i := v1) (n := 108) rfl (by decide) (n1).1 (fun zb2 => ?_)
      refine T_zast (pc' := 95) dX12_stands_94 (by decide) rfl (n2).1 (n2).2 (n3) rfl ?_
      refine T_iinc (L' := [(2, 66), (0, (wr32 (v1 + 1)))]) (pc' := 98) dX12_stands_95 rfl (by decide) rfl rfl ?_
      refine T_goto (pc' := 74) dX12_stands_98 (by decide) ?_
      rw [hw]
      exact T_wk (ih (v1 + 1) _ (by omega) (by omega) (n4) hQ (G_arr (x := 87) (i := (wr32 (54 + v1))) (y := (M 87 v1)) rfl (by decide) hG)) ⟨Or.inr rfl, Or.inr rfl, trivial⟩
def lmX12_stands_45  : Nat → Int → Mem → Mem
  | 0, v1, M => (lmX12_stands_74 54 0 M)
  | k + 1, v1, M => (lmX12_stands_45 k (v1 + 1) (mset M 86 (wr32 (20 + v1)) (M 86 v1)))
theorem frlX12_stands_45  {q : Int} (hq0 : q ≠ 86) (hq1 : q ≠ 87) (hq2 : q ≠ 88) (hq3 : q ≠ 89) (hq4 : q ≠ 90) (hq5 : q ≠ 92) (hq6 : q ≠ 66) (hq7 : q ≠ 91) : ∀ {k : Nat} {v1 : Int} {M : Mem}, (lmX12_stands_45  k v1 M) q = M q := by
  intro k
  induction k with
  | zero =>
    intro v1 M
    show (lmX12_stands_74 54 0 M) q = M q
    repeat' (first | rfl | rw [mset_p hq0] | rw [mset_p hq1] | rw [mset_p hq2] | rw [mset_p hq3] | rw [mset_p hq4] | rw [mset_p hq5] | rw [mset_p hq6] | rw [mset_p hq7] | rw [mcpy_p hq0] | rw [mcpy_p hq1] | rw [mcpy_p hq2] | rw [mcpy_p hq3] | rw [mcpy_p hq4] | rw [mcpy_p hq5] | rw [mcpy_p hq6] | rw [mcpy_p hq7] | (rw [frlX12_stands_74] <;> try assumption) | rw [ite_ap] | split)
  | succ k ih =>
    intro v1 M
    show (lmX12_stands_45 k (v1 + 1) (mset M 86 (wr32 (20 + v1)) (M 86 v1))) q = M q
    repeat' (first | rfl | rw [mset_p hq0] | rw [mset_p hq1] | rw [mset_p hq2] | rw [mset_p hq3] | rw [mset_p hq4] | rw [mset_p hq5] | rw [mset_p hq6] | rw [mset_p hq7] | rw [mcpy_p hq0] | rw [mcpy_p hq1] | rw [mcpy_p hq2] | rw [mcpy_p hq3] | rw [mcpy_p hq4] | rw [mcpy_p hq5] | rw [mcpy_p hq6] | rw [mcpy_p hq7] | (rw [frlX12_stands_74] <;> try assumption) | rw [ite_ap] | split | rw [ih])
def nlX12_stands_45  : Nat → Int → Mem → Prop
  | 0, v1, M => ((nlX12_stands_74 54 0 M))
  | k + 1, v1, M => (0 ≤ v1 ∧ v1 < 40) ∧ (0 ≤ (wr32 (20 + v1)) ∧ (wr32 (20 + v1)) < 40) ∧ ((nlX12_stands_45 k (v1 + 1) (mset M 86 (wr32 (20 + v1)) (M 86 v1))))
set_option maxRecDepth 100000 in
set_option maxHeartbeats 2000000 in
theorem qX12_stands_45 {E : EV} {h : Int} {Q : Option MV → Mem → Prop}   : ∀ (k : Nat) (v1 : Int) (M : Mem), 0 ≤ v1 → ((20) - v1).toNat = k → (nlX12_stands_45 k v1 M) → Q none (lmX12_stands_45 k v1 M) → G h M → TG E miX12_stands 1 h Q 45 [(2, 66), (0, v1)] [] M := by
  intro k
  induction k with
  | zero =>
    intro v1 M hv0 hk hs hQ hG
    have hQ : Q none (lmX12_stands_74 54 0 M) := hQ
    have hs : ((nlX12_stands_74 54 0 M)) := hs
    have n1 := hs
    refine T_iload_n (i := 1) (pc' := 46) dX12_stands_45 rfl rfl rfl ?_
    refine T_bipush (pc' := 48) dX12_stands_46 rfl (by decide) rfl ?_
    refine T_rng (fun _ z9 _ => ?_)
    have hB : r32 20 := (ok_cons.mp z9).1
    unfold r32 at hB
    refine T_icmp_ge (pc' := 72) dX12_stands_48 (by decide) (pf := 51) rfl (fun c1 => ?_) (fun c1 => ?_)
    · skip
      refine T_iconst (pc' := 73) dX12_stands_72 (by decide) rfl ?_
      refine T_istore_n (i := 1) (L' := [(2, 66), (0, 0)]) (pc' := 74) dX12_stands_73 rfl (by decide) rfl rfl ?_
      exact T_wk (qX12_stands_74  54 0 _ (by first | decide | omega) rfl (n1) hQ hG) ⟨Or.inr rfl, Or.inr rfl, trivial⟩
    · exact absurd c1 (by omega)
  | succ k ih =>
    intro v1 M hv0 hk hs hQ hG
    have hQ : Q none (lmX12_stands_45 k (v1 + 1) (mset M 86 (wr32 (20 + v1)) (M 86 v1))) := hQ
    have hs : (0 ≤ v1 ∧ v1 < 40) ∧ (0 ≤ (wr32 (20 + v1)) ∧ (wr32 (20 + v1)) < 40) ∧ ((nlX12_stands_45 k (v1 + 1) (mset M 86 (wr32 (20 + v1)) (M 86 v1)))) := hs
    obtain ⟨n1, n2, n3⟩ := hs
    refine T_iload_n (i := 1) (pc' := 46) dX12_stands_45 rfl rfl rfl ?_
    refine T_bipush (pc' := 48) dX12_stands_46 rfl (by decide) rfl ?_
    refine T_rng (fun _ z9 _ => ?_)
    have hB : r32 20 := (ok_cons.mp z9).1
    unfold r32 at hB
    refine T_icmp_ge (pc' := 72) dX12_stands_48 (by decide) (pf := 51) rfl (fun c1 => ?_) (fun c1 => ?_)
    · exact absurd c1 (by omega)
    · skip
      have hw : wr32 (v1 + 1) = v1 + 1 := wr32_id (by unfold r32; omega)
      refine T_aload_n (i := 0) (pc' := 52) dX12_stands_51 rfl rfl rfl ?_
      refine U_gr (q := 86) (k := 29) (kI := 29) (pc' := 55) dX12_stands_52 rfl cl12 (by decide) rfl (by decide) flX12_72 rfl rfl rfl (G_at hG 86 rfl) (by decide) rfl ?_
      refine T_bipush (pc' := 57) dX12_stands_55 rfl (by decide) rfl ?_
      refine T_iload_n (i := 1) (pc' := 58) dX12_stands_57 rfl rfl rfl ?_
      refine T_iadd (pc' := 59) dX12_stands_58 rfl ?_
      refine T_aload_n (i := 0) (pc' := 60) dX12_stands_59 rfl rfl rfl ?_
      refine U_gr (q := 86) (k := 29) (kI := 29) (pc' := 63) dX12_stands_60 rfl cl12 (by decide) rfl (by decide) flX12_72 rfl rfl rfl (G_at hG 86 rfl) (by decide) rfl ?_
      refine T_iload_n (i := 1) (pc' := 64) dX12_stands_63 rfl rfl rfl ?_
      refine T_lald (pc' := 65) dX12_stands_64 (by decide) rfl (n1).1 (n1).2 rfl ?_
      refine T_last (pc' := 66) dX12_stands_65 (by decide) rfl (n2).1 (n2).2 rfl ?_
      refine T_iinc (L' := [(2, 66), (0, (wr32 (v1 + 1)))]) (pc' := 69) dX12_stands_66 rfl (by decide) rfl rfl ?_
      refine T_goto (pc' := 45) dX12_stands_69 (by decide) ?_
      rw [hw]
      exact T_wk (ih (v1 + 1) _ (by omega) (by omega) (n3) hQ (G_arr (x := 86) (i := (wr32 (20 + v1))) (y := (M 86 v1)) rfl (by decide) hG)) ⟨Or.inr rfl, Or.inr rfl, trivial⟩
def lmX12_stands_18  : Nat → Int → Mem → Mem
  | 0, v1, M => (lmX12_stands_45 20 0 M)
  | k + 1, v1, M => (lmX12_stands_18 k (v1 + 1) (mset M 85 (wr32 (3 + v1)) (M 85 v1)))
theorem frlX12_stands_18  {q : Int} (hq0 : q ≠ 85) (hq1 : q ≠ 86) (hq2 : q ≠ 87) (hq3 : q ≠ 88) (hq4 : q ≠ 89) (hq5 : q ≠ 90) (hq6 : q ≠ 92) (hq7 : q ≠ 66) (hq8 : q ≠ 91) : ∀ {k : Nat} {v1 : Int} {M : Mem}, (lmX12_stands_18  k v1 M) q = M q := by
  intro k
  induction k with
  | zero =>
    intro v1 M
    show (lmX12_stands_45 20 0 M) q = M q
    repeat' (first | rfl | rw [mset_p hq0] | rw [mset_p hq1] | rw [mset_p hq2] | rw [mset_p hq3] | rw [mset_p hq4] | rw [mset_p hq5] | rw [mset_p hq6] | rw [mset_p hq7] | rw [mset_p hq8] | rw [mcpy_p hq0] | rw [mcpy_p hq1] | rw [mcpy_p hq2] | rw [mcpy_p hq3] | rw [mcpy_p hq4] | rw [mcpy_p hq5] | rw [mcpy_p hq6] | rw [mcpy_p hq7] | rw [mcpy_p hq8] | (rw [frlX12_stands_45] <;> try assumption) | rw [ite_ap] | split)
  | succ k ih =>
    intro v1 M
    show (lmX12_stands_18 k (v1 + 1) (mset M 85 (wr32 (3 + v1)) (M 85 v1))) q = M q
    repeat' (first | rfl | rw [mset_p hq0] | rw [mset_p hq1] | rw [mset_p hq2] | rw [mset_p hq3] | rw [mset_p hq4] | rw [mset_p hq5] | rw [mset_p hq6] | rw [mset_p hq7] | rw [mset_p hq8] | rw [mcpy_p hq0] | rw [mcpy_p hq1] | rw [mcpy_p hq2] | rw [mcpy_p hq3] | rw [mcpy_p hq4] | rw [mcpy_p hq5] | rw [mcpy_p hq6] | rw [mcpy_p hq7] | rw [mcpy_p hq8] | (rw [frlX12_stands_45] <;> try assumption) | rw [ite_ap] | split | rw [ih])
def nlX12_stands_18  : Nat → Int → Mem → Prop
  | 0, v1, M => ((nlX12_stands_45 20 0 M))
  | k + 1, v1, M => (0 ≤ v1 ∧ v1 < 6) ∧ (0 ≤ (wr32 (3 + v1)) ∧ (wr32 (3 + v1)) < 6) ∧ ((nlX12_stands_18 k (v1 + 1) (mset M 85 (wr32 (3 + v1)) (M 85 v1))))
set_option maxRecDepth 100000 in
set_option maxHeartbeats 2000000 in
theorem qX12_stands_18 {E : EV} {h : Int} {Q : Option MV → Mem → Prop}   : ∀ (k : Nat) (v1 : Int) (M : Mem), 0 ≤ v1 → ((3) - v1).toNat = k → (nlX12_stands_18 k v1 M) → Q none (lmX12_stands_18 k v1 M) → G h M → TG E miX12_stands 1 h Q 18 [(2, 66), (0, v1)] [] M := by
  intro k
  induction k with
  | zero =>
    intro v1 M hv0 hk hs hQ hG
    have hQ : Q none (lmX12_stands_45 20 0 M) := hQ
    have hs : ((nlX12_stands_45 20 0 M)) := hs
    have n1 := hs
    refine T_iload_n (i := 1) (pc' := 19) dX12_stands_18 rfl rfl rfl ?_
    refine T_iconst (pc' := 20) dX12_stands_19 (by decide) rfl ?_
    refine T_rng (fun _ z9 _ => ?_)
    have hB : r32 3 := (ok_cons.mp z9).1
    unfold r32 at hB
    refine T_icmp_ge (pc' := 43) dX12_stands_20 (by decide) (pf := 23) rfl (fun c1 => ?_) (fun c1 => ?_)
    · skip
      refine T_iconst (pc' := 44) dX12_stands_43 (by decide) rfl ?_
      refine T_istore_n (i := 1) (L' := [(2, 66), (0, 0)]) (pc' := 45) dX12_stands_44 rfl (by decide) rfl rfl ?_
      exact T_wk (qX12_stands_45  20 0 _ (by first | decide | omega) rfl (n1) hQ hG) ⟨Or.inr rfl, Or.inr rfl, trivial⟩
    · exact absurd c1 (by omega)
  | succ k ih =>
    intro v1 M hv0 hk hs hQ hG
    have hQ : Q none (lmX12_stands_18 k (v1 + 1) (mset M 85 (wr32 (3 + v1)) (M 85 v1))) := hQ
    have hs : (0 ≤ v1 ∧ v1 < 6) ∧ (0 ≤ (wr32 (3 + v1)) ∧ (wr32 (3 + v1)) < 6) ∧ ((nlX12_stands_18 k (v1 + 1) (mset M 85 (wr32 (3 + v1)) (M 85 v1)))) := hs
    obtain ⟨n1, n2, n3⟩ := hs
    refine T_iload_n (i := 1) (pc' := 19) dX12_stands_18 rfl rfl rfl ?_
    refine T_iconst (pc' := 20) dX12_stands_19 (by decide) rfl ?_
    refine T_rng (fun _ z9 _ => ?_)
    have hB : r32 3 := (ok_cons.mp z9).1
    unfold r32 at hB
    refine T_icmp_ge (pc' := 43) dX12_stands_20 (by decide) (pf := 23) rfl (fun c1 => ?_) (fun c1 => ?_)
    · exact absurd c1 (by omega)
    · skip
      have hw : wr32 (v1 + 1) = v1 + 1 := wr32_id (by unfold r32; omega)
      refine T_aload_n (i := 0) (pc' := 24) dX12_stands_23 rfl rfl rfl ?_
      refine U_gr (q := 85) (k := 28) (kI := 28) (pc' := 27) dX12_stands_24 rfl cl12 (by decide) rfl (by decide) flX12_69 rfl rfl rfl (G_at hG 85 rfl) (by decide) rfl ?_
      refine T_iconst (pc' := 28) dX12_stands_27 (by decide) rfl ?_
      refine T_iload_n (i := 1) (pc' := 29) dX12_stands_28 rfl rfl rfl ?_
      refine T_iadd (pc' := 30) dX12_stands_29 rfl ?_
      refine T_aload_n (i := 0) (pc' := 31) dX12_stands_30 rfl rfl rfl ?_
      refine U_gr (q := 85) (k := 28) (kI := 28) (pc' := 34) dX12_stands_31 rfl cl12 (by decide) rfl (by decide) flX12_69 rfl rfl rfl (G_at hG 85 rfl) (by decide) rfl ?_
      refine T_iload_n (i := 1) (pc' := 35) dX12_stands_34 rfl rfl rfl ?_
      refine T_iald (pc' := 36) dX12_stands_35 (by decide) rfl (n1).1 (n1).2 rfl ?_
      refine T_iast (pc' := 37) dX12_stands_36 (by decide) rfl (n2).1 (n2).2 rfl ?_
      refine T_iinc (L' := [(2, 66), (0, (wr32 (v1 + 1)))]) (pc' := 40) dX12_stands_37 rfl (by decide) rfl rfl ?_
      refine T_goto (pc' := 18) dX12_stands_40 (by decide) ?_
      rw [hw]
      exact T_wk (ih (v1 + 1) _ (by omega) (by omega) (n3) hQ (G_arr (x := 85) (i := (wr32 (3 + v1))) (y := (M 85 v1)) rfl (by decide) hG)) ⟨Or.inr rfl, Or.inr rfl, trivial⟩
def fmX12_stands (M : Mem) : Mem :=
  (lmX12_stands_18 3 0 (mset (mset M 66 38 (M 66 35)) 66 39 ((mset M 66 38 (M 66 35)) 66 36)))
def nX12_stands (M : Mem) : Prop :=
  ((nlX12_stands_18 3 0 (mset (mset M 66 38 (M 66 35)) 66 39 ((mset M 66 38 (M 66 35)) 66 36))))
theorem frX12_stands {M : Mem} {q : Int} (hq0 : q ≠ 66) (hq1 : q ≠ 85) (hq2 : q ≠ 86) (hq3 : q ≠ 87) (hq4 : q ≠ 88) (hq5 : q ≠ 89) (hq6 : q ≠ 90) (hq7 : q ≠ 92) (hq8 : q ≠ 91) : (fmX12_stands M) q = M q := by
  unfold fmX12_stands
  repeat' (first | rfl | rw [mset_p hq0] | rw [mset_p hq1] | rw [mset_p hq2] | rw [mset_p hq3] | rw [mset_p hq4] | rw [mset_p hq5] | rw [mset_p hq6] | rw [mset_p hq7] | rw [mset_p hq8] | rw [mcpy_p hq0] | rw [mcpy_p hq1] | rw [mcpy_p hq2] | rw [mcpy_p hq3] | rw [mcpy_p hq4] | rw [mcpy_p hq5] | rw [mcpy_p hq6] | rw [mcpy_p hq7] | rw [mcpy_p hq8] | (rw [frlX12_stands_199] <;> try assumption) | (rw [frlX12_stands_163] <;> try assumption) | (rw [frlX12_stands_134] <;> try assumption) | (rw [frlX12_stands_103] <;> try assumption) | (rw [frlX12_stands_74] <;> try assumption) | (rw [frlX12_stands_45] <;> try assumption) | (rw [frlX12_stands_18] <;> try assumption) | rw [ite_ap] | split)
set_option maxRecDepth 100000 in
theorem pX12_stands {E : EV} {h : Int} {M : Mem}  (hs : (nX12_stands M)) : C2 E miX12_stands 1 h [(2, 66)] M (fun r M' => r = none ∧ M' = (fmX12_stands M)) := by
  obtain ⟨Q, hQ0⟩ : ∃ Q : Option MV → Mem → Prop, Q = (fun r M' => r = none ∧ M' = (fmX12_stands M)) := ⟨_, rfl⟩
  rw [← hQ0]
  have hQ : Q none (lmX12_stands_18 3 0 (mset (mset M 66 38 (M 66 35)) 66 39 ((mset M 66 38 (M 66 35)) 66 36))) := by rw [hQ0]; exact ⟨rfl, rfl⟩
  have o1 := hs
  refine C2_of (L := [(2, 66), (3, 0)]) (by decide +kernel) (Nat.le_of_ble_eq_true rfl) rfl (fun hG => ?_)
  refine T_aload_n (i := 0) (pc' := 1) dX12_stands_0 rfl rfl rfl ?_
  refine T_aload_n (i := 0) (pc' := 2) dX12_stands_1 rfl rfl rfl ?_
  refine U_gf (v := (0, (M 66 35))) (k := 35) (kI := 35) (pc' := 5) dX12_stands_2 rfl cl12 (by decide) rfl (by decide) flX12_267 rfl rfl (by decide) rfl rfl ?_
  refine U_pf (y := (M 66 35)) (k := 38) (kI := 38) (pc' := 8) dX12_stands_5 rfl cl12 (by decide) rfl (by decide) flX12_334 rfl rfl rfl rfl rfl (by decide) (fun z => z) rfl ?_
  refine T_aload_n (i := 0) (pc' := 9) dX12_stands_8 rfl rfl rfl ?_
  refine T_aload_n (i := 0) (pc' := 10) dX12_stands_9 rfl rfl rfl ?_
  refine U_gf (v := (0, ((mset M 66 38 (M 66 35)) 66 36))) (k := 36) (kI := 36) (pc' := 13) dX12_stands_10 rfl cl12 (by decide) rfl (by decide) flX12_270 rfl rfl (by decide) rfl rfl ?_
  refine U_pf (y := ((mset M 66 38 (M 66 35)) 66 36)) (k := 39) (kI := 39) (pc' := 16) dX12_stands_13 rfl cl12 (by decide) rfl (by decide) flX12_337 rfl rfl rfl rfl rfl (by decide) (fun z => z) rfl ?_
  refine T_iconst (pc' := 17) dX12_stands_16 (by decide) rfl ?_
  refine T_istore_n (i := 1) (L' := [(2, 66), (0, 0)]) (pc' := 18) dX12_stands_17 rfl (by decide) rfl rfl ?_
  exact T_wk (qX12_stands_18  3 0 _ (by first | decide | omega) rfl (o1) hQ (G_fld (x := 66) (i := 39) (y := ((mset M 66 38 (M 66 35)) 66 36)) rfl (by decide) (by decide) (by decide) (G_fld (x := 66) (i := 38) (y := (M 66 35)) rfl (by decide) (by decide) (by decide) hG))) ⟨Or.inr rfl, Or.inr rfl, trivial⟩
def lX12_nearer_2  : Nat → Int → Int → Mem → Int
  | 0, v1, v2, M => v1
  | k + 1, v1, v2, M => (if (M 93 v1) ≤ (M 93 (fX12_stepped M v1 v2)) then (lX12_nearer_2 k v1 (v2 + 1) M) else (fX12_stepped M v1 v2))
def nlX12_nearer_2  : Nat → Int → Int → Mem → Prop
  | 0, v1, v2, M => True
  | k + 1, v1, v2, M => ((nX12_stepped M v1 v2)) ∧ (0 ≤ (fX12_stepped M v1 v2) ∧ (fX12_stepped M v1 v2) < 54) ∧ (0 ≤ v1 ∧ v1 < 54) ∧ ((M 93 v1) ≤ (M 93 (fX12_stepped M v1 v2)) → (nlX12_nearer_2 k v1 (v2 + 1) M))
set_option maxRecDepth 100000 in
set_option maxHeartbeats 2000000 in
theorem qX12_nearer_2 {E : EV} {h : Int} {Q : Option MV → Mem → Prop}   : ∀ (k : Nat) (v1 v2 : Int) (M : Mem), 0 ≤ v2 → ((4) - v2).toNat = k → (nlX12_nearer_2 k v1 v2 M) → Q (some (0, (lX12_nearer_2 k v1 v2 M))) M → G h M → TG E miX12_nearer 3 h Q 2 [(2, 66), (0, v1), (0, v2), (3, 0)] [] M := by
  intro k
  induction k with
  | zero =>
    intro v1 v2 M hv0 hk hs hQ hG
    have hQ : Q (some (0, v1)) M := hQ
    have hs : True := hs
    refine T_iload_n (i := 2) (pc' := 3) dX12_nearer_2 rfl rfl rfl ?_
    refine T_iconst (pc' := 4) dX12_nearer_3 (by decide) rfl ?_
    refine T_rng (fun _ z9 _ => ?_)
    have hB : r32 4 := (ok_cons.mp z9).1
    unfold r32 at hB
    refine T_icmp_ge (pc' := 37) dX12_nearer_4 (by decide) (pf := 7) rfl (fun c1 => ?_) (fun c1 => ?_)
    · skip
      refine T_iload_n (i := 1) (pc' := 38) dX12_nearer_37 rfl rfl rfl ?_
      exact T_iret dX12_nearer_38 rfl ⟨rfl, hG, hQ⟩
    · exact absurd c1 (by omega)
  | succ k ih =>
    intro v1 v2 M hv0 hk hs hQ hG
    have hQ : Q (some (0, (if (M 93 v1) ≤ (M 93 (fX12_stepped M v1 v2)) then (lX12_nearer_2 k v1 (v2 + 1) M) else (fX12_stepped M v1 v2)))) M := hQ
    have hs : ((nX12_stepped M v1 v2)) ∧ (0 ≤ (fX12_stepped M v1 v2) ∧ (fX12_stepped M v1 v2) < 54) ∧ (0 ≤ v1 ∧ v1 < 54) ∧ ((M 93 v1) ≤ (M 93 (fX12_stepped M v1 v2)) → (nlX12_nearer_2 k v1 (v2 + 1) M)) := hs
    obtain ⟨n1, n2, n3, n4⟩ := hs
    refine T_iload_n (i := 2) (pc' := 3) dX12_nearer_2 rfl rfl rfl ?_
    refine T_iconst (pc' := 4) dX12_nearer_3 (by decide) rfl ?_
    refine T_rng (fun _ z9 _ => ?_)
    have hB : r32 4 := (ok_cons.mp z9).1
    unfold r32 at hB
    refine T_icmp_ge (pc' := 37) dX12_nearer_4 (by decide) (pf := 7) rfl (fun c1 => ?_) (fun c1 => ?_)
    · exact absurd c1 (by omega)
    · skip
      have hw : wr32 (v2 + 1) = v2 + 1 := wr32_id (by unfold r32; omega)
      refine T_aload_n (i := 0) (pc' := 8) dX12_nearer_7 rfl rfl rfl ?_
      refine T_iload_n (i := 1) (pc' := 9) dX12_nearer_8 rfl rfl rfl ?_
      refine T_iload_n (i := 2) (pc' := 10) dX12_nearer_9 rfl rfl rfl ?_
      refine T_callV (av := [(0, v1), (0, v2)]) (st := []) (d2 := 2) (nc2 := 0) (ns2 := 0) (pc' := 13) dX12_nearer_10 rfl mtX12_stepped mvX12_stepped mlX12_364 cl12 rfl rfl rfl (Nat.le_of_ble_eq_true rfl) (by decide) ⟨by decide, by decide⟩ rfl (pX12_stepped (E := E) (h := h) (M := M) (v1 := v1) (v2 := v2) (n1) hG) (kF (st2 := [(0, (fX12_stepped M v1 v2))]) rfl (fun hG2 => ?_))
      refine T_istore_n (i := 3) (L' := [(2, 66), (0, v1), (0, v2), (0, (fX12_stepped M v1 v2))]) (pc' := 14) dX12_nearer_13 rfl (by decide) rfl rfl ?_
      refine T_aload_n (i := 0) (pc' := 15) dX12_nearer_14 rfl rfl rfl ?_
      refine U_gr (q := 93) (k := 43) (kI := 43) (pc' := 18) dX12_nearer_15 rfl cl12 (by decide) rfl (by decide) flX12_95 rfl rfl rfl (G_at hG 93 rfl) (by decide) rfl ?_
      refine T_iload_n (i := 3) (pc' := 19) dX12_nearer_18 rfl rfl rfl ?_
      refine T_iald (pc' := 20) dX12_nearer_19 (by decide) rfl (n2).1 (n2).2 rfl ?_
      refine T_aload_n (i := 0) (pc' := 21) dX12_nearer_20 rfl rfl rfl ?_
      refine U_gr (q := 93) (k := 43) (kI := 43) (pc' := 24) dX12_nearer_21 rfl cl12 (by decide) rfl (by decide) flX12_95 rfl rfl rfl (G_at hG 93 rfl) (by decide) rfl ?_
      refine T_iload_n (i := 1) (pc' := 25) dX12_nearer_24 rfl rfl rfl ?_
      refine T_iald (pc' := 26) dX12_nearer_25 (by decide) rfl (n3).1 (n3).2 rfl ?_
      refine T_icmp_ge (pc' := 31) dX12_nearer_26 (by decide) (pf := 29) rfl (fun c3 => ?_) (fun c3 => ?_)
      · skip
        refine T_iinc (L' := [(2, 66), (0, v1), (0, (wr32 (v2 + 1))), (0, (fX12_stepped M v1 v2))]) (pc' := 34) dX12_nearer_31 rfl (by decide) rfl rfl ?_
        refine T_goto (pc' := 2) dX12_nearer_34 (by decide) ?_
        rw [hw]
        exact T_wk (ih _ (v2 + 1) _ (by omega) (by omega) (n4 c3) (by have q := hQ; try simp only [if_pos c3] at q; exact q) hG) ⟨Or.inr rfl, Or.inr rfl, Or.inr rfl, Or.inl rfl, trivial⟩
      · skip
        refine T_iload_n (i := 3) (pc' := 30) dX12_nearer_29 rfl rfl rfl ?_
        exact T_iret dX12_nearer_30 rfl ⟨rfl, hG, (by have q := hQ; try simp only [if_neg c3] at q; exact q)⟩
def fX12_nearer (M : Mem) (v1 : Int) : Int :=
  (lX12_nearer_2 4 v1 0 M)
def nX12_nearer (M : Mem) (v1 : Int) : Prop :=
  ((nlX12_nearer_2 4 v1 0 M))
set_option maxRecDepth 100000 in
theorem pX12_nearer {E : EV} {h : Int} {M : Mem} {v1 : Int} (hs : (nX12_nearer M v1)) : C2 E miX12_nearer 3 h [(2, 66), (0, v1)] M (fun r M' => r = some (0, (fX12_nearer M v1)) ∧ M' = M) := by
  obtain ⟨Q, hQ0⟩ : ∃ Q : Option MV → Mem → Prop, Q = (fun r M' => r = some (0, (fX12_nearer M v1)) ∧ M' = M) := ⟨_, rfl⟩
  rw [← hQ0]
  have hQ : Q (some (0, (lX12_nearer_2 4 v1 0 M))) M := by rw [hQ0]; exact ⟨rfl, rfl⟩
  have o1 := hs
  refine C2_of (L := [(2, 66), (0, v1), (3, 0), (3, 0)]) (by decide +kernel) (Nat.le_of_ble_eq_true rfl) rfl (fun hG => ?_)
  refine T_iconst (pc' := 1) dX12_nearer_0 (by decide) rfl ?_
  refine T_istore_n (i := 2) (L' := [(2, 66), (0, v1), (0, 0), (3, 0)]) (pc' := 2) dX12_nearer_1 rfl (by decide) rfl rfl ?_
  exact T_wk (qX12_nearer_2  4 v1 0 _ (by first | decide | omega) rfl (o1) hQ hG) ⟨Or.inr rfl, Or.inr rfl, Or.inr rfl, Or.inl rfl, trivial⟩
def lX12_opensBy_71  : Nat → Int → Int → Int → Int → Mem → Int
  | 0, v1, v2, v4, v5, M => (if v4 < (fX12_personOf M v1 2) then (0 : Int) else 2)
  | k + 1, v1, v2, v4, v5, M => (lX12_opensBy_71 k v1 v2 (if (fX12_isComing M v5) = 0 then v4 else (if (fX12_isOpen M v5 (wr32 (v2 - 1))) = 0 then v4 else (if (M 91 6) < (fX12_apart M (fX12_whereIn M v1 (wr32 (v2 - 1))) (fX12_whereIn M v5 (wr32 (v2 - 1)))) then v4 else (wr32 (v4 + 1))))) (v5 + 1) M)
def nlX12_opensBy_71  : Nat → Int → Int → Int → Int → Mem → Prop
  | 0, v1, v2, v4, v5, M => ((nX12_personOf v1 2))
  | k + 1, v1, v2, v4, v5, M => (¬ ((fX12_isComing M v5) = 0) → (nX12_isOpen M v5 (wr32 (v2 - 1)))) ∧ (¬ ((fX12_isComing M v5) = 0) → ¬ ((fX12_isOpen M v5 (wr32 (v2 - 1))) = 0) → (nX12_whereIn v1 (wr32 (v2 - 1)))) ∧ (¬ ((fX12_isComing M v5) = 0) → ¬ ((fX12_isOpen M v5 (wr32 (v2 - 1))) = 0) → (nX12_whereIn v5 (wr32 (v2 - 1)))) ∧ (¬ ((fX12_isComing M v5) = 0) → ¬ ((fX12_isOpen M v5 (wr32 (v2 - 1))) = 0) → (nX12_apart M)) ∧ ((nlX12_opensBy_71 k v1 v2 (if (fX12_isComing M v5) = 0 then v4 else (if (fX12_isOpen M v5 (wr32 (v2 - 1))) = 0 then v4 else (if (M 91 6) < (fX12_apart M (fX12_whereIn M v1 (wr32 (v2 - 1))) (fX12_whereIn M v5 (wr32 (v2 - 1)))) then v4 else (wr32 (v4 + 1))))) (v5 + 1) M))
set_option maxRecDepth 100000 in
set_option maxHeartbeats 2000000 in
theorem qX12_opensBy_71 {E : EV} {h : Int} {Q : Option MV → Mem → Prop}   : ∀ (k : Nat) (v1 v2 v4 v5 : Int) (M : Mem), 0 ≤ v5 → (((fX12_peopleMany M)) - v5).toNat = k → (nlX12_opensBy_71 k v1 v2 v4 v5 M) → Q (some (0, (lX12_opensBy_71 k v1 v2 v4 v5 M))) M → G h M → TG E miX12_opensBy 4 h Q 71 [(2, 66), (0, v1), (0, v2), (3, 0), (0, v4), (0, v5)] [] M := by
  intro k
  induction k with
  | zero =>
    intro v1 v2 v4 v5 M hv0 hk hs hQ hG
    have hQ : Q (some (0, (if v4 < (fX12_personOf M v1 2) then (0 : Int) else 2))) M := hQ
    have hs : ((nX12_personOf v1 2)) := hs
    have n1 := hs
    refine T_iload (i := 5) (pc' := 73) dX12_opensBy_71 rfl rfl ?_
    refine T_aload_n (i := 0) (pc' := 74) dX12_opensBy_73 rfl rfl rfl ?_
    refine T_callV (av := []) (st := [(0, v5)]) (d2 := 1) (nc2 := 0) (ns2 := 0) (pc' := 77) dX12_opensBy_74 rfl mtX12_peopleMany mvX12_peopleMany mlX12_349 cl12 rfl rfl rfl (Nat.le_of_ble_eq_true rfl) (by decide) ⟨by decide, by decide⟩ rfl (pX12_peopleMany (E := E) (h := h) (M := M) hG) (kF (st2 := [(0, (fX12_peopleMany M)), (0, v5)]) rfl (fun hG1 => ?_))
    refine T_rng (fun _ z9 _ => ?_)
    have hB : r32 (fX12_peopleMany M) := (ok_cons.mp z9).1
    unfold r32 at hB
    refine T_icmp_ge (pc' := 141) dX12_opensBy_77 (by decide) (pf := 80) rfl (fun c2 => ?_) (fun c2 => ?_)
    · skip
      refine T_iload (i := 4) (pc' := 143) dX12_opensBy_141 rfl rfl ?_
      refine T_aload_n (i := 0) (pc' := 144) dX12_opensBy_143 rfl rfl rfl ?_
      refine T_iload_n (i := 1) (pc' := 145) dX12_opensBy_144 rfl rfl rfl ?_
      refine T_iconst (pc' := 146) dX12_opensBy_145 (by decide) rfl ?_
      refine T_callV (av := [(0, v1), (0, 2)]) (st := [(0, v4)]) (d2 := 1) (nc2 := 0) (ns2 := 0) (pc' := 149) dX12_opensBy_146 rfl mtX12_personOf mvX12_personOf mlX12_373 cl12 rfl rfl rfl (Nat.le_of_ble_eq_true rfl) (by decide) ⟨by decide, by decide⟩ rfl (pX12_personOf (E := E) (h := h) (M := M) (v1 := v1) (v2 := 2) (n1) hG) (kF (st2 := [(0, (fX12_personOf M v1 2)), (0, v4)]) rfl (fun hG3 => ?_))
      have HJ4 : T E miX12_opensBy 4 126 0 0 (fun r S M' => S = S0 ∧ G h M' ∧ Q r M') 157 [(3, 0), (3, 0), (3, 0), (3, 0), (3, 0), (3, 0)] [(0, (if v4 < (fX12_personOf M v1 2) then (0 : Int) else 2))] S0 M 0 0 := by
        exact T_iret dX12_opensBy_157 rfl ⟨rfl, hG, hQ⟩
      refine T_icmp_lt (pc' := 156) dX12_opensBy_149 (by decide) (pf := 152) rfl (fun c5 => ?_) (fun c5 => ?_)
      · skip
        refine T_iconst (pc' := 157) dX12_opensBy_156 (by decide) rfl ?_
        exact T_wk (L' := [(3, 0), (3, 0), (3, 0), (3, 0), (3, 0), (3, 0)]) (by have q := HJ4; try simp only [if_pos c5] at q; exact q) ⟨Or.inl rfl, Or.inl rfl, Or.inl rfl, Or.inl rfl, Or.inl rfl, Or.inl rfl, trivial⟩
      · skip
        refine T_iconst (pc' := 153) dX12_opensBy_152 (by decide) rfl ?_
        refine T_goto (pc' := 157) dX12_opensBy_153 (by decide) ?_
        exact T_wk (L' := [(3, 0), (3, 0), (3, 0), (3, 0), (3, 0), (3, 0)]) (by have q := HJ4; try simp only [if_neg c5] at q; exact q) ⟨Or.inl rfl, Or.inl rfl, Or.inl rfl, Or.inl rfl, Or.inl rfl, Or.inl rfl, trivial⟩
    · exact absurd c2 (by omega)
  | succ k ih =>
    intro v1 v2 v4 v5 M hv0 hk hs hQ hG
    have hQ : Q (some (0, (lX12_opensBy_71 k v1 v2 (if (fX12_isComing M v5) = 0 then v4 else (if (fX12_isOpen M v5 (wr32 (v2 - 1))) = 0 then v4 else (if (M 91 6) < (fX12_apart M (fX12_whereIn M v1 (wr32 (v2 - 1))) (fX12_whereIn M v5 (wr32 (v2 - 1)))) then v4 else (wr32 (v4 + 1))))) (v5 + 1) M))) M := hQ
    have hs : (¬ ((fX12_isComing M v5) = 0) → (nX12_isOpen M v5 (wr32 (v2 - 1)))) ∧ (¬ ((fX12_isComing M v5) = 0) → ¬ ((fX12_isOpen M v5 (wr32 (v2 - 1))) = 0) → (nX12_whereIn v1 (wr32 (v2 - 1)))) ∧ (¬ ((fX12_isComing M v5) = 0) → ¬ ((fX12_isOpen M v5 (wr32 (v2 - 1))) = 0) → (nX12_whereIn v5 (wr32 (v2 - 1)))) ∧ (¬ ((fX12_isComing M v5) = 0) → ¬ ((fX12_isOpen M v5 (wr32 (v2 - 1))) = 0) → (nX12_apart M)) ∧ ((nlX12_opensBy_71 k v1 v2 (if (fX12_isComing M v5) = 0 then v4 else (if (fX12_isOpen M v5 (wr32 (v2 - 1))) = 0 then v4 else (if (M 91 6) < (fX12_apart M (fX12_whereIn M v1 (wr32 (v2 - 1))) (fX12_whereIn M v5 (wr32 (v2 - 1)))) then v4 else (wr32 (v4 + 1))))) (v5 + 1) M)) := hs
    obtain ⟨n1, n2, n3, n4, n5⟩ := hs
    refine T_iload (i := 5) (pc' := 73) dX12_opensBy_71 rfl rfl ?_
    refine T_aload_n (i := 0) (pc' := 74) dX12_opensBy_73 rfl rfl rfl ?_
    refine T_callV (av := []) (st := [(0, v5)]) (d2 := 1) (nc2 := 0) (ns2 := 0) (pc' := 77) dX12_opensBy_74 rfl mtX12_peopleMany mvX12_peopleMany mlX12_349 cl12 rfl rfl rfl (Nat.le_of_ble_eq_true rfl) (by decide) ⟨by decide, by decide⟩ rfl (pX12_peopleMany (E := E) (h := h) (M := M) hG) (kF (st2 := [(0, (fX12_peopleMany M)), (0, v5)]) rfl (fun hG1 => ?_))
    refine T_rng (fun _ z9 _ => ?_)
    have hB : r32 (fX12_peopleMany M) := (ok_cons.mp z9).1
    unfold r32 at hB
    refine T_icmp_ge (pc' := 141) dX12_opensBy_77 (by decide) (pf := 80) rfl (fun c2 => ?_) (fun c2 => ?_)
    · exact absurd c2 (by omega)
    · skip
      have hw : wr32 (v5 + 1) = v5 + 1 := wr32_id (by unfold r32; omega)
      refine T_aload_n (i := 0) (pc' := 81) dX12_opensBy_80 rfl rfl rfl ?_
      refine T_iload (i := 5) (pc' := 83) dX12_opensBy_81 rfl rfl ?_
      refine T_callV (av := [(0, v5)]) (st := []) (d2 := 3) (nc2 := 0) (ns2 := 0) (pc' := 86) dX12_opensBy_83 rfl mtX12_isComing mvX12_isComing mlX12_376 cl12 rfl rfl rfl (Nat.le_of_ble_eq_true rfl) (by decide) ⟨by decide, by decide⟩ rfl (pX12_isComing (E := E) (h := h) (M := M) (v1 := v5) hG) (kF (st2 := [(0, (fX12_isComing M v5))]) rfl (fun hG6 => ?_))
      have HJ7 : T E miX12_opensBy 4 126 0 0 (fun r S M' => S = S0 ∧ G h M' ∧ Q r M') 135 [(2, 66), (0, v1), (0, v2), (3, 0), (0, (if (fX12_isComing M v5) = 0 then v4 else (if (fX12_isOpen M v5 (wr32 (v2 - 1))) = 0 then v4 else (if (M 91 6) < (fX12_apart M (fX12_whereIn M v1 (wr32 (v2 - 1))) (fX12_whereIn M v5 (wr32 (v2 - 1)))) then v4 else (wr32 (v4 + 1)))))), (0, v5)] [] S0 M 0 0 := by
        refine T_iinc (L' := [(2, 66), (0, v1), (0, v2), (3, 0), (0, (if (fX12_isComing M v5) = 0 then v4 else (if (fX12_isOpen M v5 (wr32 (v2 - 1))) = 0 then v4 else (if (M 91 6) < (fX12_apart M (fX12_whereIn M v1 (wr32 (v2 - 1))) (fX12_whereIn M v5 (wr32 (v2 - 1)))) then v4 else (wr32 (v4 + 1)))))), (0, (wr32 (v5 + 1)))]) (pc' := 138) dX12_opensBy_135 rfl (by decide) rfl rfl ?_
        refine T_goto (pc' := 71) dX12_opensBy_138 (by decide) ?_
        rw [hw]
        exact T_wk (ih _ _ _ (v5 + 1) _ (by omega) (by omega) (n5) hQ hG) ⟨Or.inr rfl, Or.inr rfl, Or.inr rfl, Or.inl rfl, Or.inr rfl, Or.inr rfl, trivial⟩
      refine T_if_eq (pc' := 135) dX12_opensBy_86 (by decide) (pf := 89) rfl (fun c8 => ?_) (fun c8 => ?_)
      · skip
        exact T_wk (L' := [(2, 66), (0, v1), (0, v2), (3, 0), (0, v4), (0, v5)]) (by have q := HJ7; try simp only [if_pos c8] at q; exact q) ⟨Or.inr rfl, Or.inr rfl, Or.inr rfl, Or.inl rfl, Or.inr rfl, Or.inr rfl, trivial⟩
      · skip
        refine T_aload_n (i := 0) (pc' := 90) dX12_opensBy_89 rfl rfl rfl ?_
        refine T_iload (i := 5) (pc' := 92) dX12_opensBy_90 rfl rfl ?_
        refine T_iload_n (i := 2) (pc' := 93) dX12_opensBy_92 rfl rfl rfl ?_
        refine T_iconst (pc' := 94) dX12_opensBy_93 (by decide) rfl ?_
        refine T_isub (pc' := 95) dX12_opensBy_94 rfl ?_
        refine T_callV (av := [(0, v5), (0, (wr32 (v2 - 1)))]) (st := []) (d2 := 2) (nc2 := 0) (ns2 := 0) (pc' := 98) dX12_opensBy_95 rfl mtX12_isOpen mvX12_isOpen mlX12_379 cl12 rfl rfl rfl (Nat.le_of_ble_eq_true rfl) (by decide) ⟨by decide, by decide⟩ rfl (pX12_isOpen (E := E) (h := h) (M := M) (v1 := v5) (v2 := (wr32 (v2 - 1))) (n1 c8) hG) (kF (st2 := [(0, (fX12_isOpen M v5 (wr32 (v2 - 1))))]) rfl (fun hG9 => ?_))
        refine T_if_eq (pc' := 135) dX12_opensBy_98 (by decide) (pf := 101) rfl (fun c10 => ?_) (fun c10 => ?_)
        · skip
          exact T_wk (L' := [(2, 66), (0, v1), (0, v2), (3, 0), (0, v4), (0, v5)]) (by have q := HJ7; try simp only [if_neg c8] at q; try simp only [if_pos c10] at q; exact q) ⟨Or.inr rfl, Or.inr rfl, Or.inr rfl, Or.inl rfl, Or.inr rfl, Or.inr rfl, trivial⟩
        · skip
          refine T_aload_n (i := 0) (pc' := 102) dX12_opensBy_101 rfl rfl rfl ?_
          refine T_aload_n (i := 0) (pc' := 103) dX12_opensBy_102 rfl rfl rfl ?_
          refine T_iload_n (i := 1) (pc' := 104) dX12_opensBy_103 rfl rfl rfl ?_
          refine T_iload_n (i := 2) (pc' := 105) dX12_opensBy_104 rfl rfl rfl ?_
          refine T_iconst (pc' := 106) dX12_opensBy_105 (by decide) rfl ?_
          refine T_isub (pc' := 107) dX12_opensBy_106 rfl ?_
          refine T_callV (av := [(0, v1), (0, (wr32 (v2 - 1)))]) (st := [(2, 66)]) (d2 := 1) (nc2 := 0) (ns2 := 0) (pc' := 110) dX12_opensBy_107 rfl mtX12_whereIn mvX12_whereIn mlX12_383 cl12 rfl rfl rfl (Nat.le_of_ble_eq_true rfl) (by decide) ⟨by decide, by decide⟩ rfl (pX12_whereIn (E := E) (h := h) (M := M) (v1 := v1) (v2 := (wr32 (v2 - 1))) (n2 c8 c10) hG) (kF (st2 := [(0, (fX12_whereIn M v1 (wr32 (v2 - 1)))), (2, 66)]) rfl (fun hG11 => ?_))
          refine T_aload_n (i := 0) (pc' := 111) dX12_opensBy_110 rfl rfl rfl ?_
          refine T_iload (i := 5) (pc' := 113) dX12_opensBy_111 rfl rfl ?_
          refine T_iload_n (i := 2) (pc' := 114) dX12_opensBy_113 rfl rfl rfl ?_
          refine T_iconst (pc' := 115) dX12_opensBy_114 (by decide) rfl ?_
          refine T_isub (pc' := 116) dX12_opensBy_115 rfl ?_
          refine T_callV (av := [(0, v5), (0, (wr32 (v2 - 1)))]) (st := [(0, (fX12_whereIn M v1 (wr32 (v2 - 1)))), (2, 66)]) (d2 := 1) (nc2 := 0) (ns2 := 0) (pc' := 119) dX12_opensBy_116 rfl mtX12_whereIn mvX12_whereIn mlX12_383 cl12 rfl rfl rfl (Nat.le_of_ble_eq_true rfl) (by decide) ⟨by decide, by decide⟩ rfl (pX12_whereIn (E := E) (h := h) (M := M) (v1 := v5) (v2 := (wr32 (v2 - 1))) (n3 c8 c10) hG) (kF (st2 := [(0, (fX12_whereIn M v5 (wr32 (v2 - 1)))), (0, (fX12_whereIn M v1 (wr32 (v2 - 1)))), (2, 66)]) rfl (fun hG12 => ?_))
          refine T_callV (av := [(0, (fX12_whereIn M v1 (wr32 (v2 - 1)))), (0, (fX12_whereIn M v5 (wr32 (v2 - 1))))]) (st := []) (d2 := 2) (nc2 := 0) (ns2 := 0) (pc' := 122) dX12_opensBy_119 rfl mtX12_apart mvX12_apart mlX12_386 cl12 rfl rfl rfl (Nat.le_of_ble_eq_true rfl) (by decide) ⟨by decide, by decide⟩ rfl (pX12_apart (E := E) (h := h) (M := M) (v1 := (fX12_whereIn M v1 (wr32 (v2 - 1)))) (v2 := (fX12_whereIn M v5 (wr32 (v2 - 1)))) (n4 c8 c10) hG) (kF (st2 := [(0, (fX12_apart M (fX12_whereIn M v1 (wr32 (v2 - 1))) (fX12_whereIn M v5 (wr32 (v2 - 1)))))]) rfl (fun hG13 => ?_))
          refine T_aload_n (i := 0) (pc' := 123) dX12_opensBy_122 rfl rfl rfl ?_
          refine U_gr (q := 91) (k := 34) (kI := 34) (pc' := 126) dX12_opensBy_123 rfl cl12 (by decide) rfl (by decide) flX12_89 rfl rfl rfl (G_at hG 91 rfl) (by decide) rfl ?_
          refine T_bipush (pc' := 128) dX12_opensBy_126 rfl (by decide) rfl ?_
          refine T_iald (pc' := 129) dX12_opensBy_128 (by decide) rfl (by decide) (by decide) rfl ?_
          refine T_icmp_gt (pc' := 135) dX12_opensBy_129 (by decide) (pf := 132) rfl (fun c14 => ?_) (fun c14 => ?_)
          · skip
            exact T_wk (L' := [(2, 66), (0, v1), (0, v2), (3, 0), (0, v4), (0, v5)]) (by have q := HJ7; try simp only [if_neg c8] at q; try simp only [if_neg c10] at q; try simp only [if_pos c14] at q; exact q) ⟨Or.inr rfl, Or.inr rfl, Or.inr rfl, Or.inl rfl, Or.inr rfl, Or.inr rfl, trivial⟩
          · skip
            refine T_iinc (L' := [(2, 66), (0, v1), (0, v2), (3, 0), (0, (wr32 (v4 + 1))), (0, v5)]) (pc' := 135) dX12_opensBy_132 rfl (by decide) rfl rfl ?_
            exact T_wk (L' := [(2, 66), (0, v1), (0, v2), (3, 0), (0, (wr32 (v4 + 1))), (0, v5)]) (by have q := HJ7; try simp only [if_neg c8] at q; try simp only [if_neg c10] at q; try simp only [if_neg c14] at q; exact q) ⟨Or.inr rfl, Or.inr rfl, Or.inr rfl, Or.inl rfl, Or.inr rfl, Or.inr rfl, trivial⟩
def fX12_opensBy (M : Mem) (v1 : Int) (v2 : Int) : Int :=
  (if (if (M 66 51) = (-1) then (0 : Int) else (if v2 ≤ (M 66 51) then (0 : Int) else 1)) = 0 then (if (fX12_personOf M v1 4) = 0 then (if v2 < (wr32 ((M 91 4) + (fX12_personOf M v1 1))) then (if (fX12_personOf M v1 2) = 0 then 0 else (lX12_opensBy_71 ((((fX12_peopleMany M)) : Int) - 0).toNat v1 v2 0 0 M)) else 1) else (if (fX12_personOf M v1 2) = 0 then 0 else (lX12_opensBy_71 ((((fX12_peopleMany M)) : Int) - 0).toNat v1 v2 0 0 M))) else (if (fX12_personOf M v1 2) = 0 then 0 else (lX12_opensBy_71 ((((fX12_peopleMany M)) : Int) - 0).toNat v1 v2 0 0 M)))
def nX12_opensBy (M : Mem) (v1 : Int) (v2 : Int) : Prop :=
  (¬ ((if (M 66 51) = (-1) then (0 : Int) else (if v2 ≤ (M 66 51) then (0 : Int) else 1)) = 0) → (nX12_personOf v1 2)) ∧ ((if (M 66 51) = (-1) then (0 : Int) else (if v2 ≤ (M 66 51) then (0 : Int) else 1)) = 0 → (nX12_personOf v1 4)) ∧ ((if (M 66 51) = (-1) then (0 : Int) else (if v2 ≤ (M 66 51) then (0 : Int) else 1)) = 0 → ¬ ((fX12_personOf M v1 4) = 0) → (nX12_personOf v1 2)) ∧ ((if (M 66 51) = (-1) then (0 : Int) else (if v2 ≤ (M 66 51) then (0 : Int) else 1)) = 0 → (fX12_personOf M v1 4) = 0 → (nX12_personOf v1 1)) ∧ ((if (M 66 51) = (-1) then (0 : Int) else (if v2 ≤ (M 66 51) then (0 : Int) else 1)) = 0 → (fX12_personOf M v1 4) = 0 → v2 < (wr32 ((M 91 4) + (fX12_personOf M v1 1))) → (nX12_personOf v1 2)) ∧ (¬ ((if (M 66 51) = (-1) then (0 : Int) else (if v2 ≤ (M 66 51) then (0 : Int) else 1)) = 0) → ¬ ((fX12_personOf M v1 2) = 0) → (nlX12_opensBy_71 ((((fX12_peopleMany M)) : Int) - 0).toNat v1 v2 0 0 M)) ∧ ((if (M 66 51) = (-1) then (0 : Int) else (if v2 ≤ (M 66 51) then (0 : Int) else 1)) = 0 → ¬ ((fX12_personOf M v1 4) = 0) → ¬ ((fX12_personOf M v1 2) = 0) → (nlX12_opensBy_71 ((((fX12_peopleMany M)) : Int) - 0).toNat v1 v2 0 0 M)) ∧ ((if (M 66 51) = (-1) then (0 : Int) else (if v2 ≤ (M 66 51) then (0 : Int) else 1)) = 0 → (fX12_personOf M v1 4) = 0 → v2 < (wr32 ((M 91 4) + (fX12_personOf M v1 1))) → ¬ ((fX12_personOf M v1 2) = 0) → (nlX12_opensBy_71 ((((fX12_peopleMany M)) : Int) - 0).toNat v1 v2 0 0 M))
set_option maxRecDepth 100000 in
theorem pX12_opensBy {E : EV} {h : Int} {M : Mem} {v1 : Int} {v2 : Int} (hs : (nX12_opensBy M v1 v2)) : C2 E miX12_opensBy 4 h [(2, 66), (0, v1), (0, v2)] M (fun r M' => r = some (0, (fX12_opensBy M v1 v2)) ∧ M' = M) := by
  obtain ⟨Q, hQ0⟩ : ∃ Q : Option MV → Mem → Prop, Q = (fun r M' => r = some (0, (fX12_opensBy M v1 v2)) ∧ M' = M) := ⟨_, rfl⟩
  rw [← hQ0]
  have hQ : Q (some (0, (if (if (M 66 51) = (-1) then (0 : Int) else (if v2 ≤ (M 66 51) then (0 : Int) else 1)) = 0 then (if (fX12_personOf M v1 4) = 0 then (if v2 < (wr32 ((M 91 4) + (fX12_personOf M v1 1))) then (if (fX12_personOf M v1 2) = 0 then 0 else (lX12_opensBy_71 ((((fX12_peopleMany M)) : Int) - 0).toNat v1 v2 0 0 M)) else 1) else (if (fX12_personOf M v1 2) = 0 then 0 else (lX12_opensBy_71 ((((fX12_peopleMany M)) : Int) - 0).toNat v1 v2 0 0 M))) else (if (fX12_personOf M v1 2) = 0 then 0 else (lX12_opensBy_71 ((((fX12_peopleMany M)) : Int) - 0).toNat v1 v2 0 0 M))))) M := by rw [hQ0]; exact ⟨rfl, rfl⟩
  obtain ⟨o1, o2, o3, o4, o5, o6, o7, o8⟩ := hs
  refine C2_of (L := [(2, 66), (0, v1), (0, v2), (3, 0), (3, 0), (3, 0)]) (by decide +kernel) (Nat.le_of_ble_eq_true rfl) rfl (fun hG => ?_)
  refine T_aload_n (i := 0) (pc' := 1) dX12_opensBy_0 rfl rfl rfl ?_
  refine U_gf (v := (0, (M 66 51))) (k := 51) (kI := 51) (pc' := 4) dX12_opensBy_1 rfl cl12 (by decide) rfl (by decide) flX12_370 rfl rfl (by decide) rfl rfl ?_
  refine T_iconst (pc' := 5) dX12_opensBy_4 (by decide) rfl ?_
  have HJ1 : T E miX12_opensBy 4 126 0 0 (fun r S M' => S = S0 ∧ G h M' ∧ Q r M') 21 [(2, 66), (0, v1), (0, v2), (3, 0), (3, 0), (3, 0)] [(0, (if (M 66 51) = (-1) then (0 : Int) else (if v2 ≤ (M 66 51) then (0 : Int) else 1)))] S0 M 0 0 := by
    refine T_istore_n (i := 3) (L' := [(2, 66), (0, v1), (0, v2), (0, (if (M 66 51) = (-1) then (0 : Int) else (if v2 ≤ (M 66 51) then (0 : Int) else 1))), (3, 0), (3, 0)]) (pc' := 22) dX12_opensBy_21 rfl (by decide) rfl rfl ?_
    refine T_iload_n (i := 3) (pc' := 23) dX12_opensBy_22 rfl rfl rfl ?_
    refine T_if_ne (pc' := 54) dX12_opensBy_23 (by decide) (pf := 26) rfl (fun c2 => ?_) (fun c2 => ?_)
    · skip
      refine T_aload_n (i := 0) (pc' := 55) dX12_opensBy_54 rfl rfl rfl ?_
      refine T_iload_n (i := 1) (pc' := 56) dX12_opensBy_55 rfl rfl rfl ?_
      refine T_iconst (pc' := 57) dX12_opensBy_56 (by decide) rfl ?_
      refine T_callV (av := [(0, v1), (0, 2)]) (st := []) (d2 := 1) (nc2 := 0) (ns2 := 0) (pc' := 60) dX12_opensBy_57 rfl mtX12_personOf mvX12_personOf mlX12_373 cl12 rfl rfl rfl (Nat.le_of_ble_eq_true rfl) (by decide) ⟨by decide, by decide⟩ rfl (pX12_personOf (E := E) (h := h) (M := M) (v1 := v1) (v2 := 2) (o1 c2) hG) (kF (st2 := [(0, (fX12_personOf M v1 2))]) rfl (fun hG3 => ?_))
      refine T_if_ne (pc' := 65) dX12_opensBy_60 (by decide) (pf := 63) rfl (fun c4 => ?_) (fun c4 => ?_)
      · skip
        refine T_iconst (pc' := 66) dX12_opensBy_65 (by decide) rfl ?_
        refine T_istore (i := 4) (L' := [(2, 66), (0, v1), (0, v2), (0, (if (M 66 51) = (-1) then (0 : Int) else (if v2 ≤ (M 66 51) then (0 : Int) else 1))), (0, 0), (3, 0)]) (pc' := 68) dX12_opensBy_66 (by decide) rfl rfl ?_
        refine T_iconst (pc' := 69) dX12_opensBy_68 (by decide) rfl ?_
        refine T_istore (i := 5) (L' := [(2, 66), (0, v1), (0, v2), (0, (if (M 66 51) = (-1) then (0 : Int) else (if v2 ≤ (M 66 51) then (0 : Int) else 1))), (0, 0), (0, 0)]) (pc' := 71) dX12_opensBy_69 (by decide) rfl rfl ?_
        exact T_wk (qX12_opensBy_71  _ v1 v2 0 0 _ (by first | decide | omega) rfl (o6 c2 c4) (by have q := hQ; try simp only [if_neg c2] at q; try simp only [if_neg c4] at q; exact q) hG) ⟨Or.inr rfl, Or.inr rfl, Or.inr rfl, Or.inl rfl, Or.inr rfl, Or.inr rfl, trivial⟩
      · skip
        refine T_iconst (pc' := 64) dX12_opensBy_63 (by decide) rfl ?_
        exact T_iret dX12_opensBy_64 rfl ⟨rfl, hG, (by have q := hQ; try simp only [if_neg c2] at q; try simp only [if_pos c4] at q; exact q)⟩
    · skip
      refine T_aload_n (i := 0) (pc' := 27) dX12_opensBy_26 rfl rfl rfl ?_
      refine T_iload_n (i := 1) (pc' := 28) dX12_opensBy_27 rfl rfl rfl ?_
      refine T_iconst (pc' := 29) dX12_opensBy_28 (by decide) rfl ?_
      refine T_callV (av := [(0, v1), (0, 4)]) (st := []) (d2 := 1) (nc2 := 0) (ns2 := 0) (pc' := 32) dX12_opensBy_29 rfl mtX12_personOf mvX12_personOf mlX12_373 cl12 rfl rfl rfl (Nat.le_of_ble_eq_true rfl) (by decide) ⟨by decide, by decide⟩ rfl (pX12_personOf (E := E) (h := h) (M := M) (v1 := v1) (v2 := 4) (o2 c2) hG) (kF (st2 := [(0, (fX12_personOf M v1 4))]) rfl (fun hG5 => ?_))
      refine T_if_ne (pc' := 54) dX12_opensBy_32 (by decide) (pf := 35) rfl (fun c6 => ?_) (fun c6 => ?_)
      · skip
        refine T_aload_n (i := 0) (pc' := 55) dX12_opensBy_54 rfl rfl rfl ?_
        refine T_iload_n (i := 1) (pc' := 56) dX12_opensBy_55 rfl rfl rfl ?_
        refine T_iconst (pc' := 57) dX12_opensBy_56 (by decide) rfl ?_
        refine T_callV (av := [(0, v1), (0, 2)]) (st := []) (d2 := 1) (nc2 := 0) (ns2 := 0) (pc' := 60) dX12_opensBy_57 rfl mtX12_personOf mvX12_personOf mlX12_373 cl12 rfl rfl rfl (Nat.le_of_ble_eq_true rfl) (by decide) ⟨by decide, by decide⟩ rfl (pX12_personOf (E := E) (h := h) (M := M) (v1 := v1) (v2 := 2) (o3 c2 c6) hG) (kF (st2 := [(0, (fX12_personOf M v1 2))]) rfl (fun hG7 => ?_))
        refine T_if_ne (pc' := 65) dX12_opensBy_60 (by decide) (pf := 63) rfl (fun c8 => ?_) (fun c8 => ?_)
        · skip
          refine T_iconst (pc' := 66) dX12_opensBy_65 (by decide) rfl ?_
          refine T_istore (i := 4) (L' := [(2, 66), (0, v1), (0, v2), (0, (if (M 66 51) = (-1) then (0 : Int) else (if v2 ≤ (M 66 51) then (0 : Int) else 1))), (0, 0), (3, 0)]) (pc' := 68) dX12_opensBy_66 (by decide) rfl rfl ?_
          refine T_iconst (pc' := 69) dX12_opensBy_68 (by decide) rfl ?_
          refine T_istore (i := 5) (L' := [(2, 66), (0, v1), (0, v2), (0, (if (M 66 51) = (-1) then (0 : Int) else (if v2 ≤ (M 66 51) then (0 : Int) else 1))), (0, 0), (0, 0)]) (pc' := 71) dX12_opensBy_69 (by decide) rfl rfl ?_
          exact T_wk (qX12_opensBy_71  _ v1 v2 0 0 _ (by first | decide | omega) rfl (o7 c2 c6 c8) (by have q := hQ; try simp only [if_pos c2] at q; try simp only [if_neg c6] at q; try simp only [if_neg c8] at q; exact q) hG) ⟨Or.inr rfl, Or.inr rfl, Or.inr rfl, Or.inl rfl, Or.inr rfl, Or.inr rfl, trivial⟩
        · skip
          refine T_iconst (pc' := 64) dX12_opensBy_63 (by decide) rfl ?_
          exact T_iret dX12_opensBy_64 rfl ⟨rfl, hG, (by have q := hQ; try simp only [if_pos c2] at q; try simp only [if_neg c6] at q; try simp only [if_pos c8] at q; exact q)⟩
      · skip
        refine T_iload_n (i := 2) (pc' := 36) dX12_opensBy_35 rfl rfl rfl ?_
        refine T_aload_n (i := 0) (pc' := 37) dX12_opensBy_36 rfl rfl rfl ?_
        refine U_gr (q := 91) (k := 34) (kI := 34) (pc' := 40) dX12_opensBy_37 rfl cl12 (by decide) rfl (by decide) flX12_89 rfl rfl rfl (G_at hG 91 rfl) (by decide) rfl ?_
        refine T_iconst (pc' := 41) dX12_opensBy_40 (by decide) rfl ?_
        refine T_iald (pc' := 42) dX12_opensBy_41 (by decide) rfl (by decide) (by decide) rfl ?_
        refine T_aload_n (i := 0) (pc' := 43) dX12_opensBy_42 rfl rfl rfl ?_
        refine T_iload_n (i := 1) (pc' := 44) dX12_opensBy_43 rfl rfl rfl ?_
        refine T_iconst (pc' := 45) dX12_opensBy_44 (by decide) rfl ?_
        refine T_callV (av := [(0, v1), (0, 1)]) (st := [(0, (M 91 4)), (0, v2)]) (d2 := 1) (nc2 := 0) (ns2 := 0) (pc' := 48) dX12_opensBy_45 rfl mtX12_personOf mvX12_personOf mlX12_373 cl12 rfl rfl rfl (Nat.le_of_ble_eq_true rfl) (by decide) ⟨by decide, by decide⟩ rfl (pX12_personOf (E := E) (h := h) (M := M) (v1 := v1) (v2 := 1) (o4 c2 c6) hG) (kF (st2 := [(0, (fX12_personOf M v1 1)), (0, (M 91 4)), (0, v2)]) rfl (fun hG9 => ?_))
        refine T_iadd (pc' := 49) dX12_opensBy_48 rfl ?_
        refine T_icmp_lt (pc' := 54) dX12_opensBy_49 (by decide) (pf := 52) rfl (fun c10 => ?_) (fun c10 => ?_)
        · skip
          refine T_aload_n (i := 0) (pc' := 55) dX12_opensBy_54 rfl rfl rfl ?_
          refine T_iload_n (i := 1) (pc' := 56) dX12_opensBy_55 rfl rfl rfl ?_
          refine T_iconst (pc' := 57) dX12_opensBy_56 (by decide) rfl ?_
          refine T_callV (av := [(0, v1), (0, 2)]) (st := []) (d2 := 1) (nc2 := 0) (ns2 := 0) (pc' := 60) dX12_opensBy_57 rfl mtX12_personOf mvX12_personOf mlX12_373 cl12 rfl rfl rfl (Nat.le_of_ble_eq_true rfl) (by decide) ⟨by decide, by decide⟩ rfl (pX12_personOf (E := E) (h := h) (M := M) (v1 := v1) (v2 := 2) (o5 c2 c6 c10) hG) (kF (st2 := [(0, (fX12_personOf M v1 2))]) rfl (fun hG11 => ?_))
          refine T_if_ne (pc' := 65) dX12_opensBy_60 (by decide) (pf := 63) rfl (fun c12 => ?_) (fun c12 => ?_)
          · skip
            refine T_iconst (pc' := 66) dX12_opensBy_65 (by decide) rfl ?_
            refine T_istore (i := 4) (L' := [(2, 66), (0, v1), (0, v2), (0, (if (M 66 51) = (-1) then (0 : Int) else (if v2 ≤ (M 66 51) then (0 : Int) else 1))), (0, 0), (3, 0)]) (pc' := 68) dX12_opensBy_66 (by decide) rfl rfl ?_
            refine T_iconst (pc' := 69) dX12_opensBy_68 (by decide) rfl ?_
            refine T_istore (i := 5) (L' := [(2, 66), (0, v1), (0, v2), (0, (if (M 66 51) = (-1) then (0 : Int) else (if v2 ≤ (M 66 51) then (0 : Int) else 1))), (0, 0), (0, 0)]) (pc' := 71) dX12_opensBy_69 (by decide) rfl rfl ?_
            exact T_wk (qX12_opensBy_71  _ v1 v2 0 0 _ (by first | decide | omega) rfl (o8 c2 c6 c10 c12) (by have q := hQ; try simp only [if_pos c2] at q; try simp only [if_pos c6] at q; try simp only [if_pos c10] at q; try simp only [if_neg c12] at q; exact q) hG) ⟨Or.inr rfl, Or.inr rfl, Or.inr rfl, Or.inl rfl, Or.inr rfl, Or.inr rfl, trivial⟩
          · skip
            refine T_iconst (pc' := 64) dX12_opensBy_63 (by decide) rfl ?_
            exact T_iret dX12_opensBy_64 rfl ⟨rfl, hG, (by have q := hQ; try simp only [if_pos c2] at q; try simp only [if_pos c6] at q; try simp only [if_pos c10] at q; try simp only [if_pos c12] at q; exact q)⟩
        · skip
          refine T_iconst (pc' := 53) dX12_opensBy_52 (by decide) rfl ?_
          exact T_iret dX12_opensBy_53 rfl ⟨rfl, hG, (by have q := hQ; try simp only [if_pos c2] at q; try simp only [if_pos c6] at q; try simp only [if_neg c10] at q; exact q)⟩
  refine T_icmp_eq (pc' := 20) dX12_opensBy_5 (by decide) (pf := 8) rfl (fun c13 => ?_) (fun c13 => ?_)
  · skip
    refine T_iconst (pc' := 21) dX12_opensBy_20 (by decide) rfl ?_
    exact T_wk (L' := [(2, 66), (0, v1), (0, v2), (3, 0), (3, 0), (3, 0)]) (by have q := HJ1; try simp only [if_pos c13] at q; exact q) ⟨Or.inr rfl, Or.inr rfl, Or.inr rfl, Or.inl rfl, Or.inl rfl, Or.inl rfl, trivial⟩
  · skip
    refine T_aload_n (i := 0) (pc' := 9) dX12_opensBy_8 rfl rfl rfl ?_
    refine U_gf (v := (0, (M 66 51))) (k := 51) (kI := 51) (pc' := 12) dX12_opensBy_9 rfl cl12 (by decide) rfl (by decide) flX12_370 rfl rfl (by decide) rfl rfl ?_
    refine T_iload_n (i := 2) (pc' := 13) dX12_opensBy_12 rfl rfl rfl ?_
    refine T_icmp_ge (pc' := 20) dX12_opensBy_13 (by decide) (pf := 16) rfl (fun c14 => ?_) (fun c14 => ?_)
    · skip
      refine T_iconst (pc' := 21) dX12_opensBy_20 (by decide) rfl ?_
      exact T_wk (L' := [(2, 66), (0, v1), (0, v2), (3, 0), (3, 0), (3, 0)]) (by have q := HJ1; try simp only [if_neg c13] at q; try simp only [if_pos c14] at q; exact q) ⟨Or.inr rfl, Or.inr rfl, Or.inr rfl, Or.inl rfl, Or.inl rfl, Or.inl rfl, trivial⟩
    · skip
      refine T_iconst (pc' := 17) dX12_opensBy_16 (by decide) rfl ?_
      refine T_goto (pc' := 21) dX12_opensBy_17 (by decide) ?_
      exact T_wk (L' := [(2, 66), (0, v1), (0, v2), (3, 0), (3, 0), (3, 0)]) (by have q := HJ1; try simp only [if_neg c13] at q; try simp only [if_neg c14] at q; exact q) ⟨Or.inr rfl, Or.inr rfl, Or.inr rfl, Or.inl rfl, Or.inl rfl, Or.inl rfl, trivial⟩
def lX12_doorIn_2  : Nat → Int → Int → Mem → Int
  | 0, v1, v2, M => (-1)
  | k + 1, v1, v2, M => (if (M 90 (wr32 (6 + v2))) = v1 then (if (M 92 v2) = 0 then v2 else (lX12_doorIn_2 k v1 (v2 + 1) M)) else (lX12_doorIn_2 k v1 (v2 + 1) M))
def nlX12_doorIn_2  : Nat → Int → Int → Mem → Prop
  | 0, v1, v2, M => True
  | k + 1, v1, v2, M => (0 ≤ (wr32 (6 + v2)) ∧ (wr32 (6 + v2)) < 12) ∧ ((M 90 (wr32 (6 + v2))) = v1 → 0 ≤ v2 ∧ v2 < 6) ∧ (¬ ((M 90 (wr32 (6 + v2))) = v1) → (nlX12_doorIn_2 k v1 (v2 + 1) M)) ∧ ((M 90 (wr32 (6 + v2))) = v1 → ¬ ((M 92 v2) = 0) → (nlX12_doorIn_2 k v1 (v2 + 1) M))
set_option maxRecDepth 100000 in
set_option maxHeartbeats 2000000 in
theorem qX12_doorIn_2 {E : EV} {h : Int} {Q : Option MV → Mem → Prop}   : ∀ (k : Nat) (v1 v2 : Int) (M : Mem), 0 ≤ v2 → (((fX12_doorMany M)) - v2).toNat = k → (nlX12_doorIn_2 k v1 v2 M) → Q (some (0, (lX12_doorIn_2 k v1 v2 M))) M → G h M → TG E miX12_doorIn 2 h Q 2 [(2, 66), (0, v1), (0, v2)] [] M := by
  intro k
  induction k with
  | zero =>
    intro v1 v2 M hv0 hk hs hQ hG
    have hQ : Q (some (0, (-1))) M := hQ
    have hs : True := hs
    refine T_iload_n (i := 2) (pc' := 3) dX12_doorIn_2 rfl rfl rfl ?_
    refine T_aload_n (i := 0) (pc' := 4) dX12_doorIn_3 rfl rfl rfl ?_
    refine T_callV (av := []) (st := [(0, v2)]) (d2 := 1) (nc2 := 0) (ns2 := 0) (pc' := 7) dX12_doorIn_4 rfl mtX12_doorMany mvX12_doorMany mlX12_361 cl12 rfl rfl rfl (Nat.le_of_ble_eq_true rfl) (by decide) ⟨by decide, by decide⟩ rfl (pX12_doorMany (E := E) (h := h) (M := M) hG) (kF (st2 := [(0, (fX12_doorMany M)), (0, v2)]) rfl (fun hG1 => ?_))
    refine T_rng (fun _ z9 _ => ?_)
    have hB : r32 (fX12_doorMany M) := (ok_cons.mp z9).1
    unfold r32 at hB
    refine T_icmp_ge (pc' := 40) dX12_doorIn_7 (by decide) (pf := 10) rfl (fun c2 => ?_) (fun c2 => ?_)
    · skip
      refine T_iconst (pc' := 41) dX12_doorIn_40 (by decide) rfl ?_
      exact T_iret dX12_doorIn_41 rfl ⟨rfl, hG, hQ⟩
    · exact absurd c2 (by omega)
  | succ k ih =>
    intro v1 v2 M hv0 hk hs hQ hG
    have hQ : Q (some (0, (if (M 90 (wr32 (6 + v2))) = v1 then (if (M 92 v2) = 0 then v2 else (lX12_doorIn_2 k v1 (v2 + 1) M)) else (lX12_doorIn_2 k v1 (v2 + 1) M)))) M := hQ
    have hs : (0 ≤ (wr32 (6 + v2)) ∧ (wr32 (6 + v2)) < 12) ∧ ((M 90 (wr32 (6 + v2))) = v1 → 0 ≤ v2 ∧ v2 < 6) ∧ (¬ ((M 90 (wr32 (6 + v2))) = v1) → (nlX12_doorIn_2 k v1 (v2 + 1) M)) ∧ ((M 90 (wr32 (6 + v2))) = v1 → ¬ ((M 92 v2) = 0) → (nlX12_doorIn_2 k v1 (v2 + 1) M)) := hs
    obtain ⟨n1, n2, n3, n4⟩ := hs
    refine T_iload_n (i := 2) (pc' := 3) dX12_doorIn_2 rfl rfl rfl ?_
    refine T_aload_n (i := 0) (pc' := 4) dX12_doorIn_3 rfl rfl rfl ?_
    refine T_callV (av := []) (st := [(0, v2)]) (d2 := 1) (nc2 := 0) (ns2 := 0) (pc' := 7) dX12_doorIn_4 rfl mtX12_doorMany mvX12_doorMany mlX12_361 cl12 rfl rfl rfl (Nat.le_of_ble_eq_true rfl) (by decide) ⟨by decide, by decide⟩ rfl (pX12_doorMany (E := E) (h := h) (M := M) hG) (kF (st2 := [(0, (fX12_doorMany M)), (0, v2)]) rfl (fun hG1 => ?_))
    refine T_rng (fun _ z9 _ => ?_)
    have hB : r32 (fX12_doorMany M) := (ok_cons.mp z9).1
    unfold r32 at hB
    refine T_icmp_ge (pc' := 40) dX12_doorIn_7 (by decide) (pf := 10) rfl (fun c2 => ?_) (fun c2 => ?_)
    · exact absurd c2 (by omega)
    · skip
      have hw : wr32 (v2 + 1) = v2 + 1 := wr32_id (by unfold r32; omega)
      refine T_aload_n (i := 0) (pc' := 11) dX12_doorIn_10 rfl rfl rfl ?_
      refine U_gr (q := 90) (k := 33) (kI := 33) (pc' := 14) dX12_doorIn_11 rfl cl12 (by decide) rfl (by decide) flX12_86 rfl rfl rfl (G_at hG 90 rfl) (by decide) rfl ?_
      refine T_bipush (pc' := 16) dX12_doorIn_14 rfl (by decide) rfl ?_
      refine T_iload_n (i := 2) (pc' := 17) dX12_doorIn_16 rfl rfl rfl ?_
      refine T_iadd (pc' := 18) dX12_doorIn_17 rfl ?_
      refine T_iald (pc' := 19) dX12_doorIn_18 (by decide) rfl (n1).1 (n1).2 rfl ?_
      refine T_iload_n (i := 1) (pc' := 20) dX12_doorIn_19 rfl rfl rfl ?_
      refine T_icmp_ne (pc' := 34) dX12_doorIn_20 (by decide) (pf := 23) rfl (fun c3 => ?_) (fun c3 => ?_)
      · skip
        refine T_iinc (L' := [(2, 66), (0, v1), (0, (wr32 (v2 + 1)))]) (pc' := 37) dX12_doorIn_34 rfl (by decide) rfl rfl ?_
        refine T_goto (pc' := 2) dX12_doorIn_37 (by decide) ?_
        rw [hw]
        exact T_wk (ih _ (v2 + 1) _ (by omega) (by omega) (n3 c3) (by have q := hQ; try simp only [if_neg c3] at q; exact q) hG) ⟨Or.inr rfl, Or.inr rfl, Or.inr rfl, trivial⟩
      · skip
        refine T_aload_n (i := 0) (pc' := 24) dX12_doorIn_23 rfl rfl rfl ?_
        refine U_gr (q := 92) (k := 41) (kI := 41) (pc' := 27) dX12_doorIn_24 rfl cl12 (by decide) rfl (by decide) flX12_92 rfl rfl rfl (G_at hG 92 rfl) (by decide) rfl ?_
        refine T_iload_n (i := 2) (pc' := 28) dX12_doorIn_27 rfl rfl rfl ?_
        refine T_iald (pc' := 29) dX12_doorIn_28 (by decide) rfl (n2 c3).1 (n2 c3).2 rfl ?_
        refine T_if_ne (pc' := 34) dX12_doorIn_29 (by decide) (pf := 32) rfl (fun c4 => ?_) (fun c4 => ?_)
        · skip
          refine T_iinc (L' := [(2, 66), (0, v1), (0, (wr32 (v2 + 1)))]) (pc' := 37) dX12_doorIn_34 rfl (by decide) rfl rfl ?_
          refine T_goto (pc' := 2) dX12_doorIn_37 (by decide) ?_
          rw [hw]
          exact T_wk (ih _ (v2 + 1) _ (by omega) (by omega) (n4 c3 c4) (by have q := hQ; try simp only [if_pos c3] at q; try simp only [if_neg c4] at q; exact q) hG) ⟨Or.inr rfl, Or.inr rfl, Or.inr rfl, trivial⟩
        · skip
          refine T_iload_n (i := 2) (pc' := 33) dX12_doorIn_32 rfl rfl rfl ?_
          exact T_iret dX12_doorIn_33 rfl ⟨rfl, hG, (by have q := hQ; try simp only [if_pos c3] at q; try simp only [if_pos c4] at q; exact q)⟩
def fX12_doorIn (M : Mem) (v1 : Int) : Int :=
  (lX12_doorIn_2 ((((fX12_doorMany M)) : Int) - 0).toNat v1 0 M)
def nX12_doorIn (M : Mem) (v1 : Int) : Prop :=
  ((nlX12_doorIn_2 ((((fX12_doorMany M)) : Int) - 0).toNat v1 0 M))
set_option maxRecDepth 100000 in
theorem pX12_doorIn {E : EV} {h : Int} {M : Mem} {v1 : Int} (hs : (nX12_doorIn M v1)) : C2 E miX12_doorIn 2 h [(2, 66), (0, v1)] M (fun r M' => r = some (0, (fX12_doorIn M v1)) ∧ M' = M) := by
  obtain ⟨Q, hQ0⟩ : ∃ Q : Option MV → Mem → Prop, Q = (fun r M' => r = some (0, (fX12_doorIn M v1)) ∧ M' = M) := ⟨_, rfl⟩
  rw [← hQ0]
  have hQ : Q (some (0, (lX12_doorIn_2 ((((fX12_doorMany M)) : Int) - 0).toNat v1 0 M))) M := by rw [hQ0]; exact ⟨rfl, rfl⟩
  have o1 := hs
  refine C2_of (L := [(2, 66), (0, v1), (3, 0)]) (by decide +kernel) (Nat.le_of_ble_eq_true rfl) rfl (fun hG => ?_)
  refine T_iconst (pc' := 1) dX12_doorIn_0 (by decide) rfl ?_
  refine T_istore_n (i := 2) (L' := [(2, 66), (0, v1), (0, 0)]) (pc' := 2) dX12_doorIn_1 rfl (by decide) rfl rfl ?_
  exact T_wk (qX12_doorIn_2  _ v1 0 _ (by first | decide | omega) rfl (o1) hQ hG) ⟨Or.inr rfl, Or.inr rfl, Or.inr rfl, trivial⟩
def lX12_waitingNear_5  : Nat → Int → Int → Int → Int → Mem → Int
  | 0, v1, v2, v3, v4, M => v3
  | k + 1, v1, v2, v3, v4, M => (lX12_waitingNear_5 k v1 v2 (if (fX12_isComing M v4) = 0 then v3 else (if (fX12_isWaiting M v4 v2) = 0 then v3 else (if (M 89 (wr32 ((wr32 (12 + (wr32 (3 * v1)))) + 1))) < (fX12_apart M (M 89 (wr32 (12 + (wr32 (3 * v1))))) (fX12_whereIn M v4 v2)) then v3 else (wr32 (v3 + 1))))) (v4 + 1) M)
def nlX12_waitingNear_5  : Nat → Int → Int → Int → Int → Mem → Prop
  | 0, v1, v2, v3, v4, M => True
  | k + 1, v1, v2, v3, v4, M => (¬ ((fX12_isComing M v4) = 0) → (nX12_isWaiting M v4)) ∧ (¬ ((fX12_isComing M v4) = 0) → ¬ ((fX12_isWaiting M v4 v2) = 0) → 0 ≤ (wr32 (12 + (wr32 (3 * v1)))) ∧ (wr32 (12 + (wr32 (3 * v1)))) < 24) ∧ (¬ ((fX12_isComing M v4) = 0) → ¬ ((fX12_isWaiting M v4 v2) = 0) → (nX12_whereIn v4 v2)) ∧ (¬ ((fX12_isComing M v4) = 0) → ¬ ((fX12_isWaiting M v4 v2) = 0) → (nX12_apart M)) ∧ (¬ ((fX12_isComing M v4) = 0) → ¬ ((fX12_isWaiting M v4 v2) = 0) → 0 ≤ (wr32 ((wr32 (12 + (wr32 (3 * v1)))) + 1)) ∧ (wr32 ((wr32 (12 + (wr32 (3 * v1)))) + 1)) < 24) ∧ ((nlX12_waitingNear_5 k v1 v2 (if (fX12_isComing M v4) = 0 then v3 else (if (fX12_isWaiting M v4 v2) = 0 then v3 else (if (M 89 (wr32 ((wr32 (12 + (wr32 (3 * v1)))) + 1))) < (fX12_apart M (M 89 (wr32 (12 + (wr32 (3 * v1))))) (fX12_whereIn M v4 v2)) then v3 else (wr32 (v3 + 1))))) (v4 + 1) M))
set_option maxRecDepth 100000 in
set_option maxHeartbeats 2000000 in
theorem qX12_waitingNear_5 {E : EV} {h : Int} {Q : Option MV → Mem → Prop}   : ∀ (k : Nat) (v1 v2 v3 v4 : Int) (M : Mem), 0 ≤ v4 → (((fX12_peopleMany M)) - v4).toNat = k → (nlX12_waitingNear_5 k v1 v2 v3 v4 M) → Q (some (0, (lX12_waitingNear_5 k v1 v2 v3 v4 M))) M → G h M → TG E miX12_waitingNear 4 h Q 5 [(2, 66), (0, v1), (0, v2), (0, v3), (0, v4)] [] M := by
  intro k
  induction k with
  | zero =>
    intro v1 v2 v3 v4 M hv0 hk hs hQ hG
    have hQ : Q (some (0, v3)) M := hQ
    have hs : True := hs
    refine T_iload (i := 4) (pc' := 7) dX12_waitingNear_5 rfl rfl ?_
    refine T_aload_n (i := 0) (pc' := 8) dX12_waitingNear_7 rfl rfl rfl ?_
    refine T_callV (av := []) (st := [(0, v4)]) (d2 := 1) (nc2 := 0) (ns2 := 0) (pc' := 11) dX12_waitingNear_8 rfl mtX12_peopleMany mvX12_peopleMany mlX12_349 cl12 rfl rfl rfl (Nat.le_of_ble_eq_true rfl) (by decide) ⟨by decide, by decide⟩ rfl (pX12_peopleMany (E := E) (h := h) (M := M) hG) (kF (st2 := [(0, (fX12_peopleMany M)), (0, v4)]) rfl (fun hG1 => ?_))
    refine T_rng (fun _ z9 _ => ?_)
    have hB : r32 (fX12_peopleMany M) := (ok_cons.mp z9).1
    unfold r32 at hB
    refine T_icmp_ge (pc' := 80) dX12_waitingNear_11 (by decide) (pf := 14) rfl (fun c2 => ?_) (fun c2 => ?_)
    · skip
      refine T_iload_n (i := 3) (pc' := 81) dX12_waitingNear_80 rfl rfl rfl ?_
      exact T_iret dX12_waitingNear_81 rfl ⟨rfl, hG, hQ⟩
    · exact absurd c2 (by omega)
  | succ k ih =>
    intro v1 v2 v3 v4 M hv0 hk hs hQ hG
    have hQ : Q (some (0, (lX12_waitingNear_5 k v1 v2 (if (fX12_isComing M v4) = 0 then v3 else (if (fX12_isWaiting M v4 v2) = 0 then v3 else (if (M 89 (wr32 ((wr32 (12 + (wr32 (3 * v1)))) + 1))) < (fX12_apart M (M 89 (wr32 (12 + (wr32 (3 * v1))))) (fX12_whereIn M v4 v2)) then v3 else (wr32 (v3 + 1))))) (v4 + 1) M))) M := hQ
    have hs : (¬ ((fX12_isComing M v4) = 0) → (nX12_isWaiting M v4)) ∧ (¬ ((fX12_isComing M v4) = 0) → ¬ ((fX12_isWaiting M v4 v2) = 0) → 0 ≤ (wr32 (12 + (wr32 (3 * v1)))) ∧ (wr32 (12 + (wr32 (3 * v1)))) < 24) ∧ (¬ ((fX12_isComing M v4) = 0) → ¬ ((fX12_isWaiting M v4 v2) = 0) → (nX12_whereIn v4 v2)) ∧ (¬ ((fX12_isComing M v4) = 0) → ¬ ((fX12_isWaiting M v4 v2) = 0) → (nX12_apart M)) ∧ (¬ ((fX12_isComing M v4) = 0) → ¬ ((fX12_isWaiting M v4 v2) = 0) → 0 ≤ (wr32 ((wr32 (12 + (wr32 (3 * v1)))) + 1)) ∧ (wr32 ((wr32 (12 + (wr32 (3 * v1)))) + 1)) < 24) ∧ ((nlX12_waitingNear_5 k v1 v2 (if (fX12_isComing M v4) = 0 then v3 else (if (fX12_isWaiting M v4 v2) = 0 then v3 else (if (M 89 (wr32 ((wr32 (12 + (wr32 (3 * v1)))) + 1))) < (fX12_apart M (M 89 (wr32 (12 + (wr32 (3 * v1))))) (fX12_whereIn M v4 v2)) then v3 else (wr32 (v3 + 1))))) (v4 + 1) M)) := hs
    obtain ⟨n1, n2, n3, n4, n5, n6⟩ := hs
    refine T_iload (i := 4) (pc' := 7) dX12_waitingNear_5 rfl rfl ?_
    refine T_aload_n (i := 0) (pc' := 8) dX12_waitingNear_7 rfl rfl rfl ?_
    refine T_callV (av := []) (st := [(0, v4)]) (d2 := 1) (nc2 := 0) (ns2 := 0) (pc' := 11) dX12_waitingNear_8 rfl mtX12_peopleMany mvX12_peopleMany mlX12_349 cl12 rfl rfl rfl (Nat.le_of_ble_eq_true rfl) (by decide) ⟨by decide, by decide⟩ rfl (pX12_peopleMany (E := E) (h := h) (M := M) hG) (kF (st2 := [(0, (fX12_peopleMany M)), (0, v4)]) rfl (fun hG1 => ?_))
    refine T_rng (fun _ z9 _ => ?_)
    have hB : r32 (fX12_peopleMany M) := (ok_cons.mp z9).1
    unfold r32 at hB
    refine T_icmp_ge (pc' := 80) dX12_waitingNear_11 (by decide) (pf := 14) rfl (fun c2 => ?_) (fun c2 => ?_)
    · exact absurd c2 (by omega)
    · skip
      have hw : wr32 (v4 + 1) = v4 + 1 := wr32_id (by unfold r32; omega)
      refine T_aload_n (i := 0) (pc' := 15) dX12_waitingNear_14 rfl rfl rfl ?_
      refine T_iload (i := 4) (pc' := 17) dX12_waitingNear_15 rfl rfl ?_
      refine T_callV (av := [(0, v4)]) (st := []) (d2 := 3) (nc2 := 0) (ns2 := 0) (pc' := 20) dX12_waitingNear_17 rfl mtX12_isComing mvX12_isComing mlX12_376 cl12 rfl rfl rfl (Nat.le_of_ble_eq_true rfl) (by decide) ⟨by decide, by decide⟩ rfl (pX12_isComing (E := E) (h := h) (M := M) (v1 := v4) hG) (kF (st2 := [(0, (fX12_isComing M v4))]) rfl (fun hG3 => ?_))
      have HJ4 : T E miX12_waitingNear 4 126 0 0 (fun r S M' => S = S0 ∧ G h M' ∧ Q r M') 74 [(2, 66), (0, v1), (0, v2), (0, (if (fX12_isComing M v4) = 0 then v3 else (if (fX12_isWaiting M v4 v2) = 0 then v3 else (if (M 89 (wr32 ((wr32 (12 + (wr32 (3 * v1)))) + 1))) < (fX12_apart M (M 89 (wr32 (12 + (wr32 (3 * v1))))) (fX12_whereIn M v4 v2)) then v3 else (wr32 (v3 + 1)))))), (0, v4)] [] S0 M 0 0 := by
        refine T_iinc (L' := [(2, 66), (0, v1), (0, v2), (0, (if (fX12_isComing M v4) = 0 then v3 else (if (fX12_isWaiting M v4 v2) = 0 then v3 else (if (M 89 (wr32 ((wr32 (12 + (wr32 (3 * v1)))) + 1))) < (fX12_apart M (M 89 (wr32 (12 + (wr32 (3 * v1))))) (fX12_whereIn M v4 v2)) then v3 else (wr32 (v3 + 1)))))), (0, (wr32 (v4 + 1)))]) (pc' := 77) dX12_waitingNear_74 rfl (by decide) rfl rfl ?_
        refine T_goto (pc' := 5) dX12_waitingNear_77 (by decide) ?_
        rw [hw]
        exact T_wk (ih _ _ _ (v4 + 1) _ (by omega) (by omega) (n6) hQ hG) ⟨Or.inr rfl, Or.inr rfl, Or.inr rfl, Or.inr rfl, Or.inr rfl, trivial⟩
      refine T_if_eq (pc' := 74) dX12_waitingNear_20 (by decide) (pf := 23) rfl (fun c5 => ?_) (fun c5 => ?_)
      · skip
        exact T_wk (L' := [(2, 66), (0, v1), (0, v2), (0, v3), (0, v4)]) (by have q := HJ4; try simp only [if_pos c5] at q; exact q) ⟨Or.inr rfl, Or.inr rfl, Or.inr rfl, Or.inr rfl, Or.inr rfl, trivial⟩
      · skip
        refine T_aload_n (i := 0) (pc' := 24) dX12_waitingNear_23 rfl rfl rfl ?_
        refine T_iload (i := 4) (pc' := 26) dX12_waitingNear_24 rfl rfl ?_
        refine T_iload_n (i := 2) (pc' := 27) dX12_waitingNear_26 rfl rfl rfl ?_
        refine T_callV (av := [(0, v4), (0, v2)]) (st := []) (d2 := 1) (nc2 := 0) (ns2 := 0) (pc' := 30) dX12_waitingNear_27 rfl mtX12_isWaiting mvX12_isWaiting mlX12_389 cl12 rfl rfl rfl (Nat.le_of_ble_eq_true rfl) (by decide) ⟨by decide, by decide⟩ rfl (pX12_isWaiting (E := E) (h := h) (M := M) (v1 := v4) (v2 := v2) (n1 c5) hG) (kF (st2 := [(0, (fX12_isWaiting M v4 v2))]) rfl (fun hG6 => ?_))
        refine T_if_eq (pc' := 74) dX12_waitingNear_30 (by decide) (pf := 33) rfl (fun c7 => ?_) (fun c7 => ?_)
        · skip
          exact T_wk (L' := [(2, 66), (0, v1), (0, v2), (0, v3), (0, v4)]) (by have q := HJ4; try simp only [if_neg c5] at q; try simp only [if_pos c7] at q; exact q) ⟨Or.inr rfl, Or.inr rfl, Or.inr rfl, Or.inr rfl, Or.inr rfl, trivial⟩
        · skip
          refine T_aload_n (i := 0) (pc' := 34) dX12_waitingNear_33 rfl rfl rfl ?_
          refine T_aload_n (i := 0) (pc' := 35) dX12_waitingNear_34 rfl rfl rfl ?_
          refine U_gr (q := 89) (k := 32) (kI := 32) (pc' := 38) dX12_waitingNear_35 rfl cl12 (by decide) rfl (by decide) flX12_83 rfl rfl rfl (G_at hG 89 rfl) (by decide) rfl ?_
          refine T_bipush (pc' := 40) dX12_waitingNear_38 rfl (by decide) rfl ?_
          refine T_iconst (pc' := 41) dX12_waitingNear_40 (by decide) rfl ?_
          refine T_iload_n (i := 1) (pc' := 42) dX12_waitingNear_41 rfl rfl rfl ?_
          refine T_imul (pc' := 43) dX12_waitingNear_42 rfl ?_
          refine T_iadd (pc' := 44) dX12_waitingNear_43 rfl ?_
          refine T_iald (pc' := 45) dX12_waitingNear_44 (by decide) rfl (n2 c5 c7).1 (n2 c5 c7).2 rfl ?_
          refine T_aload_n (i := 0) (pc' := 46) dX12_waitingNear_45 rfl rfl rfl ?_
          refine T_iload (i := 4) (pc' := 48) dX12_waitingNear_46 rfl rfl ?_
          refine T_iload_n (i := 2) (pc' := 49) dX12_waitingNear_48 rfl rfl rfl ?_
          refine T_callV (av := [(0, v4), (0, v2)]) (st := [(0, (M 89 (wr32 (12 + (wr32 (3 * v1)))))), (2, 66)]) (d2 := 1) (nc2 := 0) (ns2 := 0) (pc' := 52) dX12_waitingNear_49 rfl mtX12_whereIn mvX12_whereIn mlX12_383 cl12 rfl rfl rfl (Nat.le_of_ble_eq_true rfl) (by decide) ⟨by decide, by decide⟩ rfl (pX12_whereIn (E := E) (h := h) (M := M) (v1 := v4) (v2 := v2) (n3 c5 c7) hG) (kF (st2 := [(0, (fX12_whereIn M v4 v2)), (0, (M 89 (wr32 (12 + (wr32 (3 * v1)))))), (2, 66)]) rfl (fun hG8 => ?_))
          refine T_callV (av := [(0, (M 89 (wr32 (12 + (wr32 (3 * v1)))))), (0, (fX12_whereIn M v4 v2))]) (st := []) (d2 := 2) (nc2 := 0) (ns2 := 0) (pc' := 55) dX12_waitingNear_52 rfl mtX12_apart mvX12_apart mlX12_386 cl12 rfl rfl rfl (Nat.le_of_ble_eq_true rfl) (by decide) ⟨by decide, by decide⟩ rfl (pX12_apart (E := E) (h := h) (M := M) (v1 := (M 89 (wr32 (12 + (wr32 (3 * v1)))))) (v2 := (fX12_whereIn M v4 v2)) (n4 c5 c7) hG) (kF (st2 := [(0, (fX12_apart M (M 89 (wr32 (12 + (wr32 (3 * v1))))) (fX12_whereIn M v4 v2)))]) rfl (fun hG9 => ?_))
          refine T_aload_n (i := 0) (pc' := 56) dX12_waitingNear_55 rfl rfl rfl ?_
          refine U_gr (q := 89) (k := 32) (kI := 32) (pc' := 59) dX12_waitingNear_56 rfl cl12 (by decide) rfl (by decide) flX12_83 rfl rfl rfl (G_at hG 89 rfl) (by decide) rfl ?_
          refine T_bipush (pc' := 61) dX12_waitingNear_59 rfl (by decide) rfl ?_
          refine T_iconst (pc' := 62) dX12_waitingNear_61 (by decide) rfl ?_
          refine T_iload_n (i := 1) (pc' := 63) dX12_waitingNear_62 rfl rfl rfl ?_
          refine T_imul (pc' := 64) dX12_waitingNear_63 rfl ?_
          refine T_iadd (pc' := 65) dX12_waitingNear_64 rfl ?_
          refine T_iconst (pc' := 66) dX12_waitingNear_65 (by decide) rfl ?_
          refine T_iadd (pc' := 67) dX12_waitingNear_66 rfl ?_
          refine T_iald (pc' := 68) dX12_waitingNear_67 (by decide) rfl (n5 c5 c7).1 (n5 c5 c7).2 rfl ?_
          refine T_icmp_gt (pc' := 74) dX12_waitingNear_68 (by decide) (pf := 71) rfl (fun c10 => ?_) (fun c10 => ?_)
          · skip
            exact T_wk (L' := [(2, 66), (0, v1), (0, v2), (0, v3), (0, v4)]) (by have q := HJ4; try simp only [if_neg c5] at q; try simp only [if_neg c7] at q; try simp only [if_pos c10] at q; exact q) ⟨Or.inr rfl, Or.inr rfl, Or.inr rfl, Or.inr rfl, Or.inr rfl, trivial⟩
          · skip
            refine T_iinc (L' := [(2, 66), (0, v1), (0, v2), (0, (wr32 (v3 + 1))), (0, v4)]) (pc' := 74) dX12_waitingNear_71 rfl (by decide) rfl rfl ?_
            exact T_wk (L' := [(2, 66), (0, v1), (0, v2), (0, (wr32 (v3 + 1))), (0, v4)]) (by have q := HJ4; try simp only [if_neg c5] at q; try simp only [if_neg c7] at q; try simp only [if_neg c10] at q; exact q) ⟨Or.inr rfl, Or.inr rfl, Or.inr rfl, Or.inr rfl, Or.inr rfl, trivial⟩
def fX12_waitingNear (M : Mem) (v1 : Int) (v2 : Int) : Int :=
  (lX12_waitingNear_5 ((((fX12_peopleMany M)) : Int) - 0).toNat v1 v2 0 0 M)
def nX12_waitingNear (M : Mem) (v1 : Int) (v2 : Int) : Prop :=
  ((nlX12_waitingNear_5 ((((fX12_peopleMany M)) : Int) - 0).toNat v1 v2 0 0 M))
set_option maxRecDepth 100000 in
theorem pX12_waitingNear {E : EV} {h : Int} {M : Mem} {v1 : Int} {v2 : Int} (hs : (nX12_waitingNear M v1 v2)) : C2 E miX12_waitingNear 4 h [(2, 66), (0, v1), (0, v2)] M (fun r M' => r = some (0, (fX12_waitingNear M v1 v2)) ∧ M' = M) := by
  obtain ⟨Q, hQ0⟩ : ∃ Q : Option MV → Mem → Prop, Q = (fun r M' => r = some (0, (fX12_waitingNear M v1 v2)) ∧ M' = M) := ⟨_, rfl⟩
  rw [← hQ0]
  have hQ : Q (some (0, (lX12_waitingNear_5 ((((fX12_peopleMany M)) : Int) - 0).toNat v1 v2 0 0 M))) M := by rw [hQ0]; exact ⟨rfl, rfl⟩
  have o1 := hs
  refine C2_of (L := [(2, 66), (0, v1), (0, v2), (3, 0), (3, 0)]) (by decide +kernel) (Nat.le_of_ble_eq_true rfl) rfl (fun hG => ?_)
  refine T_iconst (pc' := 1) dX12_waitingNear_0 (by decide) rfl ?_
  refine T_istore_n (i := 3) (L' := [(2, 66), (0, v1), (0, v2), (0, 0), (3, 0)]) (pc' := 2) dX12_waitingNear_1 rfl (by decide) rfl rfl ?_
  refine T_iconst (pc' := 3) dX12_waitingNear_2 (by decide) rfl ?_
  refine T_istore (i := 4) (L' := [(2, 66), (0, v1), (0, v2), (0, 0), (0, 0)]) (pc' := 5) dX12_waitingNear_3 (by decide) rfl rfl ?_
  exact T_wk (qX12_waitingNear_5  _ v1 v2 0 0 _ (by first | decide | omega) rfl (o1) hQ hG) ⟨Or.inr rfl, Or.inr rfl, Or.inr rfl, Or.inr rfl, Or.inr rfl, trivial⟩
def lX12_openMany_4  : Nat → Int → Int → Int → Mem → Int
  | 0, v1, v2, v3, M => v2
  | k + 1, v1, v2, v3, M => (lX12_openMany_4 k v1 (if (fX12_isComing M v3) = 0 then v2 else (if (fX12_isOpen M v3 v1) = 0 then v2 else (wr32 (v2 + 1)))) (v3 + 1) M)
def nlX12_openMany_4  : Nat → Int → Int → Int → Mem → Prop
  | 0, v1, v2, v3, M => True
  | k + 1, v1, v2, v3, M => (¬ ((fX12_isComing M v3) = 0) → (nX12_isOpen M v3 v1)) ∧ ((nlX12_openMany_4 k v1 (if (fX12_isComing M v3) = 0 then v2 else (if (fX12_isOpen M v3 v1) = 0 then v2 else (wr32 (v2 + 1)))) (v3 + 1) M))
set_option maxRecDepth 100000 in
set_option maxHeartbeats 2000000 in
theorem qX12_openMany_4 {E : EV} {h : Int} {Q : Option MV → Mem → Prop}   : ∀ (k : Nat) (v1 v2 v3 : Int) (M : Mem), 0 ≤ v3 → (((fX12_peopleMany M)) - v3).toNat = k → (nlX12_openMany_4 k v1 v2 v3 M) → Q (some (0, (lX12_openMany_4 k v1 v2 v3 M))) M → G h M → TG E miX12_openMany 4 h Q 4 [(2, 66), (0, v1), (0, v2), (0, v3)] [] M := by
  intro k
  induction k with
  | zero =>
    intro v1 v2 v3 M hv0 hk hs hQ hG
    have hQ : Q (some (0, v2)) M := hQ
    have hs : True := hs
    refine T_iload_n (i := 3) (pc' := 5) dX12_openMany_4 rfl rfl rfl ?_
    refine T_aload_n (i := 0) (pc' := 6) dX12_openMany_5 rfl rfl rfl ?_
    refine T_callV (av := []) (st := [(0, v3)]) (d2 := 1) (nc2 := 0) (ns2 := 0) (pc' := 9) dX12_openMany_6 rfl mtX12_peopleMany mvX12_peopleMany mlX12_349 cl12 rfl rfl rfl (Nat.le_of_ble_eq_true rfl) (by decide) ⟨by decide, by decide⟩ rfl (pX12_peopleMany (E := E) (h := h) (M := M) hG) (kF (st2 := [(0, (fX12_peopleMany M)), (0, v3)]) rfl (fun hG1 => ?_))
    refine T_rng (fun _ z9 _ => ?_)
    have hB : r32 (fX12_peopleMany M) := (ok_cons.mp z9).1
    unfold r32 at hB
    refine T_icmp_ge (pc' := 38) dX12_openMany_9 (by decide) (pf := 12) rfl (fun c2 => ?_) (fun c2 => ?_)
    · skip
      refine T_iload_n (i := 2) (pc' := 39) dX12_openMany_38 rfl rfl rfl ?_
      exact T_iret dX12_openMany_39 rfl ⟨rfl, hG, hQ⟩
    · exact absurd c2 (by omega)
  | succ k ih =>
    intro v1 v2 v3 M hv0 hk hs hQ hG
    have hQ : Q (some (0, (lX12_openMany_4 k v1 (if (fX12_isComing M v3) = 0 then v2 else (if (fX12_isOpen M v3 v1) = 0 then v2 else (wr32 (v2 + 1)))) (v3 + 1) M))) M := hQ
    have hs : (¬ ((fX12_isComing M v3) = 0) → (nX12_isOpen M v3 v1)) ∧ ((nlX12_openMany_4 k v1 (if (fX12_isComing M v3) = 0 then v2 else (if (fX12_isOpen M v3 v1) = 0 then v2 else (wr32 (v2 + 1)))) (v3 + 1) M)) := hs
    obtain ⟨n1, n2⟩ := hs
    refine T_iload_n (i := 3) (pc' := 5) dX12_openMany_4 rfl rfl rfl ?_
    refine T_aload_n (i := 0) (pc' := 6) dX12_openMany_5 rfl rfl rfl ?_
    refine T_callV (av := []) (st := [(0, v3)]) (d2 := 1) (nc2 := 0) (ns2 := 0) (pc' := 9) dX12_openMany_6 rfl mtX12_peopleMany mvX12_peopleMany mlX12_349 cl12 rfl rfl rfl (Nat.le_of_ble_eq_true rfl) (by decide) ⟨by decide, by decide⟩ rfl (pX12_peopleMany (E := E) (h := h) (M := M) hG) (kF (st2 := [(0, (fX12_peopleMany M)), (0, v3)]) rfl (fun hG1 => ?_))
    refine T_rng (fun _ z9 _ => ?_)
    have hB : r32 (fX12_peopleMany M) := (ok_cons.mp z9).1
    unfold r32 at hB
    refine T_icmp_ge (pc' := 38) dX12_openMany_9 (by decide) (pf := 12) rfl (fun c2 => ?_) (fun c2 => ?_)
    · exact absurd c2 (by omega)
    · skip
      have hw : wr32 (v3 + 1) = v3 + 1 := wr32_id (by unfold r32; omega)
      refine T_aload_n (i := 0) (pc' := 13) dX12_openMany_12 rfl rfl rfl ?_
      refine T_iload_n (i := 3) (pc' := 14) dX12_openMany_13 rfl rfl rfl ?_
      refine T_callV (av := [(0, v3)]) (st := []) (d2 := 3) (nc2 := 0) (ns2 := 0) (pc' := 17) dX12_openMany_14 rfl mtX12_isComing mvX12_isComing mlX12_376 cl12 rfl rfl rfl (Nat.le_of_ble_eq_true rfl) (by decide) ⟨by decide, by decide⟩ rfl (pX12_isComing (E := E) (h := h) (M := M) (v1 := v3) hG) (kF (st2 := [(0, (fX12_isComing M v3))]) rfl (fun hG3 => ?_))
      have HJ4 : T E miX12_openMany 4 126 0 0 (fun r S M' => S = S0 ∧ G h M' ∧ Q r M') 32 [(2, 66), (0, v1), (0, (if (fX12_isComing M v3) = 0 then v2 else (if (fX12_isOpen M v3 v1) = 0 then v2 else (wr32 (v2 + 1))))), (0, v3)] [] S0 M 0 0 := by
        refine T_iinc (L' := [(2, 66), (0, v1), (0, (if (fX12_isComing M v3) = 0 then v2 else (if (fX12_isOpen M v3 v1) = 0 then v2 else (wr32 (v2 + 1))))), (0, (wr32 (v3 + 1)))]) (pc' := 35) dX12_openMany_32 rfl (by decide) rfl rfl ?_
        refine T_goto (pc' := 4) dX12_openMany_35 (by decide) ?_
        rw [hw]
        exact T_wk (ih _ _ (v3 + 1) _ (by omega) (by omega) (n2) hQ hG) ⟨Or.inr rfl, Or.inr rfl, Or.inr rfl, Or.inr rfl, trivial⟩
      refine T_if_eq (pc' := 32) dX12_openMany_17 (by decide) (pf := 20) rfl (fun c5 => ?_) (fun c5 => ?_)
      · skip
        exact T_wk (L' := [(2, 66), (0, v1), (0, v2), (0, v3)]) (by have q := HJ4; try simp only [if_pos c5] at q; exact q) ⟨Or.inr rfl, Or.inr rfl, Or.inr rfl, Or.inr rfl, trivial⟩
      · skip
        refine T_aload_n (i := 0) (pc' := 21) dX12_openMany_20 rfl rfl rfl ?_
        refine T_iload_n (i := 3) (pc' := 22) dX12_openMany_21 rfl rfl rfl ?_
        refine T_iload_n (i := 1) (pc' := 23) dX12_openMany_22 rfl rfl rfl ?_
        refine T_callV (av := [(0, v3), (0, v1)]) (st := []) (d2 := 2) (nc2 := 0) (ns2 := 0) (pc' := 26) dX12_openMany_23 rfl mtX12_isOpen mvX12_isOpen mlX12_379 cl12 rfl rfl rfl (Nat.le_of_ble_eq_true rfl) (by decide) ⟨by decide, by decide⟩ rfl (pX12_isOpen (E := E) (h := h) (M := M) (v1 := v3) (v2 := v1) (n1 c5) hG) (kF (st2 := [(0, (fX12_isOpen M v3 v1))]) rfl (fun hG6 => ?_))
        refine T_if_eq (pc' := 32) dX12_openMany_26 (by decide) (pf := 29) rfl (fun c7 => ?_) (fun c7 => ?_)
        · skip
          exact T_wk (L' := [(2, 66), (0, v1), (0, v2), (0, v3)]) (by have q := HJ4; try simp only [if_neg c5] at q; try simp only [if_pos c7] at q; exact q) ⟨Or.inr rfl, Or.inr rfl, Or.inr rfl, Or.inr rfl, trivial⟩
        · skip
          refine T_iinc (L' := [(2, 66), (0, v1), (0, (wr32 (v2 + 1))), (0, v3)]) (pc' := 32) dX12_openMany_29 rfl (by decide) rfl rfl ?_
          exact T_wk (L' := [(2, 66), (0, v1), (0, (wr32 (v2 + 1))), (0, v3)]) (by have q := HJ4; try simp only [if_neg c5] at q; try simp only [if_neg c7] at q; exact q) ⟨Or.inr rfl, Or.inr rfl, Or.inr rfl, Or.inr rfl, trivial⟩
def fX12_openMany (M : Mem) (v1 : Int) : Int :=
  (lX12_openMany_4 ((((fX12_peopleMany M)) : Int) - 0).toNat v1 0 0 M)
def nX12_openMany (M : Mem) (v1 : Int) : Prop :=
  ((nlX12_openMany_4 ((((fX12_peopleMany M)) : Int) - 0).toNat v1 0 0 M))
set_option maxRecDepth 100000 in
theorem pX12_openMany {E : EV} {h : Int} {M : Mem} {v1 : Int} (hs : (nX12_openMany M v1)) : C2 E miX12_openMany 4 h [(2, 66), (0, v1)] M (fun r M' => r = some (0, (fX12_openMany M v1)) ∧ M' = M) := by
  obtain ⟨Q, hQ0⟩ : ∃ Q : Option MV → Mem → Prop, Q = (fun r M' => r = some (0, (fX12_openMany M v1)) ∧ M' = M) := ⟨_, rfl⟩
  rw [← hQ0]
  have hQ : Q (some (0, (lX12_openMany_4 ((((fX12_peopleMany M)) : Int) - 0).toNat v1 0 0 M))) M := by rw [hQ0]; exact ⟨rfl, rfl⟩
  have o1 := hs
  refine C2_of (L := [(2, 66), (0, v1), (3, 0), (3, 0)]) (by decide +kernel) (Nat.le_of_ble_eq_true rfl) rfl (fun hG => ?_)
  refine T_iconst (pc' := 1) dX12_openMany_0 (by decide) rfl ?_
  refine T_istore_n (i := 2) (L' := [(2, 66), (0, v1), (0, 0), (3, 0)]) (pc' := 2) dX12_openMany_1 rfl (by decide) rfl rfl ?_
  refine T_iconst (pc' := 3) dX12_openMany_2 (by decide) rfl ?_
  refine T_istore_n (i := 3) (L' := [(2, 66), (0, v1), (0, 0), (0, 0)]) (pc' := 4) dX12_openMany_3 rfl (by decide) rfl rfl ?_
  exact T_wk (qX12_openMany_4  _ v1 0 0 _ (by first | decide | omega) rfl (o1) hQ hG) ⟨Or.inr rfl, Or.inr rfl, Or.inr rfl, Or.inr rfl, trivial⟩
def lX12_wallMany_4  : Nat → Int → Int → Mem → Int
  | 0, v1, v2, M => v1
  | k + 1, v1, v2, M => (lX12_wallMany_4 k (if (fX12_isWallNow M v2) = 0 then v1 else (wr32 (v1 + 1))) (v2 + 1) M)
def nlX12_wallMany_4  : Nat → Int → Int → Mem → Prop
  | 0, v1, v2, M => True
  | k + 1, v1, v2, M => ((nX12_isWallNow v2)) ∧ ((nlX12_wallMany_4 k (if (fX12_isWallNow M v2) = 0 then v1 else (wr32 (v1 + 1))) (v2 + 1) M))
set_option maxRecDepth 100000 in
set_option maxHeartbeats 2000000 in
theorem qX12_wallMany_4 {E : EV} {h : Int} {Q : Option MV → Mem → Prop}   : ∀ (k : Nat) (v1 v2 : Int) (M : Mem), 0 ≤ v2 → (((fX12_cells M)) - v2).toNat = k → (nlX12_wallMany_4 k v1 v2 M) → Q (some (0, (lX12_wallMany_4 k v1 v2 M))) M → G h M → TG E miX12_wallMany 2 h Q 4 [(2, 66), (0, v1), (0, v2)] [] M := by
  intro k
  induction k with
  | zero =>
    intro v1 v2 M hv0 hk hs hQ hG
    have hQ : Q (some (0, v1)) M := hQ
    have hs : True := hs
    refine T_iload_n (i := 2) (pc' := 5) dX12_wallMany_4 rfl rfl rfl ?_
    refine T_aload_n (i := 0) (pc' := 6) dX12_wallMany_5 rfl rfl rfl ?_
    refine T_callV (av := []) (st := [(0, v2)]) (d2 := 1) (nc2 := 0) (ns2 := 0) (pc' := 9) dX12_wallMany_6 rfl mtX12_cells mvX12_cells mlX12_346 cl12 rfl rfl rfl (Nat.le_of_ble_eq_true rfl) (by decide) ⟨by decide, by decide⟩ rfl (pX12_cells (E := E) (h := h) (M := M) hG) (kF (st2 := [(0, (fX12_cells M)), (0, v2)]) rfl (fun hG1 => ?_))
    refine T_rng (fun _ z9 _ => ?_)
    have hB : r32 (fX12_cells M) := (ok_cons.mp z9).1
    unfold r32 at hB
    refine T_icmp_ge (pc' := 29) dX12_wallMany_9 (by decide) (pf := 12) rfl (fun c2 => ?_) (fun c2 => ?_)
    · skip
      refine T_iload_n (i := 1) (pc' := 30) dX12_wallMany_29 rfl rfl rfl ?_
      exact T_iret dX12_wallMany_30 rfl ⟨rfl, hG, hQ⟩
    · exact absurd c2 (by omega)
  | succ k ih =>
    intro v1 v2 M hv0 hk hs hQ hG
    have hQ : Q (some (0, (lX12_wallMany_4 k (if (fX12_isWallNow M v2) = 0 then v1 else (wr32 (v1 + 1))) (v2 + 1) M))) M := hQ
    have hs : ((nX12_isWallNow v2)) ∧ ((nlX12_wallMany_4 k (if (fX12_isWallNow M v2) = 0 then v1 else (wr32 (v1 + 1))) (v2 + 1) M)) := hs
    obtain ⟨n1, n2⟩ := hs
    refine T_iload_n (i := 2) (pc' := 5) dX12_wallMany_4 rfl rfl rfl ?_
    refine T_aload_n (i := 0) (pc' := 6) dX12_wallMany_5 rfl rfl rfl ?_
    refine T_callV (av := []) (st := [(0, v2)]) (d2 := 1) (nc2 := 0) (ns2 := 0) (pc' := 9) dX12_wallMany_6 rfl mtX12_cells mvX12_cells mlX12_346 cl12 rfl rfl rfl (Nat.le_of_ble_eq_true rfl) (by decide) ⟨by decide, by decide⟩ rfl (pX12_cells (E := E) (h := h) (M := M) hG) (kF (st2 := [(0, (fX12_cells M)), (0, v2)]) rfl (fun hG1 => ?_))
    refine T_rng (fun _ z9 _ => ?_)
    have hB : r32 (fX12_cells M) := (ok_cons.mp z9).1
    unfold r32 at hB
    refine T_icmp_ge (pc' := 29) dX12_wallMany_9 (by decide) (pf := 12) rfl (fun c2 => ?_) (fun c2 => ?_)
    · exact absurd c2 (by omega)
    · skip
      have hw : wr32 (v2 + 1) = v2 + 1 := wr32_id (by unfold r32; omega)
      refine T_aload_n (i := 0) (pc' := 13) dX12_wallMany_12 rfl rfl rfl ?_
      refine T_iload_n (i := 2) (pc' := 14) dX12_wallMany_13 rfl rfl rfl ?_
      refine T_callV (av := [(0, v2)]) (st := []) (d2 := 1) (nc2 := 0) (ns2 := 0) (pc' := 17) dX12_wallMany_14 rfl mtX12_isWallNow mvX12_isWallNow mlX12_355 cl12 rfl rfl rfl (Nat.le_of_ble_eq_true rfl) (by decide) ⟨by decide, by decide⟩ rfl (pX12_isWallNow (E := E) (h := h) (M := M) (v1 := v2) (n1) hG) (kF (st2 := [(0, (fX12_isWallNow M v2))]) rfl (fun hG3 => ?_))
      have HJ4 : T E miX12_wallMany 2 126 0 0 (fun r S M' => S = S0 ∧ G h M' ∧ Q r M') 23 [(2, 66), (0, (if (fX12_isWallNow M v2) = 0 then v1 else (wr32 (v1 + 1)))), (0, v2)] [] S0 M 0 0 := by
        refine T_iinc (L' := [(2, 66), (0, (if (fX12_isWallNow M v2) = 0 then v1 else (wr32 (v1 + 1)))), (0, (wr32 (v2 + 1)))]) (pc' := 26) dX12_wallMany_23 rfl (by decide) rfl rfl ?_
        refine T_goto (pc' := 4) dX12_wallMany_26 (by decide) ?_
        rw [hw]
        exact T_wk (ih _ (v2 + 1) _ (by omega) (by omega) (n2) hQ hG) ⟨Or.inr rfl, Or.inr rfl, Or.inr rfl, trivial⟩
      refine T_if_eq (pc' := 23) dX12_wallMany_17 (by decide) (pf := 20) rfl (fun c5 => ?_) (fun c5 => ?_)
      · skip
        exact T_wk (L' := [(2, 66), (0, v1), (0, v2)]) (by have q := HJ4; try simp only [if_pos c5] at q; exact q) ⟨Or.inr rfl, Or.inr rfl, Or.inr rfl, trivial⟩
      · skip
        refine T_iinc (L' := [(2, 66), (0, (wr32 (v1 + 1))), (0, v2)]) (pc' := 23) dX12_wallMany_20 rfl (by decide) rfl rfl ?_
        exact T_wk (L' := [(2, 66), (0, (wr32 (v1 + 1))), (0, v2)]) (by have q := HJ4; try simp only [if_neg c5] at q; exact q) ⟨Or.inr rfl, Or.inr rfl, Or.inr rfl, trivial⟩
def fX12_wallMany (M : Mem) : Int :=
  (lX12_wallMany_4 ((((fX12_cells M)) : Int) - 0).toNat 0 0 M)
def nX12_wallMany (M : Mem) : Prop :=
  ((nlX12_wallMany_4 ((((fX12_cells M)) : Int) - 0).toNat 0 0 M))
set_option maxRecDepth 100000 in
theorem pX12_wallMany {E : EV} {h : Int} {M : Mem}  (hs : (nX12_wallMany M)) : C2 E miX12_wallMany 2 h [(2, 66)] M (fun r M' => r = some (0, (fX12_wallMany M)) ∧ M' = M) := by
  obtain ⟨Q, hQ0⟩ : ∃ Q : Option MV → Mem → Prop, Q = (fun r M' => r = some (0, (fX12_wallMany M)) ∧ M' = M) := ⟨_, rfl⟩
  rw [← hQ0]
  have hQ : Q (some (0, (lX12_wallMany_4 ((((fX12_cells M)) : Int) - 0).toNat 0 0 M))) M := by rw [hQ0]; exact ⟨rfl, rfl⟩
  have o1 := hs
  refine C2_of (L := [(2, 66), (3, 0), (3, 0)]) (by decide +kernel) (Nat.le_of_ble_eq_true rfl) rfl (fun hG => ?_)
  refine T_iconst (pc' := 1) dX12_wallMany_0 (by decide) rfl ?_
  refine T_istore_n (i := 1) (L' := [(2, 66), (0, 0), (3, 0)]) (pc' := 2) dX12_wallMany_1 rfl (by decide) rfl rfl ?_
  refine T_iconst (pc' := 3) dX12_wallMany_2 (by decide) rfl ?_
  refine T_istore_n (i := 2) (L' := [(2, 66), (0, 0), (0, 0)]) (pc' := 4) dX12_wallMany_3 rfl (by decide) rfl rfl ?_
  exact T_wk (qX12_wallMany_4  _ 0 0 _ (by first | decide | omega) rfl (o1) hQ hG) ⟨Or.inr rfl, Or.inr rfl, Or.inr rfl, trivial⟩
def lX12_closedMany_4  : Nat → Int → Int → Mem → Int
  | 0, v1, v2, M => v1
  | k + 1, v1, v2, M => (lX12_closedMany_4 k (wr32 (v1 + (M 92 v2))) (v2 + 1) M)
def nlX12_closedMany_4  : Nat → Int → Int → Mem → Prop
  | 0, v1, v2, M => True
  | k + 1, v1, v2, M => (0 ≤ v2 ∧ v2 < 6) ∧ ((nlX12_closedMany_4 k (wr32 (v1 + (M 92 v2))) (v2 + 1) M))
set_option maxRecDepth 100000 in
set_option maxHeartbeats 2000000 in
theorem qX12_closedMany_4 {E : EV} {h : Int} {Q : Option MV → Mem → Prop}   : ∀ (k : Nat) (v1 v2 : Int) (M : Mem), 0 ≤ v2 → (((fX12_doorMany M)) - v2).toNat = k → (nlX12_closedMany_4 k v1 v2 M) → Q (some (0, (lX12_closedMany_4 k v1 v2 M))) M → G h M → TG E miX12_closedMany 2 h Q 4 [(2, 66), (0, v1), (0, v2)] [] M := by
  intro k
  induction k with
  | zero =>
    intro v1 v2 M hv0 hk hs hQ hG
    have hQ : Q (some (0, v1)) M := hQ
    have hs : True := hs
    refine T_iload_n (i := 2) (pc' := 5) dX12_closedMany_4 rfl rfl rfl ?_
    refine T_aload_n (i := 0) (pc' := 6) dX12_closedMany_5 rfl rfl rfl ?_
    refine T_callV (av := []) (st := [(0, v2)]) (d2 := 1) (nc2 := 0) (ns2 := 0) (pc' := 9) dX12_closedMany_6 rfl mtX12_doorMany mvX12_doorMany mlX12_361 cl12 rfl rfl rfl (Nat.le_of_ble_eq_true rfl) (by decide) ⟨by decide, by decide⟩ rfl (pX12_doorMany (E := E) (h := h) (M := M) hG) (kF (st2 := [(0, (fX12_doorMany M)), (0, v2)]) rfl (fun hG1 => ?_))
    refine T_rng (fun _ z9 _ => ?_)
    have hB : r32 (fX12_doorMany M) := (ok_cons.mp z9).1
    unfold r32 at hB
    refine T_icmp_ge (pc' := 27) dX12_closedMany_9 (by decide) (pf := 12) rfl (fun c2 => ?_) (fun c2 => ?_)
    · skip
      refine T_iload_n (i := 1) (pc' := 28) dX12_closedMany_27 rfl rfl rfl ?_
      exact T_iret dX12_closedMany_28 rfl ⟨rfl, hG, hQ⟩
    · exact absurd c2 (by omega)
  | succ k ih =>
    intro v1 v2 M hv0 hk hs hQ hG
    have hQ : Q (some (0, (lX12_closedMany_4 k (wr32 (v1 + (M 92 v2))) (v2 + 1) M))) M := hQ
    have hs : (0 ≤ v2 ∧ v2 < 6) ∧ ((nlX12_closedMany_4 k (wr32 (v1 + (M 92 v2))) (v2 + 1) M)) := hs
    obtain ⟨n1, n2⟩ := hs
    refine T_iload_n (i := 2) (pc' := 5) dX12_closedMany_4 rfl rfl rfl ?_
    refine T_aload_n (i := 0) (pc' := 6) dX12_closedMany_5 rfl rfl rfl ?_
    refine T_callV (av := []) (st := [(0, v2)]) (d2 := 1) (nc2 := 0) (ns2 := 0) (pc' := 9) dX12_closedMany_6 rfl mtX12_doorMany mvX12_doorMany mlX12_361 cl12 rfl rfl rfl (Nat.le_of_ble_eq_true rfl) (by decide) ⟨by decide, by decide⟩ rfl (pX12_doorMany (E := E) (h := h) (M := M) hG) (kF (st2 := [(0, (fX12_doorMany M)), (0, v2)]) rfl (fun hG1 => ?_))
    refine T_rng (fun _ z9 _ => ?_)
    have hB : r32 (fX12_doorMany M) := (ok_cons.mp z9).1
    unfold r32 at hB
    refine T_icmp_ge (pc' := 27) dX12_closedMany_9 (by decide) (pf := 12) rfl (fun c2 => ?_) (fun c2 => ?_)
    · exact absurd c2 (by omega)
    · skip
      have hw : wr32 (v2 + 1) = v2 + 1 := wr32_id (by unfold r32; omega)
      refine T_iload_n (i := 1) (pc' := 13) dX12_closedMany_12 rfl rfl rfl ?_
      refine T_aload_n (i := 0) (pc' := 14) dX12_closedMany_13 rfl rfl rfl ?_
      refine U_gr (q := 92) (k := 41) (kI := 41) (pc' := 17) dX12_closedMany_14 rfl cl12 (by decide) rfl (by decide) flX12_92 rfl rfl rfl (G_at hG 92 rfl) (by decide) rfl ?_
      refine T_iload_n (i := 2) (pc' := 18) dX12_closedMany_17 rfl rfl rfl ?_
      refine T_iald (pc' := 19) dX12_closedMany_18 (by decide) rfl (n1).1 (n1).2 rfl ?_
      refine T_iadd (pc' := 20) dX12_closedMany_19 rfl ?_
      refine T_istore_n (i := 1) (L' := [(2, 66), (0, (wr32 (v1 + (M 92 v2)))), (0, v2)]) (pc' := 21) dX12_closedMany_20 rfl (by decide) rfl rfl ?_
      refine T_iinc (L' := [(2, 66), (0, (wr32 (v1 + (M 92 v2)))), (0, (wr32 (v2 + 1)))]) (pc' := 24) dX12_closedMany_21 rfl (by decide) rfl rfl ?_
      refine T_goto (pc' := 4) dX12_closedMany_24 (by decide) ?_
      rw [hw]
      exact T_wk (ih _ (v2 + 1) _ (by omega) (by omega) (n2) hQ hG) ⟨Or.inr rfl, Or.inr rfl, Or.inr rfl, trivial⟩
def fX12_closedMany (M : Mem) : Int :=
  (lX12_closedMany_4 ((((fX12_doorMany M)) : Int) - 0).toNat 0 0 M)
def nX12_closedMany (M : Mem) : Prop :=
  ((nlX12_closedMany_4 ((((fX12_doorMany M)) : Int) - 0).toNat 0 0 M))
set_option maxRecDepth 100000 in
theorem pX12_closedMany {E : EV} {h : Int} {M : Mem}  (hs : (nX12_closedMany M)) : C2 E miX12_closedMany 2 h [(2, 66)] M (fun r M' => r = some (0, (fX12_closedMany M)) ∧ M' = M) := by
  obtain ⟨Q, hQ0⟩ : ∃ Q : Option MV → Mem → Prop, Q = (fun r M' => r = some (0, (fX12_closedMany M)) ∧ M' = M) := ⟨_, rfl⟩
  rw [← hQ0]
  have hQ : Q (some (0, (lX12_closedMany_4 ((((fX12_doorMany M)) : Int) - 0).toNat 0 0 M))) M := by rw [hQ0]; exact ⟨rfl, rfl⟩
  have o1 := hs
  refine C2_of (L := [(2, 66), (3, 0), (3, 0)]) (by decide +kernel) (Nat.le_of_ble_eq_true rfl) rfl (fun hG => ?_)
  refine T_iconst (pc' := 1) dX12_closedMany_0 (by decide) rfl ?_
  refine T_istore_n (i := 1) (L' := [(2, 66), (0, 0), (3, 0)]) (pc' := 2) dX12_closedMany_1 rfl (by decide) rfl rfl ?_
  refine T_iconst (pc' := 3) dX12_closedMany_2 (by decide) rfl ?_
  refine T_istore_n (i := 2) (L' := [(2, 66), (0, 0), (0, 0)]) (pc' := 4) dX12_closedMany_3 rfl (by decide) rfl rfl ?_
  exact T_wk (qX12_closedMany_4  _ 0 0 _ (by first | decide | omega) rfl (o1) hQ hG) ⟨Or.inr rfl, Or.inr rfl, Or.inr rfl, trivial⟩
def lX12_outBy_8  : Nat → Int → Int → Int → Int → Int → Mem → Int
  | 0, v1, v2, v3, v4, v5, M => (if v2 = 0 then v3 else v4)
  | k + 1, v1, v2, v3, v4, v5, M => (lX12_outBy_8 k v1 v2 (if (fX12_isComing M v5) = 0 then v3 else (if (M 98 v5) = (-1) then v3 else (if (fX12_whereIn M v5 (M 98 v5)) = (M 90 (wr32 (6 + v1))) then (wr32 (v3 + 1)) else v3))) (if (fX12_isComing M v5) = 0 then v4 else (if (M 98 v5) = (-1) then v4 else (if (fX12_whereIn M v5 (M 98 v5)) = (M 90 (wr32 (6 + v1))) then (if (M 98 v5) ≤ v4 then v4 else (M 98 v5)) else v4))) (v5 + 1) M)
def nlX12_outBy_8  : Nat → Int → Int → Int → Int → Int → Mem → Prop
  | 0, v1, v2, v3, v4, v5, M => True
  | k + 1, v1, v2, v3, v4, v5, M => (¬ ((fX12_isComing M v5) = 0) → 0 ≤ v5 ∧ v5 < 9) ∧ (¬ ((fX12_isComing M v5) = 0) → ¬ ((M 98 v5) = (-1)) → 0 ≤ v5 ∧ v5 < 9) ∧ (¬ ((fX12_isComing M v5) = 0) → ¬ ((M 98 v5) = (-1)) → (nX12_whereIn v5 (M 98 v5))) ∧ (¬ ((fX12_isComing M v5) = 0) → ¬ ((M 98 v5) = (-1)) → 0 ≤ (wr32 (6 + v1)) ∧ (wr32 (6 + v1)) < 12) ∧ (¬ ((fX12_isComing M v5) = 0) → ¬ ((M 98 v5) = (-1)) → (fX12_whereIn M v5 (M 98 v5)) = (M 90 (wr32 (6 + v1))) → 0 ≤ v5 ∧ v5 < 9) ∧ (¬ ((fX12_isComing M v5) = 0) → ¬ ((M 98 v5) = (-1)) → (fX12_whereIn M v5 (M 98 v5)) = (M 90 (wr32 (6 + v1))) → ¬ ((M 98 v5) ≤ v4) → 0 ≤ v5 ∧ v5 < 9) ∧ ((nlX12_outBy_8 k v1 v2 (if (fX12_isComing M v5) = 0 then v3 else (if (M 98 v5) = (-1) then v3 else (if (fX12_whereIn M v5 (M 98 v5)) = (M 90 (wr32 (6 + v1))) then (wr32 (v3 + 1)) else v3))) (if (fX12_isComing M v5) = 0 then v4 else (if (M 98 v5) = (-1) then v4 else (if (fX12_whereIn M v5 (M 98 v5)) = (M 90 (wr32 (6 + v1))) then (if (M 98 v5) ≤ v4 then v4 else (M 98 v5)) else v4))) (v5 + 1) M))
set_option maxRecDepth 100000 in
set_option maxHeartbeats 2000000 in
theorem qX12_outBy_8 {E : EV} {h : Int} {Q : Option MV → Mem → Prop}   : ∀ (k : Nat) (v1 v2 v3 v4 v5 : Int) (M : Mem), 0 ≤ v5 → (((fX12_peopleMany M)) - v5).toNat = k → (nlX12_outBy_8 k v1 v2 v3 v4 v5 M) → Q (some (0, (lX12_outBy_8 k v1 v2 v3 v4 v5 M))) M → G h M → TG E miX12_outBy 4 h Q 8 [(2, 66), (0, v1), (0, v2), (0, v3), (0, v4), (0, v5)] [] M := by
  intro k
  induction k with
  | zero =>
    intro v1 v2 v3 v4 v5 M hv0 hk hs hQ hG
    have hQ : Q (some (0, (if v2 = 0 then v3 else v4))) M := hQ
    have hs : True := hs
    refine T_iload (i := 5) (pc' := 10) dX12_outBy_8 rfl rfl ?_
    refine T_aload_n (i := 0) (pc' := 11) dX12_outBy_10 rfl rfl rfl ?_
    refine T_callV (av := []) (st := [(0, v5)]) (d2 := 1) (nc2 := 0) (ns2 := 0) (pc' := 14) dX12_outBy_11 rfl mtX12_peopleMany mvX12_peopleMany mlX12_349 cl12 rfl rfl rfl (Nat.le_of_ble_eq_true rfl) (by decide) ⟨by decide, by decide⟩ rfl (pX12_peopleMany (E := E) (h := h) (M := M) hG) (kF (st2 := [(0, (fX12_peopleMany M)), (0, v5)]) rfl (fun hG1 => ?_))
    refine T_rng (fun _ z9 _ => ?_)
    have hB : r32 (fX12_peopleMany M) := (ok_cons.mp z9).1
    unfold r32 at hB
    refine T_icmp_ge (pc' := 95) dX12_outBy_14 (by decide) (pf := 17) rfl (fun c2 => ?_) (fun c2 => ?_)
    · skip
      refine T_iload_n (i := 2) (pc' := 96) dX12_outBy_95 rfl rfl rfl ?_
      have HJ3 : T E miX12_outBy 4 126 0 0 (fun r S M' => S = S0 ∧ G h M' ∧ Q r M') 105 [(3, 0), (3, 0), (3, 0), (3, 0), (3, 0), (3, 0)] [(0, (if v2 = 0 then v3 else v4))] S0 M 0 0 := by
        exact T_iret dX12_outBy_105 rfl ⟨rfl, hG, hQ⟩
      refine T_if_eq (pc' := 104) dX12_outBy_96 (by decide) (pf := 99) rfl (fun c4 => ?_) (fun c4 => ?_)
      · skip
        refine T_iload_n (i := 3) (pc' := 105) dX12_outBy_104 rfl rfl rfl ?_
        exact T_wk (L' := [(3, 0), (3, 0), (3, 0), (3, 0), (3, 0), (3, 0)]) (by have q := HJ3; try simp only [if_pos c4] at q; exact q) ⟨Or.inl rfl, Or.inl rfl, Or.inl rfl, Or.inl rfl, Or.inl rfl, Or.inl rfl, trivial⟩
      · skip
        refine T_iload (i := 4) (pc' := 101) dX12_outBy_99 rfl rfl ?_
        refine T_goto (pc' := 105) dX12_outBy_101 (by decide) ?_
        exact T_wk (L' := [(3, 0), (3, 0), (3, 0), (3, 0), (3, 0), (3, 0)]) (by have q := HJ3; try simp only [if_neg c4] at q; exact q) ⟨Or.inl rfl, Or.inl rfl, Or.inl rfl, Or.inl rfl, Or.inl rfl, Or.inl rfl, trivial⟩
    · exact absurd c2 (by omega)
  | succ k ih =>
    intro v1 v2 v3 v4 v5 M hv0 hk hs hQ hG
    have hQ : Q (some (0, (lX12_outBy_8 k v1 v2 (if (fX12_isComing M v5) = 0 then v3 else (if (M 98 v5) = (-1) then v3 else (if (fX12_whereIn M v5 (M 98 v5)) = (M 90 (wr32 (6 + v1))) then (wr32 (v3 + 1)) else v3))) (if (fX12_isComing M v5) = 0 then v4 else (if (M 98 v5) = (-1) then v4 else (if (fX12_whereIn M v5 (M 98 v5)) = (M 90 (wr32 (6 + v1))) then (if (M 98 v5) ≤ v4 then v4 else (M 98 v5)) else v4))) (v5 + 1) M))) M := hQ
    have hs : (¬ ((fX12_isComing M v5) = 0) → 0 ≤ v5 ∧ v5 < 9) ∧ (¬ ((fX12_isComing M v5) = 0) → ¬ ((M 98 v5) = (-1)) → 0 ≤ v5 ∧ v5 < 9) ∧ (¬ ((fX12_isComing M v5) = 0) → ¬ ((M 98 v5) = (-1)) → (nX12_whereIn v5 (M 98 v5))) ∧ (¬ ((fX12_isComing M v5) = 0) → ¬ ((M 98 v5) = (-1)) → 0 ≤ (wr32 (6 + v1)) ∧ (wr32 (6 + v1)) < 12) ∧ (¬ ((fX12_isComing M v5) = 0) → ¬ ((M 98 v5) = (-1)) → (fX12_whereIn M v5 (M 98 v5)) = (M 90 (wr32 (6 + v1))) → 0 ≤ v5 ∧ v5 < 9) ∧ (¬ ((fX12_isComing M v5) = 0) → ¬ ((M 98 v5) = (-1)) → (fX12_whereIn M v5 (M 98 v5)) = (M 90 (wr32 (6 + v1))) → ¬ ((M 98 v5) ≤ v4) → 0 ≤ v5 ∧ v5 < 9) ∧ ((nlX12_outBy_8 k v1 v2 (if (fX12_isComing M v5) = 0 then v3 else (if (M 98 v5) = (-1) then v3 else (if (fX12_whereIn M v5 (M 98 v5)) = (M 90 (wr32 (6 + v1))) then (wr32 (v3 + 1)) else v3))) (if (fX12_isComing M v5) = 0 then v4 else (if (M 98 v5) = (-1) then v4 else (if (fX12_whereIn M v5 (M 98 v5)) = (M 90 (wr32 (6 + v1))) then (if (M 98 v5) ≤ v4 then v4 else (M 98 v5)) else v4))) (v5 + 1) M)) := hs
    obtain ⟨n1, n2, n3, n4, n5, n6, n7⟩ := hs
    refine T_iload (i := 5) (pc' := 10) dX12_outBy_8 rfl rfl ?_
    refine T_aload_n (i := 0) (pc' := 11) dX12_outBy_10 rfl rfl rfl ?_
    refine T_callV (av := []) (st := [(0, v5)]) (d2 := 1) (nc2 := 0) (ns2 := 0) (pc' := 14) dX12_outBy_11 rfl mtX12_peopleMany mvX12_peopleMany mlX12_349 cl12 rfl rfl rfl (Nat.le_of_ble_eq_true rfl) (by decide) ⟨by decide, by decide⟩ rfl (pX12_peopleMany (E := E) (h := h) (M := M) hG) (kF (st2 := [(0, (fX12_peopleMany M)), (0, v5)]) rfl (fun hG1 => ?_))
    refine T_rng (fun _ z9 _ => ?_)
    have hB : r32 (fX12_peopleMany M) := (ok_cons.mp z9).1
    unfold r32 at hB
    refine T_icmp_ge (pc' := 95) dX12_outBy_14 (by decide) (pf := 17) rfl (fun c2 => ?_) (fun c2 => ?_)
    · exact absurd c2 (by omega)
    · skip
      have hw : wr32 (v5 + 1) = v5 + 1 := wr32_id (by unfold r32; omega)
      refine T_aload_n (i := 0) (pc' := 18) dX12_outBy_17 rfl rfl rfl ?_
      refine T_iload (i := 5) (pc' := 20) dX12_outBy_18 rfl rfl ?_
      refine T_callV (av := [(0, v5)]) (st := []) (d2 := 3) (nc2 := 0) (ns2 := 0) (pc' := 23) dX12_outBy_20 rfl mtX12_isComing mvX12_isComing mlX12_376 cl12 rfl rfl rfl (Nat.le_of_ble_eq_true rfl) (by decide) ⟨by decide, by decide⟩ rfl (pX12_isComing (E := E) (h := h) (M := M) (v1 := v5) hG) (kF (st2 := [(0, (fX12_isComing M v5))]) rfl (fun hG5 => ?_))
      have HJ6 : T E miX12_outBy 4 126 0 0 (fun r S M' => S = S0 ∧ G h M' ∧ Q r M') 89 [(2, 66), (0, v1), (0, v2), (0, (if (fX12_isComing M v5) = 0 then v3 else (if (M 98 v5) = (-1) then v3 else (if (fX12_whereIn M v5 (M 98 v5)) = (M 90 (wr32 (6 + v1))) then (wr32 (v3 + 1)) else v3)))), (0, (if (fX12_isComing M v5) = 0 then v4 else (if (M 98 v5) = (-1) then v4 else (if (fX12_whereIn M v5 (M 98 v5)) = (M 90 (wr32 (6 + v1))) then (if (M 98 v5) ≤ v4 then v4 else (M 98 v5)) else v4)))), (0, v5)] [] S0 M 0 0 := by
        refine T_iinc (L' := [(2, 66), (0, v1), (0, v2), (0, (if (fX12_isComing M v5) = 0 then v3 else (if (M 98 v5) = (-1) then v3 else (if (fX12_whereIn M v5 (M 98 v5)) = (M 90 (wr32 (6 + v1))) then (wr32 (v3 + 1)) else v3)))), (0, (if (fX12_isComing M v5) = 0 then v4 else (if (M 98 v5) = (-1) then v4 else (if (fX12_whereIn M v5 (M 98 v5)) = (M 90 (wr32 (6 + v1))) then (if (M 98 v5) ≤ v4 then v4 else (M 98 v5)) else v4)))), (0, (wr32 (v5 + 1)))]) (pc' := 92) dX12_outBy_89 rfl (by decide) rfl rfl ?_
        refine T_goto (pc' := 8) dX12_outBy_92 (by decide) ?_
        rw [hw]
        exact T_wk (ih _ _ _ _ (v5 + 1) _ (by omega) (by omega) (n7) hQ hG) ⟨Or.inr rfl, Or.inr rfl, Or.inr rfl, Or.inr rfl, Or.inr rfl, Or.inr rfl, trivial⟩
      refine T_if_eq (pc' := 89) dX12_outBy_23 (by decide) (pf := 26) rfl (fun c7 => ?_) (fun c7 => ?_)
      · skip
        exact T_wk (L' := [(2, 66), (0, v1), (0, v2), (0, v3), (0, v4), (0, v5)]) (by have q := HJ6; try simp only [if_pos c7] at q; exact q) ⟨Or.inr rfl, Or.inr rfl, Or.inr rfl, Or.inr rfl, Or.inr rfl, Or.inr rfl, trivial⟩
      · skip
        refine T_aload_n (i := 0) (pc' := 27) dX12_outBy_26 rfl rfl rfl ?_
        refine U_gr (q := 98) (k := 48) (kI := 48) (pc' := 30) dX12_outBy_27 rfl cl12 (by decide) rfl (by decide) flX12_110 rfl rfl rfl (G_at hG 98 rfl) (by decide) rfl ?_
        refine T_iload (i := 5) (pc' := 32) dX12_outBy_30 rfl rfl ?_
        refine T_iald (pc' := 33) dX12_outBy_32 (by decide) rfl (n1 c7).1 (n1 c7).2 rfl ?_
        refine T_iconst (pc' := 34) dX12_outBy_33 (by decide) rfl ?_
        refine T_icmp_eq (pc' := 89) dX12_outBy_34 (by decide) (pf := 37) rfl (fun c8 => ?_) (fun c8 => ?_)
        · skip
          exact T_wk (L' := [(2, 66), (0, v1), (0, v2), (0, v3), (0, v4), (0, v5)]) (by have q := HJ6; try simp only [if_neg c7] at q; try simp only [if_pos c8] at q; exact q) ⟨Or.inr rfl, Or.inr rfl, Or.inr rfl, Or.inr rfl, Or.inr rfl, Or.inr rfl, trivial⟩
        · skip
          refine T_aload_n (i := 0) (pc' := 38) dX12_outBy_37 rfl rfl rfl ?_
          refine T_iload (i := 5) (pc' := 40) dX12_outBy_38 rfl rfl ?_
          refine T_aload_n (i := 0) (pc' := 41) dX12_outBy_40 rfl rfl rfl ?_
          refine U_gr (q := 98) (k := 48) (kI := 48) (pc' := 44) dX12_outBy_41 rfl cl12 (by decide) rfl (by decide) flX12_110 rfl rfl rfl (G_at hG 98 rfl) (by decide) rfl ?_
          refine T_iload (i := 5) (pc' := 46) dX12_outBy_44 rfl rfl ?_
          refine T_iald (pc' := 47) dX12_outBy_46 (by decide) rfl (n2 c7 c8).1 (n2 c7 c8).2 rfl ?_
          refine T_callV (av := [(0, v5), (0, (M 98 v5))]) (st := []) (d2 := 1) (nc2 := 0) (ns2 := 0) (pc' := 50) dX12_outBy_47 rfl mtX12_whereIn mvX12_whereIn mlX12_383 cl12 rfl rfl rfl (Nat.le_of_ble_eq_true rfl) (by decide) ⟨by decide, by decide⟩ rfl (pX12_whereIn (E := E) (h := h) (M := M) (v1 := v5) (v2 := (M 98 v5)) (n3 c7 c8) hG) (kF (st2 := [(0, (fX12_whereIn M v5 (M 98 v5)))]) rfl (fun hG9 => ?_))
          refine T_aload_n (i := 0) (pc' := 51) dX12_outBy_50 rfl rfl rfl ?_
          refine U_gr (q := 90) (k := 33) (kI := 33) (pc' := 54) dX12_outBy_51 rfl cl12 (by decide) rfl (by decide) flX12_86 rfl rfl rfl (G_at hG 90 rfl) (by decide) rfl ?_
          refine T_bipush (pc' := 56) dX12_outBy_54 rfl (by decide) rfl ?_
          refine T_iload_n (i := 1) (pc' := 57) dX12_outBy_56 rfl rfl rfl ?_
          refine T_iadd (pc' := 58) dX12_outBy_57 rfl ?_
          refine T_iald (pc' := 59) dX12_outBy_58 (by decide) rfl (n4 c7 c8).1 (n4 c7 c8).2 rfl ?_
          refine T_icmp_eq (pc' := 65) dX12_outBy_59 (by decide) (pf := 62) rfl (fun c10 => ?_) (fun c10 => ?_)
          · skip
            refine T_iinc (L' := [(2, 66), (0, v1), (0, v2), (0, (wr32 (v3 + 1))), (0, v4), (0, v5)]) (pc' := 68) dX12_outBy_65 rfl (by decide) rfl rfl ?_
            refine T_aload_n (i := 0) (pc' := 69) dX12_outBy_68 rfl rfl rfl ?_
            refine U_gr (q := 98) (k := 48) (kI := 48) (pc' := 72) dX12_outBy_69 rfl cl12 (by decide) rfl (by decide) flX12_110 rfl rfl rfl (G_at hG 98 rfl) (by decide) rfl ?_
            refine T_iload (i := 5) (pc' := 74) dX12_outBy_72 rfl rfl ?_
            refine T_iald (pc' := 75) dX12_outBy_74 (by decide) rfl (n5 c7 c8 c10).1 (n5 c7 c8 c10).2 rfl ?_
            refine T_iload (i := 4) (pc' := 77) dX12_outBy_75 rfl rfl ?_
            refine T_icmp_le (pc' := 89) dX12_outBy_77 (by decide) (pf := 80) rfl (fun c11 => ?_) (fun c11 => ?_)
            · skip
              exact T_wk (L' := [(2, 66), (0, v1), (0, v2), (0, (wr32 (v3 + 1))), (0, v4), (0, v5)]) (by have q := HJ6; try simp only [if_neg c7] at q; try simp only [if_neg c8] at q; try simp only [if_pos c10] at q; try simp only [if_pos c11] at q; exact q) ⟨Or.inr rfl, Or.inr rfl, Or.inr rfl, Or.inr rfl, Or.inr rfl, Or.inr rfl, trivial⟩
            · skip
              refine T_aload_n (i := 0) (pc' := 81) dX12_outBy_80 rfl rfl rfl ?_
              refine U_gr (q := 98) (k := 48) (kI := 48) (pc' := 84) dX12_outBy_81 rfl cl12 (by decide) rfl (by decide) flX12_110 rfl rfl rfl (G_at hG 98 rfl) (by decide) rfl ?_
              refine T_iload (i := 5) (pc' := 86) dX12_outBy_84 rfl rfl ?_
              refine T_iald (pc' := 87) dX12_outBy_86 (by decide) rfl (n6 c7 c8 c10 c11).1 (n6 c7 c8 c10 c11).2 rfl ?_
              refine T_istore (i := 4) (L' := [(2, 66), (0, v1), (0, v2), (0, (wr32 (v3 + 1))), (0, (M 98 v5)), (0, v5)]) (pc' := 89) dX12_outBy_87 (by decide) rfl rfl ?_
              exact T_wk (L' := [(2, 66), (0, v1), (0, v2), (0, (wr32 (v3 + 1))), (0, (M 98 v5)), (0, v5)]) (by have q := HJ6; try simp only [if_neg c7] at q; try simp only [if_neg c8] at q; try simp only [if_pos c10] at q; try simp only [if_neg c11] at q; exact q) ⟨Or.inr rfl, Or.inr rfl, Or.inr rfl, Or.inr rfl, Or.inr rfl, Or.inr rfl, trivial⟩
          · skip
            refine T_goto (pc' := 89) dX12_outBy_62 (by decide) ?_
            exact T_wk (L' := [(2, 66), (0, v1), (0, v2), (0, v3), (0, v4), (0, v5)]) (by have q := HJ6; try simp only [if_neg c7] at q; try simp only [if_neg c8] at q; try simp only [if_neg c10] at q; exact q) ⟨Or.inr rfl, Or.inr rfl, Or.inr rfl, Or.inr rfl, Or.inr rfl, Or.inr rfl, trivial⟩
def fX12_outBy (M : Mem) (v1 : Int) (v2 : Int) : Int :=
  (lX12_outBy_8 ((((fX12_peopleMany M)) : Int) - 0).toNat v1 v2 0 (-1) 0 M)
def nX12_outBy (M : Mem) (v1 : Int) (v2 : Int) : Prop :=
  ((nlX12_outBy_8 ((((fX12_peopleMany M)) : Int) - 0).toNat v1 v2 0 (-1) 0 M))
set_option maxRecDepth 100000 in
theorem pX12_outBy {E : EV} {h : Int} {M : Mem} {v1 : Int} {v2 : Int} (hs : (nX12_outBy M v1 v2)) : C2 E miX12_outBy 4 h [(2, 66), (0, v1), (0, v2)] M (fun r M' => r = some (0, (fX12_outBy M v1 v2)) ∧ M' = M) := by
  obtain ⟨Q, hQ0⟩ : ∃ Q : Option MV → Mem → Prop, Q = (fun r M' => r = some (0, (fX12_outBy M v1 v2)) ∧ M' = M) := ⟨_, rfl⟩
  rw [← hQ0]
  have hQ : Q (some (0, (lX12_outBy_8 ((((fX12_peopleMany M)) : Int) - 0).toNat v1 v2 0 (-1) 0 M))) M := by rw [hQ0]; exact ⟨rfl, rfl⟩
  have o1 := hs
  refine C2_of (L := [(2, 66), (0, v1), (0, v2), (3, 0), (3, 0), (3, 0)]) (by decide +kernel) (Nat.le_of_ble_eq_true rfl) rfl (fun hG => ?_)
  refine T_iconst (pc' := 1) dX12_outBy_0 (by decide) rfl ?_
  refine T_istore_n (i := 3) (L' := [(2, 66), (0, v1), (0, v2), (0, 0), (3, 0), (3, 0)]) (pc' := 2) dX12_outBy_1 rfl (by decide) rfl rfl ?_
  refine T_iconst (pc' := 3) dX12_outBy_2 (by decide) rfl ?_
  refine T_istore (i := 4) (L' := [(2, 66), (0, v1), (0, v2), (0, 0), (0, (-1)), (3, 0)]) (pc' := 5) dX12_outBy_3 (by decide) rfl rfl ?_
  refine T_iconst (pc' := 6) dX12_outBy_5 (by decide) rfl ?_
  refine T_istore (i := 5) (L' := [(2, 66), (0, v1), (0, v2), (0, 0), (0, (-1)), (0, 0)]) (pc' := 8) dX12_outBy_6 (by decide) rfl rfl ?_
  exact T_wk (qX12_outBy_8  _ v1 v2 0 (-1) 0 _ (by first | decide | omega) rfl (o1) hQ hG) ⟨Or.inr rfl, Or.inr rfl, Or.inr rfl, Or.inr rfl, Or.inr rfl, Or.inr rfl, trivial⟩
def lX12_passersOpen_4  : Nat → Int → Int → Mem → Int
  | 0, v1, v2, M => v1
  | k + 1, v1, v2, M => (lX12_passersOpen_4 k (if (fX12_isComing M v2) = 0 then v1 else (if (fX12_personOf M v2 4) = 1 then (if (M 96 v2) = (-1) then v1 else (wr32 (v1 + 1))) else v1)) (v2 + 1) M)
def nlX12_passersOpen_4  : Nat → Int → Int → Mem → Prop
  | 0, v1, v2, M => True
  | k + 1, v1, v2, M => (¬ ((fX12_isComing M v2) = 0) → (nX12_personOf v2 4)) ∧ (¬ ((fX12_isComing M v2) = 0) → (fX12_personOf M v2 4) = 1 → 0 ≤ v2 ∧ v2 < 9) ∧ ((nlX12_passersOpen_4 k (if (fX12_isComing M v2) = 0 then v1 else (if (fX12_personOf M v2 4) = 1 then (if (M 96 v2) = (-1) then v1 else (wr32 (v1 + 1))) else v1)) (v2 + 1) M))
set_option maxRecDepth 100000 in
set_option maxHeartbeats 2000000 in
theorem qX12_passersOpen_4 {E : EV} {h : Int} {Q : Option MV → Mem → Prop}   : ∀ (k : Nat) (v1 v2 : Int) (M : Mem), 0 ≤ v2 → (((fX12_peopleMany M)) - v2).toNat = k → (nlX12_passersOpen_4 k v1 v2 M) → Q (some (0, (lX12_passersOpen_4 k v1 v2 M))) M → G h M → TG E miX12_passersOpen 4 h Q 4 [(2, 66), (0, v1), (0, v2)] [] M := by
  intro k
  induction k with
  | zero =>
    intro v1 v2 M hv0 hk hs hQ hG
    have hQ : Q (some (0, v1)) M := hQ
    have hs : True := hs
    refine T_iload_n (i := 2) (pc' := 5) dX12_passersOpen_4 rfl rfl rfl ?_
    refine T_aload_n (i := 0) (pc' := 6) dX12_passersOpen_5 rfl rfl rfl ?_
    refine T_callV (av := []) (st := [(0, v2)]) (d2 := 1) (nc2 := 0) (ns2 := 0) (pc' := 9) dX12_passersOpen_6 rfl mtX12_peopleMany mvX12_peopleMany mlX12_349 cl12 rfl rfl rfl (Nat.le_of_ble_eq_true rfl) (by decide) ⟨by decide, by decide⟩ rfl (pX12_peopleMany (E := E) (h := h) (M := M) hG) (kF (st2 := [(0, (fX12_peopleMany M)), (0, v2)]) rfl (fun hG1 => ?_))
    refine T_rng (fun _ z9 _ => ?_)
    have hB : r32 (fX12_peopleMany M) := (ok_cons.mp z9).1
    unfold r32 at hB
    refine T_icmp_ge (pc' := 49) dX12_passersOpen_9 (by decide) (pf := 12) rfl (fun c2 => ?_) (fun c2 => ?_)
    · skip
      refine T_iload_n (i := 1) (pc' := 50) dX12_passersOpen_49 rfl rfl rfl ?_
      exact T_iret dX12_passersOpen_50 rfl ⟨rfl, hG, hQ⟩
    · exact absurd c2 (by omega)
  | succ k ih =>
    intro v1 v2 M hv0 hk hs hQ hG
    have hQ : Q (some (0, (lX12_passersOpen_4 k (if (fX12_isComing M v2) = 0 then v1 else (if (fX12_personOf M v2 4) = 1 then (if (M 96 v2) = (-1) then v1 else (wr32 (v1 + 1))) else v1)) (v2 + 1) M))) M := hQ
    have hs : (¬ ((fX12_isComing M v2) = 0) → (nX12_personOf v2 4)) ∧ (¬ ((fX12_isComing M v2) = 0) → (fX12_personOf M v2 4) = 1 → 0 ≤ v2 ∧ v2 < 9) ∧ ((nlX12_passersOpen_4 k (if (fX12_isComing M v2) = 0 then v1 else (if (fX12_personOf M v2 4) = 1 then (if (M 96 v2) = (-1) then v1 else (wr32 (v1 + 1))) else v1)) (v2 + 1) M)) := hs
    obtain ⟨n1, n2, n3⟩ := hs
    refine T_iload_n (i := 2) (pc' := 5) dX12_passersOpen_4 rfl rfl rfl ?_
    refine T_aload_n (i := 0) (pc' := 6) dX12_passersOpen_5 rfl rfl rfl ?_
    refine T_callV (av := []) (st := [(0, v2)]) (d2 := 1) (nc2 := 0) (ns2 := 0) (pc' := 9) dX12_passersOpen_6 rfl mtX12_peopleMany mvX12_peopleMany mlX12_349 cl12 rfl rfl rfl (Nat.le_of_ble_eq_true rfl) (by decide) ⟨by decide, by decide⟩ rfl (pX12_peopleMany (E := E) (h := h) (M := M) hG) (kF (st2 := [(0, (fX12_peopleMany M)), (0, v2)]) rfl (fun hG1 => ?_))
    refine T_rng (fun _ z9 _ => ?_)
    have hB : r32 (fX12_peopleMany M) := (ok_cons.mp z9).1
    unfold r32 at hB
    refine T_icmp_ge (pc' := 49) dX12_passersOpen_9 (by decide) (pf := 12) rfl (fun c2 => ?_) (fun c2 => ?_)
    · exact absurd c2 (by omega)
    · skip
      have hw : wr32 (v2 + 1) = v2 + 1 := wr32_id (by unfold r32; omega)
      refine T_aload_n (i := 0) (pc' := 13) dX12_passersOpen_12 rfl rfl rfl ?_
      refine T_iload_n (i := 2) (pc' := 14) dX12_passersOpen_13 rfl rfl rfl ?_
      refine T_callV (av := [(0, v2)]) (st := []) (d2 := 3) (nc2 := 0) (ns2 := 0) (pc' := 17) dX12_passersOpen_14 rfl mtX12_isComing mvX12_isComing mlX12_376 cl12 rfl rfl rfl (Nat.le_of_ble_eq_true rfl) (by decide) ⟨by decide, by decide⟩ rfl (pX12_isComing (E := E) (h := h) (M := M) (v1 := v2) hG) (kF (st2 := [(0, (fX12_isComing M v2))]) rfl (fun hG3 => ?_))
      have HJ4 : T E miX12_passersOpen 4 126 0 0 (fun r S M' => S = S0 ∧ G h M' ∧ Q r M') 43 [(2, 66), (0, (if (fX12_isComing M v2) = 0 then v1 else (if (fX12_personOf M v2 4) = 1 then (if (M 96 v2) = (-1) then v1 else (wr32 (v1 + 1))) else v1))), (0, v2)] [] S0 M 0 0 := by
        refine T_iinc (L' := [(2, 66), (0, (if (fX12_isComing M v2) = 0 then v1 else (if (fX12_personOf M v2 4) = 1 then (if (M 96 v2) = (-1) then v1 else (wr32 (v1 + 1))) else v1))), (0, (wr32 (v2 + 1)))]) (pc' := 46) dX12_passersOpen_43 rfl (by decide) rfl rfl ?_
        refine T_goto (pc' := 4) dX12_passersOpen_46 (by decide) ?_
        rw [hw]
        exact T_wk (ih _ (v2 + 1) _ (by omega) (by omega) (n3) hQ hG) ⟨Or.inr rfl, Or.inr rfl, Or.inr rfl, trivial⟩
      refine T_if_eq (pc' := 43) dX12_passersOpen_17 (by decide) (pf := 20) rfl (fun c5 => ?_) (fun c5 => ?_)
      · skip
        exact T_wk (L' := [(2, 66), (0, v1), (0, v2)]) (by have q := HJ4; try simp only [if_pos c5] at q; exact q) ⟨Or.inr rfl, Or.inr rfl, Or.inr rfl, trivial⟩
      · skip
        refine T_aload_n (i := 0) (pc' := 21) dX12_passersOpen_20 rfl rfl rfl ?_
        refine T_iload_n (i := 2) (pc' := 22) dX12_passersOpen_21 rfl rfl rfl ?_
        refine T_iconst (pc' := 23) dX12_passersOpen_22 (by decide) rfl ?_
        refine T_callV (av := [(0, v2), (0, 4)]) (st := []) (d2 := 1) (nc2 := 0) (ns2 := 0) (pc' := 26) dX12_passersOpen_23 rfl mtX12_personOf mvX12_personOf mlX12_373 cl12 rfl rfl rfl (Nat.le_of_ble_eq_true rfl) (by decide) ⟨by decide, by decide⟩ rfl (pX12_personOf (E := E) (h := h) (M := M) (v1 := v2) (v2 := 4) (n1 c5) hG) (kF (st2 := [(0, (fX12_personOf M v2 4))]) rfl (fun hG6 => ?_))
        refine T_iconst (pc' := 27) dX12_passersOpen_26 (by decide) rfl ?_
        refine T_icmp_ne (pc' := 43) dX12_passersOpen_27 (by decide) (pf := 30) rfl (fun c7 => ?_) (fun c7 => ?_)
        · skip
          exact T_wk (L' := [(2, 66), (0, v1), (0, v2)]) (by have q := HJ4; try simp only [if_neg c5] at q; try simp only [if_neg c7] at q; exact q) ⟨Or.inr rfl, Or.inr rfl, Or.inr rfl, trivial⟩
        · skip
          refine T_aload_n (i := 0) (pc' := 31) dX12_passersOpen_30 rfl rfl rfl ?_
          refine U_gr (q := 96) (k := 46) (kI := 46) (pc' := 34) dX12_passersOpen_31 rfl cl12 (by decide) rfl (by decide) flX12_104 rfl rfl rfl (G_at hG 96 rfl) (by decide) rfl ?_
          refine T_iload_n (i := 2) (pc' := 35) dX12_passersOpen_34 rfl rfl rfl ?_
          refine T_iald (pc' := 36) dX12_passersOpen_35 (by decide) rfl (n2 c5 c7).1 (n2 c5 c7).2 rfl ?_
          refine T_iconst (pc' := 37) dX12_passersOpen_36 (by decide) rfl ?_
          refine T_icmp_eq (pc' := 43) dX12_passersOpen_37 (by decide) (pf := 40) rfl (fun c8 => ?_) (fun c8 => ?_)
          · skip
            exact T_wk (L' := [(2, 66), (0, v1), (0, v2)]) (by have q := HJ4; try simp only [if_neg c5] at q; try simp only [if_pos c7] at q; try simp only [if_pos c8] at q; exact q) ⟨Or.inr rfl, Or.inr rfl, Or.inr rfl, trivial⟩
          · skip
            refine T_iinc (L' := [(2, 66), (0, (wr32 (v1 + 1))), (0, v2)]) (pc' := 43) dX12_passersOpen_40 rfl (by decide) rfl rfl ?_
            exact T_wk (L' := [(2, 66), (0, (wr32 (v1 + 1))), (0, v2)]) (by have q := HJ4; try simp only [if_neg c5] at q; try simp only [if_pos c7] at q; try simp only [if_neg c8] at q; exact q) ⟨Or.inr rfl, Or.inr rfl, Or.inr rfl, trivial⟩
def fX12_passersOpen (M : Mem) : Int :=
  (lX12_passersOpen_4 ((((fX12_peopleMany M)) : Int) - 0).toNat 0 0 M)
def nX12_passersOpen (M : Mem) : Prop :=
  ((nlX12_passersOpen_4 ((((fX12_peopleMany M)) : Int) - 0).toNat 0 0 M))
set_option maxRecDepth 100000 in
theorem pX12_passersOpen {E : EV} {h : Int} {M : Mem}  (hs : (nX12_passersOpen M)) : C2 E miX12_passersOpen 4 h [(2, 66)] M (fun r M' => r = some (0, (fX12_passersOpen M)) ∧ M' = M) := by
  obtain ⟨Q, hQ0⟩ : ∃ Q : Option MV → Mem → Prop, Q = (fun r M' => r = some (0, (fX12_passersOpen M)) ∧ M' = M) := ⟨_, rfl⟩
  rw [← hQ0]
  have hQ : Q (some (0, (lX12_passersOpen_4 ((((fX12_peopleMany M)) : Int) - 0).toNat 0 0 M))) M := by rw [hQ0]; exact ⟨rfl, rfl⟩
  have o1 := hs
  refine C2_of (L := [(2, 66), (3, 0), (3, 0)]) (by decide +kernel) (Nat.le_of_ble_eq_true rfl) rfl (fun hG => ?_)
  refine T_iconst (pc' := 1) dX12_passersOpen_0 (by decide) rfl ?_
  refine T_istore_n (i := 1) (L' := [(2, 66), (0, 0), (3, 0)]) (pc' := 2) dX12_passersOpen_1 rfl (by decide) rfl rfl ?_
  refine T_iconst (pc' := 3) dX12_passersOpen_2 (by decide) rfl ?_
  refine T_istore_n (i := 2) (L' := [(2, 66), (0, 0), (0, 0)]) (pc' := 4) dX12_passersOpen_3 rfl (by decide) rfl rfl ?_
  exact T_wk (qX12_passersOpen_4  _ 0 0 _ (by first | decide | omega) rfl (o1) hQ hG) ⟨Or.inr rfl, Or.inr rfl, Or.inr rfl, trivial⟩
def lX12_lastOut_4  : Nat → Int → Int → Mem → Int
  | 0, v1, v2, M => v1
  | k + 1, v1, v2, M => (lX12_lastOut_4 k (if (fX12_isComing M v2) = 0 then v1 else (if (M 98 v2) ≤ v1 then v1 else (M 98 v2))) (v2 + 1) M)
def nlX12_lastOut_4  : Nat → Int → Int → Mem → Prop
  | 0, v1, v2, M => True
  | k + 1, v1, v2, M => (¬ ((fX12_isComing M v2) = 0) → 0 ≤ v2 ∧ v2 < 9) ∧ (¬ ((fX12_isComing M v2) = 0) → ¬ ((M 98 v2) ≤ v1) → 0 ≤ v2 ∧ v2 < 9) ∧ ((nlX12_lastOut_4 k (if (fX12_isComing M v2) = 0 then v1 else (if (M 98 v2) ≤ v1 then v1 else (M 98 v2))) (v2 + 1) M))
set_option maxRecDepth 100000 in
set_option maxHeartbeats 2000000 in
theorem qX12_lastOut_4 {E : EV} {h : Int} {Q : Option MV → Mem → Prop}   : ∀ (k : Nat) (v1 v2 : Int) (M : Mem), 0 ≤ v2 → (((fX12_peopleMany M)) - v2).toNat = k → (nlX12_lastOut_4 k v1 v2 M) → Q (some (0, (lX12_lastOut_4 k v1 v2 M))) M → G h M → TG E miX12_lastOut 4 h Q 4 [(2, 66), (0, v1), (0, v2)] [] M := by
  intro k
  induction k with
  | zero =>
    intro v1 v2 M hv0 hk hs hQ hG
    have hQ : Q (some (0, v1)) M := hQ
    have hs : True := hs
    refine T_iload_n (i := 2) (pc' := 5) dX12_lastOut_4 rfl rfl rfl ?_
    refine T_aload_n (i := 0) (pc' := 6) dX12_lastOut_5 rfl rfl rfl ?_
    refine T_callV (av := []) (st := [(0, v2)]) (d2 := 1) (nc2 := 0) (ns2 := 0) (pc' := 9) dX12_lastOut_6 rfl mtX12_peopleMany mvX12_peopleMany mlX12_349 cl12 rfl rfl rfl (Nat.le_of_ble_eq_true rfl) (by decide) ⟨by decide, by decide⟩ rfl (pX12_peopleMany (E := E) (h := h) (M := M) hG) (kF (st2 := [(0, (fX12_peopleMany M)), (0, v2)]) rfl (fun hG1 => ?_))
    refine T_rng (fun _ z9 _ => ?_)
    have hB : r32 (fX12_peopleMany M) := (ok_cons.mp z9).1
    unfold r32 at hB
    refine T_icmp_ge (pc' := 43) dX12_lastOut_9 (by decide) (pf := 12) rfl (fun c2 => ?_) (fun c2 => ?_)
    · skip
      refine T_iload_n (i := 1) (pc' := 44) dX12_lastOut_43 rfl rfl rfl ?_
      exact T_iret dX12_lastOut_44 rfl ⟨rfl, hG, hQ⟩
    · exact absurd c2 (by omega)
  | succ k ih =>
    intro v1 v2 M hv0 hk hs hQ hG
    have hQ : Q (some (0, (lX12_lastOut_4 k (if (fX12_isComing M v2) = 0 then v1 else (if (M 98 v2) ≤ v1 then v1 else (M 98 v2))) (v2 + 1) M))) M := hQ
    have hs : (¬ ((fX12_isComing M v2) = 0) → 0 ≤ v2 ∧ v2 < 9) ∧ (¬ ((fX12_isComing M v2) = 0) → ¬ ((M 98 v2) ≤ v1) → 0 ≤ v2 ∧ v2 < 9) ∧ ((nlX12_lastOut_4 k (if (fX12_isComing M v2) = 0 then v1 else (if (M 98 v2) ≤ v1 then v1 else (M 98 v2))) (v2 + 1) M)) := hs
    obtain ⟨n1, n2, n3⟩ := hs
    refine T_iload_n (i := 2) (pc' := 5) dX12_lastOut_4 rfl rfl rfl ?_
    refine T_aload_n (i := 0) (pc' := 6) dX12_lastOut_5 rfl rfl rfl ?_
    refine T_callV (av := []) (st := [(0, v2)]) (d2 := 1) (nc2 := 0) (ns2 := 0) (pc' := 9) dX12_lastOut_6 rfl mtX12_peopleMany mvX12_peopleMany mlX12_349 cl12 rfl rfl rfl (Nat.le_of_ble_eq_true rfl) (by decide) ⟨by decide, by decide⟩ rfl (pX12_peopleMany (E := E) (h := h) (M := M) hG) (kF (st2 := [(0, (fX12_peopleMany M)), (0, v2)]) rfl (fun hG1 => ?_))
    refine T_rng (fun _ z9 _ => ?_)
    have hB : r32 (fX12_peopleMany M) := (ok_cons.mp z9).1
    unfold r32 at hB
    refine T_icmp_ge (pc' := 43) dX12_lastOut_9 (by decide) (pf := 12) rfl (fun c2 => ?_) (fun c2 => ?_)
    · exact absurd c2 (by omega)
    · skip
      have hw : wr32 (v2 + 1) = v2 + 1 := wr32_id (by unfold r32; omega)
      refine T_aload_n (i := 0) (pc' := 13) dX12_lastOut_12 rfl rfl rfl ?_
      refine T_iload_n (i := 2) (pc' := 14) dX12_lastOut_13 rfl rfl rfl ?_
      refine T_callV (av := [(0, v2)]) (st := []) (d2 := 3) (nc2 := 0) (ns2 := 0) (pc' := 17) dX12_lastOut_14 rfl mtX12_isComing mvX12_isComing mlX12_376 cl12 rfl rfl rfl (Nat.le_of_ble_eq_true rfl) (by decide) ⟨by decide, by decide⟩ rfl (pX12_isComing (E := E) (h := h) (M := M) (v1 := v2) hG) (kF (st2 := [(0, (fX12_isComing M v2))]) rfl (fun hG3 => ?_))
      have HJ4 : T E miX12_lastOut 4 126 0 0 (fun r S M' => S = S0 ∧ G h M' ∧ Q r M') 37 [(2, 66), (0, (if (fX12_isComing M v2) = 0 then v1 else (if (M 98 v2) ≤ v1 then v1 else (M 98 v2)))), (0, v2)] [] S0 M 0 0 := by
        refine T_iinc (L' := [(2, 66), (0, (if (fX12_isComing M v2) = 0 then v1 else (if (M 98 v2) ≤ v1 then v1 else (M 98 v2)))), (0, (wr32 (v2 + 1)))]) (pc' := 40) dX12_lastOut_37 rfl (by decide) rfl rfl ?_
        refine T_goto (pc' := 4) dX12_lastOut_40 (by decide) ?_
        rw [hw]
        exact T_wk (ih _ (v2 + 1) _ (by omega) (by omega) (n3) hQ hG) ⟨Or.inr rfl, Or.inr rfl, Or.inr rfl, trivial⟩
      refine T_if_eq (pc' := 37) dX12_lastOut_17 (by decide) (pf := 20) rfl (fun c5 => ?_) (fun c5 => ?_)
      · skip
        exact T_wk (L' := [(2, 66), (0, v1), (0, v2)]) (by have q := HJ4; try simp only [if_pos c5] at q; exact q) ⟨Or.inr rfl, Or.inr rfl, Or.inr rfl, trivial⟩
      · skip
        refine T_aload_n (i := 0) (pc' := 21) dX12_lastOut_20 rfl rfl rfl ?_
        refine U_gr (q := 98) (k := 48) (kI := 48) (pc' := 24) dX12_lastOut_21 rfl cl12 (by decide) rfl (by decide) flX12_110 rfl rfl rfl (G_at hG 98 rfl) (by decide) rfl ?_
        refine T_iload_n (i := 2) (pc' := 25) dX12_lastOut_24 rfl rfl rfl ?_
        refine T_iald (pc' := 26) dX12_lastOut_25 (by decide) rfl (n1 c5).1 (n1 c5).2 rfl ?_
        refine T_iload_n (i := 1) (pc' := 27) dX12_lastOut_26 rfl rfl rfl ?_
        refine T_icmp_le (pc' := 37) dX12_lastOut_27 (by decide) (pf := 30) rfl (fun c6 => ?_) (fun c6 => ?_)
        · skip
          exact T_wk (L' := [(2, 66), (0, v1), (0, v2)]) (by have q := HJ4; try simp only [if_neg c5] at q; try simp only [if_pos c6] at q; exact q) ⟨Or.inr rfl, Or.inr rfl, Or.inr rfl, trivial⟩
        · skip
          refine T_aload_n (i := 0) (pc' := 31) dX12_lastOut_30 rfl rfl rfl ?_
          refine U_gr (q := 98) (k := 48) (kI := 48) (pc' := 34) dX12_lastOut_31 rfl cl12 (by decide) rfl (by decide) flX12_110 rfl rfl rfl (G_at hG 98 rfl) (by decide) rfl ?_
          refine T_iload_n (i := 2) (pc' := 35) dX12_lastOut_34 rfl rfl rfl ?_
          refine T_iald (pc' := 36) dX12_lastOut_35 (by decide) rfl (n2 c5 c6).1 (n2 c5 c6).2 rfl ?_
          refine T_istore_n (i := 1) (L' := [(2, 66), (0, (M 98 v2)), (0, v2)]) (pc' := 37) dX12_lastOut_36 rfl (by decide) rfl rfl ?_
          exact T_wk (L' := [(2, 66), (0, (M 98 v2)), (0, v2)]) (by have q := HJ4; try simp only [if_neg c5] at q; try simp only [if_neg c6] at q; exact q) ⟨Or.inr rfl, Or.inr rfl, Or.inr rfl, trivial⟩
def fX12_lastOut (M : Mem) : Int :=
  (lX12_lastOut_4 ((((fX12_peopleMany M)) : Int) - 0).toNat (-1) 0 M)
def nX12_lastOut (M : Mem) : Prop :=
  ((nlX12_lastOut_4 ((((fX12_peopleMany M)) : Int) - 0).toNat (-1) 0 M))
set_option maxRecDepth 100000 in
theorem pX12_lastOut {E : EV} {h : Int} {M : Mem}  (hs : (nX12_lastOut M)) : C2 E miX12_lastOut 4 h [(2, 66)] M (fun r M' => r = some (0, (fX12_lastOut M)) ∧ M' = M) := by
  obtain ⟨Q, hQ0⟩ : ∃ Q : Option MV → Mem → Prop, Q = (fun r M' => r = some (0, (fX12_lastOut M)) ∧ M' = M) := ⟨_, rfl⟩
  rw [← hQ0]
  have hQ : Q (some (0, (lX12_lastOut_4 ((((fX12_peopleMany M)) : Int) - 0).toNat (-1) 0 M))) M := by rw [hQ0]; exact ⟨rfl, rfl⟩
  have o1 := hs
  refine C2_of (L := [(2, 66), (3, 0), (3, 0)]) (by decide +kernel) (Nat.le_of_ble_eq_true rfl) rfl (fun hG => ?_)
  refine T_iconst (pc' := 1) dX12_lastOut_0 (by decide) rfl ?_
  refine T_istore_n (i := 1) (L' := [(2, 66), (0, (-1)), (3, 0)]) (pc' := 2) dX12_lastOut_1 rfl (by decide) rfl rfl ?_
  refine T_iconst (pc' := 3) dX12_lastOut_2 (by decide) rfl ?_
  refine T_istore_n (i := 2) (L' := [(2, 66), (0, (-1)), (0, 0)]) (pc' := 4) dX12_lastOut_3 rfl (by decide) rfl rfl ?_
  exact T_wk (qX12_lastOut_4  _ (-1) 0 _ (by first | decide | omega) rfl (o1) hQ hG) ⟨Or.inr rfl, Or.inr rfl, Or.inr rfl, trivial⟩
def lX12_openAhead_4  : Nat → Int → Int → Mem → Int
  | 0, v1, v2, M => v1
  | k + 1, v1, v2, M => (lX12_openAhead_4 k (if (fX12_isComing M v2) = 0 then v1 else (if (M 96 v2) = (-1) then v1 else (if (M 91 4) ≤ (M 96 v2) then v1 else (wr32 (v1 + 1))))) (v2 + 1) M)
def nlX12_openAhead_4  : Nat → Int → Int → Mem → Prop
  | 0, v1, v2, M => True
  | k + 1, v1, v2, M => (¬ ((fX12_isComing M v2) = 0) → 0 ≤ v2 ∧ v2 < 9) ∧ (¬ ((fX12_isComing M v2) = 0) → ¬ ((M 96 v2) = (-1)) → 0 ≤ v2 ∧ v2 < 9) ∧ ((nlX12_openAhead_4 k (if (fX12_isComing M v2) = 0 then v1 else (if (M 96 v2) = (-1) then v1 else (if (M 91 4) ≤ (M 96 v2) then v1 else (wr32 (v1 + 1))))) (v2 + 1) M))
set_option maxRecDepth 100000 in
set_option maxHeartbeats 2000000 in
theorem qX12_openAhead_4 {E : EV} {h : Int} {Q : Option MV → Mem → Prop}   : ∀ (k : Nat) (v1 v2 : Int) (M : Mem), 0 ≤ v2 → (((fX12_peopleMany M)) - v2).toNat = k → (nlX12_openAhead_4 k v1 v2 M) → Q (some (0, (lX12_openAhead_4 k v1 v2 M))) M → G h M → TG E miX12_openAhead 4 h Q 4 [(2, 66), (0, v1), (0, v2)] [] M := by
  intro k
  induction k with
  | zero =>
    intro v1 v2 M hv0 hk hs hQ hG
    have hQ : Q (some (0, v1)) M := hQ
    have hs : True := hs
    refine T_iload_n (i := 2) (pc' := 5) dX12_openAhead_4 rfl rfl rfl ?_
    refine T_aload_n (i := 0) (pc' := 6) dX12_openAhead_5 rfl rfl rfl ?_
    refine T_callV (av := []) (st := [(0, v2)]) (d2 := 1) (nc2 := 0) (ns2 := 0) (pc' := 9) dX12_openAhead_6 rfl mtX12_peopleMany mvX12_peopleMany mlX12_349 cl12 rfl rfl rfl (Nat.le_of_ble_eq_true rfl) (by decide) ⟨by decide, by decide⟩ rfl (pX12_peopleMany (E := E) (h := h) (M := M) hG) (kF (st2 := [(0, (fX12_peopleMany M)), (0, v2)]) rfl (fun hG1 => ?_))
    refine T_rng (fun _ z9 _ => ?_)
    have hB : r32 (fX12_peopleMany M) := (ok_cons.mp z9).1
    unfold r32 at hB
    refine T_icmp_ge (pc' := 54) dX12_openAhead_9 (by decide) (pf := 12) rfl (fun c2 => ?_) (fun c2 => ?_)
    · skip
      refine T_iload_n (i := 1) (pc' := 55) dX12_openAhead_54 rfl rfl rfl ?_
      exact T_iret dX12_openAhead_55 rfl ⟨rfl, hG, hQ⟩
    · exact absurd c2 (by omega)
  | succ k ih =>
    intro v1 v2 M hv0 hk hs hQ hG
    have hQ : Q (some (0, (lX12_openAhead_4 k (if (fX12_isComing M v2) = 0 then v1 else (if (M 96 v2) = (-1) then v1 else (if (M 91 4) ≤ (M 96 v2) then v1 else (wr32 (v1 + 1))))) (v2 + 1) M))) M := hQ
    have hs : (¬ ((fX12_isComing M v2) = 0) → 0 ≤ v2 ∧ v2 < 9) ∧ (¬ ((fX12_isComing M v2) = 0) → ¬ ((M 96 v2) = (-1)) → 0 ≤ v2 ∧ v2 < 9) ∧ ((nlX12_openAhead_4 k (if (fX12_isComing M v2) = 0 then v1 else (if (M 96 v2) = (-1) then v1 else (if (M 91 4) ≤ (M 96 v2) then v1 else (wr32 (v1 + 1))))) (v2 + 1) M)) := hs
    obtain ⟨n1, n2, n3⟩ := hs
    refine T_iload_n (i := 2) (pc' := 5) dX12_openAhead_4 rfl rfl rfl ?_
    refine T_aload_n (i := 0) (pc' := 6) dX12_openAhead_5 rfl rfl rfl ?_
    refine T_callV (av := []) (st := [(0, v2)]) (d2 := 1) (nc2 := 0) (ns2 := 0) (pc' := 9) dX12_openAhead_6 rfl mtX12_peopleMany mvX12_peopleMany mlX12_349 cl12 rfl rfl rfl (Nat.le_of_ble_eq_true rfl) (by decide) ⟨by decide, by decide⟩ rfl (pX12_peopleMany (E := E) (h := h) (M := M) hG) (kF (st2 := [(0, (fX12_peopleMany M)), (0, v2)]) rfl (fun hG1 => ?_))
    refine T_rng (fun _ z9 _ => ?_)
    have hB : r32 (fX12_peopleMany M) := (ok_cons.mp z9).1
    unfold r32 at hB
    refine T_icmp_ge (pc' := 54) dX12_openAhead_9 (by decide) (pf := 12) rfl (fun c2 => ?_) (fun c2 => ?_)
    · exact absurd c2 (by omega)
    · skip
      have hw : wr32 (v2 + 1) = v2 + 1 := wr32_id (by unfold r32; omega)
      refine T_aload_n (i := 0) (pc' := 13) dX12_openAhead_12 rfl rfl rfl ?_
      refine T_iload_n (i := 2) (pc' := 14) dX12_openAhead_13 rfl rfl rfl ?_
      refine T_callV (av := [(0, v2)]) (st := []) (d2 := 3) (nc2 := 0) (ns2 := 0) (pc' := 17) dX12_openAhead_14 rfl mtX12_isComing mvX12_isComing mlX12_376 cl12 rfl rfl rfl (Nat.le_of_ble_eq_true rfl) (by decide) ⟨by decide, by decide⟩ rfl (pX12_isComing (E := E) (h := h) (M := M) (v1 := v2) hG) (kF (st2 := [(0, (fX12_isComing M v2))]) rfl (fun hG3 => ?_))
      have HJ4 : T E miX12_openAhead 4 126 0 0 (fun r S M' => S = S0 ∧ G h M' ∧ Q r M') 48 [(2, 66), (0, (if (fX12_isComing M v2) = 0 then v1 else (if (M 96 v2) = (-1) then v1 else (if (M 91 4) ≤ (M 96 v2) then v1 else (wr32 (v1 + 1)))))), (0, v2)] [] S0 M 0 0 := by
        refine T_iinc (L' := [(2, 66), (0, (if (fX12_isComing M v2) = 0 then v1 else (if (M 96 v2) = (-1) then v1 else (if (M 91 4) ≤ (M 96 v2) then v1 else (wr32 (v1 + 1)))))), (0, (wr32 (v2 + 1)))]) (pc' := 51) dX12_openAhead_48 rfl (by decide) rfl rfl ?_
        refine T_goto (pc' := 4) dX12_openAhead_51 (by decide) ?_
        rw [hw]
        exact T_wk (ih _ (v2 + 1) _ (by omega) (by omega) (n3) hQ hG) ⟨Or.inr rfl, Or.inr rfl, Or.inr rfl, trivial⟩
      refine T_if_eq (pc' := 48) dX12_openAhead_17 (by decide) (pf := 20) rfl (fun c5 => ?_) (fun c5 => ?_)
      · skip
        exact T_wk (L' := [(2, 66), (0, v1), (0, v2)]) (by have q := HJ4; try simp only [if_pos c5] at q; exact q) ⟨Or.inr rfl, Or.inr rfl, Or.inr rfl, trivial⟩
      · skip
        refine T_aload_n (i := 0) (pc' := 21) dX12_openAhead_20 rfl rfl rfl ?_
        refine U_gr (q := 96) (k := 46) (kI := 46) (pc' := 24) dX12_openAhead_21 rfl cl12 (by decide) rfl (by decide) flX12_104 rfl rfl rfl (G_at hG 96 rfl) (by decide) rfl ?_
        refine T_iload_n (i := 2) (pc' := 25) dX12_openAhead_24 rfl rfl rfl ?_
        refine T_iald (pc' := 26) dX12_openAhead_25 (by decide) rfl (n1 c5).1 (n1 c5).2 rfl ?_
        refine T_iconst (pc' := 27) dX12_openAhead_26 (by decide) rfl ?_
        refine T_icmp_eq (pc' := 48) dX12_openAhead_27 (by decide) (pf := 30) rfl (fun c6 => ?_) (fun c6 => ?_)
        · skip
          exact T_wk (L' := [(2, 66), (0, v1), (0, v2)]) (by have q := HJ4; try simp only [if_neg c5] at q; try simp only [if_pos c6] at q; exact q) ⟨Or.inr rfl, Or.inr rfl, Or.inr rfl, trivial⟩
        · skip
          refine T_aload_n (i := 0) (pc' := 31) dX12_openAhead_30 rfl rfl rfl ?_
          refine U_gr (q := 96) (k := 46) (kI := 46) (pc' := 34) dX12_openAhead_31 rfl cl12 (by decide) rfl (by decide) flX12_104 rfl rfl rfl (G_at hG 96 rfl) (by decide) rfl ?_
          refine T_iload_n (i := 2) (pc' := 35) dX12_openAhead_34 rfl rfl rfl ?_
          refine T_iald (pc' := 36) dX12_openAhead_35 (by decide) rfl (n2 c5 c6).1 (n2 c5 c6).2 rfl ?_
          refine T_aload_n (i := 0) (pc' := 37) dX12_openAhead_36 rfl rfl rfl ?_
          refine U_gr (q := 91) (k := 34) (kI := 34) (pc' := 40) dX12_openAhead_37 rfl cl12 (by decide) rfl (by decide) flX12_89 rfl rfl rfl (G_at hG 91 rfl) (by decide) rfl ?_
          refine T_iconst (pc' := 41) dX12_openAhead_40 (by decide) rfl ?_
          refine T_iald (pc' := 42) dX12_openAhead_41 (by decide) rfl (by decide) (by decide) rfl ?_
          refine T_icmp_ge (pc' := 48) dX12_openAhead_42 (by decide) (pf := 45) rfl (fun c7 => ?_) (fun c7 => ?_)
          · skip
            exact T_wk (L' := [(2, 66), (0, v1), (0, v2)]) (by have q := HJ4; try simp only [if_neg c5] at q; try simp only [if_neg c6] at q; try simp only [if_pos c7] at q; exact q) ⟨Or.inr rfl, Or.inr rfl, Or.inr rfl, trivial⟩
          · skip
            refine T_iinc (L' := [(2, 66), (0, (wr32 (v1 + 1))), (0, v2)]) (pc' := 48) dX12_openAhead_45 rfl (by decide) rfl rfl ?_
            exact T_wk (L' := [(2, 66), (0, (wr32 (v1 + 1))), (0, v2)]) (by have q := HJ4; try simp only [if_neg c5] at q; try simp only [if_neg c6] at q; try simp only [if_neg c7] at q; exact q) ⟨Or.inr rfl, Or.inr rfl, Or.inr rfl, trivial⟩
def fX12_openAhead (M : Mem) : Int :=
  (lX12_openAhead_4 ((((fX12_peopleMany M)) : Int) - 0).toNat 0 0 M)
def nX12_openAhead (M : Mem) : Prop :=
  ((nlX12_openAhead_4 ((((fX12_peopleMany M)) : Int) - 0).toNat 0 0 M))
set_option maxRecDepth 100000 in
theorem pX12_openAhead {E : EV} {h : Int} {M : Mem}  (hs : (nX12_openAhead M)) : C2 E miX12_openAhead 4 h [(2, 66)] M (fun r M' => r = some (0, (fX12_openAhead M)) ∧ M' = M) := by
  obtain ⟨Q, hQ0⟩ : ∃ Q : Option MV → Mem → Prop, Q = (fun r M' => r = some (0, (fX12_openAhead M)) ∧ M' = M) := ⟨_, rfl⟩
  rw [← hQ0]
  have hQ : Q (some (0, (lX12_openAhead_4 ((((fX12_peopleMany M)) : Int) - 0).toNat 0 0 M))) M := by rw [hQ0]; exact ⟨rfl, rfl⟩
  have o1 := hs
  refine C2_of (L := [(2, 66), (3, 0), (3, 0)]) (by decide +kernel) (Nat.le_of_ble_eq_true rfl) rfl (fun hG => ?_)
  refine T_iconst (pc' := 1) dX12_openAhead_0 (by decide) rfl ?_
  refine T_istore_n (i := 1) (L' := [(2, 66), (0, 0), (3, 0)]) (pc' := 2) dX12_openAhead_1 rfl (by decide) rfl rfl ?_
  refine T_iconst (pc' := 3) dX12_openAhead_2 (by decide) rfl ?_
  refine T_istore_n (i := 2) (L' := [(2, 66), (0, 0), (0, 0)]) (pc' := 4) dX12_openAhead_3 rfl (by decide) rfl rfl ?_
  exact T_wk (qX12_openAhead_4  _ 0 0 _ (by first | decide | omega) rfl (o1) hQ hG) ⟨Or.inr rfl, Or.inr rfl, Or.inr rfl, trivial⟩
def lX12_qHasSquare_2  : Nat → Int → Mem → Int
  | 0, v1, M => 0
  | k + 1, v1, M => (if (M 123 v1) = 25 then 1 else (lX12_qHasSquare_2 k (v1 + 1) M))
def nlX12_qHasSquare_2  : Nat → Int → Mem → Prop
  | 0, v1, M => True
  | k + 1, v1, M => (0 ≤ v1 ∧ v1 < 1700) ∧ (¬ ((M 123 v1) = 25) → (nlX12_qHasSquare_2 k (v1 + 1) M))
set_option maxRecDepth 100000 in
set_option maxHeartbeats 2000000 in
theorem qX12_qHasSquare_2 {E : EV} {h : Int} {Q : Option MV → Mem → Prop}   : ∀ (k : Nat) (v1 : Int) (M : Mem), 0 ≤ v1 → (((M 66 81)) - v1).toNat = k → (nlX12_qHasSquare_2 k v1 M) → Q (some (0, (lX12_qHasSquare_2 k v1 M))) M → G h M → TG E miX12_qHasSquare 1 h Q 2 [(2, 66), (0, v1)] [] M := by
  intro k
  induction k with
  | zero =>
    intro v1 M hv0 hk hs hQ hG
    have hQ : Q (some (0, 0)) M := hQ
    have hs : True := hs
    refine T_iload_n (i := 1) (pc' := 3) dX12_qHasSquare_2 rfl rfl rfl ?_
    refine T_aload_n (i := 0) (pc' := 4) dX12_qHasSquare_3 rfl rfl rfl ?_
    refine U_gf (v := (0, (M 66 81))) (k := 81) (kI := 81) (pc' := 7) dX12_qHasSquare_4 rfl cl12 (by decide) rfl (by decide) flX12_523 rfl rfl (by decide) rfl rfl ?_
    refine T_rng (fun _ z9 _ => ?_)
    have hB : r32 (M 66 81) := (ok_cons.mp z9).1
    unfold r32 at hB
    refine T_icmp_ge (pc' := 29) dX12_qHasSquare_7 (by decide) (pf := 10) rfl (fun c1 => ?_) (fun c1 => ?_)
    · skip
      refine T_iconst (pc' := 30) dX12_qHasSquare_29 (by decide) rfl ?_
      exact T_zret dX12_qHasSquare_30 rfl (by decide) ⟨rfl, hG, hQ⟩
    · exact absurd c1 (by omega)
  | succ k ih =>
    intro v1 M hv0 hk hs hQ hG
    have hQ : Q (some (0, (if (M 123 v1) = 25 then 1 else (lX12_qHasSquare_2 k (v1 + 1) M)))) M := hQ
    have hs : (0 ≤ v1 ∧ v1 < 1700) ∧ (¬ ((M 123 v1) = 25) → (nlX12_qHasSquare_2 k (v1 + 1) M)) := hs
    obtain ⟨n1, n2⟩ := hs
    refine T_iload_n (i := 1) (pc' := 3) dX12_qHasSquare_2 rfl rfl rfl ?_
    refine T_aload_n (i := 0) (pc' := 4) dX12_qHasSquare_3 rfl rfl rfl ?_
    refine U_gf (v := (0, (M 66 81))) (k := 81) (kI := 81) (pc' := 7) dX12_qHasSquare_4 rfl cl12 (by decide) rfl (by decide) flX12_523 rfl rfl (by decide) rfl rfl ?_
    refine T_rng (fun _ z9 _ => ?_)
    have hB : r32 (M 66 81) := (ok_cons.mp z9).1
    unfold r32 at hB
    refine T_icmp_ge (pc' := 29) dX12_qHasSquare_7 (by decide) (pf := 10) rfl (fun c1 => ?_) (fun c1 => ?_)
    · exact absurd c1 (by omega)
    · skip
      have hw : wr32 (v1 + 1) = v1 + 1 := wr32_id (by unfold r32; omega)
      refine T_aload_n (i := 0) (pc' := 11) dX12_qHasSquare_10 rfl rfl rfl ?_
      refine U_gr (q := 123) (k := 80) (kI := 80) (pc' := 14) dX12_qHasSquare_11 rfl cl12 (by decide) rfl (by decide) flX12_189 rfl rfl rfl (G_at hG 123 rfl) (by decide) rfl ?_
      refine T_iload_n (i := 1) (pc' := 15) dX12_qHasSquare_14 rfl rfl rfl ?_
      refine T_iald (pc' := 16) dX12_qHasSquare_15 (by decide) rfl (n1).1 (n1).2 rfl ?_
      refine T_bipush (pc' := 18) dX12_qHasSquare_16 rfl (by decide) rfl ?_
      refine T_icmp_ne (pc' := 23) dX12_qHasSquare_18 (by decide) (pf := 21) rfl (fun c2 => ?_) (fun c2 => ?_)
      · skip
        refine T_iinc (L' := [(2, 66), (0, (wr32 (v1 + 1)))]) (pc' := 26) dX12_qHasSquare_23 rfl (by decide) rfl rfl ?_
        refine T_goto (pc' := 2) dX12_qHasSquare_26 (by decide) ?_
        rw [hw]
        exact T_wk (ih (v1 + 1) _ (by omega) (by omega) (n2 c2) (by have q := hQ; try simp only [if_neg c2] at q; exact q) hG) ⟨Or.inr rfl, Or.inr rfl, trivial⟩
      · skip
        refine T_iconst (pc' := 22) dX12_qHasSquare_21 (by decide) rfl ?_
        exact T_zret dX12_qHasSquare_22 rfl (by decide) ⟨rfl, hG, (by have q := hQ; try simp only [if_pos c2] at q; exact q)⟩
def fX12_qHasSquare (M : Mem) : Int :=
  (lX12_qHasSquare_2 ((((M 66 81)) : Int) - 0).toNat 0 M)
def nX12_qHasSquare (M : Mem) : Prop :=
  ((nlX12_qHasSquare_2 ((((M 66 81)) : Int) - 0).toNat 0 M))
set_option maxRecDepth 100000 in
theorem pX12_qHasSquare {E : EV} {h : Int} {M : Mem}  (hs : (nX12_qHasSquare M)) : C2 E miX12_qHasSquare 1 h [(2, 66)] M (fun r M' => r = some (0, (fX12_qHasSquare M)) ∧ M' = M) := by
  obtain ⟨Q, hQ0⟩ : ∃ Q : Option MV → Mem → Prop, Q = (fun r M' => r = some (0, (fX12_qHasSquare M)) ∧ M' = M) := ⟨_, rfl⟩
  rw [← hQ0]
  have hQ : Q (some (0, (lX12_qHasSquare_2 ((((M 66 81)) : Int) - 0).toNat 0 M))) M := by rw [hQ0]; exact ⟨rfl, rfl⟩
  have o1 := hs
  refine C2_of (L := [(2, 66), (3, 0)]) (by decide +kernel) (Nat.le_of_ble_eq_true rfl) rfl (fun hG => ?_)
  refine T_iconst (pc' := 1) dX12_qHasSquare_0 (by decide) rfl ?_
  refine T_istore_n (i := 1) (L' := [(2, 66), (0, 0)]) (pc' := 2) dX12_qHasSquare_1 rfl (by decide) rfl rfl ?_
  exact T_wk (qX12_qHasSquare_2  _ 0 _ (by first | decide | omega) rfl (o1) hQ hG) ⟨Or.inr rfl, Or.inr rfl, trivial⟩
def lX12_qDoing_5  : Nat → Int → Int → Int → Int → Mem → Int
  | 0, v1, v2, v3, v4, M => v3
  | k + 1, v1, v2, v3, v4, M => (lX12_qDoing_5 k v1 v2 (if (fX12_qDoes M v4 v2) = v1 then (wr32 (v3 + 1)) else v3) (v4 + 1) M)
def nlX12_qDoing_5  : Nat → Int → Int → Int → Int → Mem → Prop
  | 0, v1, v2, v3, v4, M => True
  | k + 1, v1, v2, v3, v4, M => ((nX12_qDoes M v4 v2)) ∧ ((nlX12_qDoing_5 k v1 v2 (if (fX12_qDoes M v4 v2) = v1 then (wr32 (v3 + 1)) else v3) (v4 + 1) M))
set_option maxRecDepth 100000 in
set_option maxHeartbeats 2000000 in
theorem qX12_qDoing_5 {E : EV} {h : Int} {Q : Option MV → Mem → Prop}   : ∀ (k : Nat) (v1 v2 v3 v4 : Int) (M : Mem), 0 ≤ v4 → (((fX12_peopleMany M)) - v4).toNat = k → (nlX12_qDoing_5 k v1 v2 v3 v4 M) → Q (some (1, (lX12_qDoing_5 k v1 v2 v3 v4 M))) M → G h M → TG E miX12_qDoing 5 h Q 5 [(2, 66), (0, v1), (0, v2), (0, v3), (0, v4)] [] M := by
  intro k
  induction k with
  | zero =>
    intro v1 v2 v3 v4 M hv0 hk hs hQ hG
    have hQ : Q (some (1, v3)) M := hQ
    have hs : True := hs
    refine T_iload (i := 4) (pc' := 7) dX12_qDoing_5 rfl rfl ?_
    refine T_aload_n (i := 0) (pc' := 8) dX12_qDoing_7 rfl rfl rfl ?_
    refine T_callV (av := []) (st := [(0, v4)]) (d2 := 1) (nc2 := 0) (ns2 := 0) (pc' := 11) dX12_qDoing_8 rfl mtX12_peopleMany mvX12_peopleMany mlX12_349 cl12 rfl rfl rfl (Nat.le_of_ble_eq_true rfl) (by decide) ⟨by decide, by decide⟩ rfl (pX12_peopleMany (E := E) (h := h) (M := M) hG) (kF (st2 := [(0, (fX12_peopleMany M)), (0, v4)]) rfl (fun hG1 => ?_))
    refine T_rng (fun _ z9 _ => ?_)
    have hB : r32 (fX12_peopleMany M) := (ok_cons.mp z9).1
    unfold r32 at hB
    refine T_icmp_ge (pc' := 34) dX12_qDoing_11 (by decide) (pf := 14) rfl (fun c2 => ?_) (fun c2 => ?_)
    · skip
      refine T_iload_n (i := 3) (pc' := 35) dX12_qDoing_34 rfl rfl rfl ?_
      refine T_i2l (pc' := 36) dX12_qDoing_35 rfl ?_
      exact T_lret dX12_qDoing_36 rfl ⟨rfl, hG, hQ⟩
    · exact absurd c2 (by omega)
  | succ k ih =>
    intro v1 v2 v3 v4 M hv0 hk hs hQ hG
    have hQ : Q (some (1, (lX12_qDoing_5 k v1 v2 (if (fX12_qDoes M v4 v2) = v1 then (wr32 (v3 + 1)) else v3) (v4 + 1) M))) M := hQ
    have hs : ((nX12_qDoes M v4 v2)) ∧ ((nlX12_qDoing_5 k v1 v2 (if (fX12_qDoes M v4 v2) = v1 then (wr32 (v3 + 1)) else v3) (v4 + 1) M)) := hs
    obtain ⟨n1, n2⟩ := hs
    refine T_iload (i := 4) (pc' := 7) dX12_qDoing_5 rfl rfl ?_
    refine T_aload_n (i := 0) (pc' := 8) dX12_qDoing_7 rfl rfl rfl ?_
    refine T_callV (av := []) (st := [(0, v4)]) (d2 := 1) (nc2 := 0) (ns2 := 0) (pc' := 11) dX12_qDoing_8 rfl mtX12_peopleMany mvX12_peopleMany mlX12_349 cl12 rfl rfl rfl (Nat.le_of_ble_eq_true rfl) (by decide) ⟨by decide, by decide⟩ rfl (pX12_peopleMany (E := E) (h := h) (M := M) hG) (kF (st2 := [(0, (fX12_peopleMany M)), (0, v4)]) rfl (fun hG1 => ?_))
    refine T_rng (fun _ z9 _ => ?_)
    have hB : r32 (fX12_peopleMany M) := (ok_cons.mp z9).1
    unfold r32 at hB
    refine T_icmp_ge (pc' := 34) dX12_qDoing_11 (by decide) (pf := 14) rfl (fun c2 => ?_) (fun c2 => ?_)
    · exact absurd c2 (by omega)
    · skip
      have hw : wr32 (v4 + 1) = v4 + 1 := wr32_id (by unfold r32; omega)
      refine T_aload_n (i := 0) (pc' := 15) dX12_qDoing_14 rfl rfl rfl ?_
      refine T_iload (i := 4) (pc' := 17) dX12_qDoing_15 rfl rfl ?_
      refine T_iload_n (i := 2) (pc' := 18) dX12_qDoing_17 rfl rfl rfl ?_
      refine T_callV (av := [(0, v4), (0, v2)]) (st := []) (d2 := 4) (nc2 := 0) (ns2 := 0) (pc' := 21) dX12_qDoing_18 rfl mtX12_qDoes mvX12_qDoes mlX12_606 cl12 rfl rfl rfl (Nat.le_of_ble_eq_true rfl) (by decide) ⟨by decide, by decide⟩ rfl (pX12_qDoes (E := E) (h := h) (M := M) (v1 := v4) (v2 := v2) (n1) hG) (kF (st2 := [(0, (fX12_qDoes M v4 v2))]) rfl (fun hG3 => ?_))
      refine T_iload_n (i := 1) (pc' := 22) dX12_qDoing_21 rfl rfl rfl ?_
      have HJ4 : T E miX12_qDoing 5 126 0 0 (fun r S M' => S = S0 ∧ G h M' ∧ Q r M') 28 [(2, 66), (0, v1), (0, v2), (0, (if (fX12_qDoes M v4 v2) = v1 then (wr32 (v3 + 1)) else v3)), (0, v4)] [] S0 M 0 0 := by
        refine T_iinc (L' := [(2, 66), (0, v1), (0, v2), (0, (if (fX12_qDoes M v4 v2) = v1 then (wr32 (v3 + 1)) else v3)), (0, (wr32 (v4 + 1)))]) (pc' := 31) dX12_qDoing_28 rfl (by decide) rfl rfl ?_
        refine T_goto (pc' := 5) dX12_qDoing_31 (by decide) ?_
        rw [hw]
        exact T_wk (ih _ _ _ (v4 + 1) _ (by omega) (by omega) (n2) hQ hG) ⟨Or.inr rfl, Or.inr rfl, Or.inr rfl, Or.inr rfl, Or.inr rfl, trivial⟩
      refine T_icmp_ne (pc' := 28) dX12_qDoing_22 (by decide) (pf := 25) rfl (fun c5 => ?_) (fun c5 => ?_)
      · skip
        exact T_wk (L' := [(2, 66), (0, v1), (0, v2), (0, v3), (0, v4)]) (by have q := HJ4; try simp only [if_neg c5] at q; exact q) ⟨Or.inr rfl, Or.inr rfl, Or.inr rfl, Or.inr rfl, Or.inr rfl, trivial⟩
      · skip
        refine T_iinc (L' := [(2, 66), (0, v1), (0, v2), (0, (wr32 (v3 + 1))), (0, v4)]) (pc' := 28) dX12_qDoing_25 rfl (by decide) rfl rfl ?_
        exact T_wk (L' := [(2, 66), (0, v1), (0, v2), (0, (wr32 (v3 + 1))), (0, v4)]) (by have q := HJ4; try simp only [if_pos c5] at q; exact q) ⟨Or.inr rfl, Or.inr rfl, Or.inr rfl, Or.inr rfl, Or.inr rfl, trivial⟩
def fX12_qDoing (M : Mem) (v1 : Int) (v2 : Int) : Int :=
  (lX12_qDoing_5 ((((fX12_peopleMany M)) : Int) - 0).toNat v1 v2 0 0 M)
def nX12_qDoing (M : Mem) (v1 : Int) (v2 : Int) : Prop :=
  ((nlX12_qDoing_5 ((((fX12_peopleMany M)) : Int) - 0).toNat v1 v2 0 0 M))
set_option maxRecDepth 100000 in
theorem pX12_qDoing {E : EV} {h : Int} {M : Mem} {v1 : Int} {v2 : Int} (hs : (nX12_qDoing M v1 v2)) : C2 E miX12_qDoing 5 h [(2, 66), (0, v1), (0, v2)] M (fun r M' => r = some (1, (fX12_qDoing M v1 v2)) ∧ M' = M) := by
  obtain ⟨Q, hQ0⟩ : ∃ Q : Option MV → Mem → Prop, Q = (fun r M' => r = some (1, (fX12_qDoing M v1 v2)) ∧ M' = M) := ⟨_, rfl⟩
  rw [← hQ0]
  have hQ : Q (some (1, (lX12_qDoing_5 ((((fX12_peopleMany M)) : Int) - 0).toNat v1 v2 0 0 M))) M := by rw [hQ0]; exact ⟨rfl, rfl⟩
  have o1 := hs
  refine C2_of (L := [(2, 66), (0, v1), (0, v2), (3, 0), (3, 0)]) (by decide +kernel) (Nat.le_of_ble_eq_true rfl) rfl (fun hG => ?_)
  refine T_iconst (pc' := 1) dX12_qDoing_0 (by decide) rfl ?_
  refine T_istore_n (i := 3) (L' := [(2, 66), (0, v1), (0, v2), (0, 0), (3, 0)]) (pc' := 2) dX12_qDoing_1 rfl (by decide) rfl rfl ?_
  refine T_iconst (pc' := 3) dX12_qDoing_2 (by decide) rfl ?_
  refine T_istore (i := 4) (L' := [(2, 66), (0, v1), (0, v2), (0, 0), (0, 0)]) (pc' := 5) dX12_qDoing_3 (by decide) rfl rfl ?_
  exact T_wk (qX12_qDoing_5  _ v1 v2 0 0 _ (by first | decide | omega) rfl (o1) hQ hG) ⟨Or.inr rfl, Or.inr rfl, Or.inr rfl, Or.inr rfl, Or.inr rfl, trivial⟩
def lX12_checked_6 (p0 : Int) (np0 : Nat) : Nat → Int → Int → Int → Mem → Int
  | 0, v1, v2, v3, M => v2
  | k + 1, v1, v2, v3, M => (lX12_checked_6 p0 np0 k v1 (Int.tmod (wr32 ((wr32 (3 * v2)) + (M p0 v3))) 253) (v3 + 1) M)
def nlX12_checked_6 (p0 : Int) (np0 : Nat) : Nat → Int → Int → Int → Mem → Prop
  | 0, v1, v2, v3, M => True
  | k + 1, v1, v2, v3, M => (0 ≤ v3 ∧ v3 < np0) ∧ ((nlX12_checked_6 p0 np0 k v1 (Int.tmod (wr32 ((wr32 (3 * v2)) + (M p0 v3))) 253) (v3 + 1) M))
set_option maxRecDepth 100000 in
set_option maxHeartbeats 2000000 in
theorem qX12_checked_6 {E : EV} {h : Int} {Q : Option MV → Mem → Prop} {p0 : Int} {np0 : Nat} (h0p0 : 0 ≤ p0) (hSp0 : S0[p0.toNat]? = some (0, 0, np0)) (hnp0 : np0 < 2147483648) : ∀ (k : Nat) (v1 v2 v3 : Int) (M : Mem), 0 ≤ v3 → ((v1) - v3).toNat = k → (nlX12_checked_6 p0 np0 k v1 v2 v3 M) → Q (some (0, (lX12_checked_6 p0 np0 k v1 v2 v3 M))) M → G h M → TG E miX12_checked 1 h Q 6 [(2, p0), (0, v1), (0, v2), (0, v3)] [] M := by
  intro k
  induction k with
  | zero =>
    intro v1 v2 v3 M hv0 hk hs hQ hG
    have hQ : Q (some (0, v2)) M := hQ
    have hs : True := hs
    refine T_iload_n (i := 3) (pc' := 7) dX12_checked_6 rfl rfl rfl ?_
    refine T_iload_n (i := 1) (pc' := 8) dX12_checked_7 rfl rfl rfl ?_
    refine T_rng (fun _ z9 _ => ?_)
    have hB : r32 v1 := (ok_cons.mp z9).1
    unfold r32 at hB
    refine T_icmp_ge (pc' := 29) dX12_checked_8 (by decide) (pf := 11) rfl (fun c1 => ?_) (fun c1 => ?_)
    · skip
      refine T_iload_n (i := 2) (pc' := 30) dX12_checked_29 rfl rfl rfl ?_
      exact T_iret dX12_checked_30 rfl ⟨rfl, hG, hQ⟩
    · exact absurd c1 (by omega)
  | succ k ih =>
    intro v1 v2 v3 M hv0 hk hs hQ hG
    have hQ : Q (some (0, (lX12_checked_6 p0 np0 k v1 (Int.tmod (wr32 ((wr32 (3 * v2)) + (M p0 v3))) 253) (v3 + 1) M))) M := hQ
    have hs : (0 ≤ v3 ∧ v3 < np0) ∧ ((nlX12_checked_6 p0 np0 k v1 (Int.tmod (wr32 ((wr32 (3 * v2)) + (M p0 v3))) 253) (v3 + 1) M)) := hs
    obtain ⟨n1, n2⟩ := hs
    refine T_iload_n (i := 3) (pc' := 7) dX12_checked_6 rfl rfl rfl ?_
    refine T_iload_n (i := 1) (pc' := 8) dX12_checked_7 rfl rfl rfl ?_
    refine T_rng (fun _ z9 _ => ?_)
    have hB : r32 v1 := (ok_cons.mp z9).1
    unfold r32 at hB
    refine T_icmp_ge (pc' := 29) dX12_checked_8 (by decide) (pf := 11) rfl (fun c1 => ?_) (fun c1 => ?_)
    · exact absurd c1 (by omega)
    · skip
      have hw : wr32 (v3 + 1) = v3 + 1 := wr32_id (by unfold r32; omega)
      refine T_iconst (pc' := 12) dX12_checked_11 (by decide) rfl ?_
      refine T_iload_n (i := 2) (pc' := 13) dX12_checked_12 rfl rfl rfl ?_
      refine T_imul (pc' := 14) dX12_checked_13 rfl ?_
      refine T_aload_n (i := 0) (pc' := 15) dX12_checked_14 rfl rfl rfl ?_
      refine T_iload_n (i := 3) (pc' := 16) dX12_checked_15 rfl rfl rfl ?_
      refine T_iald (pc' := 17) dX12_checked_16 h0p0 hSp0 (n1).1 (n1).2 rfl ?_
      refine T_iadd (pc' := 18) dX12_checked_17 rfl ?_
      refine T_sipush (pc' := 21) dX12_checked_18 rfl (by decide) rfl ?_
      refine T_irem (pc' := 22) dX12_checked_21 (by decide) rfl ?_
      refine T_istore_n (i := 2) (L' := [(2, p0), (0, v1), (0, (Int.tmod (wr32 ((wr32 (3 * v2)) + (M p0 v3))) 253)), (0, v3)]) (pc' := 23) dX12_checked_22 rfl (by decide) rfl rfl ?_
      refine T_iinc (L' := [(2, p0), (0, v1), (0, (Int.tmod (wr32 ((wr32 (3 * v2)) + (M p0 v3))) 253)), (0, (wr32 (v3 + 1)))]) (pc' := 26) dX12_checked_23 rfl (by decide) rfl rfl ?_
      refine T_goto (pc' := 6) dX12_checked_26 (by decide) ?_
      rw [hw]
      exact T_wk (ih _ _ (v3 + 1) _ (by omega) (by omega) (n2) hQ hG) ⟨Or.inr rfl, Or.inr rfl, Or.inr rfl, Or.inr rfl, trivial⟩
def fX12_checked (M : Mem) (p0 : Int) (np0 : Nat) (v1 : Int) : Int :=
  (lX12_checked_6 p0 np0 (((v1) : Int) - 0).toNat v1 151 0 M)
def nX12_checked (M : Mem) (p0 : Int) (np0 : Nat) (v1 : Int) : Prop :=
  ((nlX12_checked_6 p0 np0 (((v1) : Int) - 0).toNat v1 151 0 M))
set_option maxRecDepth 100000 in
theorem pX12_checked {E : EV} {h : Int} {M : Mem} {p0 : Int} {np0 : Nat} {v1 : Int} (h0p0 : 0 ≤ p0) (hSp0 : S0[p0.toNat]? = some (0, 0, np0)) (hnp0 : np0 < 2147483648) (hs : (nX12_checked M p0 np0 v1)) : C2 E miX12_checked 1 h [(2, p0), (0, v1)] M (fun r M' => r = some (0, (fX12_checked M p0 np0 v1)) ∧ M' = M) := by
  obtain ⟨Q, hQ0⟩ : ∃ Q : Option MV → Mem → Prop, Q = (fun r M' => r = some (0, (fX12_checked M p0 np0 v1)) ∧ M' = M) := ⟨_, rfl⟩
  rw [← hQ0]
  have hQ : Q (some (0, (lX12_checked_6 p0 np0 (((v1) : Int) - 0).toNat v1 151 0 M))) M := by rw [hQ0]; exact ⟨rfl, rfl⟩
  have o1 := hs
  refine C2_of (L := [(2, p0), (0, v1), (3, 0), (3, 0)]) (by decide +kernel) (Nat.le_of_ble_eq_true rfl) rfl (fun hG => ?_)
  refine T_sipush (pc' := 3) dX12_checked_0 rfl (by decide) rfl ?_
  refine T_istore_n (i := 2) (L' := [(2, p0), (0, v1), (0, 151), (3, 0)]) (pc' := 4) dX12_checked_3 rfl (by decide) rfl rfl ?_
  refine T_iconst (pc' := 5) dX12_checked_4 (by decide) rfl ?_
  refine T_istore_n (i := 3) (L' := [(2, p0), (0, v1), (0, 151), (0, 0)]) (pc' := 6) dX12_checked_5 rfl (by decide) rfl rfl ?_
  exact T_wk (qX12_checked_6 h0p0 hSp0 hnp0 _ v1 151 0 _ (by first | decide | omega) rfl (o1) hQ hG) ⟨Or.inr rfl, Or.inr rfl, Or.inr rfl, Or.inr rfl, trivial⟩
