/-! methods by program, 3 -/
def lX7_nextStrike_6 (g : Int) : Nat → Int → Int → Mem → Int
  | 0, v2, v3, M => v2
  | k + 1, v2, v3, M => (lX7_nextStrike_6 g k (if (fX11_hasBit (M 9 6) v3) = 0 then v2 else (if (fX11_get M 12 9 v3) < v2 then (fX11_get M 12 9 v3) else v2)) (v3 + 1) M)
set_option maxRecDepth 100000 in
set_option maxHeartbeats 2000000 in
theorem qX7_nextStrike_6 {E : EV} {h : Int} {Q : Option MV → Mem → Prop} {g : Int} (hg : isG g) : ∀ (k : Nat) (v2 v3 : Int) (M : Mem), 0 ≤ v3 → (((M (g + 1) 8)) - v3).toNat = k → Q (some (0, (lX7_nextStrike_6 g k v2 v3 M))) M → G h M → TG E miX7_nextStrike 2 h Q 6 [(2, 9), (2, g), (0, v2), (0, v3)] [] M := by
  intro k
  induction k with
  | zero =>
    intro v2 v3 M hv0 hk hQ hG
    have hQ : Q (some (0, v2)) M := hQ
    refine T_iload_n (i := 3) (pc' := 7) dX7_nextStrike_6 rfl rfl rfl ?_
    refine T_aload_n (i := 1) (pc' := 8) dX7_nextStrike_7 rfl rfl rfl ?_
    refine U_grN (q := (g + 1)) (k := 0) (kI := 0) (pc' := 11) dX7_nextStrike_8 rfl cl1 (pog0 hg) (shg0 hg) (by decide) flX7_46 rfl rfl rfl (grg0_0 hg hG) (pog1 hg) rfl ?_
    refine U_gfN (v := (0, (M (g + 1) 8))) (k := 8) (kI := 8) (pc' := 14) dX7_nextStrike_11 rfl cl4 (pog1 hg) (shg1 hg) (by decide) flX7_52 rfl rfl (by decide) rfl rfl ?_
    refine T_rng (fun _ z9 _ => ?_)
    have hB : r32 (M (g + 1) 8) := (ok_cons.mp z9).1
    unfold r32 at hB
    refine T_icmp_ge (pc' := 47) dX7_nextStrike_14 (by decide) (pf := 17) rfl (fun c1 => ?_) (fun c1 => ?_)
    · skip
      refine T_iload_n (i := 2) (pc' := 48) dX7_nextStrike_47 rfl rfl rfl ?_
      exact T_iret dX7_nextStrike_48 rfl ⟨rfl, hG, hQ⟩
    · exact absurd c1 (by omega)
  | succ k ih =>
    intro v2 v3 M hv0 hk hQ hG
    have hQ : Q (some (0, (lX7_nextStrike_6 g k (if (fX11_hasBit (M 9 6) v3) = 0 then v2 else (if (fX11_get M 12 9 v3) < v2 then (fX11_get M 12 9 v3) else v2)) (v3 + 1) M))) M := hQ
    refine T_iload_n (i := 3) (pc' := 7) dX7_nextStrike_6 rfl rfl rfl ?_
    refine T_aload_n (i := 1) (pc' := 8) dX7_nextStrike_7 rfl rfl rfl ?_
    refine U_grN (q := (g + 1)) (k := 0) (kI := 0) (pc' := 11) dX7_nextStrike_8 rfl cl1 (pog0 hg) (shg0 hg) (by decide) flX7_46 rfl rfl rfl (grg0_0 hg hG) (pog1 hg) rfl ?_
    refine U_gfN (v := (0, (M (g + 1) 8))) (k := 8) (kI := 8) (pc' := 14) dX7_nextStrike_11 rfl cl4 (pog1 hg) (shg1 hg) (by decide) flX7_52 rfl rfl (by decide) rfl rfl ?_
    refine T_rng (fun _ z9 _ => ?_)
    have hB : r32 (M (g + 1) 8) := (ok_cons.mp z9).1
    unfold r32 at hB
    refine T_icmp_ge (pc' := 47) dX7_nextStrike_14 (by decide) (pf := 17) rfl (fun c1 => ?_) (fun c1 => ?_)
    · exact absurd c1 (by omega)
    · skip
      have hw : wr32 (v3 + 1) = v3 + 1 := wr32_id (by unfold r32; omega)
      refine T_aload_n (i := 0) (pc' := 18) dX7_nextStrike_17 rfl rfl rfl ?_
      refine U_gf (v := (0, (M 9 6))) (k := 6) (kI := 6) (pc' := 21) dX7_nextStrike_18 rfl cl7 (by decide) rfl (by decide) flX7_30 rfl rfl (by decide) rfl rfl ?_
      refine T_iload_n (i := 3) (pc' := 22) dX7_nextStrike_21 rfl rfl rfl ?_
      refine T_callSN (av := [(0, (M 9 6)), (0, v3)]) (st := []) (d2 := 1) (nc2 := 0) (ns2 := 0) (pc' := 25) dX7_nextStrike_22 rfl mtX11_hasBit mvX11_hasBit mlX7_122 rfl rfl (Nat.le_of_ble_eq_true rfl) (by decide) ⟨by decide, by decide⟩ rfl (pX11_hasBit (E := E) (h := h) (M := M) (v0 := (M 9 6)) (v1 := v3) hG) (kF (st2 := [(0, (fX11_hasBit (M 9 6) v3))]) rfl (fun hG2 => ?_))
      have HJ3 : T E miX7_nextStrike 2 126 0 0 (fun r S M' => S = S0 ∧ G h M' ∧ Q r M') 41 [(2, 9), (2, g), (0, (if (fX11_hasBit (M 9 6) v3) = 0 then v2 else (if (fX11_get M 12 9 v3) < v2 then (fX11_get M 12 9 v3) else v2))), (0, v3)] [] S0 M 0 0 := by
        refine T_iinc (L' := [(2, 9), (2, g), (0, (if (fX11_hasBit (M 9 6) v3) = 0 then v2 else (if (fX11_get M 12 9 v3) < v2 then (fX11_get M 12 9 v3) else v2))), (0, (wr32 (v3 + 1)))]) (pc' := 44) dX7_nextStrike_41 rfl (by decide) rfl rfl ?_
        refine T_goto (pc' := 6) dX7_nextStrike_44 (by decide) ?_
        rw [hw]
        exact T_wk (ih _ (v3 + 1) _ (by omega) (by omega) hQ hG) ⟨Or.inr rfl, Or.inr rfl, Or.inr rfl, Or.inr rfl, trivial⟩
      refine T_if_eq (pc' := 41) dX7_nextStrike_25 (by decide) (pf := 28) rfl (fun c4 => ?_) (fun c4 => ?_)
      · skip
        exact T_wk (L' := [(2, 9), (2, g), (0, v2), (0, v3)]) (by have q := HJ3; try simp only [if_pos c4] at q; exact q) ⟨Or.inr rfl, Or.inr rfl, Or.inr rfl, Or.inr rfl, trivial⟩
      · skip
        refine T_iload_n (i := 2) (pc' := 29) dX7_nextStrike_28 rfl rfl rfl ?_
        refine T_aload_n (i := 0) (pc' := 30) dX7_nextStrike_29 rfl rfl rfl ?_
        refine U_gr (q := 12) (k := 2) (kI := 2) (pc' := 33) dX7_nextStrike_30 rfl cl7 (by decide) rfl (by decide) flX7_18 rfl rfl rfl (G_at hG 18 rfl) (by decide) rfl ?_
        refine T_iload_n (i := 3) (pc' := 34) dX7_nextStrike_33 rfl rfl rfl ?_
        refine T_callSN (av := [(2, 12), (0, v3)]) (st := [(0, v2)]) (d2 := 1) (nc2 := 0) (ns2 := 0) (pc' := 37) dX7_nextStrike_34 rfl mtX11_get mvX11_get mlX7_71 rfl rfl (Nat.le_of_ble_eq_true rfl) (by decide) ⟨by decide, by decide⟩ rfl (pX11_get (E := E) (h := h) (M := M) (p0 := 12) (np0 := 9) (v1 := v3) (by decide) rfl (by decide) hG) (kF (st2 := [(0, (fX11_get M 12 9 v3)), (0, v2)]) rfl (fun hG5 => ?_))
        refine U_mmin (pc' := 40) dX7_nextStrike_37 rfl mlX7_126 (Nat.le_of_ble_eq_true rfl) (by decide) ⟨by decide, by decide⟩ rfl ?_
        refine T_istore_n (i := 2) (L' := [(2, 9), (2, g), (0, (if (fX11_get M 12 9 v3) < v2 then (fX11_get M 12 9 v3) else v2)), (0, v3)]) (pc' := 41) dX7_nextStrike_40 rfl (by decide) rfl rfl ?_
        exact T_wk (L' := [(2, 9), (2, g), (0, (if (fX11_get M 12 9 v3) < v2 then (fX11_get M 12 9 v3) else v2)), (0, v3)]) (by have q := HJ3; try simp only [if_neg c4] at q; exact q) ⟨Or.inr rfl, Or.inr rfl, Or.inr rfl, Or.inr rfl, trivial⟩
def fX7_nextStrike (M : Mem) (g : Int) : Int :=
  (lX7_nextStrike_6 g ((((M (g + 1) 8)) : Int) - 0).toNat 201 0 M)
set_option maxRecDepth 100000 in
theorem pX7_nextStrike {E : EV} {h : Int} {M : Mem} {g : Int} (hg : isG g) : C2 E miX7_nextStrike 2 h [(2, 9), (2, g)] M (fun r M' => r = some (0, (fX7_nextStrike M g)) ∧ M' = M) := by
  obtain ⟨Q, hQ0⟩ : ∃ Q : Option MV → Mem → Prop, Q = (fun r M' => r = some (0, (fX7_nextStrike M g)) ∧ M' = M) := ⟨_, rfl⟩
  rw [← hQ0]
  have hQ : Q (some (0, (lX7_nextStrike_6 g ((((M (g + 1) 8)) : Int) - 0).toNat 201 0 M))) M := by rw [hQ0]; exact ⟨rfl, rfl⟩
  refine C2_of (L := [(2, 9), (2, g), (3, 0), (3, 0)]) (by decide +kernel) (Nat.le_of_ble_eq_true rfl) rfl (fun hG => ?_)
  refine T_sipush (pc' := 3) dX7_nextStrike_0 rfl (by decide) rfl ?_
  refine T_istore_n (i := 2) (L' := [(2, 9), (2, g), (0, 201), (3, 0)]) (pc' := 4) dX7_nextStrike_3 rfl (by decide) rfl rfl ?_
  refine T_iconst (pc' := 5) dX7_nextStrike_4 (by decide) rfl ?_
  refine T_istore_n (i := 3) (L' := [(2, 9), (2, g), (0, 201), (0, 0)]) (pc' := 6) dX7_nextStrike_5 rfl (by decide) rfl rfl ?_
  exact T_wk (qX7_nextStrike_6 hg _ 201 0 _ (by first | decide | omega) rfl hQ hG) ⟨Or.inr rfl, Or.inr rfl, Or.inr rfl, Or.inr rfl, trivial⟩
def fX3_cellOf (M : Mem) (v1 : Int) (v2 : Int) : Int :=
  (if (fX11_hasBit (M 16 8) v1) = 0 then ((-1) : Int) else (fX11_get M 17 1809 (wr32 ((wr32 (v1 * 201)) + v2))))
set_option maxRecDepth 100000 in
theorem pX3_cellOf {E : EV} {h : Int} {M : Mem} {v1 : Int} {v2 : Int}  : C2 E miX3_cellOf 2 h [(2, 16), (0, v1), (0, v2)] M (fun r M' => r = some (0, (fX3_cellOf M v1 v2)) ∧ M' = M) := by
  obtain ⟨Q, hQ⟩ : ∃ Q : Option MV → Mem → Prop, Q = (fun r M' => r = some (0, (fX3_cellOf M v1 v2)) ∧ M' = M) := ⟨_, rfl⟩
  rw [← hQ]
  refine C2_of (L := [(2, 16), (0, v1), (0, v2)]) (by decide +kernel) (Nat.le_of_ble_eq_true rfl) rfl (fun hG => ?_)
  refine T_aload_n (i := 0) (pc' := 1) dX3_cellOf_0 rfl rfl rfl ?_
  refine U_gf (v := (0, (M 16 8))) (k := 8) (kI := 8) (pc' := 4) dX3_cellOf_1 rfl cl3 (by decide) rfl (by decide) flX3_36 rfl rfl (by decide) rfl rfl ?_
  refine T_iload_n (i := 1) (pc' := 5) dX3_cellOf_4 rfl rfl rfl ?_
  refine T_callSN (av := [(0, (M 16 8)), (0, v1)]) (st := []) (d2 := 1) (nc2 := 0) (ns2 := 0) (pc' := 8) dX3_cellOf_5 rfl mtX11_hasBit mvX11_hasBit mlX3_76 rfl rfl (Nat.le_of_ble_eq_true rfl) (by decide) ⟨by decide, by decide⟩ rfl (pX11_hasBit (E := E) (h := h) (M := M) (v0 := (M 16 8)) (v1 := v1) hG) (kF (st2 := [(0, (fX11_hasBit (M 16 8) v1))]) rfl (fun hG1 => ?_))
  have HJ2 : T E miX3_cellOf 2 126 0 0 (fun r S M' => S = S0 ∧ G h M' ∧ Q r M') 29 [(3, 0), (3, 0), (3, 0)] [(0, (if (fX11_hasBit (M 16 8) v1) = 0 then ((-1) : Int) else (fX11_get M 17 1809 (wr32 ((wr32 (v1 * 201)) + v2)))))] S0 M 0 0 := by
    exact T_iret dX3_cellOf_29 rfl ⟨rfl, hG, (by rw [hQ]; exact ⟨rfl, rfl⟩)⟩
  refine T_if_eq (pc' := 28) dX3_cellOf_8 (by decide) (pf := 11) rfl (fun c3 => ?_) (fun c3 => ?_)
  · skip
    refine T_iconst (pc' := 29) dX3_cellOf_28 (by decide) rfl ?_
    exact T_wk (L' := [(3, 0), (3, 0), (3, 0)]) (by have q := HJ2; try simp only [if_pos c3] at q; exact q) ⟨Or.inl rfl, Or.inl rfl, Or.inl rfl, trivial⟩
  · skip
    refine T_aload_n (i := 0) (pc' := 12) dX3_cellOf_11 rfl rfl rfl ?_
    refine U_gr (q := 17) (k := 0) (kI := 0) (pc' := 15) dX3_cellOf_12 rfl cl3 (by decide) rfl (by decide) flX3_9 rfl rfl rfl (G_at hG 22 rfl) (by decide) rfl ?_
    refine T_iload_n (i := 1) (pc' := 16) dX3_cellOf_15 rfl rfl rfl ?_
    refine T_sipush (pc' := 19) dX3_cellOf_16 rfl (by decide) rfl ?_
    refine T_imul (pc' := 20) dX3_cellOf_19 rfl ?_
    refine T_iload_n (i := 2) (pc' := 21) dX3_cellOf_20 rfl rfl rfl ?_
    refine T_iadd (pc' := 22) dX3_cellOf_21 rfl ?_
    refine T_callSN (av := [(2, 17), (0, (wr32 ((wr32 (v1 * 201)) + v2)))]) (st := []) (d2 := 1) (nc2 := 0) (ns2 := 0) (pc' := 25) dX3_cellOf_22 rfl mtX11_get mvX11_get mlX3_67 rfl rfl (Nat.le_of_ble_eq_true rfl) (by decide) ⟨by decide, by decide⟩ rfl (pX11_get (E := E) (h := h) (M := M) (p0 := 17) (np0 := 1809) (v1 := (wr32 ((wr32 (v1 * 201)) + v2))) (by decide) rfl (by decide) hG) (kF (st2 := [(0, (fX11_get M 17 1809 (wr32 ((wr32 (v1 * 201)) + v2))))]) rfl (fun hG4 => ?_))
    refine T_goto (pc' := 29) dX3_cellOf_25 (by decide) ?_
    exact T_wk (L' := [(3, 0), (3, 0), (3, 0)]) (by have q := HJ2; try simp only [if_neg c3] at q; exact q) ⟨Or.inl rfl, Or.inl rfl, Or.inl rfl, trivial⟩
def fX3_howMany (M : Mem) (v1 : Int) (v2 : Int) : Int :=
  (fX11_get M 18 804 (wr32 ((wr32 (v2 * 201)) + v1)))
set_option maxRecDepth 100000 in
theorem pX3_howMany {E : EV} {h : Int} {M : Mem} {v1 : Int} {v2 : Int}  : C2 E miX3_howMany 2 h [(2, 16), (0, v1), (0, v2)] M (fun r M' => r = some (0, (fX3_howMany M v1 v2)) ∧ M' = M) := by
  obtain ⟨Q, hQ⟩ : ∃ Q : Option MV → Mem → Prop, Q = (fun r M' => r = some (0, (fX3_howMany M v1 v2)) ∧ M' = M) := ⟨_, rfl⟩
  rw [← hQ]
  refine C2_of (L := [(2, 16), (0, v1), (0, v2)]) (by decide +kernel) (Nat.le_of_ble_eq_true rfl) rfl (fun hG => ?_)
  refine T_aload_n (i := 0) (pc' := 1) dX3_howMany_0 rfl rfl rfl ?_
  refine U_gr (q := 18) (k := 1) (kI := 1) (pc' := 4) dX3_howMany_1 rfl cl3 (by decide) rfl (by decide) flX3_15 rfl rfl rfl (G_at hG 23 rfl) (by decide) rfl ?_
  refine T_iload_n (i := 2) (pc' := 5) dX3_howMany_4 rfl rfl rfl ?_
  refine T_sipush (pc' := 8) dX3_howMany_5 rfl (by decide) rfl ?_
  refine T_imul (pc' := 9) dX3_howMany_8 rfl ?_
  refine T_iload_n (i := 1) (pc' := 10) dX3_howMany_9 rfl rfl rfl ?_
  refine T_iadd (pc' := 11) dX3_howMany_10 rfl ?_
  refine T_callSN (av := [(2, 18), (0, (wr32 ((wr32 (v2 * 201)) + v1)))]) (st := []) (d2 := 1) (nc2 := 0) (ns2 := 0) (pc' := 14) dX3_howMany_11 rfl mtX11_get mvX11_get mlX3_67 rfl rfl (Nat.le_of_ble_eq_true rfl) (by decide) ⟨by decide, by decide⟩ rfl (pX11_get (E := E) (h := h) (M := M) (p0 := 18) (np0 := 804) (v1 := (wr32 ((wr32 (v2 * 201)) + v1))) (by decide) rfl (by decide) hG) (kF (st2 := [(0, (fX11_get M 18 804 (wr32 ((wr32 (v2 * 201)) + v1))))]) rfl (fun hG1 => ?_))
  exact T_iret dX3_howMany_14 rfl ⟨rfl, hG, (by rw [hQ]; exact ⟨rfl, rfl⟩)⟩
def lX3_peak_4  : Nat → Int → Int → Mem → Int
  | 0, v1, v2, M => v1
  | k + 1, v1, v2, M => (lX3_peak_4 k (if (fX3_howMany M v2 0) ≤ (fX3_howMany M v1 0) then v1 else v2) (v2 + 1) M)
set_option maxRecDepth 100000 in
set_option maxHeartbeats 2000000 in
theorem qX3_peak_4 {E : EV} {h : Int} {Q : Option MV → Mem → Prop}   : ∀ (k : Nat) (v1 v2 : Int) (M : Mem), 0 ≤ v2 → ((201) - v2).toNat = k → Q (some (0, (lX3_peak_4 k v1 v2 M))) M → G h M → TG E miX3_peak 3 h Q 4 [(2, 16), (0, v1), (0, v2)] [] M := by
  intro k
  induction k with
  | zero =>
    intro v1 v2 M hv0 hk hQ hG
    have hQ : Q (some (0, v1)) M := hQ
    refine T_iload_n (i := 2) (pc' := 5) dX3_peak_4 rfl rfl rfl ?_
    refine T_sipush (pc' := 8) dX3_peak_5 rfl (by decide) rfl ?_
    refine T_rng (fun _ z9 _ => ?_)
    have hB : r32 201 := (ok_cons.mp z9).1
    unfold r32 at hB
    refine T_icmp_ge (pc' := 34) dX3_peak_8 (by decide) (pf := 11) rfl (fun c1 => ?_) (fun c1 => ?_)
    · skip
      refine T_iload_n (i := 1) (pc' := 35) dX3_peak_34 rfl rfl rfl ?_
      exact T_iret dX3_peak_35 rfl ⟨rfl, hG, hQ⟩
    · exact absurd c1 (by omega)
  | succ k ih =>
    intro v1 v2 M hv0 hk hQ hG
    have hQ : Q (some (0, (lX3_peak_4 k (if (fX3_howMany M v2 0) ≤ (fX3_howMany M v1 0) then v1 else v2) (v2 + 1) M))) M := hQ
    refine T_iload_n (i := 2) (pc' := 5) dX3_peak_4 rfl rfl rfl ?_
    refine T_sipush (pc' := 8) dX3_peak_5 rfl (by decide) rfl ?_
    refine T_rng (fun _ z9 _ => ?_)
    have hB : r32 201 := (ok_cons.mp z9).1
    unfold r32 at hB
    refine T_icmp_ge (pc' := 34) dX3_peak_8 (by decide) (pf := 11) rfl (fun c1 => ?_) (fun c1 => ?_)
    · exact absurd c1 (by omega)
    · skip
      have hw : wr32 (v2 + 1) = v2 + 1 := wr32_id (by unfold r32; omega)
      refine T_aload_n (i := 0) (pc' := 12) dX3_peak_11 rfl rfl rfl ?_
      refine T_iload_n (i := 2) (pc' := 13) dX3_peak_12 rfl rfl rfl ?_
      refine T_iconst (pc' := 14) dX3_peak_13 (by decide) rfl ?_
      refine T_callV (av := [(0, v2), (0, 0)]) (st := []) (d2 := 2) (nc2 := 0) (ns2 := 0) (pc' := 17) dX3_peak_14 rfl mtX3_howMany mvX3_howMany mlX3_114 cl3 rfl rfl rfl (Nat.le_of_ble_eq_true rfl) (by decide) ⟨by decide, by decide⟩ rfl (pX3_howMany (E := E) (h := h) (M := M) (v1 := v2) (v2 := 0) hG) (kF (st2 := [(0, (fX3_howMany M v2 0))]) rfl (fun hG2 => ?_))
      refine T_aload_n (i := 0) (pc' := 18) dX3_peak_17 rfl rfl rfl ?_
      refine T_iload_n (i := 1) (pc' := 19) dX3_peak_18 rfl rfl rfl ?_
      refine T_iconst (pc' := 20) dX3_peak_19 (by decide) rfl ?_
      refine T_callV (av := [(0, v1), (0, 0)]) (st := [(0, (fX3_howMany M v2 0))]) (d2 := 2) (nc2 := 0) (ns2 := 0) (pc' := 23) dX3_peak_20 rfl mtX3_howMany mvX3_howMany mlX3_114 cl3 rfl rfl rfl (Nat.le_of_ble_eq_true rfl) (by decide) ⟨by decide, by decide⟩ rfl (pX3_howMany (E := E) (h := h) (M := M) (v1 := v1) (v2 := 0) hG) (kF (st2 := [(0, (fX3_howMany M v1 0)), (0, (fX3_howMany M v2 0))]) rfl (fun hG3 => ?_))
      have HJ4 : T E miX3_peak 3 126 0 0 (fun r S M' => S = S0 ∧ G h M' ∧ Q r M') 28 [(2, 16), (0, (if (fX3_howMany M v2 0) ≤ (fX3_howMany M v1 0) then v1 else v2)), (0, v2)] [] S0 M 0 0 := by
        refine T_iinc (L' := [(2, 16), (0, (if (fX3_howMany M v2 0) ≤ (fX3_howMany M v1 0) then v1 else v2)), (0, (wr32 (v2 + 1)))]) (pc' := 31) dX3_peak_28 rfl (by decide) rfl rfl ?_
        refine T_goto (pc' := 4) dX3_peak_31 (by decide) ?_
        rw [hw]
        exact T_wk (ih _ (v2 + 1) _ (by omega) (by omega) hQ hG) ⟨Or.inr rfl, Or.inr rfl, Or.inr rfl, trivial⟩
      refine T_icmp_le (pc' := 28) dX3_peak_23 (by decide) (pf := 26) rfl (fun c5 => ?_) (fun c5 => ?_)
      · skip
        exact T_wk (L' := [(2, 16), (0, v1), (0, v2)]) (by have q := HJ4; try simp only [if_pos c5] at q; exact q) ⟨Or.inr rfl, Or.inr rfl, Or.inr rfl, trivial⟩
      · skip
        refine T_iload_n (i := 2) (pc' := 27) dX3_peak_26 rfl rfl rfl ?_
        refine T_istore_n (i := 1) (L' := [(2, 16), (0, v2), (0, v2)]) (pc' := 28) dX3_peak_27 rfl (by decide) rfl rfl ?_
        exact T_wk (L' := [(2, 16), (0, v2), (0, v2)]) (by have q := HJ4; try simp only [if_neg c5] at q; exact q) ⟨Or.inr rfl, Or.inr rfl, Or.inr rfl, trivial⟩
def fX3_peak (M : Mem) : Int :=
  (lX3_peak_4 200 0 1 M)
set_option maxRecDepth 100000 in
theorem pX3_peak {E : EV} {h : Int} {M : Mem}   : C2 E miX3_peak 3 h [(2, 16)] M (fun r M' => r = some (0, (fX3_peak M)) ∧ M' = M) := by
  obtain ⟨Q, hQ0⟩ : ∃ Q : Option MV → Mem → Prop, Q = (fun r M' => r = some (0, (fX3_peak M)) ∧ M' = M) := ⟨_, rfl⟩
  rw [← hQ0]
  have hQ : Q (some (0, (lX3_peak_4 200 0 1 M))) M := by rw [hQ0]; exact ⟨rfl, rfl⟩
  refine C2_of (L := [(2, 16), (3, 0), (3, 0)]) (by decide +kernel) (Nat.le_of_ble_eq_true rfl) rfl (fun hG => ?_)
  refine T_iconst (pc' := 1) dX3_peak_0 (by decide) rfl ?_
  refine T_istore_n (i := 1) (L' := [(2, 16), (0, 0), (3, 0)]) (pc' := 2) dX3_peak_1 rfl (by decide) rfl rfl ?_
  refine T_iconst (pc' := 3) dX3_peak_2 (by decide) rfl ?_
  refine T_istore_n (i := 2) (L' := [(2, 16), (0, 0), (0, 1)]) (pc' := 4) dX3_peak_3 rfl (by decide) rfl rfl ?_
  exact T_wk (qX3_peak_4  200 0 1 _ (by first | decide | omega) rfl hQ hG) ⟨Or.inr rfl, Or.inr rfl, Or.inr rfl, trivial⟩
def lX3_firstWith_2  : Nat → Int → Int → Mem → Int
  | 0, v1, v2, M => (-1)
  | k + 1, v1, v2, M => (if (fX3_howMany M v2 0) < v1 then (lX3_firstWith_2 k v1 (v2 + 1) M) else v2)
set_option maxRecDepth 100000 in
set_option maxHeartbeats 2000000 in
theorem qX3_firstWith_2 {E : EV} {h : Int} {Q : Option MV → Mem → Prop}   : ∀ (k : Nat) (v1 v2 : Int) (M : Mem), 0 ≤ v2 → ((201) - v2).toNat = k → Q (some (0, (lX3_firstWith_2 k v1 v2 M))) M → G h M → TG E miX3_firstWith 3 h Q 2 [(2, 16), (0, v1), (0, v2)] [] M := by
  intro k
  induction k with
  | zero =>
    intro v1 v2 M hv0 hk hQ hG
    have hQ : Q (some (0, (-1))) M := hQ
    refine T_iload_n (i := 2) (pc' := 3) dX3_firstWith_2 rfl rfl rfl ?_
    refine T_sipush (pc' := 6) dX3_firstWith_3 rfl (by decide) rfl ?_
    refine T_rng (fun _ z9 _ => ?_)
    have hB : r32 201 := (ok_cons.mp z9).1
    unfold r32 at hB
    refine T_icmp_ge (pc' := 27) dX3_firstWith_6 (by decide) (pf := 9) rfl (fun c1 => ?_) (fun c1 => ?_)
    · skip
      refine T_iconst (pc' := 28) dX3_firstWith_27 (by decide) rfl ?_
      exact T_iret dX3_firstWith_28 rfl ⟨rfl, hG, hQ⟩
    · exact absurd c1 (by omega)
  | succ k ih =>
    intro v1 v2 M hv0 hk hQ hG
    have hQ : Q (some (0, (if (fX3_howMany M v2 0) < v1 then (lX3_firstWith_2 k v1 (v2 + 1) M) else v2))) M := hQ
    refine T_iload_n (i := 2) (pc' := 3) dX3_firstWith_2 rfl rfl rfl ?_
    refine T_sipush (pc' := 6) dX3_firstWith_3 rfl (by decide) rfl ?_
    refine T_rng (fun _ z9 _ => ?_)
    have hB : r32 201 := (ok_cons.mp z9).1
    unfold r32 at hB
    refine T_icmp_ge (pc' := 27) dX3_firstWith_6 (by decide) (pf := 9) rfl (fun c1 => ?_) (fun c1 => ?_)
    · exact absurd c1 (by omega)
    · skip
      have hw : wr32 (v2 + 1) = v2 + 1 := wr32_id (by unfold r32; omega)
      refine T_aload_n (i := 0) (pc' := 10) dX3_firstWith_9 rfl rfl rfl ?_
      refine T_iload_n (i := 2) (pc' := 11) dX3_firstWith_10 rfl rfl rfl ?_
      refine T_iconst (pc' := 12) dX3_firstWith_11 (by decide) rfl ?_
      refine T_callV (av := [(0, v2), (0, 0)]) (st := []) (d2 := 2) (nc2 := 0) (ns2 := 0) (pc' := 15) dX3_firstWith_12 rfl mtX3_howMany mvX3_howMany mlX3_114 cl3 rfl rfl rfl (Nat.le_of_ble_eq_true rfl) (by decide) ⟨by decide, by decide⟩ rfl (pX3_howMany (E := E) (h := h) (M := M) (v1 := v2) (v2 := 0) hG) (kF (st2 := [(0, (fX3_howMany M v2 0))]) rfl (fun hG2 => ?_))
      refine T_iload_n (i := 1) (pc' := 16) dX3_firstWith_15 rfl rfl rfl ?_
      refine T_icmp_lt (pc' := 21) dX3_firstWith_16 (by decide) (pf := 19) rfl (fun c3 => ?_) (fun c3 => ?_)
      · skip
        refine T_iinc (L' := [(2, 16), (0, v1), (0, (wr32 (v2 + 1)))]) (pc' := 24) dX3_firstWith_21 rfl (by decide) rfl rfl ?_
        refine T_goto (pc' := 2) dX3_firstWith_24 (by decide) ?_
        rw [hw]
        exact T_wk (ih _ (v2 + 1) _ (by omega) (by omega) (by have q := hQ; try simp only [if_pos c3] at q; exact q) hG) ⟨Or.inr rfl, Or.inr rfl, Or.inr rfl, trivial⟩
      · skip
        refine T_iload_n (i := 2) (pc' := 20) dX3_firstWith_19 rfl rfl rfl ?_
        exact T_iret dX3_firstWith_20 rfl ⟨rfl, hG, (by have q := hQ; try simp only [if_neg c3] at q; exact q)⟩
def fX3_firstWith (M : Mem) (v1 : Int) : Int :=
  (lX3_firstWith_2 201 v1 0 M)
set_option maxRecDepth 100000 in
theorem pX3_firstWith {E : EV} {h : Int} {M : Mem} {v1 : Int}  : C2 E miX3_firstWith 3 h [(2, 16), (0, v1)] M (fun r M' => r = some (0, (fX3_firstWith M v1)) ∧ M' = M) := by
  obtain ⟨Q, hQ0⟩ : ∃ Q : Option MV → Mem → Prop, Q = (fun r M' => r = some (0, (fX3_firstWith M v1)) ∧ M' = M) := ⟨_, rfl⟩
  rw [← hQ0]
  have hQ : Q (some (0, (lX3_firstWith_2 201 v1 0 M))) M := by rw [hQ0]; exact ⟨rfl, rfl⟩
  refine C2_of (L := [(2, 16), (0, v1), (3, 0)]) (by decide +kernel) (Nat.le_of_ble_eq_true rfl) rfl (fun hG => ?_)
  refine T_iconst (pc' := 1) dX3_firstWith_0 (by decide) rfl ?_
  refine T_istore_n (i := 2) (L' := [(2, 16), (0, v1), (0, 0)]) (pc' := 2) dX3_firstWith_1 rfl (by decide) rfl rfl ?_
  exact T_wk (qX3_firstWith_2  201 v1 0 _ (by first | decide | omega) rfl hQ hG) ⟨Or.inr rfl, Or.inr rfl, Or.inr rfl, trivial⟩
def lX3_openersOf_4  : Nat → Int → Int → Int → Mem → Int
  | 0, v1, v2, v3, M => v2
  | k + 1, v1, v2, v3, M => (lX3_openersOf_4 k v1 (if (fX11_hasBit v1 v3) = 0 then v2 else (if (fX11_get M 19 9 v3) = (-1) then v2 else (wr32 (v2 + 1)))) (v3 + 1) M)
set_option maxRecDepth 100000 in
set_option maxHeartbeats 2000000 in
theorem qX3_openersOf_4 {E : EV} {h : Int} {Q : Option MV → Mem → Prop}   : ∀ (k : Nat) (v1 v2 v3 : Int) (M : Mem), 0 ≤ v3 → ((9) - v3).toNat = k → Q (some (0, (lX3_openersOf_4 k v1 v2 v3 M))) M → G h M → TG E miX3_openersOf 2 h Q 4 [(2, 16), (0, v1), (0, v2), (0, v3)] [] M := by
  intro k
  induction k with
  | zero =>
    intro v1 v2 v3 M hv0 hk hQ hG
    have hQ : Q (some (0, v2)) M := hQ
    refine T_iload_n (i := 3) (pc' := 5) dX3_openersOf_4 rfl rfl rfl ?_
    refine T_bipush (pc' := 7) dX3_openersOf_5 rfl (by decide) rfl ?_
    refine T_rng (fun _ z9 _ => ?_)
    have hB : r32 9 := (ok_cons.mp z9).1
    unfold r32 at hB
    refine T_icmp_ge (pc' := 39) dX3_openersOf_7 (by decide) (pf := 10) rfl (fun c1 => ?_) (fun c1 => ?_)
    · skip
      refine T_iload_n (i := 2) (pc' := 40) dX3_openersOf_39 rfl rfl rfl ?_
      exact T_iret dX3_openersOf_40 rfl ⟨rfl, hG, hQ⟩
    · exact absurd c1 (by omega)
  | succ k ih =>
    intro v1 v2 v3 M hv0 hk hQ hG
    have hQ : Q (some (0, (lX3_openersOf_4 k v1 (if (fX11_hasBit v1 v3) = 0 then v2 else (if (fX11_get M 19 9 v3) = (-1) then v2 else (wr32 (v2 + 1)))) (v3 + 1) M))) M := hQ
    refine T_iload_n (i := 3) (pc' := 5) dX3_openersOf_4 rfl rfl rfl ?_
    refine T_bipush (pc' := 7) dX3_openersOf_5 rfl (by decide) rfl ?_
    refine T_rng (fun _ z9 _ => ?_)
    have hB : r32 9 := (ok_cons.mp z9).1
    unfold r32 at hB
    refine T_icmp_ge (pc' := 39) dX3_openersOf_7 (by decide) (pf := 10) rfl (fun c1 => ?_) (fun c1 => ?_)
    · exact absurd c1 (by omega)
    · skip
      have hw : wr32 (v3 + 1) = v3 + 1 := wr32_id (by unfold r32; omega)
      refine T_iload_n (i := 1) (pc' := 11) dX3_openersOf_10 rfl rfl rfl ?_
      refine T_iload_n (i := 3) (pc' := 12) dX3_openersOf_11 rfl rfl rfl ?_
      refine T_callSN (av := [(0, v1), (0, v3)]) (st := []) (d2 := 1) (nc2 := 0) (ns2 := 0) (pc' := 15) dX3_openersOf_12 rfl mtX11_hasBit mvX11_hasBit mlX3_76 rfl rfl (Nat.le_of_ble_eq_true rfl) (by decide) ⟨by decide, by decide⟩ rfl (pX11_hasBit (E := E) (h := h) (M := M) (v0 := v1) (v1 := v3) hG) (kF (st2 := [(0, (fX11_hasBit v1 v3))]) rfl (fun hG2 => ?_))
      have HJ3 : T E miX3_openersOf 2 126 0 0 (fun r S M' => S = S0 ∧ G h M' ∧ Q r M') 33 [(2, 16), (0, v1), (0, (if (fX11_hasBit v1 v3) = 0 then v2 else (if (fX11_get M 19 9 v3) = (-1) then v2 else (wr32 (v2 + 1))))), (0, v3)] [] S0 M 0 0 := by
        refine T_iinc (L' := [(2, 16), (0, v1), (0, (if (fX11_hasBit v1 v3) = 0 then v2 else (if (fX11_get M 19 9 v3) = (-1) then v2 else (wr32 (v2 + 1))))), (0, (wr32 (v3 + 1)))]) (pc' := 36) dX3_openersOf_33 rfl (by decide) rfl rfl ?_
        refine T_goto (pc' := 4) dX3_openersOf_36 (by decide) ?_
        rw [hw]
        exact T_wk (ih _ _ (v3 + 1) _ (by omega) (by omega) hQ hG) ⟨Or.inr rfl, Or.inr rfl, Or.inr rfl, Or.inr rfl, trivial⟩
      refine T_if_eq (pc' := 33) dX3_openersOf_15 (by decide) (pf := 18) rfl (fun c4 => ?_) (fun c4 => ?_)
      · skip
        exact T_wk (L' := [(2, 16), (0, v1), (0, v2), (0, v3)]) (by have q := HJ3; try simp only [if_pos c4] at q; exact q) ⟨Or.inr rfl, Or.inr rfl, Or.inr rfl, Or.inr rfl, trivial⟩
      · skip
        refine T_aload_n (i := 0) (pc' := 19) dX3_openersOf_18 rfl rfl rfl ?_
        refine U_gr (q := 19) (k := 2) (kI := 2) (pc' := 22) dX3_openersOf_19 rfl cl3 (by decide) rfl (by decide) flX3_18 rfl rfl rfl (G_at hG 24 rfl) (by decide) rfl ?_
        refine T_iload_n (i := 3) (pc' := 23) dX3_openersOf_22 rfl rfl rfl ?_
        refine T_callSN (av := [(2, 19), (0, v3)]) (st := []) (d2 := 1) (nc2 := 0) (ns2 := 0) (pc' := 26) dX3_openersOf_23 rfl mtX11_get mvX11_get mlX3_67 rfl rfl (Nat.le_of_ble_eq_true rfl) (by decide) ⟨by decide, by decide⟩ rfl (pX11_get (E := E) (h := h) (M := M) (p0 := 19) (np0 := 9) (v1 := v3) (by decide) rfl (by decide) hG) (kF (st2 := [(0, (fX11_get M 19 9 v3))]) rfl (fun hG5 => ?_))
        refine T_iconst (pc' := 27) dX3_openersOf_26 (by decide) rfl ?_
        refine T_icmp_eq (pc' := 33) dX3_openersOf_27 (by decide) (pf := 30) rfl (fun c6 => ?_) (fun c6 => ?_)
        · skip
          exact T_wk (L' := [(2, 16), (0, v1), (0, v2), (0, v3)]) (by have q := HJ3; try simp only [if_neg c4] at q; try simp only [if_pos c6] at q; exact q) ⟨Or.inr rfl, Or.inr rfl, Or.inr rfl, Or.inr rfl, trivial⟩
        · skip
          refine T_iinc (L' := [(2, 16), (0, v1), (0, (wr32 (v2 + 1))), (0, v3)]) (pc' := 33) dX3_openersOf_30 rfl (by decide) rfl rfl ?_
          exact T_wk (L' := [(2, 16), (0, v1), (0, (wr32 (v2 + 1))), (0, v3)]) (by have q := HJ3; try simp only [if_neg c4] at q; try simp only [if_neg c6] at q; exact q) ⟨Or.inr rfl, Or.inr rfl, Or.inr rfl, Or.inr rfl, trivial⟩
def fX3_openersOf (M : Mem) (v1 : Int) : Int :=
  (lX3_openersOf_4 9 v1 0 0 M)
set_option maxRecDepth 100000 in
theorem pX3_openersOf {E : EV} {h : Int} {M : Mem} {v1 : Int}  : C2 E miX3_openersOf 2 h [(2, 16), (0, v1)] M (fun r M' => r = some (0, (fX3_openersOf M v1)) ∧ M' = M) := by
  obtain ⟨Q, hQ0⟩ : ∃ Q : Option MV → Mem → Prop, Q = (fun r M' => r = some (0, (fX3_openersOf M v1)) ∧ M' = M) := ⟨_, rfl⟩
  rw [← hQ0]
  have hQ : Q (some (0, (lX3_openersOf_4 9 v1 0 0 M))) M := by rw [hQ0]; exact ⟨rfl, rfl⟩
  refine C2_of (L := [(2, 16), (0, v1), (3, 0), (3, 0)]) (by decide +kernel) (Nat.le_of_ble_eq_true rfl) rfl (fun hG => ?_)
  refine T_iconst (pc' := 1) dX3_openersOf_0 (by decide) rfl ?_
  refine T_istore_n (i := 2) (L' := [(2, 16), (0, v1), (0, 0), (3, 0)]) (pc' := 2) dX3_openersOf_1 rfl (by decide) rfl rfl ?_
  refine T_iconst (pc' := 3) dX3_openersOf_2 (by decide) rfl ?_
  refine T_istore_n (i := 3) (L' := [(2, 16), (0, v1), (0, 0), (0, 0)]) (pc' := 4) dX3_openersOf_3 rfl (by decide) rfl rfl ?_
  exact T_wk (qX3_openersOf_4  9 v1 0 0 _ (by first | decide | omega) rfl hQ hG) ⟨Or.inr rfl, Or.inr rfl, Or.inr rfl, Or.inr rfl, trivial⟩
def lX3_openersAhead_4  : Nat → Int → Int → Int → Mem → Int
  | 0, v1, v2, v3, M => v2
  | k + 1, v1, v2, v3, M => (lX3_openersAhead_4 k v1 (if (fX11_get M 19 9 v3) = (-1) then v2 else (if v1 ≤ (fX11_get M 19 9 v3) then v2 else (wr32 (v2 + 1)))) (v3 + 1) M)
set_option maxRecDepth 100000 in
set_option maxHeartbeats 2000000 in
theorem qX3_openersAhead_4 {E : EV} {h : Int} {Q : Option MV → Mem → Prop}   : ∀ (k : Nat) (v1 v2 v3 : Int) (M : Mem), 0 ≤ v3 → ((9) - v3).toNat = k → Q (some (0, (lX3_openersAhead_4 k v1 v2 v3 M))) M → G h M → TG E miX3_openersAhead 2 h Q 4 [(2, 16), (0, v1), (0, v2), (0, v3)] [] M := by
  intro k
  induction k with
  | zero =>
    intro v1 v2 v3 M hv0 hk hQ hG
    have hQ : Q (some (0, v2)) M := hQ
    refine T_iload_n (i := 3) (pc' := 5) dX3_openersAhead_4 rfl rfl rfl ?_
    refine T_bipush (pc' := 7) dX3_openersAhead_5 rfl (by decide) rfl ?_
    refine T_rng (fun _ z9 _ => ?_)
    have hB : r32 9 := (ok_cons.mp z9).1
    unfold r32 at hB
    refine T_icmp_ge (pc' := 43) dX3_openersAhead_7 (by decide) (pf := 10) rfl (fun c1 => ?_) (fun c1 => ?_)
    · skip
      refine T_iload_n (i := 2) (pc' := 44) dX3_openersAhead_43 rfl rfl rfl ?_
      exact T_iret dX3_openersAhead_44 rfl ⟨rfl, hG, hQ⟩
    · exact absurd c1 (by omega)
  | succ k ih =>
    intro v1 v2 v3 M hv0 hk hQ hG
    have hQ : Q (some (0, (lX3_openersAhead_4 k v1 (if (fX11_get M 19 9 v3) = (-1) then v2 else (if v1 ≤ (fX11_get M 19 9 v3) then v2 else (wr32 (v2 + 1)))) (v3 + 1) M))) M := hQ
    refine T_iload_n (i := 3) (pc' := 5) dX3_openersAhead_4 rfl rfl rfl ?_
    refine T_bipush (pc' := 7) dX3_openersAhead_5 rfl (by decide) rfl ?_
    refine T_rng (fun _ z9 _ => ?_)
    have hB : r32 9 := (ok_cons.mp z9).1
    unfold r32 at hB
    refine T_icmp_ge (pc' := 43) dX3_openersAhead_7 (by decide) (pf := 10) rfl (fun c1 => ?_) (fun c1 => ?_)
    · exact absurd c1 (by omega)
    · skip
      have hw : wr32 (v3 + 1) = v3 + 1 := wr32_id (by unfold r32; omega)
      refine T_aload_n (i := 0) (pc' := 11) dX3_openersAhead_10 rfl rfl rfl ?_
      refine U_gr (q := 19) (k := 2) (kI := 2) (pc' := 14) dX3_openersAhead_11 rfl cl3 (by decide) rfl (by decide) flX3_18 rfl rfl rfl (G_at hG 24 rfl) (by decide) rfl ?_
      refine T_iload_n (i := 3) (pc' := 15) dX3_openersAhead_14 rfl rfl rfl ?_
      refine T_callSN (av := [(2, 19), (0, v3)]) (st := []) (d2 := 1) (nc2 := 0) (ns2 := 0) (pc' := 18) dX3_openersAhead_15 rfl mtX11_get mvX11_get mlX3_67 rfl rfl (Nat.le_of_ble_eq_true rfl) (by decide) ⟨by decide, by decide⟩ rfl (pX11_get (E := E) (h := h) (M := M) (p0 := 19) (np0 := 9) (v1 := v3) (by decide) rfl (by decide) hG) (kF (st2 := [(0, (fX11_get M 19 9 v3))]) rfl (fun hG2 => ?_))
      refine T_iconst (pc' := 19) dX3_openersAhead_18 (by decide) rfl ?_
      have HJ3 : T E miX3_openersAhead 2 126 0 0 (fun r S M' => S = S0 ∧ G h M' ∧ Q r M') 37 [(2, 16), (0, v1), (0, (if (fX11_get M 19 9 v3) = (-1) then v2 else (if v1 ≤ (fX11_get M 19 9 v3) then v2 else (wr32 (v2 + 1))))), (0, v3)] [] S0 M 0 0 := by
        refine T_iinc (L' := [(2, 16), (0, v1), (0, (if (fX11_get M 19 9 v3) = (-1) then v2 else (if v1 ≤ (fX11_get M 19 9 v3) then v2 else (wr32 (v2 + 1))))), (0, (wr32 (v3 + 1)))]) (pc' := 40) dX3_openersAhead_37 rfl (by decide) rfl rfl ?_
        refine T_goto (pc' := 4) dX3_openersAhead_40 (by decide) ?_
        rw [hw]
        exact T_wk (ih _ _ (v3 + 1) _ (by omega) (by omega) hQ hG) ⟨Or.inr rfl, Or.inr rfl, Or.inr rfl, Or.inr rfl, trivial⟩
      refine T_icmp_eq (pc' := 37) dX3_openersAhead_19 (by decide) (pf := 22) rfl (fun c4 => ?_) (fun c4 => ?_)
      · skip
        exact T_wk (L' := [(2, 16), (0, v1), (0, v2), (0, v3)]) (by have q := HJ3; try simp only [if_pos c4] at q; exact q) ⟨Or.inr rfl, Or.inr rfl, Or.inr rfl, Or.inr rfl, trivial⟩
      · skip
        refine T_aload_n (i := 0) (pc' := 23) dX3_openersAhead_22 rfl rfl rfl ?_
        refine U_gr (q := 19) (k := 2) (kI := 2) (pc' := 26) dX3_openersAhead_23 rfl cl3 (by decide) rfl (by decide) flX3_18 rfl rfl rfl (G_at hG 24 rfl) (by decide) rfl ?_
        refine T_iload_n (i := 3) (pc' := 27) dX3_openersAhead_26 rfl rfl rfl ?_
        refine T_callSN (av := [(2, 19), (0, v3)]) (st := []) (d2 := 1) (nc2 := 0) (ns2 := 0) (pc' := 30) dX3_openersAhead_27 rfl mtX11_get mvX11_get mlX3_67 rfl rfl (Nat.le_of_ble_eq_true rfl) (by decide) ⟨by decide, by decide⟩ rfl (pX11_get (E := E) (h := h) (M := M) (p0 := 19) (np0 := 9) (v1 := v3) (by decide) rfl (by decide) hG) (kF (st2 := [(0, (fX11_get M 19 9 v3))]) rfl (fun hG5 => ?_))
        refine T_iload_n (i := 1) (pc' := 31) dX3_openersAhead_30 rfl rfl rfl ?_
        refine T_icmp_ge (pc' := 37) dX3_openersAhead_31 (by decide) (pf := 34) rfl (fun c6 => ?_) (fun c6 => ?_)
        · skip
          exact T_wk (L' := [(2, 16), (0, v1), (0, v2), (0, v3)]) (by have q := HJ3; try simp only [if_neg c4] at q; try simp only [if_pos c6] at q; exact q) ⟨Or.inr rfl, Or.inr rfl, Or.inr rfl, Or.inr rfl, trivial⟩
        · skip
          refine T_iinc (L' := [(2, 16), (0, v1), (0, (wr32 (v2 + 1))), (0, v3)]) (pc' := 37) dX3_openersAhead_34 rfl (by decide) rfl rfl ?_
          exact T_wk (L' := [(2, 16), (0, v1), (0, (wr32 (v2 + 1))), (0, v3)]) (by have q := HJ3; try simp only [if_neg c4] at q; try simp only [if_neg c6] at q; exact q) ⟨Or.inr rfl, Or.inr rfl, Or.inr rfl, Or.inr rfl, trivial⟩
def fX3_openersAhead (M : Mem) (v1 : Int) : Int :=
  (lX3_openersAhead_4 9 v1 0 0 M)
set_option maxRecDepth 100000 in
theorem pX3_openersAhead {E : EV} {h : Int} {M : Mem} {v1 : Int}  : C2 E miX3_openersAhead 2 h [(2, 16), (0, v1)] M (fun r M' => r = some (0, (fX3_openersAhead M v1)) ∧ M' = M) := by
  obtain ⟨Q, hQ0⟩ : ∃ Q : Option MV → Mem → Prop, Q = (fun r M' => r = some (0, (fX3_openersAhead M v1)) ∧ M' = M) := ⟨_, rfl⟩
  rw [← hQ0]
  have hQ : Q (some (0, (lX3_openersAhead_4 9 v1 0 0 M))) M := by rw [hQ0]; exact ⟨rfl, rfl⟩
  refine C2_of (L := [(2, 16), (0, v1), (3, 0), (3, 0)]) (by decide +kernel) (Nat.le_of_ble_eq_true rfl) rfl (fun hG => ?_)
  refine T_iconst (pc' := 1) dX3_openersAhead_0 (by decide) rfl ?_
  refine T_istore_n (i := 2) (L' := [(2, 16), (0, v1), (0, 0), (3, 0)]) (pc' := 2) dX3_openersAhead_1 rfl (by decide) rfl rfl ?_
  refine T_iconst (pc' := 3) dX3_openersAhead_2 (by decide) rfl ?_
  refine T_istore_n (i := 3) (L' := [(2, 16), (0, v1), (0, 0), (0, 0)]) (pc' := 4) dX3_openersAhead_3 rfl (by decide) rfl rfl ?_
  exact T_wk (qX3_openersAhead_4  9 v1 0 0 _ (by first | decide | omega) rfl hQ hG) ⟨Or.inr rfl, Or.inr rfl, Or.inr rfl, Or.inr rfl, trivial⟩
def lX3_lastOut_4  : Nat → Int → Int → Mem → Int
  | 0, v1, v2, M => v1
  | k + 1, v1, v2, M => (lX3_lastOut_4 k (if v1 < (fX11_get M 21 9 v2) then (fX11_get M 21 9 v2) else v1) (v2 + 1) M)
set_option maxRecDepth 100000 in
set_option maxHeartbeats 2000000 in
theorem qX3_lastOut_4 {E : EV} {h : Int} {Q : Option MV → Mem → Prop}   : ∀ (k : Nat) (v1 v2 : Int) (M : Mem), 0 ≤ v2 → ((9) - v2).toNat = k → Q (some (0, (lX3_lastOut_4 k v1 v2 M))) M → G h M → TG E miX3_lastOut 2 h Q 4 [(2, 16), (0, v1), (0, v2)] [] M := by
  intro k
  induction k with
  | zero =>
    intro v1 v2 M hv0 hk hQ hG
    have hQ : Q (some (0, v1)) M := hQ
    refine T_iload_n (i := 2) (pc' := 5) dX3_lastOut_4 rfl rfl rfl ?_
    refine T_bipush (pc' := 7) dX3_lastOut_5 rfl (by decide) rfl ?_
    refine T_rng (fun _ z9 _ => ?_)
    have hB : r32 9 := (ok_cons.mp z9).1
    unfold r32 at hB
    refine T_icmp_ge (pc' := 29) dX3_lastOut_7 (by decide) (pf := 10) rfl (fun c1 => ?_) (fun c1 => ?_)
    · skip
      refine T_iload_n (i := 1) (pc' := 30) dX3_lastOut_29 rfl rfl rfl ?_
      exact T_iret dX3_lastOut_30 rfl ⟨rfl, hG, hQ⟩
    · exact absurd c1 (by omega)
  | succ k ih =>
    intro v1 v2 M hv0 hk hQ hG
    have hQ : Q (some (0, (lX3_lastOut_4 k (if v1 < (fX11_get M 21 9 v2) then (fX11_get M 21 9 v2) else v1) (v2 + 1) M))) M := hQ
    refine T_iload_n (i := 2) (pc' := 5) dX3_lastOut_4 rfl rfl rfl ?_
    refine T_bipush (pc' := 7) dX3_lastOut_5 rfl (by decide) rfl ?_
    refine T_rng (fun _ z9 _ => ?_)
    have hB : r32 9 := (ok_cons.mp z9).1
    unfold r32 at hB
    refine T_icmp_ge (pc' := 29) dX3_lastOut_7 (by decide) (pf := 10) rfl (fun c1 => ?_) (fun c1 => ?_)
    · exact absurd c1 (by omega)
    · skip
      have hw : wr32 (v2 + 1) = v2 + 1 := wr32_id (by unfold r32; omega)
      refine T_iload_n (i := 1) (pc' := 11) dX3_lastOut_10 rfl rfl rfl ?_
      refine T_aload_n (i := 0) (pc' := 12) dX3_lastOut_11 rfl rfl rfl ?_
      refine U_gr (q := 21) (k := 4) (kI := 4) (pc' := 15) dX3_lastOut_12 rfl cl3 (by decide) rfl (by decide) flX3_24 rfl rfl rfl (G_at hG 26 rfl) (by decide) rfl ?_
      refine T_iload_n (i := 2) (pc' := 16) dX3_lastOut_15 rfl rfl rfl ?_
      refine T_callSN (av := [(2, 21), (0, v2)]) (st := [(0, v1)]) (d2 := 1) (nc2 := 0) (ns2 := 0) (pc' := 19) dX3_lastOut_16 rfl mtX11_get mvX11_get mlX3_67 rfl rfl (Nat.le_of_ble_eq_true rfl) (by decide) ⟨by decide, by decide⟩ rfl (pX11_get (E := E) (h := h) (M := M) (p0 := 21) (np0 := 9) (v1 := v2) (by decide) rfl (by decide) hG) (kF (st2 := [(0, (fX11_get M 21 9 v2)), (0, v1)]) rfl (fun hG2 => ?_))
      refine U_mmax (pc' := 22) dX3_lastOut_19 rfl mlX3_117 (Nat.le_of_ble_eq_true rfl) (by decide) ⟨by decide, by decide⟩ rfl ?_
      refine T_istore_n (i := 1) (L' := [(2, 16), (0, (if v1 < (fX11_get M 21 9 v2) then (fX11_get M 21 9 v2) else v1)), (0, v2)]) (pc' := 23) dX3_lastOut_22 rfl (by decide) rfl rfl ?_
      refine T_iinc (L' := [(2, 16), (0, (if v1 < (fX11_get M 21 9 v2) then (fX11_get M 21 9 v2) else v1)), (0, (wr32 (v2 + 1)))]) (pc' := 26) dX3_lastOut_23 rfl (by decide) rfl rfl ?_
      refine T_goto (pc' := 4) dX3_lastOut_26 (by decide) ?_
      rw [hw]
      exact T_wk (ih _ (v2 + 1) _ (by omega) (by omega) hQ hG) ⟨Or.inr rfl, Or.inr rfl, Or.inr rfl, trivial⟩
def fX3_lastOut (M : Mem) : Int :=
  (lX3_lastOut_4 9 (-1) 0 M)
set_option maxRecDepth 100000 in
theorem pX3_lastOut {E : EV} {h : Int} {M : Mem}   : C2 E miX3_lastOut 2 h [(2, 16)] M (fun r M' => r = some (0, (fX3_lastOut M)) ∧ M' = M) := by
  obtain ⟨Q, hQ0⟩ : ∃ Q : Option MV → Mem → Prop, Q = (fun r M' => r = some (0, (fX3_lastOut M)) ∧ M' = M) := ⟨_, rfl⟩
  rw [← hQ0]
  have hQ : Q (some (0, (lX3_lastOut_4 9 (-1) 0 M))) M := by rw [hQ0]; exact ⟨rfl, rfl⟩
  refine C2_of (L := [(2, 16), (3, 0), (3, 0)]) (by decide +kernel) (Nat.le_of_ble_eq_true rfl) rfl (fun hG => ?_)
  refine T_iconst (pc' := 1) dX3_lastOut_0 (by decide) rfl ?_
  refine T_istore_n (i := 1) (L' := [(2, 16), (0, (-1)), (3, 0)]) (pc' := 2) dX3_lastOut_1 rfl (by decide) rfl rfl ?_
  refine T_iconst (pc' := 3) dX3_lastOut_2 (by decide) rfl ?_
  refine T_istore_n (i := 2) (L' := [(2, 16), (0, (-1)), (0, 0)]) (pc' := 4) dX3_lastOut_3 rfl (by decide) rfl rfl ?_
  exact T_wk (qX3_lastOut_4  9 (-1) 0 _ (by first | decide | omega) rfl hQ hG) ⟨Or.inr rfl, Or.inr rfl, Or.inr rfl, trivial⟩
def lX3_outBy_4  : Nat → Int → Int → Int → Mem → Int
  | 0, v1, v2, v3, M => v2
  | k + 1, v1, v2, v3, M => (lX3_outBy_4 k v1 (if (fX11_get M 22 9 v3) = v1 then (wr32 (v2 + 1)) else v2) (v3 + 1) M)
set_option maxRecDepth 100000 in
set_option maxHeartbeats 2000000 in
theorem qX3_outBy_4 {E : EV} {h : Int} {Q : Option MV → Mem → Prop}   : ∀ (k : Nat) (v1 v2 v3 : Int) (M : Mem), 0 ≤ v3 → ((9) - v3).toNat = k → Q (some (0, (lX3_outBy_4 k v1 v2 v3 M))) M → G h M → TG E miX3_outBy 2 h Q 4 [(2, 16), (0, v1), (0, v2), (0, v3)] [] M := by
  intro k
  induction k with
  | zero =>
    intro v1 v2 v3 M hv0 hk hQ hG
    have hQ : Q (some (0, v2)) M := hQ
    refine T_iload_n (i := 3) (pc' := 5) dX3_outBy_4 rfl rfl rfl ?_
    refine T_bipush (pc' := 7) dX3_outBy_5 rfl (by decide) rfl ?_
    refine T_rng (fun _ z9 _ => ?_)
    have hB : r32 9 := (ok_cons.mp z9).1
    unfold r32 at hB
    refine T_icmp_ge (pc' := 31) dX3_outBy_7 (by decide) (pf := 10) rfl (fun c1 => ?_) (fun c1 => ?_)
    · skip
      refine T_iload_n (i := 2) (pc' := 32) dX3_outBy_31 rfl rfl rfl ?_
      exact T_iret dX3_outBy_32 rfl ⟨rfl, hG, hQ⟩
    · exact absurd c1 (by omega)
  | succ k ih =>
    intro v1 v2 v3 M hv0 hk hQ hG
    have hQ : Q (some (0, (lX3_outBy_4 k v1 (if (fX11_get M 22 9 v3) = v1 then (wr32 (v2 + 1)) else v2) (v3 + 1) M))) M := hQ
    refine T_iload_n (i := 3) (pc' := 5) dX3_outBy_4 rfl rfl rfl ?_
    refine T_bipush (pc' := 7) dX3_outBy_5 rfl (by decide) rfl ?_
    refine T_rng (fun _ z9 _ => ?_)
    have hB : r32 9 := (ok_cons.mp z9).1
    unfold r32 at hB
    refine T_icmp_ge (pc' := 31) dX3_outBy_7 (by decide) (pf := 10) rfl (fun c1 => ?_) (fun c1 => ?_)
    · exact absurd c1 (by omega)
    · skip
      have hw : wr32 (v3 + 1) = v3 + 1 := wr32_id (by unfold r32; omega)
      refine T_aload_n (i := 0) (pc' := 11) dX3_outBy_10 rfl rfl rfl ?_
      refine U_gr (q := 22) (k := 5) (kI := 5) (pc' := 14) dX3_outBy_11 rfl cl3 (by decide) rfl (by decide) flX3_27 rfl rfl rfl (G_at hG 27 rfl) (by decide) rfl ?_
      refine T_iload_n (i := 3) (pc' := 15) dX3_outBy_14 rfl rfl rfl ?_
      refine T_callSN (av := [(2, 22), (0, v3)]) (st := []) (d2 := 1) (nc2 := 0) (ns2 := 0) (pc' := 18) dX3_outBy_15 rfl mtX11_get mvX11_get mlX3_67 rfl rfl (Nat.le_of_ble_eq_true rfl) (by decide) ⟨by decide, by decide⟩ rfl (pX11_get (E := E) (h := h) (M := M) (p0 := 22) (np0 := 9) (v1 := v3) (by decide) rfl (by decide) hG) (kF (st2 := [(0, (fX11_get M 22 9 v3))]) rfl (fun hG2 => ?_))
      refine T_iload_n (i := 1) (pc' := 19) dX3_outBy_18 rfl rfl rfl ?_
      have HJ3 : T E miX3_outBy 2 126 0 0 (fun r S M' => S = S0 ∧ G h M' ∧ Q r M') 25 [(2, 16), (0, v1), (0, (if (fX11_get M 22 9 v3) = v1 then (wr32 (v2 + 1)) else v2)), (0, v3)] [] S0 M 0 0 := by
        refine T_iinc (L' := [(2, 16), (0, v1), (0, (if (fX11_get M 22 9 v3) = v1 then (wr32 (v2 + 1)) else v2)), (0, (wr32 (v3 + 1)))]) (pc' := 28) dX3_outBy_25 rfl (by decide) rfl rfl ?_
        refine T_goto (pc' := 4) dX3_outBy_28 (by decide) ?_
        rw [hw]
        exact T_wk (ih _ _ (v3 + 1) _ (by omega) (by omega) hQ hG) ⟨Or.inr rfl, Or.inr rfl, Or.inr rfl, Or.inr rfl, trivial⟩
      refine T_icmp_ne (pc' := 25) dX3_outBy_19 (by decide) (pf := 22) rfl (fun c4 => ?_) (fun c4 => ?_)
      · skip
        exact T_wk (L' := [(2, 16), (0, v1), (0, v2), (0, v3)]) (by have q := HJ3; try simp only [if_neg c4] at q; exact q) ⟨Or.inr rfl, Or.inr rfl, Or.inr rfl, Or.inr rfl, trivial⟩
      · skip
        refine T_iinc (L' := [(2, 16), (0, v1), (0, (wr32 (v2 + 1))), (0, v3)]) (pc' := 25) dX3_outBy_22 rfl (by decide) rfl rfl ?_
        exact T_wk (L' := [(2, 16), (0, v1), (0, (wr32 (v2 + 1))), (0, v3)]) (by have q := HJ3; try simp only [if_pos c4] at q; exact q) ⟨Or.inr rfl, Or.inr rfl, Or.inr rfl, Or.inr rfl, trivial⟩
def fX3_outBy (M : Mem) (v1 : Int) : Int :=
  (lX3_outBy_4 9 v1 0 0 M)
set_option maxRecDepth 100000 in
theorem pX3_outBy {E : EV} {h : Int} {M : Mem} {v1 : Int}  : C2 E miX3_outBy 2 h [(2, 16), (0, v1)] M (fun r M' => r = some (0, (fX3_outBy M v1)) ∧ M' = M) := by
  obtain ⟨Q, hQ0⟩ : ∃ Q : Option MV → Mem → Prop, Q = (fun r M' => r = some (0, (fX3_outBy M v1)) ∧ M' = M) := ⟨_, rfl⟩
  rw [← hQ0]
  have hQ : Q (some (0, (lX3_outBy_4 9 v1 0 0 M))) M := by rw [hQ0]; exact ⟨rfl, rfl⟩
  refine C2_of (L := [(2, 16), (0, v1), (3, 0), (3, 0)]) (by decide +kernel) (Nat.le_of_ble_eq_true rfl) rfl (fun hG => ?_)
  refine T_iconst (pc' := 1) dX3_outBy_0 (by decide) rfl ?_
  refine T_istore_n (i := 2) (L' := [(2, 16), (0, v1), (0, 0), (3, 0)]) (pc' := 2) dX3_outBy_1 rfl (by decide) rfl rfl ?_
  refine T_iconst (pc' := 3) dX3_outBy_2 (by decide) rfl ?_
  refine T_istore_n (i := 3) (L' := [(2, 16), (0, v1), (0, 0), (0, 0)]) (pc' := 4) dX3_outBy_3 rfl (by decide) rfl rfl ?_
  exact T_wk (qX3_outBy_4  9 v1 0 0 _ (by first | decide | omega) rfl hQ hG) ⟨Or.inr rfl, Or.inr rfl, Or.inr rfl, Or.inr rfl, trivial⟩
def lX3_lastOutBy_4  : Nat → Int → Int → Int → Mem → Int
  | 0, v1, v2, v3, M => v2
  | k + 1, v1, v2, v3, M => (lX3_lastOutBy_4 k v1 (if (fX11_get M 22 9 v3) = v1 then (if v2 < (fX11_get M 21 9 v3) then (fX11_get M 21 9 v3) else v2) else v2) (v3 + 1) M)
set_option maxRecDepth 100000 in
set_option maxHeartbeats 2000000 in
theorem qX3_lastOutBy_4 {E : EV} {h : Int} {Q : Option MV → Mem → Prop}   : ∀ (k : Nat) (v1 v2 v3 : Int) (M : Mem), 0 ≤ v3 → ((9) - v3).toNat = k → Q (some (0, (lX3_lastOutBy_4 k v1 v2 v3 M))) M → G h M → TG E miX3_lastOutBy 2 h Q 4 [(2, 16), (0, v1), (0, v2), (0, v3)] [] M := by
  intro k
  induction k with
  | zero =>
    intro v1 v2 v3 M hv0 hk hQ hG
    have hQ : Q (some (0, v2)) M := hQ
    refine T_iload_n (i := 3) (pc' := 5) dX3_lastOutBy_4 rfl rfl rfl ?_
    refine T_bipush (pc' := 7) dX3_lastOutBy_5 rfl (by decide) rfl ?_
    refine T_rng (fun _ z9 _ => ?_)
    have hB : r32 9 := (ok_cons.mp z9).1
    unfold r32 at hB
    refine T_icmp_ge (pc' := 41) dX3_lastOutBy_7 (by decide) (pf := 10) rfl (fun c1 => ?_) (fun c1 => ?_)
    · skip
      refine T_iload_n (i := 2) (pc' := 42) dX3_lastOutBy_41 rfl rfl rfl ?_
      exact T_iret dX3_lastOutBy_42 rfl ⟨rfl, hG, hQ⟩
    · exact absurd c1 (by omega)
  | succ k ih =>
    intro v1 v2 v3 M hv0 hk hQ hG
    have hQ : Q (some (0, (lX3_lastOutBy_4 k v1 (if (fX11_get M 22 9 v3) = v1 then (if v2 < (fX11_get M 21 9 v3) then (fX11_get M 21 9 v3) else v2) else v2) (v3 + 1) M))) M := hQ
    refine T_iload_n (i := 3) (pc' := 5) dX3_lastOutBy_4 rfl rfl rfl ?_
    refine T_bipush (pc' := 7) dX3_lastOutBy_5 rfl (by decide) rfl ?_
    refine T_rng (fun _ z9 _ => ?_)
    have hB : r32 9 := (ok_cons.mp z9).1
    unfold r32 at hB
    refine T_icmp_ge (pc' := 41) dX3_lastOutBy_7 (by decide) (pf := 10) rfl (fun c1 => ?_) (fun c1 => ?_)
    · exact absurd c1 (by omega)
    · skip
      have hw : wr32 (v3 + 1) = v3 + 1 := wr32_id (by unfold r32; omega)
      refine T_aload_n (i := 0) (pc' := 11) dX3_lastOutBy_10 rfl rfl rfl ?_
      refine U_gr (q := 22) (k := 5) (kI := 5) (pc' := 14) dX3_lastOutBy_11 rfl cl3 (by decide) rfl (by decide) flX3_27 rfl rfl rfl (G_at hG 27 rfl) (by decide) rfl ?_
      refine T_iload_n (i := 3) (pc' := 15) dX3_lastOutBy_14 rfl rfl rfl ?_
      refine T_callSN (av := [(2, 22), (0, v3)]) (st := []) (d2 := 1) (nc2 := 0) (ns2 := 0) (pc' := 18) dX3_lastOutBy_15 rfl mtX11_get mvX11_get mlX3_67 rfl rfl (Nat.le_of_ble_eq_true rfl) (by decide) ⟨by decide, by decide⟩ rfl (pX11_get (E := E) (h := h) (M := M) (p0 := 22) (np0 := 9) (v1 := v3) (by decide) rfl (by decide) hG) (kF (st2 := [(0, (fX11_get M 22 9 v3))]) rfl (fun hG2 => ?_))
      refine T_iload_n (i := 1) (pc' := 19) dX3_lastOutBy_18 rfl rfl rfl ?_
      have HJ3 : T E miX3_lastOutBy 2 126 0 0 (fun r S M' => S = S0 ∧ G h M' ∧ Q r M') 35 [(2, 16), (0, v1), (0, (if (fX11_get M 22 9 v3) = v1 then (if v2 < (fX11_get M 21 9 v3) then (fX11_get M 21 9 v3) else v2) else v2)), (0, v3)] [] S0 M 0 0 := by
        refine T_iinc (L' := [(2, 16), (0, v1), (0, (if (fX11_get M 22 9 v3) = v1 then (if v2 < (fX11_get M 21 9 v3) then (fX11_get M 21 9 v3) else v2) else v2)), (0, (wr32 (v3 + 1)))]) (pc' := 38) dX3_lastOutBy_35 rfl (by decide) rfl rfl ?_
        refine T_goto (pc' := 4) dX3_lastOutBy_38 (by decide) ?_
        rw [hw]
        exact T_wk (ih _ _ (v3 + 1) _ (by omega) (by omega) hQ hG) ⟨Or.inr rfl, Or.inr rfl, Or.inr rfl, Or.inr rfl, trivial⟩
      refine T_icmp_ne (pc' := 35) dX3_lastOutBy_19 (by decide) (pf := 22) rfl (fun c4 => ?_) (fun c4 => ?_)
      · skip
        exact T_wk (L' := [(2, 16), (0, v1), (0, v2), (0, v3)]) (by have q := HJ3; try simp only [if_neg c4] at q; exact q) ⟨Or.inr rfl, Or.inr rfl, Or.inr rfl, Or.inr rfl, trivial⟩
      · skip
        refine T_iload_n (i := 2) (pc' := 23) dX3_lastOutBy_22 rfl rfl rfl ?_
        refine T_aload_n (i := 0) (pc' := 24) dX3_lastOutBy_23 rfl rfl rfl ?_
        refine U_gr (q := 21) (k := 4) (kI := 4) (pc' := 27) dX3_lastOutBy_24 rfl cl3 (by decide) rfl (by decide) flX3_24 rfl rfl rfl (G_at hG 26 rfl) (by decide) rfl ?_
        refine T_iload_n (i := 3) (pc' := 28) dX3_lastOutBy_27 rfl rfl rfl ?_
        refine T_callSN (av := [(2, 21), (0, v3)]) (st := [(0, v2)]) (d2 := 1) (nc2 := 0) (ns2 := 0) (pc' := 31) dX3_lastOutBy_28 rfl mtX11_get mvX11_get mlX3_67 rfl rfl (Nat.le_of_ble_eq_true rfl) (by decide) ⟨by decide, by decide⟩ rfl (pX11_get (E := E) (h := h) (M := M) (p0 := 21) (np0 := 9) (v1 := v3) (by decide) rfl (by decide) hG) (kF (st2 := [(0, (fX11_get M 21 9 v3)), (0, v2)]) rfl (fun hG5 => ?_))
        refine U_mmax (pc' := 34) dX3_lastOutBy_31 rfl mlX3_117 (Nat.le_of_ble_eq_true rfl) (by decide) ⟨by decide, by decide⟩ rfl ?_
        refine T_istore_n (i := 2) (L' := [(2, 16), (0, v1), (0, (if v2 < (fX11_get M 21 9 v3) then (fX11_get M 21 9 v3) else v2)), (0, v3)]) (pc' := 35) dX3_lastOutBy_34 rfl (by decide) rfl rfl ?_
        exact T_wk (L' := [(2, 16), (0, v1), (0, (if v2 < (fX11_get M 21 9 v3) then (fX11_get M 21 9 v3) else v2)), (0, v3)]) (by have q := HJ3; try simp only [if_pos c4] at q; exact q) ⟨Or.inr rfl, Or.inr rfl, Or.inr rfl, Or.inr rfl, trivial⟩
def fX3_lastOutBy (M : Mem) (v1 : Int) : Int :=
  (lX3_lastOutBy_4 9 v1 (-1) 0 M)
set_option maxRecDepth 100000 in
theorem pX3_lastOutBy {E : EV} {h : Int} {M : Mem} {v1 : Int}  : C2 E miX3_lastOutBy 2 h [(2, 16), (0, v1)] M (fun r M' => r = some (0, (fX3_lastOutBy M v1)) ∧ M' = M) := by
  obtain ⟨Q, hQ0⟩ : ∃ Q : Option MV → Mem → Prop, Q = (fun r M' => r = some (0, (fX3_lastOutBy M v1)) ∧ M' = M) := ⟨_, rfl⟩
  rw [← hQ0]
  have hQ : Q (some (0, (lX3_lastOutBy_4 9 v1 (-1) 0 M))) M := by rw [hQ0]; exact ⟨rfl, rfl⟩
  refine C2_of (L := [(2, 16), (0, v1), (3, 0), (3, 0)]) (by decide +kernel) (Nat.le_of_ble_eq_true rfl) rfl (fun hG => ?_)
  refine T_iconst (pc' := 1) dX3_lastOutBy_0 (by decide) rfl ?_
  refine T_istore_n (i := 2) (L' := [(2, 16), (0, v1), (0, (-1)), (3, 0)]) (pc' := 2) dX3_lastOutBy_1 rfl (by decide) rfl rfl ?_
  refine T_iconst (pc' := 3) dX3_lastOutBy_2 (by decide) rfl ?_
  refine T_istore_n (i := 3) (L' := [(2, 16), (0, v1), (0, (-1)), (0, 0)]) (pc' := 4) dX3_lastOutBy_3 rfl (by decide) rfl rfl ?_
  exact T_wk (qX3_lastOutBy_4  9 v1 (-1) 0 _ (by first | decide | omega) rfl hQ hG) ⟨Or.inr rfl, Or.inr rfl, Or.inr rfl, Or.inr rfl, trivial⟩
def fX4_has (M : Mem) (g : Int) (v1 : Int) : Int :=
  (if v1 < 0 then (0 : Int) else (if (M (g + 1) 8) ≤ v1 then (0 : Int) else 1))
set_option maxRecDepth 100000 in
theorem pX4_has {E : EV} {h : Int} {M : Mem} {g : Int} {v1 : Int} (hg : isG g) : C2 E miX4_has 1 h [(2, (g + 1)), (0, v1)] M (fun r M' => r = some (0, (fX4_has M g v1)) ∧ M' = M) := by
  obtain ⟨Q, hQ⟩ : ∃ Q : Option MV → Mem → Prop, Q = (fun r M' => r = some (0, (fX4_has M g v1)) ∧ M' = M) := ⟨_, rfl⟩
  rw [← hQ]
  refine C2_of (L := [(2, (g + 1)), (0, v1)]) (by decide +kernel) (Nat.le_of_ble_eq_true rfl) rfl (fun hG => ?_)
  refine T_iload_n (i := 1) (pc' := 1) dX4_has_0 rfl rfl rfl ?_
  have HJ1 : T E miX4_has 1 126 0 0 (fun r S M' => S = S0 ∧ G h M' ∧ Q r M') 17 [(3, 0), (3, 0)] [(0, (if v1 < 0 then (0 : Int) else (if (M (g + 1) 8) ≤ v1 then (0 : Int) else 1)))] S0 M 0 0 := by
    exact T_zret dX4_has_17 rfl (by repeat' (first | apply bi | exact Or.inl rfl | exact Or.inr rfl)) ⟨rfl, hG, (by rw [hQ]; exact ⟨rfl, rfl⟩)⟩
  refine T_if_lt (pc' := 16) dX4_has_1 (by decide) (pf := 4) rfl (fun c2 => ?_) (fun c2 => ?_)
  · skip
    refine T_iconst (pc' := 17) dX4_has_16 (by decide) rfl ?_
    exact T_wk (L' := [(3, 0), (3, 0)]) (by have q := HJ1; try simp only [if_pos c2] at q; exact q) ⟨Or.inl rfl, Or.inl rfl, trivial⟩
  · skip
    refine T_iload_n (i := 1) (pc' := 5) dX4_has_4 rfl rfl rfl ?_
    refine T_aload_n (i := 0) (pc' := 6) dX4_has_5 rfl rfl rfl ?_
    refine U_gf (v := (0, (M (g + 1) 8))) (k := 8) (kI := 8) (pc' := 9) dX4_has_6 rfl cl4 (pog1 hg) (shg1 hg) (by decide) flX4_37 rfl rfl (by decide) rfl rfl ?_
    refine T_icmp_ge (pc' := 16) dX4_has_9 (by decide) (pf := 12) rfl (fun c3 => ?_) (fun c3 => ?_)
    · skip
      refine T_iconst (pc' := 17) dX4_has_16 (by decide) rfl ?_
      exact T_wk (L' := [(3, 0), (3, 0)]) (by have q := HJ1; try simp only [if_neg c2] at q; try simp only [if_pos c3] at q; exact q) ⟨Or.inl rfl, Or.inl rfl, trivial⟩
    · skip
      refine T_iconst (pc' := 13) dX4_has_12 (by decide) rfl ?_
      refine T_goto (pc' := 17) dX4_has_13 (by decide) ?_
      exact T_wk (L' := [(3, 0), (3, 0)]) (by have q := HJ1; try simp only [if_neg c2] at q; try simp only [if_neg c3] at q; exact q) ⟨Or.inl rfl, Or.inl rfl, trivial⟩
theorem fbX4_has (M : Mem) (g : Int) (v1 : Int) : (fX4_has M g v1) = 0 ∨ (fX4_has M g v1) = 1 := by
  unfold fX4_has
  repeat' (first | apply bi | exact Or.inl rfl | exact Or.inr rfl)
def fX4_all (M : Mem) (g : Int) : Int :=
  (wr32 ((m_shl 1 (M (g + 1) 8)) - 1))
set_option maxRecDepth 100000 in
theorem pX4_all {E : EV} {h : Int} {M : Mem} {g : Int} (hg : isG g) : C2 E miX4_all 1 h [(2, (g + 1))] M (fun r M' => r = some (0, (fX4_all M g)) ∧ M' = M) := by
  obtain ⟨Q, hQ⟩ : ∃ Q : Option MV → Mem → Prop, Q = (fun r M' => r = some (0, (fX4_all M g)) ∧ M' = M) := ⟨_, rfl⟩
  rw [← hQ]
  refine C2_of (L := [(2, (g + 1))]) (by decide +kernel) (Nat.le_of_ble_eq_true rfl) rfl (fun hG => ?_)
  refine T_iconst (pc' := 1) dX4_all_0 (by decide) rfl ?_
  refine T_aload_n (i := 0) (pc' := 2) dX4_all_1 rfl rfl rfl ?_
  refine U_gf (v := (0, (M (g + 1) 8))) (k := 8) (kI := 8) (pc' := 5) dX4_all_2 rfl cl4 (pog1 hg) (shg1 hg) (by decide) flX4_37 rfl rfl (by decide) rfl rfl ?_
  refine T_ishl (pc' := 6) dX4_all_5 rfl ?_
  refine T_iconst (pc' := 7) dX4_all_6 (by decide) rfl ?_
  refine T_isub (pc' := 8) dX4_all_7 rfl ?_
  exact T_iret dX4_all_8 rfl ⟨rfl, hG, (by rw [hQ]; exact ⟨rfl, rfl⟩)⟩
def fX4_stepOf (M : Mem) (g : Int) (v1 : Int) (v2 : Int) : Int :=
  (if (fX11_get M (g + 7) 9 v1) ≤ 0 then ((-1) : Int) else (fX11_get M (g + 8) 108 (wr32 ((wr32 (v1 * 12)) + (Int.tmod v2 (fX11_get M (g + 7) 9 v1))))))
set_option maxRecDepth 100000 in
theorem pX4_stepOf {E : EV} {h : Int} {M : Mem} {g : Int} {v1 : Int} {v2 : Int} (hg : isG g) : C2 E miX4_stepOf 2 h [(2, (g + 1)), (0, v1), (0, v2)] M (fun r M' => r = some (0, (fX4_stepOf M g v1 v2)) ∧ M' = M) := by
  obtain ⟨Q, hQ⟩ : ∃ Q : Option MV → Mem → Prop, Q = (fun r M' => r = some (0, (fX4_stepOf M g v1 v2)) ∧ M' = M) := ⟨_, rfl⟩
  rw [← hQ]
  refine C2_of (L := [(2, (g + 1)), (0, v1), (0, v2), (3, 0)]) (by decide +kernel) (Nat.le_of_ble_eq_true rfl) rfl (fun hG => ?_)
  refine T_aload_n (i := 0) (pc' := 1) dX4_stepOf_0 rfl rfl rfl ?_
  refine U_gr (q := (g + 7)) (k := 5) (kI := 5) (pc' := 4) dX4_stepOf_1 rfl cl4 (pog1 hg) (shg1 hg) (by decide) flX4_27 rfl rfl rfl (grg1_5 hg hG) (pog7 hg) rfl ?_
  refine T_iload_n (i := 1) (pc' := 5) dX4_stepOf_4 rfl rfl rfl ?_
  refine T_callSN (av := [(2, (g + 7)), (0, v1)]) (st := []) (d2 := 1) (nc2 := 0) (ns2 := 0) (pc' := 8) dX4_stepOf_5 rfl mtX11_get mvX11_get mlX4_44 rfl rfl (Nat.le_of_ble_eq_true rfl) (by decide) ⟨by decide, by decide⟩ rfl (pX11_get (E := E) (h := h) (M := M) (p0 := (g + 7)) (np0 := 9) (v1 := v1) (pog7 hg) (shg7 hg) (by decide) hG) (kF (st2 := [(0, (fX11_get M (g + 7) 9 v1))]) rfl (fun hG1 => ?_))
  refine T_istore_n (i := 3) (L' := [(2, (g + 1)), (0, v1), (0, v2), (0, (fX11_get M (g + 7) 9 v1))]) (pc' := 9) dX4_stepOf_8 rfl (by decide) rfl rfl ?_
  refine T_iload_n (i := 3) (pc' := 10) dX4_stepOf_9 rfl rfl rfl ?_
  have HJ2 : T E miX4_stepOf 2 126 0 0 (fun r S M' => S = S0 ∧ G h M' ∧ Q r M') 32 [(3, 0), (3, 0), (3, 0), (3, 0)] [(0, (if (fX11_get M (g + 7) 9 v1) ≤ 0 then ((-1) : Int) else (fX11_get M (g + 8) 108 (wr32 ((wr32 (v1 * 12)) + (Int.tmod v2 (fX11_get M (g + 7) 9 v1)))))))] S0 M 0 0 := by
    exact T_iret dX4_stepOf_32 rfl ⟨rfl, hG, (by rw [hQ]; exact ⟨rfl, rfl⟩)⟩
  refine T_if_le (pc' := 31) dX4_stepOf_10 (by decide) (pf := 13) rfl (fun c3 => ?_) (fun c3 => ?_)
  · skip
    refine T_iconst (pc' := 32) dX4_stepOf_31 (by decide) rfl ?_
    exact T_wk (L' := [(3, 0), (3, 0), (3, 0), (3, 0)]) (by have q := HJ2; try simp only [if_pos c3] at q; exact q) ⟨Or.inl rfl, Or.inl rfl, Or.inl rfl, Or.inl rfl, trivial⟩
  · skip
    refine T_aload_n (i := 0) (pc' := 14) dX4_stepOf_13 rfl rfl rfl ?_
    refine U_gr (q := (g + 8)) (k := 6) (kI := 6) (pc' := 17) dX4_stepOf_14 rfl cl4 (pog1 hg) (shg1 hg) (by decide) flX4_30 rfl rfl rfl (grg1_6 hg hG) (pog8 hg) rfl ?_
    refine T_iload_n (i := 1) (pc' := 18) dX4_stepOf_17 rfl rfl rfl ?_
    refine T_bipush (pc' := 20) dX4_stepOf_18 rfl (by decide) rfl ?_
    refine T_imul (pc' := 21) dX4_stepOf_20 rfl ?_
    refine T_iload_n (i := 2) (pc' := 22) dX4_stepOf_21 rfl rfl rfl ?_
    refine T_iload_n (i := 3) (pc' := 23) dX4_stepOf_22 rfl rfl rfl ?_
    refine T_irem (pc' := 24) dX4_stepOf_23 (by omega) rfl ?_
    refine T_iadd (pc' := 25) dX4_stepOf_24 rfl ?_
    refine T_callSN (av := [(2, (g + 8)), (0, (wr32 ((wr32 (v1 * 12)) + (Int.tmod v2 (fX11_get M (g + 7) 9 v1)))))]) (st := []) (d2 := 1) (nc2 := 0) (ns2 := 0) (pc' := 28) dX4_stepOf_25 rfl mtX11_get mvX11_get mlX4_44 rfl rfl (Nat.le_of_ble_eq_true rfl) (by decide) ⟨by decide, by decide⟩ rfl (pX11_get (E := E) (h := h) (M := M) (p0 := (g + 8)) (np0 := 108) (v1 := (wr32 ((wr32 (v1 * 12)) + (Int.tmod v2 (fX11_get M (g + 7) 9 v1))))) (pog8 hg) (shg8 hg) (by decide) hG) (kF (st2 := [(0, (fX11_get M (g + 8) 108 (wr32 ((wr32 (v1 * 12)) + (Int.tmod v2 (fX11_get M (g + 7) 9 v1))))))]) rfl (fun hG4 => ?_))
    refine T_goto (pc' := 32) dX4_stepOf_28 (by decide) ?_
    exact T_wk (L' := [(3, 0), (3, 0), (3, 0), (3, 0)]) (by have q := HJ2; try simp only [if_neg c3] at q; exact q) ⟨Or.inl rfl, Or.inl rfl, Or.inl rfl, Or.inl rfl, trivial⟩
def fmX5_clear (M : Mem) : Mem :=
  (mset M 6 2 0)
theorem gX5_clear {h : Int} {M : Mem}   (hG : G h M) : G h (fmX5_clear M) := by
  unfold fmX5_clear
  exact (G_fld (x := 6) (i := 2) (y := 0) rfl (by decide) (by decide) (by decide) hG)
set_option maxRecDepth 100000 in
theorem pX5_clear {E : EV} {h : Int} {M : Mem}   : C2 E miX5_clear 1 h [(2, 6)] M (fun r M' => r = none ∧ M' = (fmX5_clear M)) := by
  obtain ⟨Q, hQ⟩ : ∃ Q : Option MV → Mem → Prop, Q = (fun r M' => r = none ∧ M' = (fmX5_clear M)) := ⟨_, rfl⟩
  rw [← hQ]
  refine C2_of (L := [(2, 6)]) (by decide +kernel) (Nat.le_of_ble_eq_true rfl) rfl (fun hG => ?_)
  refine T_aload_n (i := 0) (pc' := 1) dX5_clear_0 rfl rfl rfl ?_
  refine T_iconst (pc' := 2) dX5_clear_1 (by decide) rfl ?_
  refine U_pf (y := 0) (k := 2) (kI := 2) (pc' := 5) dX5_clear_2 rfl cl5 (by decide) rfl (by decide) flX5_18 rfl rfl rfl rfl rfl (by decide) (fun z => z) rfl ?_
  exact T_vret dX5_clear_5 rfl ⟨rfl, (G_fld (x := 6) (i := 2) (y := 0) rfl (by decide) (by decide) (by decide) hG), (by rw [hQ]; exact ⟨rfl, rfl⟩)⟩
theorem frX5_clear {M : Mem} {q : Int} (hq0 : q ≠ 6) : (fmX5_clear M) q = M q := by
  unfold fmX5_clear
  exact ((mset_p hq0).trans rfl)
def fmX5_add (M : Mem) (v1 : Int) (v2 : Int) : Mem :=
  (mset (fmX11_put M 7 1600 (M 6 2) (wr32 ((wr32 (v1 * 10000)) + v2))) 6 2 (wr32 (((fmX11_put M 7 1600 (M 6 2) (wr32 ((wr32 (v1 * 10000)) + v2))) 6 2) + 1)))
theorem gX5_add {h : Int} {M : Mem} {v1 : Int} {v2 : Int}  (hG : G h M) : G h (fmX5_add M v1 v2) := by
  unfold fmX5_add
  exact (G_fld (x := 6) (i := 2) (y := (wr32 (((fmX11_put M 7 1600 (M 6 2) (wr32 ((wr32 (v1 * 10000)) + v2))) 6 2) + 1))) rfl (by decide) (by decide) (by decide) (gX11_put (h := h) (M := M) (p0 := 7) (np0 := 1600) (v1 := (M 6 2)) (v2 := (wr32 ((wr32 (v1 * 10000)) + v2))) (by decide) rfl (by decide) hG))
set_option maxRecDepth 100000 in
theorem pX5_add {E : EV} {h : Int} {M : Mem} {v1 : Int} {v2 : Int}  : C2 E miX5_add 2 h [(2, 6), (0, v1), (0, v2)] M (fun r M' => r = none ∧ M' = (fmX5_add M v1 v2)) := by
  obtain ⟨Q, hQ⟩ : ∃ Q : Option MV → Mem → Prop, Q = (fun r M' => r = none ∧ M' = (fmX5_add M v1 v2)) := ⟨_, rfl⟩
  rw [← hQ]
  refine C2_of (L := [(2, 6), (0, v1), (0, v2)]) (by decide +kernel) (Nat.le_of_ble_eq_true rfl) rfl (fun hG => ?_)
  refine T_aload_n (i := 0) (pc' := 1) dX5_add_0 rfl rfl rfl ?_
  refine U_gr (q := 7) (k := 0) (kI := 0) (pc' := 4) dX5_add_1 rfl cl5 (by decide) rfl (by decide) flX5_9 rfl rfl rfl (G_at hG 14 rfl) (by decide) rfl ?_
  refine T_aload_n (i := 0) (pc' := 5) dX5_add_4 rfl rfl rfl ?_
  refine U_gf (v := (0, (M 6 2))) (k := 2) (kI := 2) (pc' := 8) dX5_add_5 rfl cl5 (by decide) rfl (by decide) flX5_18 rfl rfl (by decide) rfl rfl ?_
  refine T_iload_n (i := 1) (pc' := 9) dX5_add_8 rfl rfl rfl ?_
  refine T_sipush (pc' := 12) dX5_add_9 rfl (by decide) rfl ?_
  refine T_imul (pc' := 13) dX5_add_12 rfl ?_
  refine T_iload_n (i := 2) (pc' := 14) dX5_add_13 rfl rfl rfl ?_
  refine T_iadd (pc' := 15) dX5_add_14 rfl ?_
  refine T_callSN (av := [(2, 7), (0, (M 6 2)), (0, (wr32 ((wr32 (v1 * 10000)) + v2)))]) (st := []) (d2 := 1) (nc2 := 0) (ns2 := 0) (pc' := 18) dX5_add_15 rfl mtX11_put mvX11_put mlX5_25 rfl rfl (Nat.le_of_ble_eq_true rfl) (by decide) ⟨by decide, by decide⟩ rfl (pX11_put (E := E) (h := h) (M := M) (p0 := 7) (np0 := 1600) (v1 := (M 6 2)) (v2 := (wr32 ((wr32 (v1 * 10000)) + v2))) (by decide) rfl (by decide) hG) (kF (st2 := []) rfl (fun hG1 => ?_))
  refine T_aload_n (i := 0) (pc' := 19) dX5_add_18 rfl rfl rfl ?_
  refine T_dup (pc' := 20) dX5_add_19 (Nat.ne_of_beq_eq_false rfl) rfl ?_
  refine U_gf (v := (0, ((fmX11_put M 7 1600 (M 6 2) (wr32 ((wr32 (v1 * 10000)) + v2))) 6 2))) (k := 2) (kI := 2) (pc' := 23) dX5_add_20 rfl cl5 (by decide) rfl (by decide) flX5_18 rfl rfl (by decide) rfl rfl ?_
  refine T_iconst (pc' := 24) dX5_add_23 (by decide) rfl ?_
  refine T_iadd (pc' := 25) dX5_add_24 rfl ?_
  refine U_pf (y := (wr32 (((fmX11_put M 7 1600 (M 6 2) (wr32 ((wr32 (v1 * 10000)) + v2))) 6 2) + 1))) (k := 2) (kI := 2) (pc' := 28) dX5_add_25 rfl cl5 (by decide) rfl (by decide) flX5_18 rfl rfl rfl rfl rfl (by decide) (fun z => z) rfl ?_
  exact T_vret dX5_add_28 rfl ⟨rfl, (G_fld (x := 6) (i := 2) (y := (wr32 (((fmX11_put M 7 1600 (M 6 2) (wr32 ((wr32 (v1 * 10000)) + v2))) 6 2) + 1))) rfl (by decide) (by decide) (by decide) (gX11_put (h := h) (M := M) (p0 := 7) (np0 := 1600) (v1 := (M 6 2)) (v2 := (wr32 ((wr32 (v1 * 10000)) + v2))) (by decide) rfl (by decide) hG)), (by rw [hQ]; exact ⟨rfl, rfl⟩)⟩
theorem frX5_add {M : Mem} {v1 : Int} {v2 : Int} {q : Int} (hq0 : q ≠ 7) (hq1 : q ≠ 6) : (fmX5_add M v1 v2) q = M q := by
  unfold fmX5_add
  exact ((mset_p hq1).trans ((frX11_put hq0).trans rfl))
def fmX5_push (M : Mem) (v1 : Int) : Mem :=
  (mset (fmX11_put M 8 64 (M 6 3) v1) 6 3 (wr32 (((fmX11_put M 8 64 (M 6 3) v1) 6 3) + 1)))
theorem gX5_push {h : Int} {M : Mem} {v1 : Int}  (hG : G h M) : G h (fmX5_push M v1) := by
  unfold fmX5_push
  exact (G_fld (x := 6) (i := 3) (y := (wr32 (((fmX11_put M 8 64 (M 6 3) v1) 6 3) + 1))) rfl (by decide) (by decide) (by decide) (gX11_put (h := h) (M := M) (p0 := 8) (np0 := 64) (v1 := (M 6 3)) (v2 := v1) (by decide) rfl (by decide) hG))
set_option maxRecDepth 100000 in
theorem pX5_push {E : EV} {h : Int} {M : Mem} {v1 : Int}  : C2 E miX5_push 2 h [(2, 6), (0, v1)] M (fun r M' => r = none ∧ M' = (fmX5_push M v1)) := by
  obtain ⟨Q, hQ⟩ : ∃ Q : Option MV → Mem → Prop, Q = (fun r M' => r = none ∧ M' = (fmX5_push M v1)) := ⟨_, rfl⟩
  rw [← hQ]
  refine C2_of (L := [(2, 6), (0, v1)]) (by decide +kernel) (Nat.le_of_ble_eq_true rfl) rfl (fun hG => ?_)
  refine T_aload_n (i := 0) (pc' := 1) dX5_push_0 rfl rfl rfl ?_
  refine U_gr (q := 8) (k := 1) (kI := 1) (pc' := 4) dX5_push_1 rfl cl5 (by decide) rfl (by decide) flX5_15 rfl rfl rfl (G_at hG 15 rfl) (by decide) rfl ?_
  refine T_aload_n (i := 0) (pc' := 5) dX5_push_4 rfl rfl rfl ?_
  refine U_gf (v := (0, (M 6 3))) (k := 3) (kI := 3) (pc' := 8) dX5_push_5 rfl cl5 (by decide) rfl (by decide) flX5_22 rfl rfl (by decide) rfl rfl ?_
  refine T_iload_n (i := 1) (pc' := 9) dX5_push_8 rfl rfl rfl ?_
  refine T_callSN (av := [(2, 8), (0, (M 6 3)), (0, v1)]) (st := []) (d2 := 1) (nc2 := 0) (ns2 := 0) (pc' := 12) dX5_push_9 rfl mtX11_put mvX11_put mlX5_25 rfl rfl (Nat.le_of_ble_eq_true rfl) (by decide) ⟨by decide, by decide⟩ rfl (pX11_put (E := E) (h := h) (M := M) (p0 := 8) (np0 := 64) (v1 := (M 6 3)) (v2 := v1) (by decide) rfl (by decide) hG) (kF (st2 := []) rfl (fun hG1 => ?_))
  refine T_aload_n (i := 0) (pc' := 13) dX5_push_12 rfl rfl rfl ?_
  refine T_dup (pc' := 14) dX5_push_13 (Nat.ne_of_beq_eq_false rfl) rfl ?_
  refine U_gf (v := (0, ((fmX11_put M 8 64 (M 6 3) v1) 6 3))) (k := 3) (kI := 3) (pc' := 17) dX5_push_14 rfl cl5 (by decide) rfl (by decide) flX5_22 rfl rfl (by decide) rfl rfl ?_
  refine T_iconst (pc' := 18) dX5_push_17 (by decide) rfl ?_
  refine T_iadd (pc' := 19) dX5_push_18 rfl ?_
  refine U_pf (y := (wr32 (((fmX11_put M 8 64 (M 6 3) v1) 6 3) + 1))) (k := 3) (kI := 3) (pc' := 22) dX5_push_19 rfl cl5 (by decide) rfl (by decide) flX5_22 rfl rfl rfl rfl rfl (by decide) (fun z => z) rfl ?_
  exact T_vret dX5_push_22 rfl ⟨rfl, (G_fld (x := 6) (i := 3) (y := (wr32 (((fmX11_put M 8 64 (M 6 3) v1) 6 3) + 1))) rfl (by decide) (by decide) (by decide) (gX11_put (h := h) (M := M) (p0 := 8) (np0 := 64) (v1 := (M 6 3)) (v2 := v1) (by decide) rfl (by decide) hG)), (by rw [hQ]; exact ⟨rfl, rfl⟩)⟩
theorem frX5_push {M : Mem} {v1 : Int} {q : Int} (hq0 : q ≠ 8) (hq1 : q ≠ 6) : (fmX5_push M v1) q = M q := by
  unfold fmX5_push
  exact ((mset_p hq1).trans ((frX11_put hq0).trans rfl))
def fX5_pop (M : Mem) : Int :=
  (fX11_get (mset M 6 3 (wr32 ((M 6 3) - 1))) 8 64 ((mset M 6 3 (wr32 ((M 6 3) - 1))) 6 3))
def fmX5_pop (M : Mem) : Mem :=
  (mset M 6 3 (wr32 ((M 6 3) - 1)))
theorem gX5_pop {h : Int} {M : Mem}   (hG : G h M) : G h (fmX5_pop M) := by
  unfold fmX5_pop
  exact (G_fld (x := 6) (i := 3) (y := (wr32 ((M 6 3) - 1))) rfl (by decide) (by decide) (by decide) hG)
set_option maxRecDepth 100000 in
theorem pX5_pop {E : EV} {h : Int} {M : Mem}   : C2 E miX5_pop 2 h [(2, 6)] M (fun r M' => r = some (0, (fX5_pop M)) ∧ M' = (fmX5_pop M)) := by
  obtain ⟨Q, hQ⟩ : ∃ Q : Option MV → Mem → Prop, Q = (fun r M' => r = some (0, (fX5_pop M)) ∧ M' = (fmX5_pop M)) := ⟨_, rfl⟩
  rw [← hQ]
  refine C2_of (L := [(2, 6)]) (by decide +kernel) (Nat.le_of_ble_eq_true rfl) rfl (fun hG => ?_)
  refine T_aload_n (i := 0) (pc' := 1) dX5_pop_0 rfl rfl rfl ?_
  refine T_dup (pc' := 2) dX5_pop_1 (Nat.ne_of_beq_eq_false rfl) rfl ?_
  refine U_gf (v := (0, (M 6 3))) (k := 3) (kI := 3) (pc' := 5) dX5_pop_2 rfl cl5 (by decide) rfl (by decide) flX5_22 rfl rfl (by decide) rfl rfl ?_
  refine T_iconst (pc' := 6) dX5_pop_5 (by decide) rfl ?_
  refine T_isub (pc' := 7) dX5_pop_6 rfl ?_
  refine U_pf (y := (wr32 ((M 6 3) - 1))) (k := 3) (kI := 3) (pc' := 10) dX5_pop_7 rfl cl5 (by decide) rfl (by decide) flX5_22 rfl rfl rfl rfl rfl (by decide) (fun z => z) rfl ?_
  refine T_aload_n (i := 0) (pc' := 11) dX5_pop_10 rfl rfl rfl ?_
  refine U_gr (q := 8) (k := 1) (kI := 1) (pc' := 14) dX5_pop_11 rfl cl5 (by decide) rfl (by decide) flX5_15 rfl rfl rfl (G_at (G_fld (x := 6) (i := 3) (y := (wr32 ((M 6 3) - 1))) rfl (by decide) (by decide) (by decide) hG) 15 rfl) (by decide) rfl ?_
  refine T_aload_n (i := 0) (pc' := 15) dX5_pop_14 rfl rfl rfl ?_
  refine U_gf (v := (0, ((mset M 6 3 (wr32 ((M 6 3) - 1))) 6 3))) (k := 3) (kI := 3) (pc' := 18) dX5_pop_15 rfl cl5 (by decide) rfl (by decide) flX5_22 rfl rfl (by decide) rfl rfl ?_
  refine T_callSN (av := [(2, 8), (0, ((mset M 6 3 (wr32 ((M 6 3) - 1))) 6 3))]) (st := []) (d2 := 1) (nc2 := 0) (ns2 := 0) (pc' := 21) dX5_pop_18 rfl mtX11_get mvX11_get mlX5_29 rfl rfl (Nat.le_of_ble_eq_true rfl) (by decide) ⟨by decide, by decide⟩ rfl (pX11_get (E := E) (h := h) (M := (mset M 6 3 (wr32 ((M 6 3) - 1)))) (p0 := 8) (np0 := 64) (v1 := ((mset M 6 3 (wr32 ((M 6 3) - 1))) 6 3)) (by decide) rfl (by decide) (G_fld (x := 6) (i := 3) (y := (wr32 ((M 6 3) - 1))) rfl (by decide) (by decide) (by decide) hG)) (kF (st2 := [(0, (fX11_get (mset M 6 3 (wr32 ((M 6 3) - 1))) 8 64 ((mset M 6 3 (wr32 ((M 6 3) - 1))) 6 3)))]) rfl (fun hG1 => ?_))
  exact T_iret dX5_pop_21 rfl ⟨rfl, (G_fld (x := 6) (i := 3) (y := (wr32 ((M 6 3) - 1))) rfl (by decide) (by decide) (by decide) hG), (by rw [hQ]; exact ⟨rfl, rfl⟩)⟩
theorem frX5_pop {M : Mem} {q : Int} (hq0 : q ≠ 6) : (fmX5_pop M) q = M q := by
  unfold fmX5_pop
  exact ((mset_p hq0).trans rfl)
def fX5_ofOne (M : Mem) (v1 : Int) (v2 : Int) (v3 : Int) : Int :=
  (if v2 = 19 then (if v3 = 0 then (1 : Int) else 0) else (if v2 = 7 then (fX3_doingOf M v3 v1) else (if (fX3_cellOf M v3 v1) = (-1) then (99 : Int) else (fX3_cellOf M v3 v1))))
set_option maxRecDepth 100000 in
theorem pX5_ofOne {E : EV} {h : Int} {M : Mem} {v1 : Int} {v2 : Int} {v3 : Int}  : C2 E miX5_ofOne 3 h [(2, 16), (0, v1), (0, v2), (0, v3)] M (fun r M' => r = some (0, (fX5_ofOne M v1 v2 v3)) ∧ M' = M) := by
  obtain ⟨Q, hQ⟩ : ∃ Q : Option MV → Mem → Prop, Q = (fun r M' => r = some (0, (fX5_ofOne M v1 v2 v3)) ∧ M' = M) := ⟨_, rfl⟩
  rw [← hQ]
  refine C2_of (L := [(2, 16), (0, v1), (0, v2), (0, v3), (3, 0)]) (by decide +kernel) (Nat.le_of_ble_eq_true rfl) rfl (fun hG => ?_)
  refine T_iload_n (i := 2) (pc' := 1) dX5_ofOne_0 rfl rfl rfl ?_
  refine T_bipush (pc' := 3) dX5_ofOne_1 rfl (by decide) rfl ?_
  refine T_icmp_ne (pc' := 16) dX5_ofOne_3 (by decide) (pf := 6) rfl (fun c1 => ?_) (fun c1 => ?_)
  · skip
    refine T_iload_n (i := 2) (pc' := 17) dX5_ofOne_16 rfl rfl rfl ?_
    refine T_bipush (pc' := 19) dX5_ofOne_17 rfl (by decide) rfl ?_
    refine T_icmp_ne (pc' := 29) dX5_ofOne_19 (by decide) (pf := 22) rfl (fun c2 => ?_) (fun c2 => ?_)
    · skip
      refine T_aload_n (i := 0) (pc' := 30) dX5_ofOne_29 rfl rfl rfl ?_
      refine T_iload_n (i := 3) (pc' := 31) dX5_ofOne_30 rfl rfl rfl ?_
      refine T_iload_n (i := 1) (pc' := 32) dX5_ofOne_31 rfl rfl rfl ?_
      refine T_callV (av := [(0, v3), (0, v1)]) (st := []) (d2 := 2) (nc2 := 0) (ns2 := 0) (pc' := 35) dX5_ofOne_32 rfl mtX3_cellOf mvX3_cellOf mlX5_65 cl3 rfl rfl rfl (Nat.le_of_ble_eq_true rfl) (by decide) ⟨by decide, by decide⟩ rfl (pX3_cellOf (E := E) (h := h) (M := M) (v1 := v3) (v2 := v1) hG) (kF (st2 := [(0, (fX3_cellOf M v3 v1))]) rfl (fun hG3 => ?_))
      refine T_istore (i := 4) (L' := [(2, 16), (0, v1), (0, v2), (0, v3), (0, (fX3_cellOf M v3 v1))]) (pc' := 37) dX5_ofOne_35 (by decide) rfl rfl ?_
      refine T_iload (i := 4) (pc' := 39) dX5_ofOne_37 rfl rfl ?_
      refine T_iconst (pc' := 40) dX5_ofOne_39 (by decide) rfl ?_
      have HJ4 : T E miX5_ofOne 3 126 0 0 (fun r S M' => S = S0 ∧ G h M' ∧ Q r M') 50 [(3, 0), (3, 0), (3, 0), (3, 0), (3, 0)] [(0, (if (fX3_cellOf M v3 v1) = (-1) then (99 : Int) else (fX3_cellOf M v3 v1)))] S0 M 0 0 := by
        exact T_iret dX5_ofOne_50 rfl ⟨rfl, hG, (by rw [hQ]; exact ⟨(by unfold fX5_ofOne; simp only [if_neg c1, if_neg c2]), rfl⟩)⟩
      refine T_icmp_ne (pc' := 48) dX5_ofOne_40 (by decide) (pf := 43) rfl (fun c5 => ?_) (fun c5 => ?_)
      · skip
        refine T_iload (i := 4) (pc' := 50) dX5_ofOne_48 rfl rfl ?_
        exact T_wk (L' := [(3, 0), (3, 0), (3, 0), (3, 0), (3, 0)]) (by have q := HJ4; try simp only [if_neg c5] at q; exact q) ⟨Or.inl rfl, Or.inl rfl, Or.inl rfl, Or.inl rfl, Or.inl rfl, trivial⟩
      · skip
        refine T_bipush (pc' := 45) dX5_ofOne_43 rfl (by decide) rfl ?_
        refine T_goto (pc' := 50) dX5_ofOne_45 (by decide) ?_
        exact T_wk (L' := [(3, 0), (3, 0), (3, 0), (3, 0), (3, 0)]) (by have q := HJ4; try simp only [if_pos c5] at q; exact q) ⟨Or.inl rfl, Or.inl rfl, Or.inl rfl, Or.inl rfl, Or.inl rfl, trivial⟩
    · skip
      refine T_aload_n (i := 0) (pc' := 23) dX5_ofOne_22 rfl rfl rfl ?_
      refine T_iload_n (i := 3) (pc' := 24) dX5_ofOne_23 rfl rfl rfl ?_
      refine T_iload_n (i := 1) (pc' := 25) dX5_ofOne_24 rfl rfl rfl ?_
      refine T_callV (av := [(0, v3), (0, v1)]) (st := []) (d2 := 2) (nc2 := 0) (ns2 := 0) (pc' := 28) dX5_ofOne_25 rfl mtX3_doingOf mvX3_doingOf mlX5_62 cl3 rfl rfl rfl (Nat.le_of_ble_eq_true rfl) (by decide) ⟨by decide, by decide⟩ rfl (pX3_doingOf (E := E) (h := h) (M := M) (v1 := v3) (v2 := v1) hG) (kF (st2 := [(0, (fX3_doingOf M v3 v1))]) rfl (fun hG6 => ?_))
      exact T_iret dX5_ofOne_28 rfl ⟨rfl, hG, (by rw [hQ]; exact ⟨(by unfold fX5_ofOne; simp only [if_neg c1, if_pos c2]), rfl⟩)⟩
  · skip
    refine T_iload_n (i := 3) (pc' := 7) dX5_ofOne_6 rfl rfl rfl ?_
    have HJ7 : T E miX5_ofOne 3 126 0 0 (fun r S M' => S = S0 ∧ G h M' ∧ Q r M') 15 [(3, 0), (3, 0), (3, 0), (3, 0), (3, 0)] [(0, (if v3 = 0 then (1 : Int) else 0))] S0 M 0 0 := by
      exact T_iret dX5_ofOne_15 rfl ⟨rfl, hG, (by rw [hQ]; exact ⟨(by unfold fX5_ofOne; simp only [if_pos c1]), rfl⟩)⟩
    refine T_if_ne (pc' := 14) dX5_ofOne_7 (by decide) (pf := 10) rfl (fun c8 => ?_) (fun c8 => ?_)
    · skip
      refine T_iconst (pc' := 15) dX5_ofOne_14 (by decide) rfl ?_
      exact T_wk (L' := [(3, 0), (3, 0), (3, 0), (3, 0), (3, 0)]) (by have q := HJ7; try simp only [if_neg c8] at q; exact q) ⟨Or.inl rfl, Or.inl rfl, Or.inl rfl, Or.inl rfl, Or.inl rfl, trivial⟩
    · skip
      refine T_iconst (pc' := 11) dX5_ofOne_10 (by decide) rfl ?_
      refine T_goto (pc' := 15) dX5_ofOne_11 (by decide) ?_
      exact T_wk (L' := [(3, 0), (3, 0), (3, 0), (3, 0), (3, 0)]) (by have q := HJ7; try simp only [if_pos c8] at q; exact q) ⟨Or.inl rfl, Or.inl rfl, Or.inl rfl, Or.inl rfl, Or.inl rfl, trivial⟩
def fX5_held (v0 : Int) : Int :=
  (wr32 (if (if v0 < 1000000 then v0 else 1000000) < (-1000000) then (-1000000) else (if v0 < 1000000 then v0 else 1000000)))
set_option maxRecDepth 100000 in
theorem pX5_held {E : EV} {h : Int} {M : Mem} {v0 : Int}  : C2 E miX5_held 2 h [(1, v0)] M (fun r M' => r = some (0, (fX5_held v0)) ∧ M' = M) := by
  obtain ⟨Q, hQ⟩ : ∃ Q : Option MV → Mem → Prop, Q = (fun r M' => r = some (0, (fX5_held v0)) ∧ M' = M) := ⟨_, rfl⟩
  rw [← hQ]
  refine C2_of (L := [(1, v0), (3, 0)]) (by decide +kernel) (Nat.le_of_ble_eq_true rfl) rfl (fun hG => ?_)
  refine T_ldc2 (n := (-1000000)) (pc' := 3) dX5_held_0 rfl kjX5_83 rfl (by decide) rfl ?_
  refine T_ldc2 (n := 1000000) (pc' := 6) dX5_held_3 rfl kjX5_85 rfl (by decide) rfl ?_
  refine T_lload_n (i := 0) (pc' := 7) dX5_held_6 rfl rfl rfl ?_
  refine U_mminL (pc' := 10) dX5_held_7 rfl mlX5_87 (Nat.le_of_ble_eq_true rfl) (by decide) ⟨by decide, by decide⟩ rfl ?_
  refine U_mmaxL (pc' := 13) dX5_held_10 rfl mlX5_90 (Nat.le_of_ble_eq_true rfl) (by decide) ⟨by decide, by decide⟩ rfl ?_
  refine T_l2i (pc' := 14) dX5_held_13 rfl ?_
  exact T_iret dX5_held_14 rfl ⟨rfl, hG, (by rw [hQ]; exact ⟨rfl, rfl⟩)⟩
def fX5_ofTwo (v0 : Int) (v1 : Int) (v2 : Int) : Int :=
  (if v0 = 8 then (if v2 < v1 then v2 else v1) else (if v0 = 9 then (if v1 < v2 then v2 else v1) else (if v0 = 10 then (fX5_held (wr64 (v1 + v2))) else (if v0 = 11 then (fX5_held (wr64 (v1 - v2))) else (if v0 = 12 then (fX5_held (wr64 (v1 * v2))) else (if v0 = 13 then (if v2 = 0 then (0 : Int) else (fdv v1 v2)) else (if v0 = 14 then (if v2 ≤ v1 then (0 : Int) else 1) else (if v0 = 15 then (if v1 ≤ v2 then (0 : Int) else 1) else (if v0 = 16 then (if v1 = v2 then (1 : Int) else 0) else (if v0 = 17 then (m_and v1 v2) else (m_or v1 v2)))))))))))
set_option maxRecDepth 100000 in
theorem pX5_ofTwo {E : EV} {h : Int} {M : Mem} {v0 : Int} {v1 : Int} {v2 : Int}  : C2 E miX5_ofTwo 3 h [(0, v0), (0, v1), (0, v2)] M (fun r M' => r = some (0, (fX5_ofTwo v0 v1 v2)) ∧ M' = M) := by
  obtain ⟨Q, hQ⟩ : ∃ Q : Option MV → Mem → Prop, Q = (fun r M' => r = some (0, (fX5_ofTwo v0 v1 v2)) ∧ M' = M) := ⟨_, rfl⟩
  rw [← hQ]
  refine C2_of (L := [(0, v0), (0, v1), (0, v2)]) (by decide +kernel) (Nat.le_of_ble_eq_true rfl) rfl (fun hG => ?_)
  refine T_iload_n (i := 0) (pc' := 1) dX5_ofTwo_0 rfl rfl rfl ?_
  by_cases c1 : v0 = 8
  · skip
    refine T_tableIn (pc' := 56) dX5_ofTwo_1 (by omega) (by omega) (by rw [c1]; rfl) (by decide) ?_
    refine T_iload_n (i := 1) (pc' := 57) dX5_ofTwo_56 rfl rfl rfl ?_
    refine T_iload_n (i := 2) (pc' := 58) dX5_ofTwo_57 rfl rfl rfl ?_
    refine U_mmin (pc' := 61) dX5_ofTwo_58 rfl mlX5_68 (Nat.le_of_ble_eq_true rfl) (by decide) ⟨by decide, by decide⟩ rfl ?_
    exact T_iret dX5_ofTwo_61 rfl ⟨rfl, hG, (by rw [hQ]; exact ⟨(by unfold fX5_ofTwo; simp only [if_pos c1]), rfl⟩)⟩
  · skip
    by_cases c2 : v0 = 9
    · skip
      refine T_tableIn (pc' := 62) dX5_ofTwo_1 (by omega) (by omega) (by rw [c2]; rfl) (by decide) ?_
      refine T_iload_n (i := 1) (pc' := 63) dX5_ofTwo_62 rfl rfl rfl ?_
      refine T_iload_n (i := 2) (pc' := 64) dX5_ofTwo_63 rfl rfl rfl ?_
      refine U_mmax (pc' := 67) dX5_ofTwo_64 rfl mlX5_73 (Nat.le_of_ble_eq_true rfl) (by decide) ⟨by decide, by decide⟩ rfl ?_
      exact T_iret dX5_ofTwo_67 rfl ⟨rfl, hG, (by rw [hQ]; exact ⟨(by unfold fX5_ofTwo; simp only [if_neg c1, if_pos c2]), rfl⟩)⟩
    · skip
      by_cases c3 : v0 = 10
      · skip
        refine T_tableIn (pc' := 68) dX5_ofTwo_1 (by omega) (by omega) (by rw [c3]; rfl) (by decide) ?_
        refine T_iload_n (i := 1) (pc' := 69) dX5_ofTwo_68 rfl rfl rfl ?_
        refine T_i2l (pc' := 70) dX5_ofTwo_69 rfl ?_
        refine T_iload_n (i := 2) (pc' := 71) dX5_ofTwo_70 rfl rfl rfl ?_
        refine T_i2l (pc' := 72) dX5_ofTwo_71 rfl ?_
        refine T_ladd (pc' := 73) dX5_ofTwo_72 rfl ?_
        refine T_callS (av := [(1, (wr64 (v1 + v2)))]) (st := []) (d2 := 2) (nc2 := 0) (ns2 := 0) (pc' := 76) dX5_ofTwo_73 rfl mtX5_held mvX5_held mlX5_76 rfl rfl (Nat.le_of_ble_eq_true rfl) (by decide) ⟨by decide, by decide⟩ rfl (pX5_held (E := E) (h := h) (M := M) (v0 := (wr64 (v1 + v2))) hG) (kF (st2 := [(0, (fX5_held (wr64 (v1 + v2))))]) rfl (fun hG4 => ?_))
        exact T_iret dX5_ofTwo_76 rfl ⟨rfl, hG, (by rw [hQ]; exact ⟨(by unfold fX5_ofTwo; simp only [if_neg c1, if_neg c2, if_pos c3]), rfl⟩)⟩
      · skip
        by_cases c5 : v0 = 11
        · skip
          refine T_tableIn (pc' := 77) dX5_ofTwo_1 (by omega) (by omega) (by rw [c5]; rfl) (by decide) ?_
          refine T_iload_n (i := 1) (pc' := 78) dX5_ofTwo_77 rfl rfl rfl ?_
          refine T_i2l (pc' := 79) dX5_ofTwo_78 rfl ?_
          refine T_iload_n (i := 2) (pc' := 80) dX5_ofTwo_79 rfl rfl rfl ?_
          refine T_i2l (pc' := 81) dX5_ofTwo_80 rfl ?_
          refine T_lsub (pc' := 82) dX5_ofTwo_81 rfl ?_
          refine T_callS (av := [(1, (wr64 (v1 - v2)))]) (st := []) (d2 := 2) (nc2 := 0) (ns2 := 0) (pc' := 85) dX5_ofTwo_82 rfl mtX5_held mvX5_held mlX5_76 rfl rfl (Nat.le_of_ble_eq_true rfl) (by decide) ⟨by decide, by decide⟩ rfl (pX5_held (E := E) (h := h) (M := M) (v0 := (wr64 (v1 - v2))) hG) (kF (st2 := [(0, (fX5_held (wr64 (v1 - v2))))]) rfl (fun hG6 => ?_))
          exact T_iret dX5_ofTwo_85 rfl ⟨rfl, hG, (by rw [hQ]; exact ⟨(by unfold fX5_ofTwo; simp only [if_neg c1, if_neg c2, if_neg c3, if_pos c5]), rfl⟩)⟩
        · skip
          by_cases c7 : v0 = 12
          · skip
            refine T_tableIn (pc' := 86) dX5_ofTwo_1 (by omega) (by omega) (by rw [c7]; rfl) (by decide) ?_
            refine T_iload_n (i := 1) (pc' := 87) dX5_ofTwo_86 rfl rfl rfl ?_
            refine T_i2l (pc' := 88) dX5_ofTwo_87 rfl ?_
            refine T_iload_n (i := 2) (pc' := 89) dX5_ofTwo_88 rfl rfl rfl ?_
            refine T_i2l (pc' := 90) dX5_ofTwo_89 rfl ?_
            refine T_lmul (pc' := 91) dX5_ofTwo_90 rfl ?_
            refine T_callS (av := [(1, (wr64 (v1 * v2)))]) (st := []) (d2 := 2) (nc2 := 0) (ns2 := 0) (pc' := 94) dX5_ofTwo_91 rfl mtX5_held mvX5_held mlX5_76 rfl rfl (Nat.le_of_ble_eq_true rfl) (by decide) ⟨by decide, by decide⟩ rfl (pX5_held (E := E) (h := h) (M := M) (v0 := (wr64 (v1 * v2))) hG) (kF (st2 := [(0, (fX5_held (wr64 (v1 * v2))))]) rfl (fun hG8 => ?_))
            exact T_iret dX5_ofTwo_94 rfl ⟨rfl, hG, (by rw [hQ]; exact ⟨(by unfold fX5_ofTwo; simp only [if_neg c1, if_neg c2, if_neg c3, if_neg c5, if_pos c7]), rfl⟩)⟩
          · skip
            by_cases c9 : v0 = 13
            · skip
              refine T_tableIn (pc' := 95) dX5_ofTwo_1 (by omega) (by omega) (by rw [c9]; rfl) (by decide) ?_
              refine T_iload_n (i := 2) (pc' := 96) dX5_ofTwo_95 rfl rfl rfl ?_
              have HJ10 : T E miX5_ofTwo 3 126 0 0 (fun r S M' => S = S0 ∧ G h M' ∧ Q r M') 108 [(3, 0), (3, 0), (3, 0)] [(0, (if v2 = 0 then (0 : Int) else (fdv v1 v2)))] S0 M 0 0 := by
                exact T_iret dX5_ofTwo_108 rfl ⟨rfl, hG, (by rw [hQ]; exact ⟨(by unfold fX5_ofTwo; simp only [if_neg c1, if_neg c2, if_neg c3, if_neg c5, if_neg c7, if_pos c9]), rfl⟩)⟩
              refine T_if_ne (pc' := 103) dX5_ofTwo_96 (by decide) (pf := 99) rfl (fun c11 => ?_) (fun c11 => ?_)
              · skip
                refine T_iload_n (i := 1) (pc' := 104) dX5_ofTwo_103 rfl rfl rfl ?_
                refine T_iload_n (i := 2) (pc' := 105) dX5_ofTwo_104 rfl rfl rfl ?_
                refine U_fdiv (pc' := 108) dX5_ofTwo_105 rfl mlX5_80 (by omega) (Nat.le_of_ble_eq_true rfl) (by decide) ⟨by decide, by decide⟩ rfl ?_
                exact T_wk (L' := [(3, 0), (3, 0), (3, 0)]) (by have q := HJ10; try simp only [if_neg c11] at q; exact q) ⟨Or.inl rfl, Or.inl rfl, Or.inl rfl, trivial⟩
              · skip
                refine T_iconst (pc' := 100) dX5_ofTwo_99 (by decide) rfl ?_
                refine T_goto (pc' := 108) dX5_ofTwo_100 (by decide) ?_
                exact T_wk (L' := [(3, 0), (3, 0), (3, 0)]) (by have q := HJ10; try simp only [if_pos c11] at q; exact q) ⟨Or.inl rfl, Or.inl rfl, Or.inl rfl, trivial⟩
            · skip
              by_cases c12 : v0 = 14
              · skip
                refine T_tableIn (pc' := 109) dX5_ofTwo_1 (by omega) (by omega) (by rw [c12]; rfl) (by decide) ?_
                refine T_iload_n (i := 1) (pc' := 110) dX5_ofTwo_109 rfl rfl rfl ?_
                refine T_iload_n (i := 2) (pc' := 111) dX5_ofTwo_110 rfl rfl rfl ?_
                have HJ13 : T E miX5_ofTwo 3 126 0 0 (fun r S M' => S = S0 ∧ G h M' ∧ Q r M') 119 [(3, 0), (3, 0), (3, 0)] [(0, (if v2 ≤ v1 then (0 : Int) else 1))] S0 M 0 0 := by
                  exact T_iret dX5_ofTwo_119 rfl ⟨rfl, hG, (by rw [hQ]; exact ⟨(by unfold fX5_ofTwo; simp only [if_neg c1, if_neg c2, if_neg c3, if_neg c5, if_neg c7, if_neg c9, if_pos c12]), rfl⟩)⟩
                refine T_icmp_ge (pc' := 118) dX5_ofTwo_111 (by decide) (pf := 114) rfl (fun c14 => ?_) (fun c14 => ?_)
                · skip
                  refine T_iconst (pc' := 119) dX5_ofTwo_118 (by decide) rfl ?_
                  exact T_wk (L' := [(3, 0), (3, 0), (3, 0)]) (by have q := HJ13; try simp only [if_pos c14] at q; exact q) ⟨Or.inl rfl, Or.inl rfl, Or.inl rfl, trivial⟩
                · skip
                  refine T_iconst (pc' := 115) dX5_ofTwo_114 (by decide) rfl ?_
                  refine T_goto (pc' := 119) dX5_ofTwo_115 (by decide) ?_
                  exact T_wk (L' := [(3, 0), (3, 0), (3, 0)]) (by have q := HJ13; try simp only [if_neg c14] at q; exact q) ⟨Or.inl rfl, Or.inl rfl, Or.inl rfl, trivial⟩
              · skip
                by_cases c15 : v0 = 15
                · skip
                  refine T_tableIn (pc' := 120) dX5_ofTwo_1 (by omega) (by omega) (by rw [c15]; rfl) (by decide) ?_
                  refine T_iload_n (i := 1) (pc' := 121) dX5_ofTwo_120 rfl rfl rfl ?_
                  refine T_iload_n (i := 2) (pc' := 122) dX5_ofTwo_121 rfl rfl rfl ?_
                  have HJ16 : T E miX5_ofTwo 3 126 0 0 (fun r S M' => S = S0 ∧ G h M' ∧ Q r M') 130 [(3, 0), (3, 0), (3, 0)] [(0, (if v1 ≤ v2 then (0 : Int) else 1))] S0 M 0 0 := by
                    exact T_iret dX5_ofTwo_130 rfl ⟨rfl, hG, (by rw [hQ]; exact ⟨(by unfold fX5_ofTwo; simp only [if_neg c1, if_neg c2, if_neg c3, if_neg c5, if_neg c7, if_neg c9, if_neg c12, if_pos c15]), rfl⟩)⟩
                  refine T_icmp_le (pc' := 129) dX5_ofTwo_122 (by decide) (pf := 125) rfl (fun c17 => ?_) (fun c17 => ?_)
                  · skip
                    refine T_iconst (pc' := 130) dX5_ofTwo_129 (by decide) rfl ?_
                    exact T_wk (L' := [(3, 0), (3, 0), (3, 0)]) (by have q := HJ16; try simp only [if_pos c17] at q; exact q) ⟨Or.inl rfl, Or.inl rfl, Or.inl rfl, trivial⟩
                  · skip
                    refine T_iconst (pc' := 126) dX5_ofTwo_125 (by decide) rfl ?_
                    refine T_goto (pc' := 130) dX5_ofTwo_126 (by decide) ?_
                    exact T_wk (L' := [(3, 0), (3, 0), (3, 0)]) (by have q := HJ16; try simp only [if_neg c17] at q; exact q) ⟨Or.inl rfl, Or.inl rfl, Or.inl rfl, trivial⟩
                · skip
                  by_cases c18 : v0 = 16
                  · skip
                    refine T_tableIn (pc' := 131) dX5_ofTwo_1 (by omega) (by omega) (by rw [c18]; rfl) (by decide) ?_
                    refine T_iload_n (i := 1) (pc' := 132) dX5_ofTwo_131 rfl rfl rfl ?_
                    refine T_iload_n (i := 2) (pc' := 133) dX5_ofTwo_132 rfl rfl rfl ?_
                    have HJ19 : T E miX5_ofTwo 3 126 0 0 (fun r S M' => S = S0 ∧ G h M' ∧ Q r M') 141 [(3, 0), (3, 0), (3, 0)] [(0, (if v1 = v2 then (1 : Int) else 0))] S0 M 0 0 := by
                      exact T_iret dX5_ofTwo_141 rfl ⟨rfl, hG, (by rw [hQ]; exact ⟨(by unfold fX5_ofTwo; simp only [if_neg c1, if_neg c2, if_neg c3, if_neg c5, if_neg c7, if_neg c9, if_neg c12, if_neg c15, if_pos c18]), rfl⟩)⟩
                    refine T_icmp_ne (pc' := 140) dX5_ofTwo_133 (by decide) (pf := 136) rfl (fun c20 => ?_) (fun c20 => ?_)
                    · skip
                      refine T_iconst (pc' := 141) dX5_ofTwo_140 (by decide) rfl ?_
                      exact T_wk (L' := [(3, 0), (3, 0), (3, 0)]) (by have q := HJ19; try simp only [if_neg c20] at q; exact q) ⟨Or.inl rfl, Or.inl rfl, Or.inl rfl, trivial⟩
                    · skip
                      refine T_iconst (pc' := 137) dX5_ofTwo_136 (by decide) rfl ?_
                      refine T_goto (pc' := 141) dX5_ofTwo_137 (by decide) ?_
                      exact T_wk (L' := [(3, 0), (3, 0), (3, 0)]) (by have q := HJ19; try simp only [if_pos c20] at q; exact q) ⟨Or.inl rfl, Or.inl rfl, Or.inl rfl, trivial⟩
                  · skip
                    by_cases c21 : v0 = 17
                    · skip
                      refine T_tableIn (pc' := 142) dX5_ofTwo_1 (by omega) (by omega) (by rw [c21]; rfl) (by decide) ?_
                      refine T_iload_n (i := 1) (pc' := 143) dX5_ofTwo_142 rfl rfl rfl ?_
                      refine T_iload_n (i := 2) (pc' := 144) dX5_ofTwo_143 rfl rfl rfl ?_
                      refine T_iand (pc' := 145) dX5_ofTwo_144 rfl ?_
                      exact T_iret dX5_ofTwo_145 rfl ⟨rfl, hG, (by rw [hQ]; exact ⟨(by unfold fX5_ofTwo; simp only [if_neg c1, if_neg c2, if_neg c3, if_neg c5, if_neg c7, if_neg c9, if_neg c12, if_neg c15, if_neg c18, if_pos c21]), rfl⟩)⟩
                    · skip
                      refine T_tableOut (pc' := 146) dX5_ofTwo_1 (by omega) (by decide) ?_
                      refine T_iload_n (i := 1) (pc' := 147) dX5_ofTwo_146 rfl rfl rfl ?_
                      refine T_iload_n (i := 2) (pc' := 148) dX5_ofTwo_147 rfl rfl rfl ?_
                      refine T_ior (pc' := 149) dX5_ofTwo_148 rfl ?_
                      exact T_iret dX5_ofTwo_149 rfl ⟨rfl, hG, (by rw [hQ]; exact ⟨(by unfold fX5_ofTwo; simp only [if_neg c1, if_neg c2, if_neg c3, if_neg c5, if_neg c7, if_neg c9, if_neg c12, if_neg c15, if_neg c18, if_neg c21]), rfl⟩)⟩
def fX5_plain (M : Mem) (v1 : Int) (v2 : Int) : Int :=
  (if v2 = 0 then v1 else (if v2 = 1 then (fX3_howMany M v1 0) else (if v2 = 2 then (fX3_howMany M v1 1) else (if v2 = 3 then (fX3_howMany M v1 2) else (if v2 = 4 then (fX3_howMany M v1 3) else (if (M 16 10) = (-1) then (0 : Int) else (if v1 < (M 16 10) then (0 : Int) else 1)))))))
set_option maxRecDepth 100000 in
theorem pX5_plain {E : EV} {h : Int} {M : Mem} {v1 : Int} {v2 : Int}  : C2 E miX5_plain 3 h [(2, 16), (0, v1), (0, v2)] M (fun r M' => r = some (0, (fX5_plain M v1 v2)) ∧ M' = M) := by
  obtain ⟨Q, hQ⟩ : ∃ Q : Option MV → Mem → Prop, Q = (fun r M' => r = some (0, (fX5_plain M v1 v2)) ∧ M' = M) := ⟨_, rfl⟩
  rw [← hQ]
  refine C2_of (L := [(2, 16), (0, v1), (0, v2)]) (by decide +kernel) (Nat.le_of_ble_eq_true rfl) rfl (fun hG => ?_)
  refine T_iload_n (i := 2) (pc' := 1) dX5_plain_0 rfl rfl rfl ?_
  by_cases c1 : v2 = 0
  · skip
    refine T_tableIn (pc' := 36) dX5_plain_1 (by omega) (by omega) (by rw [c1]; rfl) (by decide) ?_
    refine T_iload_n (i := 1) (pc' := 37) dX5_plain_36 rfl rfl rfl ?_
    exact T_iret dX5_plain_37 rfl ⟨rfl, hG, (by rw [hQ]; exact ⟨(by unfold fX5_plain; simp only [if_pos c1]), rfl⟩)⟩
  · skip
    by_cases c2 : v2 = 1
    · skip
      refine T_tableIn (pc' := 38) dX5_plain_1 (by omega) (by omega) (by rw [c2]; rfl) (by decide) ?_
      refine T_aload_n (i := 0) (pc' := 39) dX5_plain_38 rfl rfl rfl ?_
      refine T_iload_n (i := 1) (pc' := 40) dX5_plain_39 rfl rfl rfl ?_
      refine T_iconst (pc' := 41) dX5_plain_40 (by decide) rfl ?_
      refine T_callV (av := [(0, v1), (0, 0)]) (st := []) (d2 := 2) (nc2 := 0) (ns2 := 0) (pc' := 44) dX5_plain_41 rfl mtX3_howMany mvX3_howMany mlX5_55 cl3 rfl rfl rfl (Nat.le_of_ble_eq_true rfl) (by decide) ⟨by decide, by decide⟩ rfl (pX3_howMany (E := E) (h := h) (M := M) (v1 := v1) (v2 := 0) hG) (kF (st2 := [(0, (fX3_howMany M v1 0))]) rfl (fun hG3 => ?_))
      exact T_iret dX5_plain_44 rfl ⟨rfl, hG, (by rw [hQ]; exact ⟨(by unfold fX5_plain; simp only [if_neg c1, if_pos c2]), rfl⟩)⟩
    · skip
      by_cases c4 : v2 = 2
      · skip
        refine T_tableIn (pc' := 45) dX5_plain_1 (by omega) (by omega) (by rw [c4]; rfl) (by decide) ?_
        refine T_aload_n (i := 0) (pc' := 46) dX5_plain_45 rfl rfl rfl ?_
        refine T_iload_n (i := 1) (pc' := 47) dX5_plain_46 rfl rfl rfl ?_
        refine T_iconst (pc' := 48) dX5_plain_47 (by decide) rfl ?_
        refine T_callV (av := [(0, v1), (0, 1)]) (st := []) (d2 := 2) (nc2 := 0) (ns2 := 0) (pc' := 51) dX5_plain_48 rfl mtX3_howMany mvX3_howMany mlX5_55 cl3 rfl rfl rfl (Nat.le_of_ble_eq_true rfl) (by decide) ⟨by decide, by decide⟩ rfl (pX3_howMany (E := E) (h := h) (M := M) (v1 := v1) (v2 := 1) hG) (kF (st2 := [(0, (fX3_howMany M v1 1))]) rfl (fun hG5 => ?_))
        exact T_iret dX5_plain_51 rfl ⟨rfl, hG, (by rw [hQ]; exact ⟨(by unfold fX5_plain; simp only [if_neg c1, if_neg c2, if_pos c4]), rfl⟩)⟩
      · skip
        by_cases c6 : v2 = 3
        · skip
          refine T_tableIn (pc' := 52) dX5_plain_1 (by omega) (by omega) (by rw [c6]; rfl) (by decide) ?_
          refine T_aload_n (i := 0) (pc' := 53) dX5_plain_52 rfl rfl rfl ?_
          refine T_iload_n (i := 1) (pc' := 54) dX5_plain_53 rfl rfl rfl ?_
          refine T_iconst (pc' := 55) dX5_plain_54 (by decide) rfl ?_
          refine T_callV (av := [(0, v1), (0, 2)]) (st := []) (d2 := 2) (nc2 := 0) (ns2 := 0) (pc' := 58) dX5_plain_55 rfl mtX3_howMany mvX3_howMany mlX5_55 cl3 rfl rfl rfl (Nat.le_of_ble_eq_true rfl) (by decide) ⟨by decide, by decide⟩ rfl (pX3_howMany (E := E) (h := h) (M := M) (v1 := v1) (v2 := 2) hG) (kF (st2 := [(0, (fX3_howMany M v1 2))]) rfl (fun hG7 => ?_))
          exact T_iret dX5_plain_58 rfl ⟨rfl, hG, (by rw [hQ]; exact ⟨(by unfold fX5_plain; simp only [if_neg c1, if_neg c2, if_neg c4, if_pos c6]), rfl⟩)⟩
        · skip
          by_cases c8 : v2 = 4
          · skip
            refine T_tableIn (pc' := 59) dX5_plain_1 (by omega) (by omega) (by rw [c8]; rfl) (by decide) ?_
            refine T_aload_n (i := 0) (pc' := 60) dX5_plain_59 rfl rfl rfl ?_
            refine T_iload_n (i := 1) (pc' := 61) dX5_plain_60 rfl rfl rfl ?_
            refine T_iconst (pc' := 62) dX5_plain_61 (by decide) rfl ?_
            refine T_callV (av := [(0, v1), (0, 3)]) (st := []) (d2 := 2) (nc2 := 0) (ns2 := 0) (pc' := 65) dX5_plain_62 rfl mtX3_howMany mvX3_howMany mlX5_55 cl3 rfl rfl rfl (Nat.le_of_ble_eq_true rfl) (by decide) ⟨by decide, by decide⟩ rfl (pX3_howMany (E := E) (h := h) (M := M) (v1 := v1) (v2 := 3) hG) (kF (st2 := [(0, (fX3_howMany M v1 3))]) rfl (fun hG9 => ?_))
            exact T_iret dX5_plain_65 rfl ⟨rfl, hG, (by rw [hQ]; exact ⟨(by unfold fX5_plain; simp only [if_neg c1, if_neg c2, if_neg c4, if_neg c6, if_pos c8]), rfl⟩)⟩
          · skip
            refine T_tableOut (pc' := 66) dX5_plain_1 (by omega) (by decide) ?_
            refine T_aload_n (i := 0) (pc' := 67) dX5_plain_66 rfl rfl rfl ?_
            refine U_gfN (v := (0, (M 16 10))) (k := 10) (kI := 10) (pc' := 70) dX5_plain_67 rfl cl3 (by decide) rfl (by decide) flX5_59 rfl rfl (by decide) rfl rfl ?_
            refine T_iconst (pc' := 71) dX5_plain_70 (by decide) rfl ?_
            have HJ10 : T E miX5_plain 3 126 0 0 (fun r S M' => S = S0 ∧ G h M' ∧ Q r M') 87 [(3, 0), (3, 0), (3, 0)] [(0, (if (M 16 10) = (-1) then (0 : Int) else (if v1 < (M 16 10) then (0 : Int) else 1)))] S0 M 0 0 := by
              exact T_iret dX5_plain_87 rfl ⟨rfl, hG, (by rw [hQ]; exact ⟨(by unfold fX5_plain; simp only [if_neg c1, if_neg c2, if_neg c4, if_neg c6, if_neg c8]), rfl⟩)⟩
            refine T_icmp_eq (pc' := 86) dX5_plain_71 (by decide) (pf := 74) rfl (fun c11 => ?_) (fun c11 => ?_)
            · skip
              refine T_iconst (pc' := 87) dX5_plain_86 (by decide) rfl ?_
              exact T_wk (L' := [(3, 0), (3, 0), (3, 0)]) (by have q := HJ10; try simp only [if_pos c11] at q; exact q) ⟨Or.inl rfl, Or.inl rfl, Or.inl rfl, trivial⟩
            · skip
              refine T_iload_n (i := 1) (pc' := 75) dX5_plain_74 rfl rfl rfl ?_
              refine T_aload_n (i := 0) (pc' := 76) dX5_plain_75 rfl rfl rfl ?_
              refine U_gfN (v := (0, (M 16 10))) (k := 10) (kI := 10) (pc' := 79) dX5_plain_76 rfl cl3 (by decide) rfl (by decide) flX5_59 rfl rfl (by decide) rfl rfl ?_
              refine T_icmp_lt (pc' := 86) dX5_plain_79 (by decide) (pf := 82) rfl (fun c12 => ?_) (fun c12 => ?_)
              · skip
                refine T_iconst (pc' := 87) dX5_plain_86 (by decide) rfl ?_
                exact T_wk (L' := [(3, 0), (3, 0), (3, 0)]) (by have q := HJ10; try simp only [if_neg c11] at q; try simp only [if_pos c12] at q; exact q) ⟨Or.inl rfl, Or.inl rfl, Or.inl rfl, trivial⟩
              · skip
                refine T_iconst (pc' := 83) dX5_plain_82 (by decide) rfl ?_
                refine T_goto (pc' := 87) dX5_plain_83 (by decide) ?_
                exact T_wk (L' := [(3, 0), (3, 0), (3, 0)]) (by have q := HJ10; try simp only [if_neg c11] at q; try simp only [if_neg c12] at q; exact q) ⟨Or.inl rfl, Or.inl rfl, Or.inl rfl, trivial⟩
def fX6_deeper (v1 : Int) : Int :=
  (if v1 < 6 then (1 : Int) else (if fX9_fail = 0 then (0 : Int) else 1))
def fmX6_deeper (M : Mem) (v1 : Int) : Mem :=
  (if v1 < 6 then M else (fmX9_fail M 4 (M 3 2)))
theorem gX6_deeper {h : Int} {M : Mem} {v1 : Int}  (hG : G h M) : G h (fmX6_deeper M v1) := by
  unfold fmX6_deeper
  exact (G_ite hG (gX9_fail (h := h) (M := M) (v1 := 4) (v2 := (M 3 2)) hG))
set_option maxRecDepth 100000 in
theorem pX6_deeper {E : EV} {h : Int} {M : Mem} {v1 : Int}  : C2 E miX6_deeper 2 h [(2, 5), (0, v1)] M (fun r M' => r = some (0, (fX6_deeper v1)) ∧ M' = (fmX6_deeper M v1)) := by
  obtain ⟨Q, hQ⟩ : ∃ Q : Option MV → Mem → Prop, Q = (fun r M' => r = some (0, (fX6_deeper v1)) ∧ M' = (fmX6_deeper M v1)) := ⟨_, rfl⟩
  rw [← hQ]
  refine C2_of (L := [(2, 5), (0, v1)]) (by decide +kernel) (Nat.le_of_ble_eq_true rfl) rfl (fun hG => ?_)
  refine T_iload_n (i := 1) (pc' := 1) dX6_deeper_0 rfl rfl rfl ?_
  refine T_bipush (pc' := 3) dX6_deeper_1 rfl (by decide) rfl ?_
  have HJ1 : T E miX6_deeper 2 126 0 0 (fun r S M' => S = S0 ∧ G h M' ∧ Q r M') 29 [(3, 0), (3, 0)] [(0, (if v1 < 6 then (1 : Int) else (if fX9_fail = 0 then (0 : Int) else 1)))] S0 (if v1 < 6 then M else (fmX9_fail M 4 (M 3 2))) 0 0 := by
    exact T_zret dX6_deeper_29 rfl (by repeat' (first | apply bi | exact Or.inl rfl | exact Or.inr rfl | apply fbX9_fail)) ⟨rfl, (G_ite hG (gX9_fail (h := h) (M := M) (v1 := 4) (v2 := (M 3 2)) hG)), (by rw [hQ]; exact ⟨rfl, rfl⟩)⟩
  refine T_icmp_lt (pc' := 24) dX6_deeper_3 (by decide) (pf := 6) rfl (fun c2 => ?_) (fun c2 => ?_)
  · skip
    refine T_iconst (pc' := 25) dX6_deeper_24 (by decide) rfl ?_
    refine T_goto (pc' := 29) dX6_deeper_25 (by decide) ?_
    exact T_wk (L' := [(3, 0), (3, 0)]) (by have q := HJ1; try simp only [if_pos c2] at q; exact q) ⟨Or.inl rfl, Or.inl rfl, trivial⟩
  · skip
    refine T_aload_n (i := 0) (pc' := 7) dX6_deeper_6 rfl rfl rfl ?_
    refine U_gr (q := 3) (k := 0) (kI := 0) (pc' := 10) dX6_deeper_7 rfl cl6 (by decide) rfl (by decide) flX6_9 rfl rfl rfl (G_at hG 12 rfl) (by decide) rfl ?_
    refine T_iconst (pc' := 11) dX6_deeper_10 (by decide) rfl ?_
    refine T_aload_n (i := 0) (pc' := 12) dX6_deeper_11 rfl rfl rfl ?_
    refine U_gr (q := 3) (k := 0) (kI := 0) (pc' := 15) dX6_deeper_12 rfl cl6 (by decide) rfl (by decide) flX6_9 rfl rfl rfl (G_at hG 12 rfl) (by decide) rfl ?_
    refine U_gfN (v := (0, (M 3 2))) (k := 2) (kI := 2) (pc' := 18) dX6_deeper_15 rfl cl9 (by decide) rfl (by decide) flX6_57 rfl rfl (by decide) rfl rfl ?_
    refine T_callV (av := [(0, 4), (0, (M 3 2))]) (st := []) (d2 := 1) (nc2 := 0) (ns2 := 0) (pc' := 21) dX6_deeper_18 rfl mtX9_fail mvX9_fail mlX6_60 cl9 rfl rfl rfl (Nat.le_of_ble_eq_true rfl) (by decide) ⟨by decide, by decide⟩ rfl (pX9_fail (E := E) (h := h) (M := M) (v1 := 4) (v2 := (M 3 2)) hG) (kF (st2 := [(0, fX9_fail)]) rfl (fun hG3 => ?_))
    refine T_if_eq (pc' := 28) dX6_deeper_21 (by decide) (pf := 24) rfl (fun c4 => ?_) (fun c4 => ?_)
    · skip
      refine T_iconst (pc' := 29) dX6_deeper_28 (by decide) rfl ?_
      exact T_wk (L' := [(3, 0), (3, 0)]) (by have q := HJ1; try simp only [if_neg c2] at q; try simp only [if_pos c4] at q; exact q) ⟨Or.inl rfl, Or.inl rfl, trivial⟩
    · skip
      refine T_iconst (pc' := 25) dX6_deeper_24 (by decide) rfl ?_
      refine T_goto (pc' := 29) dX6_deeper_25 (by decide) ?_
      exact T_wk (L' := [(3, 0), (3, 0)]) (by have q := HJ1; try simp only [if_neg c2] at q; try simp only [if_neg c4] at q; exact q) ⟨Or.inl rfl, Or.inl rfl, trivial⟩
theorem frX6_deeper {M : Mem} {v1 : Int} {q : Int} (hq0 : q ≠ 3) : (fmX6_deeper M v1) q = M q := by
  unfold fmX6_deeper
  exact (ite_q rfl ((frX9_fail hq0).trans rfl))
theorem fbX6_deeper (v1 : Int) : (fX6_deeper v1) = 0 ∨ (fX6_deeper v1) = 1 := by
  unfold fX6_deeper
  repeat' (first | apply bi | exact Or.inl rfl | exact Or.inr rfl | apply fbX9_fail)
def lmX7_fillWalk_28 (g : Int) : Nat → Int → Int → Int → Mem → Mem
  | 0, v2, v3, v4, M => M
  | k + 1, v2, v3, v4, M => (lmX7_fillWalk_28 g k v2 (if (fX1_stepFrom M g v3 (fX4_stepOf M g v2 (wr32 (v4 - 1)))) = (-1) then v3 else (fX1_stepFrom M g v3 (fX4_stepOf M g v2 (wr32 (v4 - 1))))) (v4 + 1) (fmX11_put M 10 1809 (wr32 ((wr32 (v2 * 201)) + v4)) (if (fX1_stepFrom M g v3 (fX4_stepOf M g v2 (wr32 (v4 - 1)))) = (-1) then v3 else (fX1_stepFrom M g v3 (fX4_stepOf M g v2 (wr32 (v4 - 1)))))))
theorem frlX7_fillWalk_28 {g : Int} {q : Int} (hq0 : q ≠ 10) : ∀ {k : Nat} {v2 v3 v4 : Int} {M : Mem}, (lmX7_fillWalk_28 g k v2 v3 v4 M) q = M q := by
  intro k
  induction k with
  | zero =>
    intro v2 v3 v4 M
    show M q = M q
    exact rfl
  | succ k ih =>
    intro v2 v3 v4 M
    show (lmX7_fillWalk_28 g k v2 (if (fX1_stepFrom M g v3 (fX4_stepOf M g v2 (wr32 (v4 - 1)))) = (-1) then v3 else (fX1_stepFrom M g v3 (fX4_stepOf M g v2 (wr32 (v4 - 1))))) (v4 + 1) (fmX11_put M 10 1809 (wr32 ((wr32 (v2 * 201)) + v4)) (if (fX1_stepFrom M g v3 (fX4_stepOf M g v2 (wr32 (v4 - 1)))) = (-1) then v3 else (fX1_stepFrom M g v3 (fX4_stepOf M g v2 (wr32 (v4 - 1))))))) q = M q
    exact ((ih).trans ((frX11_put hq0).trans rfl))
theorem glX7_fillWalk_28 {h : Int} {g : Int} (hg : isG g) : ∀ {k : Nat} {v2 v3 v4 : Int} {M : Mem}, G h M → G h (lmX7_fillWalk_28 g k v2 v3 v4 M) := by
  intro k
  induction k with
  | zero =>
    intro v2 v3 v4 M hG
    show G h M
    exact hG
  | succ k ih =>
    intro v2 v3 v4 M hG
    show G h (lmX7_fillWalk_28 g k v2 (if (fX1_stepFrom M g v3 (fX4_stepOf M g v2 (wr32 (v4 - 1)))) = (-1) then v3 else (fX1_stepFrom M g v3 (fX4_stepOf M g v2 (wr32 (v4 - 1))))) (v4 + 1) (fmX11_put M 10 1809 (wr32 ((wr32 (v2 * 201)) + v4)) (if (fX1_stepFrom M g v3 (fX4_stepOf M g v2 (wr32 (v4 - 1)))) = (-1) then v3 else (fX1_stepFrom M g v3 (fX4_stepOf M g v2 (wr32 (v4 - 1)))))))
    exact (ih (gX11_put (h := h) (M := M) (p0 := 10) (np0 := 1809) (v1 := (wr32 ((wr32 (v2 * 201)) + v4))) (v2 := (if (fX1_stepFrom M g v3 (fX4_stepOf M g v2 (wr32 (v4 - 1)))) = (-1) then v3 else (fX1_stepFrom M g v3 (fX4_stepOf M g v2 (wr32 (v4 - 1)))))) (by decide) rfl (by decide) hG))
set_option maxRecDepth 100000 in
set_option maxHeartbeats 2000000 in
theorem qX7_fillWalk_28 {E : EV} {h : Int} {Q : Option MV → Mem → Prop} {g : Int} (hg : isG g) : ∀ (k : Nat) (v2 v3 v4 : Int) (M : Mem), 0 ≤ v4 → ((201) - v4).toNat = k → Q none (lmX7_fillWalk_28 g k v2 v3 v4 M) → G h M → TG E miX7_fillWalk 4 h Q 28 [(2, 9), (2, g), (0, v2), (0, v3), (0, v4), (3, 0)] [] M := by
  intro k
  induction k with
  | zero =>
    intro v2 v3 v4 M hv0 hk hQ hG
    have hQ : Q none M := hQ
    refine T_iload (i := 4) (pc' := 30) dX7_fillWalk_28 rfl rfl ?_
    refine T_sipush (pc' := 33) dX7_fillWalk_30 rfl (by decide) rfl ?_
    refine T_rng (fun _ z9 _ => ?_)
    have hB : r32 201 := (ok_cons.mp z9).1
    unfold r32 at hB
    refine T_icmp_ge (pc' := 90) dX7_fillWalk_33 (by decide) (pf := 36) rfl (fun c1 => ?_) (fun c1 => ?_)
    · skip
      exact T_vret dX7_fillWalk_90 rfl ⟨rfl, hG, hQ⟩
    · exact absurd c1 (by omega)
  | succ k ih =>
    intro v2 v3 v4 M hv0 hk hQ hG
    have hQ : Q none (lmX7_fillWalk_28 g k v2 (if (fX1_stepFrom M g v3 (fX4_stepOf M g v2 (wr32 (v4 - 1)))) = (-1) then v3 else (fX1_stepFrom M g v3 (fX4_stepOf M g v2 (wr32 (v4 - 1))))) (v4 + 1) (fmX11_put M 10 1809 (wr32 ((wr32 (v2 * 201)) + v4)) (if (fX1_stepFrom M g v3 (fX4_stepOf M g v2 (wr32 (v4 - 1)))) = (-1) then v3 else (fX1_stepFrom M g v3 (fX4_stepOf M g v2 (wr32 (v4 - 1))))))) := hQ
    refine T_iload (i := 4) (pc' := 30) dX7_fillWalk_28 rfl rfl ?_
    refine T_sipush (pc' := 33) dX7_fillWalk_30 rfl (by decide) rfl ?_
    refine T_rng (fun _ z9 _ => ?_)
    have hB : r32 201 := (ok_cons.mp z9).1
    unfold r32 at hB
    refine T_icmp_ge (pc' := 90) dX7_fillWalk_33 (by decide) (pf := 36) rfl (fun c1 => ?_) (fun c1 => ?_)
    · exact absurd c1 (by omega)
    · skip
      have hw : wr32 (v4 + 1) = v4 + 1 := wr32_id (by unfold r32; omega)
      refine T_aload_n (i := 1) (pc' := 37) dX7_fillWalk_36 rfl rfl rfl ?_
      refine T_iload_n (i := 3) (pc' := 38) dX7_fillWalk_37 rfl rfl rfl ?_
      refine T_aload_n (i := 1) (pc' := 39) dX7_fillWalk_38 rfl rfl rfl ?_
      refine U_grN (q := (g + 1)) (k := 0) (kI := 0) (pc' := 42) dX7_fillWalk_39 rfl cl1 (pog0 hg) (shg0 hg) (by decide) flX7_46 rfl rfl rfl (grg0_0 hg hG) (pog1 hg) rfl ?_
      refine T_iload_n (i := 2) (pc' := 43) dX7_fillWalk_42 rfl rfl rfl ?_
      refine T_iload (i := 4) (pc' := 45) dX7_fillWalk_43 rfl rfl ?_
      refine T_iconst (pc' := 46) dX7_fillWalk_45 (by decide) rfl ?_
      refine T_isub (pc' := 47) dX7_fillWalk_46 rfl ?_
      refine T_callV (av := [(0, v2), (0, (wr32 (v4 - 1)))]) (st := [(0, v3), (2, g)]) (d2 := 2) (nc2 := 0) (ns2 := 0) (pc' := 50) dX7_fillWalk_47 rfl mtX4_stepOf mvX4_stepOf mlX7_79 cl4 (shg1 hg) rfl rfl (Nat.le_of_ble_eq_true rfl) (by decide) ⟨by decide, by decide⟩ rfl (pX4_stepOf (E := E) (h := h) (M := M) (g := g) (v1 := v2) (v2 := (wr32 (v4 - 1))) hg hG) (kF (st2 := [(0, (fX4_stepOf M g v2 (wr32 (v4 - 1)))), (0, v3), (2, g)]) rfl (fun hG2 => ?_))
      refine T_callV (av := [(0, v3), (0, (fX4_stepOf M g v2 (wr32 (v4 - 1))))]) (st := []) (d2 := 3) (nc2 := 0) (ns2 := 0) (pc' := 53) dX7_fillWalk_50 rfl mtX1_stepFrom mvX1_stepFrom mlX7_83 cl1 (shg0 hg) rfl rfl (Nat.le_of_ble_eq_true rfl) (by decide) ⟨by decide, by decide⟩ rfl (pX1_stepFrom (E := E) (h := h) (M := M) (g := g) (v1 := v3) (v2 := (fX4_stepOf M g v2 (wr32 (v4 - 1)))) hg hG) (kF (st2 := [(0, (fX1_stepFrom M g v3 (fX4_stepOf M g v2 (wr32 (v4 - 1)))))]) rfl (fun hG3 => ?_))
      refine T_istore (i := 5) (L' := [(2, 9), (2, g), (0, v2), (0, v3), (0, v4), (0, (fX1_stepFrom M g v3 (fX4_stepOf M g v2 (wr32 (v4 - 1)))))]) (pc' := 55) dX7_fillWalk_53 (by decide) rfl rfl ?_
      refine T_iload (i := 5) (pc' := 57) dX7_fillWalk_55 rfl rfl ?_
      refine T_iconst (pc' := 58) dX7_fillWalk_57 (by decide) rfl ?_
      have HJ4 : T E miX7_fillWalk 4 126 0 0 (fun r S M' => S = S0 ∧ G h M' ∧ Q r M') 67 [(2, 9), (2, g), (0, v2), (3, 0), (0, v4), (3, 0)] [(0, (if (fX1_stepFrom M g v3 (fX4_stepOf M g v2 (wr32 (v4 - 1)))) = (-1) then v3 else (fX1_stepFrom M g v3 (fX4_stepOf M g v2 (wr32 (v4 - 1))))))] S0 M 0 0 := by
        refine T_istore_n (i := 3) (L' := [(2, 9), (2, g), (0, v2), (0, (if (fX1_stepFrom M g v3 (fX4_stepOf M g v2 (wr32 (v4 - 1)))) = (-1) then v3 else (fX1_stepFrom M g v3 (fX4_stepOf M g v2 (wr32 (v4 - 1)))))), (0, v4), (3, 0)]) (pc' := 68) dX7_fillWalk_67 rfl (by decide) rfl rfl ?_
        refine T_aload_n (i := 0) (pc' := 69) dX7_fillWalk_68 rfl rfl rfl ?_
        refine U_gr (q := 10) (k := 0) (kI := 0) (pc' := 72) dX7_fillWalk_69 rfl cl7 (by decide) rfl (by decide) flX7_9 rfl rfl rfl (G_at hG 16 rfl) (by decide) rfl ?_
        refine T_iload_n (i := 2) (pc' := 73) dX7_fillWalk_72 rfl rfl rfl ?_
        refine T_sipush (pc' := 76) dX7_fillWalk_73 rfl (by decide) rfl ?_
        refine T_imul (pc' := 77) dX7_fillWalk_76 rfl ?_
        refine T_iload (i := 4) (pc' := 79) dX7_fillWalk_77 rfl rfl ?_
        refine T_iadd (pc' := 80) dX7_fillWalk_79 rfl ?_
        refine T_iload_n (i := 3) (pc' := 81) dX7_fillWalk_80 rfl rfl rfl ?_
        refine T_callSN (av := [(2, 10), (0, (wr32 ((wr32 (v2 * 201)) + v4))), (0, (if (fX1_stepFrom M g v3 (fX4_stepOf M g v2 (wr32 (v4 - 1)))) = (-1) then v3 else (fX1_stepFrom M g v3 (fX4_stepOf M g v2 (wr32 (v4 - 1))))))]) (st := []) (d2 := 1) (nc2 := 0) (ns2 := 0) (pc' := 84) dX7_fillWalk_81 rfl mtX11_put mvX11_put mlX7_75 rfl rfl (Nat.le_of_ble_eq_true rfl) (by decide) ⟨by decide, by decide⟩ rfl (pX11_put (E := E) (h := h) (M := M) (p0 := 10) (np0 := 1809) (v1 := (wr32 ((wr32 (v2 * 201)) + v4))) (v2 := (if (fX1_stepFrom M g v3 (fX4_stepOf M g v2 (wr32 (v4 - 1)))) = (-1) then v3 else (fX1_stepFrom M g v3 (fX4_stepOf M g v2 (wr32 (v4 - 1)))))) (by decide) rfl (by decide) hG) (kF (st2 := []) rfl (fun hG5 => ?_))
        refine T_iinc (L' := [(2, 9), (2, g), (0, v2), (0, (if (fX1_stepFrom M g v3 (fX4_stepOf M g v2 (wr32 (v4 - 1)))) = (-1) then v3 else (fX1_stepFrom M g v3 (fX4_stepOf M g v2 (wr32 (v4 - 1)))))), (0, (wr32 (v4 + 1))), (3, 0)]) (pc' := 87) dX7_fillWalk_84 rfl (by decide) rfl rfl ?_
        refine T_goto (pc' := 28) dX7_fillWalk_87 (by decide) ?_
        rw [hw]
        exact T_wk (ih _ _ (v4 + 1) _ (by omega) (by omega) hQ (gX11_put (h := h) (M := M) (p0 := 10) (np0 := 1809) (v1 := (wr32 ((wr32 (v2 * 201)) + v4))) (v2 := (if (fX1_stepFrom M g v3 (fX4_stepOf M g v2 (wr32 (v4 - 1)))) = (-1) then v3 else (fX1_stepFrom M g v3 (fX4_stepOf M g v2 (wr32 (v4 - 1)))))) (by decide) rfl (by decide) hG)) ⟨Or.inr rfl, Or.inr rfl, Or.inr rfl, Or.inr rfl, Or.inr rfl, Or.inl rfl, trivial⟩
      refine T_icmp_ne (pc' := 65) dX7_fillWalk_58 (by decide) (pf := 61) rfl (fun c6 => ?_) (fun c6 => ?_)
      · skip
        refine T_iload (i := 5) (pc' := 67) dX7_fillWalk_65 rfl rfl ?_
        exact T_wk (L' := [(2, 9), (2, g), (0, v2), (3, 0), (0, v4), (3, 0)]) (by have q := HJ4; try simp only [if_neg c6] at q; exact q) ⟨Or.inr rfl, Or.inr rfl, Or.inr rfl, Or.inl rfl, Or.inr rfl, Or.inl rfl, trivial⟩
      · skip
        refine T_iload_n (i := 3) (pc' := 62) dX7_fillWalk_61 rfl rfl rfl ?_
        refine T_goto (pc' := 67) dX7_fillWalk_62 (by decide) ?_
        exact T_wk (L' := [(2, 9), (2, g), (0, v2), (3, 0), (0, v4), (3, 0)]) (by have q := HJ4; try simp only [if_pos c6] at q; exact q) ⟨Or.inr rfl, Or.inr rfl, Or.inr rfl, Or.inl rfl, Or.inr rfl, Or.inl rfl, trivial⟩
def fmX7_fillWalk (M : Mem) (g : Int) (v2 : Int) : Mem :=
  (lmX7_fillWalk_28 g 200 v2 (fX11_get M (g + 3) 9 v2) 1 (fmX11_put M 10 1809 (wr32 (v2 * 201)) (fX11_get M (g + 3) 9 v2)))
theorem frX7_fillWalk {M : Mem} {g : Int} {v2 : Int} {q : Int} (hq0 : q ≠ 10) : (fmX7_fillWalk M g v2) q = M q := by
  unfold fmX7_fillWalk
  exact ((frlX7_fillWalk_28 hq0).trans ((frX11_put hq0).trans rfl))
theorem gX7_fillWalk {h : Int} {M : Mem} {g : Int} {v2 : Int} (hg : isG g) (hG : G h M) : G h (fmX7_fillWalk M g v2) := by
  unfold fmX7_fillWalk
  exact (glX7_fillWalk_28 hg (gX11_put (h := h) (M := M) (p0 := 10) (np0 := 1809) (v1 := (wr32 (v2 * 201))) (v2 := (fX11_get M (g + 3) 9 v2)) (by decide) rfl (by decide) hG))
set_option maxRecDepth 100000 in
theorem pX7_fillWalk {E : EV} {h : Int} {M : Mem} {g : Int} {v2 : Int} (hg : isG g) : C2 E miX7_fillWalk 4 h [(2, 9), (2, g), (0, v2)] M (fun r M' => r = none ∧ M' = (fmX7_fillWalk M g v2)) := by
  obtain ⟨Q, hQ0⟩ : ∃ Q : Option MV → Mem → Prop, Q = (fun r M' => r = none ∧ M' = (fmX7_fillWalk M g v2)) := ⟨_, rfl⟩
  rw [← hQ0]
  have hQ : Q none (lmX7_fillWalk_28 g 200 v2 (fX11_get M (g + 3) 9 v2) 1 (fmX11_put M 10 1809 (wr32 (v2 * 201)) (fX11_get M (g + 3) 9 v2))) := by rw [hQ0]; exact ⟨rfl, rfl⟩
  refine C2_of (L := [(2, 9), (2, g), (0, v2), (3, 0), (3, 0), (3, 0)]) (by decide +kernel) (Nat.le_of_ble_eq_true rfl) rfl (fun hG => ?_)
  refine T_aload_n (i := 1) (pc' := 1) dX7_fillWalk_0 rfl rfl rfl ?_
  refine U_grN (q := (g + 1)) (k := 0) (kI := 0) (pc' := 4) dX7_fillWalk_1 rfl cl1 (pog0 hg) (shg0 hg) (by decide) flX7_46 rfl rfl rfl (grg0_0 hg hG) (pog1 hg) rfl ?_
  refine U_grN (q := (g + 3)) (k := 1) (kI := 1) (pc' := 7) dX7_fillWalk_4 rfl cl4 (pog1 hg) (shg1 hg) (by decide) flX7_68 rfl rfl rfl (grg1_1 hg hG) (pog3 hg) rfl ?_
  refine T_iload_n (i := 2) (pc' := 8) dX7_fillWalk_7 rfl rfl rfl ?_
  refine T_callSN (av := [(2, (g + 3)), (0, v2)]) (st := []) (d2 := 1) (nc2 := 0) (ns2 := 0) (pc' := 11) dX7_fillWalk_8 rfl mtX11_get mvX11_get mlX7_71 rfl rfl (Nat.le_of_ble_eq_true rfl) (by decide) ⟨by decide, by decide⟩ rfl (pX11_get (E := E) (h := h) (M := M) (p0 := (g + 3)) (np0 := 9) (v1 := v2) (pog3 hg) (shg3 hg) (by decide) hG) (kF (st2 := [(0, (fX11_get M (g + 3) 9 v2))]) rfl (fun hG1 => ?_))
  refine T_istore_n (i := 3) (L' := [(2, 9), (2, g), (0, v2), (0, (fX11_get M (g + 3) 9 v2)), (3, 0), (3, 0)]) (pc' := 12) dX7_fillWalk_11 rfl (by decide) rfl rfl ?_
  refine T_aload_n (i := 0) (pc' := 13) dX7_fillWalk_12 rfl rfl rfl ?_
  refine U_gr (q := 10) (k := 0) (kI := 0) (pc' := 16) dX7_fillWalk_13 rfl cl7 (by decide) rfl (by decide) flX7_9 rfl rfl rfl (G_at hG 16 rfl) (by decide) rfl ?_
  refine T_iload_n (i := 2) (pc' := 17) dX7_fillWalk_16 rfl rfl rfl ?_
  refine T_sipush (pc' := 20) dX7_fillWalk_17 rfl (by decide) rfl ?_
  refine T_imul (pc' := 21) dX7_fillWalk_20 rfl ?_
  refine T_iload_n (i := 3) (pc' := 22) dX7_fillWalk_21 rfl rfl rfl ?_
  refine T_callSN (av := [(2, 10), (0, (wr32 (v2 * 201))), (0, (fX11_get M (g + 3) 9 v2))]) (st := []) (d2 := 1) (nc2 := 0) (ns2 := 0) (pc' := 25) dX7_fillWalk_22 rfl mtX11_put mvX11_put mlX7_75 rfl rfl (Nat.le_of_ble_eq_true rfl) (by decide) ⟨by decide, by decide⟩ rfl (pX11_put (E := E) (h := h) (M := M) (p0 := 10) (np0 := 1809) (v1 := (wr32 (v2 * 201))) (v2 := (fX11_get M (g + 3) 9 v2)) (by decide) rfl (by decide) hG) (kF (st2 := []) rfl (fun hG2 => ?_))
  refine T_iconst (pc' := 26) dX7_fillWalk_25 (by decide) rfl ?_
  refine T_istore (i := 4) (L' := [(2, 9), (2, g), (0, v2), (0, (fX11_get M (g + 3) 9 v2)), (0, 1), (3, 0)]) (pc' := 28) dX7_fillWalk_26 (by decide) rfl rfl ?_
  exact T_wk (qX7_fillWalk_28 hg 200 v2 (fX11_get M (g + 3) 9 v2) 1 _ (by first | decide | omega) rfl hQ (gX11_put (h := h) (M := M) (p0 := 10) (np0 := 1809) (v1 := (wr32 (v2 * 201))) (v2 := (fX11_get M (g + 3) 9 v2)) (by decide) rfl (by decide) hG)) ⟨Or.inr rfl, Or.inr rfl, Or.inr rfl, Or.inr rfl, Or.inr rfl, Or.inl rfl, trivial⟩
def fX8_hasRoom (M : Mem) (v1 : Int) : Int :=
  (if 1600 < (wr32 ((M 1 1) + v1)) then (0 : Int) else 1)
set_option maxRecDepth 100000 in
theorem pX8_hasRoom {E : EV} {h : Int} {M : Mem} {v1 : Int}  : C2 E miX8_hasRoom 1 h [(2, 1), (0, v1)] M (fun r M' => r = some (0, (fX8_hasRoom M v1)) ∧ M' = M) := by
  obtain ⟨Q, hQ⟩ : ∃ Q : Option MV → Mem → Prop, Q = (fun r M' => r = some (0, (fX8_hasRoom M v1)) ∧ M' = M) := ⟨_, rfl⟩
  rw [← hQ]
  refine C2_of (L := [(2, 1), (0, v1)]) (by decide +kernel) (Nat.le_of_ble_eq_true rfl) rfl (fun hG => ?_)
  refine T_aload_n (i := 0) (pc' := 1) dX8_hasRoom_0 rfl rfl rfl ?_
  refine U_gf (v := (0, (M 1 1))) (k := 1) (kI := 1) (pc' := 4) dX8_hasRoom_1 rfl cl8 (by decide) rfl (by decide) flX8_15 rfl rfl (by decide) rfl rfl ?_
  refine T_iload_n (i := 1) (pc' := 5) dX8_hasRoom_4 rfl rfl rfl ?_
  refine T_iadd (pc' := 6) dX8_hasRoom_5 rfl ?_
  refine T_sipush (pc' := 9) dX8_hasRoom_6 rfl (by decide) rfl ?_
  have HJ1 : T E miX8_hasRoom 1 126 0 0 (fun r S M' => S = S0 ∧ G h M' ∧ Q r M') 17 [(3, 0), (3, 0)] [(0, (if 1600 < (wr32 ((M 1 1) + v1)) then (0 : Int) else 1))] S0 M 0 0 := by
    exact T_zret dX8_hasRoom_17 rfl (by repeat' (first | apply bi | exact Or.inl rfl | exact Or.inr rfl)) ⟨rfl, hG, (by rw [hQ]; exact ⟨rfl, rfl⟩)⟩
  refine T_icmp_gt (pc' := 16) dX8_hasRoom_9 (by decide) (pf := 12) rfl (fun c2 => ?_) (fun c2 => ?_)
  · skip
    refine T_iconst (pc' := 17) dX8_hasRoom_16 (by decide) rfl ?_
    exact T_wk (L' := [(3, 0), (3, 0)]) (by have q := HJ1; try simp only [if_pos c2] at q; exact q) ⟨Or.inl rfl, Or.inl rfl, trivial⟩
  · skip
    refine T_iconst (pc' := 13) dX8_hasRoom_12 (by decide) rfl ?_
    refine T_goto (pc' := 17) dX8_hasRoom_13 (by decide) ?_
    exact T_wk (L' := [(3, 0), (3, 0)]) (by have q := HJ1; try simp only [if_neg c2] at q; exact q) ⟨Or.inl rfl, Or.inl rfl, trivial⟩
theorem fbX8_hasRoom (M : Mem) (v1 : Int) : (fX8_hasRoom M v1) = 0 ∨ (fX8_hasRoom M v1) = 1 := by
  unfold fX8_hasRoom
  repeat' (first | apply bi | exact Or.inl rfl | exact Or.inr rfl)
def lmX8_addNumber_3  : Nat → Int → Int → Mem → Mem
  | 0, v1, v2, M => M
  | k + 1, v1, v2, M => (lmX8_addNumber_3 k v1 (v2 - 8) (mset (fmX11_put M 2 1600 (M 1 1) (m_and (m_shr v1 v2) 255)) 1 1 (wr32 (((fmX11_put M 2 1600 (M 1 1) (m_and (m_shr v1 v2) 255)) 1 1) + 1))))
theorem frlX8_addNumber_3  {q : Int} (hq0 : q ≠ 2) (hq1 : q ≠ 1) : ∀ {k : Nat} {v1 v2 : Int} {M : Mem}, (lmX8_addNumber_3  k v1 v2 M) q = M q := by
  intro k
  induction k with
  | zero =>
    intro v1 v2 M
    show M q = M q
    exact rfl
  | succ k ih =>
    intro v1 v2 M
    show (lmX8_addNumber_3 k v1 (v2 - 8) (mset (fmX11_put M 2 1600 (M 1 1) (m_and (m_shr v1 v2) 255)) 1 1 (wr32 (((fmX11_put M 2 1600 (M 1 1) (m_and (m_shr v1 v2) 255)) 1 1) + 1)))) q = M q
    exact ((ih).trans ((mset_p hq1).trans ((frX11_put hq0).trans rfl)))
theorem glX8_addNumber_3 {h : Int}   : ∀ {k : Nat} {v1 v2 : Int} {M : Mem}, G h M → G h (lmX8_addNumber_3  k v1 v2 M) := by
  intro k
  induction k with
  | zero =>
    intro v1 v2 M hG
    show G h M
    exact hG
  | succ k ih =>
    intro v1 v2 M hG
    show G h (lmX8_addNumber_3 k v1 (v2 - 8) (mset (fmX11_put M 2 1600 (M 1 1) (m_and (m_shr v1 v2) 255)) 1 1 (wr32 (((fmX11_put M 2 1600 (M 1 1) (m_and (m_shr v1 v2) 255)) 1 1) + 1))))
    exact (ih (G_fld (x := 1) (i := 1) (y := (wr32 (((fmX11_put M 2 1600 (M 1 1) (m_and (m_shr v1 v2) 255)) 1 1) + 1))) rfl (by decide) (by decide) (by decide) (gX11_put (h := h) (M := M) (p0 := 2) (np0 := 1600) (v1 := (M 1 1)) (v2 := (m_and (m_shr v1 v2) 255)) (by decide) rfl (by decide) hG)))
set_option maxRecDepth 100000 in
set_option maxHeartbeats 2000000 in
theorem qX8_addNumber_3 {E : EV} {h : Int} {Q : Option MV → Mem → Prop}   : ∀ (k : Nat) (v1 v2 : Int) (M : Mem), v2 ≤ 1000000 → ((v2 + 8 - 0) / 8).toNat = k → Q none (lmX8_addNumber_3 k v1 v2 M) → G h M → TG E miX8_addNumber 2 h Q 3 [(2, 1), (0, v1), (0, v2)] [] M := by
  intro k
  induction k with
  | zero =>
    intro v1 v2 M hv0 hk hQ hG
    have hQ : Q none M := hQ
    refine T_iload_n (i := 2) (pc' := 4) dX8_addNumber_3 rfl rfl rfl ?_
    refine T_rng (fun _ z9 _ => ?_)
    have hB : r32 v2 := (ok_cons.mp z9).1
    unfold r32 at hB
    refine T_if_lt (pc' := 41) dX8_addNumber_4 (by decide) (pf := 7) rfl (fun c1 => ?_) (fun c1 => ?_)
    · skip
      exact T_vret dX8_addNumber_41 rfl ⟨rfl, hG, hQ⟩
    · exact absurd c1 (by omega)
  | succ k ih =>
    intro v1 v2 M hv0 hk hQ hG
    have hQ : Q none (lmX8_addNumber_3 k v1 (v2 - 8) (mset (fmX11_put M 2 1600 (M 1 1) (m_and (m_shr v1 v2) 255)) 1 1 (wr32 (((fmX11_put M 2 1600 (M 1 1) (m_and (m_shr v1 v2) 255)) 1 1) + 1)))) := hQ
    refine T_iload_n (i := 2) (pc' := 4) dX8_addNumber_3 rfl rfl rfl ?_
    refine T_rng (fun _ z9 _ => ?_)
    have hB : r32 v2 := (ok_cons.mp z9).1
    unfold r32 at hB
    refine T_if_lt (pc' := 41) dX8_addNumber_4 (by decide) (pf := 7) rfl (fun c1 => ?_) (fun c1 => ?_)
    · exact absurd c1 (by omega)
    · skip
      have hw : wr32 (v2 + (-8)) = v2 - 8 := wr32_id (by unfold r32; omega)
      refine T_aload_n (i := 0) (pc' := 8) dX8_addNumber_7 rfl rfl rfl ?_
      refine U_gr (q := 2) (k := 0) (kI := 0) (pc' := 11) dX8_addNumber_8 rfl cl8 (by decide) rfl (by decide) flX8_9 rfl rfl rfl (G_at hG 9 rfl) (by decide) rfl ?_
      refine T_aload_n (i := 0) (pc' := 12) dX8_addNumber_11 rfl rfl rfl ?_
      refine U_gf (v := (0, (M 1 1))) (k := 1) (kI := 1) (pc' := 15) dX8_addNumber_12 rfl cl8 (by decide) rfl (by decide) flX8_15 rfl rfl (by decide) rfl rfl ?_
      refine T_iload_n (i := 1) (pc' := 16) dX8_addNumber_15 rfl rfl rfl ?_
      refine T_iload_n (i := 2) (pc' := 17) dX8_addNumber_16 rfl rfl rfl ?_
      refine T_ishr (pc' := 18) dX8_addNumber_17 rfl ?_
      refine T_sipush (pc' := 21) dX8_addNumber_18 rfl (by decide) rfl ?_
      refine T_iand (pc' := 22) dX8_addNumber_21 rfl ?_
      refine T_callSN (av := [(2, 2), (0, (M 1 1)), (0, (m_and (m_shr v1 v2) 255))]) (st := []) (d2 := 1) (nc2 := 0) (ns2 := 0) (pc' := 25) dX8_addNumber_22 rfl mtX11_put mvX11_put mlX8_19 rfl rfl (Nat.le_of_ble_eq_true rfl) (by decide) ⟨by decide, by decide⟩ rfl (pX11_put (E := E) (h := h) (M := M) (p0 := 2) (np0 := 1600) (v1 := (M 1 1)) (v2 := (m_and (m_shr v1 v2) 255)) (by decide) rfl (by decide) hG) (kF (st2 := []) rfl (fun hG2 => ?_))
      refine T_aload_n (i := 0) (pc' := 26) dX8_addNumber_25 rfl rfl rfl ?_
      refine T_dup (pc' := 27) dX8_addNumber_26 (Nat.ne_of_beq_eq_false rfl) rfl ?_
      refine U_gf (v := (0, ((fmX11_put M 2 1600 (M 1 1) (m_and (m_shr v1 v2) 255)) 1 1))) (k := 1) (kI := 1) (pc' := 30) dX8_addNumber_27 rfl cl8 (by decide) rfl (by decide) flX8_15 rfl rfl (by decide) rfl rfl ?_
      refine T_iconst (pc' := 31) dX8_addNumber_30 (by decide) rfl ?_
      refine T_iadd (pc' := 32) dX8_addNumber_31 rfl ?_
      refine U_pf (y := (wr32 (((fmX11_put M 2 1600 (M 1 1) (m_and (m_shr v1 v2) 255)) 1 1) + 1))) (k := 1) (kI := 1) (pc' := 35) dX8_addNumber_32 rfl cl8 (by decide) rfl (by decide) flX8_15 rfl rfl rfl rfl rfl (by decide) (fun z => z) rfl ?_
      refine T_iinc (L' := [(2, 1), (0, v1), (0, (wr32 (v2 + (-8))))]) (pc' := 38) dX8_addNumber_35 rfl (by decide) rfl rfl ?_
      refine T_goto (pc' := 3) dX8_addNumber_38 (by decide) ?_
      rw [hw]
      exact T_wk (ih _ (v2 - 8) _ (by omega) (by omega) hQ (G_fld (x := 1) (i := 1) (y := (wr32 (((fmX11_put M 2 1600 (M 1 1) (m_and (m_shr v1 v2) 255)) 1 1) + 1))) rfl (by decide) (by decide) (by decide) (gX11_put (h := h) (M := M) (p0 := 2) (np0 := 1600) (v1 := (M 1 1)) (v2 := (m_and (m_shr v1 v2) 255)) (by decide) rfl (by decide) hG))) ⟨Or.inr rfl, Or.inr rfl, Or.inr rfl, trivial⟩
def fmX8_addNumber (M : Mem) (v1 : Int) : Mem :=
  (lmX8_addNumber_3 4 v1 24 M)
theorem frX8_addNumber {M : Mem} {v1 : Int} {q : Int} (hq0 : q ≠ 2) (hq1 : q ≠ 1) : (fmX8_addNumber M v1) q = M q := by
  unfold fmX8_addNumber
  exact ((frlX8_addNumber_3 hq0 hq1).trans rfl)
theorem gX8_addNumber {h : Int} {M : Mem} {v1 : Int}  (hG : G h M) : G h (fmX8_addNumber M v1) := by
  unfold fmX8_addNumber
  exact (glX8_addNumber_3 hG)
set_option maxRecDepth 100000 in
theorem pX8_addNumber {E : EV} {h : Int} {M : Mem} {v1 : Int}  : C2 E miX8_addNumber 2 h [(2, 1), (0, v1)] M (fun r M' => r = none ∧ M' = (fmX8_addNumber M v1)) := by
  obtain ⟨Q, hQ0⟩ : ∃ Q : Option MV → Mem → Prop, Q = (fun r M' => r = none ∧ M' = (fmX8_addNumber M v1)) := ⟨_, rfl⟩
  rw [← hQ0]
  have hQ : Q none (lmX8_addNumber_3 4 v1 24 M) := by rw [hQ0]; exact ⟨rfl, rfl⟩
  refine C2_of (L := [(2, 1), (0, v1), (3, 0)]) (by decide +kernel) (Nat.le_of_ble_eq_true rfl) rfl (fun hG => ?_)
  refine T_bipush (pc' := 2) dX8_addNumber_0 rfl (by decide) rfl ?_
  refine T_istore_n (i := 2) (L' := [(2, 1), (0, v1), (0, 24)]) (pc' := 3) dX8_addNumber_2 rfl (by decide) rfl rfl ?_
  exact T_wk (qX8_addNumber_3  4 v1 24 _ (by first | decide | omega) rfl hQ hG) ⟨Or.inr rfl, Or.inr rfl, Or.inr rfl, trivial⟩
def fX8_cutTo (M : Mem) (v1 : Int) : Int :=
  (if v1 < 0 then 0 else (if v1 ≤ (M 1 1) then 1 else 0))
def fmX8_cutTo (M : Mem) (v1 : Int) : Mem :=
  (if v1 < 0 then M else (if v1 ≤ (M 1 1) then (mset M 1 1 v1) else M))
theorem gX8_cutTo {h : Int} {M : Mem} {v1 : Int}  (hG : G h M) : G h (fmX8_cutTo M v1) := by
  unfold fmX8_cutTo
  exact (G_ite hG (G_ite (G_fld (x := 1) (i := 1) (y := v1) rfl (by decide) (by decide) (by decide) hG) hG))
set_option maxRecDepth 100000 in
theorem pX8_cutTo {E : EV} {h : Int} {M : Mem} {v1 : Int}  : C2 E miX8_cutTo 1 h [(2, 1), (0, v1)] M (fun r M' => r = some (0, (fX8_cutTo M v1)) ∧ M' = (fmX8_cutTo M v1)) := by
  obtain ⟨Q, hQ⟩ : ∃ Q : Option MV → Mem → Prop, Q = (fun r M' => r = some (0, (fX8_cutTo M v1)) ∧ M' = (fmX8_cutTo M v1)) := ⟨_, rfl⟩
  rw [← hQ]
  refine C2_of (L := [(2, 1), (0, v1)]) (by decide +kernel) (Nat.le_of_ble_eq_true rfl) rfl (fun hG => ?_)
  refine T_iload_n (i := 1) (pc' := 1) dX8_cutTo_0 rfl rfl rfl ?_
  refine T_if_lt (pc' := 12) dX8_cutTo_1 (by decide) (pf := 4) rfl (fun c1 => ?_) (fun c1 => ?_)
  · skip
    refine T_iconst (pc' := 13) dX8_cutTo_12 (by decide) rfl ?_
    exact T_zret dX8_cutTo_13 rfl (by decide) ⟨rfl, hG, (by rw [hQ]; exact ⟨(by unfold fX8_cutTo; simp only [if_pos c1]), (by unfold fmX8_cutTo; simp only [if_pos c1])⟩)⟩
  · skip
    refine T_iload_n (i := 1) (pc' := 5) dX8_cutTo_4 rfl rfl rfl ?_
    refine T_aload_n (i := 0) (pc' := 6) dX8_cutTo_5 rfl rfl rfl ?_
    refine U_gf (v := (0, (M 1 1))) (k := 1) (kI := 1) (pc' := 9) dX8_cutTo_6 rfl cl8 (by decide) rfl (by decide) flX8_15 rfl rfl (by decide) rfl rfl ?_
    refine T_icmp_le (pc' := 14) dX8_cutTo_9 (by decide) (pf := 12) rfl (fun c2 => ?_) (fun c2 => ?_)
    · skip
      refine T_aload_n (i := 0) (pc' := 15) dX8_cutTo_14 rfl rfl rfl ?_
      refine T_iload_n (i := 1) (pc' := 16) dX8_cutTo_15 rfl rfl rfl ?_
      refine U_pf (y := v1) (k := 1) (kI := 1) (pc' := 19) dX8_cutTo_16 rfl cl8 (by decide) rfl (by decide) flX8_15 rfl rfl rfl rfl rfl (by decide) (fun z => z) rfl ?_
      refine T_iconst (pc' := 20) dX8_cutTo_19 (by decide) rfl ?_
      exact T_zret dX8_cutTo_20 rfl (by decide) ⟨rfl, (G_fld (x := 1) (i := 1) (y := v1) rfl (by decide) (by decide) (by decide) hG), (by rw [hQ]; exact ⟨(by unfold fX8_cutTo; simp only [if_neg c1, if_pos c2]), (by unfold fmX8_cutTo; simp only [if_neg c1, if_pos c2])⟩)⟩
    · skip
      refine T_iconst (pc' := 13) dX8_cutTo_12 (by decide) rfl ?_
      exact T_zret dX8_cutTo_13 rfl (by decide) ⟨rfl, hG, (by rw [hQ]; exact ⟨(by unfold fX8_cutTo; simp only [if_neg c1, if_neg c2]), (by unfold fmX8_cutTo; simp only [if_neg c1, if_neg c2])⟩)⟩
theorem frX8_cutTo {M : Mem} {v1 : Int} {q : Int} (hq0 : q ≠ 1) : (fmX8_cutTo M v1) q = M q := by
  unfold fmX8_cutTo
  exact (ite_q rfl (ite_q ((mset_p hq0).trans rfl) rfl))
theorem fbX8_cutTo (M : Mem) (v1 : Int) : (fX8_cutTo M v1) = 0 ∨ (fX8_cutTo M v1) = 1 := by
  unfold fX8_cutTo
  repeat' (first | apply bi | exact Or.inl rfl | exact Or.inr rfl)
def lX10_weightOf_5 (g : Int) : Nat → Int → Int → Int → Mem → Int
  | 0, v1, v2, v4, M => v2
  | k + 1, v1, v2, v4, M => (lX10_weightOf_5 g k v1 (wr64 (v2 * (if (fX11_hasBit v1 v4) = 0 then (wr32 (4 - (fX11_get M (g + 6) 9 v4))) else (fX11_get M (g + 6) 9 v4)))) (v4 + 1) M)
set_option maxRecDepth 100000 in
set_option maxHeartbeats 2000000 in
theorem qX10_weightOf_5 {E : EV} {h : Int} {Q : Option MV → Mem → Prop} {g : Int} (hg : isG g) : ∀ (k : Nat) (v1 v2 v4 : Int) (M : Mem), 0 ≤ v4 → (((M (g + 1) 8)) - v4).toNat = k → Q (some (1, (lX10_weightOf_5 g k v1 v2 v4 M))) M → G h M → TG E miX10_weightOf 2 h Q 5 [(2, (g + 1)), (0, v1), (1, v2), (3, 0), (0, v4), (3, 0)] [] M := by
  intro k
  induction k with
  | zero =>
    intro v1 v2 v4 M hv0 hk hQ hG
    have hQ : Q (some (1, v2)) M := hQ
    refine T_iload (i := 4) (pc' := 7) dX10_weightOf_5 rfl rfl ?_
    refine T_aload_n (i := 0) (pc' := 8) dX10_weightOf_7 rfl rfl rfl ?_
    refine U_gfN (v := (0, (M (g + 1) 8))) (k := 8) (kI := 8) (pc' := 11) dX10_weightOf_8 rfl cl4 (pog1 hg) (shg1 hg) (by decide) flX10_66 rfl rfl (by decide) rfl rfl ?_
    refine T_rng (fun _ z9 _ => ?_)
    have hB : r32 (M (g + 1) 8) := (ok_cons.mp z9).1
    unfold r32 at hB
    refine T_icmp_ge (pc' := 54) dX10_weightOf_11 (by decide) (pf := 14) rfl (fun c1 => ?_) (fun c1 => ?_)
    · skip
      refine T_lload_n (i := 2) (pc' := 55) dX10_weightOf_54 rfl rfl rfl ?_
      exact T_lret dX10_weightOf_55 rfl ⟨rfl, hG, hQ⟩
    · exact absurd c1 (by omega)
  | succ k ih =>
    intro v1 v2 v4 M hv0 hk hQ hG
    have hQ : Q (some (1, (lX10_weightOf_5 g k v1 (wr64 (v2 * (if (fX11_hasBit v1 v4) = 0 then (wr32 (4 - (fX11_get M (g + 6) 9 v4))) else (fX11_get M (g + 6) 9 v4)))) (v4 + 1) M))) M := hQ
    refine T_iload (i := 4) (pc' := 7) dX10_weightOf_5 rfl rfl ?_
    refine T_aload_n (i := 0) (pc' := 8) dX10_weightOf_7 rfl rfl rfl ?_
    refine U_gfN (v := (0, (M (g + 1) 8))) (k := 8) (kI := 8) (pc' := 11) dX10_weightOf_8 rfl cl4 (pog1 hg) (shg1 hg) (by decide) flX10_66 rfl rfl (by decide) rfl rfl ?_
    refine T_rng (fun _ z9 _ => ?_)
    have hB : r32 (M (g + 1) 8) := (ok_cons.mp z9).1
    unfold r32 at hB
    refine T_icmp_ge (pc' := 54) dX10_weightOf_11 (by decide) (pf := 14) rfl (fun c1 => ?_) (fun c1 => ?_)
    · exact absurd c1 (by omega)
    · skip
      have hw : wr32 (v4 + 1) = v4 + 1 := wr32_id (by unfold r32; omega)
      refine T_aload_n (i := 0) (pc' := 15) dX10_weightOf_14 rfl rfl rfl ?_
      refine U_grN (q := (g + 6)) (k := 4) (kI := 4) (pc' := 18) dX10_weightOf_15 rfl cl4 (pog1 hg) (shg1 hg) (by decide) flX10_69 rfl rfl rfl (grg1_4 hg hG) (pog6 hg) rfl ?_
      refine T_iload (i := 4) (pc' := 20) dX10_weightOf_18 rfl rfl ?_
      refine T_callSN (av := [(2, (g + 6)), (0, v4)]) (st := []) (d2 := 1) (nc2 := 0) (ns2 := 0) (pc' := 23) dX10_weightOf_20 rfl mtX11_get mvX11_get mlX10_72 rfl rfl (Nat.le_of_ble_eq_true rfl) (by decide) ⟨by decide, by decide⟩ rfl (pX11_get (E := E) (h := h) (M := M) (p0 := (g + 6)) (np0 := 9) (v1 := v4) (pog6 hg) (shg6 hg) (by decide) hG) (kF (st2 := [(0, (fX11_get M (g + 6) 9 v4))]) rfl (fun hG2 => ?_))
      refine T_istore (i := 5) (L' := [(2, (g + 1)), (0, v1), (1, v2), (3, 0), (0, v4), (0, (fX11_get M (g + 6) 9 v4))]) (pc' := 25) dX10_weightOf_23 (by decide) rfl rfl ?_
      refine T_lload_n (i := 2) (pc' := 26) dX10_weightOf_25 rfl rfl rfl ?_
      refine T_iload_n (i := 1) (pc' := 27) dX10_weightOf_26 rfl rfl rfl ?_
      refine T_iload (i := 4) (pc' := 29) dX10_weightOf_27 rfl rfl ?_
      refine T_callSN (av := [(0, v1), (0, v4)]) (st := [(1, v2)]) (d2 := 1) (nc2 := 0) (ns2 := 0) (pc' := 32) dX10_weightOf_29 rfl mtX11_hasBit mvX11_hasBit mlX10_76 rfl rfl (Nat.le_of_ble_eq_true rfl) (by decide) ⟨by decide, by decide⟩ rfl (pX11_hasBit (E := E) (h := h) (M := M) (v0 := v1) (v1 := v4) hG) (kF (st2 := [(0, (fX11_hasBit v1 v4)), (1, v2)]) rfl (fun hG3 => ?_))
      have HJ4 : T E miX10_weightOf 2 126 0 0 (fun r S M' => S = S0 ∧ G h M' ∧ Q r M') 46 [(2, (g + 1)), (0, v1), (3, 0), (3, 0), (0, v4), (3, 0)] [(1, (if (fX11_hasBit v1 v4) = 0 then (wr32 (4 - (fX11_get M (g + 6) 9 v4))) else (fX11_get M (g + 6) 9 v4))), (1, v2)] S0 M 0 0 := by
        refine T_lmul (pc' := 47) dX10_weightOf_46 rfl ?_
        refine T_lstore_n (i := 2) (L' := [(2, (g + 1)), (0, v1), (1, (wr64 (v2 * (if (fX11_hasBit v1 v4) = 0 then (wr32 (4 - (fX11_get M (g + 6) 9 v4))) else (fX11_get M (g + 6) 9 v4))))), (3, 0), (0, v4), (3, 0)]) (pc' := 48) dX10_weightOf_47 rfl (by decide) rfl rfl ?_
        refine T_iinc (L' := [(2, (g + 1)), (0, v1), (1, (wr64 (v2 * (if (fX11_hasBit v1 v4) = 0 then (wr32 (4 - (fX11_get M (g + 6) 9 v4))) else (fX11_get M (g + 6) 9 v4))))), (3, 0), (0, (wr32 (v4 + 1))), (3, 0)]) (pc' := 51) dX10_weightOf_48 rfl (by decide) rfl rfl ?_
        refine T_goto (pc' := 5) dX10_weightOf_51 (by decide) ?_
        rw [hw]
        exact T_wk (ih _ _ (v4 + 1) _ (by omega) (by omega) hQ hG) ⟨Or.inr rfl, Or.inr rfl, Or.inr rfl, Or.inl rfl, Or.inr rfl, Or.inl rfl, trivial⟩
      refine T_if_eq (pc' := 41) dX10_weightOf_32 (by decide) (pf := 35) rfl (fun c5 => ?_) (fun c5 => ?_)
      · skip
        refine T_iconst (pc' := 42) dX10_weightOf_41 (by decide) rfl ?_
        refine T_iload (i := 5) (pc' := 44) dX10_weightOf_42 rfl rfl ?_
        refine T_isub (pc' := 45) dX10_weightOf_44 rfl ?_
        refine T_i2l (pc' := 46) dX10_weightOf_45 rfl ?_
        exact T_wk (L' := [(2, (g + 1)), (0, v1), (3, 0), (3, 0), (0, v4), (3, 0)]) (by have q := HJ4; try simp only [if_pos c5] at q; exact q) ⟨Or.inr rfl, Or.inr rfl, Or.inl rfl, Or.inl rfl, Or.inr rfl, Or.inl rfl, trivial⟩
      · skip
        refine T_iload (i := 5) (pc' := 37) dX10_weightOf_35 rfl rfl ?_
        refine T_i2l (pc' := 38) dX10_weightOf_37 rfl ?_
        refine T_goto (pc' := 46) dX10_weightOf_38 (by decide) ?_
        exact T_wk (L' := [(2, (g + 1)), (0, v1), (3, 0), (3, 0), (0, v4), (3, 0)]) (by have q := HJ4; try simp only [if_neg c5] at q; exact q) ⟨Or.inr rfl, Or.inr rfl, Or.inl rfl, Or.inl rfl, Or.inr rfl, Or.inl rfl, trivial⟩
def fX10_weightOf (M : Mem) (g : Int) (v1 : Int) : Int :=
  (lX10_weightOf_5 g ((((M (g + 1) 8)) : Int) - 0).toNat v1 1 0 M)
set_option maxRecDepth 100000 in
theorem pX10_weightOf {E : EV} {h : Int} {M : Mem} {g : Int} {v1 : Int} (hg : isG g) : C2 E miX10_weightOf 2 h [(2, (g + 1)), (0, v1)] M (fun r M' => r = some (1, (fX10_weightOf M g v1)) ∧ M' = M) := by
  obtain ⟨Q, hQ0⟩ : ∃ Q : Option MV → Mem → Prop, Q = (fun r M' => r = some (1, (fX10_weightOf M g v1)) ∧ M' = M) := ⟨_, rfl⟩
  rw [← hQ0]
  have hQ : Q (some (1, (lX10_weightOf_5 g ((((M (g + 1) 8)) : Int) - 0).toNat v1 1 0 M))) M := by rw [hQ0]; exact ⟨rfl, rfl⟩
  refine C2_of (L := [(2, (g + 1)), (0, v1), (3, 0), (3, 0), (3, 0), (3, 0)]) (by decide +kernel) (Nat.le_of_ble_eq_true rfl) rfl (fun hG => ?_)
  refine T_lconst (v := 1) (pc' := 1) dX10_weightOf_0 rfl (by decide) rfl ?_
  refine T_lstore_n (i := 2) (L' := [(2, (g + 1)), (0, v1), (1, 1), (3, 0), (3, 0), (3, 0)]) (pc' := 2) dX10_weightOf_1 rfl (by decide) rfl rfl ?_
  refine T_iconst (pc' := 3) dX10_weightOf_2 (by decide) rfl ?_
  refine T_istore (i := 4) (L' := [(2, (g + 1)), (0, v1), (1, 1), (3, 0), (0, 0), (3, 0)]) (pc' := 5) dX10_weightOf_3 (by decide) rfl rfl ?_
  exact T_wk (qX10_weightOf_5 hg _ v1 1 0 _ (by first | decide | omega) rfl hQ hG) ⟨Or.inr rfl, Or.inr rfl, Or.inr rfl, Or.inl rfl, Or.inr rfl, Or.inl rfl, trivial⟩
def fX11_feed (M : Mem) (v1 : Int) (v2 : Int) (v3 : Int) (v4 : Int) (v5 : Int) : Int :=
  (if (fX8_hasRoom M 20) = 0 then (-1) else ((fmX8_addNumber (fmX8_addNumber (fmX8_addNumber (fmX8_addNumber (fmX8_addNumber M v1) v2) v3) v4) v5) 1 1))
def fmX11_feed (M : Mem) (v1 : Int) (v2 : Int) (v3 : Int) (v4 : Int) (v5 : Int) : Mem :=
  (if (fX8_hasRoom M 20) = 0 then M else (fmX8_addNumber (fmX8_addNumber (fmX8_addNumber (fmX8_addNumber (fmX8_addNumber M v1) v2) v3) v4) v5))
theorem gX11_feed {h : Int} {M : Mem} {v1 : Int} {v2 : Int} {v3 : Int} {v4 : Int} {v5 : Int}  (hG : G h M) : G h (fmX11_feed M v1 v2 v3 v4 v5) := by
  unfold fmX11_feed
  exact (G_ite hG (gX8_addNumber (h := h) (M := (fmX8_addNumber (fmX8_addNumber (fmX8_addNumber (fmX8_addNumber M v1) v2) v3) v4)) (v1 := v5) (gX8_addNumber (h := h) (M := (fmX8_addNumber (fmX8_addNumber (fmX8_addNumber M v1) v2) v3)) (v1 := v4) (gX8_addNumber (h := h) (M := (fmX8_addNumber (fmX8_addNumber M v1) v2)) (v1 := v3) (gX8_addNumber (h := h) (M := (fmX8_addNumber M v1)) (v1 := v2) (gX8_addNumber (h := h) (M := M) (v1 := v1) hG))))))
set_option maxRecDepth 100000 in
theorem pX11_feed {E : EV} {h : Int} {M : Mem} {v1 : Int} {v2 : Int} {v3 : Int} {v4 : Int} {v5 : Int}  : C2 E miX11_feed 3 h [(2, 0), (0, v1), (0, v2), (0, v3), (0, v4), (0, v5)] M (fun r M' => r = some (0, (fX11_feed M v1 v2 v3 v4 v5)) ∧ M' = (fmX11_feed M v1 v2 v3 v4 v5)) := by
  obtain ⟨Q, hQ⟩ : ∃ Q : Option MV → Mem → Prop, Q = (fun r M' => r = some (0, (fX11_feed M v1 v2 v3 v4 v5)) ∧ M' = (fmX11_feed M v1 v2 v3 v4 v5)) := ⟨_, rfl⟩
  rw [← hQ]
  refine C2_of (L := [(2, 0), (0, v1), (0, v2), (0, v3), (0, v4), (0, v5)]) (by decide +kernel) (Nat.le_of_ble_eq_true rfl) rfl (fun hG => ?_)
  refine T_aload_n (i := 0) (pc' := 1) dX11_feed_0 rfl rfl rfl ?_
  refine U_gr (q := 1) (k := 0) (kI := 0) (pc' := 4) dX11_feed_1 rfl cl11 (by decide) rfl (by decide) flX11_12 rfl rfl rfl (G_at hG 0 rfl) (by decide) rfl ?_
  refine T_bipush (pc' := 6) dX11_feed_4 rfl (by decide) rfl ?_
  refine T_callV (av := [(0, 20)]) (st := []) (d2 := 1) (nc2 := 0) (ns2 := 0) (pc' := 9) dX11_feed_6 rfl mtX8_hasRoom mvX8_hasRoom mlX11_108 cl8 rfl rfl rfl (Nat.le_of_ble_eq_true rfl) (by decide) ⟨by decide, by decide⟩ rfl (pX8_hasRoom (E := E) (h := h) (M := M) (v1 := 20) hG) (kF (st2 := [(0, (fX8_hasRoom M 20))]) rfl (fun hG1 => ?_))
  refine T_if_ne (pc' := 14) dX11_feed_9 (by decide) (pf := 12) rfl (fun c2 => ?_) (fun c2 => ?_)
  · skip
    refine T_aload_n (i := 0) (pc' := 15) dX11_feed_14 rfl rfl rfl ?_
    refine U_gr (q := 1) (k := 0) (kI := 0) (pc' := 18) dX11_feed_15 rfl cl11 (by decide) rfl (by decide) flX11_12 rfl rfl rfl (G_at hG 0 rfl) (by decide) rfl ?_
    refine T_iload_n (i := 1) (pc' := 19) dX11_feed_18 rfl rfl rfl ?_
    refine T_callV (av := [(0, v1)]) (st := []) (d2 := 2) (nc2 := 0) (ns2 := 0) (pc' := 22) dX11_feed_19 rfl mtX8_addNumber mvX8_addNumber mlX11_112 cl8 rfl rfl rfl (Nat.le_of_ble_eq_true rfl) (by decide) ⟨by decide, by decide⟩ rfl (pX8_addNumber (E := E) (h := h) (M := M) (v1 := v1) hG) (kF (st2 := []) rfl (fun hG3 => ?_))
    refine T_aload_n (i := 0) (pc' := 23) dX11_feed_22 rfl rfl rfl ?_
    refine U_gr (q := 1) (k := 0) (kI := 0) (pc' := 26) dX11_feed_23 rfl cl11 (by decide) rfl (by decide) flX11_12 rfl rfl rfl (G_at (gX8_addNumber (h := h) (M := M) (v1 := v1) hG) 0 rfl) (by decide) rfl ?_
    refine T_iload_n (i := 2) (pc' := 27) dX11_feed_26 rfl rfl rfl ?_
    refine T_callV (av := [(0, v2)]) (st := []) (d2 := 2) (nc2 := 0) (ns2 := 0) (pc' := 30) dX11_feed_27 rfl mtX8_addNumber mvX8_addNumber mlX11_112 cl8 rfl rfl rfl (Nat.le_of_ble_eq_true rfl) (by decide) ⟨by decide, by decide⟩ rfl (pX8_addNumber (E := E) (h := h) (M := (fmX8_addNumber M v1)) (v1 := v2) (gX8_addNumber (h := h) (M := M) (v1 := v1) hG)) (kF (st2 := []) rfl (fun hG4 => ?_))
    refine T_aload_n (i := 0) (pc' := 31) dX11_feed_30 rfl rfl rfl ?_
    refine U_gr (q := 1) (k := 0) (kI := 0) (pc' := 34) dX11_feed_31 rfl cl11 (by decide) rfl (by decide) flX11_12 rfl rfl rfl (G_at (gX8_addNumber (h := h) (M := (fmX8_addNumber M v1)) (v1 := v2) (gX8_addNumber (h := h) (M := M) (v1 := v1) hG)) 0 rfl) (by decide) rfl ?_
    refine T_iload_n (i := 3) (pc' := 35) dX11_feed_34 rfl rfl rfl ?_
    refine T_callV (av := [(0, v3)]) (st := []) (d2 := 2) (nc2 := 0) (ns2 := 0) (pc' := 38) dX11_feed_35 rfl mtX8_addNumber mvX8_addNumber mlX11_112 cl8 rfl rfl rfl (Nat.le_of_ble_eq_true rfl) (by decide) ⟨by decide, by decide⟩ rfl (pX8_addNumber (E := E) (h := h) (M := (fmX8_addNumber (fmX8_addNumber M v1) v2)) (v1 := v3) (gX8_addNumber (h := h) (M := (fmX8_addNumber M v1)) (v1 := v2) (gX8_addNumber (h := h) (M := M) (v1 := v1) hG))) (kF (st2 := []) rfl (fun hG5 => ?_))
    refine T_aload_n (i := 0) (pc' := 39) dX11_feed_38 rfl rfl rfl ?_
    refine U_gr (q := 1) (k := 0) (kI := 0) (pc' := 42) dX11_feed_39 rfl cl11 (by decide) rfl (by decide) flX11_12 rfl rfl rfl (G_at (gX8_addNumber (h := h) (M := (fmX8_addNumber (fmX8_addNumber M v1) v2)) (v1 := v3) (gX8_addNumber (h := h) (M := (fmX8_addNumber M v1)) (v1 := v2) (gX8_addNumber (h := h) (M := M) (v1 := v1) hG))) 0 rfl) (by decide) rfl ?_
    refine T_iload (i := 4) (pc' := 44) dX11_feed_42 rfl rfl ?_
    refine T_callV (av := [(0, v4)]) (st := []) (d2 := 2) (nc2 := 0) (ns2 := 0) (pc' := 47) dX11_feed_44 rfl mtX8_addNumber mvX8_addNumber mlX11_112 cl8 rfl rfl rfl (Nat.le_of_ble_eq_true rfl) (by decide) ⟨by decide, by decide⟩ rfl (pX8_addNumber (E := E) (h := h) (M := (fmX8_addNumber (fmX8_addNumber (fmX8_addNumber M v1) v2) v3)) (v1 := v4) (gX8_addNumber (h := h) (M := (fmX8_addNumber (fmX8_addNumber M v1) v2)) (v1 := v3) (gX8_addNumber (h := h) (M := (fmX8_addNumber M v1)) (v1 := v2) (gX8_addNumber (h := h) (M := M) (v1 := v1) hG)))) (kF (st2 := []) rfl (fun hG6 => ?_))
    refine T_aload_n (i := 0) (pc' := 48) dX11_feed_47 rfl rfl rfl ?_
    refine U_gr (q := 1) (k := 0) (kI := 0) (pc' := 51) dX11_feed_48 rfl cl11 (by decide) rfl (by decide) flX11_12 rfl rfl rfl (G_at (gX8_addNumber (h := h) (M := (fmX8_addNumber (fmX8_addNumber (fmX8_addNumber M v1) v2) v3)) (v1 := v4) (gX8_addNumber (h := h) (M := (fmX8_addNumber (fmX8_addNumber M v1) v2)) (v1 := v3) (gX8_addNumber (h := h) (M := (fmX8_addNumber M v1)) (v1 := v2) (gX8_addNumber (h := h) (M := M) (v1 := v1) hG)))) 0 rfl) (by decide) rfl ?_
    refine T_iload (i := 5) (pc' := 53) dX11_feed_51 rfl rfl ?_
    refine T_callV (av := [(0, v5)]) (st := []) (d2 := 2) (nc2 := 0) (ns2 := 0) (pc' := 56) dX11_feed_53 rfl mtX8_addNumber mvX8_addNumber mlX11_112 cl8 rfl rfl rfl (Nat.le_of_ble_eq_true rfl) (by decide) ⟨by decide, by decide⟩ rfl (pX8_addNumber (E := E) (h := h) (M := (fmX8_addNumber (fmX8_addNumber (fmX8_addNumber (fmX8_addNumber M v1) v2) v3) v4)) (v1 := v5) (gX8_addNumber (h := h) (M := (fmX8_addNumber (fmX8_addNumber (fmX8_addNumber M v1) v2) v3)) (v1 := v4) (gX8_addNumber (h := h) (M := (fmX8_addNumber (fmX8_addNumber M v1) v2)) (v1 := v3) (gX8_addNumber (h := h) (M := (fmX8_addNumber M v1)) (v1 := v2) (gX8_addNumber (h := h) (M := M) (v1 := v1) hG))))) (kF (st2 := []) rfl (fun hG7 => ?_))
    refine T_aload_n (i := 0) (pc' := 57) dX11_feed_56 rfl rfl rfl ?_
    refine U_gr (q := 1) (k := 0) (kI := 0) (pc' := 60) dX11_feed_57 rfl cl11 (by decide) rfl (by decide) flX11_12 rfl rfl rfl (G_at (gX8_addNumber (h := h) (M := (fmX8_addNumber (fmX8_addNumber (fmX8_addNumber (fmX8_addNumber M v1) v2) v3) v4)) (v1 := v5) (gX8_addNumber (h := h) (M := (fmX8_addNumber (fmX8_addNumber (fmX8_addNumber M v1) v2) v3)) (v1 := v4) (gX8_addNumber (h := h) (M := (fmX8_addNumber (fmX8_addNumber M v1) v2)) (v1 := v3) (gX8_addNumber (h := h) (M := (fmX8_addNumber M v1)) (v1 := v2) (gX8_addNumber (h := h) (M := M) (v1 := v1) hG))))) 0 rfl) (by decide) rfl ?_
    refine U_gfN (v := (0, ((fmX8_addNumber (fmX8_addNumber (fmX8_addNumber (fmX8_addNumber (fmX8_addNumber M v1) v2) v3) v4) v5) 1 1))) (k := 1) (kI := 1) (pc' := 63) dX11_feed_60 rfl cl8 (by decide) rfl (by decide) flX11_116 rfl rfl (by decide) rfl rfl ?_
    exact T_iret dX11_feed_63 rfl ⟨rfl, (gX8_addNumber (h := h) (M := (fmX8_addNumber (fmX8_addNumber (fmX8_addNumber (fmX8_addNumber M v1) v2) v3) v4)) (v1 := v5) (gX8_addNumber (h := h) (M := (fmX8_addNumber (fmX8_addNumber (fmX8_addNumber M v1) v2) v3)) (v1 := v4) (gX8_addNumber (h := h) (M := (fmX8_addNumber (fmX8_addNumber M v1) v2)) (v1 := v3) (gX8_addNumber (h := h) (M := (fmX8_addNumber M v1)) (v1 := v2) (gX8_addNumber (h := h) (M := M) (v1 := v1) hG))))), (by rw [hQ]; exact ⟨(by unfold fX11_feed; simp only [if_neg c2]), (by unfold fmX11_feed; simp only [if_neg c2])⟩)⟩
  · skip
    refine T_iconst (pc' := 13) dX11_feed_12 (by decide) rfl ?_
    exact T_iret dX11_feed_13 rfl ⟨rfl, hG, (by rw [hQ]; exact ⟨(by unfold fX11_feed; simp only [if_pos c2]), (by unfold fmX11_feed; simp only [if_pos c2])⟩)⟩
theorem frX11_feed {M : Mem} {v1 : Int} {v2 : Int} {v3 : Int} {v4 : Int} {v5 : Int} {q : Int} (hq0 : q ≠ 2) (hq1 : q ≠ 1) : (fmX11_feed M v1 v2 v3 v4 v5) q = M q := by
  unfold fmX11_feed
  exact (ite_q rfl ((frX8_addNumber hq0 hq1).trans ((frX8_addNumber hq0 hq1).trans ((frX8_addNumber hq0 hq1).trans ((frX8_addNumber hq0 hq1).trans ((frX8_addNumber hq0 hq1).trans rfl))))))
def fX11_end (M : Mem) (v1 : Int) : Int :=
  (fX8_cutTo M v1)
def fmX11_end (M : Mem) (v1 : Int) : Mem :=
  (fmX8_cutTo M v1)
theorem gX11_end {h : Int} {M : Mem} {v1 : Int}  (hG : G h M) : G h (fmX11_end M v1) := by
  unfold fmX11_end
  exact (gX8_cutTo (h := h) (M := M) (v1 := v1) hG)
set_option maxRecDepth 100000 in
theorem pX11_end {E : EV} {h : Int} {M : Mem} {v1 : Int}  : C2 E miX11_end 2 h [(2, 0), (0, v1)] M (fun r M' => r = some (0, (fX11_end M v1)) ∧ M' = (fmX11_end M v1)) := by
  obtain ⟨Q, hQ⟩ : ∃ Q : Option MV → Mem → Prop, Q = (fun r M' => r = some (0, (fX11_end M v1)) ∧ M' = (fmX11_end M v1)) := ⟨_, rfl⟩
  rw [← hQ]
  refine C2_of (L := [(2, 0), (0, v1)]) (by decide +kernel) (Nat.le_of_ble_eq_true rfl) rfl (fun hG => ?_)
  refine T_aload_n (i := 0) (pc' := 1) dX11_end_0 rfl rfl rfl ?_
  refine U_gr (q := 1) (k := 0) (kI := 0) (pc' := 4) dX11_end_1 rfl cl11 (by decide) rfl (by decide) flX11_12 rfl rfl rfl (G_at hG 0 rfl) (by decide) rfl ?_
  refine T_iload_n (i := 1) (pc' := 5) dX11_end_4 rfl rfl rfl ?_
  refine T_callV (av := [(0, v1)]) (st := []) (d2 := 1) (nc2 := 0) (ns2 := 0) (pc' := 8) dX11_end_5 rfl mtX8_cutTo mvX8_cutTo mlX11_119 cl8 rfl rfl rfl (Nat.le_of_ble_eq_true rfl) (by decide) ⟨by decide, by decide⟩ rfl (pX8_cutTo (E := E) (h := h) (M := M) (v1 := v1) hG) (kF (st2 := [(0, (fX8_cutTo M v1))]) rfl (fun hG1 => ?_))
  exact T_zret dX11_end_8 rfl (by repeat' (first | apply bi | exact Or.inl rfl | exact Or.inr rfl | apply fbX8_cutTo)) ⟨rfl, (gX8_cutTo (h := h) (M := M) (v1 := v1) hG), (by rw [hQ]; exact ⟨rfl, rfl⟩)⟩
theorem frX11_end {M : Mem} {v1 : Int} {q : Int} (hq0 : q ≠ 1) : (fmX11_end M v1) q = M q := by
  unfold fmX11_end
  exact ((frX8_cutTo hq0).trans rfl)
theorem fbX11_end (M : Mem) (v1 : Int) : (fX11_end M v1) = 0 ∨ (fX11_end M v1) = 1 := by
  unfold fX11_end
  repeat' (first | apply bi | exact Or.inl rfl | exact Or.inr rfl | apply fbX8_cutTo)
def fmX11_changed (M : Mem) (v1 : Int) : Mem :=
  (mset (mset M 0 16 (if (M 0 16) = 0 then (if v1 = 0 then (0 : Int) else 1) else 1)) 0 17 1)
theorem gX11_changed {h : Int} {M : Mem} {v1 : Int}  (hG : G h M) : G h (fmX11_changed M v1) := by
  unfold fmX11_changed
  exact (G_fld (x := 0) (i := 17) (y := 1) rfl (by decide) (by decide) (by decide) (G_fld (x := 0) (i := 16) (y := (if (M 0 16) = 0 then (if v1 = 0 then (0 : Int) else 1) else 1)) rfl (by decide) (by decide) (by decide) hG))
set_option maxRecDepth 100000 in
theorem pX11_changed {E : EV} {h : Int} {M : Mem} {v1 : Int}  : C2 E miX11_changed 1 h [(2, 0), (0, v1)] M (fun r M' => r = none ∧ M' = (fmX11_changed M v1)) := by
  obtain ⟨Q, hQ⟩ : ∃ Q : Option MV → Mem → Prop, Q = (fun r M' => r = none ∧ M' = (fmX11_changed M v1)) := ⟨_, rfl⟩
  rw [← hQ]
  refine C2_of (L := [(2, 0), (0, v1)]) (by decide +kernel) (Nat.le_of_ble_eq_true rfl) rfl (fun hG => ?_)
  refine T_aload_n (i := 0) (pc' := 1) dX11_changed_0 rfl rfl rfl ?_
  refine T_aload_n (i := 0) (pc' := 2) dX11_changed_1 rfl rfl rfl ?_
  refine U_gf (v := (0, (M 0 16))) (k := 16) (kI := 16) (pc' := 5) dX11_changed_2 rfl cl11 (by decide) rfl (by decide) flX11_101 rfl rfl (by decide) rfl rfl ?_
  have HJ1 : T E miX11_changed 1 126 0 0 (fun r S M' => S = S0 ∧ G h M' ∧ Q r M') 17 [(2, 0), (3, 0)] [(0, (if (M 0 16) = 0 then (if v1 = 0 then (0 : Int) else 1) else 1)), (2, 0)] S0 M 0 0 := by
    refine U_pf (y := (if (M 0 16) = 0 then (if v1 = 0 then (0 : Int) else 1) else 1)) (k := 16) (kI := 16) (pc' := 20) dX11_changed_17 rfl cl11 (by decide) rfl (by decide) flX11_101 rfl rfl rfl rfl rfl (by decide) (fun _ => bool_ok (by omega)) rfl ?_
    refine T_aload_n (i := 0) (pc' := 21) dX11_changed_20 rfl rfl rfl ?_
    refine T_iconst (pc' := 22) dX11_changed_21 (by decide) rfl ?_
    refine U_pf (y := 1) (k := 17) (kI := 17) (pc' := 25) dX11_changed_22 rfl cl11 (by decide) rfl (by decide) flX11_105 rfl rfl rfl rfl rfl (by decide) (fun _ => bool_ok (by decide)) rfl ?_
    exact T_vret dX11_changed_25 rfl ⟨rfl, (G_fld (x := 0) (i := 17) (y := 1) rfl (by decide) (by decide) (by decide) (G_fld (x := 0) (i := 16) (y := (if (M 0 16) = 0 then (if v1 = 0 then (0 : Int) else 1) else 1)) rfl (by decide) (by decide) (by decide) hG)), (by rw [hQ]; exact ⟨rfl, rfl⟩)⟩
  refine T_if_ne (pc' := 12) dX11_changed_5 (by decide) (pf := 8) rfl (fun c2 => ?_) (fun c2 => ?_)
  · skip
    refine T_iconst (pc' := 13) dX11_changed_12 (by decide) rfl ?_
    refine T_goto (pc' := 17) dX11_changed_13 (by decide) ?_
    exact T_wk (L' := [(2, 0), (3, 0)]) (by have q := HJ1; try simp only [if_neg c2] at q; exact q) ⟨Or.inr rfl, Or.inl rfl, trivial⟩
  · skip
    refine T_iload_n (i := 1) (pc' := 9) dX11_changed_8 rfl rfl rfl ?_
    refine T_if_eq (pc' := 16) dX11_changed_9 (by decide) (pf := 12) rfl (fun c3 => ?_) (fun c3 => ?_)
    · skip
      refine T_iconst (pc' := 17) dX11_changed_16 (by decide) rfl ?_
      exact T_wk (L' := [(2, 0), (3, 0)]) (by have q := HJ1; try simp only [if_pos c2] at q; try simp only [if_pos c3] at q; exact q) ⟨Or.inr rfl, Or.inl rfl, trivial⟩
    · skip
      refine T_iconst (pc' := 13) dX11_changed_12 (by decide) rfl ?_
      refine T_goto (pc' := 17) dX11_changed_13 (by decide) ?_
      exact T_wk (L' := [(2, 0), (3, 0)]) (by have q := HJ1; try simp only [if_pos c2] at q; try simp only [if_neg c3] at q; exact q) ⟨Or.inr rfl, Or.inl rfl, trivial⟩
theorem frX11_changed {M : Mem} {v1 : Int} {q : Int} (hq0 : q ≠ 0) : (fmX11_changed M v1) q = M q := by
  unfold fmX11_changed
  exact ((mset_p hq0).trans ((mset_p hq0).trans rfl))
def fmX11_takeFault (M : Mem) : Mem :=
  (mset (mset M 0 14 (M 3 4)) 0 15 ((mset M 0 14 (M 3 4)) 3 5))
theorem gX11_takeFault {h : Int} {M : Mem}   (hG : G h M) : G h (fmX11_takeFault M) := by
  unfold fmX11_takeFault
  exact (G_fld (x := 0) (i := 15) (y := ((mset M 0 14 (M 3 4)) 3 5)) rfl (by decide) (by decide) (by decide) (G_fld (x := 0) (i := 14) (y := (M 3 4)) rfl (by decide) (by decide) (by decide) hG))
set_option maxRecDepth 100000 in
theorem pX11_takeFault {E : EV} {h : Int} {M : Mem}   : C2 E miX11_takeFault 1 h [(2, 0)] M (fun r M' => r = none ∧ M' = (fmX11_takeFault M)) := by
  obtain ⟨Q, hQ⟩ : ∃ Q : Option MV → Mem → Prop, Q = (fun r M' => r = none ∧ M' = (fmX11_takeFault M)) := ⟨_, rfl⟩
  rw [← hQ]
  refine C2_of (L := [(2, 0)]) (by decide +kernel) (Nat.le_of_ble_eq_true rfl) rfl (fun hG => ?_)
  refine T_aload_n (i := 0) (pc' := 1) dX11_takeFault_0 rfl rfl rfl ?_
  refine T_aload_n (i := 0) (pc' := 2) dX11_takeFault_1 rfl rfl rfl ?_
  refine U_gr (q := 3) (k := 1) (kI := 1) (pc' := 5) dX11_takeFault_2 rfl cl11 (by decide) rfl (by decide) flX11_21 rfl rfl rfl (G_at hG 1 rfl) (by decide) rfl ?_
  refine U_gfN (v := (0, (M 3 4))) (k := 4) (kI := 4) (pc' := 8) dX11_takeFault_5 rfl cl9 (by decide) rfl (by decide) flX11_385 rfl rfl (by decide) rfl rfl ?_
  refine U_pf (y := (M 3 4)) (k := 14) (kI := 14) (pc' := 11) dX11_takeFault_8 rfl cl11 (by decide) rfl (by decide) flX11_95 rfl rfl rfl rfl rfl (by decide) (fun z => z) rfl ?_
  refine T_aload_n (i := 0) (pc' := 12) dX11_takeFault_11 rfl rfl rfl ?_
  refine T_aload_n (i := 0) (pc' := 13) dX11_takeFault_12 rfl rfl rfl ?_
  refine U_gr (q := 3) (k := 1) (kI := 1) (pc' := 16) dX11_takeFault_13 rfl cl11 (by decide) rfl (by decide) flX11_21 rfl rfl rfl (G_at (G_fld (x := 0) (i := 14) (y := (M 3 4)) rfl (by decide) (by decide) (by decide) hG) 1 rfl) (by decide) rfl ?_
  refine U_gfN (v := (0, ((mset M 0 14 (M 3 4)) 3 5))) (k := 5) (kI := 5) (pc' := 19) dX11_takeFault_16 rfl cl9 (by decide) rfl (by decide) flX11_386 rfl rfl (by decide) rfl rfl ?_
  refine U_pf (y := ((mset M 0 14 (M 3 4)) 3 5)) (k := 15) (kI := 15) (pc' := 22) dX11_takeFault_19 rfl cl11 (by decide) rfl (by decide) flX11_98 rfl rfl rfl rfl rfl (by decide) (fun z => z) rfl ?_
  exact T_vret dX11_takeFault_22 rfl ⟨rfl, (G_fld (x := 0) (i := 15) (y := ((mset M 0 14 (M 3 4)) 3 5)) rfl (by decide) (by decide) (by decide) (G_fld (x := 0) (i := 14) (y := (M 3 4)) rfl (by decide) (by decide) (by decide) hG)), (by rw [hQ]; exact ⟨rfl, rfl⟩)⟩
theorem frX11_takeFault {M : Mem} {q : Int} (hq0 : q ≠ 0) : (fmX11_takeFault M) q = M q := by
  unfold fmX11_takeFault
  exact ((mset_p hq0).trans ((mset_p hq0).trans rfl))
def fX11_fault (M : Mem) (v1 : Int) : Int :=
  (if v1 = 0 then (M 0 14) else (if v1 = 1 then (M 0 15) else (-1)))
set_option maxRecDepth 100000 in
theorem pX11_fault {E : EV} {h : Int} {M : Mem} {v1 : Int}  : C2 E miX11_fault 1 h [(2, 0), (0, v1)] M (fun r M' => r = some (0, (fX11_fault M v1)) ∧ M' = M) := by
  obtain ⟨Q, hQ⟩ : ∃ Q : Option MV → Mem → Prop, Q = (fun r M' => r = some (0, (fX11_fault M v1)) ∧ M' = M) := ⟨_, rfl⟩
  rw [← hQ]
  refine C2_of (L := [(2, 0), (0, v1)]) (by decide +kernel) (Nat.le_of_ble_eq_true rfl) rfl (fun hG => ?_)
  refine T_iload_n (i := 1) (pc' := 1) dX11_fault_0 rfl rfl rfl ?_
  by_cases c1 : v1 = 0
  · skip
    refine T_lookup (pc' := 28) dX11_fault_1 (by decide) (by rw [c1] <;> rfl) (by decide) ?_
    refine T_aload_n (i := 0) (pc' := 29) dX11_fault_28 rfl rfl rfl ?_
    refine U_gf (v := (0, (M 0 14))) (k := 14) (kI := 14) (pc' := 32) dX11_fault_29 rfl cl11 (by decide) rfl (by decide) flX11_95 rfl rfl (by decide) rfl rfl ?_
    exact T_iret dX11_fault_32 rfl ⟨rfl, hG, (by rw [hQ]; exact ⟨(by unfold fX11_fault; simp only [if_pos c1]), rfl⟩)⟩
  · skip
    by_cases c2 : v1 = 1
    · skip
      refine T_lookup (pc' := 33) dX11_fault_1 (by decide) (by rw [c2] <;> rfl) (by decide) ?_
      refine T_aload_n (i := 0) (pc' := 34) dX11_fault_33 rfl rfl rfl ?_
      refine U_gf (v := (0, (M 0 15))) (k := 15) (kI := 15) (pc' := 37) dX11_fault_34 rfl cl11 (by decide) rfl (by decide) flX11_98 rfl rfl (by decide) rfl rfl ?_
      exact T_iret dX11_fault_37 rfl ⟨rfl, hG, (by rw [hQ]; exact ⟨(by unfold fX11_fault; simp only [if_neg c1, if_pos c2]), rfl⟩)⟩
    · skip
      refine T_lookup (off := 37) (pc' := 38) dX11_fault_1 (by decide) (by show (if 0 = v1 then 27 else if 1 = v1 then 32 else 37) = 37; rw [if_neg (fun z => c1 z.symm), if_neg (fun z => c2 z.symm)]) (by decide) ?_
      refine T_iconst (pc' := 39) dX11_fault_38 (by decide) rfl ?_
      exact T_iret dX11_fault_39 rfl ⟨rfl, hG, (by rw [hQ]; exact ⟨(by unfold fX11_fault; simp only [if_neg c1, if_neg c2]), rfl⟩)⟩
def fX11_hall (M : Mem) (h : Int) (v1 : Int) : Int :=
  (if v1 = 0 then (M h 9) else (if v1 = 1 then (M h 10) else (if v1 = 2 then (fX1_wallCells M h) else (if v1 = 3 then (M h 12) else (if v1 = 4 then (fX1_closedDoors M h) else (if v1 = 5 then (M (h + 1) 8) else (if v1 = 6 then (M h 13) else (if v1 = 7 then (M h 14) else (if v1 = 8 then (M h 15) else (if v1 = 9 then (M h 16) else (if v1 = 10 then (M h 17) else (if v1 = 11 then (M 0 12) else (if v1 = 12 then (M 27 3) else (-1))))))))))))))
set_option maxRecDepth 100000 in
theorem pX11_hall {E : EV} {h : Int} {M : Mem} {v1 : Int}  : C2 E miX11_hall 3 h [(2, 0), (0, v1)] M (fun r M' => r = some (0, (fX11_hall M h v1)) ∧ M' = M) := by
  obtain ⟨Q, hQ⟩ : ∃ Q : Option MV → Mem → Prop, Q = (fun r M' => r = some (0, (fX11_hall M h v1)) ∧ M' = M) := ⟨_, rfl⟩
  rw [← hQ]
  refine C2_of (L := [(2, 0), (0, v1)]) (by decide +kernel) (Nat.le_of_ble_eq_true rfl) rfl (fun hG => ?_)
  have hh := hG.2.2.2
  refine T_iload_n (i := 1) (pc' := 1) dX11_hall_0 rfl rfl rfl ?_
  by_cases c1 : v1 = 0
  · skip
    refine T_tableIn (pc' := 68) dX11_hall_1 (by omega) (by omega) (by rw [c1]; rfl) (by decide) ?_
    refine T_aload_n (i := 0) (pc' := 69) dX11_hall_68 rfl rfl rfl ?_
    refine U_gr (q := h) (k := 10) (kI := 10) (pc' := 72) dX11_hall_69 rfl cl11 (by decide) rfl (by decide) flX11_82 rfl rfl rfl hG.2.1 (pog0 hh) rfl ?_
    refine U_gfN (v := (0, (M h 9))) (k := 9) (kI := 9) (pc' := 75) dX11_hall_72 rfl cl1 (pog0 hh) (shg0 hh) (by decide) flX11_149 rfl rfl (by decide) rfl rfl ?_
    exact T_iret dX11_hall_75 rfl ⟨rfl, hG, (by rw [hQ]; exact ⟨(by unfold fX11_hall; simp only [if_pos c1]), rfl⟩)⟩
  · skip
    by_cases c2 : v1 = 1
    · skip
      refine T_tableIn (pc' := 76) dX11_hall_1 (by omega) (by omega) (by rw [c2]; rfl) (by decide) ?_
      refine T_aload_n (i := 0) (pc' := 77) dX11_hall_76 rfl rfl rfl ?_
      refine U_gr (q := h) (k := 10) (kI := 10) (pc' := 80) dX11_hall_77 rfl cl11 (by decide) rfl (by decide) flX11_82 rfl rfl rfl hG.2.1 (pog0 hh) rfl ?_
      refine U_gfN (v := (0, (M h 10))) (k := 10) (kI := 10) (pc' := 83) dX11_hall_80 rfl cl1 (pog0 hh) (shg0 hh) (by decide) flX11_152 rfl rfl (by decide) rfl rfl ?_
      exact T_iret dX11_hall_83 rfl ⟨rfl, hG, (by rw [hQ]; exact ⟨(by unfold fX11_hall; simp only [if_neg c1, if_pos c2]), rfl⟩)⟩
    · skip
      by_cases c3 : v1 = 2
      · skip
        refine T_tableIn (pc' := 84) dX11_hall_1 (by omega) (by omega) (by rw [c3]; rfl) (by decide) ?_
        refine T_aload_n (i := 0) (pc' := 85) dX11_hall_84 rfl rfl rfl ?_
        refine U_gr (q := h) (k := 10) (kI := 10) (pc' := 88) dX11_hall_85 rfl cl11 (by decide) rfl (by decide) flX11_82 rfl rfl rfl hG.2.1 (pog0 hh) rfl ?_
        refine T_callV (av := []) (st := []) (d2 := 2) (nc2 := 0) (ns2 := 0) (pc' := 91) dX11_hall_88 rfl mtX1_wallCells mvX1_wallCells mlX11_155 cl1 (shg0 hh) rfl rfl (Nat.le_of_ble_eq_true rfl) (by decide) ⟨by decide, by decide⟩ rfl (pX1_wallCells (E := E) (h := h) (M := M) (g := h) hh hG) (kF (st2 := [(0, (fX1_wallCells M h))]) rfl (fun hG4 => ?_))
        exact T_iret dX11_hall_91 rfl ⟨rfl, hG, (by rw [hQ]; exact ⟨(by unfold fX11_hall; simp only [if_neg c1, if_neg c2, if_pos c3]), rfl⟩)⟩
      · skip
        by_cases c5 : v1 = 3
        · skip
          refine T_tableIn (pc' := 92) dX11_hall_1 (by omega) (by omega) (by rw [c5]; rfl) (by decide) ?_
          refine T_aload_n (i := 0) (pc' := 93) dX11_hall_92 rfl rfl rfl ?_
          refine U_gr (q := h) (k := 10) (kI := 10) (pc' := 96) dX11_hall_93 rfl cl11 (by decide) rfl (by decide) flX11_82 rfl rfl rfl hG.2.1 (pog0 hh) rfl ?_
          refine U_gfN (v := (0, (M h 12))) (k := 12) (kI := 12) (pc' := 99) dX11_hall_96 rfl cl1 (pog0 hh) (shg0 hh) (by decide) flX11_158 rfl rfl (by decide) rfl rfl ?_
          exact T_iret dX11_hall_99 rfl ⟨rfl, hG, (by rw [hQ]; exact ⟨(by unfold fX11_hall; simp only [if_neg c1, if_neg c2, if_neg c3, if_pos c5]), rfl⟩)⟩
        · skip
          by_cases c6 : v1 = 4
          · skip
            refine T_tableIn (pc' := 100) dX11_hall_1 (by omega) (by omega) (by rw [c6]; rfl) (by decide) ?_
            refine T_aload_n (i := 0) (pc' := 101) dX11_hall_100 rfl rfl rfl ?_
            refine U_gr (q := h) (k := 10) (kI := 10) (pc' := 104) dX11_hall_101 rfl cl11 (by decide) rfl (by decide) flX11_82 rfl rfl rfl hG.2.1 (pog0 hh) rfl ?_
            refine T_callV (av := []) (st := []) (d2 := 2) (nc2 := 0) (ns2 := 0) (pc' := 107) dX11_hall_104 rfl mtX1_closedDoors mvX1_closedDoors mlX11_161 cl1 (shg0 hh) rfl rfl (Nat.le_of_ble_eq_true rfl) (by decide) ⟨by decide, by decide⟩ rfl (pX1_closedDoors (E := E) (h := h) (M := M) (g := h) hh hG) (kF (st2 := [(0, (fX1_closedDoors M h))]) rfl (fun hG7 => ?_))
            exact T_iret dX11_hall_107 rfl ⟨rfl, hG, (by rw [hQ]; exact ⟨(by unfold fX11_hall; simp only [if_neg c1, if_neg c2, if_neg c3, if_neg c5, if_pos c6]), rfl⟩)⟩
          · skip
            by_cases c8 : v1 = 5
            · skip
              refine T_tableIn (pc' := 108) dX11_hall_1 (by omega) (by omega) (by rw [c8]; rfl) (by decide) ?_
              refine T_aload_n (i := 0) (pc' := 109) dX11_hall_108 rfl rfl rfl ?_
              refine U_gr (q := h) (k := 10) (kI := 10) (pc' := 112) dX11_hall_109 rfl cl11 (by decide) rfl (by decide) flX11_82 rfl rfl rfl hG.2.1 (pog0 hh) rfl ?_
              refine U_grN (q := (h + 1)) (k := 0) (kI := 0) (pc' := 115) dX11_hall_112 rfl cl1 (pog0 hh) (shg0 hh) (by decide) flX11_129 rfl rfl rfl (grg0_0 hh hG) (pog1 hh) rfl ?_
              refine U_gfN (v := (0, (M (h + 1) 8))) (k := 8) (kI := 8) (pc' := 118) dX11_hall_115 rfl cl4 (pog1 hh) (shg1 hh) (by decide) flX11_164 rfl rfl (by decide) rfl rfl ?_
              exact T_iret dX11_hall_118 rfl ⟨rfl, hG, (by rw [hQ]; exact ⟨(by unfold fX11_hall; simp only [if_neg c1, if_neg c2, if_neg c3, if_neg c5, if_neg c6, if_pos c8]), rfl⟩)⟩
            · skip
              by_cases c9 : v1 = 6
              · skip
                refine T_tableIn (pc' := 119) dX11_hall_1 (by omega) (by omega) (by rw [c9]; rfl) (by decide) ?_
                refine T_aload_n (i := 0) (pc' := 120) dX11_hall_119 rfl rfl rfl ?_
                refine U_gr (q := h) (k := 10) (kI := 10) (pc' := 123) dX11_hall_120 rfl cl11 (by decide) rfl (by decide) flX11_82 rfl rfl rfl hG.2.1 (pog0 hh) rfl ?_
                refine U_gfN (v := (0, (M h 13))) (k := 13) (kI := 13) (pc' := 126) dX11_hall_123 rfl cl1 (pog0 hh) (shg0 hh) (by decide) flX11_167 rfl rfl (by decide) rfl rfl ?_
                exact T_iret dX11_hall_126 rfl ⟨rfl, hG, (by rw [hQ]; exact ⟨(by unfold fX11_hall; simp only [if_neg c1, if_neg c2, if_neg c3, if_neg c5, if_neg c6, if_neg c8, if_pos c9]), rfl⟩)⟩
              · skip
                by_cases c10 : v1 = 7
                · skip
                  refine T_tableIn (pc' := 127) dX11_hall_1 (by omega) (by omega) (by rw [c10]; rfl) (by decide) ?_
                  refine T_aload_n (i := 0) (pc' := 128) dX11_hall_127 rfl rfl rfl ?_
                  refine U_gr (q := h) (k := 10) (kI := 10) (pc' := 131) dX11_hall_128 rfl cl11 (by decide) rfl (by decide) flX11_82 rfl rfl rfl hG.2.1 (pog0 hh) rfl ?_
                  refine U_gfN (v := (0, (M h 14))) (k := 14) (kI := 14) (pc' := 134) dX11_hall_131 rfl cl1 (pog0 hh) (shg0 hh) (by decide) flX11_170 rfl rfl (by decide) rfl rfl ?_
                  exact T_iret dX11_hall_134 rfl ⟨rfl, hG, (by rw [hQ]; exact ⟨(by unfold fX11_hall; simp only [if_neg c1, if_neg c2, if_neg c3, if_neg c5, if_neg c6, if_neg c8, if_neg c9, if_pos c10]), rfl⟩)⟩
                · skip
                  by_cases c11 : v1 = 8
                  · skip
                    refine T_tableIn (pc' := 135) dX11_hall_1 (by omega) (by omega) (by rw [c11]; rfl) (by decide) ?_
                    refine T_aload_n (i := 0) (pc' := 136) dX11_hall_135 rfl rfl rfl ?_
                    refine U_gr (q := h) (k := 10) (kI := 10) (pc' := 139) dX11_hall_136 rfl cl11 (by decide) rfl (by decide) flX11_82 rfl rfl rfl hG.2.1 (pog0 hh) rfl ?_
                    refine U_gfN (v := (0, (M h 15))) (k := 15) (kI := 15) (pc' := 142) dX11_hall_139 rfl cl1 (pog0 hh) (shg0 hh) (by decide) flX11_173 rfl rfl (by decide) rfl rfl ?_
                    exact T_iret dX11_hall_142 rfl ⟨rfl, hG, (by rw [hQ]; exact ⟨(by unfold fX11_hall; simp only [if_neg c1, if_neg c2, if_neg c3, if_neg c5, if_neg c6, if_neg c8, if_neg c9, if_neg c10, if_pos c11]), rfl⟩)⟩
                  · skip
                    by_cases c12 : v1 = 9
                    · skip
                      refine T_tableIn (pc' := 143) dX11_hall_1 (by omega) (by omega) (by rw [c12]; rfl) (by decide) ?_
                      refine T_aload_n (i := 0) (pc' := 144) dX11_hall_143 rfl rfl rfl ?_
                      refine U_gr (q := h) (k := 10) (kI := 10) (pc' := 147) dX11_hall_144 rfl cl11 (by decide) rfl (by decide) flX11_82 rfl rfl rfl hG.2.1 (pog0 hh) rfl ?_
                      refine U_gfN (v := (0, (M h 16))) (k := 16) (kI := 16) (pc' := 150) dX11_hall_147 rfl cl1 (pog0 hh) (shg0 hh) (by decide) flX11_176 rfl rfl (by decide) rfl rfl ?_
                      exact T_iret dX11_hall_150 rfl ⟨rfl, hG, (by rw [hQ]; exact ⟨(by unfold fX11_hall; simp only [if_neg c1, if_neg c2, if_neg c3, if_neg c5, if_neg c6, if_neg c8, if_neg c9, if_neg c10, if_neg c11, if_pos c12]), rfl⟩)⟩
                    · skip
                      by_cases c13 : v1 = 10
                      · skip
                        refine T_tableIn (pc' := 151) dX11_hall_1 (by omega) (by omega) (by rw [c13]; rfl) (by decide) ?_
                        refine T_aload_n (i := 0) (pc' := 152) dX11_hall_151 rfl rfl rfl ?_
                        refine U_gr (q := h) (k := 10) (kI := 10) (pc' := 155) dX11_hall_152 rfl cl11 (by decide) rfl (by decide) flX11_82 rfl rfl rfl hG.2.1 (pog0 hh) rfl ?_
                        refine U_gfN (v := (0, (M h 17))) (k := 17) (kI := 17) (pc' := 158) dX11_hall_155 rfl cl1 (pog0 hh) (shg0 hh) (by decide) flX11_179 rfl rfl (by decide) rfl rfl ?_
                        exact T_iret dX11_hall_158 rfl ⟨rfl, hG, (by rw [hQ]; exact ⟨(by unfold fX11_hall; simp only [if_neg c1, if_neg c2, if_neg c3, if_neg c5, if_neg c6, if_neg c8, if_neg c9, if_neg c10, if_neg c11, if_neg c12, if_pos c13]), rfl⟩)⟩
                      · skip
                        by_cases c14 : v1 = 11
                        · skip
                          refine T_tableIn (pc' := 159) dX11_hall_1 (by omega) (by omega) (by rw [c14]; rfl) (by decide) ?_
                          refine T_aload_n (i := 0) (pc' := 160) dX11_hall_159 rfl rfl rfl ?_
                          refine U_gf (v := (0, (M 0 12))) (k := 12) (kI := 12) (pc' := 163) dX11_hall_160 rfl cl11 (by decide) rfl (by decide) flX11_89 rfl rfl (by decide) rfl rfl ?_
                          exact T_iret dX11_hall_163 rfl ⟨rfl, hG, (by rw [hQ]; exact ⟨(by unfold fX11_hall; simp only [if_neg c1, if_neg c2, if_neg c3, if_neg c5, if_neg c6, if_neg c8, if_neg c9, if_neg c10, if_neg c11, if_neg c12, if_neg c13, if_pos c14]), rfl⟩)⟩
                        · skip
                          by_cases c15 : v1 = 12
                          · skip
                            refine T_tableIn (pc' := 164) dX11_hall_1 (by omega) (by omega) (by rw [c15]; rfl) (by decide) ?_
                            refine T_aload_n (i := 0) (pc' := 165) dX11_hall_164 rfl rfl rfl ?_
                            refine U_gr (q := 27) (k := 7) (kI := 7) (pc' := 168) dX11_hall_165 rfl cl11 (by decide) rfl (by decide) flX11_67 rfl rfl rfl (G_at hG 7 rfl) (by decide) rfl ?_
                            refine U_gfN (v := (0, (M 27 3))) (k := 3) (kI := 3) (pc' := 171) dX11_hall_168 rfl cl0 (by decide) rfl (by decide) flX11_182 rfl rfl (by decide) rfl rfl ?_
                            exact T_iret dX11_hall_171 rfl ⟨rfl, hG, (by rw [hQ]; exact ⟨(by unfold fX11_hall; simp only [if_neg c1, if_neg c2, if_neg c3, if_neg c5, if_neg c6, if_neg c8, if_neg c9, if_neg c10, if_neg c11, if_neg c12, if_neg c13, if_neg c14, if_pos c15]), rfl⟩)⟩
                          · skip
                            refine T_tableOut (pc' := 172) dX11_hall_1 (by omega) (by decide) ?_
                            refine T_iconst (pc' := 173) dX11_hall_172 (by decide) rfl ?_
                            exact T_iret dX11_hall_173 rfl ⟨rfl, hG, (by rw [hQ]; exact ⟨(by unfold fX11_hall; simp only [if_neg c1, if_neg c2, if_neg c3, if_neg c5, if_neg c6, if_neg c8, if_neg c9, if_neg c10, if_neg c11, if_neg c12, if_neg c13, if_neg c14, if_neg c15]), rfl⟩)⟩
def fX11_letterOf (v0 : Int) (v1 : Int) : Int :=
  (m_and (m_shr v0 (wr32 (5 * (wr32 (5 - v1))))) 31)
set_option maxRecDepth 100000 in
theorem pX11_letterOf {E : EV} {h : Int} {M : Mem} {v0 : Int} {v1 : Int}  : C2 E miX11_letterOf 1 h [(0, v0), (0, v1)] M (fun r M' => r = some (0, (fX11_letterOf v0 v1)) ∧ M' = M) := by
  obtain ⟨Q, hQ⟩ : ∃ Q : Option MV → Mem → Prop, Q = (fun r M' => r = some (0, (fX11_letterOf v0 v1)) ∧ M' = M) := ⟨_, rfl⟩
  rw [← hQ]
  refine C2_of (L := [(0, v0), (0, v1)]) (by decide +kernel) (Nat.le_of_ble_eq_true rfl) rfl (fun hG => ?_)
  refine T_iload_n (i := 0) (pc' := 1) dX11_letterOf_0 rfl rfl rfl ?_
  refine T_iconst (pc' := 2) dX11_letterOf_1 (by decide) rfl ?_
  refine T_iconst (pc' := 3) dX11_letterOf_2 (by decide) rfl ?_
  refine T_iload_n (i := 1) (pc' := 4) dX11_letterOf_3 rfl rfl rfl ?_
  refine T_isub (pc' := 5) dX11_letterOf_4 rfl ?_
  refine T_imul (pc' := 6) dX11_letterOf_5 rfl ?_
  refine T_ishr (pc' := 7) dX11_letterOf_6 rfl ?_
  refine T_bipush (pc' := 9) dX11_letterOf_7 rfl (by decide) rfl ?_
  refine T_iand (pc' := 10) dX11_letterOf_9 rfl ?_
  exact T_iret dX11_letterOf_10 rfl ⟨rfl, hG, (by rw [hQ]; exact ⟨rfl, rfl⟩)⟩
def fX11_letter (M : Mem) (h : Int) (v1 : Int) (v2 : Int) (v3 : Int) : Int :=
  (if v3 < 0 then (-1) else (if v3 < 6 then (if v1 = 0 then (if (fX4_has M h v2) = 0 then (if v1 = 1 then (if (fX1_hasGuard M h v2) = 0 then (-1) else (fX11_letterOf (fX11_get M (h + 12) 4 v2) v3)) else (-1)) else (fX11_letterOf (fX11_get M (h + 2) 9 v2) v3)) else (if v1 = 1 then (if (fX1_hasGuard M h v2) = 0 then (-1) else (fX11_letterOf (fX11_get M (h + 12) 4 v2) v3)) else (-1))) else (-1)))
set_option maxRecDepth 100000 in
theorem pX11_letter {E : EV} {h : Int} {M : Mem} {v1 : Int} {v2 : Int} {v3 : Int}  : C2 E miX11_letter 2 h [(2, 0), (0, v1), (0, v2), (0, v3)] M (fun r M' => r = some (0, (fX11_letter M h v1 v2 v3)) ∧ M' = M) := by
  obtain ⟨Q, hQ⟩ : ∃ Q : Option MV → Mem → Prop, Q = (fun r M' => r = some (0, (fX11_letter M h v1 v2 v3)) ∧ M' = M) := ⟨_, rfl⟩
  rw [← hQ]
  refine C2_of (L := [(2, 0), (0, v1), (0, v2), (0, v3)]) (by decide +kernel) (Nat.le_of_ble_eq_true rfl) rfl (fun hG => ?_)
  have hh := hG.2.2.2
  refine T_iload_n (i := 3) (pc' := 1) dX11_letter_0 rfl rfl rfl ?_
  refine T_if_lt (pc' := 10) dX11_letter_1 (by decide) (pf := 4) rfl (fun c1 => ?_) (fun c1 => ?_)
  · skip
    refine T_iconst (pc' := 11) dX11_letter_10 (by decide) rfl ?_
    exact T_iret dX11_letter_11 rfl ⟨rfl, hG, (by rw [hQ]; exact ⟨(by unfold fX11_letter; simp only [if_pos c1]), rfl⟩)⟩
  · skip
    refine T_iload_n (i := 3) (pc' := 5) dX11_letter_4 rfl rfl rfl ?_
    refine T_bipush (pc' := 7) dX11_letter_5 rfl (by decide) rfl ?_
    refine T_icmp_lt (pc' := 12) dX11_letter_7 (by decide) (pf := 10) rfl (fun c2 => ?_) (fun c2 => ?_)
    · skip
      refine T_iload_n (i := 1) (pc' := 13) dX11_letter_12 rfl rfl rfl ?_
      refine T_if_ne (pc' := 49) dX11_letter_13 (by decide) (pf := 16) rfl (fun c3 => ?_) (fun c3 => ?_)
      · skip
        refine T_iload_n (i := 1) (pc' := 50) dX11_letter_49 rfl rfl rfl ?_
        refine T_iconst (pc' := 51) dX11_letter_50 (by decide) rfl ?_
        refine T_icmp_ne (pc' := 81) dX11_letter_51 (by decide) (pf := 54) rfl (fun c4 => ?_) (fun c4 => ?_)
        · skip
          refine T_iconst (pc' := 82) dX11_letter_81 (by decide) rfl ?_
          exact T_iret dX11_letter_82 rfl ⟨rfl, hG, (by rw [hQ]; exact ⟨(by unfold fX11_letter; simp only [if_neg c1, if_pos c2, if_neg c3, if_neg c4]), rfl⟩)⟩
        · skip
          refine T_aload_n (i := 0) (pc' := 55) dX11_letter_54 rfl rfl rfl ?_
          refine U_gr (q := h) (k := 10) (kI := 10) (pc' := 58) dX11_letter_55 rfl cl11 (by decide) rfl (by decide) flX11_82 rfl rfl rfl hG.2.1 (pog0 hh) rfl ?_
          refine T_iload_n (i := 2) (pc' := 59) dX11_letter_58 rfl rfl rfl ?_
          refine T_callV (av := [(0, v2)]) (st := []) (d2 := 1) (nc2 := 0) (ns2 := 0) (pc' := 62) dX11_letter_59 rfl mtX1_hasGuard mvX1_hasGuard mlX11_197 cl1 (shg0 hh) rfl rfl (Nat.le_of_ble_eq_true rfl) (by decide) ⟨by decide, by decide⟩ rfl (pX1_hasGuard (E := E) (h := h) (M := M) (g := h) (v1 := v2) hh hG) (kF (st2 := [(0, (fX1_hasGuard M h v2))]) rfl (fun hG5 => ?_))
          refine T_if_eq (pc' := 81) dX11_letter_62 (by decide) (pf := 65) rfl (fun c6 => ?_) (fun c6 => ?_)
          · skip
            refine T_iconst (pc' := 82) dX11_letter_81 (by decide) rfl ?_
            exact T_iret dX11_letter_82 rfl ⟨rfl, hG, (by rw [hQ]; exact ⟨(by unfold fX11_letter; simp only [if_neg c1, if_pos c2, if_neg c3, if_pos c4, if_pos c6]), rfl⟩)⟩
          · skip
            refine T_aload_n (i := 0) (pc' := 66) dX11_letter_65 rfl rfl rfl ?_
            refine U_gr (q := h) (k := 10) (kI := 10) (pc' := 69) dX11_letter_66 rfl cl11 (by decide) rfl (by decide) flX11_82 rfl rfl rfl hG.2.1 (pog0 hh) rfl ?_
            refine U_grN (q := (h + 12)) (k := 4) (kI := 4) (pc' := 72) dX11_letter_69 rfl cl1 (pog0 hh) (shg0 hh) (by decide) flX11_200 rfl rfl rfl (grg0_4 hh hG) (pog12 hh) rfl ?_
            refine T_iload_n (i := 2) (pc' := 73) dX11_letter_72 rfl rfl rfl ?_
            refine T_callS (av := [(2, (h + 12)), (0, v2)]) (st := []) (d2 := 1) (nc2 := 0) (ns2 := 0) (pc' := 76) dX11_letter_73 rfl mtX11_get mvX11_get mlX11_189 rfl rfl (Nat.le_of_ble_eq_true rfl) (by decide) ⟨by decide, by decide⟩ rfl (pX11_get (E := E) (h := h) (M := M) (p0 := (h + 12)) (np0 := 4) (v1 := v2) (pog12 hh) (shg12 hh) (by decide) hG) (kF (st2 := [(0, (fX11_get M (h + 12) 4 v2))]) rfl (fun hG7 => ?_))
            refine T_iload_n (i := 3) (pc' := 77) dX11_letter_76 rfl rfl rfl ?_
            refine T_callS (av := [(0, (fX11_get M (h + 12) 4 v2)), (0, v3)]) (st := []) (d2 := 1) (nc2 := 0) (ns2 := 0) (pc' := 80) dX11_letter_77 rfl mtX11_letterOf mvX11_letterOf mlX11_193 rfl rfl (Nat.le_of_ble_eq_true rfl) (by decide) ⟨by decide, by decide⟩ rfl (pX11_letterOf (E := E) (h := h) (M := M) (v0 := (fX11_get M (h + 12) 4 v2)) (v1 := v3) hG) (kF (st2 := [(0, (fX11_letterOf (fX11_get M (h + 12) 4 v2) v3))]) rfl (fun hG8 => ?_))
            exact T_iret dX11_letter_80 rfl ⟨rfl, hG, (by rw [hQ]; exact ⟨(by unfold fX11_letter; simp only [if_neg c1, if_pos c2, if_neg c3, if_pos c4, if_neg c6]), rfl⟩)⟩
      · skip
        refine T_aload_n (i := 0) (pc' := 17) dX11_letter_16 rfl rfl rfl ?_
        refine U_gr (q := h) (k := 10) (kI := 10) (pc' := 20) dX11_letter_17 rfl cl11 (by decide) rfl (by decide) flX11_82 rfl rfl rfl hG.2.1 (pog0 hh) rfl ?_
        refine U_grN (q := (h + 1)) (k := 0) (kI := 0) (pc' := 23) dX11_letter_20 rfl cl1 (pog0 hh) (shg0 hh) (by decide) flX11_129 rfl rfl rfl (grg0_0 hh hG) (pog1 hh) rfl ?_
        refine T_iload_n (i := 2) (pc' := 24) dX11_letter_23 rfl rfl rfl ?_
        refine T_callV (av := [(0, v2)]) (st := []) (d2 := 1) (nc2 := 0) (ns2 := 0) (pc' := 27) dX11_letter_24 rfl mtX4_has mvX4_has mlX11_183 cl4 (shg1 hh) rfl rfl (Nat.le_of_ble_eq_true rfl) (by decide) ⟨by decide, by decide⟩ rfl (pX4_has (E := E) (h := h) (M := M) (g := h) (v1 := v2) hh hG) (kF (st2 := [(0, (fX4_has M h v2))]) rfl (fun hG9 => ?_))
        refine T_if_eq (pc' := 49) dX11_letter_27 (by decide) (pf := 30) rfl (fun c10 => ?_) (fun c10 => ?_)
        · skip
          refine T_iload_n (i := 1) (pc' := 50) dX11_letter_49 rfl rfl rfl ?_
          refine T_iconst (pc' := 51) dX11_letter_50 (by decide) rfl ?_
          refine T_icmp_ne (pc' := 81) dX11_letter_51 (by decide) (pf := 54) rfl (fun c11 => ?_) (fun c11 => ?_)
          · skip
            refine T_iconst (pc' := 82) dX11_letter_81 (by decide) rfl ?_
            exact T_iret dX11_letter_82 rfl ⟨rfl, hG, (by rw [hQ]; exact ⟨(by unfold fX11_letter; simp only [if_neg c1, if_pos c2, if_pos c3, if_pos c10, if_neg c11]), rfl⟩)⟩
          · skip
            refine T_aload_n (i := 0) (pc' := 55) dX11_letter_54 rfl rfl rfl ?_
            refine U_gr (q := h) (k := 10) (kI := 10) (pc' := 58) dX11_letter_55 rfl cl11 (by decide) rfl (by decide) flX11_82 rfl rfl rfl hG.2.1 (pog0 hh) rfl ?_
            refine T_iload_n (i := 2) (pc' := 59) dX11_letter_58 rfl rfl rfl ?_
            refine T_callV (av := [(0, v2)]) (st := []) (d2 := 1) (nc2 := 0) (ns2 := 0) (pc' := 62) dX11_letter_59 rfl mtX1_hasGuard mvX1_hasGuard mlX11_197 cl1 (shg0 hh) rfl rfl (Nat.le_of_ble_eq_true rfl) (by decide) ⟨by decide, by decide⟩ rfl (pX1_hasGuard (E := E) (h := h) (M := M) (g := h) (v1 := v2) hh hG) (kF (st2 := [(0, (fX1_hasGuard M h v2))]) rfl (fun hG12 => ?_))
            refine T_if_eq (pc' := 81) dX11_letter_62 (by decide) (pf := 65) rfl (fun c13 => ?_) (fun c13 => ?_)
            · skip
              refine T_iconst (pc' := 82) dX11_letter_81 (by decide) rfl ?_
              exact T_iret dX11_letter_82 rfl ⟨rfl, hG, (by rw [hQ]; exact ⟨(by unfold fX11_letter; simp only [if_neg c1, if_pos c2, if_pos c3, if_pos c10, if_pos c11, if_pos c13]), rfl⟩)⟩
            · skip
              refine T_aload_n (i := 0) (pc' := 66) dX11_letter_65 rfl rfl rfl ?_
              refine U_gr (q := h) (k := 10) (kI := 10) (pc' := 69) dX11_letter_66 rfl cl11 (by decide) rfl (by decide) flX11_82 rfl rfl rfl hG.2.1 (pog0 hh) rfl ?_
              refine U_grN (q := (h + 12)) (k := 4) (kI := 4) (pc' := 72) dX11_letter_69 rfl cl1 (pog0 hh) (shg0 hh) (by decide) flX11_200 rfl rfl rfl (grg0_4 hh hG) (pog12 hh) rfl ?_
              refine T_iload_n (i := 2) (pc' := 73) dX11_letter_72 rfl rfl rfl ?_
              refine T_callS (av := [(2, (h + 12)), (0, v2)]) (st := []) (d2 := 1) (nc2 := 0) (ns2 := 0) (pc' := 76) dX11_letter_73 rfl mtX11_get mvX11_get mlX11_189 rfl rfl (Nat.le_of_ble_eq_true rfl) (by decide) ⟨by decide, by decide⟩ rfl (pX11_get (E := E) (h := h) (M := M) (p0 := (h + 12)) (np0 := 4) (v1 := v2) (pog12 hh) (shg12 hh) (by decide) hG) (kF (st2 := [(0, (fX11_get M (h + 12) 4 v2))]) rfl (fun hG14 => ?_))
              refine T_iload_n (i := 3) (pc' := 77) dX11_letter_76 rfl rfl rfl ?_
              refine T_callS (av := [(0, (fX11_get M (h + 12) 4 v2)), (0, v3)]) (st := []) (d2 := 1) (nc2 := 0) (ns2 := 0) (pc' := 80) dX11_letter_77 rfl mtX11_letterOf mvX11_letterOf mlX11_193 rfl rfl (Nat.le_of_ble_eq_true rfl) (by decide) ⟨by decide, by decide⟩ rfl (pX11_letterOf (E := E) (h := h) (M := M) (v0 := (fX11_get M (h + 12) 4 v2)) (v1 := v3) hG) (kF (st2 := [(0, (fX11_letterOf (fX11_get M (h + 12) 4 v2) v3))]) rfl (fun hG15 => ?_))
              exact T_iret dX11_letter_80 rfl ⟨rfl, hG, (by rw [hQ]; exact ⟨(by unfold fX11_letter; simp only [if_neg c1, if_pos c2, if_pos c3, if_pos c10, if_pos c11, if_neg c13]), rfl⟩)⟩
        · skip
          refine T_aload_n (i := 0) (pc' := 31) dX11_letter_30 rfl rfl rfl ?_
          refine U_gr (q := h) (k := 10) (kI := 10) (pc' := 34) dX11_letter_31 rfl cl11 (by decide) rfl (by decide) flX11_82 rfl rfl rfl hG.2.1 (pog0 hh) rfl ?_
          refine U_grN (q := (h + 1)) (k := 0) (kI := 0) (pc' := 37) dX11_letter_34 rfl cl1 (pog0 hh) (shg0 hh) (by decide) flX11_129 rfl rfl rfl (grg0_0 hh hG) (pog1 hh) rfl ?_
          refine U_grN (q := (h + 2)) (k := 0) (kI := 0) (pc' := 40) dX11_letter_37 rfl cl4 (pog1 hh) (shg1 hh) (by decide) flX11_186 rfl rfl rfl (grg1_0 hh hG) (pog2 hh) rfl ?_
          refine T_iload_n (i := 2) (pc' := 41) dX11_letter_40 rfl rfl rfl ?_
          refine T_callS (av := [(2, (h + 2)), (0, v2)]) (st := []) (d2 := 1) (nc2 := 0) (ns2 := 0) (pc' := 44) dX11_letter_41 rfl mtX11_get mvX11_get mlX11_189 rfl rfl (Nat.le_of_ble_eq_true rfl) (by decide) ⟨by decide, by decide⟩ rfl (pX11_get (E := E) (h := h) (M := M) (p0 := (h + 2)) (np0 := 9) (v1 := v2) (pog2 hh) (shg2 hh) (by decide) hG) (kF (st2 := [(0, (fX11_get M (h + 2) 9 v2))]) rfl (fun hG16 => ?_))
          refine T_iload_n (i := 3) (pc' := 45) dX11_letter_44 rfl rfl rfl ?_
          refine T_callS (av := [(0, (fX11_get M (h + 2) 9 v2)), (0, v3)]) (st := []) (d2 := 1) (nc2 := 0) (ns2 := 0) (pc' := 48) dX11_letter_45 rfl mtX11_letterOf mvX11_letterOf mlX11_193 rfl rfl (Nat.le_of_ble_eq_true rfl) (by decide) ⟨by decide, by decide⟩ rfl (pX11_letterOf (E := E) (h := h) (M := M) (v0 := (fX11_get M (h + 2) 9 v2)) (v1 := v3) hG) (kF (st2 := [(0, (fX11_letterOf (fX11_get M (h + 2) 9 v2) v3))]) rfl (fun hG17 => ?_))
          exact T_iret dX11_letter_48 rfl ⟨rfl, hG, (by rw [hQ]; exact ⟨(by unfold fX11_letter; simp only [if_neg c1, if_pos c2, if_pos c3, if_neg c10]), rfl⟩)⟩
    · skip
      refine T_iconst (pc' := 11) dX11_letter_10 (by decide) rfl ?_
      exact T_iret dX11_letter_11 rfl ⟨rfl, hG, (by rw [hQ]; exact ⟨(by unfold fX11_letter; simp only [if_neg c1, if_neg c2]), rfl⟩)⟩
def fX11_person (M : Mem) (h : Int) (v1 : Int) (v2 : Int) : Int :=
  (if (fX4_has M h v1) = 0 then (-1) else (if v2 = 0 then (fX11_get M (h + 3) 9 v1) else (if v2 = 1 then (fX11_get M (h + 4) 9 v1) else (if v2 = 2 then (fX11_get M (h + 5) 9 v1) else (if v2 = 3 then (fX11_get M (h + 6) 9 v1) else (if v2 = 4 then (if (fX11_hasBit (M (h + 1) 7) v1) = 0 then (0 : Int) else 1) else (if v2 = 5 then (fX11_get M (h + 7) 9 v1) else (-1))))))))
set_option maxRecDepth 100000 in
theorem pX11_person {E : EV} {h : Int} {M : Mem} {v1 : Int} {v2 : Int}  : C2 E miX11_person 2 h [(2, 0), (0, v1), (0, v2)] M (fun r M' => r = some (0, (fX11_person M h v1 v2)) ∧ M' = M) := by
  obtain ⟨Q, hQ⟩ : ∃ Q : Option MV → Mem → Prop, Q = (fun r M' => r = some (0, (fX11_person M h v1 v2)) ∧ M' = M) := ⟨_, rfl⟩
  rw [← hQ]
  refine C2_of (L := [(2, 0), (0, v1), (0, v2), (3, 0)]) (by decide +kernel) (Nat.le_of_ble_eq_true rfl) rfl (fun hG => ?_)
  have hh := hG.2.2.2
  refine T_aload_n (i := 0) (pc' := 1) dX11_person_0 rfl rfl rfl ?_
  refine U_gr (q := h) (k := 10) (kI := 10) (pc' := 4) dX11_person_1 rfl cl11 (by decide) rfl (by decide) flX11_82 rfl rfl rfl hG.2.1 (pog0 hh) rfl ?_
  refine U_grN (q := (h + 1)) (k := 0) (kI := 0) (pc' := 7) dX11_person_4 rfl cl1 (pog0 hh) (shg0 hh) (by decide) flX11_129 rfl rfl rfl (grg0_0 hh hG) (pog1 hh) rfl ?_
  refine T_astore_n (i := 3) (L' := [(2, 0), (0, v1), (0, v2), (2, (h + 1))]) (pc' := 8) dX11_person_7 rfl (by decide) rfl rfl ?_
  refine T_aload_n (i := 3) (pc' := 9) dX11_person_8 rfl rfl rfl ?_
  refine T_iload_n (i := 1) (pc' := 10) dX11_person_9 rfl rfl rfl ?_
  refine T_callV (av := [(0, v1)]) (st := []) (d2 := 1) (nc2 := 0) (ns2 := 0) (pc' := 13) dX11_person_10 rfl mtX4_has mvX4_has mlX11_183 cl4 (shg1 hh) rfl rfl (Nat.le_of_ble_eq_true rfl) (by decide) ⟨by decide, by decide⟩ rfl (pX4_has (E := E) (h := h) (M := M) (g := h) (v1 := v1) hh hG) (kF (st2 := [(0, (fX4_has M h v1))]) rfl (fun hG1 => ?_))
  refine T_if_ne (pc' := 18) dX11_person_13 (by decide) (pf := 16) rfl (fun c2 => ?_) (fun c2 => ?_)
  · skip
    refine T_iload_n (i := 2) (pc' := 19) dX11_person_18 rfl rfl rfl ?_
    by_cases c3 : v2 = 0
    · skip
      refine T_tableIn (pc' := 56) dX11_person_19 (by omega) (by omega) (by rw [c3]; rfl) (by decide) ?_
      refine T_aload_n (i := 3) (pc' := 57) dX11_person_56 rfl rfl rfl ?_
      refine U_grN (q := (h + 3)) (k := 1) (kI := 1) (pc' := 60) dX11_person_57 rfl cl4 (pog1 hh) (shg1 hh) (by decide) flX11_203 rfl rfl rfl (grg1_1 hh hG) (pog3 hh) rfl ?_
      refine T_iload_n (i := 1) (pc' := 61) dX11_person_60 rfl rfl rfl ?_
      refine T_callS (av := [(2, (h + 3)), (0, v1)]) (st := []) (d2 := 1) (nc2 := 0) (ns2 := 0) (pc' := 64) dX11_person_61 rfl mtX11_get mvX11_get mlX11_189 rfl rfl (Nat.le_of_ble_eq_true rfl) (by decide) ⟨by decide, by decide⟩ rfl (pX11_get (E := E) (h := h) (M := M) (p0 := (h + 3)) (np0 := 9) (v1 := v1) (pog3 hh) (shg3 hh) (by decide) hG) (kF (st2 := [(0, (fX11_get M (h + 3) 9 v1))]) rfl (fun hG4 => ?_))
      exact T_iret dX11_person_64 rfl ⟨rfl, hG, (by rw [hQ]; exact ⟨(by unfold fX11_person; simp only [if_neg c2, if_pos c3]), rfl⟩)⟩
    · skip
      by_cases c5 : v2 = 1
      · skip
        refine T_tableIn (pc' := 65) dX11_person_19 (by omega) (by omega) (by rw [c5]; rfl) (by decide) ?_
        refine T_aload_n (i := 3) (pc' := 66) dX11_person_65 rfl rfl rfl ?_
        refine U_grN (q := (h + 4)) (k := 2) (kI := 2) (pc' := 69) dX11_person_66 rfl cl4 (pog1 hh) (shg1 hh) (by decide) flX11_206 rfl rfl rfl (grg1_2 hh hG) (pog4 hh) rfl ?_
        refine T_iload_n (i := 1) (pc' := 70) dX11_person_69 rfl rfl rfl ?_
        refine T_callS (av := [(2, (h + 4)), (0, v1)]) (st := []) (d2 := 1) (nc2 := 0) (ns2 := 0) (pc' := 73) dX11_person_70 rfl mtX11_get mvX11_get mlX11_189 rfl rfl (Nat.le_of_ble_eq_true rfl) (by decide) ⟨by decide, by decide⟩ rfl (pX11_get (E := E) (h := h) (M := M) (p0 := (h + 4)) (np0 := 9) (v1 := v1) (pog4 hh) (shg4 hh) (by decide) hG) (kF (st2 := [(0, (fX11_get M (h + 4) 9 v1))]) rfl (fun hG6 => ?_))
        exact T_iret dX11_person_73 rfl ⟨rfl, hG, (by rw [hQ]; exact ⟨(by unfold fX11_person; simp only [if_neg c2, if_neg c3, if_pos c5]), rfl⟩)⟩
      · skip
        by_cases c7 : v2 = 2
        · skip
          refine T_tableIn (pc' := 74) dX11_person_19 (by omega) (by omega) (by rw [c7]; rfl) (by decide) ?_
          refine T_aload_n (i := 3) (pc' := 75) dX11_person_74 rfl rfl rfl ?_
          refine U_grN (q := (h + 5)) (k := 3) (kI := 3) (pc' := 78) dX11_person_75 rfl cl4 (pog1 hh) (shg1 hh) (by decide) flX11_209 rfl rfl rfl (grg1_3 hh hG) (pog5 hh) rfl ?_
          refine T_iload_n (i := 1) (pc' := 79) dX11_person_78 rfl rfl rfl ?_
          refine T_callS (av := [(2, (h + 5)), (0, v1)]) (st := []) (d2 := 1) (nc2 := 0) (ns2 := 0) (pc' := 82) dX11_person_79 rfl mtX11_get mvX11_get mlX11_189 rfl rfl (Nat.le_of_ble_eq_true rfl) (by decide) ⟨by decide, by decide⟩ rfl (pX11_get (E := E) (h := h) (M := M) (p0 := (h + 5)) (np0 := 9) (v1 := v1) (pog5 hh) (shg5 hh) (by decide) hG) (kF (st2 := [(0, (fX11_get M (h + 5) 9 v1))]) rfl (fun hG8 => ?_))
          exact T_iret dX11_person_82 rfl ⟨rfl, hG, (by rw [hQ]; exact ⟨(by unfold fX11_person; simp only [if_neg c2, if_neg c3, if_neg c5, if_pos c7]), rfl⟩)⟩
        · skip
          by_cases c9 : v2 = 3
          · skip
            refine T_tableIn (pc' := 83) dX11_person_19 (by omega) (by omega) (by rw [c9]; rfl) (by decide) ?_
            refine T_aload_n (i := 3) (pc' := 84) dX11_person_83 rfl rfl rfl ?_
            refine U_grN (q := (h + 6)) (k := 4) (kI := 4) (pc' := 87) dX11_person_84 rfl cl4 (pog1 hh) (shg1 hh) (by decide) flX11_212 rfl rfl rfl (grg1_4 hh hG) (pog6 hh) rfl ?_
            refine T_iload_n (i := 1) (pc' := 88) dX11_person_87 rfl rfl rfl ?_
            refine T_callS (av := [(2, (h + 6)), (0, v1)]) (st := []) (d2 := 1) (nc2 := 0) (ns2 := 0) (pc' := 91) dX11_person_88 rfl mtX11_get mvX11_get mlX11_189 rfl rfl (Nat.le_of_ble_eq_true rfl) (by decide) ⟨by decide, by decide⟩ rfl (pX11_get (E := E) (h := h) (M := M) (p0 := (h + 6)) (np0 := 9) (v1 := v1) (pog6 hh) (shg6 hh) (by decide) hG) (kF (st2 := [(0, (fX11_get M (h + 6) 9 v1))]) rfl (fun hG10 => ?_))
            exact T_iret dX11_person_91 rfl ⟨rfl, hG, (by rw [hQ]; exact ⟨(by unfold fX11_person; simp only [if_neg c2, if_neg c3, if_neg c5, if_neg c7, if_pos c9]), rfl⟩)⟩
          · skip
            by_cases c11 : v2 = 4
            · skip
              refine T_tableIn (pc' := 92) dX11_person_19 (by omega) (by omega) (by rw [c11]; rfl) (by decide) ?_
              refine T_aload_n (i := 3) (pc' := 93) dX11_person_92 rfl rfl rfl ?_
              refine U_gfN (v := (0, (M (h + 1) 7))) (k := 7) (kI := 7) (pc' := 96) dX11_person_93 rfl cl4 (pog1 hh) (shg1 hh) (by decide) flX11_215 rfl rfl (by decide) rfl rfl ?_
              refine T_iload_n (i := 1) (pc' := 97) dX11_person_96 rfl rfl rfl ?_
              refine T_callS (av := [(0, (M (h + 1) 7)), (0, v1)]) (st := []) (d2 := 1) (nc2 := 0) (ns2 := 0) (pc' := 100) dX11_person_97 rfl mtX11_hasBit mvX11_hasBit mlX11_218 rfl rfl (Nat.le_of_ble_eq_true rfl) (by decide) ⟨by decide, by decide⟩ rfl (pX11_hasBit (E := E) (h := h) (M := M) (v0 := (M (h + 1) 7)) (v1 := v1) hG) (kF (st2 := [(0, (fX11_hasBit (M (h + 1) 7) v1))]) rfl (fun hG12 => ?_))
              have HJ13 : T E miX11_person 2 126 0 0 (fun r S M' => S = S0 ∧ G h M' ∧ Q r M') 108 [(3, 0), (3, 0), (3, 0), (3, 0)] [(0, (if (fX11_hasBit (M (h + 1) 7) v1) = 0 then (0 : Int) else 1))] S0 M 0 0 := by
                exact T_iret dX11_person_108 rfl ⟨rfl, hG, (by rw [hQ]; exact ⟨(by unfold fX11_person; simp only [if_neg c2, if_neg c3, if_neg c5, if_neg c7, if_neg c9, if_pos c11]), rfl⟩)⟩
              refine T_if_eq (pc' := 107) dX11_person_100 (by decide) (pf := 103) rfl (fun c14 => ?_) (fun c14 => ?_)
              · skip
                refine T_iconst (pc' := 108) dX11_person_107 (by decide) rfl ?_
                exact T_wk (L' := [(3, 0), (3, 0), (3, 0), (3, 0)]) (by have q := HJ13; try simp only [if_pos c14] at q; exact q) ⟨Or.inl rfl, Or.inl rfl, Or.inl rfl, Or.inl rfl, trivial⟩
              · skip
                refine T_iconst (pc' := 104) dX11_person_103 (by decide) rfl ?_
                refine T_goto (pc' := 108) dX11_person_104 (by decide) ?_
                exact T_wk (L' := [(3, 0), (3, 0), (3, 0), (3, 0)]) (by have q := HJ13; try simp only [if_neg c14] at q; exact q) ⟨Or.inl rfl, Or.inl rfl, Or.inl rfl, Or.inl rfl, trivial⟩
            · skip
              by_cases c15 : v2 = 5
              · skip
                refine T_tableIn (pc' := 109) dX11_person_19 (by omega) (by omega) (by rw [c15]; rfl) (by decide) ?_
                refine T_aload_n (i := 3) (pc' := 110) dX11_person_109 rfl rfl rfl ?_
                refine U_grN (q := (h + 7)) (k := 5) (kI := 5) (pc' := 113) dX11_person_110 rfl cl4 (pog1 hh) (shg1 hh) (by decide) flX11_222 rfl rfl rfl (grg1_5 hh hG) (pog7 hh) rfl ?_
                refine T_iload_n (i := 1) (pc' := 114) dX11_person_113 rfl rfl rfl ?_
                refine T_callS (av := [(2, (h + 7)), (0, v1)]) (st := []) (d2 := 1) (nc2 := 0) (ns2 := 0) (pc' := 117) dX11_person_114 rfl mtX11_get mvX11_get mlX11_189 rfl rfl (Nat.le_of_ble_eq_true rfl) (by decide) ⟨by decide, by decide⟩ rfl (pX11_get (E := E) (h := h) (M := M) (p0 := (h + 7)) (np0 := 9) (v1 := v1) (pog7 hh) (shg7 hh) (by decide) hG) (kF (st2 := [(0, (fX11_get M (h + 7) 9 v1))]) rfl (fun hG16 => ?_))
                exact T_iret dX11_person_117 rfl ⟨rfl, hG, (by rw [hQ]; exact ⟨(by unfold fX11_person; simp only [if_neg c2, if_neg c3, if_neg c5, if_neg c7, if_neg c9, if_neg c11, if_pos c15]), rfl⟩)⟩
              · skip
                refine T_tableOut (pc' := 118) dX11_person_19 (by omega) (by decide) ?_
                refine T_iconst (pc' := 119) dX11_person_118 (by decide) rfl ?_
                exact T_iret dX11_person_119 rfl ⟨rfl, hG, (by rw [hQ]; exact ⟨(by unfold fX11_person; simp only [if_neg c2, if_neg c3, if_neg c5, if_neg c7, if_neg c9, if_neg c11, if_neg c15]), rfl⟩)⟩
  · skip
    refine T_iconst (pc' := 17) dX11_person_16 (by decide) rfl ?_
    exact T_iret dX11_person_17 rfl ⟨rfl, hG, (by rw [hQ]; exact ⟨(by unfold fX11_person; simp only [if_pos c2]), rfl⟩)⟩
