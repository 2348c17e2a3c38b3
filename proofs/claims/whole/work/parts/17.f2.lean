/-! methods by program, 2 -/
def lX7_findFirst_7 (g : Int) : Nat → Int → Int → Int → Mem → Int
  | 0, v2, v3, v4, M => v3
  | k + 1, v2, v3, v4, M => (lX7_findFirst_7 g k v2 (if (fX11_hasBit v2 v4) = 0 then v3 else (if (if (fX11_hasBit (M (g + 1) 7) v4) = 0 then (if 1 < (wr32 ((wr32 ((M g 14) + (fX11_get M (g + 4) 9 v4))) - 60)) then (wr32 ((wr32 ((M g 14) + (fX11_get M (g + 4) 9 v4))) - 60)) else 1) else 201) < v3 then (if (fX11_hasBit (M (g + 1) 7) v4) = 0 then (if 1 < (wr32 ((wr32 ((M g 14) + (fX11_get M (g + 4) 9 v4))) - 60)) then (wr32 ((wr32 ((M g 14) + (fX11_get M (g + 4) 9 v4))) - 60)) else 1) else 201) else v3)) (v4 + 1) (fmX11_put M 12 9 v4 (if (fX11_hasBit (M (g + 1) 7) v4) = 0 then (if 1 < (wr32 ((wr32 ((M g 14) + (fX11_get M (g + 4) 9 v4))) - 60)) then (wr32 ((wr32 ((M g 14) + (fX11_get M (g + 4) 9 v4))) - 60)) else 1) else 201)))
def lmX7_findFirst_7 (g : Int) : Nat → Int → Int → Int → Mem → Mem
  | 0, v2, v3, v4, M => M
  | k + 1, v2, v3, v4, M => (lmX7_findFirst_7 g k v2 (if (fX11_hasBit v2 v4) = 0 then v3 else (if (if (fX11_hasBit (M (g + 1) 7) v4) = 0 then (if 1 < (wr32 ((wr32 ((M g 14) + (fX11_get M (g + 4) 9 v4))) - 60)) then (wr32 ((wr32 ((M g 14) + (fX11_get M (g + 4) 9 v4))) - 60)) else 1) else 201) < v3 then (if (fX11_hasBit (M (g + 1) 7) v4) = 0 then (if 1 < (wr32 ((wr32 ((M g 14) + (fX11_get M (g + 4) 9 v4))) - 60)) then (wr32 ((wr32 ((M g 14) + (fX11_get M (g + 4) 9 v4))) - 60)) else 1) else 201) else v3)) (v4 + 1) (fmX11_put M 12 9 v4 (if (fX11_hasBit (M (g + 1) 7) v4) = 0 then (if 1 < (wr32 ((wr32 ((M g 14) + (fX11_get M (g + 4) 9 v4))) - 60)) then (wr32 ((wr32 ((M g 14) + (fX11_get M (g + 4) 9 v4))) - 60)) else 1) else 201)))
theorem frlX7_findFirst_7 {g : Int} {q : Int} (hq0 : q ≠ 12) : ∀ {k : Nat} {v2 v3 v4 : Int} {M : Mem}, (lmX7_findFirst_7 g k v2 v3 v4 M) q = M q := by
  intro k
  induction k with
  | zero =>
    intro v2 v3 v4 M
    show M q = M q
    repeat' (first | rfl | rw [mset_p hq0] | rw [mcpy_p hq0] | (rw [frX11_put] <;> try assumption) | rw [ite_ap] | split)
  | succ k ih =>
    intro v2 v3 v4 M
    show (lmX7_findFirst_7 g k v2 (if (fX11_hasBit v2 v4) = 0 then v3 else (if (if (fX11_hasBit (M (g + 1) 7) v4) = 0 then (if 1 < (wr32 ((wr32 ((M g 14) + (fX11_get M (g + 4) 9 v4))) - 60)) then (wr32 ((wr32 ((M g 14) + (fX11_get M (g + 4) 9 v4))) - 60)) else 1) else 201) < v3 then (if (fX11_hasBit (M (g + 1) 7) v4) = 0 then (if 1 < (wr32 ((wr32 ((M g 14) + (fX11_get M (g + 4) 9 v4))) - 60)) then (wr32 ((wr32 ((M g 14) + (fX11_get M (g + 4) 9 v4))) - 60)) else 1) else 201) else v3)) (v4 + 1) (fmX11_put M 12 9 v4 (if (fX11_hasBit (M (g + 1) 7) v4) = 0 then (if 1 < (wr32 ((wr32 ((M g 14) + (fX11_get M (g + 4) 9 v4))) - 60)) then (wr32 ((wr32 ((M g 14) + (fX11_get M (g + 4) 9 v4))) - 60)) else 1) else 201))) q = M q
    repeat' (first | rfl | rw [mset_p hq0] | rw [mcpy_p hq0] | (rw [frX11_put] <;> try assumption) | rw [ite_ap] | split | rw [ih])
theorem glX7_findFirst_7 {h : Int} {g : Int} (hg : isG g) : ∀ {k : Nat} {v2 v3 v4 : Int} {M : Mem}, G h M → G h (lmX7_findFirst_7 g k v2 v3 v4 M) := by
  intro k
  induction k with
  | zero =>
    intro v2 v3 v4 M hG
    show G h M
    exact hG
  | succ k ih =>
    intro v2 v3 v4 M hG
    show G h (lmX7_findFirst_7 g k v2 (if (fX11_hasBit v2 v4) = 0 then v3 else (if (if (fX11_hasBit (M (g + 1) 7) v4) = 0 then (if 1 < (wr32 ((wr32 ((M g 14) + (fX11_get M (g + 4) 9 v4))) - 60)) then (wr32 ((wr32 ((M g 14) + (fX11_get M (g + 4) 9 v4))) - 60)) else 1) else 201) < v3 then (if (fX11_hasBit (M (g + 1) 7) v4) = 0 then (if 1 < (wr32 ((wr32 ((M g 14) + (fX11_get M (g + 4) 9 v4))) - 60)) then (wr32 ((wr32 ((M g 14) + (fX11_get M (g + 4) 9 v4))) - 60)) else 1) else 201) else v3)) (v4 + 1) (fmX11_put M 12 9 v4 (if (fX11_hasBit (M (g + 1) 7) v4) = 0 then (if 1 < (wr32 ((wr32 ((M g 14) + (fX11_get M (g + 4) 9 v4))) - 60)) then (wr32 ((wr32 ((M g 14) + (fX11_get M (g + 4) 9 v4))) - 60)) else 1) else 201)))
    exact (ih (gX11_put (h := h) (M := M) (p0 := 12) (np0 := 9) (v1 := v4) (v2 := (if (fX11_hasBit (M (g + 1) 7) v4) = 0 then (if 1 < (wr32 ((wr32 ((M g 14) + (fX11_get M (g + 4) 9 v4))) - 60)) then (wr32 ((wr32 ((M g 14) + (fX11_get M (g + 4) 9 v4))) - 60)) else 1) else 201)) (by decide) rfl (by decide) hG))
set_option maxRecDepth 100000 in
set_option maxHeartbeats 2000000 in
theorem qX7_findFirst_7 {E : EV} {h : Int} {Q : Option MV → Mem → Prop} {g : Int} (hg : isG g) : ∀ (k : Nat) (v2 v3 v4 : Int) (M : Mem), 0 ≤ v4 → (((M (g + 1) 8)) - v4).toNat = k → Q (some (0, (lX7_findFirst_7 g k v2 v3 v4 M))) (lmX7_findFirst_7 g k v2 v3 v4 M) → G h M → TG E miX7_findFirst 2 h Q 7 [(2, 9), (2, g), (0, v2), (0, v3), (0, v4), (3, 0)] [] M := by
  intro k
  induction k with
  | zero =>
    intro v2 v3 v4 M hv0 hk hQ hG
    have hQ : Q (some (0, v3)) M := hQ
    refine T_iload (i := 4) (pc' := 9) dX7_findFirst_7 rfl rfl ?_
    refine T_aload_n (i := 1) (pc' := 10) dX7_findFirst_9 rfl rfl rfl ?_
    refine U_grN (q := (g + 1)) (k := 0) (kI := 0) (pc' := 13) dX7_findFirst_10 rfl cl1 (pog0 hg) (shg0 hg) (by decide) flX7_46 rfl rfl rfl (grg0_0 hg hG) (pog1 hg) rfl ?_
    refine U_gfN (v := (0, (M (g + 1) 8))) (k := 8) (kI := 8) (pc' := 16) dX7_findFirst_13 rfl cl4 (pog1 hg) (shg1 hg) (by decide) flX7_52 rfl rfl (by decide) rfl rfl ?_
    refine T_rng (fun _ z9 _ => ?_)
    have hB : r32 (M (g + 1) 8) := (ok_cons.mp z9).1
    unfold r32 at hB
    refine T_icmp_ge (pc' := 98) dX7_findFirst_16 (by decide) (pf := 19) rfl (fun c1 => ?_) (fun c1 => ?_)
    · skip
      refine T_iload_n (i := 3) (pc' := 99) dX7_findFirst_98 rfl rfl rfl ?_
      exact T_iret dX7_findFirst_99 rfl ⟨rfl, hG, hQ⟩
    · exact absurd c1 (by omega)
  | succ k ih =>
    intro v2 v3 v4 M hv0 hk hQ hG
    have hQ : Q (some (0, (lX7_findFirst_7 g k v2 (if (fX11_hasBit v2 v4) = 0 then v3 else (if (if (fX11_hasBit (M (g + 1) 7) v4) = 0 then (if 1 < (wr32 ((wr32 ((M g 14) + (fX11_get M (g + 4) 9 v4))) - 60)) then (wr32 ((wr32 ((M g 14) + (fX11_get M (g + 4) 9 v4))) - 60)) else 1) else 201) < v3 then (if (fX11_hasBit (M (g + 1) 7) v4) = 0 then (if 1 < (wr32 ((wr32 ((M g 14) + (fX11_get M (g + 4) 9 v4))) - 60)) then (wr32 ((wr32 ((M g 14) + (fX11_get M (g + 4) 9 v4))) - 60)) else 1) else 201) else v3)) (v4 + 1) (fmX11_put M 12 9 v4 (if (fX11_hasBit (M (g + 1) 7) v4) = 0 then (if 1 < (wr32 ((wr32 ((M g 14) + (fX11_get M (g + 4) 9 v4))) - 60)) then (wr32 ((wr32 ((M g 14) + (fX11_get M (g + 4) 9 v4))) - 60)) else 1) else 201))))) (lmX7_findFirst_7 g k v2 (if (fX11_hasBit v2 v4) = 0 then v3 else (if (if (fX11_hasBit (M (g + 1) 7) v4) = 0 then (if 1 < (wr32 ((wr32 ((M g 14) + (fX11_get M (g + 4) 9 v4))) - 60)) then (wr32 ((wr32 ((M g 14) + (fX11_get M (g + 4) 9 v4))) - 60)) else 1) else 201) < v3 then (if (fX11_hasBit (M (g + 1) 7) v4) = 0 then (if 1 < (wr32 ((wr32 ((M g 14) + (fX11_get M (g + 4) 9 v4))) - 60)) then (wr32 ((wr32 ((M g 14) + (fX11_get M (g + 4) 9 v4))) - 60)) else 1) else 201) else v3)) (v4 + 1) (fmX11_put M 12 9 v4 (if (fX11_hasBit (M (g + 1) 7) v4) = 0 then (if 1 < (wr32 ((wr32 ((M g 14) + (fX11_get M (g + 4) 9 v4))) - 60)) then (wr32 ((wr32 ((M g 14) + (fX11_get M (g + 4) 9 v4))) - 60)) else 1) else 201))) := hQ
    refine T_iload (i := 4) (pc' := 9) dX7_findFirst_7 rfl rfl ?_
    refine T_aload_n (i := 1) (pc' := 10) dX7_findFirst_9 rfl rfl rfl ?_
    refine U_grN (q := (g + 1)) (k := 0) (kI := 0) (pc' := 13) dX7_findFirst_10 rfl cl1 (pog0 hg) (shg0 hg) (by decide) flX7_46 rfl rfl rfl (grg0_0 hg hG) (pog1 hg) rfl ?_
    refine U_gfN (v := (0, (M (g + 1) 8))) (k := 8) (kI := 8) (pc' := 16) dX7_findFirst_13 rfl cl4 (pog1 hg) (shg1 hg) (by decide) flX7_52 rfl rfl (by decide) rfl rfl ?_
    refine T_rng (fun _ z9 _ => ?_)
    have hB : r32 (M (g + 1) 8) := (ok_cons.mp z9).1
    unfold r32 at hB
    refine T_icmp_ge (pc' := 98) dX7_findFirst_16 (by decide) (pf := 19) rfl (fun c1 => ?_) (fun c1 => ?_)
    · exact absurd c1 (by omega)
    · skip
      have hw : wr32 (v4 + 1) = v4 + 1 := wr32_id (by unfold r32; omega)
      refine T_sipush (pc' := 22) dX7_findFirst_19 rfl (by decide) rfl ?_
      refine T_istore (i := 5) (L' := [(2, 9), (2, g), (0, v2), (0, v3), (0, v4), (0, 201)]) (pc' := 24) dX7_findFirst_22 (by decide) rfl rfl ?_
      refine T_aload_n (i := 1) (pc' := 25) dX7_findFirst_24 rfl rfl rfl ?_
      refine U_grN (q := (g + 1)) (k := 0) (kI := 0) (pc' := 28) dX7_findFirst_25 rfl cl1 (pog0 hg) (shg0 hg) (by decide) flX7_46 rfl rfl rfl (grg0_0 hg hG) (pog1 hg) rfl ?_
      refine U_gfN (v := (0, (M (g + 1) 7))) (k := 7) (kI := 7) (pc' := 31) dX7_findFirst_28 rfl cl4 (pog1 hg) (shg1 hg) (by decide) flX7_129 rfl rfl (by decide) rfl rfl ?_
      refine T_iload (i := 4) (pc' := 33) dX7_findFirst_31 rfl rfl ?_
      refine T_callSN (av := [(0, (M (g + 1) 7)), (0, v4)]) (st := []) (d2 := 1) (nc2 := 0) (ns2 := 0) (pc' := 36) dX7_findFirst_33 rfl mtX11_hasBit mvX11_hasBit mlX7_122 rfl rfl (Nat.le_of_ble_eq_true rfl) (by decide) ⟨by decide, by decide⟩ rfl (pX11_hasBit (E := E) (h := h) (M := M) (v0 := (M (g + 1) 7)) (v1 := v4) hG) (kF (st2 := [(0, (fX11_hasBit (M (g + 1) 7) v4))]) rfl (fun hG2 => ?_))
      have HJ3 : T E miX7_findFirst 2 126 0 0 (fun r S M' => S = S0 ∧ G h M' ∧ Q r M') 65 [(2, 9), (2, g), (0, v2), (0, v3), (0, v4), (0, (if (fX11_hasBit (M (g + 1) 7) v4) = 0 then (if 1 < (wr32 ((wr32 ((M g 14) + (fX11_get M (g + 4) 9 v4))) - 60)) then (wr32 ((wr32 ((M g 14) + (fX11_get M (g + 4) 9 v4))) - 60)) else 1) else 201))] [] S0 M 0 0 := by
        refine T_aload_n (i := 0) (pc' := 66) dX7_findFirst_65 rfl rfl rfl ?_
        refine U_gr (q := 12) (k := 2) (kI := 2) (pc' := 69) dX7_findFirst_66 rfl cl7 (by decide) rfl (by decide) flX7_18 rfl rfl rfl (G_at hG 18 rfl) (by decide) rfl ?_
        refine T_iload (i := 4) (pc' := 71) dX7_findFirst_69 rfl rfl ?_
        refine T_iload (i := 5) (pc' := 73) dX7_findFirst_71 rfl rfl ?_
        refine T_callSN (av := [(2, 12), (0, v4), (0, (if (fX11_hasBit (M (g + 1) 7) v4) = 0 then (if 1 < (wr32 ((wr32 ((M g 14) + (fX11_get M (g + 4) 9 v4))) - 60)) then (wr32 ((wr32 ((M g 14) + (fX11_get M (g + 4) 9 v4))) - 60)) else 1) else 201))]) (st := []) (d2 := 1) (nc2 := 0) (ns2 := 0) (pc' := 76) dX7_findFirst_73 rfl mtX11_put mvX11_put mlX7_75 rfl rfl (Nat.le_of_ble_eq_true rfl) (by decide) ⟨by decide, by decide⟩ rfl (pX11_put (E := E) (h := h) (M := M) (p0 := 12) (np0 := 9) (v1 := v4) (v2 := (if (fX11_hasBit (M (g + 1) 7) v4) = 0 then (if 1 < (wr32 ((wr32 ((M g 14) + (fX11_get M (g + 4) 9 v4))) - 60)) then (wr32 ((wr32 ((M g 14) + (fX11_get M (g + 4) 9 v4))) - 60)) else 1) else 201)) (by decide) rfl (by decide) hG) (kF (st2 := []) rfl (fun hG4 => ?_))
        refine T_iload_n (i := 2) (pc' := 77) dX7_findFirst_76 rfl rfl rfl ?_
        refine T_iload (i := 4) (pc' := 79) dX7_findFirst_77 rfl rfl ?_
        refine T_callSN (av := [(0, v2), (0, v4)]) (st := []) (d2 := 1) (nc2 := 0) (ns2 := 0) (pc' := 82) dX7_findFirst_79 rfl mtX11_hasBit mvX11_hasBit mlX7_122 rfl rfl (Nat.le_of_ble_eq_true rfl) (by decide) ⟨by decide, by decide⟩ rfl (pX11_hasBit (E := E) (h := h) (M := (fmX11_put M 12 9 v4 (if (fX11_hasBit (M (g + 1) 7) v4) = 0 then (if 1 < (wr32 ((wr32 ((M g 14) + (fX11_get M (g + 4) 9 v4))) - 60)) then (wr32 ((wr32 ((M g 14) + (fX11_get M (g + 4) 9 v4))) - 60)) else 1) else 201))) (v0 := v2) (v1 := v4) (gX11_put (h := h) (M := M) (p0 := 12) (np0 := 9) (v1 := v4) (v2 := (if (fX11_hasBit (M (g + 1) 7) v4) = 0 then (if 1 < (wr32 ((wr32 ((M g 14) + (fX11_get M (g + 4) 9 v4))) - 60)) then (wr32 ((wr32 ((M g 14) + (fX11_get M (g + 4) 9 v4))) - 60)) else 1) else 201)) (by decide) rfl (by decide) hG)) (kF (st2 := [(0, (fX11_hasBit v2 v4))]) rfl (fun hG5 => ?_))
        have HJ6 : T E miX7_findFirst 2 126 0 0 (fun r S M' => S = S0 ∧ G h M' ∧ Q r M') 92 [(2, 9), (2, g), (0, v2), (0, (if (fX11_hasBit v2 v4) = 0 then v3 else (if (if (fX11_hasBit (M (g + 1) 7) v4) = 0 then (if 1 < (wr32 ((wr32 ((M g 14) + (fX11_get M (g + 4) 9 v4))) - 60)) then (wr32 ((wr32 ((M g 14) + (fX11_get M (g + 4) 9 v4))) - 60)) else 1) else 201) < v3 then (if (fX11_hasBit (M (g + 1) 7) v4) = 0 then (if 1 < (wr32 ((wr32 ((M g 14) + (fX11_get M (g + 4) 9 v4))) - 60)) then (wr32 ((wr32 ((M g 14) + (fX11_get M (g + 4) 9 v4))) - 60)) else 1) else 201) else v3))), (0, v4), (3, 0)] [] S0 (fmX11_put M 12 9 v4 (if (fX11_hasBit (M (g + 1) 7) v4) = 0 then (if 1 < (wr32 ((wr32 ((M g 14) + (fX11_get M (g + 4) 9 v4))) - 60)) then (wr32 ((wr32 ((M g 14) + (fX11_get M (g + 4) 9 v4))) - 60)) else 1) else 201)) 0 0 := by
          refine T_iinc (L' := [(2, 9), (2, g), (0, v2), (0, (if (fX11_hasBit v2 v4) = 0 then v3 else (if (if (fX11_hasBit (M (g + 1) 7) v4) = 0 then (if 1 < (wr32 ((wr32 ((M g 14) + (fX11_get M (g + 4) 9 v4))) - 60)) then (wr32 ((wr32 ((M g 14) + (fX11_get M (g + 4) 9 v4))) - 60)) else 1) else 201) < v3 then (if (fX11_hasBit (M (g + 1) 7) v4) = 0 then (if 1 < (wr32 ((wr32 ((M g 14) + (fX11_get M (g + 4) 9 v4))) - 60)) then (wr32 ((wr32 ((M g 14) + (fX11_get M (g + 4) 9 v4))) - 60)) else 1) else 201) else v3))), (0, (wr32 (v4 + 1))), (3, 0)]) (pc' := 95) dX7_findFirst_92 rfl (by decide) rfl rfl ?_
          refine T_goto (pc' := 7) dX7_findFirst_95 (by decide) ?_
          rw [hw]
          have hbd : ((fmX11_put M 12 9 v4 (if (fX11_hasBit (M (g + 1) 7) v4) = 0 then (if 1 < (wr32 ((wr32 ((M g 14) + (fX11_get M (g + 4) 9 v4))) - 60)) then (wr32 ((wr32 ((M g 14) + (fX11_get M (g + 4) 9 v4))) - 60)) else 1) else 201)) (g + 1) 8) = (M (g + 1) 8) := by
            repeat' (first | rfl | (rw [mset_p] <;> first | decide | (unfold isG at *; omega)) | (rw [frX11_put] <;> first | decide | (unfold isG at *; omega)) | rw [ite_ap] | split)
          exact T_wk (ih _ _ (v4 + 1) _ (by omega) (by rw [hbd]; omega) hQ (gX11_put (h := h) (M := M) (p0 := 12) (np0 := 9) (v1 := v4) (v2 := (if (fX11_hasBit (M (g + 1) 7) v4) = 0 then (if 1 < (wr32 ((wr32 ((M g 14) + (fX11_get M (g + 4) 9 v4))) - 60)) then (wr32 ((wr32 ((M g 14) + (fX11_get M (g + 4) 9 v4))) - 60)) else 1) else 201)) (by decide) rfl (by decide) hG)) ⟨Or.inr rfl, Or.inr rfl, Or.inr rfl, Or.inr rfl, Or.inr rfl, Or.inl rfl, trivial⟩
        refine T_if_eq (pc' := 92) dX7_findFirst_82 (by decide) (pf := 85) rfl (fun c7 => ?_) (fun c7 => ?_)
        · skip
          exact T_wk (L' := [(2, 9), (2, g), (0, v2), (0, v3), (0, v4), (3, 0)]) (by have q := HJ6; try simp only [if_pos c7] at q; exact q) ⟨Or.inr rfl, Or.inr rfl, Or.inr rfl, Or.inr rfl, Or.inr rfl, Or.inl rfl, trivial⟩
        · skip
          refine T_iload_n (i := 3) (pc' := 86) dX7_findFirst_85 rfl rfl rfl ?_
          refine T_iload (i := 5) (pc' := 88) dX7_findFirst_86 rfl rfl ?_
          refine U_mmin (pc' := 91) dX7_findFirst_88 rfl mlX7_126 (Nat.le_of_ble_eq_true rfl) (by decide) ⟨by decide, by decide⟩ rfl ?_
          refine T_istore_n (i := 3) (L' := [(2, 9), (2, g), (0, v2), (0, (if (if (fX11_hasBit (M (g + 1) 7) v4) = 0 then (if 1 < (wr32 ((wr32 ((M g 14) + (fX11_get M (g + 4) 9 v4))) - 60)) then (wr32 ((wr32 ((M g 14) + (fX11_get M (g + 4) 9 v4))) - 60)) else 1) else 201) < v3 then (if (fX11_hasBit (M (g + 1) 7) v4) = 0 then (if 1 < (wr32 ((wr32 ((M g 14) + (fX11_get M (g + 4) 9 v4))) - 60)) then (wr32 ((wr32 ((M g 14) + (fX11_get M (g + 4) 9 v4))) - 60)) else 1) else 201) else v3)), (0, v4), (0, (if (fX11_hasBit (M (g + 1) 7) v4) = 0 then (if 1 < (wr32 ((wr32 ((M g 14) + (fX11_get M (g + 4) 9 v4))) - 60)) then (wr32 ((wr32 ((M g 14) + (fX11_get M (g + 4) 9 v4))) - 60)) else 1) else 201))]) (pc' := 92) dX7_findFirst_91 rfl (by decide) rfl rfl ?_
          exact T_wk (L' := [(2, 9), (2, g), (0, v2), (0, (if (if (fX11_hasBit (M (g + 1) 7) v4) = 0 then (if 1 < (wr32 ((wr32 ((M g 14) + (fX11_get M (g + 4) 9 v4))) - 60)) then (wr32 ((wr32 ((M g 14) + (fX11_get M (g + 4) 9 v4))) - 60)) else 1) else 201) < v3 then (if (fX11_hasBit (M (g + 1) 7) v4) = 0 then (if 1 < (wr32 ((wr32 ((M g 14) + (fX11_get M (g + 4) 9 v4))) - 60)) then (wr32 ((wr32 ((M g 14) + (fX11_get M (g + 4) 9 v4))) - 60)) else 1) else 201) else v3)), (0, v4), (3, 0)]) (by have q := HJ6; try simp only [if_neg c7] at q; exact q) ⟨Or.inr rfl, Or.inr rfl, Or.inr rfl, Or.inr rfl, Or.inr rfl, Or.inl rfl, trivial⟩
      refine T_if_ne (pc' := 65) dX7_findFirst_36 (by decide) (pf := 39) rfl (fun c8 => ?_) (fun c8 => ?_)
      · skip
        exact T_wk (L' := [(2, 9), (2, g), (0, v2), (0, v3), (0, v4), (0, 201)]) (by have q := HJ3; try simp only [if_neg c8] at q; exact q) ⟨Or.inr rfl, Or.inr rfl, Or.inr rfl, Or.inr rfl, Or.inr rfl, Or.inr rfl, trivial⟩
      · skip
        refine T_iconst (pc' := 40) dX7_findFirst_39 (by decide) rfl ?_
        refine T_aload_n (i := 1) (pc' := 41) dX7_findFirst_40 rfl rfl rfl ?_
        refine U_gfN (v := (0, (M g 14))) (k := 14) (kI := 14) (pc' := 44) dX7_findFirst_41 rfl cl1 (pog0 hg) (shg0 hg) (by decide) flX7_132 rfl rfl (by decide) rfl rfl ?_
        refine T_aload_n (i := 1) (pc' := 45) dX7_findFirst_44 rfl rfl rfl ?_
        refine U_grN (q := (g + 1)) (k := 0) (kI := 0) (pc' := 48) dX7_findFirst_45 rfl cl1 (pog0 hg) (shg0 hg) (by decide) flX7_46 rfl rfl rfl (grg0_0 hg hG) (pog1 hg) rfl ?_
        refine U_grN (q := (g + 4)) (k := 2) (kI := 2) (pc' := 51) dX7_findFirst_48 rfl cl4 (pog1 hg) (shg1 hg) (by decide) flX7_135 rfl rfl rfl (grg1_2 hg hG) (pog4 hg) rfl ?_
        refine T_iload (i := 4) (pc' := 53) dX7_findFirst_51 rfl rfl ?_
        refine T_callSN (av := [(2, (g + 4)), (0, v4)]) (st := [(0, (M g 14)), (0, 1)]) (d2 := 1) (nc2 := 0) (ns2 := 0) (pc' := 56) dX7_findFirst_53 rfl mtX11_get mvX11_get mlX7_71 rfl rfl (Nat.le_of_ble_eq_true rfl) (by decide) ⟨by decide, by decide⟩ rfl (pX11_get (E := E) (h := h) (M := M) (p0 := (g + 4)) (np0 := 9) (v1 := v4) (pog4 hg) (shg4 hg) (by decide) hG) (kF (st2 := [(0, (fX11_get M (g + 4) 9 v4)), (0, (M g 14)), (0, 1)]) rfl (fun hG9 => ?_))
        refine T_iadd (pc' := 57) dX7_findFirst_56 rfl ?_
        refine T_bipush (pc' := 59) dX7_findFirst_57 rfl (by decide) rfl ?_
        refine T_isub (pc' := 60) dX7_findFirst_59 rfl ?_
        refine U_mmax (pc' := 63) dX7_findFirst_60 rfl mlX7_117 (Nat.le_of_ble_eq_true rfl) (by decide) ⟨by decide, by decide⟩ rfl ?_
        refine T_istore (i := 5) (L' := [(2, 9), (2, g), (0, v2), (0, v3), (0, v4), (0, (if 1 < (wr32 ((wr32 ((M g 14) + (fX11_get M (g + 4) 9 v4))) - 60)) then (wr32 ((wr32 ((M g 14) + (fX11_get M (g + 4) 9 v4))) - 60)) else 1))]) (pc' := 65) dX7_findFirst_63 (by decide) rfl rfl ?_
        exact T_wk (L' := [(2, 9), (2, g), (0, v2), (0, v3), (0, v4), (0, (if 1 < (wr32 ((wr32 ((M g 14) + (fX11_get M (g + 4) 9 v4))) - 60)) then (wr32 ((wr32 ((M g 14) + (fX11_get M (g + 4) 9 v4))) - 60)) else 1))]) (by have q := HJ3; try simp only [if_pos c8] at q; exact q) ⟨Or.inr rfl, Or.inr rfl, Or.inr rfl, Or.inr rfl, Or.inr rfl, Or.inr rfl, trivial⟩
def fX7_findFirst (M : Mem) (g : Int) (v2 : Int) : Int :=
  (lX7_findFirst_7 g ((((M (g + 1) 8)) : Int) - 0).toNat v2 201 0 M)
def fmX7_findFirst (M : Mem) (g : Int) (v2 : Int) : Mem :=
  (lmX7_findFirst_7 g ((((M (g + 1) 8)) : Int) - 0).toNat v2 201 0 M)
theorem frX7_findFirst {M : Mem} {g : Int} {v2 : Int} {q : Int} (hq0 : q ≠ 12) : (fmX7_findFirst M g v2) q = M q := by
  unfold fmX7_findFirst
  repeat' (first | rfl | rw [mset_p hq0] | rw [mcpy_p hq0] | (rw [frX11_put] <;> try assumption) | (rw [frlX7_findFirst_7] <;> try assumption) | rw [ite_ap] | split)
theorem gX7_findFirst {h : Int} {M : Mem} {g : Int} {v2 : Int} (hg : isG g) (hG : G h M) : G h (fmX7_findFirst M g v2) := by
  unfold fmX7_findFirst
  exact (glX7_findFirst_7 hg hG)
set_option maxRecDepth 100000 in
theorem pX7_findFirst {E : EV} {h : Int} {M : Mem} {g : Int} {v2 : Int} (hg : isG g) : C2 E miX7_findFirst 2 h [(2, 9), (2, g), (0, v2)] M (fun r M' => r = some (0, (fX7_findFirst M g v2)) ∧ M' = (fmX7_findFirst M g v2)) := by
  obtain ⟨Q, hQ0⟩ : ∃ Q : Option MV → Mem → Prop, Q = (fun r M' => r = some (0, (fX7_findFirst M g v2)) ∧ M' = (fmX7_findFirst M g v2)) := ⟨_, rfl⟩
  rw [← hQ0]
  have hQ : Q (some (0, (lX7_findFirst_7 g ((((M (g + 1) 8)) : Int) - 0).toNat v2 201 0 M))) (lmX7_findFirst_7 g ((((M (g + 1) 8)) : Int) - 0).toNat v2 201 0 M) := by rw [hQ0]; exact ⟨rfl, rfl⟩
  refine C2_of (L := [(2, 9), (2, g), (0, v2), (3, 0), (3, 0), (3, 0)]) (by decide +kernel) (Nat.le_of_ble_eq_true rfl) rfl (fun hG => ?_)
  refine T_sipush (pc' := 3) dX7_findFirst_0 rfl (by decide) rfl ?_
  refine T_istore_n (i := 3) (L' := [(2, 9), (2, g), (0, v2), (0, 201), (3, 0), (3, 0)]) (pc' := 4) dX7_findFirst_3 rfl (by decide) rfl rfl ?_
  refine T_iconst (pc' := 5) dX7_findFirst_4 (by decide) rfl ?_
  refine T_istore (i := 4) (L' := [(2, 9), (2, g), (0, v2), (0, 201), (0, 0), (3, 0)]) (pc' := 7) dX7_findFirst_5 (by decide) rfl rfl ?_
  exact T_wk (qX7_findFirst_7 hg _ v2 201 0 _ (by first | decide | omega) rfl hQ hG) ⟨Or.inr rfl, Or.inr rfl, Or.inr rfl, Or.inr rfl, Or.inr rfl, Or.inl rfl, trivial⟩
def lX7_opensBy_68 (g : Int) (v2 : Int) (v3 : Int) : Nat → Int → Int → Int → Int → Int → Mem → Int
  | 0, v4, v5, v6, v7, v8, M => (if v7 < v5 then (0 : Int) else 2)
  | k + 1, v4, v5, v6, v7, v8, M => (lX7_opensBy_68 g v2 v3 k v4 v5 v6 (if (fX11_hasBit v4 v8) = 0 then v7 else (if (fX1_isNear M g v6 (fX11_get M 14 9 v8)) = 0 then v7 else (wr32 (v7 + 1)))) (v8 + 1) M)
set_option maxRecDepth 100000 in
set_option maxHeartbeats 2000000 in
theorem qX7_opensBy_68 {E : EV} {h : Int} {Q : Option MV → Mem → Prop} {g : Int} {v2 : Int} {v3 : Int} (hg : isG g) : ∀ (k : Nat) (v4 v5 v6 v7 v8 : Int) (M : Mem), 0 ≤ v8 → (((M (g + 1) 8)) - v8).toNat = k → Q (some (0, (lX7_opensBy_68 g v2 v3 k v4 v5 v6 v7 v8 M))) M → G h M → TG E miX7_opensBy 2 h Q 68 [(2, 9), (2, g), (3, 0), (3, 0), (0, v4), (0, v5), (0, v6), (0, v7), (0, v8)] [] M := by
  intro k
  induction k with
  | zero =>
    intro v4 v5 v6 v7 v8 M hv0 hk hQ hG
    have hQ : Q (some (0, (if v7 < v5 then (0 : Int) else 2))) M := hQ
    refine T_iload (i := 8) (pc' := 70) dX7_opensBy_68 rfl rfl ?_
    refine T_aload_n (i := 1) (pc' := 71) dX7_opensBy_70 rfl rfl rfl ?_
    refine U_grN (q := (g + 1)) (k := 0) (kI := 0) (pc' := 74) dX7_opensBy_71 rfl cl1 (pog0 hg) (shg0 hg) (by decide) flX7_46 rfl rfl rfl (grg0_0 hg hG) (pog1 hg) rfl ?_
    refine U_gfN (v := (0, (M (g + 1) 8))) (k := 8) (kI := 8) (pc' := 77) dX7_opensBy_74 rfl cl4 (pog1 hg) (shg1 hg) (by decide) flX7_52 rfl rfl (by decide) rfl rfl ?_
    refine T_rng (fun _ z9 _ => ?_)
    have hB : r32 (M (g + 1) 8) := (ok_cons.mp z9).1
    unfold r32 at hB
    refine T_icmp_ge (pc' := 117) dX7_opensBy_77 (by decide) (pf := 80) rfl (fun c1 => ?_) (fun c1 => ?_)
    · skip
      refine T_iload (i := 7) (pc' := 119) dX7_opensBy_117 rfl rfl ?_
      refine T_iload (i := 5) (pc' := 121) dX7_opensBy_119 rfl rfl ?_
      have HJ2 : T E miX7_opensBy 2 126 0 0 (fun r S M' => S = S0 ∧ G h M' ∧ Q r M') 129 [(3, 0), (3, 0), (3, 0), (3, 0), (3, 0), (3, 0), (3, 0), (3, 0), (3, 0)] [(0, (if v7 < v5 then (0 : Int) else 2))] S0 M 0 0 := by
        exact T_iret dX7_opensBy_129 rfl ⟨rfl, hG, hQ⟩
      refine T_icmp_lt (pc' := 128) dX7_opensBy_121 (by decide) (pf := 124) rfl (fun c3 => ?_) (fun c3 => ?_)
      · skip
        refine T_iconst (pc' := 129) dX7_opensBy_128 (by decide) rfl ?_
        exact T_wk (L' := [(3, 0), (3, 0), (3, 0), (3, 0), (3, 0), (3, 0), (3, 0), (3, 0), (3, 0)]) (by have q := HJ2; try simp only [if_pos c3] at q; exact q) ⟨Or.inl rfl, Or.inl rfl, Or.inl rfl, Or.inl rfl, Or.inl rfl, Or.inl rfl, Or.inl rfl, Or.inl rfl, Or.inl rfl, trivial⟩
      · skip
        refine T_iconst (pc' := 125) dX7_opensBy_124 (by decide) rfl ?_
        refine T_goto (pc' := 129) dX7_opensBy_125 (by decide) ?_
        exact T_wk (L' := [(3, 0), (3, 0), (3, 0), (3, 0), (3, 0), (3, 0), (3, 0), (3, 0), (3, 0)]) (by have q := HJ2; try simp only [if_neg c3] at q; exact q) ⟨Or.inl rfl, Or.inl rfl, Or.inl rfl, Or.inl rfl, Or.inl rfl, Or.inl rfl, Or.inl rfl, Or.inl rfl, Or.inl rfl, trivial⟩
    · exact absurd c1 (by omega)
  | succ k ih =>
    intro v4 v5 v6 v7 v8 M hv0 hk hQ hG
    have hQ : Q (some (0, (lX7_opensBy_68 g v2 v3 k v4 v5 v6 (if (fX11_hasBit v4 v8) = 0 then v7 else (if (fX1_isNear M g v6 (fX11_get M 14 9 v8)) = 0 then v7 else (wr32 (v7 + 1)))) (v8 + 1) M))) M := hQ
    refine T_iload (i := 8) (pc' := 70) dX7_opensBy_68 rfl rfl ?_
    refine T_aload_n (i := 1) (pc' := 71) dX7_opensBy_70 rfl rfl rfl ?_
    refine U_grN (q := (g + 1)) (k := 0) (kI := 0) (pc' := 74) dX7_opensBy_71 rfl cl1 (pog0 hg) (shg0 hg) (by decide) flX7_46 rfl rfl rfl (grg0_0 hg hG) (pog1 hg) rfl ?_
    refine U_gfN (v := (0, (M (g + 1) 8))) (k := 8) (kI := 8) (pc' := 77) dX7_opensBy_74 rfl cl4 (pog1 hg) (shg1 hg) (by decide) flX7_52 rfl rfl (by decide) rfl rfl ?_
    refine T_rng (fun _ z9 _ => ?_)
    have hB : r32 (M (g + 1) 8) := (ok_cons.mp z9).1
    unfold r32 at hB
    refine T_icmp_ge (pc' := 117) dX7_opensBy_77 (by decide) (pf := 80) rfl (fun c1 => ?_) (fun c1 => ?_)
    · exact absurd c1 (by omega)
    · skip
      have hw : wr32 (v8 + 1) = v8 + 1 := wr32_id (by unfold r32; omega)
      refine T_iload (i := 4) (pc' := 82) dX7_opensBy_80 rfl rfl ?_
      refine T_iload (i := 8) (pc' := 84) dX7_opensBy_82 rfl rfl ?_
      refine T_callSN (av := [(0, v4), (0, v8)]) (st := []) (d2 := 1) (nc2 := 0) (ns2 := 0) (pc' := 87) dX7_opensBy_84 rfl mtX11_hasBit mvX11_hasBit mlX7_122 rfl rfl (Nat.le_of_ble_eq_true rfl) (by decide) ⟨by decide, by decide⟩ rfl (pX11_hasBit (E := E) (h := h) (M := M) (v0 := v4) (v1 := v8) hG) (kF (st2 := [(0, (fX11_hasBit v4 v8))]) rfl (fun hG4 => ?_))
      have HJ5 : T E miX7_opensBy 2 126 0 0 (fun r S M' => S = S0 ∧ G h M' ∧ Q r M') 111 [(2, 9), (2, g), (3, 0), (3, 0), (0, v4), (0, v5), (0, v6), (0, (if (fX11_hasBit v4 v8) = 0 then v7 else (if (fX1_isNear M g v6 (fX11_get M 14 9 v8)) = 0 then v7 else (wr32 (v7 + 1))))), (0, v8)] [] S0 M 0 0 := by
        refine T_iinc (L' := [(2, 9), (2, g), (3, 0), (3, 0), (0, v4), (0, v5), (0, v6), (0, (if (fX11_hasBit v4 v8) = 0 then v7 else (if (fX1_isNear M g v6 (fX11_get M 14 9 v8)) = 0 then v7 else (wr32 (v7 + 1))))), (0, (wr32 (v8 + 1)))]) (pc' := 114) dX7_opensBy_111 rfl (by decide) rfl rfl ?_
        refine T_goto (pc' := 68) dX7_opensBy_114 (by decide) ?_
        rw [hw]
        exact T_wk (ih _ _ _ _ (v8 + 1) _ (by omega) (by omega) hQ hG) ⟨Or.inr rfl, Or.inr rfl, Or.inl rfl, Or.inl rfl, Or.inr rfl, Or.inr rfl, Or.inr rfl, Or.inr rfl, Or.inr rfl, trivial⟩
      refine T_if_eq (pc' := 111) dX7_opensBy_87 (by decide) (pf := 90) rfl (fun c6 => ?_) (fun c6 => ?_)
      · skip
        exact T_wk (L' := [(2, 9), (2, g), (3, 0), (3, 0), (0, v4), (0, v5), (0, v6), (0, v7), (0, v8)]) (by have q := HJ5; try simp only [if_pos c6] at q; exact q) ⟨Or.inr rfl, Or.inr rfl, Or.inl rfl, Or.inl rfl, Or.inr rfl, Or.inr rfl, Or.inr rfl, Or.inr rfl, Or.inr rfl, trivial⟩
      · skip
        refine T_aload_n (i := 1) (pc' := 91) dX7_opensBy_90 rfl rfl rfl ?_
        refine T_iload (i := 6) (pc' := 93) dX7_opensBy_91 rfl rfl ?_
        refine T_aload_n (i := 0) (pc' := 94) dX7_opensBy_93 rfl rfl rfl ?_
        refine U_gr (q := 14) (k := 4) (kI := 4) (pc' := 97) dX7_opensBy_94 rfl cl7 (by decide) rfl (by decide) flX7_24 rfl rfl rfl (G_at hG 20 rfl) (by decide) rfl ?_
        refine T_iload (i := 8) (pc' := 99) dX7_opensBy_97 rfl rfl ?_
        refine T_callSN (av := [(2, 14), (0, v8)]) (st := [(0, v6), (2, g)]) (d2 := 1) (nc2 := 0) (ns2 := 0) (pc' := 102) dX7_opensBy_99 rfl mtX11_get mvX11_get mlX7_71 rfl rfl (Nat.le_of_ble_eq_true rfl) (by decide) ⟨by decide, by decide⟩ rfl (pX11_get (E := E) (h := h) (M := M) (p0 := 14) (np0 := 9) (v1 := v8) (by decide) rfl (by decide) hG) (kF (st2 := [(0, (fX11_get M 14 9 v8)), (0, v6), (2, g)]) rfl (fun hG7 => ?_))
        refine T_callV (av := [(0, v6), (0, (fX11_get M 14 9 v8))]) (st := []) (d2 := 1) (nc2 := 0) (ns2 := 0) (pc' := 105) dX7_opensBy_102 rfl mtX1_isNear mvX1_isNear mlX7_158 cl1 (shg0 hg) rfl rfl (Nat.le_of_ble_eq_true rfl) (by decide) ⟨by decide, by decide⟩ rfl (pX1_isNear (E := E) (h := h) (M := M) (g := g) (v1 := v6) (v2 := (fX11_get M 14 9 v8)) hg hG) (kF (st2 := [(0, (fX1_isNear M g v6 (fX11_get M 14 9 v8)))]) rfl (fun hG8 => ?_))
        refine T_if_eq (pc' := 111) dX7_opensBy_105 (by decide) (pf := 108) rfl (fun c9 => ?_) (fun c9 => ?_)
        · skip
          exact T_wk (L' := [(2, 9), (2, g), (3, 0), (3, 0), (0, v4), (0, v5), (0, v6), (0, v7), (0, v8)]) (by have q := HJ5; try simp only [if_neg c6] at q; try simp only [if_pos c9] at q; exact q) ⟨Or.inr rfl, Or.inr rfl, Or.inl rfl, Or.inl rfl, Or.inr rfl, Or.inr rfl, Or.inr rfl, Or.inr rfl, Or.inr rfl, trivial⟩
        · skip
          refine T_iinc (L' := [(2, 9), (2, g), (3, 0), (3, 0), (0, v4), (0, v5), (0, v6), (0, (wr32 (v7 + 1))), (0, v8)]) (pc' := 111) dX7_opensBy_108 rfl (by decide) rfl rfl ?_
          exact T_wk (L' := [(2, 9), (2, g), (3, 0), (3, 0), (0, v4), (0, v5), (0, v6), (0, (wr32 (v7 + 1))), (0, v8)]) (by have q := HJ5; try simp only [if_neg c6] at q; try simp only [if_neg c9] at q; exact q) ⟨Or.inr rfl, Or.inr rfl, Or.inl rfl, Or.inl rfl, Or.inr rfl, Or.inr rfl, Or.inr rfl, Or.inr rfl, Or.inr rfl, trivial⟩
def fX7_opensBy (M : Mem) (g : Int) (v2 : Int) (v3 : Int) (v4 : Int) : Int :=
  (if v3 < (fX11_get M 12 9 v2) then (if (fX11_get M (g + 5) 9 v2) ≤ 0 then 0 else (if (fX11_get M (g + 5) 9 v2) ≤ (fJ6_bitCount_0f7a4 v4) then (lX7_opensBy_68 g v2 v3 ((((M (g + 1) 8)) : Int) - 0).toNat v4 (fX11_get M (g + 5) 9 v2) (fX11_get M 10 1809 (wr32 ((wr32 ((wr32 (v2 * 201)) + v3)) - 1))) 0 0 M) else 0)) else 1)
set_option maxRecDepth 100000 in
theorem pX7_opensBy {E : EV} {h : Int} {M : Mem} {g : Int} {v2 : Int} {v3 : Int} {v4 : Int} (hg : isG g) : C2 E miX7_opensBy 2 h [(2, 9), (2, g), (0, v2), (0, v3), (0, v4)] M (fun r M' => r = some (0, (fX7_opensBy M g v2 v3 v4)) ∧ M' = M) := by
  obtain ⟨Q, hQ0⟩ : ∃ Q : Option MV → Mem → Prop, Q = (fun r M' => r = some (0, (fX7_opensBy M g v2 v3 v4)) ∧ M' = M) := ⟨_, rfl⟩
  rw [← hQ0]
  have hQ : Q (some (0, (if v3 < (fX11_get M 12 9 v2) then (if (fX11_get M (g + 5) 9 v2) ≤ 0 then 0 else (if (fX11_get M (g + 5) 9 v2) ≤ (fJ6_bitCount_0f7a4 v4) then (lX7_opensBy_68 g v2 v3 ((((M (g + 1) 8)) : Int) - 0).toNat v4 (fX11_get M (g + 5) 9 v2) (fX11_get M 10 1809 (wr32 ((wr32 ((wr32 (v2 * 201)) + v3)) - 1))) 0 0 M) else 0)) else 1))) M := by rw [hQ0]; exact ⟨rfl, rfl⟩
  refine C2_of (L := [(2, 9), (2, g), (0, v2), (0, v3), (0, v4), (3, 0), (3, 0), (3, 0), (3, 0)]) (by decide +kernel) (Nat.le_of_ble_eq_true rfl) rfl (fun hG => ?_)
  refine T_iload_n (i := 3) (pc' := 1) dX7_opensBy_0 rfl rfl rfl ?_
  refine T_aload_n (i := 0) (pc' := 2) dX7_opensBy_1 rfl rfl rfl ?_
  refine U_gr (q := 12) (k := 2) (kI := 2) (pc' := 5) dX7_opensBy_2 rfl cl7 (by decide) rfl (by decide) flX7_18 rfl rfl rfl (G_at hG 18 rfl) (by decide) rfl ?_
  refine T_iload_n (i := 2) (pc' := 6) dX7_opensBy_5 rfl rfl rfl ?_
  refine T_callSN (av := [(2, 12), (0, v2)]) (st := [(0, v3)]) (d2 := 1) (nc2 := 0) (ns2 := 0) (pc' := 9) dX7_opensBy_6 rfl mtX11_get mvX11_get mlX7_71 rfl rfl (Nat.le_of_ble_eq_true rfl) (by decide) ⟨by decide, by decide⟩ rfl (pX11_get (E := E) (h := h) (M := M) (p0 := 12) (np0 := 9) (v1 := v2) (by decide) rfl (by decide) hG) (kF (st2 := [(0, (fX11_get M 12 9 v2)), (0, v3)]) rfl (fun hG1 => ?_))
  refine T_icmp_lt (pc' := 14) dX7_opensBy_9 (by decide) (pf := 12) rfl (fun c2 => ?_) (fun c2 => ?_)
  · skip
    refine T_aload_n (i := 1) (pc' := 15) dX7_opensBy_14 rfl rfl rfl ?_
    refine U_grN (q := (g + 1)) (k := 0) (kI := 0) (pc' := 18) dX7_opensBy_15 rfl cl1 (pog0 hg) (shg0 hg) (by decide) flX7_46 rfl rfl rfl (grg0_0 hg hG) (pog1 hg) rfl ?_
    refine U_grN (q := (g + 5)) (k := 3) (kI := 3) (pc' := 21) dX7_opensBy_18 rfl cl4 (pog1 hg) (shg1 hg) (by decide) flX7_155 rfl rfl rfl (grg1_3 hg hG) (pog5 hg) rfl ?_
    refine T_iload_n (i := 2) (pc' := 22) dX7_opensBy_21 rfl rfl rfl ?_
    refine T_callSN (av := [(2, (g + 5)), (0, v2)]) (st := []) (d2 := 1) (nc2 := 0) (ns2 := 0) (pc' := 25) dX7_opensBy_22 rfl mtX11_get mvX11_get mlX7_71 rfl rfl (Nat.le_of_ble_eq_true rfl) (by decide) ⟨by decide, by decide⟩ rfl (pX11_get (E := E) (h := h) (M := M) (p0 := (g + 5)) (np0 := 9) (v1 := v2) (pog5 hg) (shg5 hg) (by decide) hG) (kF (st2 := [(0, (fX11_get M (g + 5) 9 v2))]) rfl (fun hG3 => ?_))
    refine T_istore (i := 5) (L' := [(2, 9), (2, g), (0, v2), (0, v3), (0, v4), (0, (fX11_get M (g + 5) 9 v2)), (3, 0), (3, 0), (3, 0)]) (pc' := 27) dX7_opensBy_25 (by decide) rfl rfl ?_
    refine T_iload (i := 5) (pc' := 29) dX7_opensBy_27 rfl rfl ?_
    refine T_if_le (pc' := 42) dX7_opensBy_29 (by decide) (pf := 32) rfl (fun c4 => ?_) (fun c4 => ?_)
    · skip
      refine T_iconst (pc' := 43) dX7_opensBy_42 (by decide) rfl ?_
      exact T_iret dX7_opensBy_43 rfl ⟨rfl, hG, (by have q := hQ; try simp only [if_pos c2] at q; try simp only [if_pos c4] at q; exact q)⟩
    · skip
      refine T_iload (i := 5) (pc' := 34) dX7_opensBy_32 rfl rfl ?_
      refine T_iload (i := 4) (pc' := 36) dX7_opensBy_34 rfl rfl ?_
      refine T_callS (av := [(0, v4)]) (st := [(0, (fX11_get M (g + 5) 9 v2))]) (d2 := 1) (nc2 := 0) (ns2 := 0) (pc' := 39) dX7_opensBy_36 rfl mtJ6_bitCount_0f7a4 mvJ6_bitCount_0f7a4 mlX7_138 rfl rfl (Nat.le_of_ble_eq_true rfl) (by decide) ⟨by decide, by decide⟩ rfl (pJ6_bitCount_0f7a4 (E := E) (h := h) (M := M) (v0 := v4) hG) (kF (st2 := [(0, (fJ6_bitCount_0f7a4 v4)), (0, (fX11_get M (g + 5) 9 v2))]) rfl (fun hG5 => ?_))
      refine T_icmp_le (pc' := 44) dX7_opensBy_39 (by decide) (pf := 42) rfl (fun c6 => ?_) (fun c6 => ?_)
      · skip
        refine T_aload_n (i := 0) (pc' := 45) dX7_opensBy_44 rfl rfl rfl ?_
        refine U_gr (q := 10) (k := 0) (kI := 0) (pc' := 48) dX7_opensBy_45 rfl cl7 (by decide) rfl (by decide) flX7_9 rfl rfl rfl (G_at hG 16 rfl) (by decide) rfl ?_
        refine T_iload_n (i := 2) (pc' := 49) dX7_opensBy_48 rfl rfl rfl ?_
        refine T_sipush (pc' := 52) dX7_opensBy_49 rfl (by decide) rfl ?_
        refine T_imul (pc' := 53) dX7_opensBy_52 rfl ?_
        refine T_iload_n (i := 3) (pc' := 54) dX7_opensBy_53 rfl rfl rfl ?_
        refine T_iadd (pc' := 55) dX7_opensBy_54 rfl ?_
        refine T_iconst (pc' := 56) dX7_opensBy_55 (by decide) rfl ?_
        refine T_isub (pc' := 57) dX7_opensBy_56 rfl ?_
        refine T_callSN (av := [(2, 10), (0, (wr32 ((wr32 ((wr32 (v2 * 201)) + v3)) - 1)))]) (st := []) (d2 := 1) (nc2 := 0) (ns2 := 0) (pc' := 60) dX7_opensBy_57 rfl mtX11_get mvX11_get mlX7_71 rfl rfl (Nat.le_of_ble_eq_true rfl) (by decide) ⟨by decide, by decide⟩ rfl (pX11_get (E := E) (h := h) (M := M) (p0 := 10) (np0 := 1809) (v1 := (wr32 ((wr32 ((wr32 (v2 * 201)) + v3)) - 1))) (by decide) rfl (by decide) hG) (kF (st2 := [(0, (fX11_get M 10 1809 (wr32 ((wr32 ((wr32 (v2 * 201)) + v3)) - 1))))]) rfl (fun hG7 => ?_))
        refine T_istore (i := 6) (L' := [(2, 9), (2, g), (0, v2), (0, v3), (0, v4), (0, (fX11_get M (g + 5) 9 v2)), (0, (fX11_get M 10 1809 (wr32 ((wr32 ((wr32 (v2 * 201)) + v3)) - 1)))), (3, 0), (3, 0)]) (pc' := 62) dX7_opensBy_60 (by decide) rfl rfl ?_
        refine T_iconst (pc' := 63) dX7_opensBy_62 (by decide) rfl ?_
        refine T_istore (i := 7) (L' := [(2, 9), (2, g), (0, v2), (0, v3), (0, v4), (0, (fX11_get M (g + 5) 9 v2)), (0, (fX11_get M 10 1809 (wr32 ((wr32 ((wr32 (v2 * 201)) + v3)) - 1)))), (0, 0), (3, 0)]) (pc' := 65) dX7_opensBy_63 (by decide) rfl rfl ?_
        refine T_iconst (pc' := 66) dX7_opensBy_65 (by decide) rfl ?_
        refine T_istore (i := 8) (L' := [(2, 9), (2, g), (0, v2), (0, v3), (0, v4), (0, (fX11_get M (g + 5) 9 v2)), (0, (fX11_get M 10 1809 (wr32 ((wr32 ((wr32 (v2 * 201)) + v3)) - 1)))), (0, 0), (0, 0)]) (pc' := 68) dX7_opensBy_66 (by decide) rfl rfl ?_
        exact T_wk (qX7_opensBy_68 hg _ v4 (fX11_get M (g + 5) 9 v2) (fX11_get M 10 1809 (wr32 ((wr32 ((wr32 (v2 * 201)) + v3)) - 1))) 0 0 _ (by first | decide | omega) rfl (by have q := hQ; try simp only [if_pos c2] at q; try simp only [if_neg c4] at q; try simp only [if_pos c6] at q; exact q) hG) ⟨Or.inr rfl, Or.inr rfl, Or.inl rfl, Or.inl rfl, Or.inr rfl, Or.inr rfl, Or.inr rfl, Or.inr rfl, Or.inr rfl, trivial⟩
      · skip
        refine T_iconst (pc' := 43) dX7_opensBy_42 (by decide) rfl ?_
        exact T_iret dX7_opensBy_43 rfl ⟨rfl, hG, (by have q := hQ; try simp only [if_pos c2] at q; try simp only [if_neg c4] at q; try simp only [if_neg c6] at q; exact q)⟩
  · skip
    refine T_iconst (pc' := 13) dX7_opensBy_12 (by decide) rfl ?_
    exact T_iret dX7_opensBy_13 rfl ⟨rfl, hG, (by have q := hQ; try simp only [if_neg c2] at q; exact q)⟩
def lmX7_goOn_8 (g : Int) : Nat → Int → Int → Int → Mem → Mem
  | 0, v2, v3, v4, M => (if (fJ6_bitCount_0f7a4 (M 9 7)) < (M g 17) then M else (mset M 9 8 (m_or (M 9 8) (M 9 7))))
  | k + 1, v2, v3, v4, M => (lmX7_goOn_8 g k v2 v3 (v4 + 1) (if (m_and (M 9 6) (m_shl 1 v4)) = 0 then (if (m_and v3 (m_shl 1 v4)) = 0 then M else (if v2 < (wr32 ((fX11_get M 13 9 v4) + (M g 15))) then M else (mset M 9 7 (m_and (M 9 7) (m_xor (m_shl 1 v4) (-1)))))) else (if (fX7_opensBy M g v4 v2 v3) = 0 then M else (mset (mset (fmX11_put (fmX11_put (fmX11_put M 13 9 v4 v2) 14 9 v4 (fX11_get (fmX11_put M 13 9 v4 v2) 10 1809 (wr32 ((wr32 ((wr32 (v4 * 201)) + v2)) - 1)))) 15 9 v4 (fX7_opensBy M g v4 v2 v3)) 9 6 (m_and ((fmX11_put (fmX11_put (fmX11_put M 13 9 v4 v2) 14 9 v4 (fX11_get (fmX11_put M 13 9 v4 v2) 10 1809 (wr32 ((wr32 ((wr32 (v4 * 201)) + v2)) - 1)))) 15 9 v4 (fX7_opensBy M g v4 v2 v3)) 9 6) (m_xor (m_shl 1 v4) (-1)))) 9 7 (m_or ((mset (fmX11_put (fmX11_put (fmX11_put M 13 9 v4 v2) 14 9 v4 (fX11_get (fmX11_put M 13 9 v4 v2) 10 1809 (wr32 ((wr32 ((wr32 (v4 * 201)) + v2)) - 1)))) 15 9 v4 (fX7_opensBy M g v4 v2 v3)) 9 6 (m_and ((fmX11_put (fmX11_put (fmX11_put M 13 9 v4 v2) 14 9 v4 (fX11_get (fmX11_put M 13 9 v4 v2) 10 1809 (wr32 ((wr32 ((wr32 (v4 * 201)) + v2)) - 1)))) 15 9 v4 (fX7_opensBy M g v4 v2 v3)) 9 6) (m_xor (m_shl 1 v4) (-1)))) 9 7) (m_shl 1 v4))))))
theorem frlX7_goOn_8 {g : Int} {q : Int} (hq0 : q ≠ 9) (hq1 : q ≠ 13) (hq2 : q ≠ 14) (hq3 : q ≠ 15) : ∀ {k : Nat} {v2 v3 v4 : Int} {M : Mem}, (lmX7_goOn_8 g k v2 v3 v4 M) q = M q := by
  intro k
  induction k with
  | zero =>
    intro v2 v3 v4 M
    show (if (fJ6_bitCount_0f7a4 (M 9 7)) < (M g 17) then M else (mset M 9 8 (m_or (M 9 8) (M 9 7)))) q = M q
    repeat' (first | rfl | rw [mset_p hq0] | rw [mset_p hq1] | rw [mset_p hq2] | rw [mset_p hq3] | rw [mcpy_p hq0] | rw [mcpy_p hq1] | rw [mcpy_p hq2] | rw [mcpy_p hq3] | (rw [frX11_put] <;> try assumption) | rw [ite_ap] | split)
  | succ k ih =>
    intro v2 v3 v4 M
    show (lmX7_goOn_8 g k v2 v3 (v4 + 1) (if (m_and (M 9 6) (m_shl 1 v4)) = 0 then (if (m_and v3 (m_shl 1 v4)) = 0 then M else (if v2 < (wr32 ((fX11_get M 13 9 v4) + (M g 15))) then M else (mset M 9 7 (m_and (M 9 7) (m_xor (m_shl 1 v4) (-1)))))) else (if (fX7_opensBy M g v4 v2 v3) = 0 then M else (mset (mset (fmX11_put (fmX11_put (fmX11_put M 13 9 v4 v2) 14 9 v4 (fX11_get (fmX11_put M 13 9 v4 v2) 10 1809 (wr32 ((wr32 ((wr32 (v4 * 201)) + v2)) - 1)))) 15 9 v4 (fX7_opensBy M g v4 v2 v3)) 9 6 (m_and ((fmX11_put (fmX11_put (fmX11_put M 13 9 v4 v2) 14 9 v4 (fX11_get (fmX11_put M 13 9 v4 v2) 10 1809 (wr32 ((wr32 ((wr32 (v4 * 201)) + v2)) - 1)))) 15 9 v4 (fX7_opensBy M g v4 v2 v3)) 9 6) (m_xor (m_shl 1 v4) (-1)))) 9 7 (m_or ((mset (fmX11_put (fmX11_put (fmX11_put M 13 9 v4 v2) 14 9 v4 (fX11_get (fmX11_put M 13 9 v4 v2) 10 1809 (wr32 ((wr32 ((wr32 (v4 * 201)) + v2)) - 1)))) 15 9 v4 (fX7_opensBy M g v4 v2 v3)) 9 6 (m_and ((fmX11_put (fmX11_put (fmX11_put M 13 9 v4 v2) 14 9 v4 (fX11_get (fmX11_put M 13 9 v4 v2) 10 1809 (wr32 ((wr32 ((wr32 (v4 * 201)) + v2)) - 1)))) 15 9 v4 (fX7_opensBy M g v4 v2 v3)) 9 6) (m_xor (m_shl 1 v4) (-1)))) 9 7) (m_shl 1 v4)))))) q = M q
    repeat' (first | rfl | rw [mset_p hq0] | rw [mset_p hq1] | rw [mset_p hq2] | rw [mset_p hq3] | rw [mcpy_p hq0] | rw [mcpy_p hq1] | rw [mcpy_p hq2] | rw [mcpy_p hq3] | (rw [frX11_put] <;> try assumption) | rw [ite_ap] | split | rw [ih])
theorem glX7_goOn_8 {h : Int} {g : Int} (hg : isG g) : ∀ {k : Nat} {v2 v3 v4 : Int} {M : Mem}, G h M → G h (lmX7_goOn_8 g k v2 v3 v4 M) := by
  intro k
  induction k with
  | zero =>
    intro v2 v3 v4 M hG
    show G h (if (fJ6_bitCount_0f7a4 (M 9 7)) < (M g 17) then M else (mset M 9 8 (m_or (M 9 8) (M 9 7))))
    exact (G_ite hG (G_fld (x := 9) (i := 8) (y := (m_or (M 9 8) (M 9 7))) rfl (by decide) (by decide) (by decide) hG))
  | succ k ih =>
    intro v2 v3 v4 M hG
    show G h (lmX7_goOn_8 g k v2 v3 (v4 + 1) (if (m_and (M 9 6) (m_shl 1 v4)) = 0 then (if (m_and v3 (m_shl 1 v4)) = 0 then M else (if v2 < (wr32 ((fX11_get M 13 9 v4) + (M g 15))) then M else (mset M 9 7 (m_and (M 9 7) (m_xor (m_shl 1 v4) (-1)))))) else (if (fX7_opensBy M g v4 v2 v3) = 0 then M else (mset (mset (fmX11_put (fmX11_put (fmX11_put M 13 9 v4 v2) 14 9 v4 (fX11_get (fmX11_put M 13 9 v4 v2) 10 1809 (wr32 ((wr32 ((wr32 (v4 * 201)) + v2)) - 1)))) 15 9 v4 (fX7_opensBy M g v4 v2 v3)) 9 6 (m_and ((fmX11_put (fmX11_put (fmX11_put M 13 9 v4 v2) 14 9 v4 (fX11_get (fmX11_put M 13 9 v4 v2) 10 1809 (wr32 ((wr32 ((wr32 (v4 * 201)) + v2)) - 1)))) 15 9 v4 (fX7_opensBy M g v4 v2 v3)) 9 6) (m_xor (m_shl 1 v4) (-1)))) 9 7 (m_or ((mset (fmX11_put (fmX11_put (fmX11_put M 13 9 v4 v2) 14 9 v4 (fX11_get (fmX11_put M 13 9 v4 v2) 10 1809 (wr32 ((wr32 ((wr32 (v4 * 201)) + v2)) - 1)))) 15 9 v4 (fX7_opensBy M g v4 v2 v3)) 9 6 (m_and ((fmX11_put (fmX11_put (fmX11_put M 13 9 v4 v2) 14 9 v4 (fX11_get (fmX11_put M 13 9 v4 v2) 10 1809 (wr32 ((wr32 ((wr32 (v4 * 201)) + v2)) - 1)))) 15 9 v4 (fX7_opensBy M g v4 v2 v3)) 9 6) (m_xor (m_shl 1 v4) (-1)))) 9 7) (m_shl 1 v4))))))
    exact (ih (G_ite (G_ite hG (G_ite hG (G_fld (x := 9) (i := 7) (y := (m_and (M 9 7) (m_xor (m_shl 1 v4) (-1)))) rfl (by decide) (by decide) (by decide) hG))) (G_ite hG (G_fld (x := 9) (i := 7) (y := (m_or ((mset (fmX11_put (fmX11_put (fmX11_put M 13 9 v4 v2) 14 9 v4 (fX11_get (fmX11_put M 13 9 v4 v2) 10 1809 (wr32 ((wr32 ((wr32 (v4 * 201)) + v2)) - 1)))) 15 9 v4 (fX7_opensBy M g v4 v2 v3)) 9 6 (m_and ((fmX11_put (fmX11_put (fmX11_put M 13 9 v4 v2) 14 9 v4 (fX11_get (fmX11_put M 13 9 v4 v2) 10 1809 (wr32 ((wr32 ((wr32 (v4 * 201)) + v2)) - 1)))) 15 9 v4 (fX7_opensBy M g v4 v2 v3)) 9 6) (m_xor (m_shl 1 v4) (-1)))) 9 7) (m_shl 1 v4))) rfl (by decide) (by decide) (by decide) (G_fld (x := 9) (i := 6) (y := (m_and ((fmX11_put (fmX11_put (fmX11_put M 13 9 v4 v2) 14 9 v4 (fX11_get (fmX11_put M 13 9 v4 v2) 10 1809 (wr32 ((wr32 ((wr32 (v4 * 201)) + v2)) - 1)))) 15 9 v4 (fX7_opensBy M g v4 v2 v3)) 9 6) (m_xor (m_shl 1 v4) (-1)))) rfl (by decide) (by decide) (by decide) (gX11_put (h := h) (M := (fmX11_put (fmX11_put M 13 9 v4 v2) 14 9 v4 (fX11_get (fmX11_put M 13 9 v4 v2) 10 1809 (wr32 ((wr32 ((wr32 (v4 * 201)) + v2)) - 1))))) (p0 := 15) (np0 := 9) (v1 := v4) (v2 := (fX7_opensBy M g v4 v2 v3)) (by decide) rfl (by decide) (gX11_put (h := h) (M := (fmX11_put M 13 9 v4 v2)) (p0 := 14) (np0 := 9) (v1 := v4) (v2 := (fX11_get (fmX11_put M 13 9 v4 v2) 10 1809 (wr32 ((wr32 ((wr32 (v4 * 201)) + v2)) - 1)))) (by decide) rfl (by decide) (gX11_put (h := h) (M := M) (p0 := 13) (np0 := 9) (v1 := v4) (v2 := v2) (by decide) rfl (by decide) hG))))))))
set_option maxRecDepth 100000 in
set_option maxHeartbeats 2000000 in
theorem qX7_goOn_8 {E : EV} {h : Int} {Q : Option MV → Mem → Prop} {g : Int} (hg : isG g) : ∀ (k : Nat) (v2 v3 v4 : Int) (M : Mem), 0 ≤ v4 → (((M (g + 1) 8)) - v4).toNat = k → Q none (lmX7_goOn_8 g k v2 v3 v4 M) → G h M → TG E miX7_goOn 3 h Q 8 [(2, 9), (2, g), (0, v2), (0, v3), (0, v4), (3, 0), (3, 0)] [] M := by
  intro k
  induction k with
  | zero =>
    intro v2 v3 v4 M hv0 hk hQ hG
    have hQ : Q none (if (fJ6_bitCount_0f7a4 (M 9 7)) < (M g 17) then M else (mset M 9 8 (m_or (M 9 8) (M 9 7)))) := hQ
    refine T_iload (i := 4) (pc' := 10) dX7_goOn_8 rfl rfl ?_
    refine T_aload_n (i := 1) (pc' := 11) dX7_goOn_10 rfl rfl rfl ?_
    refine U_grN (q := (g + 1)) (k := 0) (kI := 0) (pc' := 14) dX7_goOn_11 rfl cl1 (pog0 hg) (shg0 hg) (by decide) flX7_46 rfl rfl rfl (grg0_0 hg hG) (pog1 hg) rfl ?_
    refine U_gfN (v := (0, (M (g + 1) 8))) (k := 8) (kI := 8) (pc' := 17) dX7_goOn_14 rfl cl4 (pog1 hg) (shg1 hg) (by decide) flX7_52 rfl rfl (by decide) rfl rfl ?_
    refine T_rng (fun _ z9 _ => ?_)
    have hB : r32 (M (g + 1) 8) := (ok_cons.mp z9).1
    unfold r32 at hB
    refine T_icmp_ge (pc' := 170) dX7_goOn_17 (by decide) (pf := 20) rfl (fun c1 => ?_) (fun c1 => ?_)
    · skip
      refine T_aload_n (i := 0) (pc' := 171) dX7_goOn_170 rfl rfl rfl ?_
      refine U_gf (v := (0, (M 9 7))) (k := 7) (kI := 7) (pc' := 174) dX7_goOn_171 rfl cl7 (by decide) rfl (by decide) flX7_34 rfl rfl (by decide) rfl rfl ?_
      refine T_callS (av := [(0, (M 9 7))]) (st := []) (d2 := 1) (nc2 := 0) (ns2 := 0) (pc' := 177) dX7_goOn_174 rfl mtJ6_bitCount_0f7a4 mvJ6_bitCount_0f7a4 mlX7_138 rfl rfl (Nat.le_of_ble_eq_true rfl) (by decide) ⟨by decide, by decide⟩ rfl (pJ6_bitCount_0f7a4 (E := E) (h := h) (M := M) (v0 := (M 9 7)) hG) (kF (st2 := [(0, (fJ6_bitCount_0f7a4 (M 9 7)))]) rfl (fun hG2 => ?_))
      refine T_aload_n (i := 1) (pc' := 178) dX7_goOn_177 rfl rfl rfl ?_
      refine U_gfN (v := (0, (M g 17))) (k := 17) (kI := 17) (pc' := 181) dX7_goOn_178 rfl cl1 (pog0 hg) (shg0 hg) (by decide) flX7_152 rfl rfl (by decide) rfl rfl ?_
      have HJ3 : T E miX7_goOn 3 126 0 0 (fun r S M' => S = S0 ∧ G h M' ∧ Q r M') 197 [(3, 0), (3, 0), (3, 0), (3, 0), (3, 0), (3, 0), (3, 0)] [] S0 (if (fJ6_bitCount_0f7a4 (M 9 7)) < (M g 17) then M else (mset M 9 8 (m_or (M 9 8) (M 9 7)))) 0 0 := by
        exact T_vret dX7_goOn_197 rfl ⟨rfl, (G_ite hG (G_fld (x := 9) (i := 8) (y := (m_or (M 9 8) (M 9 7))) rfl (by decide) (by decide) (by decide) hG)), hQ⟩
      refine T_icmp_lt (pc' := 197) dX7_goOn_181 (by decide) (pf := 184) rfl (fun c4 => ?_) (fun c4 => ?_)
      · skip
        exact T_wk (L' := [(3, 0), (3, 0), (3, 0), (3, 0), (3, 0), (3, 0), (3, 0)]) (by have q := HJ3; try simp only [if_pos c4] at q; exact q) ⟨Or.inl rfl, Or.inl rfl, Or.inl rfl, Or.inl rfl, Or.inl rfl, Or.inl rfl, Or.inl rfl, trivial⟩
      · skip
        refine T_aload_n (i := 0) (pc' := 185) dX7_goOn_184 rfl rfl rfl ?_
        refine T_dup (pc' := 186) dX7_goOn_185 (Nat.ne_of_beq_eq_false rfl) rfl ?_
        refine U_gf (v := (0, (M 9 8))) (k := 8) (kI := 8) (pc' := 189) dX7_goOn_186 rfl cl7 (by decide) rfl (by decide) flX7_37 rfl rfl (by decide) rfl rfl ?_
        refine T_aload_n (i := 0) (pc' := 190) dX7_goOn_189 rfl rfl rfl ?_
        refine U_gf (v := (0, (M 9 7))) (k := 7) (kI := 7) (pc' := 193) dX7_goOn_190 rfl cl7 (by decide) rfl (by decide) flX7_34 rfl rfl (by decide) rfl rfl ?_
        refine T_ior (pc' := 194) dX7_goOn_193 rfl ?_
        refine U_pf (y := (m_or (M 9 8) (M 9 7))) (k := 8) (kI := 8) (pc' := 197) dX7_goOn_194 rfl cl7 (by decide) rfl (by decide) flX7_37 rfl rfl rfl rfl rfl (by decide) (fun z => z) rfl ?_
        exact T_wk (L' := [(3, 0), (3, 0), (3, 0), (3, 0), (3, 0), (3, 0), (3, 0)]) (by have q := HJ3; try simp only [if_neg c4] at q; exact q) ⟨Or.inl rfl, Or.inl rfl, Or.inl rfl, Or.inl rfl, Or.inl rfl, Or.inl rfl, Or.inl rfl, trivial⟩
    · exact absurd c1 (by omega)
  | succ k ih =>
    intro v2 v3 v4 M hv0 hk hQ hG
    have hQ : Q none (lmX7_goOn_8 g k v2 v3 (v4 + 1) (if (m_and (M 9 6) (m_shl 1 v4)) = 0 then (if (m_and v3 (m_shl 1 v4)) = 0 then M else (if v2 < (wr32 ((fX11_get M 13 9 v4) + (M g 15))) then M else (mset M 9 7 (m_and (M 9 7) (m_xor (m_shl 1 v4) (-1)))))) else (if (fX7_opensBy M g v4 v2 v3) = 0 then M else (mset (mset (fmX11_put (fmX11_put (fmX11_put M 13 9 v4 v2) 14 9 v4 (fX11_get (fmX11_put M 13 9 v4 v2) 10 1809 (wr32 ((wr32 ((wr32 (v4 * 201)) + v2)) - 1)))) 15 9 v4 (fX7_opensBy M g v4 v2 v3)) 9 6 (m_and ((fmX11_put (fmX11_put (fmX11_put M 13 9 v4 v2) 14 9 v4 (fX11_get (fmX11_put M 13 9 v4 v2) 10 1809 (wr32 ((wr32 ((wr32 (v4 * 201)) + v2)) - 1)))) 15 9 v4 (fX7_opensBy M g v4 v2 v3)) 9 6) (m_xor (m_shl 1 v4) (-1)))) 9 7 (m_or ((mset (fmX11_put (fmX11_put (fmX11_put M 13 9 v4 v2) 14 9 v4 (fX11_get (fmX11_put M 13 9 v4 v2) 10 1809 (wr32 ((wr32 ((wr32 (v4 * 201)) + v2)) - 1)))) 15 9 v4 (fX7_opensBy M g v4 v2 v3)) 9 6 (m_and ((fmX11_put (fmX11_put (fmX11_put M 13 9 v4 v2) 14 9 v4 (fX11_get (fmX11_put M 13 9 v4 v2) 10 1809 (wr32 ((wr32 ((wr32 (v4 * 201)) + v2)) - 1)))) 15 9 v4 (fX7_opensBy M g v4 v2 v3)) 9 6) (m_xor (m_shl 1 v4) (-1)))) 9 7) (m_shl 1 v4)))))) := hQ
    refine T_iload (i := 4) (pc' := 10) dX7_goOn_8 rfl rfl ?_
    refine T_aload_n (i := 1) (pc' := 11) dX7_goOn_10 rfl rfl rfl ?_
    refine U_grN (q := (g + 1)) (k := 0) (kI := 0) (pc' := 14) dX7_goOn_11 rfl cl1 (pog0 hg) (shg0 hg) (by decide) flX7_46 rfl rfl rfl (grg0_0 hg hG) (pog1 hg) rfl ?_
    refine U_gfN (v := (0, (M (g + 1) 8))) (k := 8) (kI := 8) (pc' := 17) dX7_goOn_14 rfl cl4 (pog1 hg) (shg1 hg) (by decide) flX7_52 rfl rfl (by decide) rfl rfl ?_
    refine T_rng (fun _ z9 _ => ?_)
    have hB : r32 (M (g + 1) 8) := (ok_cons.mp z9).1
    unfold r32 at hB
    refine T_icmp_ge (pc' := 170) dX7_goOn_17 (by decide) (pf := 20) rfl (fun c1 => ?_) (fun c1 => ?_)
    · exact absurd c1 (by omega)
    · skip
      have hw : wr32 (v4 + 1) = v4 + 1 := wr32_id (by unfold r32; omega)
      refine T_iconst (pc' := 21) dX7_goOn_20 (by decide) rfl ?_
      refine T_iload (i := 4) (pc' := 23) dX7_goOn_21 rfl rfl ?_
      refine T_ishl (pc' := 24) dX7_goOn_23 rfl ?_
      refine T_istore (i := 5) (L' := [(2, 9), (2, g), (0, v2), (0, v3), (0, v4), (0, (m_shl 1 v4)), (3, 0)]) (pc' := 26) dX7_goOn_24 (by decide) rfl rfl ?_
      refine T_aload_n (i := 0) (pc' := 27) dX7_goOn_26 rfl rfl rfl ?_
      refine U_gf (v := (0, (M 9 6))) (k := 6) (kI := 6) (pc' := 30) dX7_goOn_27 rfl cl7 (by decide) rfl (by decide) flX7_30 rfl rfl (by decide) rfl rfl ?_
      refine T_iload (i := 5) (pc' := 32) dX7_goOn_30 rfl rfl ?_
      refine T_iand (pc' := 33) dX7_goOn_32 rfl ?_
      have HJ5 : T E miX7_goOn 3 126 0 0 (fun r S M' => S = S0 ∧ G h M' ∧ Q r M') 164 [(2, 9), (2, g), (0, v2), (0, v3), (0, v4), (3, 0), (3, 0)] [] S0 (if (m_and (M 9 6) (m_shl 1 v4)) = 0 then (if (m_and v3 (m_shl 1 v4)) = 0 then M else (if v2 < (wr32 ((fX11_get M 13 9 v4) + (M g 15))) then M else (mset M 9 7 (m_and (M 9 7) (m_xor (m_shl 1 v4) (-1)))))) else (if (fX7_opensBy M g v4 v2 v3) = 0 then M else (mset (mset (fmX11_put (fmX11_put (fmX11_put M 13 9 v4 v2) 14 9 v4 (fX11_get (fmX11_put M 13 9 v4 v2) 10 1809 (wr32 ((wr32 ((wr32 (v4 * 201)) + v2)) - 1)))) 15 9 v4 (fX7_opensBy M g v4 v2 v3)) 9 6 (m_and ((fmX11_put (fmX11_put (fmX11_put M 13 9 v4 v2) 14 9 v4 (fX11_get (fmX11_put M 13 9 v4 v2) 10 1809 (wr32 ((wr32 ((wr32 (v4 * 201)) + v2)) - 1)))) 15 9 v4 (fX7_opensBy M g v4 v2 v3)) 9 6) (m_xor (m_shl 1 v4) (-1)))) 9 7 (m_or ((mset (fmX11_put (fmX11_put (fmX11_put M 13 9 v4 v2) 14 9 v4 (fX11_get (fmX11_put M 13 9 v4 v2) 10 1809 (wr32 ((wr32 ((wr32 (v4 * 201)) + v2)) - 1)))) 15 9 v4 (fX7_opensBy M g v4 v2 v3)) 9 6 (m_and ((fmX11_put (fmX11_put (fmX11_put M 13 9 v4 v2) 14 9 v4 (fX11_get (fmX11_put M 13 9 v4 v2) 10 1809 (wr32 ((wr32 ((wr32 (v4 * 201)) + v2)) - 1)))) 15 9 v4 (fX7_opensBy M g v4 v2 v3)) 9 6) (m_xor (m_shl 1 v4) (-1)))) 9 7) (m_shl 1 v4))))) 0 0 := by
        refine T_iinc (L' := [(2, 9), (2, g), (0, v2), (0, v3), (0, (wr32 (v4 + 1))), (3, 0), (3, 0)]) (pc' := 167) dX7_goOn_164 rfl (by decide) rfl rfl ?_
        refine T_goto (pc' := 8) dX7_goOn_167 (by decide) ?_
        rw [hw]
        have hbd : ((if (m_and (M 9 6) (m_shl 1 v4)) = 0 then (if (m_and v3 (m_shl 1 v4)) = 0 then M else (if v2 < (wr32 ((fX11_get M 13 9 v4) + (M g 15))) then M else (mset M 9 7 (m_and (M 9 7) (m_xor (m_shl 1 v4) (-1)))))) else (if (fX7_opensBy M g v4 v2 v3) = 0 then M else (mset (mset (fmX11_put (fmX11_put (fmX11_put M 13 9 v4 v2) 14 9 v4 (fX11_get (fmX11_put M 13 9 v4 v2) 10 1809 (wr32 ((wr32 ((wr32 (v4 * 201)) + v2)) - 1)))) 15 9 v4 (fX7_opensBy M g v4 v2 v3)) 9 6 (m_and ((fmX11_put (fmX11_put (fmX11_put M 13 9 v4 v2) 14 9 v4 (fX11_get (fmX11_put M 13 9 v4 v2) 10 1809 (wr32 ((wr32 ((wr32 (v4 * 201)) + v2)) - 1)))) 15 9 v4 (fX7_opensBy M g v4 v2 v3)) 9 6) (m_xor (m_shl 1 v4) (-1)))) 9 7 (m_or ((mset (fmX11_put (fmX11_put (fmX11_put M 13 9 v4 v2) 14 9 v4 (fX11_get (fmX11_put M 13 9 v4 v2) 10 1809 (wr32 ((wr32 ((wr32 (v4 * 201)) + v2)) - 1)))) 15 9 v4 (fX7_opensBy M g v4 v2 v3)) 9 6 (m_and ((fmX11_put (fmX11_put (fmX11_put M 13 9 v4 v2) 14 9 v4 (fX11_get (fmX11_put M 13 9 v4 v2) 10 1809 (wr32 ((wr32 ((wr32 (v4 * 201)) + v2)) - 1)))) 15 9 v4 (fX7_opensBy M g v4 v2 v3)) 9 6) (m_xor (m_shl 1 v4) (-1)))) 9 7) (m_shl 1 v4))))) (g + 1) 8) = (M (g + 1) 8) := by
          repeat' (first | rfl | (rw [mset_p] <;> first | decide | (unfold isG at *; omega)) | (rw [frX11_put] <;> first | decide | (unfold isG at *; omega)) | rw [ite_ap] | split)
        exact T_wk (ih _ _ (v4 + 1) _ (by omega) (by rw [hbd]; omega) hQ (G_ite (G_ite hG (G_ite hG (G_fld (x := 9) (i := 7) (y := (m_and (M 9 7) (m_xor (m_shl 1 v4) (-1)))) rfl (by decide) (by decide) (by decide) hG))) (G_ite hG (G_fld (x := 9) (i := 7) (y := (m_or ((mset (fmX11_put (fmX11_put (fmX11_put M 13 9 v4 v2) 14 9 v4 (fX11_get (fmX11_put M 13 9 v4 v2) 10 1809 (wr32 ((wr32 ((wr32 (v4 * 201)) + v2)) - 1)))) 15 9 v4 (fX7_opensBy M g v4 v2 v3)) 9 6 (m_and ((fmX11_put (fmX11_put (fmX11_put M 13 9 v4 v2) 14 9 v4 (fX11_get (fmX11_put M 13 9 v4 v2) 10 1809 (wr32 ((wr32 ((wr32 (v4 * 201)) + v2)) - 1)))) 15 9 v4 (fX7_opensBy M g v4 v2 v3)) 9 6) (m_xor (m_shl 1 v4) (-1)))) 9 7) (m_shl 1 v4))) rfl (by decide) (by decide) (by decide) (G_fld (x := 9) (i := 6) (y := (m_and ((fmX11_put (fmX11_put (fmX11_put M 13 9 v4 v2) 14 9 v4 (fX11_get (fmX11_put M 13 9 v4 v2) 10 1809 (wr32 ((wr32 ((wr32 (v4 * 201)) + v2)) - 1)))) 15 9 v4 (fX7_opensBy M g v4 v2 v3)) 9 6) (m_xor (m_shl 1 v4) (-1)))) rfl (by decide) (by decide) (by decide) (gX11_put (h := h) (M := (fmX11_put (fmX11_put M 13 9 v4 v2) 14 9 v4 (fX11_get (fmX11_put M 13 9 v4 v2) 10 1809 (wr32 ((wr32 ((wr32 (v4 * 201)) + v2)) - 1))))) (p0 := 15) (np0 := 9) (v1 := v4) (v2 := (fX7_opensBy M g v4 v2 v3)) (by decide) rfl (by decide) (gX11_put (h := h) (M := (fmX11_put M 13 9 v4 v2)) (p0 := 14) (np0 := 9) (v1 := v4) (v2 := (fX11_get (fmX11_put M 13 9 v4 v2) 10 1809 (wr32 ((wr32 ((wr32 (v4 * 201)) + v2)) - 1)))) (by decide) rfl (by decide) (gX11_put (h := h) (M := M) (p0 := 13) (np0 := 9) (v1 := v4) (v2 := v2) (by decide) rfl (by decide) hG)))))))) ⟨Or.inr rfl, Or.inr rfl, Or.inr rfl, Or.inr rfl, Or.inr rfl, Or.inl rfl, Or.inl rfl, trivial⟩
      refine T_if_eq (pc' := 126) dX7_goOn_33 (by decide) (pf := 36) rfl (fun c6 => ?_) (fun c6 => ?_)
      · skip
        refine T_iload_n (i := 3) (pc' := 127) dX7_goOn_126 rfl rfl rfl ?_
        refine T_iload (i := 5) (pc' := 129) dX7_goOn_127 rfl rfl ?_
        refine T_iand (pc' := 130) dX7_goOn_129 rfl ?_
        refine T_if_eq (pc' := 164) dX7_goOn_130 (by decide) (pf := 133) rfl (fun c7 => ?_) (fun c7 => ?_)
        · skip
          exact T_wk (L' := [(2, 9), (2, g), (0, v2), (0, v3), (0, v4), (3, 0), (3, 0)]) (by have q := HJ5; try simp only [if_pos c6] at q; try simp only [if_pos c7] at q; exact q) ⟨Or.inr rfl, Or.inr rfl, Or.inr rfl, Or.inr rfl, Or.inr rfl, Or.inl rfl, Or.inl rfl, trivial⟩
        · skip
          refine T_iload_n (i := 2) (pc' := 134) dX7_goOn_133 rfl rfl rfl ?_
          refine T_aload_n (i := 0) (pc' := 135) dX7_goOn_134 rfl rfl rfl ?_
          refine U_gr (q := 13) (k := 3) (kI := 3) (pc' := 138) dX7_goOn_135 rfl cl7 (by decide) rfl (by decide) flX7_21 rfl rfl rfl (G_at hG 19 rfl) (by decide) rfl ?_
          refine T_iload (i := 4) (pc' := 140) dX7_goOn_138 rfl rfl ?_
          refine T_callSN (av := [(2, 13), (0, v4)]) (st := [(0, v2)]) (d2 := 1) (nc2 := 0) (ns2 := 0) (pc' := 143) dX7_goOn_140 rfl mtX11_get mvX11_get mlX7_71 rfl rfl (Nat.le_of_ble_eq_true rfl) (by decide) ⟨by decide, by decide⟩ rfl (pX11_get (E := E) (h := h) (M := M) (p0 := 13) (np0 := 9) (v1 := v4) (by decide) rfl (by decide) hG) (kF (st2 := [(0, (fX11_get M 13 9 v4)), (0, v2)]) rfl (fun hG8 => ?_))
          refine T_aload_n (i := 1) (pc' := 144) dX7_goOn_143 rfl rfl rfl ?_
          refine U_gfN (v := (0, (M g 15))) (k := 15) (kI := 15) (pc' := 147) dX7_goOn_144 rfl cl1 (pog0 hg) (shg0 hg) (by decide) flX7_151 rfl rfl (by decide) rfl rfl ?_
          refine T_iadd (pc' := 148) dX7_goOn_147 rfl ?_
          refine T_icmp_lt (pc' := 164) dX7_goOn_148 (by decide) (pf := 151) rfl (fun c9 => ?_) (fun c9 => ?_)
          · skip
            exact T_wk (L' := [(2, 9), (2, g), (0, v2), (0, v3), (0, v4), (3, 0), (3, 0)]) (by have q := HJ5; try simp only [if_pos c6] at q; try simp only [if_neg c7] at q; try simp only [if_pos c9] at q; exact q) ⟨Or.inr rfl, Or.inr rfl, Or.inr rfl, Or.inr rfl, Or.inr rfl, Or.inl rfl, Or.inl rfl, trivial⟩
          · skip
            refine T_aload_n (i := 0) (pc' := 152) dX7_goOn_151 rfl rfl rfl ?_
            refine T_dup (pc' := 153) dX7_goOn_152 (Nat.ne_of_beq_eq_false rfl) rfl ?_
            refine U_gf (v := (0, (M 9 7))) (k := 7) (kI := 7) (pc' := 156) dX7_goOn_153 rfl cl7 (by decide) rfl (by decide) flX7_34 rfl rfl (by decide) rfl rfl ?_
            refine T_iload (i := 5) (pc' := 158) dX7_goOn_156 rfl rfl ?_
            refine T_iconst (pc' := 159) dX7_goOn_158 (by decide) rfl ?_
            refine T_ixor (pc' := 160) dX7_goOn_159 rfl ?_
            refine T_iand (pc' := 161) dX7_goOn_160 rfl ?_
            refine U_pf (y := (m_and (M 9 7) (m_xor (m_shl 1 v4) (-1)))) (k := 7) (kI := 7) (pc' := 164) dX7_goOn_161 rfl cl7 (by decide) rfl (by decide) flX7_34 rfl rfl rfl rfl rfl (by decide) (fun z => z) rfl ?_
            exact T_wk (L' := [(2, 9), (2, g), (0, v2), (0, v3), (0, v4), (3, 0), (3, 0)]) (by have q := HJ5; try simp only [if_pos c6] at q; try simp only [if_neg c7] at q; try simp only [if_neg c9] at q; exact q) ⟨Or.inr rfl, Or.inr rfl, Or.inr rfl, Or.inr rfl, Or.inr rfl, Or.inl rfl, Or.inl rfl, trivial⟩
      · skip
        refine T_aload_n (i := 0) (pc' := 37) dX7_goOn_36 rfl rfl rfl ?_
        refine T_aload_n (i := 1) (pc' := 38) dX7_goOn_37 rfl rfl rfl ?_
        refine T_iload (i := 4) (pc' := 40) dX7_goOn_38 rfl rfl ?_
        refine T_iload_n (i := 2) (pc' := 41) dX7_goOn_40 rfl rfl rfl ?_
        refine T_iload_n (i := 3) (pc' := 42) dX7_goOn_41 rfl rfl rfl ?_
        refine T_callV (av := [(2, g), (0, v4), (0, v2), (0, v3)]) (st := []) (d2 := 2) (nc2 := 0) (ns2 := 0) (pc' := 45) dX7_goOn_42 rfl mtX7_opensBy mvX7_opensBy mlX7_147 cl7 rfl rfl rfl (Nat.le_of_ble_eq_true rfl) (by decide) ⟨by decide, by decide⟩ rfl (pX7_opensBy (E := E) (h := h) (M := M) (g := g) (v2 := v4) (v3 := v2) (v4 := v3) hg hG) (kF (st2 := [(0, (fX7_opensBy M g v4 v2 v3))]) rfl (fun hG10 => ?_))
        refine T_istore (i := 6) (L' := [(2, 9), (2, g), (0, v2), (0, v3), (0, v4), (0, (m_shl 1 v4)), (0, (fX7_opensBy M g v4 v2 v3))]) (pc' := 47) dX7_goOn_45 (by decide) rfl rfl ?_
        refine T_iload (i := 6) (pc' := 49) dX7_goOn_47 rfl rfl ?_
        have HJ11 : T E miX7_goOn 3 126 0 0 (fun r S M' => S = S0 ∧ G h M' ∧ Q r M') 123 [(2, 9), (2, g), (0, v2), (0, v3), (0, v4), (3, 0), (3, 0)] [] S0 (if (fX7_opensBy M g v4 v2 v3) = 0 then M else (mset (mset (fmX11_put (fmX11_put (fmX11_put M 13 9 v4 v2) 14 9 v4 (fX11_get (fmX11_put M 13 9 v4 v2) 10 1809 (wr32 ((wr32 ((wr32 (v4 * 201)) + v2)) - 1)))) 15 9 v4 (fX7_opensBy M g v4 v2 v3)) 9 6 (m_and ((fmX11_put (fmX11_put (fmX11_put M 13 9 v4 v2) 14 9 v4 (fX11_get (fmX11_put M 13 9 v4 v2) 10 1809 (wr32 ((wr32 ((wr32 (v4 * 201)) + v2)) - 1)))) 15 9 v4 (fX7_opensBy M g v4 v2 v3)) 9 6) (m_xor (m_shl 1 v4) (-1)))) 9 7 (m_or ((mset (fmX11_put (fmX11_put (fmX11_put M 13 9 v4 v2) 14 9 v4 (fX11_get (fmX11_put M 13 9 v4 v2) 10 1809 (wr32 ((wr32 ((wr32 (v4 * 201)) + v2)) - 1)))) 15 9 v4 (fX7_opensBy M g v4 v2 v3)) 9 6 (m_and ((fmX11_put (fmX11_put (fmX11_put M 13 9 v4 v2) 14 9 v4 (fX11_get (fmX11_put M 13 9 v4 v2) 10 1809 (wr32 ((wr32 ((wr32 (v4 * 201)) + v2)) - 1)))) 15 9 v4 (fX7_opensBy M g v4 v2 v3)) 9 6) (m_xor (m_shl 1 v4) (-1)))) 9 7) (m_shl 1 v4)))) 0 0 := by
          refine T_goto (pc' := 164) dX7_goOn_123 (by decide) ?_
          exact T_wk (L' := [(2, 9), (2, g), (0, v2), (0, v3), (0, v4), (3, 0), (3, 0)]) (by have q := HJ5; try simp only [if_neg c6] at q; exact q) ⟨Or.inr rfl, Or.inr rfl, Or.inr rfl, Or.inr rfl, Or.inr rfl, Or.inl rfl, Or.inl rfl, trivial⟩
        refine T_if_eq (pc' := 123) dX7_goOn_49 (by decide) (pf := 52) rfl (fun c12 => ?_) (fun c12 => ?_)
        · skip
          exact T_wk (L' := [(2, 9), (2, g), (0, v2), (0, v3), (0, v4), (3, 0), (3, 0)]) (by have q := HJ11; try simp only [if_pos c12] at q; exact q) ⟨Or.inr rfl, Or.inr rfl, Or.inr rfl, Or.inr rfl, Or.inr rfl, Or.inl rfl, Or.inl rfl, trivial⟩
        · skip
          refine T_aload_n (i := 0) (pc' := 53) dX7_goOn_52 rfl rfl rfl ?_
          refine U_gr (q := 13) (k := 3) (kI := 3) (pc' := 56) dX7_goOn_53 rfl cl7 (by decide) rfl (by decide) flX7_21 rfl rfl rfl (G_at hG 19 rfl) (by decide) rfl ?_
          refine T_iload (i := 4) (pc' := 58) dX7_goOn_56 rfl rfl ?_
          refine T_iload_n (i := 2) (pc' := 59) dX7_goOn_58 rfl rfl rfl ?_
          refine T_callSN (av := [(2, 13), (0, v4), (0, v2)]) (st := []) (d2 := 1) (nc2 := 0) (ns2 := 0) (pc' := 62) dX7_goOn_59 rfl mtX11_put mvX11_put mlX7_75 rfl rfl (Nat.le_of_ble_eq_true rfl) (by decide) ⟨by decide, by decide⟩ rfl (pX11_put (E := E) (h := h) (M := M) (p0 := 13) (np0 := 9) (v1 := v4) (v2 := v2) (by decide) rfl (by decide) hG) (kF (st2 := []) rfl (fun hG13 => ?_))
          refine T_aload_n (i := 0) (pc' := 63) dX7_goOn_62 rfl rfl rfl ?_
          refine U_gr (q := 14) (k := 4) (kI := 4) (pc' := 66) dX7_goOn_63 rfl cl7 (by decide) rfl (by decide) flX7_24 rfl rfl rfl (G_at (gX11_put (h := h) (M := M) (p0 := 13) (np0 := 9) (v1 := v4) (v2 := v2) (by decide) rfl (by decide) hG) 20 rfl) (by decide) rfl ?_
          refine T_iload (i := 4) (pc' := 68) dX7_goOn_66 rfl rfl ?_
          refine T_aload_n (i := 0) (pc' := 69) dX7_goOn_68 rfl rfl rfl ?_
          refine U_gr (q := 10) (k := 0) (kI := 0) (pc' := 72) dX7_goOn_69 rfl cl7 (by decide) rfl (by decide) flX7_9 rfl rfl rfl (G_at (gX11_put (h := h) (M := M) (p0 := 13) (np0 := 9) (v1 := v4) (v2 := v2) (by decide) rfl (by decide) hG) 16 rfl) (by decide) rfl ?_
          refine T_iload (i := 4) (pc' := 74) dX7_goOn_72 rfl rfl ?_
          refine T_sipush (pc' := 77) dX7_goOn_74 rfl (by decide) rfl ?_
          refine T_imul (pc' := 78) dX7_goOn_77 rfl ?_
          refine T_iload_n (i := 2) (pc' := 79) dX7_goOn_78 rfl rfl rfl ?_
          refine T_iadd (pc' := 80) dX7_goOn_79 rfl ?_
          refine T_iconst (pc' := 81) dX7_goOn_80 (by decide) rfl ?_
          refine T_isub (pc' := 82) dX7_goOn_81 rfl ?_
          refine T_callSN (av := [(2, 10), (0, (wr32 ((wr32 ((wr32 (v4 * 201)) + v2)) - 1)))]) (st := [(0, v4), (2, 14)]) (d2 := 1) (nc2 := 0) (ns2 := 0) (pc' := 85) dX7_goOn_82 rfl mtX11_get mvX11_get mlX7_71 rfl rfl (Nat.le_of_ble_eq_true rfl) (by decide) ⟨by decide, by decide⟩ rfl (pX11_get (E := E) (h := h) (M := (fmX11_put M 13 9 v4 v2)) (p0 := 10) (np0 := 1809) (v1 := (wr32 ((wr32 ((wr32 (v4 * 201)) + v2)) - 1))) (by decide) rfl (by decide) (gX11_put (h := h) (M := M) (p0 := 13) (np0 := 9) (v1 := v4) (v2 := v2) (by decide) rfl (by decide) hG)) (kF (st2 := [(0, (fX11_get (fmX11_put M 13 9 v4 v2) 10 1809 (wr32 ((wr32 ((wr32 (v4 * 201)) + v2)) - 1)))), (0, v4), (2, 14)]) rfl (fun hG14 => ?_))
          refine T_callSN (av := [(2, 14), (0, v4), (0, (fX11_get (fmX11_put M 13 9 v4 v2) 10 1809 (wr32 ((wr32 ((wr32 (v4 * 201)) + v2)) - 1))))]) (st := []) (d2 := 1) (nc2 := 0) (ns2 := 0) (pc' := 88) dX7_goOn_85 rfl mtX11_put mvX11_put mlX7_75 rfl rfl (Nat.le_of_ble_eq_true rfl) (by decide) ⟨by decide, by decide⟩ rfl (pX11_put (E := E) (h := h) (M := (fmX11_put M 13 9 v4 v2)) (p0 := 14) (np0 := 9) (v1 := v4) (v2 := (fX11_get (fmX11_put M 13 9 v4 v2) 10 1809 (wr32 ((wr32 ((wr32 (v4 * 201)) + v2)) - 1)))) (by decide) rfl (by decide) (gX11_put (h := h) (M := M) (p0 := 13) (np0 := 9) (v1 := v4) (v2 := v2) (by decide) rfl (by decide) hG)) (kF (st2 := []) rfl (fun hG15 => ?_))
          refine T_aload_n (i := 0) (pc' := 89) dX7_goOn_88 rfl rfl rfl ?_
          refine U_gr (q := 15) (k := 5) (kI := 5) (pc' := 92) dX7_goOn_89 rfl cl7 (by decide) rfl (by decide) flX7_27 rfl rfl rfl (G_at (gX11_put (h := h) (M := (fmX11_put M 13 9 v4 v2)) (p0 := 14) (np0 := 9) (v1 := v4) (v2 := (fX11_get (fmX11_put M 13 9 v4 v2) 10 1809 (wr32 ((wr32 ((wr32 (v4 * 201)) + v2)) - 1)))) (by decide) rfl (by decide) (gX11_put (h := h) (M := M) (p0 := 13) (np0 := 9) (v1 := v4) (v2 := v2) (by decide) rfl (by decide) hG)) 21 rfl) (by decide) rfl ?_
          refine T_iload (i := 4) (pc' := 94) dX7_goOn_92 rfl rfl ?_
          refine T_iload (i := 6) (pc' := 96) dX7_goOn_94 rfl rfl ?_
          refine T_callSN (av := [(2, 15), (0, v4), (0, (fX7_opensBy M g v4 v2 v3))]) (st := []) (d2 := 1) (nc2 := 0) (ns2 := 0) (pc' := 99) dX7_goOn_96 rfl mtX11_put mvX11_put mlX7_75 rfl rfl (Nat.le_of_ble_eq_true rfl) (by decide) ⟨by decide, by decide⟩ rfl (pX11_put (E := E) (h := h) (M := (fmX11_put (fmX11_put M 13 9 v4 v2) 14 9 v4 (fX11_get (fmX11_put M 13 9 v4 v2) 10 1809 (wr32 ((wr32 ((wr32 (v4 * 201)) + v2)) - 1))))) (p0 := 15) (np0 := 9) (v1 := v4) (v2 := (fX7_opensBy M g v4 v2 v3)) (by decide) rfl (by decide) (gX11_put (h := h) (M := (fmX11_put M 13 9 v4 v2)) (p0 := 14) (np0 := 9) (v1 := v4) (v2 := (fX11_get (fmX11_put M 13 9 v4 v2) 10 1809 (wr32 ((wr32 ((wr32 (v4 * 201)) + v2)) - 1)))) (by decide) rfl (by decide) (gX11_put (h := h) (M := M) (p0 := 13) (np0 := 9) (v1 := v4) (v2 := v2) (by decide) rfl (by decide) hG))) (kF (st2 := []) rfl (fun hG16 => ?_))
          refine T_aload_n (i := 0) (pc' := 100) dX7_goOn_99 rfl rfl rfl ?_
          refine T_dup (pc' := 101) dX7_goOn_100 (Nat.ne_of_beq_eq_false rfl) rfl ?_
          refine U_gf (v := (0, ((fmX11_put (fmX11_put (fmX11_put M 13 9 v4 v2) 14 9 v4 (fX11_get (fmX11_put M 13 9 v4 v2) 10 1809 (wr32 ((wr32 ((wr32 (v4 * 201)) + v2)) - 1)))) 15 9 v4 (fX7_opensBy M g v4 v2 v3)) 9 6))) (k := 6) (kI := 6) (pc' := 104) dX7_goOn_101 rfl cl7 (by decide) rfl (by decide) flX7_30 rfl rfl (by decide) rfl rfl ?_
          refine T_iload (i := 5) (pc' := 106) dX7_goOn_104 rfl rfl ?_
          refine T_iconst (pc' := 107) dX7_goOn_106 (by decide) rfl ?_
          refine T_ixor (pc' := 108) dX7_goOn_107 rfl ?_
          refine T_iand (pc' := 109) dX7_goOn_108 rfl ?_
          refine U_pf (y := (m_and ((fmX11_put (fmX11_put (fmX11_put M 13 9 v4 v2) 14 9 v4 (fX11_get (fmX11_put M 13 9 v4 v2) 10 1809 (wr32 ((wr32 ((wr32 (v4 * 201)) + v2)) - 1)))) 15 9 v4 (fX7_opensBy M g v4 v2 v3)) 9 6) (m_xor (m_shl 1 v4) (-1)))) (k := 6) (kI := 6) (pc' := 112) dX7_goOn_109 rfl cl7 (by decide) rfl (by decide) flX7_30 rfl rfl rfl rfl rfl (by decide) (fun z => z) rfl ?_
          refine T_aload_n (i := 0) (pc' := 113) dX7_goOn_112 rfl rfl rfl ?_
          refine T_dup (pc' := 114) dX7_goOn_113 (Nat.ne_of_beq_eq_false rfl) rfl ?_
          refine U_gf (v := (0, ((mset (fmX11_put (fmX11_put (fmX11_put M 13 9 v4 v2) 14 9 v4 (fX11_get (fmX11_put M 13 9 v4 v2) 10 1809 (wr32 ((wr32 ((wr32 (v4 * 201)) + v2)) - 1)))) 15 9 v4 (fX7_opensBy M g v4 v2 v3)) 9 6 (m_and ((fmX11_put (fmX11_put (fmX11_put M 13 9 v4 v2) 14 9 v4 (fX11_get (fmX11_put M 13 9 v4 v2) 10 1809 (wr32 ((wr32 ((wr32 (v4 * 201)) + v2)) - 1)))) 15 9 v4 (fX7_opensBy M g v4 v2 v3)) 9 6) (m_xor (m_shl 1 v4) (-1)))) 9 7))) (k := 7) (kI := 7) (pc' := 117) dX7_goOn_114 rfl cl7 (by decide) rfl (by decide) flX7_34 rfl rfl (by decide) rfl rfl ?_
          refine T_iload (i := 5) (pc' := 119) dX7_goOn_117 rfl rfl ?_
          refine T_ior (pc' := 120) dX7_goOn_119 rfl ?_
          refine U_pf (y := (m_or ((mset (fmX11_put (fmX11_put (fmX11_put M 13 9 v4 v2) 14 9 v4 (fX11_get (fmX11_put M 13 9 v4 v2) 10 1809 (wr32 ((wr32 ((wr32 (v4 * 201)) + v2)) - 1)))) 15 9 v4 (fX7_opensBy M g v4 v2 v3)) 9 6 (m_and ((fmX11_put (fmX11_put (fmX11_put M 13 9 v4 v2) 14 9 v4 (fX11_get (fmX11_put M 13 9 v4 v2) 10 1809 (wr32 ((wr32 ((wr32 (v4 * 201)) + v2)) - 1)))) 15 9 v4 (fX7_opensBy M g v4 v2 v3)) 9 6) (m_xor (m_shl 1 v4) (-1)))) 9 7) (m_shl 1 v4))) (k := 7) (kI := 7) (pc' := 123) dX7_goOn_120 rfl cl7 (by decide) rfl (by decide) flX7_34 rfl rfl rfl rfl rfl (by decide) (fun z => z) rfl ?_
          exact T_wk (L' := [(2, 9), (2, g), (0, v2), (0, v3), (0, v4), (3, 0), (3, 0)]) (by have q := HJ11; try simp only [if_neg c12] at q; exact q) ⟨Or.inr rfl, Or.inr rfl, Or.inr rfl, Or.inr rfl, Or.inr rfl, Or.inl rfl, Or.inl rfl, trivial⟩
def fmX7_goOn (M : Mem) (g : Int) (v2 : Int) : Mem :=
  (lmX7_goOn_8 g ((((M (g + 1) 8)) : Int) - 0).toNat v2 (M 9 7) 0 M)
theorem frX7_goOn {M : Mem} {g : Int} {v2 : Int} {q : Int} (hq0 : q ≠ 9) (hq1 : q ≠ 13) (hq2 : q ≠ 14) (hq3 : q ≠ 15) : (fmX7_goOn M g v2) q = M q := by
  unfold fmX7_goOn
  repeat' (first | rfl | rw [mset_p hq0] | rw [mset_p hq1] | rw [mset_p hq2] | rw [mset_p hq3] | rw [mcpy_p hq0] | rw [mcpy_p hq1] | rw [mcpy_p hq2] | rw [mcpy_p hq3] | (rw [frX11_put] <;> try assumption) | (rw [frlX7_goOn_8] <;> try assumption) | rw [ite_ap] | split)
theorem gX7_goOn {h : Int} {M : Mem} {g : Int} {v2 : Int} (hg : isG g) (hG : G h M) : G h (fmX7_goOn M g v2) := by
  unfold fmX7_goOn
  exact (glX7_goOn_8 hg hG)
set_option maxRecDepth 100000 in
theorem pX7_goOn {E : EV} {h : Int} {M : Mem} {g : Int} {v2 : Int} (hg : isG g) : C2 E miX7_goOn 3 h [(2, 9), (2, g), (0, v2)] M (fun r M' => r = none ∧ M' = (fmX7_goOn M g v2)) := by
  obtain ⟨Q, hQ0⟩ : ∃ Q : Option MV → Mem → Prop, Q = (fun r M' => r = none ∧ M' = (fmX7_goOn M g v2)) := ⟨_, rfl⟩
  rw [← hQ0]
  have hQ : Q none (lmX7_goOn_8 g ((((M (g + 1) 8)) : Int) - 0).toNat v2 (M 9 7) 0 M) := by rw [hQ0]; exact ⟨rfl, rfl⟩
  refine C2_of (L := [(2, 9), (2, g), (0, v2), (3, 0), (3, 0), (3, 0), (3, 0)]) (by decide +kernel) (Nat.le_of_ble_eq_true rfl) rfl (fun hG => ?_)
  refine T_aload_n (i := 0) (pc' := 1) dX7_goOn_0 rfl rfl rfl ?_
  refine U_gf (v := (0, (M 9 7))) (k := 7) (kI := 7) (pc' := 4) dX7_goOn_1 rfl cl7 (by decide) rfl (by decide) flX7_34 rfl rfl (by decide) rfl rfl ?_
  refine T_istore_n (i := 3) (L' := [(2, 9), (2, g), (0, v2), (0, (M 9 7)), (3, 0), (3, 0), (3, 0)]) (pc' := 5) dX7_goOn_4 rfl (by decide) rfl rfl ?_
  refine T_iconst (pc' := 6) dX7_goOn_5 (by decide) rfl ?_
  refine T_istore (i := 4) (L' := [(2, 9), (2, g), (0, v2), (0, (M 9 7)), (0, 0), (3, 0), (3, 0)]) (pc' := 8) dX7_goOn_6 (by decide) rfl rfl ?_
  exact T_wk (qX7_goOn_8 hg _ v2 (M 9 7) 0 _ (by first | decide | omega) rfl hQ hG) ⟨Or.inr rfl, Or.inr rfl, Or.inr rfl, Or.inr rfl, Or.inr rfl, Or.inl rfl, Or.inl rfl, trivial⟩
def lX7_nextStrike_6 (g : Int) : Nat → Int → Int → Mem → Int
  | 0, v2, v3, M => v2
  | k + 1, v2, v3, M => (lX7_nextStrike_6 g k (if (fX11_hasBit (M 9 6) v3) = 0 then v2 else (if (fX11_get M 12 9 v3) < v2 then (fX11_get M 12 9 v3) else v2)) (v3 + 1) M)
set_option maxRecDepth 100000 in
set_option maxHeartbeats 2000000 in
theorem qX7_nextStrike_6 {E : EV} {h : Int} {Q : Option MV → Mem → Prop} {g : Int} (hg : isG g) : ∀ (k : Nat) (v2 v3 : Int) (M : Mem), 0 ≤ v3 → (((M (g + 1) 8)) - v3).toNat = k → Q (some (0, (lX7_nextStrike_6 g k v2 v3 M))) M → G h M → TG E miX7_nextStrike 2 h Q 6 [(2, 9), (2, g), (0, v2), (0, v3)] [] M := by
  intro k
  induction k with
  | zero =>
    intro v2 v3 M hv0 hk hQ hG
    have hQ : Q (some (0, v2)) M := hQ
    refine T_iload_n (i := 3) (pc' := 7) dX7_nextStrike_6 rfl rfl rfl ?_
    refine T_aload_n (i := 1) (pc' := 8) dX7_nextStrike_7 rfl rfl rfl ?_
    refine U_grN (q := (g + 1)) (k := 0) (kI := 0) (pc' := 11) dX7_nextStrike_8 rfl cl1 (pog0 hg) (shg0 hg) (by decide) flX7_46 rfl rfl rfl (grg0_0 hg hG) (pog1 hg) rfl ?_
    refine U_gfN (v := (0, (M (g + 1) 8))) (k := 8) (kI := 8) (pc' := 14) dX7_nextStrike_11 rfl cl4 (pog1 hg) (shg1 hg) (by decide) flX7_52 rfl rfl (by decide) rfl rfl ?_
    refine T_rng (fun _ z9 _ => ?_)
    have hB : r32 (M (g + 1) 8) := (ok_cons.mp z9).1
    unfold r32 at hB
    refine T_icmp_ge (pc' := 47) dX7_nextStrike_14 (by decide) (pf := 17) rfl (fun c1 => ?_) (fun c1 => ?_)
    · skip
      refine T_iload_n (i := 2) (pc' := 48) dX7_nextStrike_47 rfl rfl rfl ?_
      exact T_iret dX7_nextStrike_48 rfl ⟨rfl, hG, hQ⟩
    · exact absurd c1 (by omega)
  | succ k ih =>
    intro v2 v3 M hv0 hk hQ hG
    have hQ : Q (some (0, (lX7_nextStrike_6 g k (if (fX11_hasBit (M 9 6) v3) = 0 then v2 else (if (fX11_get M 12 9 v3) < v2 then (fX11_get M 12 9 v3) else v2)) (v3 + 1) M))) M := hQ
    refine T_iload_n (i := 3) (pc' := 7) dX7_nextStrike_6 rfl rfl rfl ?_
    refine T_aload_n (i := 1) (pc' := 8) dX7_nextStrike_7 rfl rfl rfl ?_
    refine U_grN (q := (g + 1)) (k := 0) (kI := 0) (pc' := 11) dX7_nextStrike_8 rfl cl1 (pog0 hg) (shg0 hg) (by decide) flX7_46 rfl rfl rfl (grg0_0 hg hG) (pog1 hg) rfl ?_
    refine U_gfN (v := (0, (M (g + 1) 8))) (k := 8) (kI := 8) (pc' := 14) dX7_nextStrike_11 rfl cl4 (pog1 hg) (shg1 hg) (by decide) flX7_52 rfl rfl (by decide) rfl rfl ?_
    refine T_rng (fun _ z9 _ => ?_)
    have hB : r32 (M (g + 1) 8) := (ok_cons.mp z9).1
    unfold r32 at hB
    refine T_icmp_ge (pc' := 47) dX7_nextStrike_14 (by decide) (pf := 17) rfl (fun c1 => ?_) (fun c1 => ?_)
    · exact absurd c1 (by omega)
    · skip
      have hw : wr32 (v3 + 1) = v3 + 1 := wr32_id (by unfold r32; omega)
      refine T_aload_n (i := 0) (pc' := 18) dX7_nextStrike_17 rfl rfl rfl ?_
      refine U_gf (v := (0, (M 9 6))) (k := 6) (kI := 6) (pc' := 21) dX7_nextStrike_18 rfl cl7 (by decide) rfl (by decide) flX7_30 rfl rfl (by decide) rfl rfl ?_
      refine T_iload_n (i := 3) (pc' := 22) dX7_nextStrike_21 rfl rfl rfl ?_
      refine T_callSN (av := [(0, (M 9 6)), (0, v3)]) (st := []) (d2 := 1) (nc2 := 0) (ns2 := 0) (pc' := 25) dX7_nextStrike_22 rfl mtX11_hasBit mvX11_hasBit mlX7_122 rfl rfl (Nat.le_of_ble_eq_true rfl) (by decide) ⟨by decide, by decide⟩ rfl (pX11_hasBit (E := E) (h := h) (M := M) (v0 := (M 9 6)) (v1 := v3) hG) (kF (st2 := [(0, (fX11_hasBit (M 9 6) v3))]) rfl (fun hG2 => ?_))
      have HJ3 : T E miX7_nextStrike 2 126 0 0 (fun r S M' => S = S0 ∧ G h M' ∧ Q r M') 41 [(2, 9), (2, g), (0, (if (fX11_hasBit (M 9 6) v3) = 0 then v2 else (if (fX11_get M 12 9 v3) < v2 then (fX11_get M 12 9 v3) else v2))), (0, v3)] [] S0 M 0 0 := by
        refine T_iinc (L' := [(2, 9), (2, g), (0, (if (fX11_hasBit (M 9 6) v3) = 0 then v2 else (if (fX11_get M 12 9 v3) < v2 then (fX11_get M 12 9 v3) else v2))), (0, (wr32 (v3 + 1)))]) (pc' := 44) dX7_nextStrike_41 rfl (by decide) rfl rfl ?_
        refine T_goto (pc' := 6) dX7_nextStrike_44 (by decide) ?_
        rw [hw]
        exact T_wk (ih _ (v3 + 1) _ (by omega) (by omega) hQ hG) ⟨Or.inr rfl, Or.inr rfl, Or.inr rfl, Or.inr rfl, trivial⟩
      refine T_if_eq (pc' := 41) dX7_nextStrike_25 (by decide) (pf := 28) rfl (fun c4 => ?_) (fun c4 => ?_)
      · skip
        exact T_wk (L' := [(2, 9), (2, g), (0, v2), (0, v3)]) (by have q := HJ3; try simp only [if_pos c4] at q; exact q) ⟨Or.inr rfl, Or.inr rfl, Or.inr rfl, Or.inr rfl, trivial⟩
      · skip
        refine T_iload_n (i := 2) (pc' := 29) dX7_nextStrike_28 rfl rfl rfl ?_
        refine T_aload_n (i := 0) (pc' := 30) dX7_nextStrike_29 rfl rfl rfl ?_
        refine U_gr (q := 12) (k := 2) (kI := 2) (pc' := 33) dX7_nextStrike_30 rfl cl7 (by decide) rfl (by decide) flX7_18 rfl rfl rfl (G_at hG 18 rfl) (by decide) rfl ?_
        refine T_iload_n (i := 3) (pc' := 34) dX7_nextStrike_33 rfl rfl rfl ?_
        refine T_callSN (av := [(2, 12), (0, v3)]) (st := [(0, v2)]) (d2 := 1) (nc2 := 0) (ns2 := 0) (pc' := 37) dX7_nextStrike_34 rfl mtX11_get mvX11_get mlX7_71 rfl rfl (Nat.le_of_ble_eq_true rfl) (by decide) ⟨by decide, by decide⟩ rfl (pX11_get (E := E) (h := h) (M := M) (p0 := 12) (np0 := 9) (v1 := v3) (by decide) rfl (by decide) hG) (kF (st2 := [(0, (fX11_get M 12 9 v3)), (0, v2)]) rfl (fun hG5 => ?_))
        refine U_mmin (pc' := 40) dX7_nextStrike_37 rfl mlX7_126 (Nat.le_of_ble_eq_true rfl) (by decide) ⟨by decide, by decide⟩ rfl ?_
        refine T_istore_n (i := 2) (L' := [(2, 9), (2, g), (0, (if (fX11_get M 12 9 v3) < v2 then (fX11_get M 12 9 v3) else v2)), (0, v3)]) (pc' := 41) dX7_nextStrike_40 rfl (by decide) rfl rfl ?_
        exact T_wk (L' := [(2, 9), (2, g), (0, (if (fX11_get M 12 9 v3) < v2 then (fX11_get M 12 9 v3) else v2)), (0, v3)]) (by have q := HJ3; try simp only [if_neg c4] at q; exact q) ⟨Or.inr rfl, Or.inr rfl, Or.inr rfl, Or.inr rfl, trivial⟩
def fX7_nextStrike (M : Mem) (g : Int) : Int :=
  (lX7_nextStrike_6 g ((((M (g + 1) 8)) : Int) - 0).toNat 201 0 M)
set_option maxRecDepth 100000 in
theorem pX7_nextStrike {E : EV} {h : Int} {M : Mem} {g : Int} (hg : isG g) : C2 E miX7_nextStrike 2 h [(2, 9), (2, g)] M (fun r M' => r = some (0, (fX7_nextStrike M g)) ∧ M' = M) := by
  obtain ⟨Q, hQ0⟩ : ∃ Q : Option MV → Mem → Prop, Q = (fun r M' => r = some (0, (fX7_nextStrike M g)) ∧ M' = M) := ⟨_, rfl⟩
  rw [← hQ0]
  have hQ : Q (some (0, (lX7_nextStrike_6 g ((((M (g + 1) 8)) : Int) - 0).toNat 201 0 M))) M := by rw [hQ0]; exact ⟨rfl, rfl⟩
  refine C2_of (L := [(2, 9), (2, g), (3, 0), (3, 0)]) (by decide +kernel) (Nat.le_of_ble_eq_true rfl) rfl (fun hG => ?_)
  refine T_sipush (pc' := 3) dX7_nextStrike_0 rfl (by decide) rfl ?_
  refine T_istore_n (i := 2) (L' := [(2, 9), (2, g), (0, 201), (3, 0)]) (pc' := 4) dX7_nextStrike_3 rfl (by decide) rfl rfl ?_
  refine T_iconst (pc' := 5) dX7_nextStrike_4 (by decide) rfl ?_
  refine T_istore_n (i := 3) (L' := [(2, 9), (2, g), (0, 201), (0, 0)]) (pc' := 6) dX7_nextStrike_5 rfl (by decide) rfl rfl ?_
  exact T_wk (qX7_nextStrike_6 hg _ 201 0 _ (by first | decide | omega) rfl hQ hG) ⟨Or.inr rfl, Or.inr rfl, Or.inr rfl, Or.inr rfl, trivial⟩
def fX3_cellOf (M : Mem) (v1 : Int) (v2 : Int) : Int :=
  (if (fX11_hasBit (M 16 8) v1) = 0 then ((-1) : Int) else (fX11_get M 17 1809 (wr32 ((wr32 (v1 * 201)) + v2))))
set_option maxRecDepth 100000 in
theorem pX3_cellOf {E : EV} {h : Int} {M : Mem} {v1 : Int} {v2 : Int}  : C2 E miX3_cellOf 2 h [(2, 16), (0, v1), (0, v2)] M (fun r M' => r = some (0, (fX3_cellOf M v1 v2)) ∧ M' = M) := by
  obtain ⟨Q, hQ⟩ : ∃ Q : Option MV → Mem → Prop, Q = (fun r M' => r = some (0, (fX3_cellOf M v1 v2)) ∧ M' = M) := ⟨_, rfl⟩
  rw [← hQ]
  refine C2_of (L := [(2, 16), (0, v1), (0, v2)]) (by decide +kernel) (Nat.le_of_ble_eq_true rfl) rfl (fun hG => ?_)
  refine T_aload_n (i := 0) (pc' := 1) dX3_cellOf_0 rfl rfl rfl ?_
  refine U_gf (v := (0, (M 16 8))) (k := 8) (kI := 8) (pc' := 4) dX3_cellOf_1 rfl cl3 (by decide) rfl (by decide) flX3_36 rfl rfl (by decide) rfl rfl ?_
  refine T_iload_n (i := 1) (pc' := 5) dX3_cellOf_4 rfl rfl rfl ?_
  refine T_callSN (av := [(0, (M 16 8)), (0, v1)]) (st := []) (d2 := 1) (nc2 := 0) (ns2 := 0) (pc' := 8) dX3_cellOf_5 rfl mtX11_hasBit mvX11_hasBit mlX3_76 rfl rfl (Nat.le_of_ble_eq_true rfl) (by decide) ⟨by decide, by decide⟩ rfl (pX11_hasBit (E := E) (h := h) (M := M) (v0 := (M 16 8)) (v1 := v1) hG) (kF (st2 := [(0, (fX11_hasBit (M 16 8) v1))]) rfl (fun hG1 => ?_))
  have HJ2 : T E miX3_cellOf 2 126 0 0 (fun r S M' => S = S0 ∧ G h M' ∧ Q r M') 29 [(3, 0), (3, 0), (3, 0)] [(0, (if (fX11_hasBit (M 16 8) v1) = 0 then ((-1) : Int) else (fX11_get M 17 1809 (wr32 ((wr32 (v1 * 201)) + v2)))))] S0 M 0 0 := by
    exact T_iret dX3_cellOf_29 rfl ⟨rfl, hG, (by rw [hQ]; exact ⟨rfl, rfl⟩)⟩
  refine T_if_eq (pc' := 28) dX3_cellOf_8 (by decide) (pf := 11) rfl (fun c3 => ?_) (fun c3 => ?_)
  · skip
    refine T_iconst (pc' := 29) dX3_cellOf_28 (by decide) rfl ?_
    exact T_wk (L' := [(3, 0), (3, 0), (3, 0)]) (by have q := HJ2; try simp only [if_pos c3] at q; exact q) ⟨Or.inl rfl, Or.inl rfl, Or.inl rfl, trivial⟩
  · skip
    refine T_aload_n (i := 0) (pc' := 12) dX3_cellOf_11 rfl rfl rfl ?_
    refine U_gr (q := 17) (k := 0) (kI := 0) (pc' := 15) dX3_cellOf_12 rfl cl3 (by decide) rfl (by decide) flX3_9 rfl rfl rfl (G_at hG 22 rfl) (by decide) rfl ?_
    refine T_iload_n (i := 1) (pc' := 16) dX3_cellOf_15 rfl rfl rfl ?_
    refine T_sipush (pc' := 19) dX3_cellOf_16 rfl (by decide) rfl ?_
    refine T_imul (pc' := 20) dX3_cellOf_19 rfl ?_
    refine T_iload_n (i := 2) (pc' := 21) dX3_cellOf_20 rfl rfl rfl ?_
    refine T_iadd (pc' := 22) dX3_cellOf_21 rfl ?_
    refine T_callSN (av := [(2, 17), (0, (wr32 ((wr32 (v1 * 201)) + v2)))]) (st := []) (d2 := 1) (nc2 := 0) (ns2 := 0) (pc' := 25) dX3_cellOf_22 rfl mtX11_get mvX11_get mlX3_67 rfl rfl (Nat.le_of_ble_eq_true rfl) (by decide) ⟨by decide, by decide⟩ rfl (pX11_get (E := E) (h := h) (M := M) (p0 := 17) (np0 := 1809) (v1 := (wr32 ((wr32 (v1 * 201)) + v2))) (by decide) rfl (by decide) hG) (kF (st2 := [(0, (fX11_get M 17 1809 (wr32 ((wr32 (v1 * 201)) + v2))))]) rfl (fun hG4 => ?_))
    refine T_goto (pc' := 29) dX3_cellOf_25 (by decide) ?_
    exact T_wk (L' := [(3, 0), (3, 0), (3, 0)]) (by have q := HJ2; try simp only [if_neg c3] at q; exact q) ⟨Or.inl rfl, Or.inl rfl, Or.inl rfl, trivial⟩
def fX3_howMany (M : Mem) (v1 : Int) (v2 : Int) : Int :=
  (fX11_get M 18 804 (wr32 ((wr32 (v2 * 201)) + v1)))
set_option maxRecDepth 100000 in
theorem pX3_howMany {E : EV} {h : Int} {M : Mem} {v1 : Int} {v2 : Int}  : C2 E miX3_howMany 2 h [(2, 16), (0, v1), (0, v2)] M (fun r M' => r = some (0, (fX3_howMany M v1 v2)) ∧ M' = M) := by
  obtain ⟨Q, hQ⟩ : ∃ Q : Option MV → Mem → Prop, Q = (fun r M' => r = some (0, (fX3_howMany M v1 v2)) ∧ M' = M) := ⟨_, rfl⟩
  rw [← hQ]
  refine C2_of (L := [(2, 16), (0, v1), (0, v2)]) (by decide +kernel) (Nat.le_of_ble_eq_true rfl) rfl (fun hG => ?_)
  refine T_aload_n (i := 0) (pc' := 1) dX3_howMany_0 rfl rfl rfl ?_
  refine U_gr (q := 18) (k := 1) (kI := 1) (pc' := 4) dX3_howMany_1 rfl cl3 (by decide) rfl (by decide) flX3_15 rfl rfl rfl (G_at hG 23 rfl) (by decide) rfl ?_
  refine T_iload_n (i := 2) (pc' := 5) dX3_howMany_4 rfl rfl rfl ?_
  refine T_sipush (pc' := 8) dX3_howMany_5 rfl (by decide) rfl ?_
  refine T_imul (pc' := 9) dX3_howMany_8 rfl ?_
  refine T_iload_n (i := 1) (pc' := 10) dX3_howMany_9 rfl rfl rfl ?_
  refine T_iadd (pc' := 11) dX3_howMany_10 rfl ?_
  refine T_callSN (av := [(2, 18), (0, (wr32 ((wr32 (v2 * 201)) + v1)))]) (st := []) (d2 := 1) (nc2 := 0) (ns2 := 0) (pc' := 14) dX3_howMany_11 rfl mtX11_get mvX11_get mlX3_67 rfl rfl (Nat.le_of_ble_eq_true rfl) (by decide) ⟨by decide, by decide⟩ rfl (pX11_get (E := E) (h := h) (M := M) (p0 := 18) (np0 := 804) (v1 := (wr32 ((wr32 (v2 * 201)) + v1))) (by decide) rfl (by decide) hG) (kF (st2 := [(0, (fX11_get M 18 804 (wr32 ((wr32 (v2 * 201)) + v1))))]) rfl (fun hG1 => ?_))
  exact T_iret dX3_howMany_14 rfl ⟨rfl, hG, (by rw [hQ]; exact ⟨rfl, rfl⟩)⟩
def lX3_peak_4  : Nat → Int → Int → Mem → Int
  | 0, v1, v2, M => v1
  | k + 1, v1, v2, M => (lX3_peak_4 k (if (fX3_howMany M v2 0) ≤ (fX3_howMany M v1 0) then v1 else v2) (v2 + 1) M)
set_option maxRecDepth 100000 in
set_option maxHeartbeats 2000000 in
theorem qX3_peak_4 {E : EV} {h : Int} {Q : Option MV → Mem → Prop}   : ∀ (k : Nat) (v1 v2 : Int) (M : Mem), 0 ≤ v2 → ((201) - v2).toNat = k → Q (some (0, (lX3_peak_4 k v1 v2 M))) M → G h M → TG E miX3_peak 3 h Q 4 [(2, 16), (0, v1), (0, v2)] [] M := by
  intro k
  induction k with
  | zero =>
    intro v1 v2 M hv0 hk hQ hG
    have hQ : Q (some (0, v1)) M := hQ
    refine T_iload_n (i := 2) (pc' := 5) dX3_peak_4 rfl rfl rfl ?_
    refine T_sipush (pc' := 8) dX3_peak_5 rfl (by decide) rfl ?_
    refine T_rng (fun _ z9 _ => ?_)
    have hB : r32 201 := (ok_cons.mp z9).1
    unfold r32 at hB
    refine T_icmp_ge (pc' := 34) dX3_peak_8 (by decide) (pf := 11) rfl (fun c1 => ?_) (fun c1 => ?_)
    · skip
      refine T_iload_n (i := 1) (pc' := 35) dX3_peak_34 rfl rfl rfl ?_
      exact T_iret dX3_peak_35 rfl ⟨rfl, hG, hQ⟩
    · exact absurd c1 (by omega)
  | succ k ih =>
    intro v1 v2 M hv0 hk hQ hG
    have hQ : Q (some (0, (lX3_peak_4 k (if (fX3_howMany M v2 0) ≤ (fX3_howMany M v1 0) then v1 else v2) (v2 + 1) M))) M := hQ
    refine T_iload_n (i := 2) (pc' := 5) dX3_peak_4 rfl rfl rfl ?_
    refine T_sipush (pc' := 8) dX3_peak_5 rfl (by decide) rfl ?_
    refine T_rng (fun _ z9 _ => ?_)
    have hB : r32 201 := (ok_cons.mp z9).1
    unfold r32 at hB
    refine T_icmp_ge (pc' := 34) dX3_peak_8 (by decide) (pf := 11) rfl (fun c1 => ?_) (fun c1 => ?_)
    · exact absurd c1 (by omega)
    · skip
      have hw : wr32 (v2 + 1) = v2 + 1 := wr32_id (by unfold r32; omega)
      refine T_aload_n (i := 0) (pc' := 12) dX3_peak_11 rfl rfl rfl ?_
      refine T_iload_n (i := 2) (pc' := 13) dX3_peak_12 rfl rfl rfl ?_
      refine T_iconst (pc' := 14) dX3_peak_13 (by decide) rfl ?_
      refine T_callV (av := [(0, v2), (0, 0)]) (st := []) (d2 := 2) (nc2 := 0) (ns2 := 0) (pc' := 17) dX3_peak_14 rfl mtX3_howMany mvX3_howMany mlX3_114 cl3 rfl rfl rfl (Nat.le_of_ble_eq_true rfl) (by decide) ⟨by decide, by decide⟩ rfl (pX3_howMany (E := E) (h := h) (M := M) (v1 := v2) (v2 := 0) hG) (kF (st2 := [(0, (fX3_howMany M v2 0))]) rfl (fun hG2 => ?_))
      refine T_aload_n (i := 0) (pc' := 18) dX3_peak_17 rfl rfl rfl ?_
      refine T_iload_n (i := 1) (pc' := 19) dX3_peak_18 rfl rfl rfl ?_
      refine T_iconst (pc' := 20) dX3_peak_19 (by decide) rfl ?_
      refine T_callV (av := [(0, v1), (0, 0)]) (st := [(0, (fX3_howMany M v2 0))]) (d2 := 2) (nc2 := 0) (ns2 := 0) (pc' := 23) dX3_peak_20 rfl mtX3_howMany mvX3_howMany mlX3_114 cl3 rfl rfl rfl (Nat.le_of_ble_eq_true rfl) (by decide) ⟨by decide, by decide⟩ rfl (pX3_howMany (E := E) (h := h) (M := M) (v1 := v1) (v2 := 0) hG) (kF (st2 := [(0, (fX3_howMany M v1 0)), (0, (fX3_howMany M v2 0))]) rfl (fun hG3 => ?_))
      have HJ4 : T E miX3_peak 3 126 0 0 (fun r S M' => S = S0 ∧ G h M' ∧ Q r M') 28 [(2, 16), (0, (if (fX3_howMany M v2 0) ≤ (fX3_howMany M v1 0) then v1 else v2)), (0, v2)] [] S0 M 0 0 := by
        refine T_iinc (L' := [(2, 16), (0, (if (fX3_howMany M v2 0) ≤ (fX3_howMany M v1 0) then v1 else v2)), (0, (wr32 (v2 + 1)))]) (pc' := 31) dX3_peak_28 rfl (by decide) rfl rfl ?_
        refine T_goto (pc' := 4) dX3_peak_31 (by decide) ?_
        rw [hw]
        exact T_wk (ih _ (v2 + 1) _ (by omega) (by omega) hQ hG) ⟨Or.inr rfl, Or.inr rfl, Or.inr rfl, trivial⟩
      refine T_icmp_le (pc' := 28) dX3_peak_23 (by decide) (pf := 26) rfl (fun c5 => ?_) (fun c5 => ?_)
      · skip
        exact T_wk (L' := [(2, 16), (0, v1), (0, v2)]) (by have q := HJ4; try simp only [if_pos c5] at q; exact q) ⟨Or.inr rfl, Or.inr rfl, Or.inr rfl, trivial⟩
      · skip
        refine T_iload_n (i := 2) (pc' := 27) dX3_peak_26 rfl rfl rfl ?_
        refine T_istore_n (i := 1) (L' := [(2, 16), (0, v2), (0, v2)]) (pc' := 28) dX3_peak_27 rfl (by decide) rfl rfl ?_
        exact T_wk (L' := [(2, 16), (0, v2), (0, v2)]) (by have q := HJ4; try simp only [if_neg c5] at q; exact q) ⟨Or.inr rfl, Or.inr rfl, Or.inr rfl, trivial⟩
def fX3_peak (M : Mem) : Int :=
  (lX3_peak_4 200 0 1 M)
set_option maxRecDepth 100000 in
theorem pX3_peak {E : EV} {h : Int} {M : Mem}   : C2 E miX3_peak 3 h [(2, 16)] M (fun r M' => r = some (0, (fX3_peak M)) ∧ M' = M) := by
  obtain ⟨Q, hQ0⟩ : ∃ Q : Option MV → Mem → Prop, Q = (fun r M' => r = some (0, (fX3_peak M)) ∧ M' = M) := ⟨_, rfl⟩
  rw [← hQ0]
  have hQ : Q (some (0, (lX3_peak_4 200 0 1 M))) M := by rw [hQ0]; exact ⟨rfl, rfl⟩
  refine C2_of (L := [(2, 16), (3, 0), (3, 0)]) (by decide +kernel) (Nat.le_of_ble_eq_true rfl) rfl (fun hG => ?_)
  refine T_iconst (pc' := 1) dX3_peak_0 (by decide) rfl ?_
  refine T_istore_n (i := 1) (L' := [(2, 16), (0, 0), (3, 0)]) (pc' := 2) dX3_peak_1 rfl (by decide) rfl rfl ?_
  refine T_iconst (pc' := 3) dX3_peak_2 (by decide) rfl ?_
  refine T_istore_n (i := 2) (L' := [(2, 16), (0, 0), (0, 1)]) (pc' := 4) dX3_peak_3 rfl (by decide) rfl rfl ?_
  exact T_wk (qX3_peak_4  200 0 1 _ (by first | decide | omega) rfl hQ hG) ⟨Or.inr rfl, Or.inr rfl, Or.inr rfl, trivial⟩
def lX3_firstWith_2  : Nat → Int → Int → Mem → Int
  | 0, v1, v2, M => (-1)
  | k + 1, v1, v2, M => (if (fX3_howMany M v2 0) < v1 then (lX3_firstWith_2 k v1 (v2 + 1) M) else v2)
set_option maxRecDepth 100000 in
set_option maxHeartbeats 2000000 in
theorem qX3_firstWith_2 {E : EV} {h : Int} {Q : Option MV → Mem → Prop}   : ∀ (k : Nat) (v1 v2 : Int) (M : Mem), 0 ≤ v2 → ((201) - v2).toNat = k → Q (some (0, (lX3_firstWith_2 k v1 v2 M))) M → G h M → TG E miX3_firstWith 3 h Q 2 [(2, 16), (0, v1), (0, v2)] [] M := by
  intro k
  induction k with
  | zero =>
    intro v1 v2 M hv0 hk hQ hG
    have hQ : Q (some (0, (-1))) M := hQ
    refine T_iload_n (i := 2) (pc' := 3) dX3_firstWith_2 rfl rfl rfl ?_
    refine T_sipush (pc' := 6) dX3_firstWith_3 rfl (by decide) rfl ?_
    refine T_rng (fun _ z9 _ => ?_)
    have hB : r32 201 := (ok_cons.mp z9).1
    unfold r32 at hB
    refine T_icmp_ge (pc' := 27) dX3_firstWith_6 (by decide) (pf := 9) rfl (fun c1 => ?_) (fun c1 => ?_)
    · skip
      refine T_iconst (pc' := 28) dX3_firstWith_27 (by decide) rfl ?_
      exact T_iret dX3_firstWith_28 rfl ⟨rfl, hG, hQ⟩
    · exact absurd c1 (by omega)
  | succ k ih =>
    intro v1 v2 M hv0 hk hQ hG
    have hQ : Q (some (0, (if (fX3_howMany M v2 0) < v1 then (lX3_firstWith_2 k v1 (v2 + 1) M) else v2))) M := hQ
    refine T_iload_n (i := 2) (pc' := 3) dX3_firstWith_2 rfl rfl rfl ?_
    refine T_sipush (pc' := 6) dX3_firstWith_3 rfl (by decide) rfl ?_
    refine T_rng (fun _ z9 _ => ?_)
    have hB : r32 201 := (ok_cons.mp z9).1
    unfold r32 at hB
    refine T_icmp_ge (pc' := 27) dX3_firstWith_6 (by decide) (pf := 9) rfl (fun c1 => ?_) (fun c1 => ?_)
    · exact absurd c1 (by omega)
    · skip
      have hw : wr32 (v2 + 1) = v2 + 1 := wr32_id (by unfold r32; omega)
      refine T_aload_n (i := 0) (pc' := 10) dX3_firstWith_9 rfl rfl rfl ?_
      refine T_iload_n (i := 2) (pc' := 11) dX3_firstWith_10 rfl rfl rfl ?_
      refine T_iconst (pc' := 12) dX3_firstWith_11 (by decide) rfl ?_
      refine T_callV (av := [(0, v2), (0, 0)]) (st := []) (d2 := 2) (nc2 := 0) (ns2 := 0) (pc' := 15) dX3_firstWith_12 rfl mtX3_howMany mvX3_howMany mlX3_114 cl3 rfl rfl rfl (Nat.le_of_ble_eq_true rfl) (by decide) ⟨by decide, by decide⟩ rfl (pX3_howMany (E := E) (h := h) (M := M) (v1 := v2) (v2 := 0) hG) (kF (st2 := [(0, (fX3_howMany M v2 0))]) rfl (fun hG2 => ?_))
      refine T_iload_n (i := 1) (pc' := 16) dX3_firstWith_15 rfl rfl rfl ?_
      refine T_icmp_lt (pc' := 21) dX3_firstWith_16 (by decide) (pf := 19) rfl (fun c3 => ?_) (fun c3 => ?_)
      · skip
        refine T_iinc (L' := [(2, 16), (0, v1), (0, (wr32 (v2 + 1)))]) (pc' := 24) dX3_firstWith_21 rfl (by decide) rfl rfl ?_
        refine T_goto (pc' := 2) dX3_firstWith_24 (by decide) ?_
        rw [hw]
        exact T_wk (ih _ (v2 + 1) _ (by omega) (by omega) (by have q := hQ; try simp only [if_pos c3] at q; exact q) hG) ⟨Or.inr rfl, Or.inr rfl, Or.inr rfl, trivial⟩
      · skip
        refine T_iload_n (i := 2) (pc' := 20) dX3_firstWith_19 rfl rfl rfl ?_
        exact T_iret dX3_firstWith_20 rfl ⟨rfl, hG, (by have q := hQ; try simp only [if_neg c3] at q; exact q)⟩
def fX3_firstWith (M : Mem) (v1 : Int) : Int :=
  (lX3_firstWith_2 201 v1 0 M)
set_option maxRecDepth 100000 in
theorem pX3_firstWith {E : EV} {h : Int} {M : Mem} {v1 : Int}  : C2 E miX3_firstWith 3 h [(2, 16), (0, v1)] M (fun r M' => r = some (0, (fX3_firstWith M v1)) ∧ M' = M) := by
  obtain ⟨Q, hQ0⟩ : ∃ Q : Option MV → Mem → Prop, Q = (fun r M' => r = some (0, (fX3_firstWith M v1)) ∧ M' = M) := ⟨_, rfl⟩
  rw [← hQ0]
  have hQ : Q (some (0, (lX3_firstWith_2 201 v1 0 M))) M := by rw [hQ0]; exact ⟨rfl, rfl⟩
  refine C2_of (L := [(2, 16), (0, v1), (3, 0)]) (by decide +kernel) (Nat.le_of_ble_eq_true rfl) rfl (fun hG => ?_)
  refine T_iconst (pc' := 1) dX3_firstWith_0 (by decide) rfl ?_
  refine T_istore_n (i := 2) (L' := [(2, 16), (0, v1), (0, 0)]) (pc' := 2) dX3_firstWith_1 rfl (by decide) rfl rfl ?_
  exact T_wk (qX3_firstWith_2  201 v1 0 _ (by first | decide | omega) rfl hQ hG) ⟨Or.inr rfl, Or.inr rfl, Or.inr rfl, trivial⟩
def lX3_openersOf_4  : Nat → Int → Int → Int → Mem → Int
  | 0, v1, v2, v3, M => v2
  | k + 1, v1, v2, v3, M => (lX3_openersOf_4 k v1 (if (fX11_hasBit v1 v3) = 0 then v2 else (if (fX11_get M 19 9 v3) = (-1) then v2 else (wr32 (v2 + 1)))) (v3 + 1) M)
set_option maxRecDepth 100000 in
set_option maxHeartbeats 2000000 in
theorem qX3_openersOf_4 {E : EV} {h : Int} {Q : Option MV → Mem → Prop}   : ∀ (k : Nat) (v1 v2 v3 : Int) (M : Mem), 0 ≤ v3 → ((9) - v3).toNat = k → Q (some (0, (lX3_openersOf_4 k v1 v2 v3 M))) M → G h M → TG E miX3_openersOf 2 h Q 4 [(2, 16), (0, v1), (0, v2), (0, v3)] [] M := by
  intro k
  induction k with
  | zero =>
    intro v1 v2 v3 M hv0 hk hQ hG
    have hQ : Q (some (0, v2)) M := hQ
    refine T_iload_n (i := 3) (pc' := 5) dX3_openersOf_4 rfl rfl rfl ?_
    refine T_bipush (pc' := 7) dX3_openersOf_5 rfl (by decide) rfl ?_
    refine T_rng (fun _ z9 _ => ?_)
    have hB : r32 9 := (ok_cons.mp z9).1
    unfold r32 at hB
    refine T_icmp_ge (pc' := 39) dX3_openersOf_7 (by decide) (pf := 10) rfl (fun c1 => ?_) (fun c1 => ?_)
    · skip
      refine T_iload_n (i := 2) (pc' := 40) dX3_openersOf_39 rfl rfl rfl ?_
      exact T_iret dX3_openersOf_40 rfl ⟨rfl, hG, hQ⟩
    · exact absurd c1 (by omega)
  | succ k ih =>
    intro v1 v2 v3 M hv0 hk hQ hG
    have hQ : Q (some (0, (lX3_openersOf_4 k v1 (if (fX11_hasBit v1 v3) = 0 then v2 else (if (fX11_get M 19 9 v3) = (-1) then v2 else (wr32 (v2 + 1)))) (v3 + 1) M))) M := hQ
    refine T_iload_n (i := 3) (pc' := 5) dX3_openersOf_4 rfl rfl rfl ?_
    refine T_bipush (pc' := 7) dX3_openersOf_5 rfl (by decide) rfl ?_
    refine T_rng (fun _ z9 _ => ?_)
    have hB : r32 9 := (ok_cons.mp z9).1
    unfold r32 at hB
    refine T_icmp_ge (pc' := 39) dX3_openersOf_7 (by decide) (pf := 10) rfl (fun c1 => ?_) (fun c1 => ?_)
    · exact absurd c1 (by omega)
    · skip
      have hw : wr32 (v3 + 1) = v3 + 1 := wr32_id (by unfold r32; omega)
      refine T_iload_n (i := 1) (pc' := 11) dX3_openersOf_10 rfl rfl rfl ?_
      refine T_iload_n (i := 3) (pc' := 12) dX3_openersOf_11 rfl rfl rfl ?_
      refine T_callSN (av := [(0, v1), (0, v3)]) (st := []) (d2 := 1) (nc2 := 0) (ns2 := 0) (pc' := 15) dX3_openersOf_12 rfl mtX11_hasBit mvX11_hasBit mlX3_76 rfl rfl (Nat.le_of_ble_eq_true rfl) (by decide) ⟨by decide, by decide⟩ rfl (pX11_hasBit (E := E) (h := h) (M := M) (v0 := v1) (v1 := v3) hG) (kF (st2 := [(0, (fX11_hasBit v1 v3))]) rfl (fun hG2 => ?_))
      have HJ3 : T E miX3_openersOf 2 126 0 0 (fun r S M' => S = S0 ∧ G h M' ∧ Q r M') 33 [(2, 16), (0, v1), (0, (if (fX11_hasBit v1 v3) = 0 then v2 else (if (fX11_get M 19 9 v3) = (-1) then v2 else (wr32 (v2 + 1))))), (0, v3)] [] S0 M 0 0 := by
        refine T_iinc (L' := [(2, 16), (0, v1), (0, (if (fX11_hasBit v1 v3) = 0 then v2 else (if (fX11_get M 19 9 v3) = (-1) then v2 else (wr32 (v2 + 1))))), (0, (wr32 (v3 + 1)))]) (pc' := 36) dX3_openersOf_33 rfl (by decide) rfl rfl ?_
        refine T_goto (pc' := 4) dX3_openersOf_36 (by decide) ?_
        rw [hw]
        exact T_wk (ih _ _ (v3 + 1) _ (by omega) (by omega) hQ hG) ⟨Or.inr rfl, Or.inr rfl, Or.inr rfl, Or.inr rfl, trivial⟩
      refine T_if_eq (pc' := 33) dX3_openersOf_15 (by decide) (pf := 18) rfl (fun c4 => ?_) (fun c4 => ?_)
      · skip
        exact T_wk (L' := [(2, 16), (0, v1), (0, v2), (0, v3)]) (by have q := HJ3; try simp only [if_pos c4] at q; exact q) ⟨Or.inr rfl, Or.inr rfl, Or.inr rfl, Or.inr rfl, trivial⟩
      · skip
        refine T_aload_n (i := 0) (pc' := 19) dX3_openersOf_18 rfl rfl rfl ?_
        refine U_gr (q := 19) (k := 2) (kI := 2) (pc' := 22) dX3_openersOf_19 rfl cl3 (by decide) rfl (by decide) flX3_18 rfl rfl rfl (G_at hG 24 rfl) (by decide) rfl ?_
        refine T_iload_n (i := 3) (pc' := 23) dX3_openersOf_22 rfl rfl rfl ?_
        refine T_callSN (av := [(2, 19), (0, v3)]) (st := []) (d2 := 1) (nc2 := 0) (ns2 := 0) (pc' := 26) dX3_openersOf_23 rfl mtX11_get mvX11_get mlX3_67 rfl rfl (Nat.le_of_ble_eq_true rfl) (by decide) ⟨by decide, by decide⟩ rfl (pX11_get (E := E) (h := h) (M := M) (p0 := 19) (np0 := 9) (v1 := v3) (by decide) rfl (by decide) hG) (kF (st2 := [(0, (fX11_get M 19 9 v3))]) rfl (fun hG5 => ?_))
        refine T_iconst (pc' := 27) dX3_openersOf_26 (by decide) rfl ?_
        refine T_icmp_eq (pc' := 33) dX3_openersOf_27 (by decide) (pf := 30) rfl (fun c6 => ?_) (fun c6 => ?_)
        · skip
          exact T_wk (L' := [(2, 16), (0, v1), (0, v2), (0, v3)]) (by have q := HJ3; try simp only [if_neg c4] at q; try simp only [if_pos c6] at q; exact q) ⟨Or.inr rfl, Or.inr rfl, Or.inr rfl, Or.inr rfl, trivial⟩
        · skip
          refine T_iinc (L' := [(2, 16), (0, v1), (0, (wr32 (v2 + 1))), (0, v3)]) (pc' := 33) dX3_openersOf_30 rfl (by decide) rfl rfl ?_
          exact T_wk (L' := [(2, 16), (0, v1), (0, (wr32 (v2 + 1))), (0, v3)]) (by have q := HJ3; try simp only [if_neg c4] at q; try simp only [if_neg c6] at q; exact q) ⟨Or.inr rfl, Or.inr rfl, Or.inr rfl, Or.inr rfl, trivial⟩
def fX3_openersOf (M : Mem) (v1 : Int) : Int :=
  (lX3_openersOf_4 9 v1 0 0 M)
set_option maxRecDepth 100000 in
theorem pX3_openersOf {E : EV} {h : Int} {M : Mem} {v1 : Int}  : C2 E miX3_openersOf 2 h [(2, 16), (0, v1)] M (fun r M' => r = some (0, (fX3_openersOf M v1)) ∧ M' = M) := by
  obtain ⟨Q, hQ0⟩ : ∃ Q : Option MV → Mem → Prop, Q = (fun r M' => r = some (0, (fX3_openersOf M v1)) ∧ M' = M) := ⟨_, rfl⟩
  rw [← hQ0]
  have hQ : Q (some (0, (lX3_openersOf_4 9 v1 0 0 M))) M := by rw [hQ0]; exact ⟨rfl, rfl⟩
  refine C2_of (L := [(2, 16), (0, v1), (3, 0), (3, 0)]) (by decide +kernel) (Nat.le_of_ble_eq_true rfl) rfl (fun hG => ?_)
  refine T_iconst (pc' := 1) dX3_openersOf_0 (by decide) rfl ?_
  refine T_istore_n (i := 2) (L' := [(2, 16), (0, v1), (0, 0), (3, 0)]) (pc' := 2) dX3_openersOf_1 rfl (by decide) rfl rfl ?_
  refine T_iconst (pc' := 3) dX3_openersOf_2 (by decide) rfl ?_
  refine T_istore_n (i := 3) (L' := [(2, 16), (0, v1), (0, 0), (0, 0)]) (pc' := 4) dX3_openersOf_3 rfl (by decide) rfl rfl ?_
  exact T_wk (qX3_openersOf_4  9 v1 0 0 _ (by first | decide | omega) rfl hQ hG) ⟨Or.inr rfl, Or.inr rfl, Or.inr rfl, Or.inr rfl, trivial⟩
def lX3_openersAhead_4  : Nat → Int → Int → Int → Mem → Int
  | 0, v1, v2, v3, M => v2
  | k + 1, v1, v2, v3, M => (lX3_openersAhead_4 k v1 (if (fX11_get M 19 9 v3) = (-1) then v2 else (if v1 ≤ (fX11_get M 19 9 v3) then v2 else (wr32 (v2 + 1)))) (v3 + 1) M)
set_option maxRecDepth 100000 in
set_option maxHeartbeats 2000000 in
theorem qX3_openersAhead_4 {E : EV} {h : Int} {Q : Option MV → Mem → Prop}   : ∀ (k : Nat) (v1 v2 v3 : Int) (M : Mem), 0 ≤ v3 → ((9) - v3).toNat = k → Q (some (0, (lX3_openersAhead_4 k v1 v2 v3 M))) M → G h M → TG E miX3_openersAhead 2 h Q 4 [(2, 16), (0, v1), (0, v2), (0, v3)] [] M := by
  intro k
  induction k with
  | zero =>
    intro v1 v2 v3 M hv0 hk hQ hG
    have hQ : Q (some (0, v2)) M := hQ
    refine T_iload_n (i := 3) (pc' := 5) dX3_openersAhead_4 rfl rfl rfl ?_
    refine T_bipush (pc' := 7) dX3_openersAhead_5 rfl (by decide) rfl ?_
    refine T_rng (fun _ z9 _ => ?_)
    have hB : r32 9 := (ok_cons.mp z9).1
    unfold r32 at hB
    refine T_icmp_ge (pc' := 43) dX3_openersAhead_7 (by decide) (pf := 10) rfl (fun c1 => ?_) (fun c1 => ?_)
    · skip
      refine T_iload_n (i := 2) (pc' := 44) dX3_openersAhead_43 rfl rfl rfl ?_
      exact T_iret dX3_openersAhead_44 rfl ⟨rfl, hG, hQ⟩
    · exact absurd c1 (by omega)
  | succ k ih =>
    intro v1 v2 v3 M hv0 hk hQ hG
    have hQ : Q (some (0, (lX3_openersAhead_4 k v1 (if (fX11_get M 19 9 v3) = (-1) then v2 else (if v1 ≤ (fX11_get M 19 9 v3) then v2 else (wr32 (v2 + 1)))) (v3 + 1) M))) M := hQ
    refine T_iload_n (i := 3) (pc' := 5) dX3_openersAhead_4 rfl rfl rfl ?_
    refine T_bipush (pc' := 7) dX3_openersAhead_5 rfl (by decide) rfl ?_
    refine T_rng (fun _ z9 _ => ?_)
    have hB : r32 9 := (ok_cons.mp z9).1
    unfold r32 at hB
    refine T_icmp_ge (pc' := 43) dX3_openersAhead_7 (by decide) (pf := 10) rfl (fun c1 => ?_) (fun c1 => ?_)
    · exact absurd c1 (by omega)
    · skip
      have hw : wr32 (v3 + 1) = v3 + 1 := wr32_id (by unfold r32; omega)
      refine T_aload_n (i := 0) (pc' := 11) dX3_openersAhead_10 rfl rfl rfl ?_
      refine U_gr (q := 19) (k := 2) (kI := 2) (pc' := 14) dX3_openersAhead_11 rfl cl3 (by decide) rfl (by decide) flX3_18 rfl rfl rfl (G_at hG 24 rfl) (by decide) rfl ?_
      refine T_iload_n (i := 3) (pc' := 15) dX3_openersAhead_14 rfl rfl rfl ?_
      refine T_callSN (av := [(2, 19), (0, v3)]) (st := []) (d2 := 1) (nc2 := 0) (ns2 := 0) (pc' := 18) dX3_openersAhead_15 rfl mtX11_get mvX11_get mlX3_67 rfl rfl (Nat.le_of_ble_eq_true rfl) (by decide) ⟨by decide, by decide⟩ rfl (pX11_get (E := E) (h := h) (M := M) (p0 := 19) (np0 := 9) (v1 := v3) (by decide) rfl (by decide) hG) (kF (st2 := [(0, (fX11_get M 19 9 v3))]) rfl (fun hG2 => ?_))
      refine T_iconst (pc' := 19) dX3_openersAhead_18 (by decide) rfl ?_
      have HJ3 : T E miX3_openersAhead 2 126 0 0 (fun r S M' => S = S0 ∧ G h M' ∧ Q r M') 37 [(2, 16), (0, v1), (0, (if (fX11_get M 19 9 v3) = (-1) then v2 else (if v1 ≤ (fX11_get M 19 9 v3) then v2 else (wr32 (v2 + 1))))), (0, v3)] [] S0 M 0 0 := by
        refine T_iinc (L' := [(2, 16), (0, v1), (0, (if (fX11_get M 19 9 v3) = (-1) then v2 else (if v1 ≤ (fX11_get M 19 9 v3) then v2 else (wr32 (v2 + 1))))), (0, (wr32 (v3 + 1)))]) (pc' := 40) dX3_openersAhead_37 rfl (by decide) rfl rfl ?_
        refine T_goto (pc' := 4) dX3_openersAhead_40 (by decide) ?_
        rw [hw]
        exact T_wk (ih _ _ (v3 + 1) _ (by omega) (by omega) hQ hG) ⟨Or.inr rfl, Or.inr rfl, Or.inr rfl, Or.inr rfl, trivial⟩
      refine T_icmp_eq (pc' := 37) dX3_openersAhead_19 (by decide) (pf := 22) rfl (fun c4 => ?_) (fun c4 => ?_)
      · skip
        exact T_wk (L' := [(2, 16), (0, v1), (0, v2), (0, v3)]) (by have q := HJ3; try simp only [if_pos c4] at q; exact q) ⟨Or.inr rfl, Or.inr rfl, Or.inr rfl, Or.inr rfl, trivial⟩
      · skip
        refine T_aload_n (i := 0) (pc' := 23) dX3_openersAhead_22 rfl rfl rfl ?_
        refine U_gr (q := 19) (k := 2) (kI := 2) (pc' := 26) dX3_openersAhead_23 rfl cl3 (by decide) rfl (by decide) flX3_18 rfl rfl rfl (G_at hG 24 rfl) (by decide) rfl ?_
        refine T_iload_n (i := 3) (pc' := 27) dX3_openersAhead_26 rfl rfl rfl ?_
        refine T_callSN (av := [(2, 19), (0, v3)]) (st := []) (d2 := 1) (nc2 := 0) (ns2 := 0) (pc' := 30) dX3_openersAhead_27 rfl mtX11_get mvX11_get mlX3_67 rfl rfl (Nat.le_of_ble_eq_true rfl) (by decide) ⟨by decide, by decide⟩ rfl (pX11_get (E := E) (h := h) (M := M) (p0 := 19) (np0 := 9) (v1 := v3) (by decide) rfl (by decide) hG) (kF (st2 := [(0, (fX11_get M 19 9 v3))]) rfl (fun hG5 => ?_))
        refine T_iload_n (i := 1) (pc' := 31) dX3_openersAhead_30 rfl rfl rfl ?_
        refine T_icmp_ge (pc' := 37) dX3_openersAhead_31 (by decide) (pf := 34) rfl (fun c6 => ?_) (fun c6 => ?_)
        · skip
          exact T_wk (L' := [(2, 16), (0, v1), (0, v2), (0, v3)]) (by have q := HJ3; try simp only [if_neg c4] at q; try simp only [if_pos c6] at q; exact q) ⟨Or.inr rfl, Or.inr rfl, Or.inr rfl, Or.inr rfl, trivial⟩
        · skip
          refine T_iinc (L' := [(2, 16), (0, v1), (0, (wr32 (v2 + 1))), (0, v3)]) (pc' := 37) dX3_openersAhead_34 rfl (by decide) rfl rfl ?_
          exact T_wk (L' := [(2, 16), (0, v1), (0, (wr32 (v2 + 1))), (0, v3)]) (by have q := HJ3; try simp only [if_neg c4] at q; try simp only [if_neg c6] at q; exact q) ⟨Or.inr rfl, Or.inr rfl, Or.inr rfl, Or.inr rfl, trivial⟩
def fX3_openersAhead (M : Mem) (v1 : Int) : Int :=
  (lX3_openersAhead_4 9 v1 0 0 M)
set_option maxRecDepth 100000 in
theorem pX3_openersAhead {E : EV} {h : Int} {M : Mem} {v1 : Int}  : C2 E miX3_openersAhead 2 h [(2, 16), (0, v1)] M (fun r M' => r = some (0, (fX3_openersAhead M v1)) ∧ M' = M) := by
  obtain ⟨Q, hQ0⟩ : ∃ Q : Option MV → Mem → Prop, Q = (fun r M' => r = some (0, (fX3_openersAhead M v1)) ∧ M' = M) := ⟨_, rfl⟩
  rw [← hQ0]
  have hQ : Q (some (0, (lX3_openersAhead_4 9 v1 0 0 M))) M := by rw [hQ0]; exact ⟨rfl, rfl⟩
  refine C2_of (L := [(2, 16), (0, v1), (3, 0), (3, 0)]) (by decide +kernel) (Nat.le_of_ble_eq_true rfl) rfl (fun hG => ?_)
  refine T_iconst (pc' := 1) dX3_openersAhead_0 (by decide) rfl ?_
  refine T_istore_n (i := 2) (L' := [(2, 16), (0, v1), (0, 0), (3, 0)]) (pc' := 2) dX3_openersAhead_1 rfl (by decide) rfl rfl ?_
  refine T_iconst (pc' := 3) dX3_openersAhead_2 (by decide) rfl ?_
  refine T_istore_n (i := 3) (L' := [(2, 16), (0, v1), (0, 0), (0, 0)]) (pc' := 4) dX3_openersAhead_3 rfl (by decide) rfl rfl ?_
  exact T_wk (qX3_openersAhead_4  9 v1 0 0 _ (by first | decide | omega) rfl hQ hG) ⟨Or.inr rfl, Or.inr rfl, Or.inr rfl, Or.inr rfl, trivial⟩
def lX3_lastOut_4  : Nat → Int → Int → Mem → Int
  | 0, v1, v2, M => v1
  | k + 1, v1, v2, M => (lX3_lastOut_4 k (if v1 < (fX11_get M 21 9 v2) then (fX11_get M 21 9 v2) else v1) (v2 + 1) M)
set_option maxRecDepth 100000 in
set_option maxHeartbeats 2000000 in
theorem qX3_lastOut_4 {E : EV} {h : Int} {Q : Option MV → Mem → Prop}   : ∀ (k : Nat) (v1 v2 : Int) (M : Mem), 0 ≤ v2 → ((9) - v2).toNat = k → Q (some (0, (lX3_lastOut_4 k v1 v2 M))) M → G h M → TG E miX3_lastOut 2 h Q 4 [(2, 16), (0, v1), (0, v2)] [] M := by
  intro k
  induction k with
  | zero =>
    intro v1 v2 M hv0 hk hQ hG
    have hQ : Q (some (0, v1)) M := hQ
    refine T_iload_n (i := 2) (pc' := 5) dX3_lastOut_4 rfl rfl rfl ?_
    refine T_bipush (pc' := 7) dX3_lastOut_5 rfl (by decide) rfl ?_
    refine T_rng (fun _ z9 _ => ?_)
    have hB : r32 9 := (ok_cons.mp z9).1
    unfold r32 at hB
    refine T_icmp_ge (pc' := 29) dX3_lastOut_7 (by decide) (pf := 10) rfl (fun c1 => ?_) (fun c1 => ?_)
    · skip
      refine T_iload_n (i := 1) (pc' := 30) dX3_lastOut_29 rfl rfl rfl ?_
      exact T_iret dX3_lastOut_30 rfl ⟨rfl, hG, hQ⟩
    · exact absurd c1 (by omega)
  | succ k ih =>
    intro v1 v2 M hv0 hk hQ hG
    have hQ : Q (some (0, (lX3_lastOut_4 k (if v1 < (fX11_get M 21 9 v2) then (fX11_get M 21 9 v2) else v1) (v2 + 1) M))) M := hQ
    refine T_iload_n (i := 2) (pc' := 5) dX3_lastOut_4 rfl rfl rfl ?_
    refine T_bipush (pc' := 7) dX3_lastOut_5 rfl (by decide) rfl ?_
    refine T_rng (fun _ z9 _ => ?_)
    have hB : r32 9 := (ok_cons.mp z9).1
    unfold r32 at hB
    refine T_icmp_ge (pc' := 29) dX3_lastOut_7 (by decide) (pf := 10) rfl (fun c1 => ?_) (fun c1 => ?_)
    · exact absurd c1 (by omega)
    · skip
      have hw : wr32 (v2 + 1) = v2 + 1 := wr32_id (by unfold r32; omega)
      refine T_iload_n (i := 1) (pc' := 11) dX3_lastOut_10 rfl rfl rfl ?_
      refine T_aload_n (i := 0) (pc' := 12) dX3_lastOut_11 rfl rfl rfl ?_
      refine U_gr (q := 21) (k := 4) (kI := 4) (pc' := 15) dX3_lastOut_12 rfl cl3 (by decide) rfl (by decide) flX3_24 rfl rfl rfl (G_at hG 26 rfl) (by decide) rfl ?_
      refine T_iload_n (i := 2) (pc' := 16) dX3_lastOut_15 rfl rfl rfl ?_
      refine T_callSN (av := [(2, 21), (0, v2)]) (st := [(0, v1)]) (d2 := 1) (nc2 := 0) (ns2 := 0) (pc' := 19) dX3_lastOut_16 rfl mtX11_get mvX11_get mlX3_67 rfl rfl (Nat.le_of_ble_eq_true rfl) (by decide) ⟨by decide, by decide⟩ rfl (pX11_get (E := E) (h := h) (M := M) (p0 := 21) (np0 := 9) (v1 := v2) (by decide) rfl (by decide) hG) (kF (st2 := [(0, (fX11_get M 21 9 v2)), (0, v1)]) rfl (fun hG2 => ?_))
      refine U_mmax (pc' := 22) dX3_lastOut_19 rfl mlX3_117 (Nat.le_of_ble_eq_true rfl) (by decide) ⟨by decide, by decide⟩ rfl ?_
      refine T_istore_n (i := 1) (L' := [(2, 16), (0, (if v1 < (fX11_get M 21 9 v2) then (fX11_get M 21 9 v2) else v1)), (0, v2)]) (pc' := 23) dX3_lastOut_22 rfl (by decide) rfl rfl ?_
      refine T_iinc (L' := [(2, 16), (0, (if v1 < (fX11_get M 21 9 v2) then (fX11_get M 21 9 v2) else v1)), (0, (wr32 (v2 + 1)))]) (pc' := 26) dX3_lastOut_23 rfl (by decide) rfl rfl ?_
      refine T_goto (pc' := 4) dX3_lastOut_26 (by decide) ?_
      rw [hw]
      exact T_wk (ih _ (v2 + 1) _ (by omega) (by omega) hQ hG) ⟨Or.inr rfl, Or.inr rfl, Or.inr rfl, trivial⟩
def fX3_lastOut (M : Mem) : Int :=
  (lX3_lastOut_4 9 (-1) 0 M)
set_option maxRecDepth 100000 in
theorem pX3_lastOut {E : EV} {h : Int} {M : Mem}   : C2 E miX3_lastOut 2 h [(2, 16)] M (fun r M' => r = some (0, (fX3_lastOut M)) ∧ M' = M) := by
  obtain ⟨Q, hQ0⟩ : ∃ Q : Option MV → Mem → Prop, Q = (fun r M' => r = some (0, (fX3_lastOut M)) ∧ M' = M) := ⟨_, rfl⟩
  rw [← hQ0]
  have hQ : Q (some (0, (lX3_lastOut_4 9 (-1) 0 M))) M := by rw [hQ0]; exact ⟨rfl, rfl⟩
  refine C2_of (L := [(2, 16), (3, 0), (3, 0)]) (by decide +kernel) (Nat.le_of_ble_eq_true rfl) rfl (fun hG => ?_)
  refine T_iconst (pc' := 1) dX3_lastOut_0 (by decide) rfl ?_
  refine T_istore_n (i := 1) (L' := [(2, 16), (0, (-1)), (3, 0)]) (pc' := 2) dX3_lastOut_1 rfl (by decide) rfl rfl ?_
  refine T_iconst (pc' := 3) dX3_lastOut_2 (by decide) rfl ?_
  refine T_istore_n (i := 2) (L' := [(2, 16), (0, (-1)), (0, 0)]) (pc' := 4) dX3_lastOut_3 rfl (by decide) rfl rfl ?_
  exact T_wk (qX3_lastOut_4  9 (-1) 0 _ (by first | decide | omega) rfl hQ hG) ⟨Or.inr rfl, Or.inr rfl, Or.inr rfl, trivial⟩
def lX3_outBy_4  : Nat → Int → Int → Int → Mem → Int
  | 0, v1, v2, v3, M => v2
  | k + 1, v1, v2, v3, M => (lX3_outBy_4 k v1 (if (fX11_get M 22 9 v3) = v1 then (wr32 (v2 + 1)) else v2) (v3 + 1) M)
set_option maxRecDepth 100000 in
set_option maxHeartbeats 2000000 in
theorem qX3_outBy_4 {E : EV} {h : Int} {Q : Option MV → Mem → Prop}   : ∀ (k : Nat) (v1 v2 v3 : Int) (M : Mem), 0 ≤ v3 → ((9) - v3).toNat = k → Q (some (0, (lX3_outBy_4 k v1 v2 v3 M))) M → G h M → TG E miX3_outBy 2 h Q 4 [(2, 16), (0, v1), (0, v2), (0, v3)] [] M := by
  intro k
  induction k with
  | zero =>
    intro v1 v2 v3 M hv0 hk hQ hG
    have hQ : Q (some (0, v2)) M := hQ
    refine T_iload_n (i := 3) (pc' := 5) dX3_outBy_4 rfl rfl rfl ?_
    refine T_bipush (pc' := 7) dX3_outBy_5 rfl (by decide) rfl ?_
    refine T_rng (fun _ z9 _ => ?_)
    have hB : r32 9 := (ok_cons.mp z9).1
    unfold r32 at hB
    refine T_icmp_ge (pc' := 31) dX3_outBy_7 (by decide) (pf := 10) rfl (fun c1 => ?_) (fun c1 => ?_)
    · skip
      refine T_iload_n (i := 2) (pc' := 32) dX3_outBy_31 rfl rfl rfl ?_
      exact T_iret dX3_outBy_32 rfl ⟨rfl, hG, hQ⟩
    · exact absurd c1 (by omega)
  | succ k ih =>
    intro v1 v2 v3 M hv0 hk hQ hG
    have hQ : Q (some (0, (lX3_outBy_4 k v1 (if (fX11_get M 22 9 v3) = v1 then (wr32 (v2 + 1)) else v2) (v3 + 1) M))) M := hQ
    refine T_iload_n (i := 3) (pc' := 5) dX3_outBy_4 rfl rfl rfl ?_
    refine T_bipush (pc' := 7) dX3_outBy_5 rfl (by decide) rfl ?_
    refine T_rng (fun _ z9 _ => ?_)
    have hB : r32 9 := (ok_cons.mp z9).1
    unfold r32 at hB
    refine T_icmp_ge (pc' := 31) dX3_outBy_7 (by decide) (pf := 10) rfl (fun c1 => ?_) (fun c1 => ?_)
    · exact absurd c1 (by omega)
    · skip
      have hw : wr32 (v3 + 1) = v3 + 1 := wr32_id (by unfold r32; omega)
      refine T_aload_n (i := 0) (pc' := 11) dX3_outBy_10 rfl rfl rfl ?_
      refine U_gr (q := 22) (k := 5) (kI := 5) (pc' := 14) dX3_outBy_11 rfl cl3 (by decide) rfl (by decide) flX3_27 rfl rfl rfl (G_at hG 27 rfl) (by decide) rfl ?_
      refine T_iload_n (i := 3) (pc' := 15) dX3_outBy_14 rfl rfl rfl ?_
      refine T_callSN (av := [(2, 22), (0, v3)]) (st := []) (d2 := 1) (nc2 := 0) (ns2 := 0) (pc' := 18) dX3_outBy_15 rfl mtX11_get mvX11_get mlX3_67 rfl rfl (Nat.le_of_ble_eq_true rfl) (by decide) ⟨by decide, by decide⟩ rfl (pX11_get (E := E) (h := h) (M := M) (p0 := 22) (np0 := 9) (v1 := v3) (by decide) rfl (by decide) hG) (kF (st2 := [(0, (fX11_get M 22 9 v3))]) rfl (fun hG2 => ?_))
      refine T_iload_n (i := 1) (pc' := 19) dX3_outBy_18 rfl rfl rfl ?_
      have HJ3 : T E miX3_outBy 2 126 0 0 (fun r S M' => S = S0 ∧ G h M' ∧ Q r M') 25 [(2, 16), (0, v1), (0, (if (fX11_get M 22 9 v3) = v1 then (wr32 (v2 + 1)) else v2)), (0, v3)] [] S0 M 0 0 := by
        refine T_iinc (L' := [(2, 16), (0, v1), (0, (if (fX11_get M 22 9 v3) = v1 then (wr32 (v2 + 1)) else v2)), (0, (wr32 (v3 + 1)))]) (pc' := 28) dX3_outBy_25 rfl (by decide) rfl rfl ?_
        refine T_goto (pc' := 4) dX3_outBy_28 (by decide) ?_
        rw [hw]
        exact T_wk (ih _ _ (v3 + 1) _ (by omega) (by omega) hQ hG) ⟨Or.inr rfl, Or.inr rfl, Or.inr rfl, Or.inr rfl, trivial⟩
      refine T_icmp_ne (pc' := 25) dX3_outBy_19 (by decide) (pf := 22) rfl (fun c4 => ?_) (fun c4 => ?_)
      · skip
        exact T_wk (L' := [(2, 16), (0, v1), (0, v2), (0, v3)]) (by have q := HJ3; try simp only [if_neg c4] at q; exact q) ⟨Or.inr rfl, Or.inr rfl, Or.inr rfl, Or.inr rfl, trivial⟩
      · skip
        refine T_iinc (L' := [(2, 16), (0, v1), (0, (wr32 (v2 + 1))), (0, v3)]) (pc' := 25) dX3_outBy_22 rfl (by decide) rfl rfl ?_
        exact T_wk (L' := [(2, 16), (0, v1), (0, (wr32 (v2 + 1))), (0, v3)]) (by have q := HJ3; try simp only [if_pos c4] at q; exact q) ⟨Or.inr rfl, Or.inr rfl, Or.inr rfl, Or.inr rfl, trivial⟩
def fX3_outBy (M : Mem) (v1 : Int) : Int :=
  (lX3_outBy_4 9 v1 0 0 M)
set_option maxRecDepth 100000 in
theorem pX3_outBy {E : EV} {h : Int} {M : Mem} {v1 : Int}  : C2 E miX3_outBy 2 h [(2, 16), (0, v1)] M (fun r M' => r = some (0, (fX3_outBy M v1)) ∧ M' = M) := by
  obtain ⟨Q, hQ0⟩ : ∃ Q : Option MV → Mem → Prop, Q = (fun r M' => r = some (0, (fX3_outBy M v1)) ∧ M' = M) := ⟨_, rfl⟩
  rw [← hQ0]
  have hQ : Q (some (0, (lX3_outBy_4 9 v1 0 0 M))) M := by rw [hQ0]; exact ⟨rfl, rfl⟩
  refine C2_of (L := [(2, 16), (0, v1), (3, 0), (3, 0)]) (by decide +kernel) (Nat.le_of_ble_eq_true rfl) rfl (fun hG => ?_)
  refine T_iconst (pc' := 1) dX3_outBy_0 (by decide) rfl ?_
  refine T_istore_n (i := 2) (L' := [(2, 16), (0, v1), (0, 0), (3, 0)]) (pc' := 2) dX3_outBy_1 rfl (by decide) rfl rfl ?_
  refine T_iconst (pc' := 3) dX3_outBy_2 (by decide) rfl ?_
  refine T_istore_n (i := 3) (L' := [(2, 16), (0, v1), (0, 0), (0, 0)]) (pc' := 4) dX3_outBy_3 rfl (by decide) rfl rfl ?_
  exact T_wk (qX3_outBy_4  9 v1 0 0 _ (by first | decide | omega) rfl hQ hG) ⟨Or.inr rfl, Or.inr rfl, Or.inr rfl, Or.inr rfl, trivial⟩
def lX3_lastOutBy_4  : Nat → Int → Int → Int → Mem → Int
  | 0, v1, v2, v3, M => v2
  | k + 1, v1, v2, v3, M => (lX3_lastOutBy_4 k v1 (if (fX11_get M 22 9 v3) = v1 then (if v2 < (fX11_get M 21 9 v3) then (fX11_get M 21 9 v3) else v2) else v2) (v3 + 1) M)
set_option maxRecDepth 100000 in
set_option maxHeartbeats 2000000 in
theorem qX3_lastOutBy_4 {E : EV} {h : Int} {Q : Option MV → Mem → Prop}   : ∀ (k : Nat) (v1 v2 v3 : Int) (M : Mem), 0 ≤ v3 → ((9) - v3).toNat = k → Q (some (0, (lX3_lastOutBy_4 k v1 v2 v3 M))) M → G h M → TG E miX3_lastOutBy 2 h Q 4 [(2, 16), (0, v1), (0, v2), (0, v3)] [] M := by
  intro k
  induction k with
  | zero =>
    intro v1 v2 v3 M hv0 hk hQ hG
    have hQ : Q (some (0, v2)) M := hQ
    refine T_iload_n (i := 3) (pc' := 5) dX3_lastOutBy_4 rfl rfl rfl ?_
    refine T_bipush (pc' := 7) dX3_lastOutBy_5 rfl (by decide) rfl ?_
    refine T_rng (fun _ z9 _ => ?_)
    have hB : r32 9 := (ok_cons.mp z9).1
    unfold r32 at hB
    refine T_icmp_ge (pc' := 41) dX3_lastOutBy_7 (by decide) (pf := 10) rfl (fun c1 => ?_) (fun c1 => ?_)
    · skip
      refine T_iload_n (i := 2) (pc' := 42) dX3_lastOutBy_41 rfl rfl rfl ?_
      exact T_iret dX3_lastOutBy_42 rfl ⟨rfl, hG, hQ⟩
    · exact absurd c1 (by omega)
  | succ k ih =>
    intro v1 v2 v3 M hv0 hk hQ hG
    have hQ : Q (some (0, (lX3_lastOutBy_4 k v1 (if (fX11_get M 22 9 v3) = v1 then (if v2 < (fX11_get M 21 9 v3) then (fX11_get M 21 9 v3) else v2) else v2) (v3 + 1) M))) M := hQ
    refine T_iload_n (i := 3) (pc' := 5) dX3_lastOutBy_4 rfl rfl rfl ?_
    refine T_bipush (pc' := 7) dX3_lastOutBy_5 rfl (by decide) rfl ?_
    refine T_rng (fun _ z9 _ => ?_)
    have hB : r32 9 := (ok_cons.mp z9).1
    unfold r32 at hB
    refine T_icmp_ge (pc' := 41) dX3_lastOutBy_7 (by decide) (pf := 10) rfl (fun c1 => ?_) (fun c1 => ?_)
    · exact absurd c1 (by omega)
    · skip
      have hw : wr32 (v3 + 1) = v3 + 1 := wr32_id (by unfold r32; omega)
      refine T_aload_n (i := 0) (pc' := 11) dX3_lastOutBy_10 rfl rfl rfl ?_
      refine U_gr (q := 22) (k := 5) (kI := 5) (pc' := 14) dX3_lastOutBy_11 rfl cl3 (by decide) rfl (by decide) flX3_27 rfl rfl rfl (G_at hG 27 rfl) (by decide) rfl ?_
      refine T_iload_n (i := 3) (pc' := 15) dX3_lastOutBy_14 rfl rfl rfl ?_
      refine T_callSN (av := [(2, 22), (0, v3)]) (st := []) (d2 := 1) (nc2 := 0) (ns2 := 0) (pc' := 18) dX3_lastOutBy_15 rfl mtX11_get mvX11_get mlX3_67 rfl rfl (Nat.le_of_ble_eq_true rfl) (by decide) ⟨by decide, by decide⟩ rfl (pX11_get (E := E) (h := h) (M := M) (p0 := 22) (np0 := 9) (v1 := v3) (by decide) rfl (by decide) hG) (kF (st2 := [(0, (fX11_get M 22 9 v3))]) rfl (fun hG2 => ?_))
      refine T_iload_n (i := 1) (pc' := 19) dX3_lastOutBy_18 rfl rfl rfl ?_
      have HJ3 : T E miX3_lastOutBy 2 126 0 0 (fun r S M' => S = S0 ∧ G h M' ∧ Q r M') 35 [(2, 16), (0, v1), (0, (if (fX11_get M 22 9 v3) = v1 then (if v2 < (fX11_get M 21 9 v3) then (fX11_get M 21 9 v3) else v2) else v2)), (0, v3)] [] S0 M 0 0 := by
        refine T_iinc (L' := [(2, 16), (0, v1), (0, (if (fX11_get M 22 9 v3) = v1 then (if v2 < (fX11_get M 21 9 v3) then (fX11_get M 21 9 v3) else v2) else v2)), (0, (wr32 (v3 + 1)))]) (pc' := 38) dX3_lastOutBy_35 rfl (by decide) rfl rfl ?_
        refine T_goto (pc' := 4) dX3_lastOutBy_38 (by decide) ?_
        rw [hw]
        exact T_wk (ih _ _ (v3 + 1) _ (by omega) (by omega) hQ hG) ⟨Or.inr rfl, Or.inr rfl, Or.inr rfl, Or.inr rfl, trivial⟩
      refine T_icmp_ne (pc' := 35) dX3_lastOutBy_19 (by decide) (pf := 22) rfl (fun c4 => ?_) (fun c4 => ?_)
      · skip
        exact T_wk (L' := [(2, 16), (0, v1), (0, v2), (0, v3)]) (by have q := HJ3; try simp only [if_neg c4] at q; exact q) ⟨Or.inr rfl, Or.inr rfl, Or.inr rfl, Or.inr rfl, trivial⟩
      · skip
        refine T_iload_n (i := 2) (pc' := 23) dX3_lastOutBy_22 rfl rfl rfl ?_
        refine T_aload_n (i := 0) (pc' := 24) dX3_lastOutBy_23 rfl rfl rfl ?_
        refine U_gr (q := 21) (k := 4) (kI := 4) (pc' := 27) dX3_lastOutBy_24 rfl cl3 (by decide) rfl (by decide) flX3_24 rfl rfl rfl (G_at hG 26 rfl) (by decide) rfl ?_
        refine T_iload_n (i := 3) (pc' := 28) dX3_lastOutBy_27 rfl rfl rfl ?_
        refine T_callSN (av := [(2, 21), (0, v3)]) (st := [(0, v2)]) (d2 := 1) (nc2 := 0) (ns2 := 0) (pc' := 31) dX3_lastOutBy_28 rfl mtX11_get mvX11_get mlX3_67 rfl rfl (Nat.le_of_ble_eq_true rfl) (by decide) ⟨by decide, by decide⟩ rfl (pX11_get (E := E) (h := h) (M := M) (p0 := 21) (np0 := 9) (v1 := v3) (by decide) rfl (by decide) hG) (kF (st2 := [(0, (fX11_get M 21 9 v3)), (0, v2)]) rfl (fun hG5 => ?_))
        refine U_mmax (pc' := 34) dX3_lastOutBy_31 rfl mlX3_117 (Nat.le_of_ble_eq_true rfl) (by decide) ⟨by decide, by decide⟩ rfl ?_
        refine T_istore_n (i := 2) (L' := [(2, 16), (0, v1), (0, (if v2 < (fX11_get M 21 9 v3) then (fX11_get M 21 9 v3) else v2)), (0, v3)]) (pc' := 35) dX3_lastOutBy_34 rfl (by decide) rfl rfl ?_
        exact T_wk (L' := [(2, 16), (0, v1), (0, (if v2 < (fX11_get M 21 9 v3) then (fX11_get M 21 9 v3) else v2)), (0, v3)]) (by have q := HJ3; try simp only [if_pos c4] at q; exact q) ⟨Or.inr rfl, Or.inr rfl, Or.inr rfl, Or.inr rfl, trivial⟩
def fX3_lastOutBy (M : Mem) (v1 : Int) : Int :=
  (lX3_lastOutBy_4 9 v1 (-1) 0 M)
set_option maxRecDepth 100000 in
theorem pX3_lastOutBy {E : EV} {h : Int} {M : Mem} {v1 : Int}  : C2 E miX3_lastOutBy 2 h [(2, 16), (0, v1)] M (fun r M' => r = some (0, (fX3_lastOutBy M v1)) ∧ M' = M) := by
  obtain ⟨Q, hQ0⟩ : ∃ Q : Option MV → Mem → Prop, Q = (fun r M' => r = some (0, (fX3_lastOutBy M v1)) ∧ M' = M) := ⟨_, rfl⟩
  rw [← hQ0]
  have hQ : Q (some (0, (lX3_lastOutBy_4 9 v1 (-1) 0 M))) M := by rw [hQ0]; exact ⟨rfl, rfl⟩
  refine C2_of (L := [(2, 16), (0, v1), (3, 0), (3, 0)]) (by decide +kernel) (Nat.le_of_ble_eq_true rfl) rfl (fun hG => ?_)
  refine T_iconst (pc' := 1) dX3_lastOutBy_0 (by decide) rfl ?_
  refine T_istore_n (i := 2) (L' := [(2, 16), (0, v1), (0, (-1)), (3, 0)]) (pc' := 2) dX3_lastOutBy_1 rfl (by decide) rfl rfl ?_
  refine T_iconst (pc' := 3) dX3_lastOutBy_2 (by decide) rfl ?_
  refine T_istore_n (i := 3) (L' := [(2, 16), (0, v1), (0, (-1)), (0, 0)]) (pc' := 4) dX3_lastOutBy_3 rfl (by decide) rfl rfl ?_
  exact T_wk (qX3_lastOutBy_4  9 v1 (-1) 0 _ (by first | decide | omega) rfl hQ hG) ⟨Or.inr rfl, Or.inr rfl, Or.inr rfl, Or.inr rfl, trivial⟩
def fX4_has (M : Mem) (g : Int) (v1 : Int) : Int :=
  (if v1 < 0 then (0 : Int) else (if (M (g + 1) 8) ≤ v1 then (0 : Int) else 1))
set_option maxRecDepth 100000 in
theorem pX4_has {E : EV} {h : Int} {M : Mem} {g : Int} {v1 : Int} (hg : isG g) : C2 E miX4_has 1 h [(2, (g + 1)), (0, v1)] M (fun r M' => r = some (0, (fX4_has M g v1)) ∧ M' = M) := by
  obtain ⟨Q, hQ⟩ : ∃ Q : Option MV → Mem → Prop, Q = (fun r M' => r = some (0, (fX4_has M g v1)) ∧ M' = M) := ⟨_, rfl⟩
  rw [← hQ]
  refine C2_of (L := [(2, (g + 1)), (0, v1)]) (by decide +kernel) (Nat.le_of_ble_eq_true rfl) rfl (fun hG => ?_)
  refine T_iload_n (i := 1) (pc' := 1) dX4_has_0 rfl rfl rfl ?_
  have HJ1 : T E miX4_has 1 126 0 0 (fun r S M' => S = S0 ∧ G h M' ∧ Q r M') 17 [(3, 0), (3, 0)] [(0, (if v1 < 0 then (0 : Int) else (if (M (g + 1) 8) ≤ v1 then (0 : Int) else 1)))] S0 M 0 0 := by
    exact T_zret dX4_has_17 rfl (by repeat' (first | apply bi | exact Or.inl rfl | exact Or.inr rfl)) ⟨rfl, hG, (by rw [hQ]; exact ⟨rfl, rfl⟩)⟩
  refine T_if_lt (pc' := 16) dX4_has_1 (by decide) (pf := 4) rfl (fun c2 => ?_) (fun c2 => ?_)
  · skip
    refine T_iconst (pc' := 17) dX4_has_16 (by decide) rfl ?_
    exact T_wk (L' := [(3, 0), (3, 0)]) (by have q := HJ1; try simp only [if_pos c2] at q; exact q) ⟨Or.inl rfl, Or.inl rfl, trivial⟩
  · skip
    refine T_iload_n (i := 1) (pc' := 5) dX4_has_4 rfl rfl rfl ?_
    refine T_aload_n (i := 0) (pc' := 6) dX4_has_5 rfl rfl rfl ?_
    refine U_gf (v := (0, (M (g + 1) 8))) (k := 8) (kI := 8) (pc' := 9) dX4_has_6 rfl cl4 (pog1 hg) (shg1 hg) (by decide) flX4_37 rfl rfl (by decide) rfl rfl ?_
    refine T_icmp_ge (pc' := 16) dX4_has_9 (by decide) (pf := 12) rfl (fun c3 => ?_) (fun c3 => ?_)
    · skip
      refine T_iconst (pc' := 17) dX4_has_16 (by decide) rfl ?_
      exact T_wk (L' := [(3, 0), (3, 0)]) (by have q := HJ1; try simp only [if_neg c2] at q; try simp only [if_pos c3] at q; exact q) ⟨Or.inl rfl, Or.inl rfl, trivial⟩
    · skip
      refine T_iconst (pc' := 13) dX4_has_12 (by decide) rfl ?_
      refine T_goto (pc' := 17) dX4_has_13 (by decide) ?_
      exact T_wk (L' := [(3, 0), (3, 0)]) (by have q := HJ1; try simp only [if_neg c2] at q; try simp only [if_neg c3] at q; exact q) ⟨Or.inl rfl, Or.inl rfl, trivial⟩
theorem fbX4_has (M : Mem) (g : Int) (v1 : Int) : (fX4_has M g v1) = 0 ∨ (fX4_has M g v1) = 1 := by
  unfold fX4_has
  repeat' (first | apply bi | exact Or.inl rfl | exact Or.inr rfl)
def fX4_all (M : Mem) (g : Int) : Int :=
  (wr32 ((m_shl 1 (M (g + 1) 8)) - 1))
set_option maxRecDepth 100000 in
theorem pX4_all {E : EV} {h : Int} {M : Mem} {g : Int} (hg : isG g) : C2 E miX4_all 1 h [(2, (g + 1))] M (fun r M' => r = some (0, (fX4_all M g)) ∧ M' = M) := by
  obtain ⟨Q, hQ⟩ : ∃ Q : Option MV → Mem → Prop, Q = (fun r M' => r = some (0, (fX4_all M g)) ∧ M' = M) := ⟨_, rfl⟩
  rw [← hQ]
  refine C2_of (L := [(2, (g + 1))]) (by decide +kernel) (Nat.le_of_ble_eq_true rfl) rfl (fun hG => ?_)
  refine T_iconst (pc' := 1) dX4_all_0 (by decide) rfl ?_
  refine T_aload_n (i := 0) (pc' := 2) dX4_all_1 rfl rfl rfl ?_
  refine U_gf (v := (0, (M (g + 1) 8))) (k := 8) (kI := 8) (pc' := 5) dX4_all_2 rfl cl4 (pog1 hg) (shg1 hg) (by decide) flX4_37 rfl rfl (by decide) rfl rfl ?_
  refine T_ishl (pc' := 6) dX4_all_5 rfl ?_
  refine T_iconst (pc' := 7) dX4_all_6 (by decide) rfl ?_
  refine T_isub (pc' := 8) dX4_all_7 rfl ?_
  exact T_iret dX4_all_8 rfl ⟨rfl, hG, (by rw [hQ]; exact ⟨rfl, rfl⟩)⟩
def fX4_stepOf (M : Mem) (g : Int) (v1 : Int) (v2 : Int) : Int :=
  (if (fX11_get M (g + 7) 9 v1) ≤ 0 then ((-1) : Int) else (fX11_get M (g + 8) 108 (wr32 ((wr32 (v1 * 12)) + (Int.tmod v2 (fX11_get M (g + 7) 9 v1))))))
set_option maxRecDepth 100000 in
theorem pX4_stepOf {E : EV} {h : Int} {M : Mem} {g : Int} {v1 : Int} {v2 : Int} (hg : isG g) : C2 E miX4_stepOf 2 h [(2, (g + 1)), (0, v1), (0, v2)] M (fun r M' => r = some (0, (fX4_stepOf M g v1 v2)) ∧ M' = M) := by
  obtain ⟨Q, hQ⟩ : ∃ Q : Option MV → Mem → Prop, Q = (fun r M' => r = some (0, (fX4_stepOf M g v1 v2)) ∧ M' = M) := ⟨_, rfl⟩
  rw [← hQ]
  refine C2_of (L := [(2, (g + 1)), (0, v1), (0, v2), (3, 0)]) (by decide +kernel) (Nat.le_of_ble_eq_true rfl) rfl (fun hG => ?_)
  refine T_aload_n (i := 0) (pc' := 1) dX4_stepOf_0 rfl rfl rfl ?_
  refine U_gr (q := (g + 7)) (k := 5) (kI := 5) (pc' := 4) dX4_stepOf_1 rfl cl4 (pog1 hg) (shg1 hg) (by decide) flX4_27 rfl rfl rfl (grg1_5 hg hG) (pog7 hg) rfl ?_
  refine T_iload_n (i := 1) (pc' := 5) dX4_stepOf_4 rfl rfl rfl ?_
  refine T_callSN (av := [(2, (g + 7)), (0, v1)]) (st := []) (d2 := 1) (nc2 := 0) (ns2 := 0) (pc' := 8) dX4_stepOf_5 rfl mtX11_get mvX11_get mlX4_44 rfl rfl (Nat.le_of_ble_eq_true rfl) (by decide) ⟨by decide, by decide⟩ rfl (pX11_get (E := E) (h := h) (M := M) (p0 := (g + 7)) (np0 := 9) (v1 := v1) (pog7 hg) (shg7 hg) (by decide) hG) (kF (st2 := [(0, (fX11_get M (g + 7) 9 v1))]) rfl (fun hG1 => ?_))
  refine T_istore_n (i := 3) (L' := [(2, (g + 1)), (0, v1), (0, v2), (0, (fX11_get M (g + 7) 9 v1))]) (pc' := 9) dX4_stepOf_8 rfl (by decide) rfl rfl ?_
  refine T_iload_n (i := 3) (pc' := 10) dX4_stepOf_9 rfl rfl rfl ?_
  have HJ2 : T E miX4_stepOf 2 126 0 0 (fun r S M' => S = S0 ∧ G h M' ∧ Q r M') 32 [(3, 0), (3, 0), (3, 0), (3, 0)] [(0, (if (fX11_get M (g + 7) 9 v1) ≤ 0 then ((-1) : Int) else (fX11_get M (g + 8) 108 (wr32 ((wr32 (v1 * 12)) + (Int.tmod v2 (fX11_get M (g + 7) 9 v1)))))))] S0 M 0 0 := by
    exact T_iret dX4_stepOf_32 rfl ⟨rfl, hG, (by rw [hQ]; exact ⟨rfl, rfl⟩)⟩
  refine T_if_le (pc' := 31) dX4_stepOf_10 (by decide) (pf := 13) rfl (fun c3 => ?_) (fun c3 => ?_)
  · skip
    refine T_iconst (pc' := 32) dX4_stepOf_31 (by decide) rfl ?_
    exact T_wk (L' := [(3, 0), (3, 0), (3, 0), (3, 0)]) (by have q := HJ2; try simp only [if_pos c3] at q; exact q) ⟨Or.inl rfl, Or.inl rfl, Or.inl rfl, Or.inl rfl, trivial⟩
  · skip
    refine T_aload_n (i := 0) (pc' := 14) dX4_stepOf_13 rfl rfl rfl ?_
    refine U_gr (q := (g + 8)) (k := 6) (kI := 6) (pc' := 17) dX4_stepOf_14 rfl cl4 (pog1 hg) (shg1 hg) (by decide) flX4_30 rfl rfl rfl (grg1_6 hg hG) (pog8 hg) rfl ?_
    refine T_iload_n (i := 1) (pc' := 18) dX4_stepOf_17 rfl rfl rfl ?_
    refine T_bipush (pc' := 20) dX4_stepOf_18 rfl (by decide) rfl ?_
    refine T_imul (pc' := 21) dX4_stepOf_20 rfl ?_
    refine T_iload_n (i := 2) (pc' := 22) dX4_stepOf_21 rfl rfl rfl ?_
    refine T_iload_n (i := 3) (pc' := 23) dX4_stepOf_22 rfl rfl rfl ?_
    refine T_irem (pc' := 24) dX4_stepOf_23 (by omega) rfl ?_
    refine T_iadd (pc' := 25) dX4_stepOf_24 rfl ?_
    refine T_callSN (av := [(2, (g + 8)), (0, (wr32 ((wr32 (v1 * 12)) + (Int.tmod v2 (fX11_get M (g + 7) 9 v1)))))]) (st := []) (d2 := 1) (nc2 := 0) (ns2 := 0) (pc' := 28) dX4_stepOf_25 rfl mtX11_get mvX11_get mlX4_44 rfl rfl (Nat.le_of_ble_eq_true rfl) (by decide) ⟨by decide, by decide⟩ rfl (pX11_get (E := E) (h := h) (M := M) (p0 := (g + 8)) (np0 := 108) (v1 := (wr32 ((wr32 (v1 * 12)) + (Int.tmod v2 (fX11_get M (g + 7) 9 v1))))) (pog8 hg) (shg8 hg) (by decide) hG) (kF (st2 := [(0, (fX11_get M (g + 8) 108 (wr32 ((wr32 (v1 * 12)) + (Int.tmod v2 (fX11_get M (g + 7) 9 v1))))))]) rfl (fun hG4 => ?_))
    refine T_goto (pc' := 32) dX4_stepOf_28 (by decide) ?_
    exact T_wk (L' := [(3, 0), (3, 0), (3, 0), (3, 0)]) (by have q := HJ2; try simp only [if_neg c3] at q; exact q) ⟨Or.inl rfl, Or.inl rfl, Or.inl rfl, Or.inl rfl, trivial⟩
def fmX5_clear (M : Mem) : Mem :=
  (mset M 6 2 0)
theorem gX5_clear {h : Int} {M : Mem}   (hG : G h M) : G h (fmX5_clear M) := by
  unfold fmX5_clear
  exact (G_fld (x := 6) (i := 2) (y := 0) rfl (by decide) (by decide) (by decide) hG)
set_option maxRecDepth 100000 in
theorem pX5_clear {E : EV} {h : Int} {M : Mem}   : C2 E miX5_clear 1 h [(2, 6)] M (fun r M' => r = none ∧ M' = (fmX5_clear M)) := by
  obtain ⟨Q, hQ⟩ : ∃ Q : Option MV → Mem → Prop, Q = (fun r M' => r = none ∧ M' = (fmX5_clear M)) := ⟨_, rfl⟩
  rw [← hQ]
  refine C2_of (L := [(2, 6)]) (by decide +kernel) (Nat.le_of_ble_eq_true rfl) rfl (fun hG => ?_)
  refine T_aload_n (i := 0) (pc' := 1) dX5_clear_0 rfl rfl rfl ?_
  refine T_iconst (pc' := 2) dX5_clear_1 (by decide) rfl ?_
  refine U_pf (y := 0) (k := 2) (kI := 2) (pc' := 5) dX5_clear_2 rfl cl5 (by decide) rfl (by decide) flX5_18 rfl rfl rfl rfl rfl (by decide) (fun z => z) rfl ?_
  exact T_vret dX5_clear_5 rfl ⟨rfl, (G_fld (x := 6) (i := 2) (y := 0) rfl (by decide) (by decide) (by decide) hG), (by rw [hQ]; exact ⟨rfl, rfl⟩)⟩
theorem frX5_clear {M : Mem}  {q : Int} (hq0 : q ≠ 6) : (fmX5_clear M) q = M q := by
  unfold fmX5_clear
  repeat' (first | rfl | rw [mset_p hq0] | rw [mcpy_p hq0] | rw [ite_ap] | split)
def fmX5_add (M : Mem) (v1 : Int) (v2 : Int) : Mem :=
  (mset (fmX11_put M 7 1600 (M 6 2) (wr32 ((wr32 (v1 * 10000)) + v2))) 6 2 (wr32 (((fmX11_put M 7 1600 (M 6 2) (wr32 ((wr32 (v1 * 10000)) + v2))) 6 2) + 1)))
theorem gX5_add {h : Int} {M : Mem} {v1 : Int} {v2 : Int}  (hG : G h M) : G h (fmX5_add M v1 v2) := by
  unfold fmX5_add
  exact (G_fld (x := 6) (i := 2) (y := (wr32 (((fmX11_put M 7 1600 (M 6 2) (wr32 ((wr32 (v1 * 10000)) + v2))) 6 2) + 1))) rfl (by decide) (by decide) (by decide) (gX11_put (h := h) (M := M) (p0 := 7) (np0 := 1600) (v1 := (M 6 2)) (v2 := (wr32 ((wr32 (v1 * 10000)) + v2))) (by decide) rfl (by decide) hG))
set_option maxRecDepth 100000 in
theorem pX5_add {E : EV} {h : Int} {M : Mem} {v1 : Int} {v2 : Int}  : C2 E miX5_add 2 h [(2, 6), (0, v1), (0, v2)] M (fun r M' => r = none ∧ M' = (fmX5_add M v1 v2)) := by
  obtain ⟨Q, hQ⟩ : ∃ Q : Option MV → Mem → Prop, Q = (fun r M' => r = none ∧ M' = (fmX5_add M v1 v2)) := ⟨_, rfl⟩
  rw [← hQ]
  refine C2_of (L := [(2, 6), (0, v1), (0, v2)]) (by decide +kernel) (Nat.le_of_ble_eq_true rfl) rfl (fun hG => ?_)
  refine T_aload_n (i := 0) (pc' := 1) dX5_add_0 rfl rfl rfl ?_
  refine U_gr (q := 7) (k := 0) (kI := 0) (pc' := 4) dX5_add_1 rfl cl5 (by decide) rfl (by decide) flX5_9 rfl rfl rfl (G_at hG 14 rfl) (by decide) rfl ?_
  refine T_aload_n (i := 0) (pc' := 5) dX5_add_4 rfl rfl rfl ?_
  refine U_gf (v := (0, (M 6 2))) (k := 2) (kI := 2) (pc' := 8) dX5_add_5 rfl cl5 (by decide) rfl (by decide) flX5_18 rfl rfl (by decide) rfl rfl ?_
  refine T_iload_n (i := 1) (pc' := 9) dX5_add_8 rfl rfl rfl ?_
  refine T_sipush (pc' := 12) dX5_add_9 rfl (by decide) rfl ?_
  refine T_imul (pc' := 13) dX5_add_12 rfl ?_
  refine T_iload_n (i := 2) (pc' := 14) dX5_add_13 rfl rfl rfl ?_
  refine T_iadd (pc' := 15) dX5_add_14 rfl ?_
  refine T_callSN (av := [(2, 7), (0, (M 6 2)), (0, (wr32 ((wr32 (v1 * 10000)) + v2)))]) (st := []) (d2 := 1) (nc2 := 0) (ns2 := 0) (pc' := 18) dX5_add_15 rfl mtX11_put mvX11_put mlX5_25 rfl rfl (Nat.le_of_ble_eq_true rfl) (by decide) ⟨by decide, by decide⟩ rfl (pX11_put (E := E) (h := h) (M := M) (p0 := 7) (np0 := 1600) (v1 := (M 6 2)) (v2 := (wr32 ((wr32 (v1 * 10000)) + v2))) (by decide) rfl (by decide) hG) (kF (st2 := []) rfl (fun hG1 => ?_))
  refine T_aload_n (i := 0) (pc' := 19) dX5_add_18 rfl rfl rfl ?_
  refine T_dup (pc' := 20) dX5_add_19 (Nat.ne_of_beq_eq_false rfl) rfl ?_
  refine U_gf (v := (0, ((fmX11_put M 7 1600 (M 6 2) (wr32 ((wr32 (v1 * 10000)) + v2))) 6 2))) (k := 2) (kI := 2) (pc' := 23) dX5_add_20 rfl cl5 (by decide) rfl (by decide) flX5_18 rfl rfl (by decide) rfl rfl ?_
  refine T_iconst (pc' := 24) dX5_add_23 (by decide) rfl ?_
  refine T_iadd (pc' := 25) dX5_add_24 rfl ?_
  refine U_pf (y := (wr32 (((fmX11_put M 7 1600 (M 6 2) (wr32 ((wr32 (v1 * 10000)) + v2))) 6 2) + 1))) (k := 2) (kI := 2) (pc' := 28) dX5_add_25 rfl cl5 (by decide) rfl (by decide) flX5_18 rfl rfl rfl rfl rfl (by decide) (fun z => z) rfl ?_
  exact T_vret dX5_add_28 rfl ⟨rfl, (G_fld (x := 6) (i := 2) (y := (wr32 (((fmX11_put M 7 1600 (M 6 2) (wr32 ((wr32 (v1 * 10000)) + v2))) 6 2) + 1))) rfl (by decide) (by decide) (by decide) (gX11_put (h := h) (M := M) (p0 := 7) (np0 := 1600) (v1 := (M 6 2)) (v2 := (wr32 ((wr32 (v1 * 10000)) + v2))) (by decide) rfl (by decide) hG)), (by rw [hQ]; exact ⟨rfl, rfl⟩)⟩
theorem frX5_add {M : Mem} {v1 : Int} {v2 : Int}  {q : Int} (hq0 : q ≠ 7) (hq1 : q ≠ 6) : (fmX5_add M v1 v2) q = M q := by
  unfold fmX5_add
  repeat' (first | rfl | rw [mset_p hq0] | rw [mset_p hq1] | rw [mcpy_p hq0] | rw [mcpy_p hq1] | (rw [frX11_put] <;> try assumption) | rw [ite_ap] | split)
def fmX5_push (M : Mem) (v1 : Int) : Mem :=
  (mset (fmX11_put M 8 64 (M 6 3) v1) 6 3 (wr32 (((fmX11_put M 8 64 (M 6 3) v1) 6 3) + 1)))
theorem gX5_push {h : Int} {M : Mem} {v1 : Int}  (hG : G h M) : G h (fmX5_push M v1) := by
  unfold fmX5_push
  exact (G_fld (x := 6) (i := 3) (y := (wr32 (((fmX11_put M 8 64 (M 6 3) v1) 6 3) + 1))) rfl (by decide) (by decide) (by decide) (gX11_put (h := h) (M := M) (p0 := 8) (np0 := 64) (v1 := (M 6 3)) (v2 := v1) (by decide) rfl (by decide) hG))
set_option maxRecDepth 100000 in
theorem pX5_push {E : EV} {h : Int} {M : Mem} {v1 : Int}  : C2 E miX5_push 2 h [(2, 6), (0, v1)] M (fun r M' => r = none ∧ M' = (fmX5_push M v1)) := by
  obtain ⟨Q, hQ⟩ : ∃ Q : Option MV → Mem → Prop, Q = (fun r M' => r = none ∧ M' = (fmX5_push M v1)) := ⟨_, rfl⟩
  rw [← hQ]
  refine C2_of (L := [(2, 6), (0, v1)]) (by decide +kernel) (Nat.le_of_ble_eq_true rfl) rfl (fun hG => ?_)
  refine T_aload_n (i := 0) (pc' := 1) dX5_push_0 rfl rfl rfl ?_
  refine U_gr (q := 8) (k := 1) (kI := 1) (pc' := 4) dX5_push_1 rfl cl5 (by decide) rfl (by decide) flX5_15 rfl rfl rfl (G_at hG 15 rfl) (by decide) rfl ?_
  refine T_aload_n (i := 0) (pc' := 5) dX5_push_4 rfl rfl rfl ?_
  refine U_gf (v := (0, (M 6 3))) (k := 3) (kI := 3) (pc' := 8) dX5_push_5 rfl cl5 (by decide) rfl (by decide) flX5_22 rfl rfl (by decide) rfl rfl ?_
  refine T_iload_n (i := 1) (pc' := 9) dX5_push_8 rfl rfl rfl ?_
  refine T_callSN (av := [(2, 8), (0, (M 6 3)), (0, v1)]) (st := []) (d2 := 1) (nc2 := 0) (ns2 := 0) (pc' := 12) dX5_push_9 rfl mtX11_put mvX11_put mlX5_25 rfl rfl (Nat.le_of_ble_eq_true rfl) (by decide) ⟨by decide, by decide⟩ rfl (pX11_put (E := E) (h := h) (M := M) (p0 := 8) (np0 := 64) (v1 := (M 6 3)) (v2 := v1) (by decide) rfl (by decide) hG) (kF (st2 := []) rfl (fun hG1 => ?_))
  refine T_aload_n (i := 0) (pc' := 13) dX5_push_12 rfl rfl rfl ?_
  refine T_dup (pc' := 14) dX5_push_13 (Nat.ne_of_beq_eq_false rfl) rfl ?_
  refine U_gf (v := (0, ((fmX11_put M 8 64 (M 6 3) v1) 6 3))) (k := 3) (kI := 3) (pc' := 17) dX5_push_14 rfl cl5 (by decide) rfl (by decide) flX5_22 rfl rfl (by decide) rfl rfl ?_
  refine T_iconst (pc' := 18) dX5_push_17 (by decide) rfl ?_
  refine T_iadd (pc' := 19) dX5_push_18 rfl ?_
  refine U_pf (y := (wr32 (((fmX11_put M 8 64 (M 6 3) v1) 6 3) + 1))) (k := 3) (kI := 3) (pc' := 22) dX5_push_19 rfl cl5 (by decide) rfl (by decide) flX5_22 rfl rfl rfl rfl rfl (by decide) (fun z => z) rfl ?_
  exact T_vret dX5_push_22 rfl ⟨rfl, (G_fld (x := 6) (i := 3) (y := (wr32 (((fmX11_put M 8 64 (M 6 3) v1) 6 3) + 1))) rfl (by decide) (by decide) (by decide) (gX11_put (h := h) (M := M) (p0 := 8) (np0 := 64) (v1 := (M 6 3)) (v2 := v1) (by decide) rfl (by decide) hG)), (by rw [hQ]; exact ⟨rfl, rfl⟩)⟩
theorem frX5_push {M : Mem} {v1 : Int}  {q : Int} (hq0 : q ≠ 8) (hq1 : q ≠ 6) : (fmX5_push M v1) q = M q := by
  unfold fmX5_push
  repeat' (first | rfl | rw [mset_p hq0] | rw [mset_p hq1] | rw [mcpy_p hq0] | rw [mcpy_p hq1] | (rw [frX11_put] <;> try assumption) | rw [ite_ap] | split)
def fX5_pop (M : Mem) : Int :=
  (fX11_get (mset M 6 3 (wr32 ((M 6 3) - 1))) 8 64 ((mset M 6 3 (wr32 ((M 6 3) - 1))) 6 3))
def fmX5_pop (M : Mem) : Mem :=
  (mset M 6 3 (wr32 ((M 6 3) - 1)))
theorem gX5_pop {h : Int} {M : Mem}   (hG : G h M) : G h (fmX5_pop M) := by
  unfold fmX5_pop
  exact (G_fld (x := 6) (i := 3) (y := (wr32 ((M 6 3) - 1))) rfl (by decide) (by decide) (by decide) hG)
set_option maxRecDepth 100000 in
theorem pX5_pop {E : EV} {h : Int} {M : Mem}   : C2 E miX5_pop 2 h [(2, 6)] M (fun r M' => r = some (0, (fX5_pop M)) ∧ M' = (fmX5_pop M)) := by
  obtain ⟨Q, hQ⟩ : ∃ Q : Option MV → Mem → Prop, Q = (fun r M' => r = some (0, (fX5_pop M)) ∧ M' = (fmX5_pop M)) := ⟨_, rfl⟩
  rw [← hQ]
  refine C2_of (L := [(2, 6)]) (by decide +kernel) (Nat.le_of_ble_eq_true rfl) rfl (fun hG => ?_)
  refine T_aload_n (i := 0) (pc' := 1) dX5_pop_0 rfl rfl rfl ?_
  refine T_dup (pc' := 2) dX5_pop_1 (Nat.ne_of_beq_eq_false rfl) rfl ?_
  refine U_gf (v := (0, (M 6 3))) (k := 3) (kI := 3) (pc' := 5) dX5_pop_2 rfl cl5 (by decide) rfl (by decide) flX5_22 rfl rfl (by decide) rfl rfl ?_
  refine T_iconst (pc' := 6) dX5_pop_5 (by decide) rfl ?_
  refine T_isub (pc' := 7) dX5_pop_6 rfl ?_
  refine U_pf (y := (wr32 ((M 6 3) - 1))) (k := 3) (kI := 3) (pc' := 10) dX5_pop_7 rfl cl5 (by decide) rfl (by decide) flX5_22 rfl rfl rfl rfl rfl (by decide) (fun z => z) rfl ?_
  refine T_aload_n (i := 0) (pc' := 11) dX5_pop_10 rfl rfl rfl ?_
  refine U_gr (q := 8) (k := 1) (kI := 1) (pc' := 14) dX5_pop_11 rfl cl5 (by decide) rfl (by decide) flX5_15 rfl rfl rfl (G_at (G_fld (x := 6) (i := 3) (y := (wr32 ((M 6 3) - 1))) rfl (by decide) (by decide) (by decide) hG) 15 rfl) (by decide) rfl ?_
  refine T_aload_n (i := 0) (pc' := 15) dX5_pop_14 rfl rfl rfl ?_
  refine U_gf (v := (0, ((mset M 6 3 (wr32 ((M 6 3) - 1))) 6 3))) (k := 3) (kI := 3) (pc' := 18) dX5_pop_15 rfl cl5 (by decide) rfl (by decide) flX5_22 rfl rfl (by decide) rfl rfl ?_
  refine T_callSN (av := [(2, 8), (0, ((mset M 6 3 (wr32 ((M 6 3) - 1))) 6 3))]) (st := []) (d2 := 1) (nc2 := 0) (ns2 := 0) (pc' := 21) dX5_pop_18 rfl mtX11_get mvX11_get mlX5_29 rfl rfl (Nat.le_of_ble_eq_true rfl) (by decide) ⟨by decide, by decide⟩ rfl (pX11_get (E := E) (h := h) (M := (mset M 6 3 (wr32 ((M 6 3) - 1)))) (p0 := 8) (np0 := 64) (v1 := ((mset M 6 3 (wr32 ((M 6 3) - 1))) 6 3)) (by decide) rfl (by decide) (G_fld (x := 6) (i := 3) (y := (wr32 ((M 6 3) - 1))) rfl (by decide) (by decide) (by decide) hG)) (kF (st2 := [(0, (fX11_get (mset M 6 3 (wr32 ((M 6 3) - 1))) 8 64 ((mset M 6 3 (wr32 ((M 6 3) - 1))) 6 3)))]) rfl (fun hG1 => ?_))
  exact T_iret dX5_pop_21 rfl ⟨rfl, (G_fld (x := 6) (i := 3) (y := (wr32 ((M 6 3) - 1))) rfl (by decide) (by decide) (by decide) hG), (by rw [hQ]; exact ⟨rfl, rfl⟩)⟩
theorem frX5_pop {M : Mem}  {q : Int} (hq0 : q ≠ 6) : (fmX5_pop M) q = M q := by
  unfold fmX5_pop
  repeat' (first | rfl | rw [mset_p hq0] | rw [mcpy_p hq0] | rw [ite_ap] | split)
def fX5_ofOne (M : Mem) (v1 : Int) (v2 : Int) (v3 : Int) : Int :=
  (if v2 = 19 then (if v3 = 0 then (1 : Int) else 0) else (if v2 = 7 then (fX3_doingOf M v3 v1) else (if (fX3_cellOf M v3 v1) = (-1) then (99 : Int) else (fX3_cellOf M v3 v1))))
set_option maxRecDepth 100000 in
theorem pX5_ofOne {E : EV} {h : Int} {M : Mem} {v1 : Int} {v2 : Int} {v3 : Int}  : C2 E miX5_ofOne 3 h [(2, 16), (0, v1), (0, v2), (0, v3)] M (fun r M' => r = some (0, (fX5_ofOne M v1 v2 v3)) ∧ M' = M) := by
  obtain ⟨Q, hQ⟩ : ∃ Q : Option MV → Mem → Prop, Q = (fun r M' => r = some (0, (fX5_ofOne M v1 v2 v3)) ∧ M' = M) := ⟨_, rfl⟩
  rw [← hQ]
  refine C2_of (L := [(2, 16), (0, v1), (0, v2), (0, v3), (3, 0)]) (by decide +kernel) (Nat.le_of_ble_eq_true rfl) rfl (fun hG => ?_)
  refine T_iload_n (i := 2) (pc' := 1) dX5_ofOne_0 rfl rfl rfl ?_
  refine T_bipush (pc' := 3) dX5_ofOne_1 rfl (by decide) rfl ?_
  refine T_icmp_ne (pc' := 16) dX5_ofOne_3 (by decide) (pf := 6) rfl (fun c1 => ?_) (fun c1 => ?_)
  · skip
    refine T_iload_n (i := 2) (pc' := 17) dX5_ofOne_16 rfl rfl rfl ?_
    refine T_bipush (pc' := 19) dX5_ofOne_17 rfl (by decide) rfl ?_
    refine T_icmp_ne (pc' := 29) dX5_ofOne_19 (by decide) (pf := 22) rfl (fun c2 => ?_) (fun c2 => ?_)
    · skip
      refine T_aload_n (i := 0) (pc' := 30) dX5_ofOne_29 rfl rfl rfl ?_
      refine T_iload_n (i := 3) (pc' := 31) dX5_ofOne_30 rfl rfl rfl ?_
      refine T_iload_n (i := 1) (pc' := 32) dX5_ofOne_31 rfl rfl rfl ?_
      refine T_callV (av := [(0, v3), (0, v1)]) (st := []) (d2 := 2) (nc2 := 0) (ns2 := 0) (pc' := 35) dX5_ofOne_32 rfl mtX3_cellOf mvX3_cellOf mlX5_65 cl3 rfl rfl rfl (Nat.le_of_ble_eq_true rfl) (by decide) ⟨by decide, by decide⟩ rfl (pX3_cellOf (E := E) (h := h) (M := M) (v1 := v3) (v2 := v1) hG) (kF (st2 := [(0, (fX3_cellOf M v3 v1))]) rfl (fun hG3 => ?_))
      refine T_istore (i := 4) (L' := [(2, 16), (0, v1), (0, v2), (0, v3), (0, (fX3_cellOf M v3 v1))]) (pc' := 37) dX5_ofOne_35 (by decide) rfl rfl ?_
      refine T_iload (i := 4) (pc' := 39) dX5_ofOne_37 rfl rfl ?_
      refine T_iconst (pc' := 40) dX5_ofOne_39 (by decide) rfl ?_
      have HJ4 : T E miX5_ofOne 3 126 0 0 (fun r S M' => S = S0 ∧ G h M' ∧ Q r M') 50 [(3, 0), (3, 0), (3, 0), (3, 0), (3, 0)] [(0, (if (fX3_cellOf M v3 v1) = (-1) then (99 : Int) else (fX3_cellOf M v3 v1)))] S0 M 0 0 := by
        exact T_iret dX5_ofOne_50 rfl ⟨rfl, hG, (by rw [hQ]; exact ⟨(by unfold fX5_ofOne; simp only [if_neg c1, if_neg c2]), rfl⟩)⟩
      refine T_icmp_ne (pc' := 48) dX5_ofOne_40 (by decide) (pf := 43) rfl (fun c5 => ?_) (fun c5 => ?_)
      · skip
        refine T_iload (i := 4) (pc' := 50) dX5_ofOne_48 rfl rfl ?_
        exact T_wk (L' := [(3, 0), (3, 0), (3, 0), (3, 0), (3, 0)]) (by have q := HJ4; try simp only [if_neg c5] at q; exact q) ⟨Or.inl rfl, Or.inl rfl, Or.inl rfl, Or.inl rfl, Or.inl rfl, trivial⟩
      · skip
        refine T_bipush (pc' := 45) dX5_ofOne_43 rfl (by decide) rfl ?_
        refine T_goto (pc' := 50) dX5_ofOne_45 (by decide) ?_
        exact T_wk (L' := [(3, 0), (3, 0), (3, 0), (3, 0), (3, 0)]) (by have q := HJ4; try simp only [if_pos c5] at q; exact q) ⟨Or.inl rfl, Or.inl rfl, Or.inl rfl, Or.inl rfl, Or.inl rfl, trivial⟩
    · skip
      refine T_aload_n (i := 0) (pc' := 23) dX5_ofOne_22 rfl rfl rfl ?_
      refine T_iload_n (i := 3) (pc' := 24) dX5_ofOne_23 rfl rfl rfl ?_
      refine T_iload_n (i := 1) (pc' := 25) dX5_ofOne_24 rfl rfl rfl ?_
      refine T_callV (av := [(0, v3), (0, v1)]) (st := []) (d2 := 2) (nc2 := 0) (ns2 := 0) (pc' := 28) dX5_ofOne_25 rfl mtX3_doingOf mvX3_doingOf mlX5_62 cl3 rfl rfl rfl (Nat.le_of_ble_eq_true rfl) (by decide) ⟨by decide, by decide⟩ rfl (pX3_doingOf (E := E) (h := h) (M := M) (v1 := v3) (v2 := v1) hG) (kF (st2 := [(0, (fX3_doingOf M v3 v1))]) rfl (fun hG6 => ?_))
      exact T_iret dX5_ofOne_28 rfl ⟨rfl, hG, (by rw [hQ]; exact ⟨(by unfold fX5_ofOne; simp only [if_neg c1, if_pos c2]), rfl⟩)⟩
  · skip
    refine T_iload_n (i := 3) (pc' := 7) dX5_ofOne_6 rfl rfl rfl ?_
    have HJ7 : T E miX5_ofOne 3 126 0 0 (fun r S M' => S = S0 ∧ G h M' ∧ Q r M') 15 [(3, 0), (3, 0), (3, 0), (3, 0), (3, 0)] [(0, (if v3 = 0 then (1 : Int) else 0))] S0 M 0 0 := by
      exact T_iret dX5_ofOne_15 rfl ⟨rfl, hG, (by rw [hQ]; exact ⟨(by unfold fX5_ofOne; simp only [if_pos c1]), rfl⟩)⟩
    refine T_if_ne (pc' := 14) dX5_ofOne_7 (by decide) (pf := 10) rfl (fun c8 => ?_) (fun c8 => ?_)
    · skip
      refine T_iconst (pc' := 15) dX5_ofOne_14 (by decide) rfl ?_
      exact T_wk (L' := [(3, 0), (3, 0), (3, 0), (3, 0), (3, 0)]) (by have q := HJ7; try simp only [if_neg c8] at q; exact q) ⟨Or.inl rfl, Or.inl rfl, Or.inl rfl, Or.inl rfl, Or.inl rfl, trivial⟩
    · skip
      refine T_iconst (pc' := 11) dX5_ofOne_10 (by decide) rfl ?_
      refine T_goto (pc' := 15) dX5_ofOne_11 (by decide) ?_
      exact T_wk (L' := [(3, 0), (3, 0), (3, 0), (3, 0), (3, 0)]) (by have q := HJ7; try simp only [if_pos c8] at q; exact q) ⟨Or.inl rfl, Or.inl rfl, Or.inl rfl, Or.inl rfl, Or.inl rfl, trivial⟩
def fX5_held (v0 : Int) : Int :=
  (wr32 (if (if v0 < 1000000 then v0 else 1000000) < (-1000000) then (-1000000) else (if v0 < 1000000 then v0 else 1000000)))
set_option maxRecDepth 100000 in
theorem pX5_held {E : EV} {h : Int} {M : Mem} {v0 : Int}  : C2 E miX5_held 2 h [(1, v0)] M (fun r M' => r = some (0, (fX5_held v0)) ∧ M' = M) := by
  obtain ⟨Q, hQ⟩ : ∃ Q : Option MV → Mem → Prop, Q = (fun r M' => r = some (0, (fX5_held v0)) ∧ M' = M) := ⟨_, rfl⟩
  rw [← hQ]
  refine C2_of (L := [(1, v0), (3, 0)]) (by decide +kernel) (Nat.le_of_ble_eq_true rfl) rfl (fun hG => ?_)
  refine T_ldc2 (n := (-1000000)) (pc' := 3) dX5_held_0 rfl kjX5_83 rfl (by decide) rfl ?_
  refine T_ldc2 (n := 1000000) (pc' := 6) dX5_held_3 rfl kjX5_85 rfl (by decide) rfl ?_
  refine T_lload_n (i := 0) (pc' := 7) dX5_held_6 rfl rfl rfl ?_
  refine U_mminL (pc' := 10) dX5_held_7 rfl mlX5_87 (Nat.le_of_ble_eq_true rfl) (by decide) ⟨by decide, by decide⟩ rfl ?_
  refine U_mmaxL (pc' := 13) dX5_held_10 rfl mlX5_90 (Nat.le_of_ble_eq_true rfl) (by decide) ⟨by decide, by decide⟩ rfl ?_
  refine T_l2i (pc' := 14) dX5_held_13 rfl ?_
  exact T_iret dX5_held_14 rfl ⟨rfl, hG, (by rw [hQ]; exact ⟨rfl, rfl⟩)⟩
def fX5_ofTwo (v0 : Int) (v1 : Int) (v2 : Int) : Int :=
  (if v0 = 8 then (if v2 < v1 then v2 else v1) else (if v0 = 9 then (if v1 < v2 then v2 else v1) else (if v0 = 10 then (fX5_held (wr64 (v1 + v2))) else (if v0 = 11 then (fX5_held (wr64 (v1 - v2))) else (if v0 = 12 then (fX5_held (wr64 (v1 * v2))) else (if v0 = 13 then (if v2 = 0 then (0 : Int) else (fdv v1 v2)) else (if v0 = 14 then (if v2 ≤ v1 then (0 : Int) else 1) else (if v0 = 15 then (if v1 ≤ v2 then (0 : Int) else 1) else (if v0 = 16 then (if v1 = v2 then (1 : Int) else 0) else (if v0 = 17 then (m_and v1 v2) else (m_or v1 v2)))))))))))
set_option maxRecDepth 100000 in
theorem pX5_ofTwo {E : EV} {h : Int} {M : Mem} {v0 : Int} {v1 : Int} {v2 : Int}  : C2 E miX5_ofTwo 3 h [(0, v0), (0, v1), (0, v2)] M (fun r M' => r = some (0, (fX5_ofTwo v0 v1 v2)) ∧ M' = M) := by
  obtain ⟨Q, hQ⟩ : ∃ Q : Option MV → Mem → Prop, Q = (fun r M' => r = some (0, (fX5_ofTwo v0 v1 v2)) ∧ M' = M) := ⟨_, rfl⟩
  rw [← hQ]
  refine C2_of (L := [(0, v0), (0, v1), (0, v2)]) (by decide +kernel) (Nat.le_of_ble_eq_true rfl) rfl (fun hG => ?_)
  refine T_iload_n (i := 0) (pc' := 1) dX5_ofTwo_0 rfl rfl rfl ?_
  by_cases c1 : v0 = 8
  · skip
    refine T_tableIn (pc' := 56) dX5_ofTwo_1 (by omega) (by omega) (by rw [c1]; rfl) (by decide) ?_
    refine T_iload_n (i := 1) (pc' := 57) dX5_ofTwo_56 rfl rfl rfl ?_
    refine T_iload_n (i := 2) (pc' := 58) dX5_ofTwo_57 rfl rfl rfl ?_
    refine U_mmin (pc' := 61) dX5_ofTwo_58 rfl mlX5_68 (Nat.le_of_ble_eq_true rfl) (by decide) ⟨by decide, by decide⟩ rfl ?_
    exact T_iret dX5_ofTwo_61 rfl ⟨rfl, hG, (by rw [hQ]; exact ⟨(by unfold fX5_ofTwo; simp only [if_pos c1]), rfl⟩)⟩
  · skip
    by_cases c2 : v0 = 9
    · skip
      refine T_tableIn (pc' := 62) dX5_ofTwo_1 (by omega) (by omega) (by rw [c2]; rfl) (by decide) ?_
      refine T_iload_n (i := 1) (pc' := 63) dX5_ofTwo_62 rfl rfl rfl ?_
      refine T_iload_n (i := 2) (pc' := 64) dX5_ofTwo_63 rfl rfl rfl ?_
      refine U_mmax (pc' := 67) dX5_ofTwo_64 rfl mlX5_73 (Nat.le_of_ble_eq_true rfl) (by decide) ⟨by decide, by decide⟩ rfl ?_
      exact T_iret dX5_ofTwo_67 rfl ⟨rfl, hG, (by rw [hQ]; exact ⟨(by unfold fX5_ofTwo; simp only [if_neg c1, if_pos c2]), rfl⟩)⟩
    · skip
      by_cases c3 : v0 = 10
      · skip
        refine T_tableIn (pc' := 68) dX5_ofTwo_1 (by omega) (by omega) (by rw [c3]; rfl) (by decide) ?_
        refine T_iload_n (i := 1) (pc' := 69) dX5_ofTwo_68 rfl rfl rfl ?_
        refine T_i2l (pc' := 70) dX5_ofTwo_69 rfl ?_
        refine T_iload_n (i := 2) (pc' := 71) dX5_ofTwo_70 rfl rfl rfl ?_
        refine T_i2l (pc' := 72) dX5_ofTwo_71 rfl ?_
        refine T_ladd (pc' := 73) dX5_ofTwo_72 rfl ?_
        refine T_callS (av := [(1, (wr64 (v1 + v2)))]) (st := []) (d2 := 2) (nc2 := 0) (ns2 := 0) (pc' := 76) dX5_ofTwo_73 rfl mtX5_held mvX5_held mlX5_76 rfl rfl (Nat.le_of_ble_eq_true rfl) (by decide) ⟨by decide, by decide⟩ rfl (pX5_held (E := E) (h := h) (M := M) (v0 := (wr64 (v1 + v2))) hG) (kF (st2 := [(0, (fX5_held (wr64 (v1 + v2))))]) rfl (fun hG4 => ?_))
        exact T_iret dX5_ofTwo_76 rfl ⟨rfl, hG, (by rw [hQ]; exact ⟨(by unfold fX5_ofTwo; simp only [if_neg c1, if_neg c2, if_pos c3]), rfl⟩)⟩
      · skip
        by_cases c5 : v0 = 11
        · skip
          refine T_tableIn (pc' := 77) dX5_ofTwo_1 (by omega) (by omega) (by rw [c5]; rfl) (by decide) ?_
          refine T_iload_n (i := 1) (pc' := 78) dX5_ofTwo_77 rfl rfl rfl ?_
          refine T_i2l (pc' := 79) dX5_ofTwo_78 rfl ?_
          refine T_iload_n (i := 2) (pc' := 80) dX5_ofTwo_79 rfl rfl rfl ?_
          refine T_i2l (pc' := 81) dX5_ofTwo_80 rfl ?_
          refine T_lsub (pc' := 82) dX5_ofTwo_81 rfl ?_
          refine T_callS (av := [(1, (wr64 (v1 - v2)))]) (st := []) (d2 := 2) (nc2 := 0) (ns2 := 0) (pc' := 85) dX5_ofTwo_82 rfl mtX5_held mvX5_held mlX5_76 rfl rfl (Nat.le_of_ble_eq_true rfl) (by decide) ⟨by decide, by decide⟩ rfl (pX5_held (E := E) (h := h) (M := M) (v0 := (wr64 (v1 - v2))) hG) (kF (st2 := [(0, (fX5_held (wr64 (v1 - v2))))]) rfl (fun hG6 => ?_))
          exact T_iret dX5_ofTwo_85 rfl ⟨rfl, hG, (by rw [hQ]; exact ⟨(by unfold fX5_ofTwo; simp only [if_neg c1, if_neg c2, if_neg c3, if_pos c5]), rfl⟩)⟩
        · skip
          by_cases c7 : v0 = 12
          · skip
            refine T_tableIn (pc' := 86) dX5_ofTwo_1 (by omega) (by omega) (by rw [c7]; rfl) (by decide) ?_
            refine T_iload_n (i := 1) (pc' := 87) dX5_ofTwo_86 rfl rfl rfl ?_
            refine T_i2l (pc' := 88) dX5_ofTwo_87 rfl ?_
            refine T_iload_n (i := 2) (pc' := 89) dX5_ofTwo_88 rfl rfl rfl ?_
            refine T_i2l (pc' := 90) dX5_ofTwo_89 rfl ?_
            refine T_lmul (pc' := 91) dX5_ofTwo_90 rfl ?_
            refine T_callS (av := [(1, (wr64 (v1 * v2)))]) (st := []) (d2 := 2) (nc2 := 0) (ns2 := 0) (pc' := 94) dX5_ofTwo_91 rfl mtX5_held mvX5_held mlX5_76 rfl rfl (Nat.le_of_ble_eq_true rfl) (by decide) ⟨by decide, by decide⟩ rfl (pX5_held (E := E) (h := h) (M := M) (v0 := (wr64 (v1 * v2))) hG) (kF (st2 := [(0, (fX5_held (wr64 (v1 * v2))))]) rfl (fun hG8 => ?_))
            exact T_iret dX5_ofTwo_94 rfl ⟨rfl, hG, (by rw [hQ]; exact ⟨(by unfold fX5_ofTwo; simp only [if_neg c1, if_neg c2, if_neg c3, if_neg c5, if_pos c7]), rfl⟩)⟩
          · skip
            by_cases c9 : v0 = 13
            · skip
              refine T_tableIn (pc' := 95) dX5_ofTwo_1 (by omega) (by omega) (by rw [c9]; rfl) (by decide) ?_
              refine T_iload_n (i := 2) (pc' := 96) dX5_ofTwo_95 rfl rfl rfl ?_
              have HJ10 : T E miX5_ofTwo 3 126 0 0 (fun r S M' => S = S0 ∧ G h M' ∧ Q r M') 108 [(3, 0), (3, 0), (3, 0)] [(0, (if v2 = 0 then (0 : Int) else (fdv v1 v2)))] S0 M 0 0 := by
                exact T_iret dX5_ofTwo_108 rfl ⟨rfl, hG, (by rw [hQ]; exact ⟨(by unfold fX5_ofTwo; simp only [if_neg c1, if_neg c2, if_neg c3, if_neg c5, if_neg c7, if_pos c9]), rfl⟩)⟩
              refine T_if_ne (pc' := 103) dX5_ofTwo_96 (by decide) (pf := 99) rfl (fun c11 => ?_) (fun c11 => ?_)
              · skip
                refine T_iload_n (i := 1) (pc' := 104) dX5_ofTwo_103 rfl rfl rfl ?_
                refine T_iload_n (i := 2) (pc' := 105) dX5_ofTwo_104 rfl rfl rfl ?_
                refine U_fdiv (pc' := 108) dX5_ofTwo_105 rfl mlX5_80 (by omega) (Nat.le_of_ble_eq_true rfl) (by decide) ⟨by decide, by decide⟩ rfl ?_
                exact T_wk (L' := [(3, 0), (3, 0), (3, 0)]) (by have q := HJ10; try simp only [if_neg c11] at q; exact q) ⟨Or.inl rfl, Or.inl rfl, Or.inl rfl, trivial⟩
              · skip
                refine T_iconst (pc' := 100) dX5_ofTwo_99 (by decide) rfl ?_
                refine T_goto (pc' := 108) dX5_ofTwo_100 (by decide) ?_
                exact T_wk (L' := [(3, 0), (3, 0), (3, 0)]) (by have q := HJ10; try simp only [if_pos c11] at q; exact q) ⟨Or.inl rfl, Or.inl rfl, Or.inl rfl, trivial⟩
            · skip
              by_cases c12 : v0 = 14
              · skip
                refine T_tableIn (pc' := 109) dX5_ofTwo_1 (by omega) (by omega) (by rw [c12]; rfl) (by decide) ?_
                refine T_iload_n (i := 1) (pc' := 110) dX5_ofTwo_109 rfl rfl rfl ?_
                refine T_iload_n (i := 2) (pc' := 111) dX5_ofTwo_110 rfl rfl rfl ?_
                have HJ13 : T E miX5_ofTwo 3 126 0 0 (fun r S M' => S = S0 ∧ G h M' ∧ Q r M') 119 [(3, 0), (3, 0), (3, 0)] [(0, (if v2 ≤ v1 then (0 : Int) else 1))] S0 M 0 0 := by
                  exact T_iret dX5_ofTwo_119 rfl ⟨rfl, hG, (by rw [hQ]; exact ⟨(by unfold fX5_ofTwo; simp only [if_neg c1, if_neg c2, if_neg c3, if_neg c5, if_neg c7, if_neg c9, if_pos c12]), rfl⟩)⟩
                refine T_icmp_ge (pc' := 118) dX5_ofTwo_111 (by decide) (pf := 114) rfl (fun c14 => ?_) (fun c14 => ?_)
                · skip
                  refine T_iconst (pc' := 119) dX5_ofTwo_118 (by decide) rfl ?_
                  exact T_wk (L' := [(3, 0), (3, 0), (3, 0)]) (by have q := HJ13; try simp only [if_pos c14] at q; exact q) ⟨Or.inl rfl, Or.inl rfl, Or.inl rfl, trivial⟩
                · skip
                  refine T_iconst (pc' := 115) dX5_ofTwo_114 (by decide) rfl ?_
                  refine T_goto (pc' := 119) dX5_ofTwo_115 (by decide) ?_
                  exact T_wk (L' := [(3, 0), (3, 0), (3, 0)]) (by have q := HJ13; try simp only [if_neg c14] at q; exact q) ⟨Or.inl rfl, Or.inl rfl, Or.inl rfl, trivial⟩
              · skip
                by_cases c15 : v0 = 15
                · skip
                  refine T_tableIn (pc' := 120) dX5_ofTwo_1 (by omega) (by omega) (by rw [c15]; rfl) (by decide) ?_
                  refine T_iload_n (i := 1) (pc' := 121) dX5_ofTwo_120 rfl rfl rfl ?_
                  refine T_iload_n (i := 2) (pc' := 122) dX5_ofTwo_121 rfl rfl rfl ?_
                  have HJ16 : T E miX5_ofTwo 3 126 0 0 (fun r S M' => S = S0 ∧ G h M' ∧ Q r M') 130 [(3, 0), (3, 0), (3, 0)] [(0, (if v1 ≤ v2 then (0 : Int) else 1))] S0 M 0 0 := by
                    exact T_iret dX5_ofTwo_130 rfl ⟨rfl, hG, (by rw [hQ]; exact ⟨(by unfold fX5_ofTwo; simp only [if_neg c1, if_neg c2, if_neg c3, if_neg c5, if_neg c7, if_neg c9, if_neg c12, if_pos c15]), rfl⟩)⟩
                  refine T_icmp_le (pc' := 129) dX5_ofTwo_122 (by decide) (pf := 125) rfl (fun c17 => ?_) (fun c17 => ?_)
                  · skip
                    refine T_iconst (pc' := 130) dX5_ofTwo_129 (by decide) rfl ?_
                    exact T_wk (L' := [(3, 0), (3, 0), (3, 0)]) (by have q := HJ16; try simp only [if_pos c17] at q; exact q) ⟨Or.inl rfl, Or.inl rfl, Or.inl rfl, trivial⟩
                  · skip
                    refine T_iconst (pc' := 126) dX5_ofTwo_125 (by decide) rfl ?_
                    refine T_goto (pc' := 130) dX5_ofTwo_126 (by decide) ?_
                    exact T_wk (L' := [(3, 0), (3, 0), (3, 0)]) (by have q := HJ16; try simp only [if_neg c17] at q; exact q) ⟨Or.inl rfl, Or.inl rfl, Or.inl rfl, trivial⟩
                · skip
                  by_cases c18 : v0 = 16
                  · skip
                    refine T_tableIn (pc' := 131) dX5_ofTwo_1 (by omega) (by omega) (by rw [c18]; rfl) (by decide) ?_
                    refine T_iload_n (i := 1) (pc' := 132) dX5_ofTwo_131 rfl rfl rfl ?_
                    refine T_iload_n (i := 2) (pc' := 133) dX5_ofTwo_132 rfl rfl rfl ?_
                    have HJ19 : T E miX5_ofTwo 3 126 0 0 (fun r S M' => S = S0 ∧ G h M' ∧ Q r M') 141 [(3, 0), (3, 0), (3, 0)] [(0, (if v1 = v2 then (1 : Int) else 0))] S0 M 0 0 := by
                      exact T_iret dX5_ofTwo_141 rfl ⟨rfl, hG, (by rw [hQ]; exact ⟨(by unfold fX5_ofTwo; simp only [if_neg c1, if_neg c2, if_neg c3, if_neg c5, if_neg c7, if_neg c9, if_neg c12, if_neg c15, if_pos c18]), rfl⟩)⟩
                    refine T_icmp_ne (pc' := 140) dX5_ofTwo_133 (by decide) (pf := 136) rfl (fun c20 => ?_) (fun c20 => ?_)
                    · skip
                      refine T_iconst (pc' := 141) dX5_ofTwo_140 (by decide) rfl ?_
                      exact T_wk (L' := [(3, 0), (3, 0), (3, 0)]) (by have q := HJ19; try simp only [if_neg c20] at q; exact q) ⟨Or.inl rfl, Or.inl rfl, Or.inl rfl, trivial⟩
                    · skip
                      refine T_iconst (pc' := 137) dX5_ofTwo_136 (by decide) rfl ?_
                      refine T_goto (pc' := 141) dX5_ofTwo_137 (by decide) ?_
                      exact T_wk (L' := [(3, 0), (3, 0), (3, 0)]) (by have q := HJ19; try simp only [if_pos c20] at q; exact q) ⟨Or.inl rfl, Or.inl rfl, Or.inl rfl, trivial⟩
                  · skip
                    by_cases c21 : v0 = 17
                    · skip
                      refine T_tableIn (pc' := 142) dX5_ofTwo_1 (by omega) (by omega) (by rw [c21]; rfl) (by decide) ?_
                      refine T_iload_n (i := 1) (pc' := 143) dX5_ofTwo_142 rfl rfl rfl ?_
                      refine T_iload_n (i := 2) (pc' := 144) dX5_ofTwo_143 rfl rfl rfl ?_
                      refine T_iand (pc' := 145) dX5_ofTwo_144 rfl ?_
                      exact T_iret dX5_ofTwo_145 rfl ⟨rfl, hG, (by rw [hQ]; exact ⟨(by unfold fX5_ofTwo; simp only [if_neg c1, if_neg c2, if_neg c3, if_neg c5, if_neg c7, if_neg c9, if_neg c12, if_neg c15, if_neg c18, if_pos c21]), rfl⟩)⟩
                    · skip
                      refine T_tableOut (pc' := 146) dX5_ofTwo_1 (by omega) (by decide) ?_
                      refine T_iload_n (i := 1) (pc' := 147) dX5_ofTwo_146 rfl rfl rfl ?_
                      refine T_iload_n (i := 2) (pc' := 148) dX5_ofTwo_147 rfl rfl rfl ?_
                      refine T_ior (pc' := 149) dX5_ofTwo_148 rfl ?_
                      exact T_iret dX5_ofTwo_149 rfl ⟨rfl, hG, (by rw [hQ]; exact ⟨(by unfold fX5_ofTwo; simp only [if_neg c1, if_neg c2, if_neg c3, if_neg c5, if_neg c7, if_neg c9, if_neg c12, if_neg c15, if_neg c18, if_neg c21]), rfl⟩)⟩
def fX5_plain (M : Mem) (v1 : Int) (v2 : Int) : Int :=
  (if v2 = 0 then v1 else (if v2 = 1 then (fX3_howMany M v1 0) else (if v2 = 2 then (fX3_howMany M v1 1) else (if v2 = 3 then (fX3_howMany M v1 2) else (if v2 = 4 then (fX3_howMany M v1 3) else (if (M 16 10) = (-1) then (0 : Int) else (if v1 < (M 16 10) then (0 : Int) else 1)))))))
set_option maxRecDepth 100000 in
theorem pX5_plain {E : EV} {h : Int} {M : Mem} {v1 : Int} {v2 : Int}  : C2 E miX5_plain 3 h [(2, 16), (0, v1), (0, v2)] M (fun r M' => r = some (0, (fX5_plain M v1 v2)) ∧ M' = M) := by
  obtain ⟨Q, hQ⟩ : ∃ Q : Option MV → Mem → Prop, Q = (fun r M' => r = some (0, (fX5_plain M v1 v2)) ∧ M' = M) := ⟨_, rfl⟩
  rw [← hQ]
  refine C2_of (L := [(2, 16), (0, v1), (0, v2)]) (by decide +kernel) (Nat.le_of_ble_eq_true rfl) rfl (fun hG => ?_)
  refine T_iload_n (i := 2) (pc' := 1) dX5_plain_0 rfl rfl rfl ?_
  by_cases c1 : v2 = 0
  · skip
    refine T_tableIn (pc' := 36) dX5_plain_1 (by omega) (by omega) (by rw [c1]; rfl) (by decide) ?_
    refine T_iload_n (i := 1) (pc' := 37) dX5_plain_36 rfl rfl rfl ?_
    exact T_iret dX5_plain_37 rfl ⟨rfl, hG, (by rw [hQ]; exact ⟨(by unfold fX5_plain; simp only [if_pos c1]), rfl⟩)⟩
  · skip
    by_cases c2 : v2 = 1
    · skip
      refine T_tableIn (pc' := 38) dX5_plain_1 (by omega) (by omega) (by rw [c2]; rfl) (by decide) ?_
      refine T_aload_n (i := 0) (pc' := 39) dX5_plain_38 rfl rfl rfl ?_
      refine T_iload_n (i := 1) (pc' := 40) dX5_plain_39 rfl rfl rfl ?_
      refine T_iconst (pc' := 41) dX5_plain_40 (by decide) rfl ?_
      refine T_callV (av := [(0, v1), (0, 0)]) (st := []) (d2 := 2) (nc2 := 0) (ns2 := 0) (pc' := 44) dX5_plain_41 rfl mtX3_howMany mvX3_howMany mlX5_55 cl3 rfl rfl rfl (Nat.le_of_ble_eq_true rfl) (by decide) ⟨by decide, by decide⟩ rfl (pX3_howMany (E := E) (h := h) (M := M) (v1 := v1) (v2 := 0) hG) (kF (st2 := [(0, (fX3_howMany M v1 0))]) rfl (fun hG3 => ?_))
      exact T_iret dX5_plain_44 rfl ⟨rfl, hG, (by rw [hQ]; exact ⟨(by unfold fX5_plain; simp only [if_neg c1, if_pos c2]), rfl⟩)⟩
    · skip
      by_cases c4 : v2 = 2
      · skip
        refine T_tableIn (pc' := 45) dX5_plain_1 (by omega) (by omega) (by rw [c4]; rfl) (by decide) ?_
        refine T_aload_n (i := 0) (pc' := 46) dX5_plain_45 rfl rfl rfl ?_
        refine T_iload_n (i := 1) (pc' := 47) dX5_plain_46 rfl rfl rfl ?_
        refine T_iconst (pc' := 48) dX5_plain_47 (by decide) rfl ?_
        refine T_callV (av := [(0, v1), (0, 1)]) (st := []) (d2 := 2) (nc2 := 0) (ns2 := 0) (pc' := 51) dX5_plain_48 rfl mtX3_howMany mvX3_howMany mlX5_55 cl3 rfl rfl rfl (Nat.le_of_ble_eq_true rfl) (by decide) ⟨by decide, by decide⟩ rfl (pX3_howMany (E := E) (h := h) (M := M) (v1 := v1) (v2 := 1) hG) (kF (st2 := [(0, (fX3_howMany M v1 1))]) rfl (fun hG5 => ?_))
        exact T_iret dX5_plain_51 rfl ⟨rfl, hG, (by rw [hQ]; exact ⟨(by unfold fX5_plain; simp only [if_neg c1, if_neg c2, if_pos c4]), rfl⟩)⟩
      · skip
        by_cases c6 : v2 = 3
        · skip
          refine T_tableIn (pc' := 52) dX5_plain_1 (by omega) (by omega) (by rw [c6]; rfl) (by decide) ?_
          refine T_aload_n (i := 0) (pc' := 53) dX5_plain_52 rfl rfl rfl ?_
          refine T_iload_n (i := 1) (pc' := 54) dX5_plain_53 rfl rfl rfl ?_
          refine T_iconst (pc' := 55) dX5_plain_54 (by decide) rfl ?_
          refine T_callV (av := [(0, v1), (0, 2)]) (st := []) (d2 := 2) (nc2 := 0) (ns2 := 0) (pc' := 58) dX5_plain_55 rfl mtX3_howMany mvX3_howMany mlX5_55 cl3 rfl rfl rfl (Nat.le_of_ble_eq_true rfl) (by decide) ⟨by decide, by decide⟩ rfl (pX3_howMany (E := E) (h := h) (M := M) (v1 := v1) (v2 := 2) hG) (kF (st2 := [(0, (fX3_howMany M v1 2))]) rfl (fun hG7 => ?_))
          exact T_iret dX5_plain_58 rfl ⟨rfl, hG, (by rw [hQ]; exact ⟨(by unfold fX5_plain; simp only [if_neg c1, if_neg c2, if_neg c4, if_pos c6]), rfl⟩)⟩
        · skip
          by_cases c8 : v2 = 4
          · skip
            refine T_tableIn (pc' := 59) dX5_plain_1 (by omega) (by omega) (by rw [c8]; rfl) (by decide) ?_
            refine T_aload_n (i := 0) (pc' := 60) dX5_plain_59 rfl rfl rfl ?_
            refine T_iload_n (i := 1) (pc' := 61) dX5_plain_60 rfl rfl rfl ?_
            refine T_iconst (pc' := 62) dX5_plain_61 (by decide) rfl ?_
            refine T_callV (av := [(0, v1), (0, 3)]) (st := []) (d2 := 2) (nc2 := 0) (ns2 := 0) (pc' := 65) dX5_plain_62 rfl mtX3_howMany mvX3_howMany mlX5_55 cl3 rfl rfl rfl (Nat.le_of_ble_eq_true rfl) (by decide) ⟨by decide, by decide⟩ rfl (pX3_howMany (E := E) (h := h) (M := M) (v1 := v1) (v2 := 3) hG) (kF (st2 := [(0, (fX3_howMany M v1 3))]) rfl (fun hG9 => ?_))
            exact T_iret dX5_plain_65 rfl ⟨rfl, hG, (by rw [hQ]; exact ⟨(by unfold fX5_plain; simp only [if_neg c1, if_neg c2, if_neg c4, if_neg c6, if_pos c8]), rfl⟩)⟩
          · skip
            refine T_tableOut (pc' := 66) dX5_plain_1 (by omega) (by decide) ?_
            refine T_aload_n (i := 0) (pc' := 67) dX5_plain_66 rfl rfl rfl ?_
            refine U_gfN (v := (0, (M 16 10))) (k := 10) (kI := 10) (pc' := 70) dX5_plain_67 rfl cl3 (by decide) rfl (by decide) flX5_59 rfl rfl (by decide) rfl rfl ?_
            refine T_iconst (pc' := 71) dX5_plain_70 (by decide) rfl ?_
            have HJ10 : T E miX5_plain 3 126 0 0 (fun r S M' => S = S0 ∧ G h M' ∧ Q r M') 87 [(3, 0), (3, 0), (3, 0)] [(0, (if (M 16 10) = (-1) then (0 : Int) else (if v1 < (M 16 10) then (0 : Int) else 1)))] S0 M 0 0 := by
              exact T_iret dX5_plain_87 rfl ⟨rfl, hG, (by rw [hQ]; exact ⟨(by unfold fX5_plain; simp only [if_neg c1, if_neg c2, if_neg c4, if_neg c6, if_neg c8]), rfl⟩)⟩
            refine T_icmp_eq (pc' := 86) dX5_plain_71 (by decide) (pf := 74) rfl (fun c11 => ?_) (fun c11 => ?_)
            · skip
              refine T_iconst (pc' := 87) dX5_plain_86 (by decide) rfl ?_
              exact T_wk (L' := [(3, 0), (3, 0), (3, 0)]) (by have q := HJ10; try simp only [if_pos c11] at q; exact q) ⟨Or.inl rfl, Or.inl rfl, Or.inl rfl, trivial⟩
            · skip
              refine T_iload_n (i := 1) (pc' := 75) dX5_plain_74 rfl rfl rfl ?_
              refine T_aload_n (i := 0) (pc' := 76) dX5_plain_75 rfl rfl rfl ?_
              refine U_gfN (v := (0, (M 16 10))) (k := 10) (kI := 10) (pc' := 79) dX5_plain_76 rfl cl3 (by decide) rfl (by decide) flX5_59 rfl rfl (by decide) rfl rfl ?_
              refine T_icmp_lt (pc' := 86) dX5_plain_79 (by decide) (pf := 82) rfl (fun c12 => ?_) (fun c12 => ?_)
              · skip
                refine T_iconst (pc' := 87) dX5_plain_86 (by decide) rfl ?_
                exact T_wk (L' := [(3, 0), (3, 0), (3, 0)]) (by have q := HJ10; try simp only [if_neg c11] at q; try simp only [if_pos c12] at q; exact q) ⟨Or.inl rfl, Or.inl rfl, Or.inl rfl, trivial⟩
              · skip
                refine T_iconst (pc' := 83) dX5_plain_82 (by decide) rfl ?_
                refine T_goto (pc' := 87) dX5_plain_83 (by decide) ?_
                exact T_wk (L' := [(3, 0), (3, 0), (3, 0)]) (by have q := HJ10; try simp only [if_neg c11] at q; try simp only [if_neg c12] at q; exact q) ⟨Or.inl rfl, Or.inl rfl, Or.inl rfl, trivial⟩
def lX5_run_7  : Nat → Int → Int → Mem → Int
  | 0, v2, v3, M => (fX5_pop M)
  | k + 1, v2, v3, M => (if 1600 ≤ v3 then (fX5_pop M) else (lX5_run_7 k v2 (v3 + 1) (if (wr32 (Int.tdiv (fX11_get M 7 1600 v3) 10000)) = 20 then (fmX5_push M (Int.tmod (fX11_get M 7 1600 v3) 10000)) else (if 5 < (wr32 (Int.tdiv (fX11_get M 7 1600 v3) 10000)) then (if (wr32 (Int.tdiv (fX11_get M 7 1600 v3) 10000)) = 6 then (fmX5_push (fmX5_pop M) (fX5_ofOne (fmX5_pop M) v2 (wr32 (Int.tdiv (fX11_get M 7 1600 v3) 10000)) (fX5_pop M))) else (if (wr32 (Int.tdiv (fX11_get M 7 1600 v3) 10000)) = 7 then (fmX5_push (fmX5_pop M) (fX5_ofOne (fmX5_pop M) v2 (wr32 (Int.tdiv (fX11_get M 7 1600 v3) 10000)) (fX5_pop M))) else (if (wr32 (Int.tdiv (fX11_get M 7 1600 v3) 10000)) = 19 then (fmX5_push (fmX5_pop M) (fX5_ofOne (fmX5_pop M) v2 (wr32 (Int.tdiv (fX11_get M 7 1600 v3) 10000)) (fX5_pop M))) else (fmX5_push (fmX5_pop (fmX5_pop M)) (fX5_ofTwo (wr32 (Int.tdiv (fX11_get M 7 1600 v3) 10000)) (fX5_pop (fmX5_pop M)) (fX5_pop M)))))) else (fmX5_push M (fX5_plain M v2 (wr32 (Int.tdiv (fX11_get M 7 1600 v3) 10000))))))))
def lmX5_run_7  : Nat → Int → Int → Mem → Mem
  | 0, v2, v3, M => (fmX5_pop M)
  | k + 1, v2, v3, M => (if 1600 ≤ v3 then (fmX5_pop M) else (lmX5_run_7 k v2 (v3 + 1) (if (wr32 (Int.tdiv (fX11_get M 7 1600 v3) 10000)) = 20 then (fmX5_push M (Int.tmod (fX11_get M 7 1600 v3) 10000)) else (if 5 < (wr32 (Int.tdiv (fX11_get M 7 1600 v3) 10000)) then (if (wr32 (Int.tdiv (fX11_get M 7 1600 v3) 10000)) = 6 then (fmX5_push (fmX5_pop M) (fX5_ofOne (fmX5_pop M) v2 (wr32 (Int.tdiv (fX11_get M 7 1600 v3) 10000)) (fX5_pop M))) else (if (wr32 (Int.tdiv (fX11_get M 7 1600 v3) 10000)) = 7 then (fmX5_push (fmX5_pop M) (fX5_ofOne (fmX5_pop M) v2 (wr32 (Int.tdiv (fX11_get M 7 1600 v3) 10000)) (fX5_pop M))) else (if (wr32 (Int.tdiv (fX11_get M 7 1600 v3) 10000)) = 19 then (fmX5_push (fmX5_pop M) (fX5_ofOne (fmX5_pop M) v2 (wr32 (Int.tdiv (fX11_get M 7 1600 v3) 10000)) (fX5_pop M))) else (fmX5_push (fmX5_pop (fmX5_pop M)) (fX5_ofTwo (wr32 (Int.tdiv (fX11_get M 7 1600 v3) 10000)) (fX5_pop (fmX5_pop M)) (fX5_pop M)))))) else (fmX5_push M (fX5_plain M v2 (wr32 (Int.tdiv (fX11_get M 7 1600 v3) 10000))))))))
theorem frlX5_run_7  {q : Int} (hq0 : q ≠ 6) (hq1 : q ≠ 8) : ∀ {k : Nat} {v2 v3 : Int} {M : Mem}, (lmX5_run_7  k v2 v3 M) q = M q := by
  intro k
  induction k with
  | zero =>
    intro v2 v3 M
    show (fmX5_pop M) q = M q
    repeat' (first | rfl | rw [mset_p hq0] | rw [mset_p hq1] | rw [mcpy_p hq0] | rw [mcpy_p hq1] | (rw [frX5_pop] <;> try assumption) | (rw [frX5_push] <;> try assumption) | rw [ite_ap] | split)
  | succ k ih =>
    intro v2 v3 M
    show (if 1600 ≤ v3 then (fmX5_pop M) else (lmX5_run_7 k v2 (v3 + 1) (if (wr32 (Int.tdiv (fX11_get M 7 1600 v3) 10000)) = 20 then (fmX5_push M (Int.tmod (fX11_get M 7 1600 v3) 10000)) else (if 5 < (wr32 (Int.tdiv (fX11_get M 7 1600 v3) 10000)) then (if (wr32 (Int.tdiv (fX11_get M 7 1600 v3) 10000)) = 6 then (fmX5_push (fmX5_pop M) (fX5_ofOne (fmX5_pop M) v2 (wr32 (Int.tdiv (fX11_get M 7 1600 v3) 10000)) (fX5_pop M))) else (if (wr32 (Int.tdiv (fX11_get M 7 1600 v3) 10000)) = 7 then (fmX5_push (fmX5_pop M) (fX5_ofOne (fmX5_pop M) v2 (wr32 (Int.tdiv (fX11_get M 7 1600 v3) 10000)) (fX5_pop M))) else (if (wr32 (Int.tdiv (fX11_get M 7 1600 v3) 10000)) = 19 then (fmX5_push (fmX5_pop M) (fX5_ofOne (fmX5_pop M) v2 (wr32 (Int.tdiv (fX11_get M 7 1600 v3) 10000)) (fX5_pop M))) else (fmX5_push (fmX5_pop (fmX5_pop M)) (fX5_ofTwo (wr32 (Int.tdiv (fX11_get M 7 1600 v3) 10000)) (fX5_pop (fmX5_pop M)) (fX5_pop M)))))) else (fmX5_push M (fX5_plain M v2 (wr32 (Int.tdiv (fX11_get M 7 1600 v3) 10000)))))))) q = M q
    repeat' (first | rfl | rw [mset_p hq0] | rw [mset_p hq1] | rw [mcpy_p hq0] | rw [mcpy_p hq1] | (rw [frX5_pop] <;> try assumption) | (rw [frX5_push] <;> try assumption) | rw [ite_ap] | split | rw [ih])
theorem glX5_run_7 {h : Int}   : ∀ {k : Nat} {v2 v3 : Int} {M : Mem}, G h M → G h (lmX5_run_7  k v2 v3 M) := by
  intro k
  induction k with
  | zero =>
    intro v2 v3 M hG
    show G h (fmX5_pop M)
    exact (gX5_pop (h := h) (M := M) hG)
  | succ k ih =>
    intro v2 v3 M hG
    show G h (if 1600 ≤ v3 then (fmX5_pop M) else (lmX5_run_7 k v2 (v3 + 1) (if (wr32 (Int.tdiv (fX11_get M 7 1600 v3) 10000)) = 20 then (fmX5_push M (Int.tmod (fX11_get M 7 1600 v3) 10000)) else (if 5 < (wr32 (Int.tdiv (fX11_get M 7 1600 v3) 10000)) then (if (wr32 (Int.tdiv (fX11_get M 7 1600 v3) 10000)) = 6 then (fmX5_push (fmX5_pop M) (fX5_ofOne (fmX5_pop M) v2 (wr32 (Int.tdiv (fX11_get M 7 1600 v3) 10000)) (fX5_pop M))) else (if (wr32 (Int.tdiv (fX11_get M 7 1600 v3) 10000)) = 7 then (fmX5_push (fmX5_pop M) (fX5_ofOne (fmX5_pop M) v2 (wr32 (Int.tdiv (fX11_get M 7 1600 v3) 10000)) (fX5_pop M))) else (if (wr32 (Int.tdiv (fX11_get M 7 1600 v3) 10000)) = 19 then (fmX5_push (fmX5_pop M) (fX5_ofOne (fmX5_pop M) v2 (wr32 (Int.tdiv (fX11_get M 7 1600 v3) 10000)) (fX5_pop M))) else (fmX5_push (fmX5_pop (fmX5_pop M)) (fX5_ofTwo (wr32 (Int.tdiv (fX11_get M 7 1600 v3) 10000)) (fX5_pop (fmX5_pop M)) (fX5_pop M)))))) else (fmX5_push M (fX5_plain M v2 (wr32 (Int.tdiv (fX11_get M 7 1600 v3) 10000))))))))
    exact (G_ite (gX5_pop (h := h) (M := M) hG) (ih (G_ite (gX5_push (h := h) (M := M) (v1 := (Int.tmod (fX11_get M 7 1600 v3) 10000)) hG) (G_ite (G_ite (gX5_push (h := h) (M := (fmX5_pop M)) (v1 := (fX5_ofOne (fmX5_pop M) v2 (wr32 (Int.tdiv (fX11_get M 7 1600 v3) 10000)) (fX5_pop M))) (gX5_pop (h := h) (M := M) hG)) (G_ite (gX5_push (h := h) (M := (fmX5_pop M)) (v1 := (fX5_ofOne (fmX5_pop M) v2 (wr32 (Int.tdiv (fX11_get M 7 1600 v3) 10000)) (fX5_pop M))) (gX5_pop (h := h) (M := M) hG)) (G_ite (gX5_push (h := h) (M := (fmX5_pop M)) (v1 := (fX5_ofOne (fmX5_pop M) v2 (wr32 (Int.tdiv (fX11_get M 7 1600 v3) 10000)) (fX5_pop M))) (gX5_pop (h := h) (M := M) hG)) (gX5_push (h := h) (M := (fmX5_pop (fmX5_pop M))) (v1 := (fX5_ofTwo (wr32 (Int.tdiv (fX11_get M 7 1600 v3) 10000)) (fX5_pop (fmX5_pop M)) (fX5_pop M))) (gX5_pop (h := h) (M := (fmX5_pop M)) (gX5_pop (h := h) (M := M) hG)))))) (gX5_push (h := h) (M := M) (v1 := (fX5_plain M v2 (wr32 (Int.tdiv (fX11_get M 7 1600 v3) 10000)))) hG)))))
set_option maxRecDepth 100000 in
set_option maxHeartbeats 2000000 in
theorem qX5_run_7 {E : EV} {h : Int} {Q : Option MV → Mem → Prop}   : ∀ (k : Nat) (v2 v3 : Int) (M : Mem), 0 ≤ v3 → (((M 6 2)) - v3).toNat = k → Q (some (0, (lX5_run_7 k v2 v3 M))) (lmX5_run_7 k v2 v3 M) → G h M → TG E miX5_run 4 h Q 7 [(2, 6), (2, 16), (0, v2), (0, v3), (3, 0), (3, 0), (3, 0), (3, 0)] [] M := by
  intro k
  induction k with
  | zero =>
    intro v2 v3 M hv0 hk hQ hG
    have hQ : Q (some (0, (fX5_pop M))) (fmX5_pop M) := hQ
    refine T_iload_n (i := 3) (pc' := 8) dX5_run_7 rfl rfl rfl ?_
    refine T_aload_n (i := 0) (pc' := 9) dX5_run_8 rfl rfl rfl ?_
    refine U_gf (v := (0, (M 6 2))) (k := 2) (kI := 2) (pc' := 12) dX5_run_9 rfl cl5 (by decide) rfl (by decide) flX5_18 rfl rfl (by decide) rfl rfl ?_
    refine T_rng (fun _ z9 _ => ?_)
    have hB : r32 (M 6 2) := (ok_cons.mp z9).1
    unfold r32 at hB
    refine T_icmp_ge (pc' := 150) dX5_run_12 (by decide) (pf := 15) rfl (fun c1 => ?_) (fun c1 => ?_)
    · skip
      refine T_aload_n (i := 0) (pc' := 151) dX5_run_150 rfl rfl rfl ?_
      refine T_callV (av := []) (st := []) (d2 := 2) (nc2 := 0) (ns2 := 0) (pc' := 154) dX5_run_151 rfl mtX5_pop mvX5_pop mlX5_41 cl5 rfl rfl rfl (Nat.le_of_ble_eq_true rfl) (by decide) ⟨by decide, by decide⟩ rfl (pX5_pop (E := E) (h := h) (M := M) hG) (kF (st2 := [(0, (fX5_pop M))]) rfl (fun hG2 => ?_))
      exact T_iret dX5_run_154 rfl ⟨rfl, (gX5_pop (h := h) (M := M) hG), hQ⟩
    · exact absurd c1 (by omega)
  | succ k ih =>
    intro v2 v3 M hv0 hk hQ hG
    have hQ : Q (some (0, (if 1600 ≤ v3 then (fX5_pop M) else (lX5_run_7 k v2 (v3 + 1) (if (wr32 (Int.tdiv (fX11_get M 7 1600 v3) 10000)) = 20 then (fmX5_push M (Int.tmod (fX11_get M 7 1600 v3) 10000)) else (if 5 < (wr32 (Int.tdiv (fX11_get M 7 1600 v3) 10000)) then (if (wr32 (Int.tdiv (fX11_get M 7 1600 v3) 10000)) = 6 then (fmX5_push (fmX5_pop M) (fX5_ofOne (fmX5_pop M) v2 (wr32 (Int.tdiv (fX11_get M 7 1600 v3) 10000)) (fX5_pop M))) else (if (wr32 (Int.tdiv (fX11_get M 7 1600 v3) 10000)) = 7 then (fmX5_push (fmX5_pop M) (fX5_ofOne (fmX5_pop M) v2 (wr32 (Int.tdiv (fX11_get M 7 1600 v3) 10000)) (fX5_pop M))) else (if (wr32 (Int.tdiv (fX11_get M 7 1600 v3) 10000)) = 19 then (fmX5_push (fmX5_pop M) (fX5_ofOne (fmX5_pop M) v2 (wr32 (Int.tdiv (fX11_get M 7 1600 v3) 10000)) (fX5_pop M))) else (fmX5_push (fmX5_pop (fmX5_pop M)) (fX5_ofTwo (wr32 (Int.tdiv (fX11_get M 7 1600 v3) 10000)) (fX5_pop (fmX5_pop M)) (fX5_pop M)))))) else (fmX5_push M (fX5_plain M v2 (wr32 (Int.tdiv (fX11_get M 7 1600 v3) 10000)))))))))) (if 1600 ≤ v3 then (fmX5_pop M) else (lmX5_run_7 k v2 (v3 + 1) (if (wr32 (Int.tdiv (fX11_get M 7 1600 v3) 10000)) = 20 then (fmX5_push M (Int.tmod (fX11_get M 7 1600 v3) 10000)) else (if 5 < (wr32 (Int.tdiv (fX11_get M 7 1600 v3) 10000)) then (if (wr32 (Int.tdiv (fX11_get M 7 1600 v3) 10000)) = 6 then (fmX5_push (fmX5_pop M) (fX5_ofOne (fmX5_pop M) v2 (wr32 (Int.tdiv (fX11_get M 7 1600 v3) 10000)) (fX5_pop M))) else (if (wr32 (Int.tdiv (fX11_get M 7 1600 v3) 10000)) = 7 then (fmX5_push (fmX5_pop M) (fX5_ofOne (fmX5_pop M) v2 (wr32 (Int.tdiv (fX11_get M 7 1600 v3) 10000)) (fX5_pop M))) else (if (wr32 (Int.tdiv (fX11_get M 7 1600 v3) 10000)) = 19 then (fmX5_push (fmX5_pop M) (fX5_ofOne (fmX5_pop M) v2 (wr32 (Int.tdiv (fX11_get M 7 1600 v3) 10000)) (fX5_pop M))) else (fmX5_push (fmX5_pop (fmX5_pop M)) (fX5_ofTwo (wr32 (Int.tdiv (fX11_get M 7 1600 v3) 10000)) (fX5_pop (fmX5_pop M)) (fX5_pop M)))))) else (fmX5_push M (fX5_plain M v2 (wr32 (Int.tdiv (fX11_get M 7 1600 v3) 10000)))))))) := hQ
    refine T_iload_n (i := 3) (pc' := 8) dX5_run_7 rfl rfl rfl ?_
    refine T_aload_n (i := 0) (pc' := 9) dX5_run_8 rfl rfl rfl ?_
    refine U_gf (v := (0, (M 6 2))) (k := 2) (kI := 2) (pc' := 12) dX5_run_9 rfl cl5 (by decide) rfl (by decide) flX5_18 rfl rfl (by decide) rfl rfl ?_
    refine T_rng (fun _ z9 _ => ?_)
    have hB : r32 (M 6 2) := (ok_cons.mp z9).1
    unfold r32 at hB
    refine T_icmp_ge (pc' := 150) dX5_run_12 (by decide) (pf := 15) rfl (fun c1 => ?_) (fun c1 => ?_)
    · exact absurd c1 (by omega)
    · skip
      have hw : wr32 (v3 + 1) = v3 + 1 := wr32_id (by unfold r32; omega)
      refine T_iload_n (i := 3) (pc' := 16) dX5_run_15 rfl rfl rfl ?_
      refine T_sipush (pc' := 19) dX5_run_16 rfl (by decide) rfl ?_
      refine T_icmp_ge (pc' := 150) dX5_run_19 (by decide) (pf := 22) rfl (fun c3 => ?_) (fun c3 => ?_)
      · skip
        refine T_aload_n (i := 0) (pc' := 151) dX5_run_150 rfl rfl rfl ?_
        refine T_callV (av := []) (st := []) (d2 := 2) (nc2 := 0) (ns2 := 0) (pc' := 154) dX5_run_151 rfl mtX5_pop mvX5_pop mlX5_41 cl5 rfl rfl rfl (Nat.le_of_ble_eq_true rfl) (by decide) ⟨by decide, by decide⟩ rfl (pX5_pop (E := E) (h := h) (M := M) hG) (kF (st2 := [(0, (fX5_pop M))]) rfl (fun hG4 => ?_))
        exact T_iret dX5_run_154 rfl ⟨rfl, (gX5_pop (h := h) (M := M) hG), (by have q := hQ; try simp only [if_pos c3] at q; exact q)⟩
      · skip
        refine T_aload_n (i := 0) (pc' := 23) dX5_run_22 rfl rfl rfl ?_
        refine U_gr (q := 7) (k := 0) (kI := 0) (pc' := 26) dX5_run_23 rfl cl5 (by decide) rfl (by decide) flX5_9 rfl rfl rfl (G_at hG 14 rfl) (by decide) rfl ?_
        refine T_iload_n (i := 3) (pc' := 27) dX5_run_26 rfl rfl rfl ?_
        refine T_callSN (av := [(2, 7), (0, v3)]) (st := []) (d2 := 1) (nc2 := 0) (ns2 := 0) (pc' := 30) dX5_run_27 rfl mtX11_get mvX11_get mlX5_29 rfl rfl (Nat.le_of_ble_eq_true rfl) (by decide) ⟨by decide, by decide⟩ rfl (pX11_get (E := E) (h := h) (M := M) (p0 := 7) (np0 := 1600) (v1 := v3) (by decide) rfl (by decide) hG) (kF (st2 := [(0, (fX11_get M 7 1600 v3))]) rfl (fun hG5 => ?_))
        refine T_istore (i := 4) (L' := [(2, 6), (2, 16), (0, v2), (0, v3), (0, (fX11_get M 7 1600 v3)), (3, 0), (3, 0), (3, 0)]) (pc' := 32) dX5_run_30 (by decide) rfl rfl ?_
        refine T_iload (i := 4) (pc' := 34) dX5_run_32 rfl rfl ?_
        refine T_sipush (pc' := 37) dX5_run_34 rfl (by decide) rfl ?_
        refine T_idiv (pc' := 38) dX5_run_37 (by decide) rfl ?_
        refine T_istore (i := 5) (L' := [(2, 6), (2, 16), (0, v2), (0, v3), (0, (fX11_get M 7 1600 v3)), (0, (wr32 (Int.tdiv (fX11_get M 7 1600 v3) 10000))), (3, 0), (3, 0)]) (pc' := 40) dX5_run_38 (by decide) rfl rfl ?_
        refine T_iload (i := 5) (pc' := 42) dX5_run_40 rfl rfl ?_
        refine T_bipush (pc' := 44) dX5_run_42 rfl (by decide) rfl ?_
        have HJ6 : T E miX5_run 4 126 0 0 (fun r S M' => S = S0 ∧ G h M' ∧ Q r M') 144 [(2, 6), (2, 16), (0, v2), (0, v3), (3, 0), (3, 0), (3, 0), (3, 0)] [] S0 (if (wr32 (Int.tdiv (fX11_get M 7 1600 v3) 10000)) = 20 then (fmX5_push M (Int.tmod (fX11_get M 7 1600 v3) 10000)) else (if 5 < (wr32 (Int.tdiv (fX11_get M 7 1600 v3) 10000)) then (if (wr32 (Int.tdiv (fX11_get M 7 1600 v3) 10000)) = 6 then (fmX5_push (fmX5_pop M) (fX5_ofOne (fmX5_pop M) v2 (wr32 (Int.tdiv (fX11_get M 7 1600 v3) 10000)) (fX5_pop M))) else (if (wr32 (Int.tdiv (fX11_get M 7 1600 v3) 10000)) = 7 then (fmX5_push (fmX5_pop M) (fX5_ofOne (fmX5_pop M) v2 (wr32 (Int.tdiv (fX11_get M 7 1600 v3) 10000)) (fX5_pop M))) else (if (wr32 (Int.tdiv (fX11_get M 7 1600 v3) 10000)) = 19 then (fmX5_push (fmX5_pop M) (fX5_ofOne (fmX5_pop M) v2 (wr32 (Int.tdiv (fX11_get M 7 1600 v3) 10000)) (fX5_pop M))) else (fmX5_push (fmX5_pop (fmX5_pop M)) (fX5_ofTwo (wr32 (Int.tdiv (fX11_get M 7 1600 v3) 10000)) (fX5_pop (fmX5_pop M)) (fX5_pop M)))))) else (fmX5_push M (fX5_plain M v2 (wr32 (Int.tdiv (fX11_get M 7 1600 v3) 10000)))))) 0 0 := by
          refine T_iinc (L' := [(2, 6), (2, 16), (0, v2), (0, (wr32 (v3 + 1))), (3, 0), (3, 0), (3, 0), (3, 0)]) (pc' := 147) dX5_run_144 rfl (by decide) rfl rfl ?_
          refine T_goto (pc' := 7) dX5_run_147 (by decide) ?_
          rw [hw]
          have hbd : ((if (wr32 (Int.tdiv (fX11_get M 7 1600 v3) 10000)) = 20 then (fmX5_push M (Int.tmod (fX11_get M 7 1600 v3) 10000)) else (if 5 < (wr32 (Int.tdiv (fX11_get M 7 1600 v3) 10000)) then (if (wr32 (Int.tdiv (fX11_get M 7 1600 v3) 10000)) = 6 then (fmX5_push (fmX5_pop M) (fX5_ofOne (fmX5_pop M) v2 (wr32 (Int.tdiv (fX11_get M 7 1600 v3) 10000)) (fX5_pop M))) else (if (wr32 (Int.tdiv (fX11_get M 7 1600 v3) 10000)) = 7 then (fmX5_push (fmX5_pop M) (fX5_ofOne (fmX5_pop M) v2 (wr32 (Int.tdiv (fX11_get M 7 1600 v3) 10000)) (fX5_pop M))) else (if (wr32 (Int.tdiv (fX11_get M 7 1600 v3) 10000)) = 19 then (fmX5_push (fmX5_pop M) (fX5_ofOne (fmX5_pop M) v2 (wr32 (Int.tdiv (fX11_get M 7 1600 v3) 10000)) (fX5_pop M))) else (fmX5_push (fmX5_pop (fmX5_pop M)) (fX5_ofTwo (wr32 (Int.tdiv (fX11_get M 7 1600 v3) 10000)) (fX5_pop (fmX5_pop M)) (fX5_pop M)))))) else (fmX5_push M (fX5_plain M v2 (wr32 (Int.tdiv (fX11_get M 7 1600 v3) 10000)))))) 6 2) = (M 6 2) := by
            repeat' (first | rfl | (rw [mset_p] <;> first | decide | (unfold isG at *; omega)) | (rw [frX5_pop] <;> first | decide | (unfold isG at *; omega)) | (rw [frX5_push] <;> first | decide | (unfold isG at *; omega)) | rw [ite_ap] | split)
          exact T_wk (ih _ (v3 + 1) _ (by omega) (by rw [hbd]; omega) (by have q := hQ; try simp only [if_neg c3] at q; exact q) (G_ite (gX5_push (h := h) (M := M) (v1 := (Int.tmod (fX11_get M 7 1600 v3) 10000)) hG) (G_ite (G_ite (gX5_push (h := h) (M := (fmX5_pop M)) (v1 := (fX5_ofOne (fmX5_pop M) v2 (wr32 (Int.tdiv (fX11_get M 7 1600 v3) 10000)) (fX5_pop M))) (gX5_pop (h := h) (M := M) hG)) (G_ite (gX5_push (h := h) (M := (fmX5_pop M)) (v1 := (fX5_ofOne (fmX5_pop M) v2 (wr32 (Int.tdiv (fX11_get M 7 1600 v3) 10000)) (fX5_pop M))) (gX5_pop (h := h) (M := M) hG)) (G_ite (gX5_push (h := h) (M := (fmX5_pop M)) (v1 := (fX5_ofOne (fmX5_pop M) v2 (wr32 (Int.tdiv (fX11_get M 7 1600 v3) 10000)) (fX5_pop M))) (gX5_pop (h := h) (M := M) hG)) (gX5_push (h := h) (M := (fmX5_pop (fmX5_pop M))) (v1 := (fX5_ofTwo (wr32 (Int.tdiv (fX11_get M 7 1600 v3) 10000)) (fX5_pop (fmX5_pop M)) (fX5_pop M))) (gX5_pop (h := h) (M := (fmX5_pop M)) (gX5_pop (h := h) (M := M) hG)))))) (gX5_push (h := h) (M := M) (v1 := (fX5_plain M v2 (wr32 (Int.tdiv (fX11_get M 7 1600 v3) 10000)))) hG)))) ⟨Or.inr rfl, Or.inr rfl, Or.inr rfl, Or.inr rfl, Or.inl rfl, Or.inl rfl, Or.inl rfl, Or.inl rfl, trivial⟩
        refine T_icmp_ne (pc' := 60) dX5_run_44 (by decide) (pf := 47) rfl (fun c7 => ?_) (fun c7 => ?_)
        · skip
          refine T_iload (i := 5) (pc' := 62) dX5_run_60 rfl rfl ?_
          refine T_iconst (pc' := 63) dX5_run_62 (by decide) rfl ?_
          refine T_icmp_gt (pc' := 80) dX5_run_63 (by decide) (pf := 66) rfl (fun c8 => ?_) (fun c8 => ?_)
          · skip
            refine T_iload (i := 5) (pc' := 82) dX5_run_80 rfl rfl ?_
            refine T_bipush (pc' := 84) dX5_run_82 rfl (by decide) rfl ?_
            refine T_icmp_eq (pc' := 101) dX5_run_84 (by decide) (pf := 87) rfl (fun c9 => ?_) (fun c9 => ?_)
            · skip
              refine T_aload_n (i := 0) (pc' := 102) dX5_run_101 rfl rfl rfl ?_
              refine T_aload_n (i := 1) (pc' := 103) dX5_run_102 rfl rfl rfl ?_
              refine T_iload_n (i := 2) (pc' := 104) dX5_run_103 rfl rfl rfl ?_
              refine T_iload (i := 5) (pc' := 106) dX5_run_104 rfl rfl ?_
              refine T_aload_n (i := 0) (pc' := 107) dX5_run_106 rfl rfl rfl ?_
              refine T_callV (av := []) (st := [(0, (wr32 (Int.tdiv (fX11_get M 7 1600 v3) 10000))), (0, v2), (2, 16), (2, 6)]) (d2 := 2) (nc2 := 0) (ns2 := 0) (pc' := 110) dX5_run_107 rfl mtX5_pop mvX5_pop mlX5_41 cl5 rfl rfl rfl (Nat.le_of_ble_eq_true rfl) (by decide) ⟨by decide, by decide⟩ rfl (pX5_pop (E := E) (h := h) (M := M) hG) (kF (st2 := [(0, (fX5_pop M)), (0, (wr32 (Int.tdiv (fX11_get M 7 1600 v3) 10000))), (0, v2), (2, 16), (2, 6)]) rfl (fun hG10 => ?_))
              refine T_callS (av := [(2, 16), (0, v2), (0, (wr32 (Int.tdiv (fX11_get M 7 1600 v3) 10000))), (0, (fX5_pop M))]) (st := [(2, 6)]) (d2 := 3) (nc2 := 0) (ns2 := 0) (pc' := 113) dX5_run_110 rfl mtX5_ofOne mvX5_ofOne mlX5_45 rfl rfl (Nat.le_of_ble_eq_true rfl) (by decide) ⟨by decide, by decide⟩ rfl (pX5_ofOne (E := E) (h := h) (M := (fmX5_pop M)) (v1 := v2) (v2 := (wr32 (Int.tdiv (fX11_get M 7 1600 v3) 10000))) (v3 := (fX5_pop M)) (gX5_pop (h := h) (M := M) hG)) (kF (st2 := [(0, (fX5_ofOne (fmX5_pop M) v2 (wr32 (Int.tdiv (fX11_get M 7 1600 v3) 10000)) (fX5_pop M))), (2, 6)]) rfl (fun hG11 => ?_))
              refine T_callV (av := [(0, (fX5_ofOne (fmX5_pop M) v2 (wr32 (Int.tdiv (fX11_get M 7 1600 v3) 10000)) (fX5_pop M)))]) (st := []) (d2 := 2) (nc2 := 0) (ns2 := 0) (pc' := 116) dX5_run_113 rfl mtX5_push mvX5_push mlX5_33 cl5 rfl rfl rfl (Nat.le_of_ble_eq_true rfl) (by decide) ⟨by decide, by decide⟩ rfl (pX5_push (E := E) (h := h) (M := (fmX5_pop M)) (v1 := (fX5_ofOne (fmX5_pop M) v2 (wr32 (Int.tdiv (fX11_get M 7 1600 v3) 10000)) (fX5_pop M))) (gX5_pop (h := h) (M := M) hG)) (kF (st2 := []) rfl (fun hG12 => ?_))
              refine T_goto (pc' := 144) dX5_run_116 (by decide) ?_
              exact T_wk (L' := [(2, 6), (2, 16), (0, v2), (0, v3), (3, 0), (3, 0), (3, 0), (3, 0)]) (by have q := HJ6; try simp only [if_neg c7] at q; try simp only [if_pos c8] at q; try simp only [if_pos c9] at q; exact q) ⟨Or.inr rfl, Or.inr rfl, Or.inr rfl, Or.inr rfl, Or.inl rfl, Or.inl rfl, Or.inl rfl, Or.inl rfl, trivial⟩
            · skip
              refine T_iload (i := 5) (pc' := 89) dX5_run_87 rfl rfl ?_
              refine T_bipush (pc' := 91) dX5_run_89 rfl (by decide) rfl ?_
              refine T_icmp_eq (pc' := 101) dX5_run_91 (by decide) (pf := 94) rfl (fun c13 => ?_) (fun c13 => ?_)
              · skip
                refine T_aload_n (i := 0) (pc' := 102) dX5_run_101 rfl rfl rfl ?_
                refine T_aload_n (i := 1) (pc' := 103) dX5_run_102 rfl rfl rfl ?_
                refine T_iload_n (i := 2) (pc' := 104) dX5_run_103 rfl rfl rfl ?_
                refine T_iload (i := 5) (pc' := 106) dX5_run_104 rfl rfl ?_
                refine T_aload_n (i := 0) (pc' := 107) dX5_run_106 rfl rfl rfl ?_
                refine T_callV (av := []) (st := [(0, (wr32 (Int.tdiv (fX11_get M 7 1600 v3) 10000))), (0, v2), (2, 16), (2, 6)]) (d2 := 2) (nc2 := 0) (ns2 := 0) (pc' := 110) dX5_run_107 rfl mtX5_pop mvX5_pop mlX5_41 cl5 rfl rfl rfl (Nat.le_of_ble_eq_true rfl) (by decide) ⟨by decide, by decide⟩ rfl (pX5_pop (E := E) (h := h) (M := M) hG) (kF (st2 := [(0, (fX5_pop M)), (0, (wr32 (Int.tdiv (fX11_get M 7 1600 v3) 10000))), (0, v2), (2, 16), (2, 6)]) rfl (fun hG14 => ?_))
                refine T_callS (av := [(2, 16), (0, v2), (0, (wr32 (Int.tdiv (fX11_get M 7 1600 v3) 10000))), (0, (fX5_pop M))]) (st := [(2, 6)]) (d2 := 3) (nc2 := 0) (ns2 := 0) (pc' := 113) dX5_run_110 rfl mtX5_ofOne mvX5_ofOne mlX5_45 rfl rfl (Nat.le_of_ble_eq_true rfl) (by decide) ⟨by decide, by decide⟩ rfl (pX5_ofOne (E := E) (h := h) (M := (fmX5_pop M)) (v1 := v2) (v2 := (wr32 (Int.tdiv (fX11_get M 7 1600 v3) 10000))) (v3 := (fX5_pop M)) (gX5_pop (h := h) (M := M) hG)) (kF (st2 := [(0, (fX5_ofOne (fmX5_pop M) v2 (wr32 (Int.tdiv (fX11_get M 7 1600 v3) 10000)) (fX5_pop M))), (2, 6)]) rfl (fun hG15 => ?_))
                refine T_callV (av := [(0, (fX5_ofOne (fmX5_pop M) v2 (wr32 (Int.tdiv (fX11_get M 7 1600 v3) 10000)) (fX5_pop M)))]) (st := []) (d2 := 2) (nc2 := 0) (ns2 := 0) (pc' := 116) dX5_run_113 rfl mtX5_push mvX5_push mlX5_33 cl5 rfl rfl rfl (Nat.le_of_ble_eq_true rfl) (by decide) ⟨by decide, by decide⟩ rfl (pX5_push (E := E) (h := h) (M := (fmX5_pop M)) (v1 := (fX5_ofOne (fmX5_pop M) v2 (wr32 (Int.tdiv (fX11_get M 7 1600 v3) 10000)) (fX5_pop M))) (gX5_pop (h := h) (M := M) hG)) (kF (st2 := []) rfl (fun hG16 => ?_))
                refine T_goto (pc' := 144) dX5_run_116 (by decide) ?_
                exact T_wk (L' := [(2, 6), (2, 16), (0, v2), (0, v3), (3, 0), (3, 0), (3, 0), (3, 0)]) (by have q := HJ6; try simp only [if_neg c7] at q; try simp only [if_pos c8] at q; try simp only [if_neg c9] at q; try simp only [if_pos c13] at q; exact q) ⟨Or.inr rfl, Or.inr rfl, Or.inr rfl, Or.inr rfl, Or.inl rfl, Or.inl rfl, Or.inl rfl, Or.inl rfl, trivial⟩
              · skip
                refine T_iload (i := 5) (pc' := 96) dX5_run_94 rfl rfl ?_
                refine T_bipush (pc' := 98) dX5_run_96 rfl (by decide) rfl ?_
                refine T_icmp_ne (pc' := 119) dX5_run_98 (by decide) (pf := 101) rfl (fun c17 => ?_) (fun c17 => ?_)
                · skip
                  refine T_aload_n (i := 0) (pc' := 120) dX5_run_119 rfl rfl rfl ?_
                  refine T_callV (av := []) (st := []) (d2 := 2) (nc2 := 0) (ns2 := 0) (pc' := 123) dX5_run_120 rfl mtX5_pop mvX5_pop mlX5_41 cl5 rfl rfl rfl (Nat.le_of_ble_eq_true rfl) (by decide) ⟨by decide, by decide⟩ rfl (pX5_pop (E := E) (h := h) (M := M) hG) (kF (st2 := [(0, (fX5_pop M))]) rfl (fun hG18 => ?_))
                  refine T_istore (i := 6) (L' := [(2, 6), (2, 16), (0, v2), (0, v3), (0, (fX11_get M 7 1600 v3)), (0, (wr32 (Int.tdiv (fX11_get M 7 1600 v3) 10000))), (0, (fX5_pop M)), (3, 0)]) (pc' := 125) dX5_run_123 (by decide) rfl rfl ?_
                  refine T_aload_n (i := 0) (pc' := 126) dX5_run_125 rfl rfl rfl ?_
                  refine T_callV (av := []) (st := []) (d2 := 2) (nc2 := 0) (ns2 := 0) (pc' := 129) dX5_run_126 rfl mtX5_pop mvX5_pop mlX5_41 cl5 rfl rfl rfl (Nat.le_of_ble_eq_true rfl) (by decide) ⟨by decide, by decide⟩ rfl (pX5_pop (E := E) (h := h) (M := (fmX5_pop M)) (gX5_pop (h := h) (M := M) hG)) (kF (st2 := [(0, (fX5_pop (fmX5_pop M)))]) rfl (fun hG19 => ?_))
                  refine T_istore (i := 7) (L' := [(2, 6), (2, 16), (0, v2), (0, v3), (0, (fX11_get M 7 1600 v3)), (0, (wr32 (Int.tdiv (fX11_get M 7 1600 v3) 10000))), (0, (fX5_pop M)), (0, (fX5_pop (fmX5_pop M)))]) (pc' := 131) dX5_run_129 (by decide) rfl rfl ?_
                  refine T_aload_n (i := 0) (pc' := 132) dX5_run_131 rfl rfl rfl ?_
                  refine T_iload (i := 5) (pc' := 134) dX5_run_132 rfl rfl ?_
                  refine T_iload (i := 7) (pc' := 136) dX5_run_134 rfl rfl ?_
                  refine T_iload (i := 6) (pc' := 138) dX5_run_136 rfl rfl ?_
                  refine T_callS (av := [(0, (wr32 (Int.tdiv (fX11_get M 7 1600 v3) 10000))), (0, (fX5_pop (fmX5_pop M))), (0, (fX5_pop M))]) (st := [(2, 6)]) (d2 := 3) (nc2 := 0) (ns2 := 0) (pc' := 141) dX5_run_138 rfl mtX5_ofTwo mvX5_ofTwo mlX5_49 rfl rfl (Nat.le_of_ble_eq_true rfl) (by decide) ⟨by decide, by decide⟩ rfl (pX5_ofTwo (E := E) (h := h) (M := (fmX5_pop (fmX5_pop M))) (v0 := (wr32 (Int.tdiv (fX11_get M 7 1600 v3) 10000))) (v1 := (fX5_pop (fmX5_pop M))) (v2 := (fX5_pop M)) (gX5_pop (h := h) (M := (fmX5_pop M)) (gX5_pop (h := h) (M := M) hG))) (kF (st2 := [(0, (fX5_ofTwo (wr32 (Int.tdiv (fX11_get M 7 1600 v3) 10000)) (fX5_pop (fmX5_pop M)) (fX5_pop M))), (2, 6)]) rfl (fun hG20 => ?_))
                  refine T_callV (av := [(0, (fX5_ofTwo (wr32 (Int.tdiv (fX11_get M 7 1600 v3) 10000)) (fX5_pop (fmX5_pop M)) (fX5_pop M)))]) (st := []) (d2 := 2) (nc2 := 0) (ns2 := 0) (pc' := 144) dX5_run_141 rfl mtX5_push mvX5_push mlX5_33 cl5 rfl rfl rfl (Nat.le_of_ble_eq_true rfl) (by decide) ⟨by decide, by decide⟩ rfl (pX5_push (E := E) (h := h) (M := (fmX5_pop (fmX5_pop M))) (v1 := (fX5_ofTwo (wr32 (Int.tdiv (fX11_get M 7 1600 v3) 10000)) (fX5_pop (fmX5_pop M)) (fX5_pop M))) (gX5_pop (h := h) (M := (fmX5_pop M)) (gX5_pop (h := h) (M := M) hG))) (kF (st2 := []) rfl (fun hG21 => ?_))
                  exact T_wk (L' := [(2, 6), (2, 16), (0, v2), (0, v3), (3, 0), (3, 0), (3, 0), (3, 0)]) (by have q := HJ6; try simp only [if_neg c7] at q; try simp only [if_pos c8] at q; try simp only [if_neg c9] at q; try simp only [if_neg c13] at q; try simp only [if_neg c17] at q; exact q) ⟨Or.inr rfl, Or.inr rfl, Or.inr rfl, Or.inr rfl, Or.inl rfl, Or.inl rfl, Or.inl rfl, Or.inl rfl, trivial⟩
                · skip
                  refine T_aload_n (i := 0) (pc' := 102) dX5_run_101 rfl rfl rfl ?_
                  refine T_aload_n (i := 1) (pc' := 103) dX5_run_102 rfl rfl rfl ?_
                  refine T_iload_n (i := 2) (pc' := 104) dX5_run_103 rfl rfl rfl ?_
                  refine T_iload (i := 5) (pc' := 106) dX5_run_104 rfl rfl ?_
                  refine T_aload_n (i := 0) (pc' := 107) dX5_run_106 rfl rfl rfl ?_
                  refine T_callV (av := []) (st := [(0, (wr32 (Int.tdiv (fX11_get M 7 1600 v3) 10000))), (0, v2), (2, 16), (2, 6)]) (d2 := 2) (nc2 := 0) (ns2 := 0) (pc' := 110) dX5_run_107 rfl mtX5_pop mvX5_pop mlX5_41 cl5 rfl rfl rfl (Nat.le_of_ble_eq_true rfl) (by decide) ⟨by decide, by decide⟩ rfl (pX5_pop (E := E) (h := h) (M := M) hG) (kF (st2 := [(0, (fX5_pop M)), (0, (wr32 (Int.tdiv (fX11_get M 7 1600 v3) 10000))), (0, v2), (2, 16), (2, 6)]) rfl (fun hG22 => ?_))
                  refine T_callS (av := [(2, 16), (0, v2), (0, (wr32 (Int.tdiv (fX11_get M 7 1600 v3) 10000))), (0, (fX5_pop M))]) (st := [(2, 6)]) (d2 := 3) (nc2 := 0) (ns2 := 0) (pc' := 113) dX5_run_110 rfl mtX5_ofOne mvX5_ofOne mlX5_45 rfl rfl (Nat.le_of_ble_eq_true rfl) (by decide) ⟨by decide, by decide⟩ rfl (pX5_ofOne (E := E) (h := h) (M := (fmX5_pop M)) (v1 := v2) (v2 := (wr32 (Int.tdiv (fX11_get M 7 1600 v3) 10000))) (v3 := (fX5_pop M)) (gX5_pop (h := h) (M := M) hG)) (kF (st2 := [(0, (fX5_ofOne (fmX5_pop M) v2 (wr32 (Int.tdiv (fX11_get M 7 1600 v3) 10000)) (fX5_pop M))), (2, 6)]) rfl (fun hG23 => ?_))
                  refine T_callV (av := [(0, (fX5_ofOne (fmX5_pop M) v2 (wr32 (Int.tdiv (fX11_get M 7 1600 v3) 10000)) (fX5_pop M)))]) (st := []) (d2 := 2) (nc2 := 0) (ns2 := 0) (pc' := 116) dX5_run_113 rfl mtX5_push mvX5_push mlX5_33 cl5 rfl rfl rfl (Nat.le_of_ble_eq_true rfl) (by decide) ⟨by decide, by decide⟩ rfl (pX5_push (E := E) (h := h) (M := (fmX5_pop M)) (v1 := (fX5_ofOne (fmX5_pop M) v2 (wr32 (Int.tdiv (fX11_get M 7 1600 v3) 10000)) (fX5_pop M))) (gX5_pop (h := h) (M := M) hG)) (kF (st2 := []) rfl (fun hG24 => ?_))
                  refine T_goto (pc' := 144) dX5_run_116 (by decide) ?_
                  exact T_wk (L' := [(2, 6), (2, 16), (0, v2), (0, v3), (3, 0), (3, 0), (3, 0), (3, 0)]) (by have q := HJ6; try simp only [if_neg c7] at q; try simp only [if_pos c8] at q; try simp only [if_neg c9] at q; try simp only [if_neg c13] at q; try simp only [if_pos c17] at q; exact q) ⟨Or.inr rfl, Or.inr rfl, Or.inr rfl, Or.inr rfl, Or.inl rfl, Or.inl rfl, Or.inl rfl, Or.inl rfl, trivial⟩
          · skip
            refine T_aload_n (i := 0) (pc' := 67) dX5_run_66 rfl rfl rfl ?_
            refine T_aload_n (i := 1) (pc' := 68) dX5_run_67 rfl rfl rfl ?_
            refine T_iload_n (i := 2) (pc' := 69) dX5_run_68 rfl rfl rfl ?_
            refine T_iload (i := 5) (pc' := 71) dX5_run_69 rfl rfl ?_
            refine T_callS (av := [(2, 16), (0, v2), (0, (wr32 (Int.tdiv (fX11_get M 7 1600 v3) 10000)))]) (st := [(2, 6)]) (d2 := 3) (nc2 := 0) (ns2 := 0) (pc' := 74) dX5_run_71 rfl mtX5_plain mvX5_plain mlX5_37 rfl rfl (Nat.le_of_ble_eq_true rfl) (by decide) ⟨by decide, by decide⟩ rfl (pX5_plain (E := E) (h := h) (M := M) (v1 := v2) (v2 := (wr32 (Int.tdiv (fX11_get M 7 1600 v3) 10000))) hG) (kF (st2 := [(0, (fX5_plain M v2 (wr32 (Int.tdiv (fX11_get M 7 1600 v3) 10000)))), (2, 6)]) rfl (fun hG25 => ?_))
            refine T_callV (av := [(0, (fX5_plain M v2 (wr32 (Int.tdiv (fX11_get M 7 1600 v3) 10000))))]) (st := []) (d2 := 2) (nc2 := 0) (ns2 := 0) (pc' := 77) dX5_run_74 rfl mtX5_push mvX5_push mlX5_33 cl5 rfl rfl rfl (Nat.le_of_ble_eq_true rfl) (by decide) ⟨by decide, by decide⟩ rfl (pX5_push (E := E) (h := h) (M := M) (v1 := (fX5_plain M v2 (wr32 (Int.tdiv (fX11_get M 7 1600 v3) 10000)))) hG) (kF (st2 := []) rfl (fun hG26 => ?_))
            refine T_goto (pc' := 144) dX5_run_77 (by decide) ?_
            exact T_wk (L' := [(2, 6), (2, 16), (0, v2), (0, v3), (3, 0), (3, 0), (3, 0), (3, 0)]) (by have q := HJ6; try simp only [if_neg c7] at q; try simp only [if_neg c8] at q; exact q) ⟨Or.inr rfl, Or.inr rfl, Or.inr rfl, Or.inr rfl, Or.inl rfl, Or.inl rfl, Or.inl rfl, Or.inl rfl, trivial⟩
        · skip
          refine T_aload_n (i := 0) (pc' := 48) dX5_run_47 rfl rfl rfl ?_
          refine T_iload (i := 4) (pc' := 50) dX5_run_48 rfl rfl ?_
          refine T_sipush (pc' := 53) dX5_run_50 rfl (by decide) rfl ?_
          refine T_irem (pc' := 54) dX5_run_53 (by decide) rfl ?_
          refine T_callV (av := [(0, (Int.tmod (fX11_get M 7 1600 v3) 10000))]) (st := []) (d2 := 2) (nc2 := 0) (ns2 := 0) (pc' := 57) dX5_run_54 rfl mtX5_push mvX5_push mlX5_33 cl5 rfl rfl rfl (Nat.le_of_ble_eq_true rfl) (by decide) ⟨by decide, by decide⟩ rfl (pX5_push (E := E) (h := h) (M := M) (v1 := (Int.tmod (fX11_get M 7 1600 v3) 10000)) hG) (kF (st2 := []) rfl (fun hG27 => ?_))
          refine T_goto (pc' := 144) dX5_run_57 (by decide) ?_
          exact T_wk (L' := [(2, 6), (2, 16), (0, v2), (0, v3), (3, 0), (3, 0), (3, 0), (3, 0)]) (by have q := HJ6; try simp only [if_pos c7] at q; exact q) ⟨Or.inr rfl, Or.inr rfl, Or.inr rfl, Or.inr rfl, Or.inl rfl, Or.inl rfl, Or.inl rfl, Or.inl rfl, trivial⟩
def fX5_run (M : Mem) (v2 : Int) : Int :=
  (lX5_run_7 (((((mset M 6 3 0) 6 2)) : Int) - 0).toNat v2 0 (mset M 6 3 0))
def fmX5_run (M : Mem) (v2 : Int) : Mem :=
  (lmX5_run_7 (((((mset M 6 3 0) 6 2)) : Int) - 0).toNat v2 0 (mset M 6 3 0))
theorem frX5_run {M : Mem} {v2 : Int} {q : Int} (hq0 : q ≠ 6) (hq1 : q ≠ 8) : (fmX5_run M v2) q = M q := by
  unfold fmX5_run
  repeat' (first | rfl | rw [mset_p hq0] | rw [mset_p hq1] | rw [mcpy_p hq0] | rw [mcpy_p hq1] | (rw [frX5_pop] <;> try assumption) | (rw [frX5_push] <;> try assumption) | (rw [frlX5_run_7] <;> try assumption) | rw [ite_ap] | split)
theorem gX5_run {h : Int} {M : Mem} {v2 : Int}  (hG : G h M) : G h (fmX5_run M v2) := by
  unfold fmX5_run
  exact (glX5_run_7 (G_fld (x := 6) (i := 3) (y := 0) rfl (by decide) (by decide) (by decide) hG))
set_option maxRecDepth 100000 in
theorem pX5_run {E : EV} {h : Int} {M : Mem} {v2 : Int}  : C2 E miX5_run 4 h [(2, 6), (2, 16), (0, v2)] M (fun r M' => r = some (0, (fX5_run M v2)) ∧ M' = (fmX5_run M v2)) := by
  obtain ⟨Q, hQ0⟩ : ∃ Q : Option MV → Mem → Prop, Q = (fun r M' => r = some (0, (fX5_run M v2)) ∧ M' = (fmX5_run M v2)) := ⟨_, rfl⟩
  rw [← hQ0]
  have hQ : Q (some (0, (lX5_run_7 (((((mset M 6 3 0) 6 2)) : Int) - 0).toNat v2 0 (mset M 6 3 0)))) (lmX5_run_7 (((((mset M 6 3 0) 6 2)) : Int) - 0).toNat v2 0 (mset M 6 3 0)) := by rw [hQ0]; exact ⟨rfl, rfl⟩
  refine C2_of (L := [(2, 6), (2, 16), (0, v2), (3, 0), (3, 0), (3, 0), (3, 0), (3, 0)]) (by decide +kernel) (Nat.le_of_ble_eq_true rfl) rfl (fun hG => ?_)
  refine T_aload_n (i := 0) (pc' := 1) dX5_run_0 rfl rfl rfl ?_
  refine T_iconst (pc' := 2) dX5_run_1 (by decide) rfl ?_
  refine U_pf (y := 0) (k := 3) (kI := 3) (pc' := 5) dX5_run_2 rfl cl5 (by decide) rfl (by decide) flX5_22 rfl rfl rfl rfl rfl (by decide) (fun z => z) rfl ?_
  refine T_iconst (pc' := 6) dX5_run_5 (by decide) rfl ?_
  refine T_istore_n (i := 3) (L' := [(2, 6), (2, 16), (0, v2), (0, 0), (3, 0), (3, 0), (3, 0), (3, 0)]) (pc' := 7) dX5_run_6 rfl (by decide) rfl rfl ?_
  exact T_wk (qX5_run_7  _ v2 0 _ (by first | decide | omega) rfl hQ (G_fld (x := 6) (i := 3) (y := 0) rfl (by decide) (by decide) (by decide) hG)) ⟨Or.inr rfl, Or.inr rfl, Or.inr rfl, Or.inr rfl, Or.inl rfl, Or.inl rfl, Or.inl rfl, Or.inl rfl, trivial⟩
def fX6_deeper (v1 : Int) : Int :=
  (if v1 < 6 then (1 : Int) else (if fX9_fail = 0 then (0 : Int) else 1))
def fmX6_deeper (M : Mem) (v1 : Int) : Mem :=
  (if v1 < 6 then M else (fmX9_fail M 4 (M 3 2)))
theorem gX6_deeper {h : Int} {M : Mem} {v1 : Int}  (hG : G h M) : G h (fmX6_deeper M v1) := by
  unfold fmX6_deeper
  exact (G_ite hG (gX9_fail (h := h) (M := M) (v1 := 4) (v2 := (M 3 2)) hG))
set_option maxRecDepth 100000 in
theorem pX6_deeper {E : EV} {h : Int} {M : Mem} {v1 : Int}  : C2 E miX6_deeper 2 h [(2, 5), (0, v1)] M (fun r M' => r = some (0, (fX6_deeper v1)) ∧ M' = (fmX6_deeper M v1)) := by
  obtain ⟨Q, hQ⟩ : ∃ Q : Option MV → Mem → Prop, Q = (fun r M' => r = some (0, (fX6_deeper v1)) ∧ M' = (fmX6_deeper M v1)) := ⟨_, rfl⟩
  rw [← hQ]
  refine C2_of (L := [(2, 5), (0, v1)]) (by decide +kernel) (Nat.le_of_ble_eq_true rfl) rfl (fun hG => ?_)
  refine T_iload_n (i := 1) (pc' := 1) dX6_deeper_0 rfl rfl rfl ?_
  refine T_bipush (pc' := 3) dX6_deeper_1 rfl (by decide) rfl ?_
  have HJ1 : T E miX6_deeper 2 126 0 0 (fun r S M' => S = S0 ∧ G h M' ∧ Q r M') 29 [(3, 0), (3, 0)] [(0, (if v1 < 6 then (1 : Int) else (if fX9_fail = 0 then (0 : Int) else 1)))] S0 (if v1 < 6 then M else (fmX9_fail M 4 (M 3 2))) 0 0 := by
    exact T_zret dX6_deeper_29 rfl (by repeat' (first | apply bi | exact Or.inl rfl | exact Or.inr rfl | apply fbX9_fail)) ⟨rfl, (G_ite hG (gX9_fail (h := h) (M := M) (v1 := 4) (v2 := (M 3 2)) hG)), (by rw [hQ]; exact ⟨rfl, rfl⟩)⟩
  refine T_icmp_lt (pc' := 24) dX6_deeper_3 (by decide) (pf := 6) rfl (fun c2 => ?_) (fun c2 => ?_)
  · skip
    refine T_iconst (pc' := 25) dX6_deeper_24 (by decide) rfl ?_
    refine T_goto (pc' := 29) dX6_deeper_25 (by decide) ?_
    exact T_wk (L' := [(3, 0), (3, 0)]) (by have q := HJ1; try simp only [if_pos c2] at q; exact q) ⟨Or.inl rfl, Or.inl rfl, trivial⟩
  · skip
    refine T_aload_n (i := 0) (pc' := 7) dX6_deeper_6 rfl rfl rfl ?_
    refine U_gr (q := 3) (k := 0) (kI := 0) (pc' := 10) dX6_deeper_7 rfl cl6 (by decide) rfl (by decide) flX6_9 rfl rfl rfl (G_at hG 12 rfl) (by decide) rfl ?_
    refine T_iconst (pc' := 11) dX6_deeper_10 (by decide) rfl ?_
    refine T_aload_n (i := 0) (pc' := 12) dX6_deeper_11 rfl rfl rfl ?_
    refine U_gr (q := 3) (k := 0) (kI := 0) (pc' := 15) dX6_deeper_12 rfl cl6 (by decide) rfl (by decide) flX6_9 rfl rfl rfl (G_at hG 12 rfl) (by decide) rfl ?_
    refine U_gfN (v := (0, (M 3 2))) (k := 2) (kI := 2) (pc' := 18) dX6_deeper_15 rfl cl9 (by decide) rfl (by decide) flX6_57 rfl rfl (by decide) rfl rfl ?_
    refine T_callV (av := [(0, 4), (0, (M 3 2))]) (st := []) (d2 := 1) (nc2 := 0) (ns2 := 0) (pc' := 21) dX6_deeper_18 rfl mtX9_fail mvX9_fail mlX6_60 cl9 rfl rfl rfl (Nat.le_of_ble_eq_true rfl) (by decide) ⟨by decide, by decide⟩ rfl (pX9_fail (E := E) (h := h) (M := M) (v1 := 4) (v2 := (M 3 2)) hG) (kF (st2 := [(0, fX9_fail)]) rfl (fun hG3 => ?_))
    refine T_if_eq (pc' := 28) dX6_deeper_21 (by decide) (pf := 24) rfl (fun c4 => ?_) (fun c4 => ?_)
    · skip
      refine T_iconst (pc' := 29) dX6_deeper_28 (by decide) rfl ?_
      exact T_wk (L' := [(3, 0), (3, 0)]) (by have q := HJ1; try simp only [if_neg c2] at q; try simp only [if_pos c4] at q; exact q) ⟨Or.inl rfl, Or.inl rfl, trivial⟩
    · skip
      refine T_iconst (pc' := 25) dX6_deeper_24 (by decide) rfl ?_
      refine T_goto (pc' := 29) dX6_deeper_25 (by decide) ?_
      exact T_wk (L' := [(3, 0), (3, 0)]) (by have q := HJ1; try simp only [if_neg c2] at q; try simp only [if_neg c4] at q; exact q) ⟨Or.inl rfl, Or.inl rfl, trivial⟩
theorem frX6_deeper {M : Mem} {v1 : Int}  {q : Int} (hq0 : q ≠ 3) : (fmX6_deeper M v1) q = M q := by
  unfold fmX6_deeper
  repeat' (first | rfl | rw [mset_p hq0] | rw [mcpy_p hq0] | (rw [frX9_fail] <;> try assumption) | rw [ite_ap] | split)
theorem fbX6_deeper (v1 : Int) : (fX6_deeper v1) = 0 ∨ (fX6_deeper v1) = 1 := by
  unfold fX6_deeper
  repeat' (first | apply bi | exact Or.inl rfl | exact Or.inr rfl | apply fbX9_fail)
def lX6_extreme_14  : Nat → Int → Int → Int → Mem → Int
  | 0, v2, v3, v5, M => v3
  | k + 1, v2, v3, v5, M => (lX6_extreme_14 k v2 (if v2 = 0 then (if (fX5_run M v5) < v3 then (fX5_run M v5) else v3) else (if (fX5_run M v5) < v3 then v3 else (fX5_run M v5))) (v5 + 1) (fmX5_run M v5))
def lmX6_extreme_14  : Nat → Int → Int → Int → Mem → Mem
  | 0, v2, v3, v5, M => M
  | k + 1, v2, v3, v5, M => (lmX6_extreme_14 k v2 (if v2 = 0 then (if (fX5_run M v5) < v3 then (fX5_run M v5) else v3) else (if (fX5_run M v5) < v3 then v3 else (fX5_run M v5))) (v5 + 1) (fmX5_run M v5))
theorem frlX6_extreme_14  {q : Int} (hq0 : q ≠ 6) (hq1 : q ≠ 8) : ∀ {k : Nat} {v2 v3 v5 : Int} {M : Mem}, (lmX6_extreme_14  k v2 v3 v5 M) q = M q := by
  intro k
  induction k with
  | zero =>
    intro v2 v3 v5 M
    show M q = M q
    repeat' (first | rfl | rw [mset_p hq0] | rw [mset_p hq1] | rw [mcpy_p hq0] | rw [mcpy_p hq1] | (rw [frX5_run] <;> try assumption) | rw [ite_ap] | split)
  | succ k ih =>
    intro v2 v3 v5 M
    show (lmX6_extreme_14 k v2 (if v2 = 0 then (if (fX5_run M v5) < v3 then (fX5_run M v5) else v3) else (if (fX5_run M v5) < v3 then v3 else (fX5_run M v5))) (v5 + 1) (fmX5_run M v5)) q = M q
    repeat' (first | rfl | rw [mset_p hq0] | rw [mset_p hq1] | rw [mcpy_p hq0] | rw [mcpy_p hq1] | (rw [frX5_run] <;> try assumption) | rw [ite_ap] | split | rw [ih])
theorem glX6_extreme_14 {h : Int}   : ∀ {k : Nat} {v2 v3 v5 : Int} {M : Mem}, G h M → G h (lmX6_extreme_14  k v2 v3 v5 M) := by
  intro k
  induction k with
  | zero =>
    intro v2 v3 v5 M hG
    show G h M
    exact hG
  | succ k ih =>
    intro v2 v3 v5 M hG
    show G h (lmX6_extreme_14 k v2 (if v2 = 0 then (if (fX5_run M v5) < v3 then (fX5_run M v5) else v3) else (if (fX5_run M v5) < v3 then v3 else (fX5_run M v5))) (v5 + 1) (fmX5_run M v5))
    exact (ih (gX5_run (h := h) (M := M) (v2 := v5) hG))
set_option maxRecDepth 100000 in
set_option maxHeartbeats 2000000 in
theorem qX6_extreme_14 {E : EV} {h : Int} {Q : Option MV → Mem → Prop}   : ∀ (k : Nat) (v2 v3 v5 : Int) (M : Mem), 0 ≤ v5 → ((201) - v5).toNat = k → Q (some (1, (lX6_extreme_14 k v2 v3 v5 M))) (lmX6_extreme_14 k v2 v3 v5 M) → G h M → TG E miX6_extreme 5 h Q 14 [(2, 5), (2, 16), (0, v2), (1, v3), (3, 0), (0, v5), (3, 0), (3, 0)] [] M := by
  intro k
  induction k with
  | zero =>
    intro v2 v3 v5 M hv0 hk hQ hG
    have hQ : Q (some (1, v3)) M := hQ
    refine T_iload (i := 5) (pc' := 16) dX6_extreme_14 rfl rfl ?_
    refine T_sipush (pc' := 19) dX6_extreme_16 rfl (by decide) rfl ?_
    refine T_rng (fun _ z9 _ => ?_)
    have hB : r32 201 := (ok_cons.mp z9).1
    unfold r32 at hB
    refine T_icmp_ge (pc' := 61) dX6_extreme_19 (by decide) (pf := 22) rfl (fun c1 => ?_) (fun c1 => ?_)
    · skip
      refine T_lload_n (i := 3) (pc' := 62) dX6_extreme_61 rfl rfl rfl ?_
      exact T_lret dX6_extreme_62 rfl ⟨rfl, hG, hQ⟩
    · exact absurd c1 (by omega)
  | succ k ih =>
    intro v2 v3 v5 M hv0 hk hQ hG
    have hQ : Q (some (1, (lX6_extreme_14 k v2 (if v2 = 0 then (if (fX5_run M v5) < v3 then (fX5_run M v5) else v3) else (if (fX5_run M v5) < v3 then v3 else (fX5_run M v5))) (v5 + 1) (fmX5_run M v5)))) (lmX6_extreme_14 k v2 (if v2 = 0 then (if (fX5_run M v5) < v3 then (fX5_run M v5) else v3) else (if (fX5_run M v5) < v3 then v3 else (fX5_run M v5))) (v5 + 1) (fmX5_run M v5)) := hQ
    refine T_iload (i := 5) (pc' := 16) dX6_extreme_14 rfl rfl ?_
    refine T_sipush (pc' := 19) dX6_extreme_16 rfl (by decide) rfl ?_
    refine T_rng (fun _ z9 _ => ?_)
    have hB : r32 201 := (ok_cons.mp z9).1
    unfold r32 at hB
    refine T_icmp_ge (pc' := 61) dX6_extreme_19 (by decide) (pf := 22) rfl (fun c1 => ?_) (fun c1 => ?_)
    · exact absurd c1 (by omega)
    · skip
      have hw : wr32 (v5 + 1) = v5 + 1 := wr32_id (by unfold r32; omega)
      refine T_aload_n (i := 0) (pc' := 23) dX6_extreme_22 rfl rfl rfl ?_
      refine U_gr (q := 6) (k := 1) (kI := 1) (pc' := 26) dX6_extreme_23 rfl cl6 (by decide) rfl (by decide) flX6_18 rfl rfl rfl (G_at hG 13 rfl) (by decide) rfl ?_
      refine T_aload_n (i := 1) (pc' := 27) dX6_extreme_26 rfl rfl rfl ?_
      refine T_iload (i := 5) (pc' := 29) dX6_extreme_27 rfl rfl ?_
      refine T_callV (av := [(2, 16), (0, v5)]) (st := []) (d2 := 4) (nc2 := 0) (ns2 := 0) (pc' := 32) dX6_extreme_29 rfl mtX5_run mvX5_run mlX6_130 cl5 rfl rfl rfl (Nat.le_of_ble_eq_true rfl) (by decide) ⟨by decide, by decide⟩ rfl (pX5_run (E := E) (h := h) (M := M) (v2 := v5) hG) (kF (st2 := [(0, (fX5_run M v5))]) rfl (fun hG2 => ?_))
      refine T_i2l (pc' := 33) dX6_extreme_32 rfl ?_
      refine T_lstore (i := 6) (L' := [(2, 5), (2, 16), (0, v2), (1, v3), (3, 0), (0, v5), (1, (fX5_run M v5)), (3, 0)]) (pc' := 35) dX6_extreme_33 (by decide) rfl rfl ?_
      refine T_iload_n (i := 2) (pc' := 36) dX6_extreme_35 rfl rfl rfl ?_
      have HJ3 : T E miX6_extreme 5 126 0 0 (fun r S M' => S = S0 ∧ G h M' ∧ Q r M') 54 [(2, 5), (2, 16), (0, v2), (3, 0), (3, 0), (0, v5), (3, 0), (3, 0)] [(1, (if v2 = 0 then (if (fX5_run M v5) < v3 then (fX5_run M v5) else v3) else (if (fX5_run M v5) < v3 then v3 else (fX5_run M v5))))] S0 (fmX5_run M v5) 0 0 := by
        refine T_lstore_n (i := 3) (L' := [(2, 5), (2, 16), (0, v2), (1, (if v2 = 0 then (if (fX5_run M v5) < v3 then (fX5_run M v5) else v3) else (if (fX5_run M v5) < v3 then v3 else (fX5_run M v5)))), (3, 0), (0, v5), (3, 0), (3, 0)]) (pc' := 55) dX6_extreme_54 rfl (by decide) rfl rfl ?_
        refine T_iinc (L' := [(2, 5), (2, 16), (0, v2), (1, (if v2 = 0 then (if (fX5_run M v5) < v3 then (fX5_run M v5) else v3) else (if (fX5_run M v5) < v3 then v3 else (fX5_run M v5)))), (3, 0), (0, (wr32 (v5 + 1))), (3, 0), (3, 0)]) (pc' := 58) dX6_extreme_55 rfl (by decide) rfl rfl ?_
        refine T_goto (pc' := 14) dX6_extreme_58 (by decide) ?_
        rw [hw]
        exact T_wk (ih _ _ (v5 + 1) _ (by omega) (by omega) hQ (gX5_run (h := h) (M := M) (v2 := v5) hG)) ⟨Or.inr rfl, Or.inr rfl, Or.inr rfl, Or.inr rfl, Or.inl rfl, Or.inr rfl, Or.inl rfl, Or.inl rfl, trivial⟩
      refine T_if_eq (pc' := 48) dX6_extreme_36 (by decide) (pf := 39) rfl (fun c4 => ?_) (fun c4 => ?_)
      · skip
        refine T_lload_n (i := 3) (pc' := 49) dX6_extreme_48 rfl rfl rfl ?_
        refine T_lload (i := 6) (pc' := 51) dX6_extreme_49 rfl rfl ?_
        refine U_mminL (pc' := 54) dX6_extreme_51 rfl mlX6_142 (Nat.le_of_ble_eq_true rfl) (by decide) ⟨by decide, by decide⟩ rfl ?_
        exact T_wk (L' := [(2, 5), (2, 16), (0, v2), (3, 0), (3, 0), (0, v5), (3, 0), (3, 0)]) (by have q := HJ3; try simp only [if_pos c4] at q; exact q) ⟨Or.inr rfl, Or.inr rfl, Or.inr rfl, Or.inl rfl, Or.inl rfl, Or.inr rfl, Or.inl rfl, Or.inl rfl, trivial⟩
      · skip
        refine T_lload_n (i := 3) (pc' := 40) dX6_extreme_39 rfl rfl rfl ?_
        refine T_lload (i := 6) (pc' := 42) dX6_extreme_40 rfl rfl ?_
        refine U_mmaxL (pc' := 45) dX6_extreme_42 rfl mlX6_136 (Nat.le_of_ble_eq_true rfl) (by decide) ⟨by decide, by decide⟩ rfl ?_
        refine T_goto (pc' := 54) dX6_extreme_45 (by decide) ?_
        exact T_wk (L' := [(2, 5), (2, 16), (0, v2), (3, 0), (3, 0), (0, v5), (3, 0), (3, 0)]) (by have q := HJ3; try simp only [if_neg c4] at q; exact q) ⟨Or.inr rfl, Or.inr rfl, Or.inr rfl, Or.inl rfl, Or.inl rfl, Or.inr rfl, Or.inl rfl, Or.inl rfl, trivial⟩
def fX6_extreme (M : Mem) (v2 : Int) : Int :=
  (lX6_extreme_14 200 v2 (fX5_run M 0) 1 (fmX5_run M 0))
def fmX6_extreme (M : Mem) (v2 : Int) : Mem :=
  (lmX6_extreme_14 200 v2 (fX5_run M 0) 1 (fmX5_run M 0))
theorem frX6_extreme {M : Mem} {v2 : Int} {q : Int} (hq0 : q ≠ 6) (hq1 : q ≠ 8) : (fmX6_extreme M v2) q = M q := by
  unfold fmX6_extreme
  repeat' (first | rfl | rw [mset_p hq0] | rw [mset_p hq1] | rw [mcpy_p hq0] | rw [mcpy_p hq1] | (rw [frX5_run] <;> try assumption) | (rw [frlX6_extreme_14] <;> try assumption) | rw [ite_ap] | split)
theorem gX6_extreme {h : Int} {M : Mem} {v2 : Int}  (hG : G h M) : G h (fmX6_extreme M v2) := by
  unfold fmX6_extreme
  exact (glX6_extreme_14 (gX5_run (h := h) (M := M) (v2 := 0) hG))
set_option maxRecDepth 100000 in
theorem pX6_extreme {E : EV} {h : Int} {M : Mem} {v2 : Int}  : C2 E miX6_extreme 5 h [(2, 5), (2, 16), (0, v2)] M (fun r M' => r = some (1, (fX6_extreme M v2)) ∧ M' = (fmX6_extreme M v2)) := by
  obtain ⟨Q, hQ0⟩ : ∃ Q : Option MV → Mem → Prop, Q = (fun r M' => r = some (1, (fX6_extreme M v2)) ∧ M' = (fmX6_extreme M v2)) := ⟨_, rfl⟩
  rw [← hQ0]
  have hQ : Q (some (1, (lX6_extreme_14 200 v2 (fX5_run M 0) 1 (fmX5_run M 0)))) (lmX6_extreme_14 200 v2 (fX5_run M 0) 1 (fmX5_run M 0)) := by rw [hQ0]; exact ⟨rfl, rfl⟩
  refine C2_of (L := [(2, 5), (2, 16), (0, v2), (3, 0), (3, 0), (3, 0), (3, 0), (3, 0)]) (by decide +kernel) (Nat.le_of_ble_eq_true rfl) rfl (fun hG => ?_)
  refine T_aload_n (i := 0) (pc' := 1) dX6_extreme_0 rfl rfl rfl ?_
  refine U_gr (q := 6) (k := 1) (kI := 1) (pc' := 4) dX6_extreme_1 rfl cl6 (by decide) rfl (by decide) flX6_18 rfl rfl rfl (G_at hG 13 rfl) (by decide) rfl ?_
  refine T_aload_n (i := 1) (pc' := 5) dX6_extreme_4 rfl rfl rfl ?_
  refine T_iconst (pc' := 6) dX6_extreme_5 (by decide) rfl ?_
  refine T_callV (av := [(2, 16), (0, 0)]) (st := []) (d2 := 4) (nc2 := 0) (ns2 := 0) (pc' := 9) dX6_extreme_6 rfl mtX5_run mvX5_run mlX6_130 cl5 rfl rfl rfl (Nat.le_of_ble_eq_true rfl) (by decide) ⟨by decide, by decide⟩ rfl (pX5_run (E := E) (h := h) (M := M) (v2 := 0) hG) (kF (st2 := [(0, (fX5_run M 0))]) rfl (fun hG1 => ?_))
  refine T_i2l (pc' := 10) dX6_extreme_9 rfl ?_
  refine T_lstore_n (i := 3) (L' := [(2, 5), (2, 16), (0, v2), (1, (fX5_run M 0)), (3, 0), (3, 0), (3, 0), (3, 0)]) (pc' := 11) dX6_extreme_10 rfl (by decide) rfl rfl ?_
  refine T_iconst (pc' := 12) dX6_extreme_11 (by decide) rfl ?_
  refine T_istore (i := 5) (L' := [(2, 5), (2, 16), (0, v2), (1, (fX5_run M 0)), (3, 0), (0, 1), (3, 0), (3, 0)]) (pc' := 14) dX6_extreme_12 (by decide) rfl rfl ?_
  exact T_wk (qX6_extreme_14  200 v2 (fX5_run M 0) 1 _ (by first | decide | omega) rfl hQ (gX5_run (h := h) (M := M) (v2 := 0) hG)) ⟨Or.inr rfl, Or.inr rfl, Or.inr rfl, Or.inr rfl, Or.inl rfl, Or.inr rfl, Or.inl rfl, Or.inl rfl, trivial⟩
def lX6_firstTrue_2  : Nat → Int → Mem → Int
  | 0, v2, M => (-1)
  | k + 1, v2, M => (if (fX5_run M v2) = 0 then (lX6_firstTrue_2 k (v2 + 1) (fmX5_run M v2)) else v2)
def lmX6_firstTrue_2  : Nat → Int → Mem → Mem
  | 0, v2, M => M
  | k + 1, v2, M => (if (fX5_run M v2) = 0 then (lmX6_firstTrue_2 k (v2 + 1) (fmX5_run M v2)) else (fmX5_run M v2))
theorem frlX6_firstTrue_2  {q : Int} (hq0 : q ≠ 6) (hq1 : q ≠ 8) : ∀ {k : Nat} {v2 : Int} {M : Mem}, (lmX6_firstTrue_2  k v2 M) q = M q := by
  intro k
  induction k with
  | zero =>
    intro v2 M
    show M q = M q
    repeat' (first | rfl | rw [mset_p hq0] | rw [mset_p hq1] | rw [mcpy_p hq0] | rw [mcpy_p hq1] | (rw [frX5_run] <;> try assumption) | rw [ite_ap] | split)
  | succ k ih =>
    intro v2 M
    show (if (fX5_run M v2) = 0 then (lmX6_firstTrue_2 k (v2 + 1) (fmX5_run M v2)) else (fmX5_run M v2)) q = M q
    repeat' (first | rfl | rw [mset_p hq0] | rw [mset_p hq1] | rw [mcpy_p hq0] | rw [mcpy_p hq1] | (rw [frX5_run] <;> try assumption) | rw [ite_ap] | split | rw [ih])
theorem glX6_firstTrue_2 {h : Int}   : ∀ {k : Nat} {v2 : Int} {M : Mem}, G h M → G h (lmX6_firstTrue_2  k v2 M) := by
  intro k
  induction k with
  | zero =>
    intro v2 M hG
    show G h M
    exact hG
  | succ k ih =>
    intro v2 M hG
    show G h (if (fX5_run M v2) = 0 then (lmX6_firstTrue_2 k (v2 + 1) (fmX5_run M v2)) else (fmX5_run M v2))
    exact (G_ite (ih (gX5_run (h := h) (M := M) (v2 := v2) hG)) (gX5_run (h := h) (M := M) (v2 := v2) hG))
set_option maxRecDepth 100000 in
set_option maxHeartbeats 2000000 in
theorem qX6_firstTrue_2 {E : EV} {h : Int} {Q : Option MV → Mem → Prop}   : ∀ (k : Nat) (v2 : Int) (M : Mem), 0 ≤ v2 → ((201) - v2).toNat = k → Q (some (1, (lX6_firstTrue_2 k v2 M))) (lmX6_firstTrue_2 k v2 M) → G h M → TG E miX6_firstTrue 5 h Q 2 [(2, 5), (2, 16), (0, v2)] [] M := by
  intro k
  induction k with
  | zero =>
    intro v2 M hv0 hk hQ hG
    have hQ : Q (some (1, (-1))) M := hQ
    refine T_iload_n (i := 2) (pc' := 3) dX6_firstTrue_2 rfl rfl rfl ?_
    refine T_sipush (pc' := 6) dX6_firstTrue_3 rfl (by decide) rfl ?_
    refine T_rng (fun _ z9 _ => ?_)
    have hB : r32 201 := (ok_cons.mp z9).1
    unfold r32 at hB
    refine T_icmp_ge (pc' := 30) dX6_firstTrue_6 (by decide) (pf := 9) rfl (fun c1 => ?_) (fun c1 => ?_)
    · skip
      refine T_ldc2 (n := (-1)) (pc' := 33) dX6_firstTrue_30 rfl kjX6_134 rfl (by decide) rfl ?_
      exact T_lret dX6_firstTrue_33 rfl ⟨rfl, hG, hQ⟩
    · exact absurd c1 (by omega)
  | succ k ih =>
    intro v2 M hv0 hk hQ hG
    have hQ : Q (some (1, (if (fX5_run M v2) = 0 then (lX6_firstTrue_2 k (v2 + 1) (fmX5_run M v2)) else v2))) (if (fX5_run M v2) = 0 then (lmX6_firstTrue_2 k (v2 + 1) (fmX5_run M v2)) else (fmX5_run M v2)) := hQ
    refine T_iload_n (i := 2) (pc' := 3) dX6_firstTrue_2 rfl rfl rfl ?_
    refine T_sipush (pc' := 6) dX6_firstTrue_3 rfl (by decide) rfl ?_
    refine T_rng (fun _ z9 _ => ?_)
    have hB : r32 201 := (ok_cons.mp z9).1
    unfold r32 at hB
    refine T_icmp_ge (pc' := 30) dX6_firstTrue_6 (by decide) (pf := 9) rfl (fun c1 => ?_) (fun c1 => ?_)
    · exact absurd c1 (by omega)
    · skip
      have hw : wr32 (v2 + 1) = v2 + 1 := wr32_id (by unfold r32; omega)
      refine T_aload_n (i := 0) (pc' := 10) dX6_firstTrue_9 rfl rfl rfl ?_
      refine U_gr (q := 6) (k := 1) (kI := 1) (pc' := 13) dX6_firstTrue_10 rfl cl6 (by decide) rfl (by decide) flX6_18 rfl rfl rfl (G_at hG 13 rfl) (by decide) rfl ?_
      refine T_aload_n (i := 1) (pc' := 14) dX6_firstTrue_13 rfl rfl rfl ?_
      refine T_iload_n (i := 2) (pc' := 15) dX6_firstTrue_14 rfl rfl rfl ?_
      refine T_callV (av := [(2, 16), (0, v2)]) (st := []) (d2 := 4) (nc2 := 0) (ns2 := 0) (pc' := 18) dX6_firstTrue_15 rfl mtX5_run mvX5_run mlX6_130 cl5 rfl rfl rfl (Nat.le_of_ble_eq_true rfl) (by decide) ⟨by decide, by decide⟩ rfl (pX5_run (E := E) (h := h) (M := M) (v2 := v2) hG) (kF (st2 := [(0, (fX5_run M v2))]) rfl (fun hG2 => ?_))
      refine T_if_eq (pc' := 24) dX6_firstTrue_18 (by decide) (pf := 21) rfl (fun c3 => ?_) (fun c3 => ?_)
      · skip
        refine T_iinc (L' := [(2, 5), (2, 16), (0, (wr32 (v2 + 1)))]) (pc' := 27) dX6_firstTrue_24 rfl (by decide) rfl rfl ?_
        refine T_goto (pc' := 2) dX6_firstTrue_27 (by decide) ?_
        rw [hw]
        exact T_wk (ih (v2 + 1) _ (by omega) (by omega) (by have q := hQ; try simp only [if_pos c3] at q; exact q) (gX5_run (h := h) (M := M) (v2 := v2) hG)) ⟨Or.inr rfl, Or.inr rfl, Or.inr rfl, trivial⟩
      · skip
        refine T_iload_n (i := 2) (pc' := 22) dX6_firstTrue_21 rfl rfl rfl ?_
        refine T_i2l (pc' := 23) dX6_firstTrue_22 rfl ?_
        exact T_lret dX6_firstTrue_23 rfl ⟨rfl, (gX5_run (h := h) (M := M) (v2 := v2) hG), (by have q := hQ; try simp only [if_neg c3] at q; exact q)⟩
def fX6_firstTrue (M : Mem) : Int :=
  (lX6_firstTrue_2 201 0 M)
def fmX6_firstTrue (M : Mem) : Mem :=
  (lmX6_firstTrue_2 201 0 M)
theorem frX6_firstTrue {M : Mem} {q : Int} (hq0 : q ≠ 6) (hq1 : q ≠ 8) : (fmX6_firstTrue M) q = M q := by
  unfold fmX6_firstTrue
  repeat' (first | rfl | rw [mset_p hq0] | rw [mset_p hq1] | rw [mcpy_p hq0] | rw [mcpy_p hq1] | (rw [frX5_run] <;> try assumption) | (rw [frlX6_firstTrue_2] <;> try assumption) | rw [ite_ap] | split)
theorem gX6_firstTrue {h : Int} {M : Mem}   (hG : G h M) : G h (fmX6_firstTrue M) := by
  unfold fmX6_firstTrue
  exact (glX6_firstTrue_2 hG)
set_option maxRecDepth 100000 in
theorem pX6_firstTrue {E : EV} {h : Int} {M : Mem}   : C2 E miX6_firstTrue 5 h [(2, 5), (2, 16)] M (fun r M' => r = some (1, (fX6_firstTrue M)) ∧ M' = (fmX6_firstTrue M)) := by
  obtain ⟨Q, hQ0⟩ : ∃ Q : Option MV → Mem → Prop, Q = (fun r M' => r = some (1, (fX6_firstTrue M)) ∧ M' = (fmX6_firstTrue M)) := ⟨_, rfl⟩
  rw [← hQ0]
  have hQ : Q (some (1, (lX6_firstTrue_2 201 0 M))) (lmX6_firstTrue_2 201 0 M) := by rw [hQ0]; exact ⟨rfl, rfl⟩
  refine C2_of (L := [(2, 5), (2, 16), (3, 0)]) (by decide +kernel) (Nat.le_of_ble_eq_true rfl) rfl (fun hG => ?_)
  refine T_iconst (pc' := 1) dX6_firstTrue_0 (by decide) rfl ?_
  refine T_istore_n (i := 2) (L' := [(2, 5), (2, 16), (0, 0)]) (pc' := 2) dX6_firstTrue_1 rfl (by decide) rfl rfl ?_
  exact T_wk (qX6_firstTrue_2  201 0 _ (by first | decide | omega) rfl hQ hG) ⟨Or.inr rfl, Or.inr rfl, Or.inr rfl, trivial⟩
def lX6_howOften_5  : Nat → Int → Int → Mem → Int
  | 0, v2, v4, M => v2
  | k + 1, v2, v4, M => (lX6_howOften_5 k (if (fX5_run M v4) = 0 then v2 else (wr64 (v2 + 1))) (v4 + 1) (fmX5_run M v4))
def lmX6_howOften_5  : Nat → Int → Int → Mem → Mem
  | 0, v2, v4, M => M
  | k + 1, v2, v4, M => (lmX6_howOften_5 k (if (fX5_run M v4) = 0 then v2 else (wr64 (v2 + 1))) (v4 + 1) (fmX5_run M v4))
theorem frlX6_howOften_5  {q : Int} (hq0 : q ≠ 6) (hq1 : q ≠ 8) : ∀ {k : Nat} {v2 v4 : Int} {M : Mem}, (lmX6_howOften_5  k v2 v4 M) q = M q := by
  intro k
  induction k with
  | zero =>
    intro v2 v4 M
    show M q = M q
    repeat' (first | rfl | rw [mset_p hq0] | rw [mset_p hq1] | rw [mcpy_p hq0] | rw [mcpy_p hq1] | (rw [frX5_run] <;> try assumption) | rw [ite_ap] | split)
  | succ k ih =>
    intro v2 v4 M
    show (lmX6_howOften_5 k (if (fX5_run M v4) = 0 then v2 else (wr64 (v2 + 1))) (v4 + 1) (fmX5_run M v4)) q = M q
    repeat' (first | rfl | rw [mset_p hq0] | rw [mset_p hq1] | rw [mcpy_p hq0] | rw [mcpy_p hq1] | (rw [frX5_run] <;> try assumption) | rw [ite_ap] | split | rw [ih])
theorem glX6_howOften_5 {h : Int}   : ∀ {k : Nat} {v2 v4 : Int} {M : Mem}, G h M → G h (lmX6_howOften_5  k v2 v4 M) := by
  intro k
  induction k with
  | zero =>
    intro v2 v4 M hG
    show G h M
    exact hG
  | succ k ih =>
    intro v2 v4 M hG
    show G h (lmX6_howOften_5 k (if (fX5_run M v4) = 0 then v2 else (wr64 (v2 + 1))) (v4 + 1) (fmX5_run M v4))
    exact (ih (gX5_run (h := h) (M := M) (v2 := v4) hG))
set_option maxRecDepth 100000 in
set_option maxHeartbeats 2000000 in
theorem qX6_howOften_5 {E : EV} {h : Int} {Q : Option MV → Mem → Prop}   : ∀ (k : Nat) (v2 v4 : Int) (M : Mem), 0 ≤ v4 → ((201) - v4).toNat = k → Q (some (1, (lX6_howOften_5 k v2 v4 M))) (lmX6_howOften_5 k v2 v4 M) → G h M → TG E miX6_howOften 5 h Q 5 [(2, 5), (2, 16), (1, v2), (3, 0), (0, v4)] [] M := by
  intro k
  induction k with
  | zero =>
    intro v2 v4 M hv0 hk hQ hG
    have hQ : Q (some (1, v2)) M := hQ
    refine T_iload (i := 4) (pc' := 7) dX6_howOften_5 rfl rfl ?_
    refine T_sipush (pc' := 10) dX6_howOften_7 rfl (by decide) rfl ?_
    refine T_rng (fun _ z9 _ => ?_)
    have hB : r32 201 := (ok_cons.mp z9).1
    unfold r32 at hB
    refine T_icmp_ge (pc' := 36) dX6_howOften_10 (by decide) (pf := 13) rfl (fun c1 => ?_) (fun c1 => ?_)
    · skip
      refine T_lload_n (i := 2) (pc' := 37) dX6_howOften_36 rfl rfl rfl ?_
      exact T_lret dX6_howOften_37 rfl ⟨rfl, hG, hQ⟩
    · exact absurd c1 (by omega)
  | succ k ih =>
    intro v2 v4 M hv0 hk hQ hG
    have hQ : Q (some (1, (lX6_howOften_5 k (if (fX5_run M v4) = 0 then v2 else (wr64 (v2 + 1))) (v4 + 1) (fmX5_run M v4)))) (lmX6_howOften_5 k (if (fX5_run M v4) = 0 then v2 else (wr64 (v2 + 1))) (v4 + 1) (fmX5_run M v4)) := hQ
    refine T_iload (i := 4) (pc' := 7) dX6_howOften_5 rfl rfl ?_
    refine T_sipush (pc' := 10) dX6_howOften_7 rfl (by decide) rfl ?_
    refine T_rng (fun _ z9 _ => ?_)
    have hB : r32 201 := (ok_cons.mp z9).1
    unfold r32 at hB
    refine T_icmp_ge (pc' := 36) dX6_howOften_10 (by decide) (pf := 13) rfl (fun c1 => ?_) (fun c1 => ?_)
    · exact absurd c1 (by omega)
    · skip
      have hw : wr32 (v4 + 1) = v4 + 1 := wr32_id (by unfold r32; omega)
      refine T_aload_n (i := 0) (pc' := 14) dX6_howOften_13 rfl rfl rfl ?_
      refine U_gr (q := 6) (k := 1) (kI := 1) (pc' := 17) dX6_howOften_14 rfl cl6 (by decide) rfl (by decide) flX6_18 rfl rfl rfl (G_at hG 13 rfl) (by decide) rfl ?_
      refine T_aload_n (i := 1) (pc' := 18) dX6_howOften_17 rfl rfl rfl ?_
      refine T_iload (i := 4) (pc' := 20) dX6_howOften_18 rfl rfl ?_
      refine T_callV (av := [(2, 16), (0, v4)]) (st := []) (d2 := 4) (nc2 := 0) (ns2 := 0) (pc' := 23) dX6_howOften_20 rfl mtX5_run mvX5_run mlX6_130 cl5 rfl rfl rfl (Nat.le_of_ble_eq_true rfl) (by decide) ⟨by decide, by decide⟩ rfl (pX5_run (E := E) (h := h) (M := M) (v2 := v4) hG) (kF (st2 := [(0, (fX5_run M v4))]) rfl (fun hG2 => ?_))
      have HJ3 : T E miX6_howOften 5 126 0 0 (fun r S M' => S = S0 ∧ G h M' ∧ Q r M') 30 [(2, 5), (2, 16), (1, (if (fX5_run M v4) = 0 then v2 else (wr64 (v2 + 1)))), (3, 0), (0, v4)] [] S0 (fmX5_run M v4) 0 0 := by
        refine T_iinc (L' := [(2, 5), (2, 16), (1, (if (fX5_run M v4) = 0 then v2 else (wr64 (v2 + 1)))), (3, 0), (0, (wr32 (v4 + 1)))]) (pc' := 33) dX6_howOften_30 rfl (by decide) rfl rfl ?_
        refine T_goto (pc' := 5) dX6_howOften_33 (by decide) ?_
        rw [hw]
        exact T_wk (ih _ (v4 + 1) _ (by omega) (by omega) hQ (gX5_run (h := h) (M := M) (v2 := v4) hG)) ⟨Or.inr rfl, Or.inr rfl, Or.inr rfl, Or.inl rfl, Or.inr rfl, trivial⟩
      refine T_if_eq (pc' := 30) dX6_howOften_23 (by decide) (pf := 26) rfl (fun c4 => ?_) (fun c4 => ?_)
      · skip
        exact T_wk (L' := [(2, 5), (2, 16), (1, v2), (3, 0), (0, v4)]) (by have q := HJ3; try simp only [if_pos c4] at q; exact q) ⟨Or.inr rfl, Or.inr rfl, Or.inr rfl, Or.inl rfl, Or.inr rfl, trivial⟩
      · skip
        refine T_lload_n (i := 2) (pc' := 27) dX6_howOften_26 rfl rfl rfl ?_
        refine T_lconst (v := 1) (pc' := 28) dX6_howOften_27 rfl (by decide) rfl ?_
        refine T_ladd (pc' := 29) dX6_howOften_28 rfl ?_
        refine T_lstore_n (i := 2) (L' := [(2, 5), (2, 16), (1, (wr64 (v2 + 1))), (3, 0), (0, v4)]) (pc' := 30) dX6_howOften_29 rfl (by decide) rfl rfl ?_
        exact T_wk (L' := [(2, 5), (2, 16), (1, (wr64 (v2 + 1))), (3, 0), (0, v4)]) (by have q := HJ3; try simp only [if_neg c4] at q; exact q) ⟨Or.inr rfl, Or.inr rfl, Or.inr rfl, Or.inl rfl, Or.inr rfl, trivial⟩
def fX6_howOften (M : Mem) : Int :=
  (lX6_howOften_5 201 0 0 M)
def fmX6_howOften (M : Mem) : Mem :=
  (lmX6_howOften_5 201 0 0 M)
theorem frX6_howOften {M : Mem} {q : Int} (hq0 : q ≠ 6) (hq1 : q ≠ 8) : (fmX6_howOften M) q = M q := by
  unfold fmX6_howOften
  repeat' (first | rfl | rw [mset_p hq0] | rw [mset_p hq1] | rw [mcpy_p hq0] | rw [mcpy_p hq1] | (rw [frX5_run] <;> try assumption) | (rw [frlX6_howOften_5] <;> try assumption) | rw [ite_ap] | split)
theorem gX6_howOften {h : Int} {M : Mem}   (hG : G h M) : G h (fmX6_howOften M) := by
  unfold fmX6_howOften
  exact (glX6_howOften_5 hG)
set_option maxRecDepth 100000 in
theorem pX6_howOften {E : EV} {h : Int} {M : Mem}   : C2 E miX6_howOften 5 h [(2, 5), (2, 16)] M (fun r M' => r = some (1, (fX6_howOften M)) ∧ M' = (fmX6_howOften M)) := by
  obtain ⟨Q, hQ0⟩ : ∃ Q : Option MV → Mem → Prop, Q = (fun r M' => r = some (1, (fX6_howOften M)) ∧ M' = (fmX6_howOften M)) := ⟨_, rfl⟩
  rw [← hQ0]
  have hQ : Q (some (1, (lX6_howOften_5 201 0 0 M))) (lmX6_howOften_5 201 0 0 M) := by rw [hQ0]; exact ⟨rfl, rfl⟩
  refine C2_of (L := [(2, 5), (2, 16), (3, 0), (3, 0), (3, 0)]) (by decide +kernel) (Nat.le_of_ble_eq_true rfl) rfl (fun hG => ?_)
  refine T_lconst (v := 0) (pc' := 1) dX6_howOften_0 rfl (by decide) rfl ?_
  refine T_lstore_n (i := 2) (L' := [(2, 5), (2, 16), (1, 0), (3, 0), (3, 0)]) (pc' := 2) dX6_howOften_1 rfl (by decide) rfl rfl ?_
  refine T_iconst (pc' := 3) dX6_howOften_2 (by decide) rfl ?_
  refine T_istore (i := 4) (L' := [(2, 5), (2, 16), (1, 0), (3, 0), (0, 0)]) (pc' := 5) dX6_howOften_3 (by decide) rfl rfl ?_
  exact T_wk (qX6_howOften_5  201 0 0 _ (by first | decide | omega) rfl hQ hG) ⟨Or.inr rfl, Or.inr rfl, Or.inr rfl, Or.inl rfl, Or.inr rfl, trivial⟩
def lX6_total_5  : Nat → Int → Int → Mem → Int
  | 0, v2, v4, M => v2
  | k + 1, v2, v4, M => (lX6_total_5 k (wr64 (v2 + (fX5_run M v4))) (v4 + 1) (fmX5_run M v4))
def lmX6_total_5  : Nat → Int → Int → Mem → Mem
  | 0, v2, v4, M => M
  | k + 1, v2, v4, M => (lmX6_total_5 k (wr64 (v2 + (fX5_run M v4))) (v4 + 1) (fmX5_run M v4))
theorem frlX6_total_5  {q : Int} (hq0 : q ≠ 6) (hq1 : q ≠ 8) : ∀ {k : Nat} {v2 v4 : Int} {M : Mem}, (lmX6_total_5  k v2 v4 M) q = M q := by
  intro k
  induction k with
  | zero =>
    intro v2 v4 M
    show M q = M q
    repeat' (first | rfl | rw [mset_p hq0] | rw [mset_p hq1] | rw [mcpy_p hq0] | rw [mcpy_p hq1] | (rw [frX5_run] <;> try assumption) | rw [ite_ap] | split)
  | succ k ih =>
    intro v2 v4 M
    show (lmX6_total_5 k (wr64 (v2 + (fX5_run M v4))) (v4 + 1) (fmX5_run M v4)) q = M q
    repeat' (first | rfl | rw [mset_p hq0] | rw [mset_p hq1] | rw [mcpy_p hq0] | rw [mcpy_p hq1] | (rw [frX5_run] <;> try assumption) | rw [ite_ap] | split | rw [ih])
theorem glX6_total_5 {h : Int}   : ∀ {k : Nat} {v2 v4 : Int} {M : Mem}, G h M → G h (lmX6_total_5  k v2 v4 M) := by
  intro k
  induction k with
  | zero =>
    intro v2 v4 M hG
    show G h M
    exact hG
  | succ k ih =>
    intro v2 v4 M hG
    show G h (lmX6_total_5 k (wr64 (v2 + (fX5_run M v4))) (v4 + 1) (fmX5_run M v4))
    exact (ih (gX5_run (h := h) (M := M) (v2 := v4) hG))
set_option maxRecDepth 100000 in
set_option maxHeartbeats 2000000 in
theorem qX6_total_5 {E : EV} {h : Int} {Q : Option MV → Mem → Prop}   : ∀ (k : Nat) (v2 v4 : Int) (M : Mem), 0 ≤ v4 → ((201) - v4).toNat = k → Q (some (1, (lX6_total_5 k v2 v4 M))) (lmX6_total_5 k v2 v4 M) → G h M → TG E miX6_total 5 h Q 5 [(2, 5), (2, 16), (1, v2), (3, 0), (0, v4)] [] M := by
  intro k
  induction k with
  | zero =>
    intro v2 v4 M hv0 hk hQ hG
    have hQ : Q (some (1, v2)) M := hQ
    refine T_iload (i := 4) (pc' := 7) dX6_total_5 rfl rfl ?_
    refine T_sipush (pc' := 10) dX6_total_7 rfl (by decide) rfl ?_
    refine T_rng (fun _ z9 _ => ?_)
    have hB : r32 201 := (ok_cons.mp z9).1
    unfold r32 at hB
    refine T_icmp_ge (pc' := 33) dX6_total_10 (by decide) (pf := 13) rfl (fun c1 => ?_) (fun c1 => ?_)
    · skip
      refine T_lload_n (i := 2) (pc' := 34) dX6_total_33 rfl rfl rfl ?_
      exact T_lret dX6_total_34 rfl ⟨rfl, hG, hQ⟩
    · exact absurd c1 (by omega)
  | succ k ih =>
    intro v2 v4 M hv0 hk hQ hG
    have hQ : Q (some (1, (lX6_total_5 k (wr64 (v2 + (fX5_run M v4))) (v4 + 1) (fmX5_run M v4)))) (lmX6_total_5 k (wr64 (v2 + (fX5_run M v4))) (v4 + 1) (fmX5_run M v4)) := hQ
    refine T_iload (i := 4) (pc' := 7) dX6_total_5 rfl rfl ?_
    refine T_sipush (pc' := 10) dX6_total_7 rfl (by decide) rfl ?_
    refine T_rng (fun _ z9 _ => ?_)
    have hB : r32 201 := (ok_cons.mp z9).1
    unfold r32 at hB
    refine T_icmp_ge (pc' := 33) dX6_total_10 (by decide) (pf := 13) rfl (fun c1 => ?_) (fun c1 => ?_)
    · exact absurd c1 (by omega)
    · skip
      have hw : wr32 (v4 + 1) = v4 + 1 := wr32_id (by unfold r32; omega)
      refine T_lload_n (i := 2) (pc' := 14) dX6_total_13 rfl rfl rfl ?_
      refine T_aload_n (i := 0) (pc' := 15) dX6_total_14 rfl rfl rfl ?_
      refine U_gr (q := 6) (k := 1) (kI := 1) (pc' := 18) dX6_total_15 rfl cl6 (by decide) rfl (by decide) flX6_18 rfl rfl rfl (G_at hG 13 rfl) (by decide) rfl ?_
      refine T_aload_n (i := 1) (pc' := 19) dX6_total_18 rfl rfl rfl ?_
      refine T_iload (i := 4) (pc' := 21) dX6_total_19 rfl rfl ?_
      refine T_callV (av := [(2, 16), (0, v4)]) (st := [(1, v2)]) (d2 := 4) (nc2 := 0) (ns2 := 0) (pc' := 24) dX6_total_21 rfl mtX5_run mvX5_run mlX6_130 cl5 rfl rfl rfl (Nat.le_of_ble_eq_true rfl) (by decide) ⟨by decide, by decide⟩ rfl (pX5_run (E := E) (h := h) (M := M) (v2 := v4) hG) (kF (st2 := [(0, (fX5_run M v4)), (1, v2)]) rfl (fun hG2 => ?_))
      refine T_i2l (pc' := 25) dX6_total_24 rfl ?_
      refine T_ladd (pc' := 26) dX6_total_25 rfl ?_
      refine T_lstore_n (i := 2) (L' := [(2, 5), (2, 16), (1, (wr64 (v2 + (fX5_run M v4)))), (3, 0), (0, v4)]) (pc' := 27) dX6_total_26 rfl (by decide) rfl rfl ?_
      refine T_iinc (L' := [(2, 5), (2, 16), (1, (wr64 (v2 + (fX5_run M v4)))), (3, 0), (0, (wr32 (v4 + 1)))]) (pc' := 30) dX6_total_27 rfl (by decide) rfl rfl ?_
      refine T_goto (pc' := 5) dX6_total_30 (by decide) ?_
      rw [hw]
      exact T_wk (ih _ (v4 + 1) _ (by omega) (by omega) hQ (gX5_run (h := h) (M := M) (v2 := v4) hG)) ⟨Or.inr rfl, Or.inr rfl, Or.inr rfl, Or.inl rfl, Or.inr rfl, trivial⟩
def fX6_total (M : Mem) : Int :=
  (lX6_total_5 201 0 0 M)
def fmX6_total (M : Mem) : Mem :=
  (lmX6_total_5 201 0 0 M)
theorem frX6_total {M : Mem} {q : Int} (hq0 : q ≠ 6) (hq1 : q ≠ 8) : (fmX6_total M) q = M q := by
  unfold fmX6_total
  repeat' (first | rfl | rw [mset_p hq0] | rw [mset_p hq1] | rw [mcpy_p hq0] | rw [mcpy_p hq1] | (rw [frX5_run] <;> try assumption) | (rw [frlX6_total_5] <;> try assumption) | rw [ite_ap] | split)
theorem gX6_total {h : Int} {M : Mem}   (hG : G h M) : G h (fmX6_total M) := by
  unfold fmX6_total
  exact (glX6_total_5 hG)
set_option maxRecDepth 100000 in
theorem pX6_total {E : EV} {h : Int} {M : Mem}   : C2 E miX6_total 5 h [(2, 5), (2, 16)] M (fun r M' => r = some (1, (fX6_total M)) ∧ M' = (fmX6_total M)) := by
  obtain ⟨Q, hQ0⟩ : ∃ Q : Option MV → Mem → Prop, Q = (fun r M' => r = some (1, (fX6_total M)) ∧ M' = (fmX6_total M)) := ⟨_, rfl⟩
  rw [← hQ0]
  have hQ : Q (some (1, (lX6_total_5 201 0 0 M))) (lmX6_total_5 201 0 0 M) := by rw [hQ0]; exact ⟨rfl, rfl⟩
  refine C2_of (L := [(2, 5), (2, 16), (3, 0), (3, 0), (3, 0)]) (by decide +kernel) (Nat.le_of_ble_eq_true rfl) rfl (fun hG => ?_)
  refine T_lconst (v := 0) (pc' := 1) dX6_total_0 rfl (by decide) rfl ?_
  refine T_lstore_n (i := 2) (L' := [(2, 5), (2, 16), (1, 0), (3, 0), (3, 0)]) (pc' := 2) dX6_total_1 rfl (by decide) rfl rfl ?_
  refine T_iconst (pc' := 3) dX6_total_2 (by decide) rfl ?_
  refine T_istore (i := 4) (L' := [(2, 5), (2, 16), (1, 0), (3, 0), (0, 0)]) (pc' := 5) dX6_total_3 (by decide) rfl rfl ?_
  exact T_wk (qX6_total_5  201 0 0 _ (by first | decide | omega) rfl hQ hG) ⟨Or.inr rfl, Or.inr rfl, Or.inr rfl, Or.inl rfl, Or.inr rfl, trivial⟩
def lmX7_fillWalk_28 (g : Int) : Nat → Int → Int → Int → Mem → Mem
  | 0, v2, v3, v4, M => M
  | k + 1, v2, v3, v4, M => (lmX7_fillWalk_28 g k v2 (if (fX1_stepFrom M g v3 (fX4_stepOf M g v2 (wr32 (v4 - 1)))) = (-1) then v3 else (fX1_stepFrom M g v3 (fX4_stepOf M g v2 (wr32 (v4 - 1))))) (v4 + 1) (fmX11_put M 10 1809 (wr32 ((wr32 (v2 * 201)) + v4)) (if (fX1_stepFrom M g v3 (fX4_stepOf M g v2 (wr32 (v4 - 1)))) = (-1) then v3 else (fX1_stepFrom M g v3 (fX4_stepOf M g v2 (wr32 (v4 - 1)))))))
theorem frlX7_fillWalk_28 {g : Int} {q : Int} (hq0 : q ≠ 10) : ∀ {k : Nat} {v2 v3 v4 : Int} {M : Mem}, (lmX7_fillWalk_28 g k v2 v3 v4 M) q = M q := by
  intro k
  induction k with
  | zero =>
    intro v2 v3 v4 M
    show M q = M q
    repeat' (first | rfl | rw [mset_p hq0] | rw [mcpy_p hq0] | (rw [frX11_put] <;> try assumption) | rw [ite_ap] | split)
  | succ k ih =>
    intro v2 v3 v4 M
    show (lmX7_fillWalk_28 g k v2 (if (fX1_stepFrom M g v3 (fX4_stepOf M g v2 (wr32 (v4 - 1)))) = (-1) then v3 else (fX1_stepFrom M g v3 (fX4_stepOf M g v2 (wr32 (v4 - 1))))) (v4 + 1) (fmX11_put M 10 1809 (wr32 ((wr32 (v2 * 201)) + v4)) (if (fX1_stepFrom M g v3 (fX4_stepOf M g v2 (wr32 (v4 - 1)))) = (-1) then v3 else (fX1_stepFrom M g v3 (fX4_stepOf M g v2 (wr32 (v4 - 1))))))) q = M q
    repeat' (first | rfl | rw [mset_p hq0] | rw [mcpy_p hq0] | (rw [frX11_put] <;> try assumption) | rw [ite_ap] | split | rw [ih])
theorem glX7_fillWalk_28 {h : Int} {g : Int} (hg : isG g) : ∀ {k : Nat} {v2 v3 v4 : Int} {M : Mem}, G h M → G h (lmX7_fillWalk_28 g k v2 v3 v4 M) := by
  intro k
  induction k with
  | zero =>
    intro v2 v3 v4 M hG
    show G h M
    exact hG
  | succ k ih =>
    intro v2 v3 v4 M hG
    show G h (lmX7_fillWalk_28 g k v2 (if (fX1_stepFrom M g v3 (fX4_stepOf M g v2 (wr32 (v4 - 1)))) = (-1) then v3 else (fX1_stepFrom M g v3 (fX4_stepOf M g v2 (wr32 (v4 - 1))))) (v4 + 1) (fmX11_put M 10 1809 (wr32 ((wr32 (v2 * 201)) + v4)) (if (fX1_stepFrom M g v3 (fX4_stepOf M g v2 (wr32 (v4 - 1)))) = (-1) then v3 else (fX1_stepFrom M g v3 (fX4_stepOf M g v2 (wr32 (v4 - 1)))))))
    exact (ih (gX11_put (h := h) (M := M) (p0 := 10) (np0 := 1809) (v1 := (wr32 ((wr32 (v2 * 201)) + v4))) (v2 := (if (fX1_stepFrom M g v3 (fX4_stepOf M g v2 (wr32 (v4 - 1)))) = (-1) then v3 else (fX1_stepFrom M g v3 (fX4_stepOf M g v2 (wr32 (v4 - 1)))))) (by decide) rfl (by decide) hG))
set_option maxRecDepth 100000 in
set_option maxHeartbeats 2000000 in
theorem qX7_fillWalk_28 {E : EV} {h : Int} {Q : Option MV → Mem → Prop} {g : Int} (hg : isG g) : ∀ (k : Nat) (v2 v3 v4 : Int) (M : Mem), 0 ≤ v4 → ((201) - v4).toNat = k → Q none (lmX7_fillWalk_28 g k v2 v3 v4 M) → G h M → TG E miX7_fillWalk 4 h Q 28 [(2, 9), (2, g), (0, v2), (0, v3), (0, v4), (3, 0)] [] M := by
  intro k
  induction k with
  | zero =>
    intro v2 v3 v4 M hv0 hk hQ hG
    have hQ : Q none M := hQ
    refine T_iload (i := 4) (pc' := 30) dX7_fillWalk_28 rfl rfl ?_
    refine T_sipush (pc' := 33) dX7_fillWalk_30 rfl (by decide) rfl ?_
    refine T_rng (fun _ z9 _ => ?_)
    have hB : r32 201 := (ok_cons.mp z9).1
    unfold r32 at hB
    refine T_icmp_ge (pc' := 90) dX7_fillWalk_33 (by decide) (pf := 36) rfl (fun c1 => ?_) (fun c1 => ?_)
    · skip
      exact T_vret dX7_fillWalk_90 rfl ⟨rfl, hG, hQ⟩
    · exact absurd c1 (by omega)
  | succ k ih =>
    intro v2 v3 v4 M hv0 hk hQ hG
    have hQ : Q none (lmX7_fillWalk_28 g k v2 (if (fX1_stepFrom M g v3 (fX4_stepOf M g v2 (wr32 (v4 - 1)))) = (-1) then v3 else (fX1_stepFrom M g v3 (fX4_stepOf M g v2 (wr32 (v4 - 1))))) (v4 + 1) (fmX11_put M 10 1809 (wr32 ((wr32 (v2 * 201)) + v4)) (if (fX1_stepFrom M g v3 (fX4_stepOf M g v2 (wr32 (v4 - 1)))) = (-1) then v3 else (fX1_stepFrom M g v3 (fX4_stepOf M g v2 (wr32 (v4 - 1))))))) := hQ
    refine T_iload (i := 4) (pc' := 30) dX7_fillWalk_28 rfl rfl ?_
    refine T_sipush (pc' := 33) dX7_fillWalk_30 rfl (by decide) rfl ?_
    refine T_rng (fun _ z9 _ => ?_)
    have hB : r32 201 := (ok_cons.mp z9).1
    unfold r32 at hB
    refine T_icmp_ge (pc' := 90) dX7_fillWalk_33 (by decide) (pf := 36) rfl (fun c1 => ?_) (fun c1 => ?_)
    · exact absurd c1 (by omega)
    · skip
      have hw : wr32 (v4 + 1) = v4 + 1 := wr32_id (by unfold r32; omega)
      refine T_aload_n (i := 1) (pc' := 37) dX7_fillWalk_36 rfl rfl rfl ?_
      refine T_iload_n (i := 3) (pc' := 38) dX7_fillWalk_37 rfl rfl rfl ?_
      refine T_aload_n (i := 1) (pc' := 39) dX7_fillWalk_38 rfl rfl rfl ?_
      refine U_grN (q := (g + 1)) (k := 0) (kI := 0) (pc' := 42) dX7_fillWalk_39 rfl cl1 (pog0 hg) (shg0 hg) (by decide) flX7_46 rfl rfl rfl (grg0_0 hg hG) (pog1 hg) rfl ?_
      refine T_iload_n (i := 2) (pc' := 43) dX7_fillWalk_42 rfl rfl rfl ?_
      refine T_iload (i := 4) (pc' := 45) dX7_fillWalk_43 rfl rfl ?_
      refine T_iconst (pc' := 46) dX7_fillWalk_45 (by decide) rfl ?_
      refine T_isub (pc' := 47) dX7_fillWalk_46 rfl ?_
      refine T_callV (av := [(0, v2), (0, (wr32 (v4 - 1)))]) (st := [(0, v3), (2, g)]) (d2 := 2) (nc2 := 0) (ns2 := 0) (pc' := 50) dX7_fillWalk_47 rfl mtX4_stepOf mvX4_stepOf mlX7_79 cl4 (shg1 hg) rfl rfl (Nat.le_of_ble_eq_true rfl) (by decide) ⟨by decide, by decide⟩ rfl (pX4_stepOf (E := E) (h := h) (M := M) (g := g) (v1 := v2) (v2 := (wr32 (v4 - 1))) hg hG) (kF (st2 := [(0, (fX4_stepOf M g v2 (wr32 (v4 - 1)))), (0, v3), (2, g)]) rfl (fun hG2 => ?_))
      refine T_callV (av := [(0, v3), (0, (fX4_stepOf M g v2 (wr32 (v4 - 1))))]) (st := []) (d2 := 3) (nc2 := 0) (ns2 := 0) (pc' := 53) dX7_fillWalk_50 rfl mtX1_stepFrom mvX1_stepFrom mlX7_83 cl1 (shg0 hg) rfl rfl (Nat.le_of_ble_eq_true rfl) (by decide) ⟨by decide, by decide⟩ rfl (pX1_stepFrom (E := E) (h := h) (M := M) (g := g) (v1 := v3) (v2 := (fX4_stepOf M g v2 (wr32 (v4 - 1)))) hg hG) (kF (st2 := [(0, (fX1_stepFrom M g v3 (fX4_stepOf M g v2 (wr32 (v4 - 1)))))]) rfl (fun hG3 => ?_))
      refine T_istore (i := 5) (L' := [(2, 9), (2, g), (0, v2), (0, v3), (0, v4), (0, (fX1_stepFrom M g v3 (fX4_stepOf M g v2 (wr32 (v4 - 1)))))]) (pc' := 55) dX7_fillWalk_53 (by decide) rfl rfl ?_
      refine T_iload (i := 5) (pc' := 57) dX7_fillWalk_55 rfl rfl ?_
      refine T_iconst (pc' := 58) dX7_fillWalk_57 (by decide) rfl ?_
      have HJ4 : T E miX7_fillWalk 4 126 0 0 (fun r S M' => S = S0 ∧ G h M' ∧ Q r M') 67 [(2, 9), (2, g), (0, v2), (3, 0), (0, v4), (3, 0)] [(0, (if (fX1_stepFrom M g v3 (fX4_stepOf M g v2 (wr32 (v4 - 1)))) = (-1) then v3 else (fX1_stepFrom M g v3 (fX4_stepOf M g v2 (wr32 (v4 - 1))))))] S0 M 0 0 := by
        refine T_istore_n (i := 3) (L' := [(2, 9), (2, g), (0, v2), (0, (if (fX1_stepFrom M g v3 (fX4_stepOf M g v2 (wr32 (v4 - 1)))) = (-1) then v3 else (fX1_stepFrom M g v3 (fX4_stepOf M g v2 (wr32 (v4 - 1)))))), (0, v4), (3, 0)]) (pc' := 68) dX7_fillWalk_67 rfl (by decide) rfl rfl ?_
        refine T_aload_n (i := 0) (pc' := 69) dX7_fillWalk_68 rfl rfl rfl ?_
        refine U_gr (q := 10) (k := 0) (kI := 0) (pc' := 72) dX7_fillWalk_69 rfl cl7 (by decide) rfl (by decide) flX7_9 rfl rfl rfl (G_at hG 16 rfl) (by decide) rfl ?_
        refine T_iload_n (i := 2) (pc' := 73) dX7_fillWalk_72 rfl rfl rfl ?_
        refine T_sipush (pc' := 76) dX7_fillWalk_73 rfl (by decide) rfl ?_
        refine T_imul (pc' := 77) dX7_fillWalk_76 rfl ?_
        refine T_iload (i := 4) (pc' := 79) dX7_fillWalk_77 rfl rfl ?_
        refine T_iadd (pc' := 80) dX7_fillWalk_79 rfl ?_
        refine T_iload_n (i := 3) (pc' := 81) dX7_fillWalk_80 rfl rfl rfl ?_
        refine T_callSN (av := [(2, 10), (0, (wr32 ((wr32 (v2 * 201)) + v4))), (0, (if (fX1_stepFrom M g v3 (fX4_stepOf M g v2 (wr32 (v4 - 1)))) = (-1) then v3 else (fX1_stepFrom M g v3 (fX4_stepOf M g v2 (wr32 (v4 - 1))))))]) (st := []) (d2 := 1) (nc2 := 0) (ns2 := 0) (pc' := 84) dX7_fillWalk_81 rfl mtX11_put mvX11_put mlX7_75 rfl rfl (Nat.le_of_ble_eq_true rfl) (by decide) ⟨by decide, by decide⟩ rfl (pX11_put (E := E) (h := h) (M := M) (p0 := 10) (np0 := 1809) (v1 := (wr32 ((wr32 (v2 * 201)) + v4))) (v2 := (if (fX1_stepFrom M g v3 (fX4_stepOf M g v2 (wr32 (v4 - 1)))) = (-1) then v3 else (fX1_stepFrom M g v3 (fX4_stepOf M g v2 (wr32 (v4 - 1)))))) (by decide) rfl (by decide) hG) (kF (st2 := []) rfl (fun hG5 => ?_))
        refine T_iinc (L' := [(2, 9), (2, g), (0, v2), (0, (if (fX1_stepFrom M g v3 (fX4_stepOf M g v2 (wr32 (v4 - 1)))) = (-1) then v3 else (fX1_stepFrom M g v3 (fX4_stepOf M g v2 (wr32 (v4 - 1)))))), (0, (wr32 (v4 + 1))), (3, 0)]) (pc' := 87) dX7_fillWalk_84 rfl (by decide) rfl rfl ?_
        refine T_goto (pc' := 28) dX7_fillWalk_87 (by decide) ?_
        rw [hw]
        exact T_wk (ih _ _ (v4 + 1) _ (by omega) (by omega) hQ (gX11_put (h := h) (M := M) (p0 := 10) (np0 := 1809) (v1 := (wr32 ((wr32 (v2 * 201)) + v4))) (v2 := (if (fX1_stepFrom M g v3 (fX4_stepOf M g v2 (wr32 (v4 - 1)))) = (-1) then v3 else (fX1_stepFrom M g v3 (fX4_stepOf M g v2 (wr32 (v4 - 1)))))) (by decide) rfl (by decide) hG)) ⟨Or.inr rfl, Or.inr rfl, Or.inr rfl, Or.inr rfl, Or.inr rfl, Or.inl rfl, trivial⟩
      refine T_icmp_ne (pc' := 65) dX7_fillWalk_58 (by decide) (pf := 61) rfl (fun c6 => ?_) (fun c6 => ?_)
      · skip
        refine T_iload (i := 5) (pc' := 67) dX7_fillWalk_65 rfl rfl ?_
        exact T_wk (L' := [(2, 9), (2, g), (0, v2), (3, 0), (0, v4), (3, 0)]) (by have q := HJ4; try simp only [if_neg c6] at q; exact q) ⟨Or.inr rfl, Or.inr rfl, Or.inr rfl, Or.inl rfl, Or.inr rfl, Or.inl rfl, trivial⟩
      · skip
        refine T_iload_n (i := 3) (pc' := 62) dX7_fillWalk_61 rfl rfl rfl ?_
        refine T_goto (pc' := 67) dX7_fillWalk_62 (by decide) ?_
        exact T_wk (L' := [(2, 9), (2, g), (0, v2), (3, 0), (0, v4), (3, 0)]) (by have q := HJ4; try simp only [if_pos c6] at q; exact q) ⟨Or.inr rfl, Or.inr rfl, Or.inr rfl, Or.inl rfl, Or.inr rfl, Or.inl rfl, trivial⟩
def fmX7_fillWalk (M : Mem) (g : Int) (v2 : Int) : Mem :=
  (lmX7_fillWalk_28 g 200 v2 (fX11_get M (g + 3) 9 v2) 1 (fmX11_put M 10 1809 (wr32 (v2 * 201)) (fX11_get M (g + 3) 9 v2)))
theorem frX7_fillWalk {M : Mem} {g : Int} {v2 : Int} {q : Int} (hq0 : q ≠ 10) : (fmX7_fillWalk M g v2) q = M q := by
  unfold fmX7_fillWalk
  repeat' (first | rfl | rw [mset_p hq0] | rw [mcpy_p hq0] | (rw [frX11_put] <;> try assumption) | (rw [frlX7_fillWalk_28] <;> try assumption) | rw [ite_ap] | split)
theorem gX7_fillWalk {h : Int} {M : Mem} {g : Int} {v2 : Int} (hg : isG g) (hG : G h M) : G h (fmX7_fillWalk M g v2) := by
  unfold fmX7_fillWalk
  exact (glX7_fillWalk_28 hg (gX11_put (h := h) (M := M) (p0 := 10) (np0 := 1809) (v1 := (wr32 (v2 * 201))) (v2 := (fX11_get M (g + 3) 9 v2)) (by decide) rfl (by decide) hG))
set_option maxRecDepth 100000 in
theorem pX7_fillWalk {E : EV} {h : Int} {M : Mem} {g : Int} {v2 : Int} (hg : isG g) : C2 E miX7_fillWalk 4 h [(2, 9), (2, g), (0, v2)] M (fun r M' => r = none ∧ M' = (fmX7_fillWalk M g v2)) := by
  obtain ⟨Q, hQ0⟩ : ∃ Q : Option MV → Mem → Prop, Q = (fun r M' => r = none ∧ M' = (fmX7_fillWalk M g v2)) := ⟨_, rfl⟩
  rw [← hQ0]
  have hQ : Q none (lmX7_fillWalk_28 g 200 v2 (fX11_get M (g + 3) 9 v2) 1 (fmX11_put M 10 1809 (wr32 (v2 * 201)) (fX11_get M (g + 3) 9 v2))) := by rw [hQ0]; exact ⟨rfl, rfl⟩
  refine C2_of (L := [(2, 9), (2, g), (0, v2), (3, 0), (3, 0), (3, 0)]) (by decide +kernel) (Nat.le_of_ble_eq_true rfl) rfl (fun hG => ?_)
  refine T_aload_n (i := 1) (pc' := 1) dX7_fillWalk_0 rfl rfl rfl ?_
  refine U_grN (q := (g + 1)) (k := 0) (kI := 0) (pc' := 4) dX7_fillWalk_1 rfl cl1 (pog0 hg) (shg0 hg) (by decide) flX7_46 rfl rfl rfl (grg0_0 hg hG) (pog1 hg) rfl ?_
  refine U_grN (q := (g + 3)) (k := 1) (kI := 1) (pc' := 7) dX7_fillWalk_4 rfl cl4 (pog1 hg) (shg1 hg) (by decide) flX7_68 rfl rfl rfl (grg1_1 hg hG) (pog3 hg) rfl ?_
  refine T_iload_n (i := 2) (pc' := 8) dX7_fillWalk_7 rfl rfl rfl ?_
  refine T_callSN (av := [(2, (g + 3)), (0, v2)]) (st := []) (d2 := 1) (nc2 := 0) (ns2 := 0) (pc' := 11) dX7_fillWalk_8 rfl mtX11_get mvX11_get mlX7_71 rfl rfl (Nat.le_of_ble_eq_true rfl) (by decide) ⟨by decide, by decide⟩ rfl (pX11_get (E := E) (h := h) (M := M) (p0 := (g + 3)) (np0 := 9) (v1 := v2) (pog3 hg) (shg3 hg) (by decide) hG) (kF (st2 := [(0, (fX11_get M (g + 3) 9 v2))]) rfl (fun hG1 => ?_))
  refine T_istore_n (i := 3) (L' := [(2, 9), (2, g), (0, v2), (0, (fX11_get M (g + 3) 9 v2)), (3, 0), (3, 0)]) (pc' := 12) dX7_fillWalk_11 rfl (by decide) rfl rfl ?_
  refine T_aload_n (i := 0) (pc' := 13) dX7_fillWalk_12 rfl rfl rfl ?_
  refine U_gr (q := 10) (k := 0) (kI := 0) (pc' := 16) dX7_fillWalk_13 rfl cl7 (by decide) rfl (by decide) flX7_9 rfl rfl rfl (G_at hG 16 rfl) (by decide) rfl ?_
  refine T_iload_n (i := 2) (pc' := 17) dX7_fillWalk_16 rfl rfl rfl ?_
  refine T_sipush (pc' := 20) dX7_fillWalk_17 rfl (by decide) rfl ?_
  refine T_imul (pc' := 21) dX7_fillWalk_20 rfl ?_
  refine T_iload_n (i := 3) (pc' := 22) dX7_fillWalk_21 rfl rfl rfl ?_
  refine T_callSN (av := [(2, 10), (0, (wr32 (v2 * 201))), (0, (fX11_get M (g + 3) 9 v2))]) (st := []) (d2 := 1) (nc2 := 0) (ns2 := 0) (pc' := 25) dX7_fillWalk_22 rfl mtX11_put mvX11_put mlX7_75 rfl rfl (Nat.le_of_ble_eq_true rfl) (by decide) ⟨by decide, by decide⟩ rfl (pX11_put (E := E) (h := h) (M := M) (p0 := 10) (np0 := 1809) (v1 := (wr32 (v2 * 201))) (v2 := (fX11_get M (g + 3) 9 v2)) (by decide) rfl (by decide) hG) (kF (st2 := []) rfl (fun hG2 => ?_))
  refine T_iconst (pc' := 26) dX7_fillWalk_25 (by decide) rfl ?_
  refine T_istore (i := 4) (L' := [(2, 9), (2, g), (0, v2), (0, (fX11_get M (g + 3) 9 v2)), (0, 1), (3, 0)]) (pc' := 28) dX7_fillWalk_26 (by decide) rfl rfl ?_
  exact T_wk (qX7_fillWalk_28 hg 200 v2 (fX11_get M (g + 3) 9 v2) 1 _ (by first | decide | omega) rfl hQ (gX11_put (h := h) (M := M) (p0 := 10) (np0 := 1809) (v1 := (wr32 (v2 * 201))) (v2 := (fX11_get M (g + 3) 9 v2)) (by decide) rfl (by decide) hG)) ⟨Or.inr rfl, Or.inr rfl, Or.inr rfl, Or.inr rfl, Or.inr rfl, Or.inl rfl, trivial⟩
def fX8_hasRoom (M : Mem) (v1 : Int) : Int :=
  (if 1600 < (wr32 ((M 1 1) + v1)) then (0 : Int) else 1)
set_option maxRecDepth 100000 in
theorem pX8_hasRoom {E : EV} {h : Int} {M : Mem} {v1 : Int}  : C2 E miX8_hasRoom 1 h [(2, 1), (0, v1)] M (fun r M' => r = some (0, (fX8_hasRoom M v1)) ∧ M' = M) := by
  obtain ⟨Q, hQ⟩ : ∃ Q : Option MV → Mem → Prop, Q = (fun r M' => r = some (0, (fX8_hasRoom M v1)) ∧ M' = M) := ⟨_, rfl⟩
  rw [← hQ]
  refine C2_of (L := [(2, 1), (0, v1)]) (by decide +kernel) (Nat.le_of_ble_eq_true rfl) rfl (fun hG => ?_)
  refine T_aload_n (i := 0) (pc' := 1) dX8_hasRoom_0 rfl rfl rfl ?_
  refine U_gf (v := (0, (M 1 1))) (k := 1) (kI := 1) (pc' := 4) dX8_hasRoom_1 rfl cl8 (by decide) rfl (by decide) flX8_15 rfl rfl (by decide) rfl rfl ?_
  refine T_iload_n (i := 1) (pc' := 5) dX8_hasRoom_4 rfl rfl rfl ?_
  refine T_iadd (pc' := 6) dX8_hasRoom_5 rfl ?_
  refine T_sipush (pc' := 9) dX8_hasRoom_6 rfl (by decide) rfl ?_
  have HJ1 : T E miX8_hasRoom 1 126 0 0 (fun r S M' => S = S0 ∧ G h M' ∧ Q r M') 17 [(3, 0), (3, 0)] [(0, (if 1600 < (wr32 ((M 1 1) + v1)) then (0 : Int) else 1))] S0 M 0 0 := by
    exact T_zret dX8_hasRoom_17 rfl (by repeat' (first | apply bi | exact Or.inl rfl | exact Or.inr rfl)) ⟨rfl, hG, (by rw [hQ]; exact ⟨rfl, rfl⟩)⟩
  refine T_icmp_gt (pc' := 16) dX8_hasRoom_9 (by decide) (pf := 12) rfl (fun c2 => ?_) (fun c2 => ?_)
  · skip
    refine T_iconst (pc' := 17) dX8_hasRoom_16 (by decide) rfl ?_
    exact T_wk (L' := [(3, 0), (3, 0)]) (by have q := HJ1; try simp only [if_pos c2] at q; exact q) ⟨Or.inl rfl, Or.inl rfl, trivial⟩
  · skip
    refine T_iconst (pc' := 13) dX8_hasRoom_12 (by decide) rfl ?_
    refine T_goto (pc' := 17) dX8_hasRoom_13 (by decide) ?_
    exact T_wk (L' := [(3, 0), (3, 0)]) (by have q := HJ1; try simp only [if_neg c2] at q; exact q) ⟨Or.inl rfl, Or.inl rfl, trivial⟩
theorem fbX8_hasRoom (M : Mem) (v1 : Int) : (fX8_hasRoom M v1) = 0 ∨ (fX8_hasRoom M v1) = 1 := by
  unfold fX8_hasRoom
  repeat' (first | apply bi | exact Or.inl rfl | exact Or.inr rfl)
def fX8_cutTo (M : Mem) (v1 : Int) : Int :=
  (if v1 < 0 then 0 else (if v1 ≤ (M 1 1) then 1 else 0))
def fmX8_cutTo (M : Mem) (v1 : Int) : Mem :=
  (if v1 < 0 then M else (if v1 ≤ (M 1 1) then (mset M 1 1 v1) else M))
theorem gX8_cutTo {h : Int} {M : Mem} {v1 : Int}  (hG : G h M) : G h (fmX8_cutTo M v1) := by
  unfold fmX8_cutTo
  exact (G_ite hG (G_ite (G_fld (x := 1) (i := 1) (y := v1) rfl (by decide) (by decide) (by decide) hG) hG))
set_option maxRecDepth 100000 in
theorem pX8_cutTo {E : EV} {h : Int} {M : Mem} {v1 : Int}  : C2 E miX8_cutTo 1 h [(2, 1), (0, v1)] M (fun r M' => r = some (0, (fX8_cutTo M v1)) ∧ M' = (fmX8_cutTo M v1)) := by
  obtain ⟨Q, hQ⟩ : ∃ Q : Option MV → Mem → Prop, Q = (fun r M' => r = some (0, (fX8_cutTo M v1)) ∧ M' = (fmX8_cutTo M v1)) := ⟨_, rfl⟩
  rw [← hQ]
  refine C2_of (L := [(2, 1), (0, v1)]) (by decide +kernel) (Nat.le_of_ble_eq_true rfl) rfl (fun hG => ?_)
  refine T_iload_n (i := 1) (pc' := 1) dX8_cutTo_0 rfl rfl rfl ?_
  refine T_if_lt (pc' := 12) dX8_cutTo_1 (by decide) (pf := 4) rfl (fun c1 => ?_) (fun c1 => ?_)
  · skip
    refine T_iconst (pc' := 13) dX8_cutTo_12 (by decide) rfl ?_
    exact T_zret dX8_cutTo_13 rfl (by decide) ⟨rfl, hG, (by rw [hQ]; exact ⟨(by unfold fX8_cutTo; simp only [if_pos c1]), (by unfold fmX8_cutTo; simp only [if_pos c1])⟩)⟩
  · skip
    refine T_iload_n (i := 1) (pc' := 5) dX8_cutTo_4 rfl rfl rfl ?_
    refine T_aload_n (i := 0) (pc' := 6) dX8_cutTo_5 rfl rfl rfl ?_
    refine U_gf (v := (0, (M 1 1))) (k := 1) (kI := 1) (pc' := 9) dX8_cutTo_6 rfl cl8 (by decide) rfl (by decide) flX8_15 rfl rfl (by decide) rfl rfl ?_
    refine T_icmp_le (pc' := 14) dX8_cutTo_9 (by decide) (pf := 12) rfl (fun c2 => ?_) (fun c2 => ?_)
    · skip
      refine T_aload_n (i := 0) (pc' := 15) dX8_cutTo_14 rfl rfl rfl ?_
      refine T_iload_n (i := 1) (pc' := 16) dX8_cutTo_15 rfl rfl rfl ?_
      refine U_pf (y := v1) (k := 1) (kI := 1) (pc' := 19) dX8_cutTo_16 rfl cl8 (by decide) rfl (by decide) flX8_15 rfl rfl rfl rfl rfl (by decide) (fun z => z) rfl ?_
      refine T_iconst (pc' := 20) dX8_cutTo_19 (by decide) rfl ?_
      exact T_zret dX8_cutTo_20 rfl (by decide) ⟨rfl, (G_fld (x := 1) (i := 1) (y := v1) rfl (by decide) (by decide) (by decide) hG), (by rw [hQ]; exact ⟨(by unfold fX8_cutTo; simp only [if_neg c1, if_pos c2]), (by unfold fmX8_cutTo; simp only [if_neg c1, if_pos c2])⟩)⟩
    · skip
      refine T_iconst (pc' := 13) dX8_cutTo_12 (by decide) rfl ?_
      exact T_zret dX8_cutTo_13 rfl (by decide) ⟨rfl, hG, (by rw [hQ]; exact ⟨(by unfold fX8_cutTo; simp only [if_neg c1, if_neg c2]), (by unfold fmX8_cutTo; simp only [if_neg c1, if_neg c2])⟩)⟩
theorem frX8_cutTo {M : Mem} {v1 : Int}  {q : Int} (hq0 : q ≠ 1) : (fmX8_cutTo M v1) q = M q := by
  unfold fmX8_cutTo
  repeat' (first | rfl | rw [mset_p hq0] | rw [mcpy_p hq0] | rw [ite_ap] | split)
theorem fbX8_cutTo (M : Mem) (v1 : Int) : (fX8_cutTo M v1) = 0 ∨ (fX8_cutTo M v1) = 1 := by
  unfold fX8_cutTo
  repeat' (first | apply bi | exact Or.inl rfl | exact Or.inr rfl)
def lX10_weightOf_5 (g : Int) : Nat → Int → Int → Int → Mem → Int
  | 0, v1, v2, v4, M => v2
  | k + 1, v1, v2, v4, M => (lX10_weightOf_5 g k v1 (wr64 (v2 * (if (fX11_hasBit v1 v4) = 0 then (wr32 (4 - (fX11_get M (g + 6) 9 v4))) else (fX11_get M (g + 6) 9 v4)))) (v4 + 1) M)
set_option maxRecDepth 100000 in
set_option maxHeartbeats 2000000 in
theorem qX10_weightOf_5 {E : EV} {h : Int} {Q : Option MV → Mem → Prop} {g : Int} (hg : isG g) : ∀ (k : Nat) (v1 v2 v4 : Int) (M : Mem), 0 ≤ v4 → (((M (g + 1) 8)) - v4).toNat = k → Q (some (1, (lX10_weightOf_5 g k v1 v2 v4 M))) M → G h M → TG E miX10_weightOf 2 h Q 5 [(2, (g + 1)), (0, v1), (1, v2), (3, 0), (0, v4), (3, 0)] [] M := by
  intro k
  induction k with
  | zero =>
    intro v1 v2 v4 M hv0 hk hQ hG
    have hQ : Q (some (1, v2)) M := hQ
    refine T_iload (i := 4) (pc' := 7) dX10_weightOf_5 rfl rfl ?_
    refine T_aload_n (i := 0) (pc' := 8) dX10_weightOf_7 rfl rfl rfl ?_
    refine U_gfN (v := (0, (M (g + 1) 8))) (k := 8) (kI := 8) (pc' := 11) dX10_weightOf_8 rfl cl4 (pog1 hg) (shg1 hg) (by decide) flX10_66 rfl rfl (by decide) rfl rfl ?_
    refine T_rng (fun _ z9 _ => ?_)
    have hB : r32 (M (g + 1) 8) := (ok_cons.mp z9).1
    unfold r32 at hB
    refine T_icmp_ge (pc' := 54) dX10_weightOf_11 (by decide) (pf := 14) rfl (fun c1 => ?_) (fun c1 => ?_)
    · skip
      refine T_lload_n (i := 2) (pc' := 55) dX10_weightOf_54 rfl rfl rfl ?_
      exact T_lret dX10_weightOf_55 rfl ⟨rfl, hG, hQ⟩
    · exact absurd c1 (by omega)
  | succ k ih =>
    intro v1 v2 v4 M hv0 hk hQ hG
    have hQ : Q (some (1, (lX10_weightOf_5 g k v1 (wr64 (v2 * (if (fX11_hasBit v1 v4) = 0 then (wr32 (4 - (fX11_get M (g + 6) 9 v4))) else (fX11_get M (g + 6) 9 v4)))) (v4 + 1) M))) M := hQ
    refine T_iload (i := 4) (pc' := 7) dX10_weightOf_5 rfl rfl ?_
    refine T_aload_n (i := 0) (pc' := 8) dX10_weightOf_7 rfl rfl rfl ?_
    refine U_gfN (v := (0, (M (g + 1) 8))) (k := 8) (kI := 8) (pc' := 11) dX10_weightOf_8 rfl cl4 (pog1 hg) (shg1 hg) (by decide) flX10_66 rfl rfl (by decide) rfl rfl ?_
    refine T_rng (fun _ z9 _ => ?_)
    have hB : r32 (M (g + 1) 8) := (ok_cons.mp z9).1
    unfold r32 at hB
    refine T_icmp_ge (pc' := 54) dX10_weightOf_11 (by decide) (pf := 14) rfl (fun c1 => ?_) (fun c1 => ?_)
    · exact absurd c1 (by omega)
    · skip
      have hw : wr32 (v4 + 1) = v4 + 1 := wr32_id (by unfold r32; omega)
      refine T_aload_n (i := 0) (pc' := 15) dX10_weightOf_14 rfl rfl rfl ?_
      refine U_grN (q := (g + 6)) (k := 4) (kI := 4) (pc' := 18) dX10_weightOf_15 rfl cl4 (pog1 hg) (shg1 hg) (by decide) flX10_69 rfl rfl rfl (grg1_4 hg hG) (pog6 hg) rfl ?_
      refine T_iload (i := 4) (pc' := 20) dX10_weightOf_18 rfl rfl ?_
      refine T_callSN (av := [(2, (g + 6)), (0, v4)]) (st := []) (d2 := 1) (nc2 := 0) (ns2 := 0) (pc' := 23) dX10_weightOf_20 rfl mtX11_get mvX11_get mlX10_72 rfl rfl (Nat.le_of_ble_eq_true rfl) (by decide) ⟨by decide, by decide⟩ rfl (pX11_get (E := E) (h := h) (M := M) (p0 := (g + 6)) (np0 := 9) (v1 := v4) (pog6 hg) (shg6 hg) (by decide) hG) (kF (st2 := [(0, (fX11_get M (g + 6) 9 v4))]) rfl (fun hG2 => ?_))
      refine T_istore (i := 5) (L' := [(2, (g + 1)), (0, v1), (1, v2), (3, 0), (0, v4), (0, (fX11_get M (g + 6) 9 v4))]) (pc' := 25) dX10_weightOf_23 (by decide) rfl rfl ?_
      refine T_lload_n (i := 2) (pc' := 26) dX10_weightOf_25 rfl rfl rfl ?_
      refine T_iload_n (i := 1) (pc' := 27) dX10_weightOf_26 rfl rfl rfl ?_
      refine T_iload (i := 4) (pc' := 29) dX10_weightOf_27 rfl rfl ?_
      refine T_callSN (av := [(0, v1), (0, v4)]) (st := [(1, v2)]) (d2 := 1) (nc2 := 0) (ns2 := 0) (pc' := 32) dX10_weightOf_29 rfl mtX11_hasBit mvX11_hasBit mlX10_76 rfl rfl (Nat.le_of_ble_eq_true rfl) (by decide) ⟨by decide, by decide⟩ rfl (pX11_hasBit (E := E) (h := h) (M := M) (v0 := v1) (v1 := v4) hG) (kF (st2 := [(0, (fX11_hasBit v1 v4)), (1, v2)]) rfl (fun hG3 => ?_))
      have HJ4 : T E miX10_weightOf 2 126 0 0 (fun r S M' => S = S0 ∧ G h M' ∧ Q r M') 46 [(2, (g + 1)), (0, v1), (3, 0), (3, 0), (0, v4), (3, 0)] [(1, (if (fX11_hasBit v1 v4) = 0 then (wr32 (4 - (fX11_get M (g + 6) 9 v4))) else (fX11_get M (g + 6) 9 v4))), (1, v2)] S0 M 0 0 := by
        refine T_lmul (pc' := 47) dX10_weightOf_46 rfl ?_
        refine T_lstore_n (i := 2) (L' := [(2, (g + 1)), (0, v1), (1, (wr64 (v2 * (if (fX11_hasBit v1 v4) = 0 then (wr32 (4 - (fX11_get M (g + 6) 9 v4))) else (fX11_get M (g + 6) 9 v4))))), (3, 0), (0, v4), (3, 0)]) (pc' := 48) dX10_weightOf_47 rfl (by decide) rfl rfl ?_
        refine T_iinc (L' := [(2, (g + 1)), (0, v1), (1, (wr64 (v2 * (if (fX11_hasBit v1 v4) = 0 then (wr32 (4 - (fX11_get M (g + 6) 9 v4))) else (fX11_get M (g + 6) 9 v4))))), (3, 0), (0, (wr32 (v4 + 1))), (3, 0)]) (pc' := 51) dX10_weightOf_48 rfl (by decide) rfl rfl ?_
        refine T_goto (pc' := 5) dX10_weightOf_51 (by decide) ?_
        rw [hw]
        exact T_wk (ih _ _ (v4 + 1) _ (by omega) (by omega) hQ hG) ⟨Or.inr rfl, Or.inr rfl, Or.inr rfl, Or.inl rfl, Or.inr rfl, Or.inl rfl, trivial⟩
      refine T_if_eq (pc' := 41) dX10_weightOf_32 (by decide) (pf := 35) rfl (fun c5 => ?_) (fun c5 => ?_)
      · skip
        refine T_iconst (pc' := 42) dX10_weightOf_41 (by decide) rfl ?_
        refine T_iload (i := 5) (pc' := 44) dX10_weightOf_42 rfl rfl ?_
        refine T_isub (pc' := 45) dX10_weightOf_44 rfl ?_
        refine T_i2l (pc' := 46) dX10_weightOf_45 rfl ?_
        exact T_wk (L' := [(2, (g + 1)), (0, v1), (3, 0), (3, 0), (0, v4), (3, 0)]) (by have q := HJ4; try simp only [if_pos c5] at q; exact q) ⟨Or.inr rfl, Or.inr rfl, Or.inl rfl, Or.inl rfl, Or.inr rfl, Or.inl rfl, trivial⟩
      · skip
        refine T_iload (i := 5) (pc' := 37) dX10_weightOf_35 rfl rfl ?_
        refine T_i2l (pc' := 38) dX10_weightOf_37 rfl ?_
        refine T_goto (pc' := 46) dX10_weightOf_38 (by decide) ?_
        exact T_wk (L' := [(2, (g + 1)), (0, v1), (3, 0), (3, 0), (0, v4), (3, 0)]) (by have q := HJ4; try simp only [if_neg c5] at q; exact q) ⟨Or.inr rfl, Or.inr rfl, Or.inl rfl, Or.inl rfl, Or.inr rfl, Or.inl rfl, trivial⟩
def fX10_weightOf (M : Mem) (g : Int) (v1 : Int) : Int :=
  (lX10_weightOf_5 g ((((M (g + 1) 8)) : Int) - 0).toNat v1 1 0 M)
set_option maxRecDepth 100000 in
theorem pX10_weightOf {E : EV} {h : Int} {M : Mem} {g : Int} {v1 : Int} (hg : isG g) : C2 E miX10_weightOf 2 h [(2, (g + 1)), (0, v1)] M (fun r M' => r = some (1, (fX10_weightOf M g v1)) ∧ M' = M) := by
  obtain ⟨Q, hQ0⟩ : ∃ Q : Option MV → Mem → Prop, Q = (fun r M' => r = some (1, (fX10_weightOf M g v1)) ∧ M' = M) := ⟨_, rfl⟩
  rw [← hQ0]
  have hQ : Q (some (1, (lX10_weightOf_5 g ((((M (g + 1) 8)) : Int) - 0).toNat v1 1 0 M))) M := by rw [hQ0]; exact ⟨rfl, rfl⟩
  refine C2_of (L := [(2, (g + 1)), (0, v1), (3, 0), (3, 0), (3, 0), (3, 0)]) (by decide +kernel) (Nat.le_of_ble_eq_true rfl) rfl (fun hG => ?_)
  refine T_lconst (v := 1) (pc' := 1) dX10_weightOf_0 rfl (by decide) rfl ?_
  refine T_lstore_n (i := 2) (L' := [(2, (g + 1)), (0, v1), (1, 1), (3, 0), (3, 0), (3, 0)]) (pc' := 2) dX10_weightOf_1 rfl (by decide) rfl rfl ?_
  refine T_iconst (pc' := 3) dX10_weightOf_2 (by decide) rfl ?_
  refine T_istore (i := 4) (L' := [(2, (g + 1)), (0, v1), (1, 1), (3, 0), (0, 0), (3, 0)]) (pc' := 5) dX10_weightOf_3 (by decide) rfl rfl ?_
  exact T_wk (qX10_weightOf_5 hg _ v1 1 0 _ (by first | decide | omega) rfl hQ hG) ⟨Or.inr rfl, Or.inr rfl, Or.inr rfl, Or.inl rfl, Or.inr rfl, Or.inl rfl, trivial⟩
def fX11_end (M : Mem) (v1 : Int) : Int :=
  (fX8_cutTo M v1)
def fmX11_end (M : Mem) (v1 : Int) : Mem :=
  (fmX8_cutTo M v1)
theorem gX11_end {h : Int} {M : Mem} {v1 : Int}  (hG : G h M) : G h (fmX11_end M v1) := by
  unfold fmX11_end
  exact (gX8_cutTo (h := h) (M := M) (v1 := v1) hG)
set_option maxRecDepth 100000 in
theorem pX11_end {E : EV} {h : Int} {M : Mem} {v1 : Int}  : C2 E miX11_end 2 h [(2, 0), (0, v1)] M (fun r M' => r = some (0, (fX11_end M v1)) ∧ M' = (fmX11_end M v1)) := by
  obtain ⟨Q, hQ⟩ : ∃ Q : Option MV → Mem → Prop, Q = (fun r M' => r = some (0, (fX11_end M v1)) ∧ M' = (fmX11_end M v1)) := ⟨_, rfl⟩
  rw [← hQ]
  refine C2_of (L := [(2, 0), (0, v1)]) (by decide +kernel) (Nat.le_of_ble_eq_true rfl) rfl (fun hG => ?_)
  refine T_aload_n (i := 0) (pc' := 1) dX11_end_0 rfl rfl rfl ?_
  refine U_gr (q := 1) (k := 0) (kI := 0) (pc' := 4) dX11_end_1 rfl cl11 (by decide) rfl (by decide) flX11_12 rfl rfl rfl (G_at hG 0 rfl) (by decide) rfl ?_
  refine T_iload_n (i := 1) (pc' := 5) dX11_end_4 rfl rfl rfl ?_
  refine T_callV (av := [(0, v1)]) (st := []) (d2 := 1) (nc2 := 0) (ns2 := 0) (pc' := 8) dX11_end_5 rfl mtX8_cutTo mvX8_cutTo mlX11_119 cl8 rfl rfl rfl (Nat.le_of_ble_eq_true rfl) (by decide) ⟨by decide, by decide⟩ rfl (pX8_cutTo (E := E) (h := h) (M := M) (v1 := v1) hG) (kF (st2 := [(0, (fX8_cutTo M v1))]) rfl (fun hG1 => ?_))
  exact T_zret dX11_end_8 rfl (by repeat' (first | apply bi | exact Or.inl rfl | exact Or.inr rfl | apply fbX8_cutTo)) ⟨rfl, (gX8_cutTo (h := h) (M := M) (v1 := v1) hG), (by rw [hQ]; exact ⟨rfl, rfl⟩)⟩
theorem frX11_end {M : Mem} {v1 : Int}  {q : Int} (hq0 : q ≠ 1) : (fmX11_end M v1) q = M q := by
  unfold fmX11_end
  repeat' (first | rfl | rw [mset_p hq0] | rw [mcpy_p hq0] | (rw [frX8_cutTo] <;> try assumption) | rw [ite_ap] | split)
theorem fbX11_end (M : Mem) (v1 : Int) : (fX11_end M v1) = 0 ∨ (fX11_end M v1) = 1 := by
  unfold fX11_end
  repeat' (first | apply bi | exact Or.inl rfl | exact Or.inr rfl | apply fbX8_cutTo)
def fmX11_changed (M : Mem) (v1 : Int) : Mem :=
  (mset (mset M 0 16 (if (M 0 16) = 0 then (if v1 = 0 then (0 : Int) else 1) else 1)) 0 17 1)
theorem gX11_changed {h : Int} {M : Mem} {v1 : Int}  (hG : G h M) : G h (fmX11_changed M v1) := by
  unfold fmX11_changed
  exact (G_fld (x := 0) (i := 17) (y := 1) rfl (by decide) (by decide) (by decide) (G_fld (x := 0) (i := 16) (y := (if (M 0 16) = 0 then (if v1 = 0 then (0 : Int) else 1) else 1)) rfl (by decide) (by decide) (by decide) hG))
set_option maxRecDepth 100000 in
theorem pX11_changed {E : EV} {h : Int} {M : Mem} {v1 : Int}  : C2 E miX11_changed 1 h [(2, 0), (0, v1)] M (fun r M' => r = none ∧ M' = (fmX11_changed M v1)) := by
  obtain ⟨Q, hQ⟩ : ∃ Q : Option MV → Mem → Prop, Q = (fun r M' => r = none ∧ M' = (fmX11_changed M v1)) := ⟨_, rfl⟩
  rw [← hQ]
  refine C2_of (L := [(2, 0), (0, v1)]) (by decide +kernel) (Nat.le_of_ble_eq_true rfl) rfl (fun hG => ?_)
  refine T_aload_n (i := 0) (pc' := 1) dX11_changed_0 rfl rfl rfl ?_
  refine T_aload_n (i := 0) (pc' := 2) dX11_changed_1 rfl rfl rfl ?_
  refine U_gf (v := (0, (M 0 16))) (k := 16) (kI := 16) (pc' := 5) dX11_changed_2 rfl cl11 (by decide) rfl (by decide) flX11_101 rfl rfl (by decide) rfl rfl ?_
  have HJ1 : T E miX11_changed 1 126 0 0 (fun r S M' => S = S0 ∧ G h M' ∧ Q r M') 17 [(2, 0), (3, 0)] [(0, (if (M 0 16) = 0 then (if v1 = 0 then (0 : Int) else 1) else 1)), (2, 0)] S0 M 0 0 := by
    refine U_pf (y := (if (M 0 16) = 0 then (if v1 = 0 then (0 : Int) else 1) else 1)) (k := 16) (kI := 16) (pc' := 20) dX11_changed_17 rfl cl11 (by decide) rfl (by decide) flX11_101 rfl rfl rfl rfl rfl (by decide) (fun _ => bool_ok (by omega)) rfl ?_
    refine T_aload_n (i := 0) (pc' := 21) dX11_changed_20 rfl rfl rfl ?_
    refine T_iconst (pc' := 22) dX11_changed_21 (by decide) rfl ?_
    refine U_pf (y := 1) (k := 17) (kI := 17) (pc' := 25) dX11_changed_22 rfl cl11 (by decide) rfl (by decide) flX11_105 rfl rfl rfl rfl rfl (by decide) (fun _ => bool_ok (by decide)) rfl ?_
    exact T_vret dX11_changed_25 rfl ⟨rfl, (G_fld (x := 0) (i := 17) (y := 1) rfl (by decide) (by decide) (by decide) (G_fld (x := 0) (i := 16) (y := (if (M 0 16) = 0 then (if v1 = 0 then (0 : Int) else 1) else 1)) rfl (by decide) (by decide) (by decide) hG)), (by rw [hQ]; exact ⟨rfl, rfl⟩)⟩
  refine T_if_ne (pc' := 12) dX11_changed_5 (by decide) (pf := 8) rfl (fun c2 => ?_) (fun c2 => ?_)
  · skip
    refine T_iconst (pc' := 13) dX11_changed_12 (by decide) rfl ?_
    refine T_goto (pc' := 17) dX11_changed_13 (by decide) ?_
    exact T_wk (L' := [(2, 0), (3, 0)]) (by have q := HJ1; try simp only [if_neg c2] at q; exact q) ⟨Or.inr rfl, Or.inl rfl, trivial⟩
  · skip
    refine T_iload_n (i := 1) (pc' := 9) dX11_changed_8 rfl rfl rfl ?_
    refine T_if_eq (pc' := 16) dX11_changed_9 (by decide) (pf := 12) rfl (fun c3 => ?_) (fun c3 => ?_)
    · skip
      refine T_iconst (pc' := 17) dX11_changed_16 (by decide) rfl ?_
      exact T_wk (L' := [(2, 0), (3, 0)]) (by have q := HJ1; try simp only [if_pos c2] at q; try simp only [if_pos c3] at q; exact q) ⟨Or.inr rfl, Or.inl rfl, trivial⟩
    · skip
      refine T_iconst (pc' := 13) dX11_changed_12 (by decide) rfl ?_
      refine T_goto (pc' := 17) dX11_changed_13 (by decide) ?_
      exact T_wk (L' := [(2, 0), (3, 0)]) (by have q := HJ1; try simp only [if_pos c2] at q; try simp only [if_neg c3] at q; exact q) ⟨Or.inr rfl, Or.inl rfl, trivial⟩
theorem frX11_changed {M : Mem} {v1 : Int}  {q : Int} (hq0 : q ≠ 0) : (fmX11_changed M v1) q = M q := by
  unfold fmX11_changed
  repeat' (first | rfl | rw [mset_p hq0] | rw [mcpy_p hq0] | rw [ite_ap] | split)
