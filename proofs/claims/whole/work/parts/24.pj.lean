/-! methods as propositions, 10 -/
def PX12_post_49 (v1 : Int) (K : Int →Int → Mem → Prop) (Q : Int → Mem → Prop) : Nat → Int → Int → Int → Mem → Prop
  | 0 => fun _ _ _ _ => False
  | k + 1 => fun v4 v5 v6 M => (((fX12_cells M) ≤ v6 → K v4 v5 M) ∧ (¬ ((fX12_cells M) ≤ v6) → (nX12_isWallNow v6) ∧ (((fX12_isWallNow M v6) = 0 → 0 ≤ (wr32 (12 + (wr32 (3 * v1)))) ∧ (wr32 (12 + (wr32 (3 * v1)))) < 24 ∧ (∀ M7 : Mem, M7 = (mset M 89 (wr32 (12 + (wr32 (3 * v1)))) v6) → PX12_plays M7 (fun _ M9 => PX12_post_49 v1 K Q k (if v4 = (-1) then v6 else (if (fX12_isSooner (M9 66 51) v5) = 0 then v4 else v6)) (if v4 = (-1) then (M9 66 51) else (if (fX12_isSooner (M9 66 51) v5) = 0 then v5 else (M9 66 51))) (wr32 (v6 + 1)) M9))) ∧ (¬ ((fX12_isWallNow M v6) = 0) → PX12_post_49 v1 K Q k v4 v5 (wr32 (v6 + 1)) M))))
def PX12_post (v1 : Int) (v2 : Int) (M : Mem) (Q : Int → Mem → Prop) : Prop :=
  (((fX12_isIn v1 0 (wr32 ((fX12_guardMany M) - 1))) = 0 → Q (-1) M) ∧ (¬ ((fX12_isIn v1 0 (wr32 ((fX12_guardMany M) - 1))) = 0) → (((fX12_isIn v2 0 1) = 0 → Q (-1) M) ∧ (¬ ((fX12_isIn v2 0 1) = 0) → 0 ≤ (wr32 (12 + (wr32 (3 * v1)))) ∧ (wr32 (12 + (wr32 (3 * v1)))) < 24 ∧ (∃ k6 : Nat, PX12_post_49 v1 (fun u7 u8 M9 => 0 ≤ (wr32 (12 + (wr32 (3 * v1)))) ∧ (wr32 (12 + (wr32 (3 * v1)))) < 24 ∧ (∀ M12 : Mem, M12 = (mset M9 89 (wr32 (12 + (wr32 (3 * v1)))) (M 89 (wr32 (12 + (wr32 (3 * v1)))))) → Q (if v2 = 0 then u7 else u8) M12)) Q k6 (-1) (-1) 0 M)))))
set_option maxRecDepth 100000 in
set_option maxHeartbeats 2000000 in
theorem qX12_post_49 {E : EV} {h : Int} {v1 : Int} {v2 : Int} {v3 : Int}  {K : Int →Int → Mem → Prop} {Q : Int → Mem → Prop} (hK : ∀ (v4 v5 : Int) (M : Mem), K v4 v5 M → G h M → TG E miX12_post 7 h (RI 0 Q) 125 [(2, 66), (0, v1), (0, v2), (0, v3), (0, v4), (0, v5), (3, 0)] [] M) : ∀ (k : Nat) (v4 v5 v6 : Int) (M : Mem), PX12_post_49 v1 K Q k v4 v5 v6 M → G h M → TG E miX12_post 7 h (RI 0 Q) 49 [(2, 66), (0, v1), (0, v2), (0, v3), (0, v4), (0, v5), (0, v6)] [] M := by
  intro k
  induction k with
  | zero =>
    intro v4 v5 v6 M H
    exact False.elim H
  | succ k ih =>
    intro v4 v5 v6 M H hG
    refine T_iload (i := 6) (pc' := 51) dX12_post_49 rfl rfl ?_
    refine T_aload_n (i := 0) (pc' := 52) dX12_post_51 rfl rfl rfl ?_
    refine T_callV (av := []) (st := [(0, v6)]) (d2 := 1) (nc2 := 0) (ns2 := 0) (pc' := 55) dX12_post_52 rfl mtX12_cells mvX12_cells mlX12_346 cl12 rfl rfl rfl (Nat.le_of_ble_eq_true rfl) (by decide) ⟨by decide, by decide⟩ rfl (pX12_cells (E := E) (h := h) (M := M) hG) (kF (st2 := [(0, (fX12_cells M)), (0, v6)]) rfl (fun hG1 => ?_))
    refine T_icmp_ge (pc' := 125) dX12_post_55 (by decide) (pf := 58) rfl (fun c2 => ?_) (fun c2 => ?_)
    · skip
      replace H := H.1 c2
      exact T_wk (L' := [(2, 66), (0, v1), (0, v2), (0, v3), (0, v4), (0, v5), (3, 0)]) (hK _ _ _ H hG) ⟨Or.inr rfl, Or.inr rfl, Or.inr rfl, Or.inr rfl, Or.inr rfl, Or.inr rfl, Or.inl rfl, trivial⟩
    · skip
      replace H := H.2 c2
      refine T_aload_n (i := 0) (pc' := 59) dX12_post_58 rfl rfl rfl ?_
      refine T_iload (i := 6) (pc' := 61) dX12_post_59 rfl rfl ?_
      obtain ⟨z3, H⟩ := H
      refine T_callV (av := [(0, v6)]) (st := []) (d2 := 1) (nc2 := 0) (ns2 := 0) (pc' := 64) dX12_post_61 rfl mtX12_isWallNow mvX12_isWallNow mlX12_355 cl12 rfl rfl rfl (Nat.le_of_ble_eq_true rfl) (by decide) ⟨by decide, by decide⟩ rfl (pX12_isWallNow (E := E) (h := h) (M := M) (v1 := v6) z3 hG) (kF (st2 := [(0, (fX12_isWallNow M v6))]) rfl (fun hG4 => ?_))
      refine T_if_eq (pc' := 70) dX12_post_64 (by decide) (pf := 67) rfl (fun c5 => ?_) (fun c5 => ?_)
      · skip
        replace H := H.1 c5
        refine T_aload_n (i := 0) (pc' := 71) dX12_post_70 rfl rfl rfl ?_
        refine U_gr (q := 89) (k := 32) (kI := 32) (pc' := 74) dX12_post_71 rfl cl12 (by decide) rfl (by decide) flX12_83 rfl rfl rfl (G_at hG 89 rfl) (by decide) rfl ?_
        refine T_bipush (pc' := 76) dX12_post_74 rfl (by decide) rfl ?_
        refine T_iconst (pc' := 77) dX12_post_76 (by decide) rfl ?_
        refine T_iload_n (i := 1) (pc' := 78) dX12_post_77 rfl rfl rfl ?_
        refine T_imul (pc' := 79) dX12_post_78 rfl ?_
        refine T_iadd (pc' := 80) dX12_post_79 rfl ?_
        refine T_iload (i := 6) (pc' := 82) dX12_post_80 rfl rfl ?_
        obtain ⟨z1, z2, H⟩ := H
        refine T_iast (pc' := 83) dX12_post_82 (by decide) rfl z1 z2 rfl ?_
        have hG6 := (G_arr (x := 89) (i := (wr32 (12 + (wr32 (3 * v1))))) (y := v6) rfl (by decide) hG)
        obtain ⟨M7, eM7⟩ : ∃ m : Mem, m = (mset M 89 (wr32 (12 + (wr32 (3 * v1)))) v6) := ⟨_, rfl⟩
        rw [← eM7] at hG6 ⊢
        replace H := H M7 eM7
        refine T_aload_n (i := 0) (pc' := 84) dX12_post_83 rfl rfl rfl ?_
        refine T_callV (av := []) (st := []) (d2 := 6) (nc2 := 0) (ns2 := 0) (pc' := 87) dX12_post_84 rfl mtX12_plays mvX12_plays mlX12_441 cl12 rfl rfl rfl (Nat.le_of_ble_eq_true rfl) (by decide) ⟨by decide, by decide⟩ rfl (pX12_plays (E := E) (h := h) (M := M7) H hG6) ?_
        rintro _ _ M9 ⟨rfl, hG10, rfl, H⟩ _
        refine T_iload (i := 4) (pc' := 89) dX12_post_87 rfl rfl ?_
        refine T_iconst (pc' := 90) dX12_post_89 (by decide) rfl ?_
        have HJ11 : T E miX12_post 7 126 0 0 (fun r S M' => S = S0 ∧ G h M' ∧ RI 0 Q r M') 119 [(2, 66), (0, v1), (0, v2), (0, v3), (0, (if v4 = (-1) then v6 else (if (fX12_isSooner (M9 66 51) v5) = 0 then v4 else v6))), (0, (if v4 = (-1) then (M9 66 51) else (if (fX12_isSooner (M9 66 51) v5) = 0 then v5 else (M9 66 51)))), (0, v6)] [] S0 M9 0 0 := by
          refine T_iinc (L' := [(2, 66), (0, v1), (0, v2), (0, v3), (0, (if v4 = (-1) then v6 else (if (fX12_isSooner (M9 66 51) v5) = 0 then v4 else v6))), (0, (if v4 = (-1) then (M9 66 51) else (if (fX12_isSooner (M9 66 51) v5) = 0 then v5 else (M9 66 51)))), (0, (wr32 (v6 + 1)))]) (pc' := 122) dX12_post_119 rfl (by decide) rfl rfl ?_
          refine T_goto (pc' := 49) dX12_post_122 (by decide) ?_
          exact T_wk (L' := [(2, 66), (0, v1), (0, v2), (0, v3), (0, (if v4 = (-1) then v6 else (if (fX12_isSooner (M9 66 51) v5) = 0 then v4 else v6))), (0, (if v4 = (-1) then (M9 66 51) else (if (fX12_isSooner (M9 66 51) v5) = 0 then v5 else (M9 66 51)))), (0, (wr32 (v6 + 1)))]) (ih _ _ _ _ H hG10) ⟨Or.inr rfl, Or.inr rfl, Or.inr rfl, Or.inr rfl, Or.inr rfl, Or.inr rfl, Or.inr rfl, trivial⟩
        refine T_icmp_eq (pc' := 109) dX12_post_90 (by decide) (pf := 93) rfl (fun c12 => ?_) (fun c12 => ?_)
        · skip
          refine T_iload (i := 6) (pc' := 111) dX12_post_109 rfl rfl ?_
          refine T_istore (i := 4) (L' := [(2, 66), (0, v1), (0, v2), (0, v3), (0, v6), (0, v5), (0, v6)]) (pc' := 113) dX12_post_111 (by decide) rfl rfl ?_
          refine T_aload_n (i := 0) (pc' := 114) dX12_post_113 rfl rfl rfl ?_
          refine U_gf (v := (0, (M9 66 51))) (k := 51) (kI := 51) (pc' := 117) dX12_post_114 rfl cl12 (by decide) rfl (by decide) flX12_370 rfl rfl (by decide) rfl rfl ?_
          refine T_istore (i := 5) (L' := [(2, 66), (0, v1), (0, v2), (0, v3), (0, v6), (0, (M9 66 51)), (0, v6)]) (pc' := 119) dX12_post_117 (by decide) rfl rfl ?_
          exact T_wk (L' := [(2, 66), (0, v1), (0, v2), (0, v3), (0, v6), (0, (M9 66 51)), (0, v6)]) (by have q := HJ11; try simp only [if_pos c12] at q ⊢; exact q) ⟨Or.inr rfl, Or.inr rfl, Or.inr rfl, Or.inr rfl, Or.inr rfl, Or.inr rfl, Or.inr rfl, trivial⟩
        · skip
          refine T_aload_n (i := 0) (pc' := 94) dX12_post_93 rfl rfl rfl ?_
          refine T_aload_n (i := 0) (pc' := 95) dX12_post_94 rfl rfl rfl ?_
          refine U_gf (v := (0, (M9 66 51))) (k := 51) (kI := 51) (pc' := 98) dX12_post_95 rfl cl12 (by decide) rfl (by decide) flX12_370 rfl rfl (by decide) rfl rfl ?_
          refine T_iload (i := 5) (pc' := 100) dX12_post_98 rfl rfl ?_
          refine T_callV (av := [(0, (M9 66 51)), (0, v5)]) (st := []) (d2 := 1) (nc2 := 0) (ns2 := 0) (pc' := 103) dX12_post_100 rfl mtX12_isSooner mvX12_isSooner mlX12_514 cl12 rfl rfl rfl (Nat.le_of_ble_eq_true rfl) (by decide) ⟨by decide, by decide⟩ rfl (pX12_isSooner (E := E) (h := h) (M := M9) (v1 := (M9 66 51)) (v2 := v5) hG10) (kF (st2 := [(0, (fX12_isSooner (M9 66 51) v5))]) rfl (fun hG13 => ?_))
          refine T_if_ne (pc' := 109) dX12_post_103 (by decide) (pf := 106) rfl (fun c14 => ?_) (fun c14 => ?_)
          · skip
            refine T_iload (i := 6) (pc' := 111) dX12_post_109 rfl rfl ?_
            refine T_istore (i := 4) (L' := [(2, 66), (0, v1), (0, v2), (0, v3), (0, v6), (0, v5), (0, v6)]) (pc' := 113) dX12_post_111 (by decide) rfl rfl ?_
            refine T_aload_n (i := 0) (pc' := 114) dX12_post_113 rfl rfl rfl ?_
            refine U_gf (v := (0, (M9 66 51))) (k := 51) (kI := 51) (pc' := 117) dX12_post_114 rfl cl12 (by decide) rfl (by decide) flX12_370 rfl rfl (by decide) rfl rfl ?_
            refine T_istore (i := 5) (L' := [(2, 66), (0, v1), (0, v2), (0, v3), (0, v6), (0, (M9 66 51)), (0, v6)]) (pc' := 119) dX12_post_117 (by decide) rfl rfl ?_
            exact T_wk (L' := [(2, 66), (0, v1), (0, v2), (0, v3), (0, v6), (0, (M9 66 51)), (0, v6)]) (by have q := HJ11; try simp only [if_neg c12] at q ⊢; try simp only [if_neg c14] at q ⊢; exact q) ⟨Or.inr rfl, Or.inr rfl, Or.inr rfl, Or.inr rfl, Or.inr rfl, Or.inr rfl, Or.inr rfl, trivial⟩
          · skip
            refine T_goto (pc' := 119) dX12_post_106 (by decide) ?_
            exact T_wk (L' := [(2, 66), (0, v1), (0, v2), (0, v3), (0, v4), (0, v5), (0, v6)]) (by have q := HJ11; try simp only [if_neg c12] at q ⊢; try simp only [if_pos c14] at q ⊢; exact q) ⟨Or.inr rfl, Or.inr rfl, Or.inr rfl, Or.inr rfl, Or.inr rfl, Or.inr rfl, Or.inr rfl, trivial⟩
      · skip
        replace H := H.2 c5
        refine T_goto (pc' := 119) dX12_post_67 (by decide) ?_
        refine T_iinc (L' := [(2, 66), (0, v1), (0, v2), (0, v3), (0, v4), (0, v5), (0, (wr32 (v6 + 1)))]) (pc' := 122) dX12_post_119 rfl (by decide) rfl rfl ?_
        refine T_goto (pc' := 49) dX12_post_122 (by decide) ?_
        exact T_wk (L' := [(2, 66), (0, v1), (0, v2), (0, v3), (0, v4), (0, v5), (0, (wr32 (v6 + 1)))]) (ih _ _ _ _ H hG) ⟨Or.inr rfl, Or.inr rfl, Or.inr rfl, Or.inr rfl, Or.inr rfl, Or.inr rfl, Or.inr rfl, trivial⟩
set_option maxRecDepth 100000 in
set_option maxHeartbeats 2000000 in
theorem pX12_post {E : EV} {h : Int} {M : Mem} {v1 : Int} {v2 : Int}  {Q : Int → Mem → Prop} (H : PX12_post v1 v2 M Q) : C2 E miX12_post 7 h [(2, 66), (0, v1), (0, v2)] M (RI 0 Q) := by
  refine C2_of (L := [(2, 66), (0, v1), (0, v2), (3, 0), (3, 0), (3, 0), (3, 0)]) (by decide +kernel) (Nat.le_of_ble_eq_true rfl) rfl (fun hG => ?_)
  refine T_iload_n (i := 1) (pc' := 1) dX12_post_0 rfl rfl rfl ?_
  refine T_i2l (pc' := 2) dX12_post_1 rfl ?_
  refine T_lconst (v := 0) (pc' := 3) dX12_post_2 rfl (by decide) rfl ?_
  refine T_aload_n (i := 0) (pc' := 4) dX12_post_3 rfl rfl rfl ?_
  refine T_callV (av := []) (st := [(1, 0), (1, v1)]) (d2 := 1) (nc2 := 0) (ns2 := 0) (pc' := 7) dX12_post_4 rfl mtX12_guardMany mvX12_guardMany mlX12_404 cl12 rfl rfl rfl (Nat.le_of_ble_eq_true rfl) (by decide) ⟨by decide, by decide⟩ rfl (pX12_guardMany (E := E) (h := h) (M := M) hG) (kF (st2 := [(0, (fX12_guardMany M)), (1, 0), (1, v1)]) rfl (fun hG1 => ?_))
  refine T_iconst (pc' := 8) dX12_post_7 (by decide) rfl ?_
  refine T_isub (pc' := 9) dX12_post_8 rfl ?_
  refine T_i2l (pc' := 10) dX12_post_9 rfl ?_
  refine T_callS (av := [(1, v1), (1, 0), (1, (wr32 ((fX12_guardMany M) - 1)))]) (st := []) (d2 := 1) (nc2 := 0) (ns2 := 0) (pc' := 13) dX12_post_10 rfl mtX12_isIn mvX12_isIn mlX12_244 rfl rfl (Nat.le_of_ble_eq_true rfl) (by decide) ⟨by decide, by decide⟩ rfl (pX12_isIn (E := E) (h := h) (M := M) (v0 := v1) (v2 := 0) (v4 := (wr32 ((fX12_guardMany M) - 1))) hG) (kF (st2 := [(0, (fX12_isIn v1 0 (wr32 ((fX12_guardMany M) - 1))))]) rfl (fun hG2 => ?_))
  refine T_if_eq (pc' := 26) dX12_post_13 (by decide) (pf := 16) rfl (fun c3 => ?_) (fun c3 => ?_)
  · skip
    replace H := H.1 c3
    refine T_iconst (pc' := 27) dX12_post_26 (by decide) rfl ?_
    exact T_iret dX12_post_27 rfl ⟨rfl, hG, _, rfl, H⟩
  · skip
    replace H := H.2 c3
    refine T_iload_n (i := 2) (pc' := 17) dX12_post_16 rfl rfl rfl ?_
    refine T_i2l (pc' := 18) dX12_post_17 rfl ?_
    refine T_lconst (v := 0) (pc' := 19) dX12_post_18 rfl (by decide) rfl ?_
    refine T_lconst (v := 1) (pc' := 20) dX12_post_19 rfl (by decide) rfl ?_
    refine T_callS (av := [(1, v2), (1, 0), (1, 1)]) (st := []) (d2 := 1) (nc2 := 0) (ns2 := 0) (pc' := 23) dX12_post_20 rfl mtX12_isIn mvX12_isIn mlX12_244 rfl rfl (Nat.le_of_ble_eq_true rfl) (by decide) ⟨by decide, by decide⟩ rfl (pX12_isIn (E := E) (h := h) (M := M) (v0 := v2) (v2 := 0) (v4 := 1) hG) (kF (st2 := [(0, (fX12_isIn v2 0 1))]) rfl (fun hG4 => ?_))
    refine T_if_ne (pc' := 28) dX12_post_23 (by decide) (pf := 26) rfl (fun c5 => ?_) (fun c5 => ?_)
    · skip
      replace H := H.2 c5
      refine T_aload_n (i := 0) (pc' := 29) dX12_post_28 rfl rfl rfl ?_
      refine U_gr (q := 89) (k := 32) (kI := 32) (pc' := 32) dX12_post_29 rfl cl12 (by decide) rfl (by decide) flX12_83 rfl rfl rfl (G_at hG 89 rfl) (by decide) rfl ?_
      refine T_bipush (pc' := 34) dX12_post_32 rfl (by decide) rfl ?_
      refine T_iconst (pc' := 35) dX12_post_34 (by decide) rfl ?_
      refine T_iload_n (i := 1) (pc' := 36) dX12_post_35 rfl rfl rfl ?_
      refine T_imul (pc' := 37) dX12_post_36 rfl ?_
      refine T_iadd (pc' := 38) dX12_post_37 rfl ?_
      obtain ⟨z1, z2, H⟩ := H
      refine T_iald (pc' := 39) dX12_post_38 (by decide) rfl z1 z2 rfl ?_
      refine T_istore_n (i := 3) (L' := [(2, 66), (0, v1), (0, v2), (0, (M 89 (wr32 (12 + (wr32 (3 * v1)))))), (3, 0), (3, 0), (3, 0)]) (pc' := 40) dX12_post_39 rfl (by decide) rfl rfl ?_
      refine T_iconst (pc' := 41) dX12_post_40 (by decide) rfl ?_
      refine T_istore (i := 4) (L' := [(2, 66), (0, v1), (0, v2), (0, (M 89 (wr32 (12 + (wr32 (3 * v1)))))), (0, (-1)), (3, 0), (3, 0)]) (pc' := 43) dX12_post_41 (by decide) rfl rfl ?_
      refine T_iconst (pc' := 44) dX12_post_43 (by decide) rfl ?_
      refine T_istore (i := 5) (L' := [(2, 66), (0, v1), (0, v2), (0, (M 89 (wr32 (12 + (wr32 (3 * v1)))))), (0, (-1)), (0, (-1)), (3, 0)]) (pc' := 46) dX12_post_44 (by decide) rfl rfl ?_
      refine T_iconst (pc' := 47) dX12_post_46 (by decide) rfl ?_
      refine T_istore (i := 6) (L' := [(2, 66), (0, v1), (0, v2), (0, (M 89 (wr32 (12 + (wr32 (3 * v1)))))), (0, (-1)), (0, (-1)), (0, 0)]) (pc' := 49) dX12_post_47 (by decide) rfl rfl ?_
      obtain ⟨k6, H⟩ := H
      refine T_wk (L' := [(2, 66), (0, v1), (0, v2), (0, (M 89 (wr32 (12 + (wr32 (3 * v1)))))), (0, (-1)), (0, (-1)), (0, 0)]) (qX12_post_49 (v1 := v1) (v2 := v2) (v3 := (M 89 (wr32 (12 + (wr32 (3 * v1)))))) (fun u7 u8 M9 H hG10 => ?_) _ _ _ _ _ H hG) ⟨Or.inr rfl, Or.inr rfl, Or.inr rfl, Or.inr rfl, Or.inr rfl, Or.inr rfl, Or.inr rfl, trivial⟩
      refine T_aload_n (i := 0) (pc' := 126) dX12_post_125 rfl rfl rfl ?_
      refine U_gr (q := 89) (k := 32) (kI := 32) (pc' := 129) dX12_post_126 rfl cl12 (by decide) rfl (by decide) flX12_83 rfl rfl rfl (G_at hG10 89 rfl) (by decide) rfl ?_
      refine T_bipush (pc' := 131) dX12_post_129 rfl (by decide) rfl ?_
      refine T_iconst (pc' := 132) dX12_post_131 (by decide) rfl ?_
      refine T_iload_n (i := 1) (pc' := 133) dX12_post_132 rfl rfl rfl ?_
      refine T_imul (pc' := 134) dX12_post_133 rfl ?_
      refine T_iadd (pc' := 135) dX12_post_134 rfl ?_
      refine T_iload_n (i := 3) (pc' := 136) dX12_post_135 rfl rfl rfl ?_
      obtain ⟨z1, z2, H⟩ := H
      refine T_iast (pc' := 137) dX12_post_136 (by decide) rfl z1 z2 rfl ?_
      have hG11 := (G_arr (x := 89) (i := (wr32 (12 + (wr32 (3 * v1))))) (y := (M 89 (wr32 (12 + (wr32 (3 * v1)))))) rfl (by decide) hG10)
      obtain ⟨M12, eM12⟩ : ∃ m : Mem, m = (mset M9 89 (wr32 (12 + (wr32 (3 * v1)))) (M 89 (wr32 (12 + (wr32 (3 * v1)))))) := ⟨_, rfl⟩
      rw [← eM12] at hG11 ⊢
      replace H := H M12 eM12
      refine T_iload_n (i := 2) (pc' := 138) dX12_post_137 rfl rfl rfl ?_
      have HJ13 : T E miX12_post 7 126 0 0 (fun r S M' => S = S0 ∧ G h M' ∧ RI 0 Q r M') 148 [(3, 0), (3, 0), (3, 0), (3, 0), (3, 0), (3, 0), (3, 0)] [(0, (if v2 = 0 then u7 else u8))] S0 M12 0 0 := by
        exact T_iret dX12_post_148 rfl ⟨rfl, hG11, _, rfl, H⟩
      refine T_if_ne (pc' := 146) dX12_post_138 (by decide) (pf := 141) rfl (fun c14 => ?_) (fun c14 => ?_)
      · skip
        refine T_iload (i := 5) (pc' := 148) dX12_post_146 rfl rfl ?_
        exact T_wk (L' := [(3, 0), (3, 0), (3, 0), (3, 0), (3, 0), (3, 0), (3, 0)]) (by have q := HJ13; try simp only [if_neg c14] at q ⊢; exact q) ⟨Or.inl rfl, Or.inl rfl, Or.inl rfl, Or.inl rfl, Or.inl rfl, Or.inl rfl, Or.inl rfl, trivial⟩
      · skip
        refine T_iload (i := 4) (pc' := 143) dX12_post_141 rfl rfl ?_
        refine T_goto (pc' := 148) dX12_post_143 (by decide) ?_
        exact T_wk (L' := [(3, 0), (3, 0), (3, 0), (3, 0), (3, 0), (3, 0), (3, 0)]) (by have q := HJ13; try simp only [if_pos c14] at q ⊢; exact q) ⟨Or.inl rfl, Or.inl rfl, Or.inl rfl, Or.inl rfl, Or.inl rfl, Or.inl rfl, Or.inl rfl, trivial⟩
    · skip
      replace H := H.1 c5
      refine T_iconst (pc' := 27) dX12_post_26 (by decide) rfl ?_
      exact T_iret dX12_post_27 rfl ⟨rfl, hG, _, rfl, H⟩
def PX12_qBracket_7  (K : Int → Mem → Prop) (Q : Int → Mem → Prop) : Nat → Int → Mem → Prop
  | 0 => fun _ _ => False
  | k + 1 => fun v1 M => ((v1 < (M 66 83) → K v1 M) ∧ (¬ (v1 < (M 66 83)) → 0 ≤ v1 ∧ v1 < 1700 ∧ (((fX12_qIsBracket (M 123 v1)) = 0 → PX12_qBracket_7  K Q k (wr32 (v1 + (-1))) M) ∧ (¬ ((fX12_qIsBracket (M 123 v1)) = 0) → K v1 M))))
def PX12_qBracket  (M : Mem) (Q : Int → Mem → Prop) : Prop :=
  (∃ k1 : Nat, PX12_qBracket_7 (fun u2 M3 => ((u2 < (M3 66 83) → Q (-1) M3) ∧ (¬ (u2 < (M3 66 83)) → 0 ≤ u2 ∧ u2 < 1700 ∧ Q (M3 123 u2) M3))) Q k1 (wr32 ((M 66 81) - 1)) M)
set_option maxRecDepth 100000 in
set_option maxHeartbeats 2000000 in
theorem qX12_qBracket_7 {E : EV} {h : Int}   {K : Int → Mem → Prop} {Q : Int → Mem → Prop} (hK : ∀ (v1 : Int) (M : Mem), K v1 M → G h M → TG E miX12_qBracket 2 h (RI 0 Q) 33 [(2, 66), (0, v1)] [] M) : ∀ (k : Nat) (v1 : Int) (M : Mem), PX12_qBracket_7  K Q k v1 M → G h M → TG E miX12_qBracket 2 h (RI 0 Q) 7 [(2, 66), (0, v1)] [] M := by
  intro k
  induction k with
  | zero =>
    intro v1 M H
    exact False.elim H
  | succ k ih =>
    intro v1 M H hG
    refine T_iload_n (i := 1) (pc' := 8) dX12_qBracket_7 rfl rfl rfl ?_
    refine T_aload_n (i := 0) (pc' := 9) dX12_qBracket_8 rfl rfl rfl ?_
    refine U_gf (v := (0, (M 66 83))) (k := 83) (kI := 83) (pc' := 12) dX12_qBracket_9 rfl cl12 (by decide) rfl (by decide) flX12_529 rfl rfl (by decide) rfl rfl ?_
    refine T_icmp_lt (pc' := 33) dX12_qBracket_12 (by decide) (pf := 15) rfl (fun c1 => ?_) (fun c1 => ?_)
    · skip
      replace H := H.1 c1
      exact T_wk (L' := [(2, 66), (0, v1)]) (hK _ _ H hG) ⟨Or.inr rfl, Or.inr rfl, trivial⟩
    · skip
      replace H := H.2 c1
      refine T_aload_n (i := 0) (pc' := 16) dX12_qBracket_15 rfl rfl rfl ?_
      refine U_gr (q := 123) (k := 80) (kI := 80) (pc' := 19) dX12_qBracket_16 rfl cl12 (by decide) rfl (by decide) flX12_189 rfl rfl rfl (G_at hG 123 rfl) (by decide) rfl ?_
      refine T_iload_n (i := 1) (pc' := 20) dX12_qBracket_19 rfl rfl rfl ?_
      obtain ⟨z1, z2, H⟩ := H
      refine T_iald (pc' := 21) dX12_qBracket_20 (by decide) rfl z1 z2 rfl ?_
      refine T_callS (av := [(0, (M 123 v1))]) (st := []) (d2 := 1) (nc2 := 0) (ns2 := 0) (pc' := 24) dX12_qBracket_21 rfl mtX12_qIsBracket mvX12_qIsBracket mlX12_532 rfl rfl (Nat.le_of_ble_eq_true rfl) (by decide) ⟨by decide, by decide⟩ rfl (pX12_qIsBracket (E := E) (h := h) (M := M) (v0 := (M 123 v1)) hG) (kF (st2 := [(0, (fX12_qIsBracket (M 123 v1)))]) rfl (fun hG2 => ?_))
      refine T_if_ne (pc' := 33) dX12_qBracket_24 (by decide) (pf := 27) rfl (fun c3 => ?_) (fun c3 => ?_)
      · skip
        replace H := H.2 c3
        exact T_wk (L' := [(2, 66), (0, v1)]) (hK _ _ H hG) ⟨Or.inr rfl, Or.inr rfl, trivial⟩
      · skip
        replace H := H.1 c3
        refine T_iinc (L' := [(2, 66), (0, (wr32 (v1 + (-1))))]) (pc' := 30) dX12_qBracket_27 rfl (by decide) rfl rfl ?_
        refine T_goto (pc' := 7) dX12_qBracket_30 (by decide) ?_
        exact T_wk (L' := [(2, 66), (0, (wr32 (v1 + (-1))))]) (ih _ _ H hG) ⟨Or.inr rfl, Or.inr rfl, trivial⟩
set_option maxRecDepth 100000 in
set_option maxHeartbeats 2000000 in
theorem pX12_qBracket {E : EV} {h : Int} {M : Mem}   {Q : Int → Mem → Prop} (H : PX12_qBracket  M Q) : C2 E miX12_qBracket 2 h [(2, 66)] M (RI 0 Q) := by
  refine C2_of (L := [(2, 66), (3, 0)]) (by decide +kernel) (Nat.le_of_ble_eq_true rfl) rfl (fun hG => ?_)
  refine T_aload_n (i := 0) (pc' := 1) dX12_qBracket_0 rfl rfl rfl ?_
  refine U_gf (v := (0, (M 66 81))) (k := 81) (kI := 81) (pc' := 4) dX12_qBracket_1 rfl cl12 (by decide) rfl (by decide) flX12_523 rfl rfl (by decide) rfl rfl ?_
  refine T_iconst (pc' := 5) dX12_qBracket_4 (by decide) rfl ?_
  refine T_isub (pc' := 6) dX12_qBracket_5 rfl ?_
  refine T_istore_n (i := 1) (L' := [(2, 66), (0, (wr32 ((M 66 81) - 1)))]) (pc' := 7) dX12_qBracket_6 rfl (by decide) rfl rfl ?_
  obtain ⟨k1, H⟩ := H
  refine T_wk (L' := [(2, 66), (0, (wr32 ((M 66 81) - 1)))]) (qX12_qBracket_7  (fun u2 M3 H hG4 => ?_) _ _ _ H hG) ⟨Or.inr rfl, Or.inr rfl, trivial⟩
  refine T_iload_n (i := 1) (pc' := 34) dX12_qBracket_33 rfl rfl rfl ?_
  refine T_aload_n (i := 0) (pc' := 35) dX12_qBracket_34 rfl rfl rfl ?_
  refine U_gf (v := (0, (M3 66 83))) (k := 83) (kI := 83) (pc' := 38) dX12_qBracket_35 rfl cl12 (by decide) rfl (by decide) flX12_529 rfl rfl (by decide) rfl rfl ?_
  refine T_icmp_lt (pc' := 50) dX12_qBracket_38 (by decide) (pf := 41) rfl (fun c5 => ?_) (fun c5 => ?_)
  · skip
    replace H := H.1 c5
    refine T_iconst (pc' := 51) dX12_qBracket_50 (by decide) rfl ?_
    exact T_iret dX12_qBracket_51 rfl ⟨rfl, hG4, _, rfl, H⟩
  · skip
    replace H := H.2 c5
    refine T_aload_n (i := 0) (pc' := 42) dX12_qBracket_41 rfl rfl rfl ?_
    refine U_gr (q := 123) (k := 80) (kI := 80) (pc' := 45) dX12_qBracket_42 rfl cl12 (by decide) rfl (by decide) flX12_189 rfl rfl rfl (G_at hG4 123 rfl) (by decide) rfl ?_
    refine T_iload_n (i := 1) (pc' := 46) dX12_qBracket_45 rfl rfl rfl ?_
    obtain ⟨z1, z2, H⟩ := H
    refine T_iald (pc' := 47) dX12_qBracket_46 (by decide) rfl z1 z2 rfl ?_
    refine T_goto (pc' := 51) dX12_qBracket_47 (by decide) ?_
    exact T_iret dX12_qBracket_51 rfl ⟨rfl, hG4, _, rfl, H⟩
def PX12_qDropsToBracket_0  (K : Mem → Prop) (Q : Int → Mem → Prop) : Nat → Mem → Prop
  | 0 => fun _ => False
  | k + 1 => fun M => (((M 66 81) ≤ (M 66 83) → K M) ∧ (¬ ((M 66 81) ≤ (M 66 83)) → 0 ≤ (wr32 ((M 66 81) - 1)) ∧ (wr32 ((M 66 81) - 1)) < 1700 ∧ (((fX12_qIsBracket (M 123 (wr32 ((M 66 81) - 1)))) = 0 → (nX12_qDrops M) ∧ (∀ M6 : Mem, M6 = (fmX12_qDrops M) → PX12_qDropsToBracket_0  K Q k M6)) ∧ (¬ ((fX12_qIsBracket (M 123 (wr32 ((M 66 81) - 1)))) = 0) → K M))))
def PX12_qDropsToBracket  (M : Mem) (Q : Int → Mem → Prop) : Prop :=
  (∃ k1 : Nat, PX12_qDropsToBracket_0 (fun M2 => Q 0 M2) Q k1 M)
set_option maxRecDepth 100000 in
set_option maxHeartbeats 2000000 in
theorem qX12_qDropsToBracket_0 {E : EV} {h : Int}   {K : Mem → Prop} {Q : Int → Mem → Prop} (hK : ∀ (M : Mem), K M → G h M → TG E miX12_qDropsToBracket 3 h (RV Q) 35 [(2, 66)] [] M) : ∀ (k : Nat) (M : Mem), PX12_qDropsToBracket_0  K Q k M → G h M → TG E miX12_qDropsToBracket 3 h (RV Q) 0 [(2, 66)] [] M := by
  intro k
  induction k with
  | zero =>
    intro M H
    exact False.elim H
  | succ k ih =>
    intro M H hG
    refine T_aload_n (i := 0) (pc' := 1) dX12_qDropsToBracket_0 rfl rfl rfl ?_
    refine U_gf (v := (0, (M 66 81))) (k := 81) (kI := 81) (pc' := 4) dX12_qDropsToBracket_1 rfl cl12 (by decide) rfl (by decide) flX12_523 rfl rfl (by decide) rfl rfl ?_
    refine T_aload_n (i := 0) (pc' := 5) dX12_qDropsToBracket_4 rfl rfl rfl ?_
    refine U_gf (v := (0, (M 66 83))) (k := 83) (kI := 83) (pc' := 8) dX12_qDropsToBracket_5 rfl cl12 (by decide) rfl (by decide) flX12_529 rfl rfl (by decide) rfl rfl ?_
    refine T_icmp_le (pc' := 35) dX12_qDropsToBracket_8 (by decide) (pf := 11) rfl (fun c1 => ?_) (fun c1 => ?_)
    · skip
      replace H := H.1 c1
      exact T_wk (L' := [(2, 66)]) (hK _ H hG) ⟨Or.inr rfl, trivial⟩
    · skip
      replace H := H.2 c1
      refine T_aload_n (i := 0) (pc' := 12) dX12_qDropsToBracket_11 rfl rfl rfl ?_
      refine U_gr (q := 123) (k := 80) (kI := 80) (pc' := 15) dX12_qDropsToBracket_12 rfl cl12 (by decide) rfl (by decide) flX12_189 rfl rfl rfl (G_at hG 123 rfl) (by decide) rfl ?_
      refine T_aload_n (i := 0) (pc' := 16) dX12_qDropsToBracket_15 rfl rfl rfl ?_
      refine U_gf (v := (0, (M 66 81))) (k := 81) (kI := 81) (pc' := 19) dX12_qDropsToBracket_16 rfl cl12 (by decide) rfl (by decide) flX12_523 rfl rfl (by decide) rfl rfl ?_
      refine T_iconst (pc' := 20) dX12_qDropsToBracket_19 (by decide) rfl ?_
      refine T_isub (pc' := 21) dX12_qDropsToBracket_20 rfl ?_
      obtain ⟨z1, z2, H⟩ := H
      refine T_iald (pc' := 22) dX12_qDropsToBracket_21 (by decide) rfl z1 z2 rfl ?_
      refine T_callS (av := [(0, (M 123 (wr32 ((M 66 81) - 1))))]) (st := []) (d2 := 1) (nc2 := 0) (ns2 := 0) (pc' := 25) dX12_qDropsToBracket_22 rfl mtX12_qIsBracket mvX12_qIsBracket mlX12_532 rfl rfl (Nat.le_of_ble_eq_true rfl) (by decide) ⟨by decide, by decide⟩ rfl (pX12_qIsBracket (E := E) (h := h) (M := M) (v0 := (M 123 (wr32 ((M 66 81) - 1)))) hG) (kF (st2 := [(0, (fX12_qIsBracket (M 123 (wr32 ((M 66 81) - 1)))))]) rfl (fun hG2 => ?_))
      refine T_if_ne (pc' := 35) dX12_qDropsToBracket_25 (by decide) (pf := 28) rfl (fun c3 => ?_) (fun c3 => ?_)
      · skip
        replace H := H.2 c3
        exact T_wk (L' := [(2, 66)]) (hK _ H hG) ⟨Or.inr rfl, trivial⟩
      · skip
        replace H := H.1 c3
        refine T_aload_n (i := 0) (pc' := 29) dX12_qDropsToBracket_28 rfl rfl rfl ?_
        obtain ⟨z4, H⟩ := H
        refine T_callV (av := []) (st := []) (d2 := 2) (nc2 := 0) (ns2 := 0) (pc' := 32) dX12_qDropsToBracket_29 rfl mtX12_qDrops mvX12_qDrops mlX12_535 cl12 rfl rfl rfl (Nat.le_of_ble_eq_true rfl) (by decide) ⟨by decide, by decide⟩ rfl (pX12_qDrops (E := E) (h := h) (M := M) z4 hG) (kF (st2 := []) rfl (fun hG5 => ?_))
        obtain ⟨M6, eM6⟩ : ∃ m : Mem, m = (fmX12_qDrops M) := ⟨_, rfl⟩
        rw [← eM6] at hG5 ⊢
        replace H := H M6 eM6
        refine T_goto (pc' := 0) dX12_qDropsToBracket_32 (by decide) ?_
        exact T_wk (L' := [(2, 66)]) (ih _ H hG5) ⟨Or.inr rfl, trivial⟩
set_option maxRecDepth 100000 in
set_option maxHeartbeats 2000000 in
theorem pX12_qDropsToBracket {E : EV} {h : Int} {M : Mem}   {Q : Int → Mem → Prop} (H : PX12_qDropsToBracket  M Q) : C2 E miX12_qDropsToBracket 3 h [(2, 66)] M (RV Q) := by
  refine C2_of (L := [(2, 66)]) (by decide +kernel) (Nat.le_of_ble_eq_true rfl) rfl (fun hG => ?_)
  obtain ⟨k1, H⟩ := H
  refine T_wk (L' := [(2, 66)]) (qX12_qDropsToBracket_0  (fun M2 H hG3 => ?_) _ _ H hG) ⟨Or.inr rfl, trivial⟩
  exact T_vret dX12_qDropsToBracket_35 rfl ⟨rfl, hG3, rfl, H⟩
def PX12_qWordHere  (M : Mem) (Q : Int → Mem → Prop) : Prop :=
  PX12_isHere 114 6 M (fun a1 M2 => ((a1 = 0 → PX12_isHere 115 4 M2 (fun a5 M6 => ((a5 = 0 → PX12_isHere 116 5 M6 (fun a9 M10 => ((a9 = 0 → PX12_isHere 117 4 M10 (fun a13 M14 => ((a13 = 0 → PX12_isHere 118 4 M14 (fun a17 M18 => ((a17 = 0 → PX12_isHere 119 5 M18 (fun a21 M22 => ((a21 = 0 → PX12_isHere 120 2 M22 (fun a25 M26 => ((a25 = 0 → PX12_isHere 121 4 M26 (fun a29 M30 => ((a29 = 0 → Q (-1) M30) ∧ (¬ (a29 = 0) → Q 7 M30)))) ∧ (¬ (a25 = 0) → Q 6 M26)))) ∧ (¬ (a21 = 0) → Q 5 M22)))) ∧ (¬ (a17 = 0) → Q 4 M18)))) ∧ (¬ (a13 = 0) → Q 3 M14)))) ∧ (¬ (a9 = 0) → Q 2 M10)))) ∧ (¬ (a5 = 0) → Q 1 M6)))) ∧ (¬ (a1 = 0) → Q 0 M2)))
set_option maxRecDepth 100000 in
set_option maxHeartbeats 2000000 in
theorem pX12_qWordHere {E : EV} {h : Int} {M : Mem}   {Q : Int → Mem → Prop} (H : PX12_qWordHere  M Q) : C2 E miX12_qWordHere 3 h [(2, 66)] M (RI 0 Q) := by
  refine C2_of (L := [(2, 66)]) (by decide +kernel) (Nat.le_of_ble_eq_true rfl) rfl (fun hG => ?_)
  refine T_aload_n (i := 0) (pc' := 1) dX12_qWordHere_0 rfl rfl rfl ?_
  refine T_aload_n (i := 0) (pc' := 2) dX12_qWordHere_1 rfl rfl rfl ?_
  refine U_gr (q := 114) (k := 70) (kI := 70) (pc' := 5) dX12_qWordHere_2 rfl cl12 (by decide) rfl (by decide) flX12_162 rfl rfl rfl (G_at hG 114 rfl) (by decide) rfl ?_
  refine T_callV (av := [(2, 114)]) (st := []) (d2 := 2) (nc2 := 0) (ns2 := 0) (pc' := 8) dX12_qWordHere_5 rfl mtX12_isHere mvX12_isHere mlX12_224 cl12 rfl rfl rfl (Nat.le_of_ble_eq_true rfl) (by decide) ⟨by decide, by decide⟩ rfl (pX12_isHere (E := E) (h := h) (M := M) (p1 := 114) (np1 := 6) (by decide) rfl (by decide) H hG) ?_
  rintro _ _ M2 ⟨rfl, hG3, a1, rfl, H⟩ _
  refine T_if_eq (pc' := 13) dX12_qWordHere_8 (by decide) (pf := 11) rfl (fun c4 => ?_) (fun c4 => ?_)
  · skip
    replace H := H.1 c4
    refine T_aload_n (i := 0) (pc' := 14) dX12_qWordHere_13 rfl rfl rfl ?_
    refine T_aload_n (i := 0) (pc' := 15) dX12_qWordHere_14 rfl rfl rfl ?_
    refine U_gr (q := 115) (k := 71) (kI := 71) (pc' := 18) dX12_qWordHere_15 rfl cl12 (by decide) rfl (by decide) flX12_165 rfl rfl rfl (G_at hG3 115 rfl) (by decide) rfl ?_
    refine T_callV (av := [(2, 115)]) (st := []) (d2 := 2) (nc2 := 0) (ns2 := 0) (pc' := 21) dX12_qWordHere_18 rfl mtX12_isHere mvX12_isHere mlX12_224 cl12 rfl rfl rfl (Nat.le_of_ble_eq_true rfl) (by decide) ⟨by decide, by decide⟩ rfl (pX12_isHere (E := E) (h := h) (M := M2) (p1 := 115) (np1 := 4) (by decide) rfl (by decide) H hG3) ?_
    rintro _ _ M6 ⟨rfl, hG7, a5, rfl, H⟩ _
    refine T_if_eq (pc' := 26) dX12_qWordHere_21 (by decide) (pf := 24) rfl (fun c8 => ?_) (fun c8 => ?_)
    · skip
      replace H := H.1 c8
      refine T_aload_n (i := 0) (pc' := 27) dX12_qWordHere_26 rfl rfl rfl ?_
      refine T_aload_n (i := 0) (pc' := 28) dX12_qWordHere_27 rfl rfl rfl ?_
      refine U_gr (q := 116) (k := 72) (kI := 72) (pc' := 31) dX12_qWordHere_28 rfl cl12 (by decide) rfl (by decide) flX12_168 rfl rfl rfl (G_at hG7 116 rfl) (by decide) rfl ?_
      refine T_callV (av := [(2, 116)]) (st := []) (d2 := 2) (nc2 := 0) (ns2 := 0) (pc' := 34) dX12_qWordHere_31 rfl mtX12_isHere mvX12_isHere mlX12_224 cl12 rfl rfl rfl (Nat.le_of_ble_eq_true rfl) (by decide) ⟨by decide, by decide⟩ rfl (pX12_isHere (E := E) (h := h) (M := M6) (p1 := 116) (np1 := 5) (by decide) rfl (by decide) H hG7) ?_
      rintro _ _ M10 ⟨rfl, hG11, a9, rfl, H⟩ _
      refine T_if_eq (pc' := 39) dX12_qWordHere_34 (by decide) (pf := 37) rfl (fun c12 => ?_) (fun c12 => ?_)
      · skip
        replace H := H.1 c12
        refine T_aload_n (i := 0) (pc' := 40) dX12_qWordHere_39 rfl rfl rfl ?_
        refine T_aload_n (i := 0) (pc' := 41) dX12_qWordHere_40 rfl rfl rfl ?_
        refine U_gr (q := 117) (k := 73) (kI := 73) (pc' := 44) dX12_qWordHere_41 rfl cl12 (by decide) rfl (by decide) flX12_171 rfl rfl rfl (G_at hG11 117 rfl) (by decide) rfl ?_
        refine T_callV (av := [(2, 117)]) (st := []) (d2 := 2) (nc2 := 0) (ns2 := 0) (pc' := 47) dX12_qWordHere_44 rfl mtX12_isHere mvX12_isHere mlX12_224 cl12 rfl rfl rfl (Nat.le_of_ble_eq_true rfl) (by decide) ⟨by decide, by decide⟩ rfl (pX12_isHere (E := E) (h := h) (M := M10) (p1 := 117) (np1 := 4) (by decide) rfl (by decide) H hG11) ?_
        rintro _ _ M14 ⟨rfl, hG15, a13, rfl, H⟩ _
        refine T_if_eq (pc' := 52) dX12_qWordHere_47 (by decide) (pf := 50) rfl (fun c16 => ?_) (fun c16 => ?_)
        · skip
          replace H := H.1 c16
          refine T_aload_n (i := 0) (pc' := 53) dX12_qWordHere_52 rfl rfl rfl ?_
          refine T_aload_n (i := 0) (pc' := 54) dX12_qWordHere_53 rfl rfl rfl ?_
          refine U_gr (q := 118) (k := 74) (kI := 74) (pc' := 57) dX12_qWordHere_54 rfl cl12 (by decide) rfl (by decide) flX12_174 rfl rfl rfl (G_at hG15 118 rfl) (by decide) rfl ?_
          refine T_callV (av := [(2, 118)]) (st := []) (d2 := 2) (nc2 := 0) (ns2 := 0) (pc' := 60) dX12_qWordHere_57 rfl mtX12_isHere mvX12_isHere mlX12_224 cl12 rfl rfl rfl (Nat.le_of_ble_eq_true rfl) (by decide) ⟨by decide, by decide⟩ rfl (pX12_isHere (E := E) (h := h) (M := M14) (p1 := 118) (np1 := 4) (by decide) rfl (by decide) H hG15) ?_
          rintro _ _ M18 ⟨rfl, hG19, a17, rfl, H⟩ _
          refine T_if_eq (pc' := 65) dX12_qWordHere_60 (by decide) (pf := 63) rfl (fun c20 => ?_) (fun c20 => ?_)
          · skip
            replace H := H.1 c20
            refine T_aload_n (i := 0) (pc' := 66) dX12_qWordHere_65 rfl rfl rfl ?_
            refine T_aload_n (i := 0) (pc' := 67) dX12_qWordHere_66 rfl rfl rfl ?_
            refine U_gr (q := 119) (k := 75) (kI := 75) (pc' := 70) dX12_qWordHere_67 rfl cl12 (by decide) rfl (by decide) flX12_177 rfl rfl rfl (G_at hG19 119 rfl) (by decide) rfl ?_
            refine T_callV (av := [(2, 119)]) (st := []) (d2 := 2) (nc2 := 0) (ns2 := 0) (pc' := 73) dX12_qWordHere_70 rfl mtX12_isHere mvX12_isHere mlX12_224 cl12 rfl rfl rfl (Nat.le_of_ble_eq_true rfl) (by decide) ⟨by decide, by decide⟩ rfl (pX12_isHere (E := E) (h := h) (M := M18) (p1 := 119) (np1 := 5) (by decide) rfl (by decide) H hG19) ?_
            rintro _ _ M22 ⟨rfl, hG23, a21, rfl, H⟩ _
            refine T_if_eq (pc' := 78) dX12_qWordHere_73 (by decide) (pf := 76) rfl (fun c24 => ?_) (fun c24 => ?_)
            · skip
              replace H := H.1 c24
              refine T_aload_n (i := 0) (pc' := 79) dX12_qWordHere_78 rfl rfl rfl ?_
              refine T_aload_n (i := 0) (pc' := 80) dX12_qWordHere_79 rfl rfl rfl ?_
              refine U_gr (q := 120) (k := 76) (kI := 76) (pc' := 83) dX12_qWordHere_80 rfl cl12 (by decide) rfl (by decide) flX12_180 rfl rfl rfl (G_at hG23 120 rfl) (by decide) rfl ?_
              refine T_callV (av := [(2, 120)]) (st := []) (d2 := 2) (nc2 := 0) (ns2 := 0) (pc' := 86) dX12_qWordHere_83 rfl mtX12_isHere mvX12_isHere mlX12_224 cl12 rfl rfl rfl (Nat.le_of_ble_eq_true rfl) (by decide) ⟨by decide, by decide⟩ rfl (pX12_isHere (E := E) (h := h) (M := M22) (p1 := 120) (np1 := 2) (by decide) rfl (by decide) H hG23) ?_
              rintro _ _ M26 ⟨rfl, hG27, a25, rfl, H⟩ _
              refine T_if_eq (pc' := 92) dX12_qWordHere_86 (by decide) (pf := 89) rfl (fun c28 => ?_) (fun c28 => ?_)
              · skip
                replace H := H.1 c28
                refine T_aload_n (i := 0) (pc' := 93) dX12_qWordHere_92 rfl rfl rfl ?_
                refine T_aload_n (i := 0) (pc' := 94) dX12_qWordHere_93 rfl rfl rfl ?_
                refine U_gr (q := 121) (k := 77) (kI := 77) (pc' := 97) dX12_qWordHere_94 rfl cl12 (by decide) rfl (by decide) flX12_183 rfl rfl rfl (G_at hG27 121 rfl) (by decide) rfl ?_
                refine T_callV (av := [(2, 121)]) (st := []) (d2 := 2) (nc2 := 0) (ns2 := 0) (pc' := 100) dX12_qWordHere_97 rfl mtX12_isHere mvX12_isHere mlX12_224 cl12 rfl rfl rfl (Nat.le_of_ble_eq_true rfl) (by decide) ⟨by decide, by decide⟩ rfl (pX12_isHere (E := E) (h := h) (M := M26) (p1 := 121) (np1 := 4) (by decide) rfl (by decide) H hG27) ?_
                rintro _ _ M30 ⟨rfl, hG31, a29, rfl, H⟩ _
                refine T_if_eq (pc' := 106) dX12_qWordHere_100 (by decide) (pf := 103) rfl (fun c32 => ?_) (fun c32 => ?_)
                · skip
                  replace H := H.1 c32
                  refine T_iconst (pc' := 107) dX12_qWordHere_106 (by decide) rfl ?_
                  exact T_iret dX12_qWordHere_107 rfl ⟨rfl, hG31, _, rfl, H⟩
                · skip
                  replace H := H.2 c32
                  refine T_bipush (pc' := 105) dX12_qWordHere_103 rfl (by decide) rfl ?_
                  exact T_iret dX12_qWordHere_105 rfl ⟨rfl, hG31, _, rfl, H⟩
              · skip
                replace H := H.2 c28
                refine T_bipush (pc' := 91) dX12_qWordHere_89 rfl (by decide) rfl ?_
                exact T_iret dX12_qWordHere_91 rfl ⟨rfl, hG27, _, rfl, H⟩
            · skip
              replace H := H.2 c24
              refine T_iconst (pc' := 77) dX12_qWordHere_76 (by decide) rfl ?_
              exact T_iret dX12_qWordHere_77 rfl ⟨rfl, hG23, _, rfl, H⟩
          · skip
            replace H := H.2 c20
            refine T_iconst (pc' := 64) dX12_qWordHere_63 (by decide) rfl ?_
            exact T_iret dX12_qWordHere_64 rfl ⟨rfl, hG19, _, rfl, H⟩
        · skip
          replace H := H.2 c16
          refine T_iconst (pc' := 51) dX12_qWordHere_50 (by decide) rfl ?_
          exact T_iret dX12_qWordHere_51 rfl ⟨rfl, hG15, _, rfl, H⟩
      · skip
        replace H := H.2 c12
        refine T_iconst (pc' := 38) dX12_qWordHere_37 (by decide) rfl ?_
        exact T_iret dX12_qWordHere_38 rfl ⟨rfl, hG11, _, rfl, H⟩
    · skip
      replace H := H.2 c8
      refine T_iconst (pc' := 25) dX12_qWordHere_24 (by decide) rfl ?_
      exact T_iret dX12_qWordHere_25 rfl ⟨rfl, hG7, _, rfl, H⟩
  · skip
    replace H := H.2 c4
    refine T_iconst (pc' := 12) dX12_qWordHere_11 (by decide) rfl ?_
    exact T_iret dX12_qWordHere_12 rfl ⟨rfl, hG3, _, rfl, H⟩
def PX12_qWordOf (v1 : Int) (v2 : Int) (M : Mem) (Q : Int → Mem → Prop) : Prop :=
  PX12_qWordHere M (fun a1 M2 => Q (if a1 < v1 then ((-1) : Int) else (if v2 ≤ a1 then ((-1) : Int) else a1)) M2)
set_option maxRecDepth 100000 in
set_option maxHeartbeats 2000000 in
theorem pX12_qWordOf {E : EV} {h : Int} {M : Mem} {v1 : Int} {v2 : Int}  {Q : Int → Mem → Prop} (H : PX12_qWordOf v1 v2 M Q) : C2 E miX12_qWordOf 4 h [(2, 66), (0, v1), (0, v2)] M (RI 0 Q) := by
  refine C2_of (L := [(2, 66), (0, v1), (0, v2), (3, 0)]) (by decide +kernel) (Nat.le_of_ble_eq_true rfl) rfl (fun hG => ?_)
  refine T_aload_n (i := 0) (pc' := 1) dX12_qWordOf_0 rfl rfl rfl ?_
  refine T_callV (av := []) (st := []) (d2 := 3) (nc2 := 0) (ns2 := 0) (pc' := 4) dX12_qWordOf_1 rfl mtX12_qWordHere mvX12_qWordHere mlX12_538 cl12 rfl rfl rfl (Nat.le_of_ble_eq_true rfl) (by decide) ⟨by decide, by decide⟩ rfl (pX12_qWordHere (E := E) (h := h) (M := M) H hG) ?_
  rintro _ _ M2 ⟨rfl, hG3, a1, rfl, H⟩ _
  refine T_istore_n (i := 3) (L' := [(2, 66), (0, v1), (0, v2), (0, a1)]) (pc' := 5) dX12_qWordOf_4 rfl (by decide) rfl rfl ?_
  refine T_iload_n (i := 3) (pc' := 6) dX12_qWordOf_5 rfl rfl rfl ?_
  refine T_iload_n (i := 1) (pc' := 7) dX12_qWordOf_6 rfl rfl rfl ?_
  have HJ4 : T E miX12_qWordOf 4 126 0 0 (fun r S M' => S = S0 ∧ G h M' ∧ RI 0 Q r M') 20 [(3, 0), (3, 0), (3, 0), (3, 0)] [(0, (if a1 < v1 then ((-1) : Int) else (if v2 ≤ a1 then ((-1) : Int) else a1)))] S0 M2 0 0 := by
    exact T_iret dX12_qWordOf_20 rfl ⟨rfl, hG3, _, rfl, H⟩
  refine T_icmp_lt (pc' := 19) dX12_qWordOf_7 (by decide) (pf := 10) rfl (fun c5 => ?_) (fun c5 => ?_)
  · skip
    refine T_iconst (pc' := 20) dX12_qWordOf_19 (by decide) rfl ?_
    exact T_wk (L' := [(3, 0), (3, 0), (3, 0), (3, 0)]) (by have q := HJ4; try simp only [if_pos c5] at q ⊢; exact q) ⟨Or.inl rfl, Or.inl rfl, Or.inl rfl, Or.inl rfl, trivial⟩
  · skip
    refine T_iload_n (i := 3) (pc' := 11) dX12_qWordOf_10 rfl rfl rfl ?_
    refine T_iload_n (i := 2) (pc' := 12) dX12_qWordOf_11 rfl rfl rfl ?_
    refine T_icmp_ge (pc' := 19) dX12_qWordOf_12 (by decide) (pf := 15) rfl (fun c6 => ?_) (fun c6 => ?_)
    · skip
      refine T_iconst (pc' := 20) dX12_qWordOf_19 (by decide) rfl ?_
      exact T_wk (L' := [(3, 0), (3, 0), (3, 0), (3, 0)]) (by have q := HJ4; try simp only [if_neg c5] at q ⊢; try simp only [if_pos c6] at q ⊢; exact q) ⟨Or.inl rfl, Or.inl rfl, Or.inl rfl, Or.inl rfl, trivial⟩
    · skip
      refine T_iload_n (i := 3) (pc' := 16) dX12_qWordOf_15 rfl rfl rfl ?_
      refine T_goto (pc' := 20) dX12_qWordOf_16 (by decide) ?_
      exact T_wk (L' := [(3, 0), (3, 0), (3, 0), (3, 0)]) (by have q := HJ4; try simp only [if_neg c5] at q ⊢; try simp only [if_neg c6] at q ⊢; exact q) ⟨Or.inl rfl, Or.inl rfl, Or.inl rfl, Or.inl rfl, trivial⟩
def PX12_qAsksWord (v1 : Int) (M : Mem) (Q : Int → Mem → Prop) : Prop :=
  ((v1 = 0 → PX12_asks 114 6 M (fun _ M3 => Q 0 M3)) ∧ (¬ (v1 = 0) → ((v1 = 1 → PX12_asks 115 4 M (fun _ M7 => Q 0 M7)) ∧ (¬ (v1 = 1) → ((v1 = 2 → PX12_asks 116 5 M (fun _ M11 => Q 0 M11)) ∧ (¬ (v1 = 2) → ((v1 = 3 → PX12_asks 117 4 M (fun _ M15 => Q 0 M15)) ∧ (¬ (v1 = 3) → ((v1 = 4 → PX12_asks 118 4 M (fun _ M19 => Q 0 M19)) ∧ (¬ (v1 = 4) → ((v1 = 5 → PX12_asks 119 5 M (fun _ M23 => Q 0 M23)) ∧ (¬ (v1 = 5) → ((v1 = 6 → PX12_asks 120 2 M (fun _ M27 => Q 0 M27)) ∧ (¬ (v1 = 6) → PX12_asks 121 4 M (fun _ M30 => Q 0 M30)))))))))))))))
set_option maxRecDepth 100000 in
set_option maxHeartbeats 2000000 in
theorem pX12_qAsksWord {E : EV} {h : Int} {M : Mem} {v1 : Int}  {Q : Int → Mem → Prop} (H : PX12_qAsksWord v1 M Q) : C2 E miX12_qAsksWord 5 h [(2, 66), (0, v1)] M (RV Q) := by
  refine C2_of (L := [(2, 66), (0, v1)]) (by decide +kernel) (Nat.le_of_ble_eq_true rfl) rfl (fun hG => ?_)
  refine T_iload_n (i := 1) (pc' := 1) dX12_qAsksWord_0 rfl rfl rfl ?_
  by_cases c1 : v1 = 0
  · skip
    replace H := H.1 c1
    refine T_tableIn (pc' := 44) dX12_qAsksWord_1 (by omega) (by omega) (by rw [c1]; rfl) (by decide) ?_
    refine T_aload_n (i := 0) (pc' := 45) dX12_qAsksWord_44 rfl rfl rfl ?_
    refine T_aload_n (i := 0) (pc' := 46) dX12_qAsksWord_45 rfl rfl rfl ?_
    refine U_gr (q := 114) (k := 70) (kI := 70) (pc' := 49) dX12_qAsksWord_46 rfl cl12 (by decide) rfl (by decide) flX12_162 rfl rfl rfl (G_at hG 114 rfl) (by decide) rfl ?_
    refine T_callV (av := [(2, 114)]) (st := []) (d2 := 4) (nc2 := 0) (ns2 := 0) (pc' := 52) dX12_qAsksWord_49 rfl mtX12_asks mvX12_asks mlX12_296 cl12 rfl rfl rfl (Nat.le_of_ble_eq_true rfl) (by decide) ⟨by decide, by decide⟩ rfl (pX12_asks (E := E) (h := h) (M := M) (p1 := 114) (np1 := 6) (by decide) rfl (by decide) H hG) ?_
    rintro _ _ M3 ⟨rfl, hG4, rfl, H⟩ _
    refine T_goto (pc' := 129) dX12_qAsksWord_52 (by decide) ?_
    exact T_vret dX12_qAsksWord_129 rfl ⟨rfl, hG4, rfl, H⟩
  · skip
    replace H := H.2 c1
    by_cases c5 : v1 = 1
    · skip
      replace H := H.1 c5
      refine T_tableIn (pc' := 55) dX12_qAsksWord_1 (by omega) (by omega) (by rw [c5]; rfl) (by decide) ?_
      refine T_aload_n (i := 0) (pc' := 56) dX12_qAsksWord_55 rfl rfl rfl ?_
      refine T_aload_n (i := 0) (pc' := 57) dX12_qAsksWord_56 rfl rfl rfl ?_
      refine U_gr (q := 115) (k := 71) (kI := 71) (pc' := 60) dX12_qAsksWord_57 rfl cl12 (by decide) rfl (by decide) flX12_165 rfl rfl rfl (G_at hG 115 rfl) (by decide) rfl ?_
      refine T_callV (av := [(2, 115)]) (st := []) (d2 := 4) (nc2 := 0) (ns2 := 0) (pc' := 63) dX12_qAsksWord_60 rfl mtX12_asks mvX12_asks mlX12_296 cl12 rfl rfl rfl (Nat.le_of_ble_eq_true rfl) (by decide) ⟨by decide, by decide⟩ rfl (pX12_asks (E := E) (h := h) (M := M) (p1 := 115) (np1 := 4) (by decide) rfl (by decide) H hG) ?_
      rintro _ _ M7 ⟨rfl, hG8, rfl, H⟩ _
      refine T_goto (pc' := 129) dX12_qAsksWord_63 (by decide) ?_
      exact T_vret dX12_qAsksWord_129 rfl ⟨rfl, hG8, rfl, H⟩
    · skip
      replace H := H.2 c5
      by_cases c9 : v1 = 2
      · skip
        replace H := H.1 c9
        refine T_tableIn (pc' := 66) dX12_qAsksWord_1 (by omega) (by omega) (by rw [c9]; rfl) (by decide) ?_
        refine T_aload_n (i := 0) (pc' := 67) dX12_qAsksWord_66 rfl rfl rfl ?_
        refine T_aload_n (i := 0) (pc' := 68) dX12_qAsksWord_67 rfl rfl rfl ?_
        refine U_gr (q := 116) (k := 72) (kI := 72) (pc' := 71) dX12_qAsksWord_68 rfl cl12 (by decide) rfl (by decide) flX12_168 rfl rfl rfl (G_at hG 116 rfl) (by decide) rfl ?_
        refine T_callV (av := [(2, 116)]) (st := []) (d2 := 4) (nc2 := 0) (ns2 := 0) (pc' := 74) dX12_qAsksWord_71 rfl mtX12_asks mvX12_asks mlX12_296 cl12 rfl rfl rfl (Nat.le_of_ble_eq_true rfl) (by decide) ⟨by decide, by decide⟩ rfl (pX12_asks (E := E) (h := h) (M := M) (p1 := 116) (np1 := 5) (by decide) rfl (by decide) H hG) ?_
        rintro _ _ M11 ⟨rfl, hG12, rfl, H⟩ _
        refine T_goto (pc' := 129) dX12_qAsksWord_74 (by decide) ?_
        exact T_vret dX12_qAsksWord_129 rfl ⟨rfl, hG12, rfl, H⟩
      · skip
        replace H := H.2 c9
        by_cases c13 : v1 = 3
        · skip
          replace H := H.1 c13
          refine T_tableIn (pc' := 77) dX12_qAsksWord_1 (by omega) (by omega) (by rw [c13]; rfl) (by decide) ?_
          refine T_aload_n (i := 0) (pc' := 78) dX12_qAsksWord_77 rfl rfl rfl ?_
          refine T_aload_n (i := 0) (pc' := 79) dX12_qAsksWord_78 rfl rfl rfl ?_
          refine U_gr (q := 117) (k := 73) (kI := 73) (pc' := 82) dX12_qAsksWord_79 rfl cl12 (by decide) rfl (by decide) flX12_171 rfl rfl rfl (G_at hG 117 rfl) (by decide) rfl ?_
          refine T_callV (av := [(2, 117)]) (st := []) (d2 := 4) (nc2 := 0) (ns2 := 0) (pc' := 85) dX12_qAsksWord_82 rfl mtX12_asks mvX12_asks mlX12_296 cl12 rfl rfl rfl (Nat.le_of_ble_eq_true rfl) (by decide) ⟨by decide, by decide⟩ rfl (pX12_asks (E := E) (h := h) (M := M) (p1 := 117) (np1 := 4) (by decide) rfl (by decide) H hG) ?_
          rintro _ _ M15 ⟨rfl, hG16, rfl, H⟩ _
          refine T_goto (pc' := 129) dX12_qAsksWord_85 (by decide) ?_
          exact T_vret dX12_qAsksWord_129 rfl ⟨rfl, hG16, rfl, H⟩
        · skip
          replace H := H.2 c13
          by_cases c17 : v1 = 4
          · skip
            replace H := H.1 c17
            refine T_tableIn (pc' := 88) dX12_qAsksWord_1 (by omega) (by omega) (by rw [c17]; rfl) (by decide) ?_
            refine T_aload_n (i := 0) (pc' := 89) dX12_qAsksWord_88 rfl rfl rfl ?_
            refine T_aload_n (i := 0) (pc' := 90) dX12_qAsksWord_89 rfl rfl rfl ?_
            refine U_gr (q := 118) (k := 74) (kI := 74) (pc' := 93) dX12_qAsksWord_90 rfl cl12 (by decide) rfl (by decide) flX12_174 rfl rfl rfl (G_at hG 118 rfl) (by decide) rfl ?_
            refine T_callV (av := [(2, 118)]) (st := []) (d2 := 4) (nc2 := 0) (ns2 := 0) (pc' := 96) dX12_qAsksWord_93 rfl mtX12_asks mvX12_asks mlX12_296 cl12 rfl rfl rfl (Nat.le_of_ble_eq_true rfl) (by decide) ⟨by decide, by decide⟩ rfl (pX12_asks (E := E) (h := h) (M := M) (p1 := 118) (np1 := 4) (by decide) rfl (by decide) H hG) ?_
            rintro _ _ M19 ⟨rfl, hG20, rfl, H⟩ _
            refine T_goto (pc' := 129) dX12_qAsksWord_96 (by decide) ?_
            exact T_vret dX12_qAsksWord_129 rfl ⟨rfl, hG20, rfl, H⟩
          · skip
            replace H := H.2 c17
            by_cases c21 : v1 = 5
            · skip
              replace H := H.1 c21
              refine T_tableIn (pc' := 99) dX12_qAsksWord_1 (by omega) (by omega) (by rw [c21]; rfl) (by decide) ?_
              refine T_aload_n (i := 0) (pc' := 100) dX12_qAsksWord_99 rfl rfl rfl ?_
              refine T_aload_n (i := 0) (pc' := 101) dX12_qAsksWord_100 rfl rfl rfl ?_
              refine U_gr (q := 119) (k := 75) (kI := 75) (pc' := 104) dX12_qAsksWord_101 rfl cl12 (by decide) rfl (by decide) flX12_177 rfl rfl rfl (G_at hG 119 rfl) (by decide) rfl ?_
              refine T_callV (av := [(2, 119)]) (st := []) (d2 := 4) (nc2 := 0) (ns2 := 0) (pc' := 107) dX12_qAsksWord_104 rfl mtX12_asks mvX12_asks mlX12_296 cl12 rfl rfl rfl (Nat.le_of_ble_eq_true rfl) (by decide) ⟨by decide, by decide⟩ rfl (pX12_asks (E := E) (h := h) (M := M) (p1 := 119) (np1 := 5) (by decide) rfl (by decide) H hG) ?_
              rintro _ _ M23 ⟨rfl, hG24, rfl, H⟩ _
              refine T_goto (pc' := 129) dX12_qAsksWord_107 (by decide) ?_
              exact T_vret dX12_qAsksWord_129 rfl ⟨rfl, hG24, rfl, H⟩
            · skip
              replace H := H.2 c21
              by_cases c25 : v1 = 6
              · skip
                replace H := H.1 c25
                refine T_tableIn (pc' := 110) dX12_qAsksWord_1 (by omega) (by omega) (by rw [c25]; rfl) (by decide) ?_
                refine T_aload_n (i := 0) (pc' := 111) dX12_qAsksWord_110 rfl rfl rfl ?_
                refine T_aload_n (i := 0) (pc' := 112) dX12_qAsksWord_111 rfl rfl rfl ?_
                refine U_gr (q := 120) (k := 76) (kI := 76) (pc' := 115) dX12_qAsksWord_112 rfl cl12 (by decide) rfl (by decide) flX12_180 rfl rfl rfl (G_at hG 120 rfl) (by decide) rfl ?_
                refine T_callV (av := [(2, 120)]) (st := []) (d2 := 4) (nc2 := 0) (ns2 := 0) (pc' := 118) dX12_qAsksWord_115 rfl mtX12_asks mvX12_asks mlX12_296 cl12 rfl rfl rfl (Nat.le_of_ble_eq_true rfl) (by decide) ⟨by decide, by decide⟩ rfl (pX12_asks (E := E) (h := h) (M := M) (p1 := 120) (np1 := 2) (by decide) rfl (by decide) H hG) ?_
                rintro _ _ M27 ⟨rfl, hG28, rfl, H⟩ _
                refine T_goto (pc' := 129) dX12_qAsksWord_118 (by decide) ?_
                exact T_vret dX12_qAsksWord_129 rfl ⟨rfl, hG28, rfl, H⟩
              · skip
                replace H := H.2 c25
                refine T_tableOut (pc' := 121) dX12_qAsksWord_1 (by omega) (by decide) ?_
                refine T_aload_n (i := 0) (pc' := 122) dX12_qAsksWord_121 rfl rfl rfl ?_
                refine T_aload_n (i := 0) (pc' := 123) dX12_qAsksWord_122 rfl rfl rfl ?_
                refine U_gr (q := 121) (k := 77) (kI := 77) (pc' := 126) dX12_qAsksWord_123 rfl cl12 (by decide) rfl (by decide) flX12_183 rfl rfl rfl (G_at hG 121 rfl) (by decide) rfl ?_
                refine T_callV (av := [(2, 121)]) (st := []) (d2 := 4) (nc2 := 0) (ns2 := 0) (pc' := 129) dX12_qAsksWord_126 rfl mtX12_asks mvX12_asks mlX12_296 cl12 rfl rfl rfl (Nat.le_of_ble_eq_true rfl) (by decide) ⟨by decide, by decide⟩ rfl (pX12_asks (E := E) (h := h) (M := M) (p1 := 121) (np1 := 4) (by decide) rfl (by decide) H hG) ?_
                rintro _ _ M30 ⟨rfl, hG31, rfl, H⟩ _
                exact T_vret dX12_qAsksWord_129 rfl ⟨rfl, hG31, rfl, H⟩
def PX12_qEndsPart_0  (K : Mem → Prop) (Q : Int → Mem → Prop) : Nat → Mem → Prop
  | 0 => fun _ => False
  | k + 1 => fun M => (((M 66 5) = 0 → (((M 66 81) ≤ (M 66 83) → K M) ∧ (¬ ((M 66 81) ≤ (M 66 83)) → 0 ≤ (wr32 ((M 66 81) - 1)) ∧ (wr32 ((M 66 81) - 1)) < 1700 ∧ (((M 123 (wr32 ((M 66 81) - 1))) < 60 → K M) ∧ (¬ ((M 123 (wr32 ((M 66 81) - 1))) < 60) → (∀ M5 : Mem, M5 = (mset M 66 82 (wr32 ((M 66 82) - 1))) → (nX12_qDrops M5) ∧ (∀ M8 : Mem, M8 = (fmX12_qDrops M5) → PX12_qEndsPart_0  K Q k M8))))))) ∧ (¬ ((M 66 5) = 0) → K M))
def PX12_qEndsPart  (M : Mem) (Q : Int → Mem → Prop) : Prop :=
  (∃ k1 : Nat, PX12_qEndsPart_0 (fun M2 => Q 0 M2) Q k1 M)
set_option maxRecDepth 100000 in
set_option maxHeartbeats 2000000 in
theorem qX12_qEndsPart_0 {E : EV} {h : Int}   {K : Mem → Prop} {Q : Int → Mem → Prop} (hK : ∀ (M : Mem), K M → G h M → TG E miX12_qEndsPart 3 h (RV Q) 51 [(2, 66)] [] M) : ∀ (k : Nat) (M : Mem), PX12_qEndsPart_0  K Q k M → G h M → TG E miX12_qEndsPart 3 h (RV Q) 0 [(2, 66)] [] M := by
  intro k
  induction k with
  | zero =>
    intro M H
    exact False.elim H
  | succ k ih =>
    intro M H hG
    refine T_aload_n (i := 0) (pc' := 1) dX12_qEndsPart_0 rfl rfl rfl ?_
    refine U_gf (v := (0, (M 66 5))) (k := 5) (kI := 5) (pc' := 4) dX12_qEndsPart_1 rfl cl12 (by decide) rfl (by decide) flX12_201 rfl rfl (by decide) rfl rfl ?_
    refine T_if_ne (pc' := 51) dX12_qEndsPart_4 (by decide) (pf := 7) rfl (fun c1 => ?_) (fun c1 => ?_)
    · skip
      replace H := H.2 c1
      exact T_wk (L' := [(2, 66)]) (hK _ H hG) ⟨Or.inr rfl, trivial⟩
    · skip
      replace H := H.1 c1
      refine T_aload_n (i := 0) (pc' := 8) dX12_qEndsPart_7 rfl rfl rfl ?_
      refine U_gf (v := (0, (M 66 81))) (k := 81) (kI := 81) (pc' := 11) dX12_qEndsPart_8 rfl cl12 (by decide) rfl (by decide) flX12_523 rfl rfl (by decide) rfl rfl ?_
      refine T_aload_n (i := 0) (pc' := 12) dX12_qEndsPart_11 rfl rfl rfl ?_
      refine U_gf (v := (0, (M 66 83))) (k := 83) (kI := 83) (pc' := 15) dX12_qEndsPart_12 rfl cl12 (by decide) rfl (by decide) flX12_529 rfl rfl (by decide) rfl rfl ?_
      refine T_icmp_le (pc' := 51) dX12_qEndsPart_15 (by decide) (pf := 18) rfl (fun c2 => ?_) (fun c2 => ?_)
      · skip
        replace H := H.1 c2
        exact T_wk (L' := [(2, 66)]) (hK _ H hG) ⟨Or.inr rfl, trivial⟩
      · skip
        replace H := H.2 c2
        refine T_aload_n (i := 0) (pc' := 19) dX12_qEndsPart_18 rfl rfl rfl ?_
        refine U_gr (q := 123) (k := 80) (kI := 80) (pc' := 22) dX12_qEndsPart_19 rfl cl12 (by decide) rfl (by decide) flX12_189 rfl rfl rfl (G_at hG 123 rfl) (by decide) rfl ?_
        refine T_aload_n (i := 0) (pc' := 23) dX12_qEndsPart_22 rfl rfl rfl ?_
        refine U_gf (v := (0, (M 66 81))) (k := 81) (kI := 81) (pc' := 26) dX12_qEndsPart_23 rfl cl12 (by decide) rfl (by decide) flX12_523 rfl rfl (by decide) rfl rfl ?_
        refine T_iconst (pc' := 27) dX12_qEndsPart_26 (by decide) rfl ?_
        refine T_isub (pc' := 28) dX12_qEndsPart_27 rfl ?_
        obtain ⟨z1, z2, H⟩ := H
        refine T_iald (pc' := 29) dX12_qEndsPart_28 (by decide) rfl z1 z2 rfl ?_
        refine T_bipush (pc' := 31) dX12_qEndsPart_29 rfl (by decide) rfl ?_
        refine T_icmp_lt (pc' := 51) dX12_qEndsPart_31 (by decide) (pf := 34) rfl (fun c3 => ?_) (fun c3 => ?_)
        · skip
          replace H := H.1 c3
          exact T_wk (L' := [(2, 66)]) (hK _ H hG) ⟨Or.inr rfl, trivial⟩
        · skip
          replace H := H.2 c3
          refine T_aload_n (i := 0) (pc' := 35) dX12_qEndsPart_34 rfl rfl rfl ?_
          refine T_dup (pc' := 36) dX12_qEndsPart_35 (Nat.ne_of_beq_eq_false rfl) rfl ?_
          refine U_gf (v := (0, (M 66 82))) (k := 82) (kI := 82) (pc' := 39) dX12_qEndsPart_36 rfl cl12 (by decide) rfl (by decide) flX12_520 rfl rfl (by decide) rfl rfl ?_
          refine T_iconst (pc' := 40) dX12_qEndsPart_39 (by decide) rfl ?_
          refine T_isub (pc' := 41) dX12_qEndsPart_40 rfl ?_
          refine U_pf (y := (wr32 ((M 66 82) - 1))) (k := 82) (kI := 82) (pc' := 44) dX12_qEndsPart_41 rfl cl12 (by decide) rfl (by decide) flX12_520 rfl rfl rfl rfl rfl (by decide) (fun z => z) rfl ?_
          have hG4 := (G_fld (x := 66) (i := 82) (y := (wr32 ((M 66 82) - 1))) rfl (by decide) (by decide) (by decide) hG)
          obtain ⟨M5, eM5⟩ : ∃ m : Mem, m = (mset M 66 82 (wr32 ((M 66 82) - 1))) := ⟨_, rfl⟩
          rw [← eM5] at hG4 ⊢
          replace H := H M5 eM5
          refine T_aload_n (i := 0) (pc' := 45) dX12_qEndsPart_44 rfl rfl rfl ?_
          obtain ⟨z6, H⟩ := H
          refine T_callV (av := []) (st := []) (d2 := 2) (nc2 := 0) (ns2 := 0) (pc' := 48) dX12_qEndsPart_45 rfl mtX12_qDrops mvX12_qDrops mlX12_535 cl12 rfl rfl rfl (Nat.le_of_ble_eq_true rfl) (by decide) ⟨by decide, by decide⟩ rfl (pX12_qDrops (E := E) (h := h) (M := M5) z6 hG4) (kF (st2 := []) rfl (fun hG7 => ?_))
          obtain ⟨M8, eM8⟩ : ∃ m : Mem, m = (fmX12_qDrops M5) := ⟨_, rfl⟩
          rw [← eM8] at hG7 ⊢
          replace H := H M8 eM8
          refine T_goto (pc' := 0) dX12_qEndsPart_48 (by decide) ?_
          exact T_wk (L' := [(2, 66)]) (ih _ H hG7) ⟨Or.inr rfl, trivial⟩
set_option maxRecDepth 100000 in
set_option maxHeartbeats 2000000 in
theorem pX12_qEndsPart {E : EV} {h : Int} {M : Mem}   {Q : Int → Mem → Prop} (H : PX12_qEndsPart  M Q) : C2 E miX12_qEndsPart 3 h [(2, 66)] M (RV Q) := by
  refine C2_of (L := [(2, 66)]) (by decide +kernel) (Nat.le_of_ble_eq_true rfl) rfl (fun hG => ?_)
  obtain ⟨k1, H⟩ := H
  refine T_wk (L' := [(2, 66)]) (qX12_qEndsPart_0  (fun M2 H hG3 => ?_) _ _ H hG) ⟨Or.inr rfl, trivial⟩
  exact T_vret dX12_qEndsPart_51 rfl ⟨rfl, hG3, rfl, H⟩
def PX12_qPartTold_2  (K : Mem → Prop) (Q : Int → Mem → Prop) : Nat → Int → Mem → Prop
  | 0 => fun _ _ => False
  | k + 1 => fun v1 M => ((v1 = 0 → K M) ∧ (¬ (v1 = 0) → (((M 66 5) = 0 → PX12_look M (fun a3 M4 => PX12_qWordOf 6 8 M4 (fun a6 M7 => ((a3 = 40 → (nX12_qOpens M7) ∧ (∀ M81 : Mem, M81 = (fmX12_qOpens M7 20 (M7 66 2)) → (∀ M83 : Mem, M83 = (mset M81 66 2 (wr32 ((M81 66 2) + 1))) → PX12_qPartTold_2  K Q k v1 M83))) ∧ (¬ (a3 = 40) → PX12_isHere 112 3 M7 (fun a10 M11 => ((a10 = 0 → PX12_isHere 113 3 M11 (fun a41 M42 => ((a41 = 0 → ((a6 = (-1) → PX12_qPartTold_2  K Q k 0 M42) ∧ (¬ (a6 = (-1)) → (nX12_qOpens M42) ∧ (∀ M48 : Mem, M48 = (fmX12_qOpens M42 (wr32 ((wr32 (60 + a6)) - 6)) (M42 66 2)) → PX12_qAsksWord a6 M48 (fun _ M50 => PX12_qPartTold_2  K Q k v1 M50))))) ∧ (¬ (a41 = 0) → PX12_takes 112 3 M42 (fun a52 M53 => (∃ j55 : Mem → Prop, (∀ (M56 : Mem), j55 M56 → PX12_look M56 (fun a58 M59 => (∃ j62 : Mem → Prop, (∀ (M63 : Mem), j62 M63 → PX12_asksSign 40 M63 (fun _ M66 => PX12_qPartTold_2  K Q k v1 M66)) ∧ (((if a58 = 40 then (M59 66 2) else (-1)) = (-1) → j62 M59) ∧ (¬ ((if a58 = 40 then (M59 66 2) else (-1)) = (-1)) → (nX12_qOpens M59) ∧ (∀ M72 : Mem, M72 = (fmX12_qOpens M59 (if a52 = 0 then (22 : Int) else 21) (if a58 = 40 then (M59 66 2) else (-1))) → j62 M72)))))) ∧ ((a52 = 0 → PX12_asks 113 3 M53 (fun _ M77 => j55 M77)) ∧ (¬ (a52 = 0) → j55 M53)))))))) ∧ (¬ (a10 = 0) → PX12_takes 112 3 M11 (fun a14 M15 => (∃ j17 : Mem → Prop, (∀ (M18 : Mem), j17 M18 → PX12_look M18 (fun a20 M21 => (∃ j24 : Mem → Prop, (∀ (M25 : Mem), j24 M25 → PX12_asksSign 40 M25 (fun _ M28 => PX12_qPartTold_2  K Q k v1 M28)) ∧ (((if a20 = 40 then (M21 66 2) else (-1)) = (-1) → j24 M21) ∧ (¬ ((if a20 = 40 then (M21 66 2) else (-1)) = (-1)) → (nX12_qOpens M21) ∧ (∀ M34 : Mem, M34 = (fmX12_qOpens M21 (if a14 = 0 then (22 : Int) else 21) (if a20 = 40 then (M21 66 2) else (-1))) → j24 M34)))))) ∧ ((a14 = 0 → PX12_asks 113 3 M15 (fun _ M39 => j17 M39)) ∧ (¬ (a14 = 0) → j17 M15)))))))))))) ∧ (¬ ((M 66 5) = 0) → K M))))
def PX12_qPartTold  (M : Mem) (Q : Int → Mem → Prop) : Prop :=
  (∃ k1 : Nat, PX12_qPartTold_2 (fun M2 => (((M2 66 5) = 0 → PX12_qWordOf 0 6 M2 (fun a5 M6 => (∃ j8 : Mem → Prop, (∀ (M9 : Mem), j8 M9 → (∃ j11 : Int → Mem → Prop, (∀ (u12 : Int) (M13 : Mem), j11 u12 M13 → (nX12_qCode M13) ∧ (∀ M17 : Mem, M17 = (fmX12_qCode M13 u12) → PX12_qEndsPart M17 (fun _ M19 => Q 0 M19))) ∧ ((a5 = (-1) → PX12_number 0 9999 M9 (fun a22 M23 => j11 (wr32 (1000 + a22)) M23)) ∧ (¬ (a5 = (-1)) → j11 (wr32 (40 + a5)) M9)))) ∧ ((a5 = (-1) → j8 M6) ∧ (¬ (a5 = (-1)) → PX12_qAsksWord a5 M6 (fun _ M27 => j8 M27)))))) ∧ (¬ ((M2 66 5) = 0) → Q 0 M2))) Q k1 1 M)
set_option maxRecDepth 100000 in
set_option maxHeartbeats 2000000 in
theorem qX12_qPartTold_2 {E : EV} {h : Int}   {K : Mem → Prop} {Q : Int → Mem → Prop} (hK : ∀ (M : Mem), K M → G h M → TG E miX12_qPartTold 6 h (RV Q) 186 [(2, 66), (3, 0), (3, 0), (3, 0), (3, 0), (3, 0)] [] M) : ∀ (k : Nat) (v1 : Int) (M : Mem), PX12_qPartTold_2  K Q k v1 M → G h M → TG E miX12_qPartTold 6 h (RV Q) 2 [(2, 66), (0, v1), (3, 0), (3, 0), (3, 0), (3, 0)] [] M := by
  intro k
  induction k with
  | zero =>
    intro v1 M H
    exact False.elim H
  | succ k ih =>
    intro v1 M H hG
    refine T_iload_n (i := 1) (pc' := 3) dX12_qPartTold_2 rfl rfl rfl ?_
    refine T_if_eq (pc' := 186) dX12_qPartTold_3 (by decide) (pf := 6) rfl (fun c1 => ?_) (fun c1 => ?_)
    · skip
      replace H := H.1 c1
      exact T_wk (L' := [(2, 66), (3, 0), (3, 0), (3, 0), (3, 0), (3, 0)]) (hK _ H hG) ⟨Or.inr rfl, Or.inl rfl, Or.inl rfl, Or.inl rfl, Or.inl rfl, Or.inl rfl, trivial⟩
    · skip
      replace H := H.2 c1
      refine T_aload_n (i := 0) (pc' := 7) dX12_qPartTold_6 rfl rfl rfl ?_
      refine U_gf (v := (0, (M 66 5))) (k := 5) (kI := 5) (pc' := 10) dX12_qPartTold_7 rfl cl12 (by decide) rfl (by decide) flX12_201 rfl rfl (by decide) rfl rfl ?_
      refine T_if_ne (pc' := 186) dX12_qPartTold_10 (by decide) (pf := 13) rfl (fun c2 => ?_) (fun c2 => ?_)
      · skip
        replace H := H.2 c2
        exact T_wk (L' := [(2, 66), (3, 0), (3, 0), (3, 0), (3, 0), (3, 0)]) (hK _ H hG) ⟨Or.inr rfl, Or.inl rfl, Or.inl rfl, Or.inl rfl, Or.inl rfl, Or.inl rfl, trivial⟩
      · skip
        replace H := H.1 c2
        refine T_aload_n (i := 0) (pc' := 14) dX12_qPartTold_13 rfl rfl rfl ?_
        refine T_callV (av := []) (st := []) (d2 := 1) (nc2 := 0) (ns2 := 0) (pc' := 17) dX12_qPartTold_14 rfl mtX12_look mvX12_look mlX12_213 cl12 rfl rfl rfl (Nat.le_of_ble_eq_true rfl) (by decide) ⟨by decide, by decide⟩ rfl (pX12_look (E := E) (h := h) (M := M) H hG) ?_
        rintro _ _ M4 ⟨rfl, hG5, a3, rfl, H⟩ _
        refine T_istore_n (i := 2) (L' := [(2, 66), (0, v1), (0, a3), (3, 0), (3, 0), (3, 0)]) (pc' := 18) dX12_qPartTold_17 rfl (by decide) rfl rfl ?_
        refine T_aload_n (i := 0) (pc' := 19) dX12_qPartTold_18 rfl rfl rfl ?_
        refine T_bipush (pc' := 21) dX12_qPartTold_19 rfl (by decide) rfl ?_
        refine T_bipush (pc' := 23) dX12_qPartTold_21 rfl (by decide) rfl ?_
        refine T_callV (av := [(0, 6), (0, 8)]) (st := []) (d2 := 4) (nc2 := 0) (ns2 := 0) (pc' := 26) dX12_qPartTold_23 rfl mtX12_qWordOf mvX12_qWordOf mlX12_541 cl12 rfl rfl rfl (Nat.le_of_ble_eq_true rfl) (by decide) ⟨by decide, by decide⟩ rfl (pX12_qWordOf (E := E) (h := h) (M := M4) (v1 := 6) (v2 := 8) H hG5) ?_
        rintro _ _ M7 ⟨rfl, hG8, a6, rfl, H⟩ _
        refine T_istore_n (i := 3) (L' := [(2, 66), (0, v1), (0, a3), (0, a6), (3, 0), (3, 0)]) (pc' := 27) dX12_qPartTold_26 rfl (by decide) rfl rfl ?_
        refine T_iload_n (i := 2) (pc' := 28) dX12_qPartTold_27 rfl rfl rfl ?_
        refine T_bipush (pc' := 30) dX12_qPartTold_28 rfl (by decide) rfl ?_
        refine T_icmp_ne (pc' := 56) dX12_qPartTold_30 (by decide) (pf := 33) rfl (fun c9 => ?_) (fun c9 => ?_)
        · skip
          replace H := H.2 c9
          refine T_aload_n (i := 0) (pc' := 57) dX12_qPartTold_56 rfl rfl rfl ?_
          refine T_aload_n (i := 0) (pc' := 58) dX12_qPartTold_57 rfl rfl rfl ?_
          refine U_gr (q := 112) (k := 68) (kI := 68) (pc' := 61) dX12_qPartTold_58 rfl cl12 (by decide) rfl (by decide) flX12_156 rfl rfl rfl (G_at hG8 112 rfl) (by decide) rfl ?_
          refine T_callV (av := [(2, 112)]) (st := []) (d2 := 2) (nc2 := 0) (ns2 := 0) (pc' := 64) dX12_qPartTold_61 rfl mtX12_isHere mvX12_isHere mlX12_224 cl12 rfl rfl rfl (Nat.le_of_ble_eq_true rfl) (by decide) ⟨by decide, by decide⟩ rfl (pX12_isHere (E := E) (h := h) (M := M7) (p1 := 112) (np1 := 3) (by decide) rfl (by decide) H hG8) ?_
          rintro _ _ M11 ⟨rfl, hG12, a10, rfl, H⟩ _
          refine T_if_ne (pc' := 78) dX12_qPartTold_64 (by decide) (pf := 67) rfl (fun c13 => ?_) (fun c13 => ?_)
          · skip
            replace H := H.2 c13
            refine T_aload_n (i := 0) (pc' := 79) dX12_qPartTold_78 rfl rfl rfl ?_
            refine T_aload_n (i := 0) (pc' := 80) dX12_qPartTold_79 rfl rfl rfl ?_
            refine U_gr (q := 112) (k := 68) (kI := 68) (pc' := 83) dX12_qPartTold_80 rfl cl12 (by decide) rfl (by decide) flX12_156 rfl rfl rfl (G_at hG12 112 rfl) (by decide) rfl ?_
            refine T_callV (av := [(2, 112)]) (st := []) (d2 := 3) (nc2 := 0) (ns2 := 0) (pc' := 86) dX12_qPartTold_83 rfl mtX12_takes mvX12_takes mlX12_228 cl12 rfl rfl rfl (Nat.le_of_ble_eq_true rfl) (by decide) ⟨by decide, by decide⟩ rfl (pX12_takes (E := E) (h := h) (M := M11) (p1 := 112) (np1 := 3) (by decide) rfl (by decide) H hG12) ?_
            rintro _ _ M15 ⟨rfl, hG16, a14, rfl, H⟩ _
            refine T_istore (i := 4) (L' := [(2, 66), (0, v1), (0, a3), (0, a6), (0, a14), (3, 0)]) (pc' := 88) dX12_qPartTold_86 (by decide) rfl rfl ?_
            refine T_iload (i := 4) (pc' := 90) dX12_qPartTold_88 rfl rfl ?_
            obtain ⟨j17, hj17, H⟩ := H
            have qj17 : ∀ (M18 : Mem), j17 M18 → G h M18 → TG E miX12_qPartTold 6 h (RV Q) 101 [(2, 66), (0, v1), (3, 0), (3, 0), (0, a14), (3, 0)] [] M18 := by
              intro M18 H hG19
              replace H := hj17 _ H
              refine T_aload_n (i := 0) (pc' := 102) dX12_qPartTold_101 rfl rfl rfl ?_
              refine T_callV (av := []) (st := []) (d2 := 1) (nc2 := 0) (ns2 := 0) (pc' := 105) dX12_qPartTold_102 rfl mtX12_look mvX12_look mlX12_213 cl12 rfl rfl rfl (Nat.le_of_ble_eq_true rfl) (by decide) ⟨by decide, by decide⟩ rfl (pX12_look (E := E) (h := h) (M := M18) H hG19) ?_
              rintro _ _ M21 ⟨rfl, hG22, a20, rfl, H⟩ _
              refine T_bipush (pc' := 107) dX12_qPartTold_105 rfl (by decide) rfl ?_
              have HJ23 : T E miX12_qPartTold 6 126 0 0 (fun r S M' => S = S0 ∧ G h M' ∧ RV Q r M') 118 [(2, 66), (0, v1), (3, 0), (3, 0), (0, a14), (3, 0)] [(0, (if a20 = 40 then (M21 66 2) else (-1)))] S0 M21 0 0 := by
                refine T_istore (i := 5) (L' := [(2, 66), (0, v1), (3, 0), (3, 0), (0, a14), (0, (if a20 = 40 then (M21 66 2) else (-1)))]) (pc' := 120) dX12_qPartTold_118 (by decide) rfl rfl ?_
                refine T_iload (i := 5) (pc' := 122) dX12_qPartTold_120 rfl rfl ?_
                refine T_iconst (pc' := 123) dX12_qPartTold_122 (by decide) rfl ?_
                obtain ⟨j24, hj24, H⟩ := H
                have qj24 : ∀ (M25 : Mem), j24 M25 → G h M25 → TG E miX12_qPartTold 6 h (RV Q) 144 [(2, 66), (0, v1), (3, 0), (3, 0), (3, 0), (3, 0)] [] M25 := by
                  intro M25 H hG26
                  replace H := hj24 _ H
                  refine T_aload_n (i := 0) (pc' := 145) dX12_qPartTold_144 rfl rfl rfl ?_
                  refine T_bipush (pc' := 147) dX12_qPartTold_145 rfl (by decide) rfl ?_
                  refine T_callV (av := [(0, 40)]) (st := []) (d2 := 3) (nc2 := 0) (ns2 := 0) (pc' := 150) dX12_qPartTold_147 rfl mtX12_asksSign mvX12_asksSign mlX12_322 cl12 rfl rfl rfl (Nat.le_of_ble_eq_true rfl) (by decide) ⟨by decide, by decide⟩ rfl (pX12_asksSign (E := E) (h := h) (M := M25) (v1 := 40) H hG26) ?_
                  rintro _ _ M28 ⟨rfl, hG29, rfl, H⟩ _
                  refine T_goto (pc' := 183) dX12_qPartTold_150 (by decide) ?_
                  refine T_goto (pc' := 2) dX12_qPartTold_183 (by decide) ?_
                  exact T_wk (L' := [(2, 66), (0, v1), (3, 0), (3, 0), (3, 0), (3, 0)]) (ih _ _ H hG29) ⟨Or.inr rfl, Or.inr rfl, Or.inl rfl, Or.inl rfl, Or.inl rfl, Or.inl rfl, trivial⟩
                refine T_icmp_eq (pc' := 144) dX12_qPartTold_123 (by decide) (pf := 126) rfl (fun c30 => ?_) (fun c30 => ?_)
                · skip
                  replace H := H.1 c30
                  exact T_wk (L' := [(2, 66), (0, v1), (3, 0), (3, 0), (3, 0), (3, 0)]) (qj24 _ H hG22) ⟨Or.inr rfl, Or.inr rfl, Or.inl rfl, Or.inl rfl, Or.inl rfl, Or.inl rfl, trivial⟩
                · skip
                  replace H := H.2 c30
                  refine T_aload_n (i := 0) (pc' := 127) dX12_qPartTold_126 rfl rfl rfl ?_
                  refine T_iload (i := 4) (pc' := 129) dX12_qPartTold_127 rfl rfl ?_
                  have HJ31 : T E miX12_qPartTold 6 126 0 0 (fun r S M' => S = S0 ∧ G h M' ∧ RV Q r M') 139 [(2, 66), (0, v1), (3, 0), (3, 0), (3, 0), (0, (if a20 = 40 then (M21 66 2) else (-1)))] [(0, (if a14 = 0 then (22 : Int) else 21)), (2, 66)] S0 M21 0 0 := by
                    refine T_iload (i := 5) (pc' := 141) dX12_qPartTold_139 rfl rfl ?_
                    obtain ⟨z32, H⟩ := H
                    refine T_callV (av := [(0, (if a14 = 0 then (22 : Int) else 21)), (0, (if a20 = 40 then (M21 66 2) else (-1)))]) (st := []) (d2 := 2) (nc2 := 0) (ns2 := 0) (pc' := 144) dX12_qPartTold_141 rfl mtX12_qOpens mvX12_qOpens mlX12_544 cl12 rfl rfl rfl (Nat.le_of_ble_eq_true rfl) (by decide) ⟨by decide, by decide⟩ rfl (pX12_qOpens (E := E) (h := h) (M := M21) (v1 := (if a14 = 0 then (22 : Int) else 21)) (v2 := (if a20 = 40 then (M21 66 2) else (-1))) z32 hG22) (kF (st2 := []) rfl (fun hG33 => ?_))
                    obtain ⟨M34, eM34⟩ : ∃ m : Mem, m = (fmX12_qOpens M21 (if a14 = 0 then (22 : Int) else 21) (if a20 = 40 then (M21 66 2) else (-1))) := ⟨_, rfl⟩
                    rw [← eM34] at hG33 ⊢
                    replace H := H M34 eM34
                    exact T_wk (L' := [(2, 66), (0, v1), (3, 0), (3, 0), (3, 0), (3, 0)]) (qj24 _ H hG33) ⟨Or.inr rfl, Or.inr rfl, Or.inl rfl, Or.inl rfl, Or.inl rfl, Or.inl rfl, trivial⟩
                  refine T_if_eq (pc' := 137) dX12_qPartTold_129 (by decide) (pf := 132) rfl (fun c35 => ?_) (fun c35 => ?_)
                  · skip
                    refine T_bipush (pc' := 139) dX12_qPartTold_137 rfl (by decide) rfl ?_
                    exact T_wk (L' := [(2, 66), (0, v1), (3, 0), (3, 0), (3, 0), (0, (if a20 = 40 then (M21 66 2) else (-1)))]) (by have q := HJ31; try simp only [if_pos c35] at q ⊢; exact q) ⟨Or.inr rfl, Or.inr rfl, Or.inl rfl, Or.inl rfl, Or.inl rfl, Or.inr rfl, trivial⟩
                  · skip
                    refine T_bipush (pc' := 134) dX12_qPartTold_132 rfl (by decide) rfl ?_
                    refine T_goto (pc' := 139) dX12_qPartTold_134 (by decide) ?_
                    exact T_wk (L' := [(2, 66), (0, v1), (3, 0), (3, 0), (3, 0), (0, (if a20 = 40 then (M21 66 2) else (-1)))]) (by have q := HJ31; try simp only [if_neg c35] at q ⊢; exact q) ⟨Or.inr rfl, Or.inr rfl, Or.inl rfl, Or.inl rfl, Or.inl rfl, Or.inr rfl, trivial⟩
              refine T_icmp_ne (pc' := 117) dX12_qPartTold_107 (by decide) (pf := 110) rfl (fun c36 => ?_) (fun c36 => ?_)
              · skip
                refine T_iconst (pc' := 118) dX12_qPartTold_117 (by decide) rfl ?_
                exact T_wk (L' := [(2, 66), (0, v1), (3, 0), (3, 0), (0, a14), (3, 0)]) (by have q := HJ23; try simp only [if_neg c36] at q ⊢; exact q) ⟨Or.inr rfl, Or.inr rfl, Or.inl rfl, Or.inl rfl, Or.inr rfl, Or.inl rfl, trivial⟩
              · skip
                refine T_aload_n (i := 0) (pc' := 111) dX12_qPartTold_110 rfl rfl rfl ?_
                refine U_gf (v := (0, (M21 66 2))) (k := 2) (kI := 2) (pc' := 114) dX12_qPartTold_111 rfl cl12 (by decide) rfl (by decide) flX12_207 rfl rfl (by decide) rfl rfl ?_
                refine T_goto (pc' := 118) dX12_qPartTold_114 (by decide) ?_
                exact T_wk (L' := [(2, 66), (0, v1), (3, 0), (3, 0), (0, a14), (3, 0)]) (by have q := HJ23; try simp only [if_pos c36] at q ⊢; exact q) ⟨Or.inr rfl, Or.inr rfl, Or.inl rfl, Or.inl rfl, Or.inr rfl, Or.inl rfl, trivial⟩
            refine T_if_ne (pc' := 101) dX12_qPartTold_90 (by decide) (pf := 93) rfl (fun c37 => ?_) (fun c37 => ?_)
            · skip
              replace H := H.2 c37
              exact T_wk (L' := [(2, 66), (0, v1), (3, 0), (3, 0), (0, a14), (3, 0)]) (qj17 _ H hG16) ⟨Or.inr rfl, Or.inr rfl, Or.inl rfl, Or.inl rfl, Or.inr rfl, Or.inl rfl, trivial⟩
            · skip
              replace H := H.1 c37
              refine T_aload_n (i := 0) (pc' := 94) dX12_qPartTold_93 rfl rfl rfl ?_
              refine T_aload_n (i := 0) (pc' := 95) dX12_qPartTold_94 rfl rfl rfl ?_
              refine U_gr (q := 113) (k := 69) (kI := 69) (pc' := 98) dX12_qPartTold_95 rfl cl12 (by decide) rfl (by decide) flX12_159 rfl rfl rfl (G_at hG16 113 rfl) (by decide) rfl ?_
              refine T_callV (av := [(2, 113)]) (st := []) (d2 := 4) (nc2 := 0) (ns2 := 0) (pc' := 101) dX12_qPartTold_98 rfl mtX12_asks mvX12_asks mlX12_296 cl12 rfl rfl rfl (Nat.le_of_ble_eq_true rfl) (by decide) ⟨by decide, by decide⟩ rfl (pX12_asks (E := E) (h := h) (M := M15) (p1 := 113) (np1 := 3) (by decide) rfl (by decide) H hG16) ?_
              rintro _ _ M39 ⟨rfl, hG40, rfl, H⟩ _
              exact T_wk (L' := [(2, 66), (0, v1), (3, 0), (3, 0), (0, a14), (3, 0)]) (qj17 _ H hG40) ⟨Or.inr rfl, Or.inr rfl, Or.inl rfl, Or.inl rfl, Or.inr rfl, Or.inl rfl, trivial⟩
          · skip
            replace H := H.1 c13
            refine T_aload_n (i := 0) (pc' := 68) dX12_qPartTold_67 rfl rfl rfl ?_
            refine T_aload_n (i := 0) (pc' := 69) dX12_qPartTold_68 rfl rfl rfl ?_
            refine U_gr (q := 113) (k := 69) (kI := 69) (pc' := 72) dX12_qPartTold_69 rfl cl12 (by decide) rfl (by decide) flX12_159 rfl rfl rfl (G_at hG12 113 rfl) (by decide) rfl ?_
            refine T_callV (av := [(2, 113)]) (st := []) (d2 := 2) (nc2 := 0) (ns2 := 0) (pc' := 75) dX12_qPartTold_72 rfl mtX12_isHere mvX12_isHere mlX12_224 cl12 rfl rfl rfl (Nat.le_of_ble_eq_true rfl) (by decide) ⟨by decide, by decide⟩ rfl (pX12_isHere (E := E) (h := h) (M := M11) (p1 := 113) (np1 := 3) (by decide) rfl (by decide) H hG12) ?_
            rintro _ _ M42 ⟨rfl, hG43, a41, rfl, H⟩ _
            refine T_if_eq (pc' := 153) dX12_qPartTold_75 (by decide) (pf := 78) rfl (fun c44 => ?_) (fun c44 => ?_)
            · skip
              replace H := H.1 c44
              refine T_iload_n (i := 3) (pc' := 154) dX12_qPartTold_153 rfl rfl rfl ?_
              refine T_iconst (pc' := 155) dX12_qPartTold_154 (by decide) rfl ?_
              refine T_icmp_eq (pc' := 181) dX12_qPartTold_155 (by decide) (pf := 158) rfl (fun c45 => ?_) (fun c45 => ?_)
              · skip
                replace H := H.1 c45
                refine T_iconst (pc' := 182) dX12_qPartTold_181 (by decide) rfl ?_
                refine T_istore_n (i := 1) (L' := [(2, 66), (0, 0), (0, a3), (0, a6), (3, 0), (3, 0)]) (pc' := 183) dX12_qPartTold_182 rfl (by decide) rfl rfl ?_
                refine T_goto (pc' := 2) dX12_qPartTold_183 (by decide) ?_
                exact T_wk (L' := [(2, 66), (0, 0), (3, 0), (3, 0), (3, 0), (3, 0)]) (ih _ _ H hG43) ⟨Or.inr rfl, Or.inr rfl, Or.inl rfl, Or.inl rfl, Or.inl rfl, Or.inl rfl, trivial⟩
              · skip
                replace H := H.2 c45
                refine T_aload_n (i := 0) (pc' := 159) dX12_qPartTold_158 rfl rfl rfl ?_
                refine T_bipush (pc' := 161) dX12_qPartTold_159 rfl (by decide) rfl ?_
                refine T_iload_n (i := 3) (pc' := 162) dX12_qPartTold_161 rfl rfl rfl ?_
                refine T_iadd (pc' := 163) dX12_qPartTold_162 rfl ?_
                refine T_bipush (pc' := 165) dX12_qPartTold_163 rfl (by decide) rfl ?_
                refine T_isub (pc' := 166) dX12_qPartTold_165 rfl ?_
                refine T_aload_n (i := 0) (pc' := 167) dX12_qPartTold_166 rfl rfl rfl ?_
                refine U_gf (v := (0, (M42 66 2))) (k := 2) (kI := 2) (pc' := 170) dX12_qPartTold_167 rfl cl12 (by decide) rfl (by decide) flX12_207 rfl rfl (by decide) rfl rfl ?_
                obtain ⟨z46, H⟩ := H
                refine T_callV (av := [(0, (wr32 ((wr32 (60 + a6)) - 6))), (0, (M42 66 2))]) (st := []) (d2 := 2) (nc2 := 0) (ns2 := 0) (pc' := 173) dX12_qPartTold_170 rfl mtX12_qOpens mvX12_qOpens mlX12_544 cl12 rfl rfl rfl (Nat.le_of_ble_eq_true rfl) (by decide) ⟨by decide, by decide⟩ rfl (pX12_qOpens (E := E) (h := h) (M := M42) (v1 := (wr32 ((wr32 (60 + a6)) - 6))) (v2 := (M42 66 2)) z46 hG43) (kF (st2 := []) rfl (fun hG47 => ?_))
                obtain ⟨M48, eM48⟩ : ∃ m : Mem, m = (fmX12_qOpens M42 (wr32 ((wr32 (60 + a6)) - 6)) (M42 66 2)) := ⟨_, rfl⟩
                rw [← eM48] at hG47 ⊢
                replace H := H M48 eM48
                refine T_aload_n (i := 0) (pc' := 174) dX12_qPartTold_173 rfl rfl rfl ?_
                refine T_iload_n (i := 3) (pc' := 175) dX12_qPartTold_174 rfl rfl rfl ?_
                refine T_callV (av := [(0, a6)]) (st := []) (d2 := 5) (nc2 := 0) (ns2 := 0) (pc' := 178) dX12_qPartTold_175 rfl mtX12_qAsksWord mvX12_qAsksWord mlX12_547 cl12 rfl rfl rfl (Nat.le_of_ble_eq_true rfl) (by decide) ⟨by decide, by decide⟩ rfl (pX12_qAsksWord (E := E) (h := h) (M := M48) (v1 := a6) H hG47) ?_
                rintro _ _ M50 ⟨rfl, hG51, rfl, H⟩ _
                refine T_goto (pc' := 183) dX12_qPartTold_178 (by decide) ?_
                refine T_goto (pc' := 2) dX12_qPartTold_183 (by decide) ?_
                exact T_wk (L' := [(2, 66), (0, v1), (3, 0), (3, 0), (3, 0), (3, 0)]) (ih _ _ H hG51) ⟨Or.inr rfl, Or.inr rfl, Or.inl rfl, Or.inl rfl, Or.inl rfl, Or.inl rfl, trivial⟩
            · skip
              replace H := H.2 c44
              refine T_aload_n (i := 0) (pc' := 79) dX12_qPartTold_78 rfl rfl rfl ?_
              refine T_aload_n (i := 0) (pc' := 80) dX12_qPartTold_79 rfl rfl rfl ?_
              refine U_gr (q := 112) (k := 68) (kI := 68) (pc' := 83) dX12_qPartTold_80 rfl cl12 (by decide) rfl (by decide) flX12_156 rfl rfl rfl (G_at hG43 112 rfl) (by decide) rfl ?_
              refine T_callV (av := [(2, 112)]) (st := []) (d2 := 3) (nc2 := 0) (ns2 := 0) (pc' := 86) dX12_qPartTold_83 rfl mtX12_takes mvX12_takes mlX12_228 cl12 rfl rfl rfl (Nat.le_of_ble_eq_true rfl) (by decide) ⟨by decide, by decide⟩ rfl (pX12_takes (E := E) (h := h) (M := M42) (p1 := 112) (np1 := 3) (by decide) rfl (by decide) H hG43) ?_
              rintro _ _ M53 ⟨rfl, hG54, a52, rfl, H⟩ _
              refine T_istore (i := 4) (L' := [(2, 66), (0, v1), (0, a3), (0, a6), (0, a52), (3, 0)]) (pc' := 88) dX12_qPartTold_86 (by decide) rfl rfl ?_
              refine T_iload (i := 4) (pc' := 90) dX12_qPartTold_88 rfl rfl ?_
              obtain ⟨j55, hj55, H⟩ := H
              have qj55 : ∀ (M56 : Mem), j55 M56 → G h M56 → TG E miX12_qPartTold 6 h (RV Q) 101 [(2, 66), (0, v1), (3, 0), (3, 0), (0, a52), (3, 0)] [] M56 := by
                intro M56 H hG57
                replace H := hj55 _ H
                refine T_aload_n (i := 0) (pc' := 102) dX12_qPartTold_101 rfl rfl rfl ?_
                refine T_callV (av := []) (st := []) (d2 := 1) (nc2 := 0) (ns2 := 0) (pc' := 105) dX12_qPartTold_102 rfl mtX12_look mvX12_look mlX12_213 cl12 rfl rfl rfl (Nat.le_of_ble_eq_true rfl) (by decide) ⟨by decide, by decide⟩ rfl (pX12_look (E := E) (h := h) (M := M56) H hG57) ?_
                rintro _ _ M59 ⟨rfl, hG60, a58, rfl, H⟩ _
                refine T_bipush (pc' := 107) dX12_qPartTold_105 rfl (by decide) rfl ?_
                have HJ61 : T E miX12_qPartTold 6 126 0 0 (fun r S M' => S = S0 ∧ G h M' ∧ RV Q r M') 118 [(2, 66), (0, v1), (3, 0), (3, 0), (0, a52), (3, 0)] [(0, (if a58 = 40 then (M59 66 2) else (-1)))] S0 M59 0 0 := by
                  refine T_istore (i := 5) (L' := [(2, 66), (0, v1), (3, 0), (3, 0), (0, a52), (0, (if a58 = 40 then (M59 66 2) else (-1)))]) (pc' := 120) dX12_qPartTold_118 (by decide) rfl rfl ?_
                  refine T_iload (i := 5) (pc' := 122) dX12_qPartTold_120 rfl rfl ?_
                  refine T_iconst (pc' := 123) dX12_qPartTold_122 (by decide) rfl ?_
                  obtain ⟨j62, hj62, H⟩ := H
                  have qj62 : ∀ (M63 : Mem), j62 M63 → G h M63 → TG E miX12_qPartTold 6 h (RV Q) 144 [(2, 66), (0, v1), (3, 0), (3, 0), (3, 0), (3, 0)] [] M63 := by
                    intro M63 H hG64
                    replace H := hj62 _ H
                    refine T_aload_n (i := 0) (pc' := 145) dX12_qPartTold_144 rfl rfl rfl ?_
                    refine T_bipush (pc' := 147) dX12_qPartTold_145 rfl (by decide) rfl ?_
                    refine T_callV (av := [(0, 40)]) (st := []) (d2 := 3) (nc2 := 0) (ns2 := 0) (pc' := 150) dX12_qPartTold_147 rfl mtX12_asksSign mvX12_asksSign mlX12_322 cl12 rfl rfl rfl (Nat.le_of_ble_eq_true rfl) (by decide) ⟨by decide, by decide⟩ rfl (pX12_asksSign (E := E) (h := h) (M := M63) (v1 := 40) H hG64) ?_
                    rintro _ _ M66 ⟨rfl, hG67, rfl, H⟩ _
                    refine T_goto (pc' := 183) dX12_qPartTold_150 (by decide) ?_
                    refine T_goto (pc' := 2) dX12_qPartTold_183 (by decide) ?_
                    exact T_wk (L' := [(2, 66), (0, v1), (3, 0), (3, 0), (3, 0), (3, 0)]) (ih _ _ H hG67) ⟨Or.inr rfl, Or.inr rfl, Or.inl rfl, Or.inl rfl, Or.inl rfl, Or.inl rfl, trivial⟩
                  refine T_icmp_eq (pc' := 144) dX12_qPartTold_123 (by decide) (pf := 126) rfl (fun c68 => ?_) (fun c68 => ?_)
                  · skip
                    replace H := H.1 c68
                    exact T_wk (L' := [(2, 66), (0, v1), (3, 0), (3, 0), (3, 0), (3, 0)]) (qj62 _ H hG60) ⟨Or.inr rfl, Or.inr rfl, Or.inl rfl, Or.inl rfl, Or.inl rfl, Or.inl rfl, trivial⟩
                  · skip
                    replace H := H.2 c68
                    refine T_aload_n (i := 0) (pc' := 127) dX12_qPartTold_126 rfl rfl rfl ?_
                    refine T_iload (i := 4) (pc' := 129) dX12_qPartTold_127 rfl rfl ?_
                    have HJ69 : T E miX12_qPartTold 6 126 0 0 (fun r S M' => S = S0 ∧ G h M' ∧ RV Q r M') 139 [(2, 66), (0, v1), (3, 0), (3, 0), (3, 0), (0, (if a58 = 40 then (M59 66 2) else (-1)))] [(0, (if a52 = 0 then (22 : Int) else 21)), (2, 66)] S0 M59 0 0 := by
                      refine T_iload (i := 5) (pc' := 141) dX12_qPartTold_139 rfl rfl ?_
                      obtain ⟨z70, H⟩ := H
                      refine T_callV (av := [(0, (if a52 = 0 then (22 : Int) else 21)), (0, (if a58 = 40 then (M59 66 2) else (-1)))]) (st := []) (d2 := 2) (nc2 := 0) (ns2 := 0) (pc' := 144) dX12_qPartTold_141 rfl mtX12_qOpens mvX12_qOpens mlX12_544 cl12 rfl rfl rfl (Nat.le_of_ble_eq_true rfl) (by decide) ⟨by decide, by decide⟩ rfl (pX12_qOpens (E := E) (h := h) (M := M59) (v1 := (if a52 = 0 then (22 : Int) else 21)) (v2 := (if a58 = 40 then (M59 66 2) else (-1))) z70 hG60) (kF (st2 := []) rfl (fun hG71 => ?_))
                      obtain ⟨M72, eM72⟩ : ∃ m : Mem, m = (fmX12_qOpens M59 (if a52 = 0 then (22 : Int) else 21) (if a58 = 40 then (M59 66 2) else (-1))) := ⟨_, rfl⟩
                      rw [← eM72] at hG71 ⊢
                      replace H := H M72 eM72
                      exact T_wk (L' := [(2, 66), (0, v1), (3, 0), (3, 0), (3, 0), (3, 0)]) (qj62 _ H hG71) ⟨Or.inr rfl, Or.inr rfl, Or.inl rfl, Or.inl rfl, Or.inl rfl, Or.inl rfl, trivial⟩
                    refine T_if_eq (pc' := 137) dX12_qPartTold_129 (by decide) (pf := 132) rfl (fun c73 => ?_) (fun c73 => ?_)
                    · skip
                      refine T_bipush (pc' := 139) dX12_qPartTold_137 rfl (by decide) rfl ?_
                      exact T_wk (L' := [(2, 66), (0, v1), (3, 0), (3, 0), (3, 0), (0, (if a58 = 40 then (M59 66 2) else (-1)))]) (by have q := HJ69; try simp only [if_pos c73] at q ⊢; exact q) ⟨Or.inr rfl, Or.inr rfl, Or.inl rfl, Or.inl rfl, Or.inl rfl, Or.inr rfl, trivial⟩
                    · skip
                      refine T_bipush (pc' := 134) dX12_qPartTold_132 rfl (by decide) rfl ?_
                      refine T_goto (pc' := 139) dX12_qPartTold_134 (by decide) ?_
                      exact T_wk (L' := [(2, 66), (0, v1), (3, 0), (3, 0), (3, 0), (0, (if a58 = 40 then (M59 66 2) else (-1)))]) (by have q := HJ69; try simp only [if_neg c73] at q ⊢; exact q) ⟨Or.inr rfl, Or.inr rfl, Or.inl rfl, Or.inl rfl, Or.inl rfl, Or.inr rfl, trivial⟩
                refine T_icmp_ne (pc' := 117) dX12_qPartTold_107 (by decide) (pf := 110) rfl (fun c74 => ?_) (fun c74 => ?_)
                · skip
                  refine T_iconst (pc' := 118) dX12_qPartTold_117 (by decide) rfl ?_
                  exact T_wk (L' := [(2, 66), (0, v1), (3, 0), (3, 0), (0, a52), (3, 0)]) (by have q := HJ61; try simp only [if_neg c74] at q ⊢; exact q) ⟨Or.inr rfl, Or.inr rfl, Or.inl rfl, Or.inl rfl, Or.inr rfl, Or.inl rfl, trivial⟩
                · skip
                  refine T_aload_n (i := 0) (pc' := 111) dX12_qPartTold_110 rfl rfl rfl ?_
                  refine U_gf (v := (0, (M59 66 2))) (k := 2) (kI := 2) (pc' := 114) dX12_qPartTold_111 rfl cl12 (by decide) rfl (by decide) flX12_207 rfl rfl (by decide) rfl rfl ?_
                  refine T_goto (pc' := 118) dX12_qPartTold_114 (by decide) ?_
                  exact T_wk (L' := [(2, 66), (0, v1), (3, 0), (3, 0), (0, a52), (3, 0)]) (by have q := HJ61; try simp only [if_pos c74] at q ⊢; exact q) ⟨Or.inr rfl, Or.inr rfl, Or.inl rfl, Or.inl rfl, Or.inr rfl, Or.inl rfl, trivial⟩
              refine T_if_ne (pc' := 101) dX12_qPartTold_90 (by decide) (pf := 93) rfl (fun c75 => ?_) (fun c75 => ?_)
              · skip
                replace H := H.2 c75
                exact T_wk (L' := [(2, 66), (0, v1), (3, 0), (3, 0), (0, a52), (3, 0)]) (qj55 _ H hG54) ⟨Or.inr rfl, Or.inr rfl, Or.inl rfl, Or.inl rfl, Or.inr rfl, Or.inl rfl, trivial⟩
              · skip
                replace H := H.1 c75
                refine T_aload_n (i := 0) (pc' := 94) dX12_qPartTold_93 rfl rfl rfl ?_
                refine T_aload_n (i := 0) (pc' := 95) dX12_qPartTold_94 rfl rfl rfl ?_
                refine U_gr (q := 113) (k := 69) (kI := 69) (pc' := 98) dX12_qPartTold_95 rfl cl12 (by decide) rfl (by decide) flX12_159 rfl rfl rfl (G_at hG54 113 rfl) (by decide) rfl ?_
                refine T_callV (av := [(2, 113)]) (st := []) (d2 := 4) (nc2 := 0) (ns2 := 0) (pc' := 101) dX12_qPartTold_98 rfl mtX12_asks mvX12_asks mlX12_296 cl12 rfl rfl rfl (Nat.le_of_ble_eq_true rfl) (by decide) ⟨by decide, by decide⟩ rfl (pX12_asks (E := E) (h := h) (M := M53) (p1 := 113) (np1 := 3) (by decide) rfl (by decide) H hG54) ?_
                rintro _ _ M77 ⟨rfl, hG78, rfl, H⟩ _
                exact T_wk (L' := [(2, 66), (0, v1), (3, 0), (3, 0), (0, a52), (3, 0)]) (qj55 _ H hG78) ⟨Or.inr rfl, Or.inr rfl, Or.inl rfl, Or.inl rfl, Or.inr rfl, Or.inl rfl, trivial⟩
        · skip
          replace H := H.1 c9
          refine T_aload_n (i := 0) (pc' := 34) dX12_qPartTold_33 rfl rfl rfl ?_
          refine T_bipush (pc' := 36) dX12_qPartTold_34 rfl (by decide) rfl ?_
          refine T_aload_n (i := 0) (pc' := 37) dX12_qPartTold_36 rfl rfl rfl ?_
          refine U_gf (v := (0, (M7 66 2))) (k := 2) (kI := 2) (pc' := 40) dX12_qPartTold_37 rfl cl12 (by decide) rfl (by decide) flX12_207 rfl rfl (by decide) rfl rfl ?_
          obtain ⟨z79, H⟩ := H
          refine T_callV (av := [(0, 20), (0, (M7 66 2))]) (st := []) (d2 := 2) (nc2 := 0) (ns2 := 0) (pc' := 43) dX12_qPartTold_40 rfl mtX12_qOpens mvX12_qOpens mlX12_544 cl12 rfl rfl rfl (Nat.le_of_ble_eq_true rfl) (by decide) ⟨by decide, by decide⟩ rfl (pX12_qOpens (E := E) (h := h) (M := M7) (v1 := 20) (v2 := (M7 66 2)) z79 hG8) (kF (st2 := []) rfl (fun hG80 => ?_))
          obtain ⟨M81, eM81⟩ : ∃ m : Mem, m = (fmX12_qOpens M7 20 (M7 66 2)) := ⟨_, rfl⟩
          rw [← eM81] at hG80 ⊢
          replace H := H M81 eM81
          refine T_aload_n (i := 0) (pc' := 44) dX12_qPartTold_43 rfl rfl rfl ?_
          refine T_dup (pc' := 45) dX12_qPartTold_44 (Nat.ne_of_beq_eq_false rfl) rfl ?_
          refine U_gf (v := (0, (M81 66 2))) (k := 2) (kI := 2) (pc' := 48) dX12_qPartTold_45 rfl cl12 (by decide) rfl (by decide) flX12_207 rfl rfl (by decide) rfl rfl ?_
          refine T_iconst (pc' := 49) dX12_qPartTold_48 (by decide) rfl ?_
          refine T_iadd (pc' := 50) dX12_qPartTold_49 rfl ?_
          refine U_pf (y := (wr32 ((M81 66 2) + 1))) (k := 2) (kI := 2) (pc' := 53) dX12_qPartTold_50 rfl cl12 (by decide) rfl (by decide) flX12_207 rfl rfl rfl rfl rfl (by decide) (fun z => z) rfl ?_
          have hG82 := (G_fld (x := 66) (i := 2) (y := (wr32 ((M81 66 2) + 1))) rfl (by decide) (by decide) (by decide) hG80)
          obtain ⟨M83, eM83⟩ : ∃ m : Mem, m = (mset M81 66 2 (wr32 ((M81 66 2) + 1))) := ⟨_, rfl⟩
          rw [← eM83] at hG82 ⊢
          replace H := H M83 eM83
          refine T_goto (pc' := 183) dX12_qPartTold_53 (by decide) ?_
          refine T_goto (pc' := 2) dX12_qPartTold_183 (by decide) ?_
          exact T_wk (L' := [(2, 66), (0, v1), (3, 0), (3, 0), (3, 0), (3, 0)]) (ih _ _ H hG82) ⟨Or.inr rfl, Or.inr rfl, Or.inl rfl, Or.inl rfl, Or.inl rfl, Or.inl rfl, trivial⟩
set_option maxRecDepth 100000 in
set_option maxHeartbeats 2000000 in
theorem pX12_qPartTold {E : EV} {h : Int} {M : Mem}   {Q : Int → Mem → Prop} (H : PX12_qPartTold  M Q) : C2 E miX12_qPartTold 6 h [(2, 66)] M (RV Q) := by
  refine C2_of (L := [(2, 66), (3, 0), (3, 0), (3, 0), (3, 0), (3, 0)]) (by decide +kernel) (Nat.le_of_ble_eq_true rfl) rfl (fun hG => ?_)
  refine T_iconst (pc' := 1) dX12_qPartTold_0 (by decide) rfl ?_
  refine T_istore_n (i := 1) (L' := [(2, 66), (0, 1), (3, 0), (3, 0), (3, 0), (3, 0)]) (pc' := 2) dX12_qPartTold_1 rfl (by decide) rfl rfl ?_
  obtain ⟨k1, H⟩ := H
  refine T_wk (L' := [(2, 66), (0, 1), (3, 0), (3, 0), (3, 0), (3, 0)]) (qX12_qPartTold_2  (fun M2 H hG3 => ?_) _ _ _ H hG) ⟨Or.inr rfl, Or.inr rfl, Or.inl rfl, Or.inl rfl, Or.inl rfl, Or.inl rfl, trivial⟩
  refine T_aload_n (i := 0) (pc' := 187) dX12_qPartTold_186 rfl rfl rfl ?_
  refine U_gf (v := (0, (M2 66 5))) (k := 5) (kI := 5) (pc' := 190) dX12_qPartTold_187 rfl cl12 (by decide) rfl (by decide) flX12_201 rfl rfl (by decide) rfl rfl ?_
  refine T_if_eq (pc' := 194) dX12_qPartTold_190 (by decide) (pf := 193) rfl (fun c4 => ?_) (fun c4 => ?_)
  · skip
    replace H := H.1 c4
    refine T_aload_n (i := 0) (pc' := 195) dX12_qPartTold_194 rfl rfl rfl ?_
    refine T_iconst (pc' := 196) dX12_qPartTold_195 (by decide) rfl ?_
    refine T_bipush (pc' := 198) dX12_qPartTold_196 rfl (by decide) rfl ?_
    refine T_callV (av := [(0, 0), (0, 6)]) (st := []) (d2 := 4) (nc2 := 0) (ns2 := 0) (pc' := 201) dX12_qPartTold_198 rfl mtX12_qWordOf mvX12_qWordOf mlX12_541 cl12 rfl rfl rfl (Nat.le_of_ble_eq_true rfl) (by decide) ⟨by decide, by decide⟩ rfl (pX12_qWordOf (E := E) (h := h) (M := M2) (v1 := 0) (v2 := 6) H hG3) ?_
    rintro _ _ M6 ⟨rfl, hG7, a5, rfl, H⟩ _
    refine T_istore_n (i := 2) (L' := [(2, 66), (3, 0), (0, a5), (3, 0), (3, 0), (3, 0)]) (pc' := 202) dX12_qPartTold_201 rfl (by decide) rfl rfl ?_
    refine T_iload_n (i := 2) (pc' := 203) dX12_qPartTold_202 rfl rfl rfl ?_
    refine T_iconst (pc' := 204) dX12_qPartTold_203 (by decide) rfl ?_
    obtain ⟨j8, hj8, H⟩ := H
    have qj8 : ∀ (M9 : Mem), j8 M9 → G h M9 → TG E miX12_qPartTold 6 h (RV Q) 212 [(2, 66), (3, 0), (0, a5), (3, 0), (3, 0), (3, 0)] [] M9 := by
      intro M9 H hG10
      replace H := hj8 _ H
      refine T_aload_n (i := 0) (pc' := 213) dX12_qPartTold_212 rfl rfl rfl ?_
      refine T_iload_n (i := 2) (pc' := 214) dX12_qPartTold_213 rfl rfl rfl ?_
      refine T_iconst (pc' := 215) dX12_qPartTold_214 (by decide) rfl ?_
      obtain ⟨j11, hj11, H⟩ := H
      have qj11 : ∀ (u12 : Int) (M13 : Mem), j11 u12 M13 → G h M13 → TG E miX12_qPartTold 6 h (RV Q) 237 [(2, 66), (3, 0), (3, 0), (3, 0), (3, 0), (3, 0)] [(0, u12), (2, 66)] M13 := by
        intro u12 M13 H hG14
        replace H := hj11 _ _ H
        obtain ⟨z15, H⟩ := H
        refine T_callV (av := [(0, u12)]) (st := []) (d2 := 1) (nc2 := 0) (ns2 := 0) (pc' := 240) dX12_qPartTold_237 rfl mtX12_qCode mvX12_qCode mlX12_526 cl12 rfl rfl rfl (Nat.le_of_ble_eq_true rfl) (by decide) ⟨by decide, by decide⟩ rfl (pX12_qCode (E := E) (h := h) (M := M13) (v1 := u12) z15 hG14) (kF (st2 := []) rfl (fun hG16 => ?_))
        obtain ⟨M17, eM17⟩ : ∃ m : Mem, m = (fmX12_qCode M13 u12) := ⟨_, rfl⟩
        rw [← eM17] at hG16 ⊢
        replace H := H M17 eM17
        refine T_aload_n (i := 0) (pc' := 241) dX12_qPartTold_240 rfl rfl rfl ?_
        refine T_callV (av := []) (st := []) (d2 := 3) (nc2 := 0) (ns2 := 0) (pc' := 244) dX12_qPartTold_241 rfl mtX12_qEndsPart mvX12_qEndsPart mlX12_550 cl12 rfl rfl rfl (Nat.le_of_ble_eq_true rfl) (by decide) ⟨by decide, by decide⟩ rfl (pX12_qEndsPart (E := E) (h := h) (M := M17) H hG16) ?_
        rintro _ _ M19 ⟨rfl, hG20, rfl, H⟩ _
        exact T_vret dX12_qPartTold_244 rfl ⟨rfl, hG20, rfl, H⟩
      refine T_icmp_eq (pc' := 225) dX12_qPartTold_215 (by decide) (pf := 218) rfl (fun c21 => ?_) (fun c21 => ?_)
      · skip
        replace H := H.1 c21
        refine T_sipush (pc' := 228) dX12_qPartTold_225 rfl (by decide) rfl ?_
        refine T_aload_n (i := 0) (pc' := 229) dX12_qPartTold_228 rfl rfl rfl ?_
        refine T_iconst (pc' := 230) dX12_qPartTold_229 (by decide) rfl ?_
        refine T_sipush (pc' := 233) dX12_qPartTold_230 rfl (by decide) rfl ?_
        refine T_callV (av := [(0, 0), (0, 9999)]) (st := [(0, 1000), (2, 66)]) (d2 := 2) (nc2 := 0) (ns2 := 0) (pc' := 236) dX12_qPartTold_233 rfl mtX12_number mvX12_number mlX12_248 cl12 rfl rfl rfl (Nat.le_of_ble_eq_true rfl) (by decide) ⟨by decide, by decide⟩ rfl (pX12_number (E := E) (h := h) (M := M9) (v1 := 0) (v2 := 9999) H hG10) ?_
        rintro _ _ M23 ⟨rfl, hG24, a22, rfl, H⟩ _
        refine T_iadd (pc' := 237) dX12_qPartTold_236 rfl ?_
        exact T_wk (L' := [(2, 66), (3, 0), (3, 0), (3, 0), (3, 0), (3, 0)]) (qj11 _ _ H hG24) ⟨Or.inr rfl, Or.inl rfl, Or.inl rfl, Or.inl rfl, Or.inl rfl, Or.inl rfl, trivial⟩
      · skip
        replace H := H.2 c21
        refine T_bipush (pc' := 220) dX12_qPartTold_218 rfl (by decide) rfl ?_
        refine T_iload_n (i := 2) (pc' := 221) dX12_qPartTold_220 rfl rfl rfl ?_
        refine T_iadd (pc' := 222) dX12_qPartTold_221 rfl ?_
        refine T_goto (pc' := 237) dX12_qPartTold_222 (by decide) ?_
        exact T_wk (L' := [(2, 66), (3, 0), (3, 0), (3, 0), (3, 0), (3, 0)]) (qj11 _ _ H hG10) ⟨Or.inr rfl, Or.inl rfl, Or.inl rfl, Or.inl rfl, Or.inl rfl, Or.inl rfl, trivial⟩
    refine T_icmp_eq (pc' := 212) dX12_qPartTold_204 (by decide) (pf := 207) rfl (fun c25 => ?_) (fun c25 => ?_)
    · skip
      replace H := H.1 c25
      exact T_wk (L' := [(2, 66), (3, 0), (0, a5), (3, 0), (3, 0), (3, 0)]) (qj8 _ H hG7) ⟨Or.inr rfl, Or.inl rfl, Or.inr rfl, Or.inl rfl, Or.inl rfl, Or.inl rfl, trivial⟩
    · skip
      replace H := H.2 c25
      refine T_aload_n (i := 0) (pc' := 208) dX12_qPartTold_207 rfl rfl rfl ?_
      refine T_iload_n (i := 2) (pc' := 209) dX12_qPartTold_208 rfl rfl rfl ?_
      refine T_callV (av := [(0, a5)]) (st := []) (d2 := 5) (nc2 := 0) (ns2 := 0) (pc' := 212) dX12_qPartTold_209 rfl mtX12_qAsksWord mvX12_qAsksWord mlX12_547 cl12 rfl rfl rfl (Nat.le_of_ble_eq_true rfl) (by decide) ⟨by decide, by decide⟩ rfl (pX12_qAsksWord (E := E) (h := h) (M := M6) (v1 := a5) H hG7) ?_
      rintro _ _ M27 ⟨rfl, hG28, rfl, H⟩ _
      exact T_wk (L' := [(2, 66), (3, 0), (0, a5), (3, 0), (3, 0), (3, 0)]) (qj8 _ H hG28) ⟨Or.inr rfl, Or.inl rfl, Or.inr rfl, Or.inl rfl, Or.inl rfl, Or.inl rfl, trivial⟩
  · skip
    replace H := H.2 c4
    exact T_vret dX12_qPartTold_193 rfl ⟨rfl, hG3, rfl, H⟩
def PX12_qGoesOn_0  (K : Mem → Prop) (Q : Int → Mem → Prop) : Nat → Mem → Prop
  | 0 => fun _ => False
  | k + 1 => fun M => (((M 66 5) = 0 → PX12_look M (fun a2 M3 => ((a2 = 41 → PX12_qBracket M3 (fun a6 M7 => ((a6 = 20 → (∀ M11 : Mem, M11 = (mset M7 66 2 (wr32 ((M7 66 2) + 1))) → PX12_qDropsToBracket M11 (fun _ M13 => (∀ M16 : Mem, M16 = (mset M13 66 81 (wr32 ((M13 66 81) - 1))) → (∀ M18 : Mem, M18 = (mset M16 66 82 (wr32 ((M16 66 82) - 1))) → 0 ≤ (M18 66 81) ∧ (M18 66 81) < 1700 ∧ (∃ j19 : Mem → Prop, (∀ (M20 : Mem), j19 M20 → PX12_qEndsPart M20 (fun _ M23 => PX12_qGoesOn_0  K Q k M23)) ∧ (((M18 123 (M18 66 81)) = 20 → j19 M18) ∧ (¬ ((M18 123 (M18 66 81)) = 20) → 0 ≤ (M18 66 81) ∧ (M18 66 81) < 1700 ∧ (nX12_qCode M18) ∧ (∀ M29 : Mem, M29 = (fmX12_qCode M18 (if (M18 123 (M18 66 81)) = 23 then (5 : Int) else 6)) → j19 M29))))))))) ∧ (¬ (a6 = 20) → PX12_qBracket M7 (fun a31 M32 => ((a31 = 23 → (∀ M36 : Mem, M36 = (mset M32 66 2 (wr32 ((M32 66 2) + 1))) → PX12_qDropsToBracket M36 (fun _ M38 => (∀ M41 : Mem, M41 = (mset M38 66 81 (wr32 ((M38 66 81) - 1))) → (∀ M43 : Mem, M43 = (mset M41 66 82 (wr32 ((M41 66 82) - 1))) → 0 ≤ (M43 66 81) ∧ (M43 66 81) < 1700 ∧ (∃ j44 : Mem → Prop, (∀ (M45 : Mem), j44 M45 → PX12_qEndsPart M45 (fun _ M48 => PX12_qGoesOn_0  K Q k M48)) ∧ (((M43 123 (M43 66 81)) = 20 → j44 M43) ∧ (¬ ((M43 123 (M43 66 81)) = 20) → 0 ≤ (M43 66 81) ∧ (M43 66 81) < 1700 ∧ (nX12_qCode M43) ∧ (∀ M54 : Mem, M54 = (fmX12_qCode M43 (if (M43 123 (M43 66 81)) = 23 then (5 : Int) else 6)) → j44 M54))))))))) ∧ (¬ (a31 = 23) → PX12_qBracket M32 (fun a56 M57 => ((a56 = 24 → (∀ M61 : Mem, M61 = (mset M57 66 2 (wr32 ((M57 66 2) + 1))) → PX12_qDropsToBracket M61 (fun _ M63 => (∀ M66 : Mem, M66 = (mset M63 66 81 (wr32 ((M63 66 81) - 1))) → (∀ M68 : Mem, M68 = (mset M66 66 82 (wr32 ((M66 66 82) - 1))) → 0 ≤ (M68 66 81) ∧ (M68 66 81) < 1700 ∧ (∃ j69 : Mem → Prop, (∀ (M70 : Mem), j69 M70 → PX12_qEndsPart M70 (fun _ M73 => PX12_qGoesOn_0  K Q k M73)) ∧ (((M68 123 (M68 66 81)) = 20 → j69 M68) ∧ (¬ ((M68 123 (M68 66 81)) = 20) → 0 ≤ (M68 66 81) ∧ (M68 66 81) < 1700 ∧ (nX12_qCode M68) ∧ (∀ M79 : Mem, M79 = (fmX12_qCode M68 (if (M68 123 (M68 66 81)) = 23 then (5 : Int) else 6)) → j69 M79))))))))) ∧ (¬ (a56 = 24) → K M57)))))))))) ∧ (¬ (a2 = 41) → K M3)))) ∧ (¬ ((M 66 5) = 0) → K M))
def PX12_qGoesOn_162  (K : Mem → Prop) (Q : Int → Mem → Prop) : Nat → Mem → Prop
  | 0 => fun _ => False
  | k + 1 => fun M => (nX12_qIsOn M) ∧ (∃ j3 : Prop, (j3 → (nX12_qIsOn M) ∧ (((fX12_qIsOn M 4) = 0 → K M) ∧ (¬ ((fX12_qIsOn M 4) = 0) → (nX12_qDrops M) ∧ (∀ M10 : Mem, M10 = (fmX12_qDrops M) → PX12_qGoesOn_162  K Q k M10)))) ∧ (((fX12_qIsOn M 3) = 0 → j3) ∧ (¬ ((fX12_qIsOn M 3) = 0) → (nX12_qDrops M) ∧ (∀ M14 : Mem, M14 = (fmX12_qDrops M) → PX12_qGoesOn_162  K Q k M14))))
def PX12_qGoesOn_247  (K : Mem → Prop) (Q : Int → Mem → Prop) : Nat → Mem → Prop
  | 0 => fun _ => False
  | k + 1 => fun M => (nX12_qIsOn M) ∧ (∃ j3 : Prop, (j3 → (nX12_qIsOn M) ∧ (∃ j7 : Prop, (j7 → (nX12_qIsOn M) ∧ (∃ j11 : Prop, (j11 → (nX12_qIsOn M) ∧ (((fX12_qIsOn M 2) = 0 → K M) ∧ (¬ ((fX12_qIsOn M 2) = 0) → (nX12_qDrops M) ∧ (∀ M18 : Mem, M18 = (fmX12_qDrops M) → PX12_qGoesOn_247  K Q k M18)))) ∧ (((fX12_qIsOn M 1) = 0 → j11) ∧ (¬ ((fX12_qIsOn M 1) = 0) → (nX12_qDrops M) ∧ (∀ M22 : Mem, M22 = (fmX12_qDrops M) → PX12_qGoesOn_247  K Q k M22))))) ∧ (((fX12_qIsOn M 4) = 0 → j7) ∧ (¬ ((fX12_qIsOn M 4) = 0) → (nX12_qDrops M) ∧ (∀ M26 : Mem, M26 = (fmX12_qDrops M) → PX12_qGoesOn_247  K Q k M26))))) ∧ (((fX12_qIsOn M 3) = 0 → j3) ∧ (¬ ((fX12_qIsOn M 3) = 0) → (nX12_qDrops M) ∧ (∀ M30 : Mem, M30 = (fmX12_qDrops M) → PX12_qGoesOn_247  K Q k M30))))
def PX12_qGoesOn  (M : Mem) (Q : Int → Mem → Prop) : Prop :=
  (∃ k1 : Nat, PX12_qGoesOn_0 (fun M2 => PX12_takesSign 42 M2 (fun a4 M5 => ((a4 = 0 → PX12_takesSign 47 M5 (fun a17 M18 => ((a17 = 0 → PX12_takesSign 43 M18 (fun a21 M22 => ((a21 = 0 → PX12_takesSign 45 M22 (fun a34 M35 => ((a34 = 0 → PX12_qBracket M35 (fun a38 M39 => ((a38 = 21 → PX12_asksSign 44 M39 (fun _ M43 => (((M43 66 5) = 0 → PX12_qDropsToBracket M43 (fun _ M47 => 0 ≤ (wr32 ((M47 66 81) - 1)) ∧ (wr32 ((M47 66 81) - 1)) < 1700 ∧ 0 ≤ (wr32 ((M47 66 81) - 1)) ∧ (wr32 ((M47 66 81) - 1)) < 1700 ∧ (∀ M50 : Mem, M50 = (mset M47 123 (wr32 ((M47 66 81) - 1)) (wr32 ((M47 123 (wr32 ((M47 66 81) - 1))) + 2))) → Q 1 M50))) ∧ (¬ ((M43 66 5) = 0) → Q 0 M43)))) ∧ (¬ (a38 = 21) → PX12_qBracket M39 (fun a51 M52 => ((a51 = 22 → PX12_asksSign 44 M52 (fun _ M63 => (((M63 66 5) = 0 → PX12_qDropsToBracket M63 (fun _ M67 => 0 ≤ (wr32 ((M67 66 81) - 1)) ∧ (wr32 ((M67 66 81) - 1)) < 1700 ∧ 0 ≤ (wr32 ((M67 66 81) - 1)) ∧ (wr32 ((M67 66 81) - 1)) < 1700 ∧ (∀ M70 : Mem, M70 = (mset M67 123 (wr32 ((M67 66 81) - 1)) (wr32 ((M67 123 (wr32 ((M67 66 81) - 1))) + 2))) → Q 1 M70))) ∧ (¬ ((M63 66 5) = 0) → Q 0 M63)))) ∧ (¬ (a51 = 22) → PX12_qBracket M52 (fun a55 M56 => ((a55 = (-1) → Q 0 M56) ∧ (¬ (a55 = (-1)) → (((M56 66 5) = 0 → (∀ M61 : Mem, M61 = (fmX12_fail M56 1 (M56 66 2)) → Q 0 M61)) ∧ (¬ ((M56 66 5) = 0) → Q 0 M56)))))))))))) ∧ (¬ (a34 = 0) → 0 ≤ (wr32 ((M35 66 2) - 1)) ∧ (wr32 ((M35 66 2) - 1)) < 1600 ∧ (∃ k72 : Nat, PX12_qGoesOn_247 (fun M73 => 0 ≤ (M73 66 81) ∧ (M73 66 81) < 1700 ∧ (∀ M76 : Mem, M76 = (mset M73 123 (M73 66 81) (if (M35 67 (wr32 ((M35 66 2) - 1))) = 43 then (1 : Int) else 2)) → (∀ M78 : Mem, M78 = (mset M76 66 81 (wr32 ((M76 66 81) + 1))) → Q 1 M78))) Q k72 M35))))) ∧ (¬ (a21 = 0) → 0 ≤ (wr32 ((M22 66 2) - 1)) ∧ (wr32 ((M22 66 2) - 1)) < 1600 ∧ (∃ k26 : Nat, PX12_qGoesOn_247 (fun M27 => 0 ≤ (M27 66 81) ∧ (M27 66 81) < 1700 ∧ (∀ M30 : Mem, M30 = (mset M27 123 (M27 66 81) (if (M22 67 (wr32 ((M22 66 2) - 1))) = 43 then (1 : Int) else 2)) → (∀ M32 : Mem, M32 = (mset M30 66 81 (wr32 ((M30 66 81) + 1))) → Q 1 M32))) Q k26 M22))))) ∧ (¬ (a17 = 0) → 0 ≤ (wr32 ((M18 66 2) - 1)) ∧ (wr32 ((M18 66 2) - 1)) < 1600 ∧ (∃ k81 : Nat, PX12_qGoesOn_162 (fun M82 => 0 ≤ (M82 66 81) ∧ (M82 66 81) < 1700 ∧ (∀ M85 : Mem, M85 = (mset M82 123 (M82 66 81) (if (M18 67 (wr32 ((M18 66 2) - 1))) = 42 then (3 : Int) else 4)) → (∀ M87 : Mem, M87 = (mset M85 66 81 (wr32 ((M85 66 81) + 1))) → Q 1 M87))) Q k81 M18))))) ∧ (¬ (a4 = 0) → 0 ≤ (wr32 ((M5 66 2) - 1)) ∧ (wr32 ((M5 66 2) - 1)) < 1600 ∧ (∃ k9 : Nat, PX12_qGoesOn_162 (fun M10 => 0 ≤ (M10 66 81) ∧ (M10 66 81) < 1700 ∧ (∀ M13 : Mem, M13 = (mset M10 123 (M10 66 81) (if (M5 67 (wr32 ((M5 66 2) - 1))) = 42 then (3 : Int) else 4)) → (∀ M15 : Mem, M15 = (mset M13 66 81 (wr32 ((M13 66 81) + 1))) → Q 1 M15))) Q k9 M5))))) Q k1 M)
set_option maxRecDepth 100000 in
set_option maxHeartbeats 2000000 in
theorem qX12_qGoesOn_0 {E : EV} {h : Int}   {K : Mem → Prop} {Q : Int → Mem → Prop} (hK : ∀ (M : Mem), K M → G h M → TG E miX12_qGoesOn 4 h (RI 0 Q) 122 [(2, 66), (3, 0)] [] M) : ∀ (k : Nat) (M : Mem), PX12_qGoesOn_0  K Q k M → G h M → TG E miX12_qGoesOn 4 h (RI 0 Q) 0 [(2, 66), (3, 0)] [] M := by
  intro k
  induction k with
  | zero =>
    intro M H
    exact False.elim H
  | succ k ih =>
    intro M H hG
    refine T_aload_n (i := 0) (pc' := 1) dX12_qGoesOn_0 rfl rfl rfl ?_
    refine U_gf (v := (0, (M 66 5))) (k := 5) (kI := 5) (pc' := 4) dX12_qGoesOn_1 rfl cl12 (by decide) rfl (by decide) flX12_201 rfl rfl (by decide) rfl rfl ?_
    refine T_if_ne (pc' := 122) dX12_qGoesOn_4 (by decide) (pf := 7) rfl (fun c1 => ?_) (fun c1 => ?_)
    · skip
      replace H := H.2 c1
      exact T_wk (L' := [(2, 66), (3, 0)]) (hK _ H hG) ⟨Or.inr rfl, Or.inl rfl, trivial⟩
    · skip
      replace H := H.1 c1
      refine T_aload_n (i := 0) (pc' := 8) dX12_qGoesOn_7 rfl rfl rfl ?_
      refine T_callV (av := []) (st := []) (d2 := 1) (nc2 := 0) (ns2 := 0) (pc' := 11) dX12_qGoesOn_8 rfl mtX12_look mvX12_look mlX12_213 cl12 rfl rfl rfl (Nat.le_of_ble_eq_true rfl) (by decide) ⟨by decide, by decide⟩ rfl (pX12_look (E := E) (h := h) (M := M) H hG) ?_
      rintro _ _ M3 ⟨rfl, hG4, a2, rfl, H⟩ _
      refine T_bipush (pc' := 13) dX12_qGoesOn_11 rfl (by decide) rfl ?_
      refine T_icmp_ne (pc' := 122) dX12_qGoesOn_13 (by decide) (pf := 16) rfl (fun c5 => ?_) (fun c5 => ?_)
      · skip
        replace H := H.2 c5
        exact T_wk (L' := [(2, 66), (3, 0)]) (hK _ H hG4) ⟨Or.inr rfl, Or.inl rfl, trivial⟩
      · skip
        replace H := H.1 c5
        refine T_aload_n (i := 0) (pc' := 17) dX12_qGoesOn_16 rfl rfl rfl ?_
        refine T_callV (av := []) (st := []) (d2 := 2) (nc2 := 0) (ns2 := 0) (pc' := 20) dX12_qGoesOn_17 rfl mtX12_qBracket mvX12_qBracket mlX12_553 cl12 rfl rfl rfl (Nat.le_of_ble_eq_true rfl) (by decide) ⟨by decide, by decide⟩ rfl (pX12_qBracket (E := E) (h := h) (M := M3) H hG4) ?_
        rintro _ _ M7 ⟨rfl, hG8, a6, rfl, H⟩ _
        refine T_bipush (pc' := 22) dX12_qGoesOn_20 rfl (by decide) rfl ?_
        refine T_icmp_eq (pc' := 43) dX12_qGoesOn_22 (by decide) (pf := 25) rfl (fun c9 => ?_) (fun c9 => ?_)
        · skip
          replace H := H.1 c9
          refine T_aload_n (i := 0) (pc' := 44) dX12_qGoesOn_43 rfl rfl rfl ?_
          refine T_dup (pc' := 45) dX12_qGoesOn_44 (Nat.ne_of_beq_eq_false rfl) rfl ?_
          refine U_gf (v := (0, (M7 66 2))) (k := 2) (kI := 2) (pc' := 48) dX12_qGoesOn_45 rfl cl12 (by decide) rfl (by decide) flX12_207 rfl rfl (by decide) rfl rfl ?_
          refine T_iconst (pc' := 49) dX12_qGoesOn_48 (by decide) rfl ?_
          refine T_iadd (pc' := 50) dX12_qGoesOn_49 rfl ?_
          refine U_pf (y := (wr32 ((M7 66 2) + 1))) (k := 2) (kI := 2) (pc' := 53) dX12_qGoesOn_50 rfl cl12 (by decide) rfl (by decide) flX12_207 rfl rfl rfl rfl rfl (by decide) (fun z => z) rfl ?_
          have hG10 := (G_fld (x := 66) (i := 2) (y := (wr32 ((M7 66 2) + 1))) rfl (by decide) (by decide) (by decide) hG8)
          obtain ⟨M11, eM11⟩ : ∃ m : Mem, m = (mset M7 66 2 (wr32 ((M7 66 2) + 1))) := ⟨_, rfl⟩
          rw [← eM11] at hG10 ⊢
          replace H := H M11 eM11
          refine T_aload_n (i := 0) (pc' := 54) dX12_qGoesOn_53 rfl rfl rfl ?_
          refine T_callV (av := []) (st := []) (d2 := 3) (nc2 := 0) (ns2 := 0) (pc' := 57) dX12_qGoesOn_54 rfl mtX12_qDropsToBracket mvX12_qDropsToBracket mlX12_556 cl12 rfl rfl rfl (Nat.le_of_ble_eq_true rfl) (by decide) ⟨by decide, by decide⟩ rfl (pX12_qDropsToBracket (E := E) (h := h) (M := M11) H hG10) ?_
          rintro _ _ M13 ⟨rfl, hG14, rfl, H⟩ _
          refine T_aload_n (i := 0) (pc' := 58) dX12_qGoesOn_57 rfl rfl rfl ?_
          refine T_dup (pc' := 59) dX12_qGoesOn_58 (Nat.ne_of_beq_eq_false rfl) rfl ?_
          refine U_gf (v := (0, (M13 66 81))) (k := 81) (kI := 81) (pc' := 62) dX12_qGoesOn_59 rfl cl12 (by decide) rfl (by decide) flX12_523 rfl rfl (by decide) rfl rfl ?_
          refine T_iconst (pc' := 63) dX12_qGoesOn_62 (by decide) rfl ?_
          refine T_isub (pc' := 64) dX12_qGoesOn_63 rfl ?_
          refine U_pf (y := (wr32 ((M13 66 81) - 1))) (k := 81) (kI := 81) (pc' := 67) dX12_qGoesOn_64 rfl cl12 (by decide) rfl (by decide) flX12_523 rfl rfl rfl rfl rfl (by decide) (fun z => z) rfl ?_
          have hG15 := (G_fld (x := 66) (i := 81) (y := (wr32 ((M13 66 81) - 1))) rfl (by decide) (by decide) (by decide) hG14)
          obtain ⟨M16, eM16⟩ : ∃ m : Mem, m = (mset M13 66 81 (wr32 ((M13 66 81) - 1))) := ⟨_, rfl⟩
          rw [← eM16] at hG15 ⊢
          replace H := H M16 eM16
          refine T_aload_n (i := 0) (pc' := 68) dX12_qGoesOn_67 rfl rfl rfl ?_
          refine T_dup (pc' := 69) dX12_qGoesOn_68 (Nat.ne_of_beq_eq_false rfl) rfl ?_
          refine U_gf (v := (0, (M16 66 82))) (k := 82) (kI := 82) (pc' := 72) dX12_qGoesOn_69 rfl cl12 (by decide) rfl (by decide) flX12_520 rfl rfl (by decide) rfl rfl ?_
          refine T_iconst (pc' := 73) dX12_qGoesOn_72 (by decide) rfl ?_
          refine T_isub (pc' := 74) dX12_qGoesOn_73 rfl ?_
          refine U_pf (y := (wr32 ((M16 66 82) - 1))) (k := 82) (kI := 82) (pc' := 77) dX12_qGoesOn_74 rfl cl12 (by decide) rfl (by decide) flX12_520 rfl rfl rfl rfl rfl (by decide) (fun z => z) rfl ?_
          have hG17 := (G_fld (x := 66) (i := 82) (y := (wr32 ((M16 66 82) - 1))) rfl (by decide) (by decide) (by decide) hG15)
          obtain ⟨M18, eM18⟩ : ∃ m : Mem, m = (mset M16 66 82 (wr32 ((M16 66 82) - 1))) := ⟨_, rfl⟩
          rw [← eM18] at hG17 ⊢
          replace H := H M18 eM18
          refine T_aload_n (i := 0) (pc' := 78) dX12_qGoesOn_77 rfl rfl rfl ?_
          refine U_gr (q := 123) (k := 80) (kI := 80) (pc' := 81) dX12_qGoesOn_78 rfl cl12 (by decide) rfl (by decide) flX12_189 rfl rfl rfl (G_at hG17 123 rfl) (by decide) rfl ?_
          refine T_aload_n (i := 0) (pc' := 82) dX12_qGoesOn_81 rfl rfl rfl ?_
          refine U_gf (v := (0, (M18 66 81))) (k := 81) (kI := 81) (pc' := 85) dX12_qGoesOn_82 rfl cl12 (by decide) rfl (by decide) flX12_523 rfl rfl (by decide) rfl rfl ?_
          obtain ⟨z1, z2, H⟩ := H
          refine T_iald (pc' := 86) dX12_qGoesOn_85 (by decide) rfl z1 z2 rfl ?_
          refine T_bipush (pc' := 88) dX12_qGoesOn_86 rfl (by decide) rfl ?_
          obtain ⟨j19, hj19, H⟩ := H
          have qj19 : ∀ (M20 : Mem), j19 M20 → G h M20 → TG E miX12_qGoesOn 4 h (RI 0 Q) 115 [(2, 66), (3, 0)] [] M20 := by
            intro M20 H hG21
            replace H := hj19 _ H
            refine T_aload_n (i := 0) (pc' := 116) dX12_qGoesOn_115 rfl rfl rfl ?_
            refine T_callV (av := []) (st := []) (d2 := 3) (nc2 := 0) (ns2 := 0) (pc' := 119) dX12_qGoesOn_116 rfl mtX12_qEndsPart mvX12_qEndsPart mlX12_550 cl12 rfl rfl rfl (Nat.le_of_ble_eq_true rfl) (by decide) ⟨by decide, by decide⟩ rfl (pX12_qEndsPart (E := E) (h := h) (M := M20) H hG21) ?_
            rintro _ _ M23 ⟨rfl, hG24, rfl, H⟩ _
            refine T_goto (pc' := 0) dX12_qGoesOn_119 (by decide) ?_
            exact T_wk (L' := [(2, 66), (3, 0)]) (ih _ H hG24) ⟨Or.inr rfl, Or.inl rfl, trivial⟩
          refine T_icmp_eq (pc' := 115) dX12_qGoesOn_88 (by decide) (pf := 91) rfl (fun c25 => ?_) (fun c25 => ?_)
          · skip
            replace H := H.1 c25
            exact T_wk (L' := [(2, 66), (3, 0)]) (qj19 _ H hG17) ⟨Or.inr rfl, Or.inl rfl, trivial⟩
          · skip
            replace H := H.2 c25
            refine T_aload_n (i := 0) (pc' := 92) dX12_qGoesOn_91 rfl rfl rfl ?_
            refine T_aload_n (i := 0) (pc' := 93) dX12_qGoesOn_92 rfl rfl rfl ?_
            refine U_gr (q := 123) (k := 80) (kI := 80) (pc' := 96) dX12_qGoesOn_93 rfl cl12 (by decide) rfl (by decide) flX12_189 rfl rfl rfl (G_at hG17 123 rfl) (by decide) rfl ?_
            refine T_aload_n (i := 0) (pc' := 97) dX12_qGoesOn_96 rfl rfl rfl ?_
            refine U_gf (v := (0, (M18 66 81))) (k := 81) (kI := 81) (pc' := 100) dX12_qGoesOn_97 rfl cl12 (by decide) rfl (by decide) flX12_523 rfl rfl (by decide) rfl rfl ?_
            obtain ⟨z1, z2, H⟩ := H
            refine T_iald (pc' := 101) dX12_qGoesOn_100 (by decide) rfl z1 z2 rfl ?_
            refine T_bipush (pc' := 103) dX12_qGoesOn_101 rfl (by decide) rfl ?_
            have HJ26 : T E miX12_qGoesOn 4 126 0 0 (fun r S M' => S = S0 ∧ G h M' ∧ RI 0 Q r M') 112 [(2, 66), (3, 0)] [(0, (if (M18 123 (M18 66 81)) = 23 then (5 : Int) else 6)), (2, 66)] S0 M18 0 0 := by
              obtain ⟨z27, H⟩ := H
              refine T_callV (av := [(0, (if (M18 123 (M18 66 81)) = 23 then (5 : Int) else 6))]) (st := []) (d2 := 1) (nc2 := 0) (ns2 := 0) (pc' := 115) dX12_qGoesOn_112 rfl mtX12_qCode mvX12_qCode mlX12_526 cl12 rfl rfl rfl (Nat.le_of_ble_eq_true rfl) (by decide) ⟨by decide, by decide⟩ rfl (pX12_qCode (E := E) (h := h) (M := M18) (v1 := (if (M18 123 (M18 66 81)) = 23 then (5 : Int) else 6)) z27 hG17) (kF (st2 := []) rfl (fun hG28 => ?_))
              obtain ⟨M29, eM29⟩ : ∃ m : Mem, m = (fmX12_qCode M18 (if (M18 123 (M18 66 81)) = 23 then (5 : Int) else 6)) := ⟨_, rfl⟩
              rw [← eM29] at hG28 ⊢
              replace H := H M29 eM29
              exact T_wk (L' := [(2, 66), (3, 0)]) (qj19 _ H hG28) ⟨Or.inr rfl, Or.inl rfl, trivial⟩
            refine T_icmp_ne (pc' := 110) dX12_qGoesOn_103 (by decide) (pf := 106) rfl (fun c30 => ?_) (fun c30 => ?_)
            · skip
              refine T_bipush (pc' := 112) dX12_qGoesOn_110 rfl (by decide) rfl ?_
              exact T_wk (L' := [(2, 66), (3, 0)]) (by have q := HJ26; try simp only [if_neg c30] at q ⊢; exact q) ⟨Or.inr rfl, Or.inl rfl, trivial⟩
            · skip
              refine T_iconst (pc' := 107) dX12_qGoesOn_106 (by decide) rfl ?_
              refine T_goto (pc' := 112) dX12_qGoesOn_107 (by decide) ?_
              exact T_wk (L' := [(2, 66), (3, 0)]) (by have q := HJ26; try simp only [if_pos c30] at q ⊢; exact q) ⟨Or.inr rfl, Or.inl rfl, trivial⟩
        · skip
          replace H := H.2 c9
          refine T_aload_n (i := 0) (pc' := 26) dX12_qGoesOn_25 rfl rfl rfl ?_
          refine T_callV (av := []) (st := []) (d2 := 2) (nc2 := 0) (ns2 := 0) (pc' := 29) dX12_qGoesOn_26 rfl mtX12_qBracket mvX12_qBracket mlX12_553 cl12 rfl rfl rfl (Nat.le_of_ble_eq_true rfl) (by decide) ⟨by decide, by decide⟩ rfl (pX12_qBracket (E := E) (h := h) (M := M7) H hG8) ?_
          rintro _ _ M32 ⟨rfl, hG33, a31, rfl, H⟩ _
          refine T_bipush (pc' := 31) dX12_qGoesOn_29 rfl (by decide) rfl ?_
          refine T_icmp_eq (pc' := 43) dX12_qGoesOn_31 (by decide) (pf := 34) rfl (fun c34 => ?_) (fun c34 => ?_)
          · skip
            replace H := H.1 c34
            refine T_aload_n (i := 0) (pc' := 44) dX12_qGoesOn_43 rfl rfl rfl ?_
            refine T_dup (pc' := 45) dX12_qGoesOn_44 (Nat.ne_of_beq_eq_false rfl) rfl ?_
            refine U_gf (v := (0, (M32 66 2))) (k := 2) (kI := 2) (pc' := 48) dX12_qGoesOn_45 rfl cl12 (by decide) rfl (by decide) flX12_207 rfl rfl (by decide) rfl rfl ?_
            refine T_iconst (pc' := 49) dX12_qGoesOn_48 (by decide) rfl ?_
            refine T_iadd (pc' := 50) dX12_qGoesOn_49 rfl ?_
            refine U_pf (y := (wr32 ((M32 66 2) + 1))) (k := 2) (kI := 2) (pc' := 53) dX12_qGoesOn_50 rfl cl12 (by decide) rfl (by decide) flX12_207 rfl rfl rfl rfl rfl (by decide) (fun z => z) rfl ?_
            have hG35 := (G_fld (x := 66) (i := 2) (y := (wr32 ((M32 66 2) + 1))) rfl (by decide) (by decide) (by decide) hG33)
            obtain ⟨M36, eM36⟩ : ∃ m : Mem, m = (mset M32 66 2 (wr32 ((M32 66 2) + 1))) := ⟨_, rfl⟩
            rw [← eM36] at hG35 ⊢
            replace H := H M36 eM36
            refine T_aload_n (i := 0) (pc' := 54) dX12_qGoesOn_53 rfl rfl rfl ?_
            refine T_callV (av := []) (st := []) (d2 := 3) (nc2 := 0) (ns2 := 0) (pc' := 57) dX12_qGoesOn_54 rfl mtX12_qDropsToBracket mvX12_qDropsToBracket mlX12_556 cl12 rfl rfl rfl (Nat.le_of_ble_eq_true rfl) (by decide) ⟨by decide, by decide⟩ rfl (pX12_qDropsToBracket (E := E) (h := h) (M := M36) H hG35) ?_
            rintro _ _ M38 ⟨rfl, hG39, rfl, H⟩ _
            refine T_aload_n (i := 0) (pc' := 58) dX12_qGoesOn_57 rfl rfl rfl ?_
            refine T_dup (pc' := 59) dX12_qGoesOn_58 (Nat.ne_of_beq_eq_false rfl) rfl ?_
            refine U_gf (v := (0, (M38 66 81))) (k := 81) (kI := 81) (pc' := 62) dX12_qGoesOn_59 rfl cl12 (by decide) rfl (by decide) flX12_523 rfl rfl (by decide) rfl rfl ?_
            refine T_iconst (pc' := 63) dX12_qGoesOn_62 (by decide) rfl ?_
            refine T_isub (pc' := 64) dX12_qGoesOn_63 rfl ?_
            refine U_pf (y := (wr32 ((M38 66 81) - 1))) (k := 81) (kI := 81) (pc' := 67) dX12_qGoesOn_64 rfl cl12 (by decide) rfl (by decide) flX12_523 rfl rfl rfl rfl rfl (by decide) (fun z => z) rfl ?_
            have hG40 := (G_fld (x := 66) (i := 81) (y := (wr32 ((M38 66 81) - 1))) rfl (by decide) (by decide) (by decide) hG39)
            obtain ⟨M41, eM41⟩ : ∃ m : Mem, m = (mset M38 66 81 (wr32 ((M38 66 81) - 1))) := ⟨_, rfl⟩
            rw [← eM41] at hG40 ⊢
            replace H := H M41 eM41
            refine T_aload_n (i := 0) (pc' := 68) dX12_qGoesOn_67 rfl rfl rfl ?_
            refine T_dup (pc' := 69) dX12_qGoesOn_68 (Nat.ne_of_beq_eq_false rfl) rfl ?_
            refine U_gf (v := (0, (M41 66 82))) (k := 82) (kI := 82) (pc' := 72) dX12_qGoesOn_69 rfl cl12 (by decide) rfl (by decide) flX12_520 rfl rfl (by decide) rfl rfl ?_
            refine T_iconst (pc' := 73) dX12_qGoesOn_72 (by decide) rfl ?_
            refine T_isub (pc' := 74) dX12_qGoesOn_73 rfl ?_
            refine U_pf (y := (wr32 ((M41 66 82) - 1))) (k := 82) (kI := 82) (pc' := 77) dX12_qGoesOn_74 rfl cl12 (by decide) rfl (by decide) flX12_520 rfl rfl rfl rfl rfl (by decide) (fun z => z) rfl ?_
            have hG42 := (G_fld (x := 66) (i := 82) (y := (wr32 ((M41 66 82) - 1))) rfl (by decide) (by decide) (by decide) hG40)
            obtain ⟨M43, eM43⟩ : ∃ m : Mem, m = (mset M41 66 82 (wr32 ((M41 66 82) - 1))) := ⟨_, rfl⟩
            rw [← eM43] at hG42 ⊢
            replace H := H M43 eM43
            refine T_aload_n (i := 0) (pc' := 78) dX12_qGoesOn_77 rfl rfl rfl ?_
            refine U_gr (q := 123) (k := 80) (kI := 80) (pc' := 81) dX12_qGoesOn_78 rfl cl12 (by decide) rfl (by decide) flX12_189 rfl rfl rfl (G_at hG42 123 rfl) (by decide) rfl ?_
            refine T_aload_n (i := 0) (pc' := 82) dX12_qGoesOn_81 rfl rfl rfl ?_
            refine U_gf (v := (0, (M43 66 81))) (k := 81) (kI := 81) (pc' := 85) dX12_qGoesOn_82 rfl cl12 (by decide) rfl (by decide) flX12_523 rfl rfl (by decide) rfl rfl ?_
            obtain ⟨z1, z2, H⟩ := H
            refine T_iald (pc' := 86) dX12_qGoesOn_85 (by decide) rfl z1 z2 rfl ?_
            refine T_bipush (pc' := 88) dX12_qGoesOn_86 rfl (by decide) rfl ?_
            obtain ⟨j44, hj44, H⟩ := H
            have qj44 : ∀ (M45 : Mem), j44 M45 → G h M45 → TG E miX12_qGoesOn 4 h (RI 0 Q) 115 [(2, 66), (3, 0)] [] M45 := by
              intro M45 H hG46
              replace H := hj44 _ H
              refine T_aload_n (i := 0) (pc' := 116) dX12_qGoesOn_115 rfl rfl rfl ?_
              refine T_callV (av := []) (st := []) (d2 := 3) (nc2 := 0) (ns2 := 0) (pc' := 119) dX12_qGoesOn_116 rfl mtX12_qEndsPart mvX12_qEndsPart mlX12_550 cl12 rfl rfl rfl (Nat.le_of_ble_eq_true rfl) (by decide) ⟨by decide, by decide⟩ rfl (pX12_qEndsPart (E := E) (h := h) (M := M45) H hG46) ?_
              rintro _ _ M48 ⟨rfl, hG49, rfl, H⟩ _
              refine T_goto (pc' := 0) dX12_qGoesOn_119 (by decide) ?_
              exact T_wk (L' := [(2, 66), (3, 0)]) (ih _ H hG49) ⟨Or.inr rfl, Or.inl rfl, trivial⟩
            refine T_icmp_eq (pc' := 115) dX12_qGoesOn_88 (by decide) (pf := 91) rfl (fun c50 => ?_) (fun c50 => ?_)
            · skip
              replace H := H.1 c50
              exact T_wk (L' := [(2, 66), (3, 0)]) (qj44 _ H hG42) ⟨Or.inr rfl, Or.inl rfl, trivial⟩
            · skip
              replace H := H.2 c50
              refine T_aload_n (i := 0) (pc' := 92) dX12_qGoesOn_91 rfl rfl rfl ?_
              refine T_aload_n (i := 0) (pc' := 93) dX12_qGoesOn_92 rfl rfl rfl ?_
              refine U_gr (q := 123) (k := 80) (kI := 80) (pc' := 96) dX12_qGoesOn_93 rfl cl12 (by decide) rfl (by decide) flX12_189 rfl rfl rfl (G_at hG42 123 rfl) (by decide) rfl ?_
              refine T_aload_n (i := 0) (pc' := 97) dX12_qGoesOn_96 rfl rfl rfl ?_
              refine U_gf (v := (0, (M43 66 81))) (k := 81) (kI := 81) (pc' := 100) dX12_qGoesOn_97 rfl cl12 (by decide) rfl (by decide) flX12_523 rfl rfl (by decide) rfl rfl ?_
              obtain ⟨z1, z2, H⟩ := H
              refine T_iald (pc' := 101) dX12_qGoesOn_100 (by decide) rfl z1 z2 rfl ?_
              refine T_bipush (pc' := 103) dX12_qGoesOn_101 rfl (by decide) rfl ?_
              have HJ51 : T E miX12_qGoesOn 4 126 0 0 (fun r S M' => S = S0 ∧ G h M' ∧ RI 0 Q r M') 112 [(2, 66), (3, 0)] [(0, (if (M43 123 (M43 66 81)) = 23 then (5 : Int) else 6)), (2, 66)] S0 M43 0 0 := by
                obtain ⟨z52, H⟩ := H
                refine T_callV (av := [(0, (if (M43 123 (M43 66 81)) = 23 then (5 : Int) else 6))]) (st := []) (d2 := 1) (nc2 := 0) (ns2 := 0) (pc' := 115) dX12_qGoesOn_112 rfl mtX12_qCode mvX12_qCode mlX12_526 cl12 rfl rfl rfl (Nat.le_of_ble_eq_true rfl) (by decide) ⟨by decide, by decide⟩ rfl (pX12_qCode (E := E) (h := h) (M := M43) (v1 := (if (M43 123 (M43 66 81)) = 23 then (5 : Int) else 6)) z52 hG42) (kF (st2 := []) rfl (fun hG53 => ?_))
                obtain ⟨M54, eM54⟩ : ∃ m : Mem, m = (fmX12_qCode M43 (if (M43 123 (M43 66 81)) = 23 then (5 : Int) else 6)) := ⟨_, rfl⟩
                rw [← eM54] at hG53 ⊢
                replace H := H M54 eM54
                exact T_wk (L' := [(2, 66), (3, 0)]) (qj44 _ H hG53) ⟨Or.inr rfl, Or.inl rfl, trivial⟩
              refine T_icmp_ne (pc' := 110) dX12_qGoesOn_103 (by decide) (pf := 106) rfl (fun c55 => ?_) (fun c55 => ?_)
              · skip
                refine T_bipush (pc' := 112) dX12_qGoesOn_110 rfl (by decide) rfl ?_
                exact T_wk (L' := [(2, 66), (3, 0)]) (by have q := HJ51; try simp only [if_neg c55] at q ⊢; exact q) ⟨Or.inr rfl, Or.inl rfl, trivial⟩
              · skip
                refine T_iconst (pc' := 107) dX12_qGoesOn_106 (by decide) rfl ?_
                refine T_goto (pc' := 112) dX12_qGoesOn_107 (by decide) ?_
                exact T_wk (L' := [(2, 66), (3, 0)]) (by have q := HJ51; try simp only [if_pos c55] at q ⊢; exact q) ⟨Or.inr rfl, Or.inl rfl, trivial⟩
          · skip
            replace H := H.2 c34
            refine T_aload_n (i := 0) (pc' := 35) dX12_qGoesOn_34 rfl rfl rfl ?_
            refine T_callV (av := []) (st := []) (d2 := 2) (nc2 := 0) (ns2 := 0) (pc' := 38) dX12_qGoesOn_35 rfl mtX12_qBracket mvX12_qBracket mlX12_553 cl12 rfl rfl rfl (Nat.le_of_ble_eq_true rfl) (by decide) ⟨by decide, by decide⟩ rfl (pX12_qBracket (E := E) (h := h) (M := M32) H hG33) ?_
            rintro _ _ M57 ⟨rfl, hG58, a56, rfl, H⟩ _
            refine T_bipush (pc' := 40) dX12_qGoesOn_38 rfl (by decide) rfl ?_
            refine T_icmp_ne (pc' := 122) dX12_qGoesOn_40 (by decide) (pf := 43) rfl (fun c59 => ?_) (fun c59 => ?_)
            · skip
              replace H := H.2 c59
              exact T_wk (L' := [(2, 66), (3, 0)]) (hK _ H hG58) ⟨Or.inr rfl, Or.inl rfl, trivial⟩
            · skip
              replace H := H.1 c59
              refine T_aload_n (i := 0) (pc' := 44) dX12_qGoesOn_43 rfl rfl rfl ?_
              refine T_dup (pc' := 45) dX12_qGoesOn_44 (Nat.ne_of_beq_eq_false rfl) rfl ?_
              refine U_gf (v := (0, (M57 66 2))) (k := 2) (kI := 2) (pc' := 48) dX12_qGoesOn_45 rfl cl12 (by decide) rfl (by decide) flX12_207 rfl rfl (by decide) rfl rfl ?_
              refine T_iconst (pc' := 49) dX12_qGoesOn_48 (by decide) rfl ?_
              refine T_iadd (pc' := 50) dX12_qGoesOn_49 rfl ?_
              refine U_pf (y := (wr32 ((M57 66 2) + 1))) (k := 2) (kI := 2) (pc' := 53) dX12_qGoesOn_50 rfl cl12 (by decide) rfl (by decide) flX12_207 rfl rfl rfl rfl rfl (by decide) (fun z => z) rfl ?_
              have hG60 := (G_fld (x := 66) (i := 2) (y := (wr32 ((M57 66 2) + 1))) rfl (by decide) (by decide) (by decide) hG58)
              obtain ⟨M61, eM61⟩ : ∃ m : Mem, m = (mset M57 66 2 (wr32 ((M57 66 2) + 1))) := ⟨_, rfl⟩
              rw [← eM61] at hG60 ⊢
              replace H := H M61 eM61
              refine T_aload_n (i := 0) (pc' := 54) dX12_qGoesOn_53 rfl rfl rfl ?_
              refine T_callV (av := []) (st := []) (d2 := 3) (nc2 := 0) (ns2 := 0) (pc' := 57) dX12_qGoesOn_54 rfl mtX12_qDropsToBracket mvX12_qDropsToBracket mlX12_556 cl12 rfl rfl rfl (Nat.le_of_ble_eq_true rfl) (by decide) ⟨by decide, by decide⟩ rfl (pX12_qDropsToBracket (E := E) (h := h) (M := M61) H hG60) ?_
              rintro _ _ M63 ⟨rfl, hG64, rfl, H⟩ _
              refine T_aload_n (i := 0) (pc' := 58) dX12_qGoesOn_57 rfl rfl rfl ?_
              refine T_dup (pc' := 59) dX12_qGoesOn_58 (Nat.ne_of_beq_eq_false rfl) rfl ?_
              refine U_gf (v := (0, (M63 66 81))) (k := 81) (kI := 81) (pc' := 62) dX12_qGoesOn_59 rfl cl12 (by decide) rfl (by decide) flX12_523 rfl rfl (by decide) rfl rfl ?_
              refine T_iconst (pc' := 63) dX12_qGoesOn_62 (by decide) rfl ?_
              refine T_isub (pc' := 64) dX12_qGoesOn_63 rfl ?_
              refine U_pf (y := (wr32 ((M63 66 81) - 1))) (k := 81) (kI := 81) (pc' := 67) dX12_qGoesOn_64 rfl cl12 (by decide) rfl (by decide) flX12_523 rfl rfl rfl rfl rfl (by decide) (fun z => z) rfl ?_
              have hG65 := (G_fld (x := 66) (i := 81) (y := (wr32 ((M63 66 81) - 1))) rfl (by decide) (by decide) (by decide) hG64)
              obtain ⟨M66, eM66⟩ : ∃ m : Mem, m = (mset M63 66 81 (wr32 ((M63 66 81) - 1))) := ⟨_, rfl⟩
              rw [← eM66] at hG65 ⊢
              replace H := H M66 eM66
              refine T_aload_n (i := 0) (pc' := 68) dX12_qGoesOn_67 rfl rfl rfl ?_
              refine T_dup (pc' := 69) dX12_qGoesOn_68 (Nat.ne_of_beq_eq_false rfl) rfl ?_
              refine U_gf (v := (0, (M66 66 82))) (k := 82) (kI := 82) (pc' := 72) dX12_qGoesOn_69 rfl cl12 (by decide) rfl (by decide) flX12_520 rfl rfl (by decide) rfl rfl ?_
              refine T_iconst (pc' := 73) dX12_qGoesOn_72 (by decide) rfl ?_
              refine T_isub (pc' := 74) dX12_qGoesOn_73 rfl ?_
              refine U_pf (y := (wr32 ((M66 66 82) - 1))) (k := 82) (kI := 82) (pc' := 77) dX12_qGoesOn_74 rfl cl12 (by decide) rfl (by decide) flX12_520 rfl rfl rfl rfl rfl (by decide) (fun z => z) rfl ?_
              have hG67 := (G_fld (x := 66) (i := 82) (y := (wr32 ((M66 66 82) - 1))) rfl (by decide) (by decide) (by decide) hG65)
              obtain ⟨M68, eM68⟩ : ∃ m : Mem, m = (mset M66 66 82 (wr32 ((M66 66 82) - 1))) := ⟨_, rfl⟩
              rw [← eM68] at hG67 ⊢
              replace H := H M68 eM68
              refine T_aload_n (i := 0) (pc' := 78) dX12_qGoesOn_77 rfl rfl rfl ?_
              refine U_gr (q := 123) (k := 80) (kI := 80) (pc' := 81) dX12_qGoesOn_78 rfl cl12 (by decide) rfl (by decide) flX12_189 rfl rfl rfl (G_at hG67 123 rfl) (by decide) rfl ?_
              refine T_aload_n (i := 0) (pc' := 82) dX12_qGoesOn_81 rfl rfl rfl ?_
              refine U_gf (v := (0, (M68 66 81))) (k := 81) (kI := 81) (pc' := 85) dX12_qGoesOn_82 rfl cl12 (by decide) rfl (by decide) flX12_523 rfl rfl (by decide) rfl rfl ?_
              obtain ⟨z1, z2, H⟩ := H
              refine T_iald (pc' := 86) dX12_qGoesOn_85 (by decide) rfl z1 z2 rfl ?_
              refine T_bipush (pc' := 88) dX12_qGoesOn_86 rfl (by decide) rfl ?_
              obtain ⟨j69, hj69, H⟩ := H
              have qj69 : ∀ (M70 : Mem), j69 M70 → G h M70 → TG E miX12_qGoesOn 4 h (RI 0 Q) 115 [(2, 66), (3, 0)] [] M70 := by
                intro M70 H hG71
                replace H := hj69 _ H
                refine T_aload_n (i := 0) (pc' := 116) dX12_qGoesOn_115 rfl rfl rfl ?_
                refine T_callV (av := []) (st := []) (d2 := 3) (nc2 := 0) (ns2 := 0) (pc' := 119) dX12_qGoesOn_116 rfl mtX12_qEndsPart mvX12_qEndsPart mlX12_550 cl12 rfl rfl rfl (Nat.le_of_ble_eq_true rfl) (by decide) ⟨by decide, by decide⟩ rfl (pX12_qEndsPart (E := E) (h := h) (M := M70) H hG71) ?_
                rintro _ _ M73 ⟨rfl, hG74, rfl, H⟩ _
                refine T_goto (pc' := 0) dX12_qGoesOn_119 (by decide) ?_
                exact T_wk (L' := [(2, 66), (3, 0)]) (ih _ H hG74) ⟨Or.inr rfl, Or.inl rfl, trivial⟩
              refine T_icmp_eq (pc' := 115) dX12_qGoesOn_88 (by decide) (pf := 91) rfl (fun c75 => ?_) (fun c75 => ?_)
              · skip
                replace H := H.1 c75
                exact T_wk (L' := [(2, 66), (3, 0)]) (qj69 _ H hG67) ⟨Or.inr rfl, Or.inl rfl, trivial⟩
              · skip
                replace H := H.2 c75
                refine T_aload_n (i := 0) (pc' := 92) dX12_qGoesOn_91 rfl rfl rfl ?_
                refine T_aload_n (i := 0) (pc' := 93) dX12_qGoesOn_92 rfl rfl rfl ?_
                refine U_gr (q := 123) (k := 80) (kI := 80) (pc' := 96) dX12_qGoesOn_93 rfl cl12 (by decide) rfl (by decide) flX12_189 rfl rfl rfl (G_at hG67 123 rfl) (by decide) rfl ?_
                refine T_aload_n (i := 0) (pc' := 97) dX12_qGoesOn_96 rfl rfl rfl ?_
                refine U_gf (v := (0, (M68 66 81))) (k := 81) (kI := 81) (pc' := 100) dX12_qGoesOn_97 rfl cl12 (by decide) rfl (by decide) flX12_523 rfl rfl (by decide) rfl rfl ?_
                obtain ⟨z1, z2, H⟩ := H
                refine T_iald (pc' := 101) dX12_qGoesOn_100 (by decide) rfl z1 z2 rfl ?_
                refine T_bipush (pc' := 103) dX12_qGoesOn_101 rfl (by decide) rfl ?_
                have HJ76 : T E miX12_qGoesOn 4 126 0 0 (fun r S M' => S = S0 ∧ G h M' ∧ RI 0 Q r M') 112 [(2, 66), (3, 0)] [(0, (if (M68 123 (M68 66 81)) = 23 then (5 : Int) else 6)), (2, 66)] S0 M68 0 0 := by
                  obtain ⟨z77, H⟩ := H
                  refine T_callV (av := [(0, (if (M68 123 (M68 66 81)) = 23 then (5 : Int) else 6))]) (st := []) (d2 := 1) (nc2 := 0) (ns2 := 0) (pc' := 115) dX12_qGoesOn_112 rfl mtX12_qCode mvX12_qCode mlX12_526 cl12 rfl rfl rfl (Nat.le_of_ble_eq_true rfl) (by decide) ⟨by decide, by decide⟩ rfl (pX12_qCode (E := E) (h := h) (M := M68) (v1 := (if (M68 123 (M68 66 81)) = 23 then (5 : Int) else 6)) z77 hG67) (kF (st2 := []) rfl (fun hG78 => ?_))
                  obtain ⟨M79, eM79⟩ : ∃ m : Mem, m = (fmX12_qCode M68 (if (M68 123 (M68 66 81)) = 23 then (5 : Int) else 6)) := ⟨_, rfl⟩
                  rw [← eM79] at hG78 ⊢
                  replace H := H M79 eM79
                  exact T_wk (L' := [(2, 66), (3, 0)]) (qj69 _ H hG78) ⟨Or.inr rfl, Or.inl rfl, trivial⟩
                refine T_icmp_ne (pc' := 110) dX12_qGoesOn_103 (by decide) (pf := 106) rfl (fun c80 => ?_) (fun c80 => ?_)
                · skip
                  refine T_bipush (pc' := 112) dX12_qGoesOn_110 rfl (by decide) rfl ?_
                  exact T_wk (L' := [(2, 66), (3, 0)]) (by have q := HJ76; try simp only [if_neg c80] at q ⊢; exact q) ⟨Or.inr rfl, Or.inl rfl, trivial⟩
                · skip
                  refine T_iconst (pc' := 107) dX12_qGoesOn_106 (by decide) rfl ?_
                  refine T_goto (pc' := 112) dX12_qGoesOn_107 (by decide) ?_
                  exact T_wk (L' := [(2, 66), (3, 0)]) (by have q := HJ76; try simp only [if_pos c80] at q ⊢; exact q) ⟨Or.inr rfl, Or.inl rfl, trivial⟩
set_option maxRecDepth 100000 in
set_option maxHeartbeats 2000000 in
theorem qX12_qGoesOn_162 {E : EV} {h : Int} {v1 : Int}  {K : Mem → Prop} {Q : Int → Mem → Prop} (hK : ∀ (M : Mem), K M → G h M → TG E miX12_qGoesOn 4 h (RI 0 Q) 185 [(2, 66), (0, v1)] [] M) : ∀ (k : Nat) (M : Mem), PX12_qGoesOn_162  K Q k M → G h M → TG E miX12_qGoesOn 4 h (RI 0 Q) 162 [(2, 66), (0, v1)] [] M := by
  intro k
  induction k with
  | zero =>
    intro M H
    exact False.elim H
  | succ k ih =>
    intro M H hG
    refine T_aload_n (i := 0) (pc' := 163) dX12_qGoesOn_162 rfl rfl rfl ?_
    refine T_iconst (pc' := 164) dX12_qGoesOn_163 (by decide) rfl ?_
    obtain ⟨z1, H⟩ := H
    refine T_callV (av := [(0, 3)]) (st := []) (d2 := 1) (nc2 := 0) (ns2 := 0) (pc' := 167) dX12_qGoesOn_164 rfl mtX12_qIsOn mvX12_qIsOn mlX12_559 cl12 rfl rfl rfl (Nat.le_of_ble_eq_true rfl) (by decide) ⟨by decide, by decide⟩ rfl (pX12_qIsOn (E := E) (h := h) (M := M) (v1 := 3) z1 hG) (kF (st2 := [(0, (fX12_qIsOn M 3))]) rfl (fun hG2 => ?_))
    obtain ⟨j3, hj3, H⟩ := H
    have qj3 : j3 → G h M → TG E miX12_qGoesOn 4 h (RI 0 Q) 170 [(2, 66), (0, v1)] [] M := by
      intro  H hG4
      replace H := hj3 H
      refine T_aload_n (i := 0) (pc' := 171) dX12_qGoesOn_170 rfl rfl rfl ?_
      refine T_iconst (pc' := 172) dX12_qGoesOn_171 (by decide) rfl ?_
      obtain ⟨z5, H⟩ := H
      refine T_callV (av := [(0, 4)]) (st := []) (d2 := 1) (nc2 := 0) (ns2 := 0) (pc' := 175) dX12_qGoesOn_172 rfl mtX12_qIsOn mvX12_qIsOn mlX12_559 cl12 rfl rfl rfl (Nat.le_of_ble_eq_true rfl) (by decide) ⟨by decide, by decide⟩ rfl (pX12_qIsOn (E := E) (h := h) (M := M) (v1 := 4) z5 hG4) (kF (st2 := [(0, (fX12_qIsOn M 4))]) rfl (fun hG6 => ?_))
      refine T_if_eq (pc' := 185) dX12_qGoesOn_175 (by decide) (pf := 178) rfl (fun c7 => ?_) (fun c7 => ?_)
      · skip
        replace H := H.1 c7
        exact T_wk (L' := [(2, 66), (0, v1)]) (hK _ H hG4) ⟨Or.inr rfl, Or.inr rfl, trivial⟩
      · skip
        replace H := H.2 c7
        refine T_aload_n (i := 0) (pc' := 179) dX12_qGoesOn_178 rfl rfl rfl ?_
        obtain ⟨z8, H⟩ := H
        refine T_callV (av := []) (st := []) (d2 := 2) (nc2 := 0) (ns2 := 0) (pc' := 182) dX12_qGoesOn_179 rfl mtX12_qDrops mvX12_qDrops mlX12_535 cl12 rfl rfl rfl (Nat.le_of_ble_eq_true rfl) (by decide) ⟨by decide, by decide⟩ rfl (pX12_qDrops (E := E) (h := h) (M := M) z8 hG4) (kF (st2 := []) rfl (fun hG9 => ?_))
        obtain ⟨M10, eM10⟩ : ∃ m : Mem, m = (fmX12_qDrops M) := ⟨_, rfl⟩
        rw [← eM10] at hG9 ⊢
        replace H := H M10 eM10
        refine T_goto (pc' := 162) dX12_qGoesOn_182 (by decide) ?_
        exact T_wk (L' := [(2, 66), (0, v1)]) (ih _ H hG9) ⟨Or.inr rfl, Or.inr rfl, trivial⟩
    refine T_if_ne (pc' := 178) dX12_qGoesOn_167 (by decide) (pf := 170) rfl (fun c11 => ?_) (fun c11 => ?_)
    · skip
      replace H := H.2 c11
      refine T_aload_n (i := 0) (pc' := 179) dX12_qGoesOn_178 rfl rfl rfl ?_
      obtain ⟨z12, H⟩ := H
      refine T_callV (av := []) (st := []) (d2 := 2) (nc2 := 0) (ns2 := 0) (pc' := 182) dX12_qGoesOn_179 rfl mtX12_qDrops mvX12_qDrops mlX12_535 cl12 rfl rfl rfl (Nat.le_of_ble_eq_true rfl) (by decide) ⟨by decide, by decide⟩ rfl (pX12_qDrops (E := E) (h := h) (M := M) z12 hG) (kF (st2 := []) rfl (fun hG13 => ?_))
      obtain ⟨M14, eM14⟩ : ∃ m : Mem, m = (fmX12_qDrops M) := ⟨_, rfl⟩
      rw [← eM14] at hG13 ⊢
      replace H := H M14 eM14
      refine T_goto (pc' := 162) dX12_qGoesOn_182 (by decide) ?_
      exact T_wk (L' := [(2, 66), (0, v1)]) (ih _ H hG13) ⟨Or.inr rfl, Or.inr rfl, trivial⟩
    · skip
      replace H := H.1 c11
      exact T_wk (L' := [(2, 66), (0, v1)]) (qj3 H hG) ⟨Or.inr rfl, Or.inr rfl, trivial⟩
set_option maxRecDepth 100000 in
set_option maxHeartbeats 2000000 in
theorem qX12_qGoesOn_247 {E : EV} {h : Int} {v1 : Int}  {K : Mem → Prop} {Q : Int → Mem → Prop} (hK : ∀ (M : Mem), K M → G h M → TG E miX12_qGoesOn 4 h (RI 0 Q) 286 [(2, 66), (0, v1)] [] M) : ∀ (k : Nat) (M : Mem), PX12_qGoesOn_247  K Q k M → G h M → TG E miX12_qGoesOn 4 h (RI 0 Q) 247 [(2, 66), (0, v1)] [] M := by
  intro k
  induction k with
  | zero =>
    intro M H
    exact False.elim H
  | succ k ih =>
    intro M H hG
    refine T_aload_n (i := 0) (pc' := 248) dX12_qGoesOn_247 rfl rfl rfl ?_
    refine T_iconst (pc' := 249) dX12_qGoesOn_248 (by decide) rfl ?_
    obtain ⟨z1, H⟩ := H
    refine T_callV (av := [(0, 3)]) (st := []) (d2 := 1) (nc2 := 0) (ns2 := 0) (pc' := 252) dX12_qGoesOn_249 rfl mtX12_qIsOn mvX12_qIsOn mlX12_559 cl12 rfl rfl rfl (Nat.le_of_ble_eq_true rfl) (by decide) ⟨by decide, by decide⟩ rfl (pX12_qIsOn (E := E) (h := h) (M := M) (v1 := 3) z1 hG) (kF (st2 := [(0, (fX12_qIsOn M 3))]) rfl (fun hG2 => ?_))
    obtain ⟨j3, hj3, H⟩ := H
    have qj3 : j3 → G h M → TG E miX12_qGoesOn 4 h (RI 0 Q) 255 [(2, 66), (0, v1)] [] M := by
      intro  H hG4
      replace H := hj3 H
      refine T_aload_n (i := 0) (pc' := 256) dX12_qGoesOn_255 rfl rfl rfl ?_
      refine T_iconst (pc' := 257) dX12_qGoesOn_256 (by decide) rfl ?_
      obtain ⟨z5, H⟩ := H
      refine T_callV (av := [(0, 4)]) (st := []) (d2 := 1) (nc2 := 0) (ns2 := 0) (pc' := 260) dX12_qGoesOn_257 rfl mtX12_qIsOn mvX12_qIsOn mlX12_559 cl12 rfl rfl rfl (Nat.le_of_ble_eq_true rfl) (by decide) ⟨by decide, by decide⟩ rfl (pX12_qIsOn (E := E) (h := h) (M := M) (v1 := 4) z5 hG4) (kF (st2 := [(0, (fX12_qIsOn M 4))]) rfl (fun hG6 => ?_))
      obtain ⟨j7, hj7, H⟩ := H
      have qj7 : j7 → G h M → TG E miX12_qGoesOn 4 h (RI 0 Q) 263 [(2, 66), (0, v1)] [] M := by
        intro  H hG8
        replace H := hj7 H
        refine T_aload_n (i := 0) (pc' := 264) dX12_qGoesOn_263 rfl rfl rfl ?_
        refine T_iconst (pc' := 265) dX12_qGoesOn_264 (by decide) rfl ?_
        obtain ⟨z9, H⟩ := H
        refine T_callV (av := [(0, 1)]) (st := []) (d2 := 1) (nc2 := 0) (ns2 := 0) (pc' := 268) dX12_qGoesOn_265 rfl mtX12_qIsOn mvX12_qIsOn mlX12_559 cl12 rfl rfl rfl (Nat.le_of_ble_eq_true rfl) (by decide) ⟨by decide, by decide⟩ rfl (pX12_qIsOn (E := E) (h := h) (M := M) (v1 := 1) z9 hG8) (kF (st2 := [(0, (fX12_qIsOn M 1))]) rfl (fun hG10 => ?_))
        obtain ⟨j11, hj11, H⟩ := H
        have qj11 : j11 → G h M → TG E miX12_qGoesOn 4 h (RI 0 Q) 271 [(2, 66), (0, v1)] [] M := by
          intro  H hG12
          replace H := hj11 H
          refine T_aload_n (i := 0) (pc' := 272) dX12_qGoesOn_271 rfl rfl rfl ?_
          refine T_iconst (pc' := 273) dX12_qGoesOn_272 (by decide) rfl ?_
          obtain ⟨z13, H⟩ := H
          refine T_callV (av := [(0, 2)]) (st := []) (d2 := 1) (nc2 := 0) (ns2 := 0) (pc' := 276) dX12_qGoesOn_273 rfl mtX12_qIsOn mvX12_qIsOn mlX12_559 cl12 rfl rfl rfl (Nat.le_of_ble_eq_true rfl) (by decide) ⟨by decide, by decide⟩ rfl (pX12_qIsOn (E := E) (h := h) (M := M) (v1 := 2) z13 hG12) (kF (st2 := [(0, (fX12_qIsOn M 2))]) rfl (fun hG14 => ?_))
          refine T_if_eq (pc' := 286) dX12_qGoesOn_276 (by decide) (pf := 279) rfl (fun c15 => ?_) (fun c15 => ?_)
          · skip
            replace H := H.1 c15
            exact T_wk (L' := [(2, 66), (0, v1)]) (hK _ H hG12) ⟨Or.inr rfl, Or.inr rfl, trivial⟩
          · skip
            replace H := H.2 c15
            refine T_aload_n (i := 0) (pc' := 280) dX12_qGoesOn_279 rfl rfl rfl ?_
            obtain ⟨z16, H⟩ := H
            refine T_callV (av := []) (st := []) (d2 := 2) (nc2 := 0) (ns2 := 0) (pc' := 283) dX12_qGoesOn_280 rfl mtX12_qDrops mvX12_qDrops mlX12_535 cl12 rfl rfl rfl (Nat.le_of_ble_eq_true rfl) (by decide) ⟨by decide, by decide⟩ rfl (pX12_qDrops (E := E) (h := h) (M := M) z16 hG12) (kF (st2 := []) rfl (fun hG17 => ?_))
            obtain ⟨M18, eM18⟩ : ∃ m : Mem, m = (fmX12_qDrops M) := ⟨_, rfl⟩
            rw [← eM18] at hG17 ⊢
            replace H := H M18 eM18
            refine T_goto (pc' := 247) dX12_qGoesOn_283 (by decide) ?_
            exact T_wk (L' := [(2, 66), (0, v1)]) (ih _ H hG17) ⟨Or.inr rfl, Or.inr rfl, trivial⟩
        refine T_if_ne (pc' := 279) dX12_qGoesOn_268 (by decide) (pf := 271) rfl (fun c19 => ?_) (fun c19 => ?_)
        · skip
          replace H := H.2 c19
          refine T_aload_n (i := 0) (pc' := 280) dX12_qGoesOn_279 rfl rfl rfl ?_
          obtain ⟨z20, H⟩ := H
          refine T_callV (av := []) (st := []) (d2 := 2) (nc2 := 0) (ns2 := 0) (pc' := 283) dX12_qGoesOn_280 rfl mtX12_qDrops mvX12_qDrops mlX12_535 cl12 rfl rfl rfl (Nat.le_of_ble_eq_true rfl) (by decide) ⟨by decide, by decide⟩ rfl (pX12_qDrops (E := E) (h := h) (M := M) z20 hG8) (kF (st2 := []) rfl (fun hG21 => ?_))
          obtain ⟨M22, eM22⟩ : ∃ m : Mem, m = (fmX12_qDrops M) := ⟨_, rfl⟩
          rw [← eM22] at hG21 ⊢
          replace H := H M22 eM22
          refine T_goto (pc' := 247) dX12_qGoesOn_283 (by decide) ?_
          exact T_wk (L' := [(2, 66), (0, v1)]) (ih _ H hG21) ⟨Or.inr rfl, Or.inr rfl, trivial⟩
        · skip
          replace H := H.1 c19
          exact T_wk (L' := [(2, 66), (0, v1)]) (qj11 H hG8) ⟨Or.inr rfl, Or.inr rfl, trivial⟩
      refine T_if_ne (pc' := 279) dX12_qGoesOn_260 (by decide) (pf := 263) rfl (fun c23 => ?_) (fun c23 => ?_)
      · skip
        replace H := H.2 c23
        refine T_aload_n (i := 0) (pc' := 280) dX12_qGoesOn_279 rfl rfl rfl ?_
        obtain ⟨z24, H⟩ := H
        refine T_callV (av := []) (st := []) (d2 := 2) (nc2 := 0) (ns2 := 0) (pc' := 283) dX12_qGoesOn_280 rfl mtX12_qDrops mvX12_qDrops mlX12_535 cl12 rfl rfl rfl (Nat.le_of_ble_eq_true rfl) (by decide) ⟨by decide, by decide⟩ rfl (pX12_qDrops (E := E) (h := h) (M := M) z24 hG4) (kF (st2 := []) rfl (fun hG25 => ?_))
        obtain ⟨M26, eM26⟩ : ∃ m : Mem, m = (fmX12_qDrops M) := ⟨_, rfl⟩
        rw [← eM26] at hG25 ⊢
        replace H := H M26 eM26
        refine T_goto (pc' := 247) dX12_qGoesOn_283 (by decide) ?_
        exact T_wk (L' := [(2, 66), (0, v1)]) (ih _ H hG25) ⟨Or.inr rfl, Or.inr rfl, trivial⟩
      · skip
        replace H := H.1 c23
        exact T_wk (L' := [(2, 66), (0, v1)]) (qj7 H hG4) ⟨Or.inr rfl, Or.inr rfl, trivial⟩
    refine T_if_ne (pc' := 279) dX12_qGoesOn_252 (by decide) (pf := 255) rfl (fun c27 => ?_) (fun c27 => ?_)
    · skip
      replace H := H.2 c27
      refine T_aload_n (i := 0) (pc' := 280) dX12_qGoesOn_279 rfl rfl rfl ?_
      obtain ⟨z28, H⟩ := H
      refine T_callV (av := []) (st := []) (d2 := 2) (nc2 := 0) (ns2 := 0) (pc' := 283) dX12_qGoesOn_280 rfl mtX12_qDrops mvX12_qDrops mlX12_535 cl12 rfl rfl rfl (Nat.le_of_ble_eq_true rfl) (by decide) ⟨by decide, by decide⟩ rfl (pX12_qDrops (E := E) (h := h) (M := M) z28 hG) (kF (st2 := []) rfl (fun hG29 => ?_))
      obtain ⟨M30, eM30⟩ : ∃ m : Mem, m = (fmX12_qDrops M) := ⟨_, rfl⟩
      rw [← eM30] at hG29 ⊢
      replace H := H M30 eM30
      refine T_goto (pc' := 247) dX12_qGoesOn_283 (by decide) ?_
      exact T_wk (L' := [(2, 66), (0, v1)]) (ih _ H hG29) ⟨Or.inr rfl, Or.inr rfl, trivial⟩
    · skip
      replace H := H.1 c27
      exact T_wk (L' := [(2, 66), (0, v1)]) (qj3 H hG) ⟨Or.inr rfl, Or.inr rfl, trivial⟩
set_option maxRecDepth 100000 in
set_option maxHeartbeats 2000000 in
theorem pX12_qGoesOn {E : EV} {h : Int} {M : Mem}   {Q : Int → Mem → Prop} (H : PX12_qGoesOn  M Q) : C2 E miX12_qGoesOn 4 h [(2, 66)] M (RI 0 Q) := by
  refine C2_of (L := [(2, 66), (3, 0)]) (by decide +kernel) (Nat.le_of_ble_eq_true rfl) rfl (fun hG => ?_)
  obtain ⟨k1, H⟩ := H
  refine T_wk (L' := [(2, 66), (3, 0)]) (qX12_qGoesOn_0  (fun M2 H hG3 => ?_) _ _ H hG) ⟨Or.inr rfl, Or.inl rfl, trivial⟩
  refine T_aload_n (i := 0) (pc' := 123) dX12_qGoesOn_122 rfl rfl rfl ?_
  refine T_bipush (pc' := 125) dX12_qGoesOn_123 rfl (by decide) rfl ?_
  refine T_callV (av := [(0, 42)]) (st := []) (d2 := 2) (nc2 := 0) (ns2 := 0) (pc' := 128) dX12_qGoesOn_125 rfl mtX12_takesSign mvX12_takesSign mlX12_235 cl12 rfl rfl rfl (Nat.le_of_ble_eq_true rfl) (by decide) ⟨by decide, by decide⟩ rfl (pX12_takesSign (E := E) (h := h) (M := M2) (v1 := 42) H hG3) ?_
  rintro _ _ M5 ⟨rfl, hG6, a4, rfl, H⟩ _
  refine T_if_ne (pc' := 140) dX12_qGoesOn_128 (by decide) (pf := 131) rfl (fun c7 => ?_) (fun c7 => ?_)
  · skip
    replace H := H.2 c7
    refine T_aload_n (i := 0) (pc' := 141) dX12_qGoesOn_140 rfl rfl rfl ?_
    refine U_gr (q := 67) (k := 0) (kI := 0) (pc' := 144) dX12_qGoesOn_141 rfl cl12 (by decide) rfl (by decide) flX12_7 rfl rfl rfl (G_at hG6 67 rfl) (by decide) rfl ?_
    refine T_aload_n (i := 0) (pc' := 145) dX12_qGoesOn_144 rfl rfl rfl ?_
    refine U_gf (v := (0, (M5 66 2))) (k := 2) (kI := 2) (pc' := 148) dX12_qGoesOn_145 rfl cl12 (by decide) rfl (by decide) flX12_207 rfl rfl (by decide) rfl rfl ?_
    refine T_iconst (pc' := 149) dX12_qGoesOn_148 (by decide) rfl ?_
    refine T_isub (pc' := 150) dX12_qGoesOn_149 rfl ?_
    obtain ⟨z1, z2, H⟩ := H
    refine T_iald (pc' := 151) dX12_qGoesOn_150 (by decide) rfl z1 z2 rfl ?_
    refine T_bipush (pc' := 153) dX12_qGoesOn_151 rfl (by decide) rfl ?_
    have HJ8 : T E miX12_qGoesOn 4 126 0 0 (fun r S M' => S = S0 ∧ G h M' ∧ RI 0 Q r M') 161 [(2, 66), (3, 0)] [(0, (if (M5 67 (wr32 ((M5 66 2) - 1))) = 42 then (3 : Int) else 4))] S0 M5 0 0 := by
      refine T_istore_n (i := 1) (L' := [(2, 66), (0, (if (M5 67 (wr32 ((M5 66 2) - 1))) = 42 then (3 : Int) else 4))]) (pc' := 162) dX12_qGoesOn_161 rfl (by decide) rfl rfl ?_
      obtain ⟨k9, H⟩ := H
      refine T_wk (L' := [(2, 66), (0, (if (M5 67 (wr32 ((M5 66 2) - 1))) = 42 then (3 : Int) else 4))]) (qX12_qGoesOn_162 (v1 := (if (M5 67 (wr32 ((M5 66 2) - 1))) = 42 then (3 : Int) else 4)) (fun M10 H hG11 => ?_) _ _ H hG6) ⟨Or.inr rfl, Or.inr rfl, trivial⟩
      refine T_aload_n (i := 0) (pc' := 186) dX12_qGoesOn_185 rfl rfl rfl ?_
      refine U_gr (q := 123) (k := 80) (kI := 80) (pc' := 189) dX12_qGoesOn_186 rfl cl12 (by decide) rfl (by decide) flX12_189 rfl rfl rfl (G_at hG11 123 rfl) (by decide) rfl ?_
      refine T_aload_n (i := 0) (pc' := 190) dX12_qGoesOn_189 rfl rfl rfl ?_
      refine U_gf (v := (0, (M10 66 81))) (k := 81) (kI := 81) (pc' := 193) dX12_qGoesOn_190 rfl cl12 (by decide) rfl (by decide) flX12_523 rfl rfl (by decide) rfl rfl ?_
      refine T_iload_n (i := 1) (pc' := 194) dX12_qGoesOn_193 rfl rfl rfl ?_
      obtain ⟨z1, z2, H⟩ := H
      refine T_iast (pc' := 195) dX12_qGoesOn_194 (by decide) rfl z1 z2 rfl ?_
      have hG12 := (G_arr (x := 123) (i := (M10 66 81)) (y := (if (M5 67 (wr32 ((M5 66 2) - 1))) = 42 then (3 : Int) else 4)) rfl (by decide) hG11)
      obtain ⟨M13, eM13⟩ : ∃ m : Mem, m = (mset M10 123 (M10 66 81) (if (M5 67 (wr32 ((M5 66 2) - 1))) = 42 then (3 : Int) else 4)) := ⟨_, rfl⟩
      rw [← eM13] at hG12 ⊢
      replace H := H M13 eM13
      refine T_aload_n (i := 0) (pc' := 196) dX12_qGoesOn_195 rfl rfl rfl ?_
      refine T_dup (pc' := 197) dX12_qGoesOn_196 (Nat.ne_of_beq_eq_false rfl) rfl ?_
      refine U_gf (v := (0, (M13 66 81))) (k := 81) (kI := 81) (pc' := 200) dX12_qGoesOn_197 rfl cl12 (by decide) rfl (by decide) flX12_523 rfl rfl (by decide) rfl rfl ?_
      refine T_iconst (pc' := 201) dX12_qGoesOn_200 (by decide) rfl ?_
      refine T_iadd (pc' := 202) dX12_qGoesOn_201 rfl ?_
      refine U_pf (y := (wr32 ((M13 66 81) + 1))) (k := 81) (kI := 81) (pc' := 205) dX12_qGoesOn_202 rfl cl12 (by decide) rfl (by decide) flX12_523 rfl rfl rfl rfl rfl (by decide) (fun z => z) rfl ?_
      have hG14 := (G_fld (x := 66) (i := 81) (y := (wr32 ((M13 66 81) + 1))) rfl (by decide) (by decide) (by decide) hG12)
      obtain ⟨M15, eM15⟩ : ∃ m : Mem, m = (mset M13 66 81 (wr32 ((M13 66 81) + 1))) := ⟨_, rfl⟩
      rw [← eM15] at hG14 ⊢
      replace H := H M15 eM15
      refine T_iconst (pc' := 206) dX12_qGoesOn_205 (by decide) rfl ?_
      exact T_zret dX12_qGoesOn_206 rfl (by decide) ⟨rfl, hG14, _, rfl, H⟩
    refine T_icmp_ne (pc' := 160) dX12_qGoesOn_153 (by decide) (pf := 156) rfl (fun c16 => ?_) (fun c16 => ?_)
    · skip
      refine T_iconst (pc' := 161) dX12_qGoesOn_160 (by decide) rfl ?_
      exact T_wk (L' := [(2, 66), (3, 0)]) (by have q := HJ8; try simp only [if_neg c16] at q ⊢; exact q) ⟨Or.inr rfl, Or.inl rfl, trivial⟩
    · skip
      refine T_iconst (pc' := 157) dX12_qGoesOn_156 (by decide) rfl ?_
      refine T_goto (pc' := 161) dX12_qGoesOn_157 (by decide) ?_
      exact T_wk (L' := [(2, 66), (3, 0)]) (by have q := HJ8; try simp only [if_pos c16] at q ⊢; exact q) ⟨Or.inr rfl, Or.inl rfl, trivial⟩
  · skip
    replace H := H.1 c7
    refine T_aload_n (i := 0) (pc' := 132) dX12_qGoesOn_131 rfl rfl rfl ?_
    refine T_bipush (pc' := 134) dX12_qGoesOn_132 rfl (by decide) rfl ?_
    refine T_callV (av := [(0, 47)]) (st := []) (d2 := 2) (nc2 := 0) (ns2 := 0) (pc' := 137) dX12_qGoesOn_134 rfl mtX12_takesSign mvX12_takesSign mlX12_235 cl12 rfl rfl rfl (Nat.le_of_ble_eq_true rfl) (by decide) ⟨by decide, by decide⟩ rfl (pX12_takesSign (E := E) (h := h) (M := M5) (v1 := 47) H hG6) ?_
    rintro _ _ M18 ⟨rfl, hG19, a17, rfl, H⟩ _
    refine T_if_eq (pc' := 207) dX12_qGoesOn_137 (by decide) (pf := 140) rfl (fun c20 => ?_) (fun c20 => ?_)
    · skip
      replace H := H.1 c20
      refine T_aload_n (i := 0) (pc' := 208) dX12_qGoesOn_207 rfl rfl rfl ?_
      refine T_bipush (pc' := 210) dX12_qGoesOn_208 rfl (by decide) rfl ?_
      refine T_callV (av := [(0, 43)]) (st := []) (d2 := 2) (nc2 := 0) (ns2 := 0) (pc' := 213) dX12_qGoesOn_210 rfl mtX12_takesSign mvX12_takesSign mlX12_235 cl12 rfl rfl rfl (Nat.le_of_ble_eq_true rfl) (by decide) ⟨by decide, by decide⟩ rfl (pX12_takesSign (E := E) (h := h) (M := M18) (v1 := 43) H hG19) ?_
      rintro _ _ M22 ⟨rfl, hG23, a21, rfl, H⟩ _
      refine T_if_ne (pc' := 225) dX12_qGoesOn_213 (by decide) (pf := 216) rfl (fun c24 => ?_) (fun c24 => ?_)
      · skip
        replace H := H.2 c24
        refine T_aload_n (i := 0) (pc' := 226) dX12_qGoesOn_225 rfl rfl rfl ?_
        refine U_gr (q := 67) (k := 0) (kI := 0) (pc' := 229) dX12_qGoesOn_226 rfl cl12 (by decide) rfl (by decide) flX12_7 rfl rfl rfl (G_at hG23 67 rfl) (by decide) rfl ?_
        refine T_aload_n (i := 0) (pc' := 230) dX12_qGoesOn_229 rfl rfl rfl ?_
        refine U_gf (v := (0, (M22 66 2))) (k := 2) (kI := 2) (pc' := 233) dX12_qGoesOn_230 rfl cl12 (by decide) rfl (by decide) flX12_207 rfl rfl (by decide) rfl rfl ?_
        refine T_iconst (pc' := 234) dX12_qGoesOn_233 (by decide) rfl ?_
        refine T_isub (pc' := 235) dX12_qGoesOn_234 rfl ?_
        obtain ⟨z1, z2, H⟩ := H
        refine T_iald (pc' := 236) dX12_qGoesOn_235 (by decide) rfl z1 z2 rfl ?_
        refine T_bipush (pc' := 238) dX12_qGoesOn_236 rfl (by decide) rfl ?_
        have HJ25 : T E miX12_qGoesOn 4 126 0 0 (fun r S M' => S = S0 ∧ G h M' ∧ RI 0 Q r M') 246 [(2, 66), (3, 0)] [(0, (if (M22 67 (wr32 ((M22 66 2) - 1))) = 43 then (1 : Int) else 2))] S0 M22 0 0 := by
          refine T_istore_n (i := 1) (L' := [(2, 66), (0, (if (M22 67 (wr32 ((M22 66 2) - 1))) = 43 then (1 : Int) else 2))]) (pc' := 247) dX12_qGoesOn_246 rfl (by decide) rfl rfl ?_
          obtain ⟨k26, H⟩ := H
          refine T_wk (L' := [(2, 66), (0, (if (M22 67 (wr32 ((M22 66 2) - 1))) = 43 then (1 : Int) else 2))]) (qX12_qGoesOn_247 (v1 := (if (M22 67 (wr32 ((M22 66 2) - 1))) = 43 then (1 : Int) else 2)) (fun M27 H hG28 => ?_) _ _ H hG23) ⟨Or.inr rfl, Or.inr rfl, trivial⟩
          refine T_aload_n (i := 0) (pc' := 287) dX12_qGoesOn_286 rfl rfl rfl ?_
          refine U_gr (q := 123) (k := 80) (kI := 80) (pc' := 290) dX12_qGoesOn_287 rfl cl12 (by decide) rfl (by decide) flX12_189 rfl rfl rfl (G_at hG28 123 rfl) (by decide) rfl ?_
          refine T_aload_n (i := 0) (pc' := 291) dX12_qGoesOn_290 rfl rfl rfl ?_
          refine U_gf (v := (0, (M27 66 81))) (k := 81) (kI := 81) (pc' := 294) dX12_qGoesOn_291 rfl cl12 (by decide) rfl (by decide) flX12_523 rfl rfl (by decide) rfl rfl ?_
          refine T_iload_n (i := 1) (pc' := 295) dX12_qGoesOn_294 rfl rfl rfl ?_
          obtain ⟨z1, z2, H⟩ := H
          refine T_iast (pc' := 296) dX12_qGoesOn_295 (by decide) rfl z1 z2 rfl ?_
          have hG29 := (G_arr (x := 123) (i := (M27 66 81)) (y := (if (M22 67 (wr32 ((M22 66 2) - 1))) = 43 then (1 : Int) else 2)) rfl (by decide) hG28)
          obtain ⟨M30, eM30⟩ : ∃ m : Mem, m = (mset M27 123 (M27 66 81) (if (M22 67 (wr32 ((M22 66 2) - 1))) = 43 then (1 : Int) else 2)) := ⟨_, rfl⟩
          rw [← eM30] at hG29 ⊢
          replace H := H M30 eM30
          refine T_aload_n (i := 0) (pc' := 297) dX12_qGoesOn_296 rfl rfl rfl ?_
          refine T_dup (pc' := 298) dX12_qGoesOn_297 (Nat.ne_of_beq_eq_false rfl) rfl ?_
          refine U_gf (v := (0, (M30 66 81))) (k := 81) (kI := 81) (pc' := 301) dX12_qGoesOn_298 rfl cl12 (by decide) rfl (by decide) flX12_523 rfl rfl (by decide) rfl rfl ?_
          refine T_iconst (pc' := 302) dX12_qGoesOn_301 (by decide) rfl ?_
          refine T_iadd (pc' := 303) dX12_qGoesOn_302 rfl ?_
          refine U_pf (y := (wr32 ((M30 66 81) + 1))) (k := 81) (kI := 81) (pc' := 306) dX12_qGoesOn_303 rfl cl12 (by decide) rfl (by decide) flX12_523 rfl rfl rfl rfl rfl (by decide) (fun z => z) rfl ?_
          have hG31 := (G_fld (x := 66) (i := 81) (y := (wr32 ((M30 66 81) + 1))) rfl (by decide) (by decide) (by decide) hG29)
          obtain ⟨M32, eM32⟩ : ∃ m : Mem, m = (mset M30 66 81 (wr32 ((M30 66 81) + 1))) := ⟨_, rfl⟩
          rw [← eM32] at hG31 ⊢
          replace H := H M32 eM32
          refine T_iconst (pc' := 307) dX12_qGoesOn_306 (by decide) rfl ?_
          exact T_zret dX12_qGoesOn_307 rfl (by decide) ⟨rfl, hG31, _, rfl, H⟩
        refine T_icmp_ne (pc' := 245) dX12_qGoesOn_238 (by decide) (pf := 241) rfl (fun c33 => ?_) (fun c33 => ?_)
        · skip
          refine T_iconst (pc' := 246) dX12_qGoesOn_245 (by decide) rfl ?_
          exact T_wk (L' := [(2, 66), (3, 0)]) (by have q := HJ25; try simp only [if_neg c33] at q ⊢; exact q) ⟨Or.inr rfl, Or.inl rfl, trivial⟩
        · skip
          refine T_iconst (pc' := 242) dX12_qGoesOn_241 (by decide) rfl ?_
          refine T_goto (pc' := 246) dX12_qGoesOn_242 (by decide) ?_
          exact T_wk (L' := [(2, 66), (3, 0)]) (by have q := HJ25; try simp only [if_pos c33] at q ⊢; exact q) ⟨Or.inr rfl, Or.inl rfl, trivial⟩
      · skip
        replace H := H.1 c24
        refine T_aload_n (i := 0) (pc' := 217) dX12_qGoesOn_216 rfl rfl rfl ?_
        refine T_bipush (pc' := 219) dX12_qGoesOn_217 rfl (by decide) rfl ?_
        refine T_callV (av := [(0, 45)]) (st := []) (d2 := 2) (nc2 := 0) (ns2 := 0) (pc' := 222) dX12_qGoesOn_219 rfl mtX12_takesSign mvX12_takesSign mlX12_235 cl12 rfl rfl rfl (Nat.le_of_ble_eq_true rfl) (by decide) ⟨by decide, by decide⟩ rfl (pX12_takesSign (E := E) (h := h) (M := M22) (v1 := 45) H hG23) ?_
        rintro _ _ M35 ⟨rfl, hG36, a34, rfl, H⟩ _
        refine T_if_eq (pc' := 308) dX12_qGoesOn_222 (by decide) (pf := 225) rfl (fun c37 => ?_) (fun c37 => ?_)
        · skip
          replace H := H.1 c37
          refine T_aload_n (i := 0) (pc' := 309) dX12_qGoesOn_308 rfl rfl rfl ?_
          refine T_callV (av := []) (st := []) (d2 := 2) (nc2 := 0) (ns2 := 0) (pc' := 312) dX12_qGoesOn_309 rfl mtX12_qBracket mvX12_qBracket mlX12_553 cl12 rfl rfl rfl (Nat.le_of_ble_eq_true rfl) (by decide) ⟨by decide, by decide⟩ rfl (pX12_qBracket (E := E) (h := h) (M := M35) H hG36) ?_
          rintro _ _ M39 ⟨rfl, hG40, a38, rfl, H⟩ _
          refine T_bipush (pc' := 314) dX12_qGoesOn_312 rfl (by decide) rfl ?_
          refine T_icmp_eq (pc' := 326) dX12_qGoesOn_314 (by decide) (pf := 317) rfl (fun c41 => ?_) (fun c41 => ?_)
          · skip
            replace H := H.1 c41
            refine T_aload_n (i := 0) (pc' := 327) dX12_qGoesOn_326 rfl rfl rfl ?_
            refine T_bipush (pc' := 329) dX12_qGoesOn_327 rfl (by decide) rfl ?_
            refine T_callV (av := [(0, 44)]) (st := []) (d2 := 3) (nc2 := 0) (ns2 := 0) (pc' := 332) dX12_qGoesOn_329 rfl mtX12_asksSign mvX12_asksSign mlX12_322 cl12 rfl rfl rfl (Nat.le_of_ble_eq_true rfl) (by decide) ⟨by decide, by decide⟩ rfl (pX12_asksSign (E := E) (h := h) (M := M39) (v1 := 44) H hG40) ?_
            rintro _ _ M43 ⟨rfl, hG44, rfl, H⟩ _
            refine T_aload_n (i := 0) (pc' := 333) dX12_qGoesOn_332 rfl rfl rfl ?_
            refine U_gf (v := (0, (M43 66 5))) (k := 5) (kI := 5) (pc' := 336) dX12_qGoesOn_333 rfl cl12 (by decide) rfl (by decide) flX12_201 rfl rfl (by decide) rfl rfl ?_
            refine T_if_eq (pc' := 341) dX12_qGoesOn_336 (by decide) (pf := 339) rfl (fun c45 => ?_) (fun c45 => ?_)
            · skip
              replace H := H.1 c45
              refine T_aload_n (i := 0) (pc' := 342) dX12_qGoesOn_341 rfl rfl rfl ?_
              refine T_callV (av := []) (st := []) (d2 := 3) (nc2 := 0) (ns2 := 0) (pc' := 345) dX12_qGoesOn_342 rfl mtX12_qDropsToBracket mvX12_qDropsToBracket mlX12_556 cl12 rfl rfl rfl (Nat.le_of_ble_eq_true rfl) (by decide) ⟨by decide, by decide⟩ rfl (pX12_qDropsToBracket (E := E) (h := h) (M := M43) H hG44) ?_
              rintro _ _ M47 ⟨rfl, hG48, rfl, H⟩ _
              refine T_aload_n (i := 0) (pc' := 346) dX12_qGoesOn_345 rfl rfl rfl ?_
              refine U_gr (q := 123) (k := 80) (kI := 80) (pc' := 349) dX12_qGoesOn_346 rfl cl12 (by decide) rfl (by decide) flX12_189 rfl rfl rfl (G_at hG48 123 rfl) (by decide) rfl ?_
              refine T_aload_n (i := 0) (pc' := 350) dX12_qGoesOn_349 rfl rfl rfl ?_
              refine U_gf (v := (0, (M47 66 81))) (k := 81) (kI := 81) (pc' := 353) dX12_qGoesOn_350 rfl cl12 (by decide) rfl (by decide) flX12_523 rfl rfl (by decide) rfl rfl ?_
              refine T_iconst (pc' := 354) dX12_qGoesOn_353 (by decide) rfl ?_
              refine T_isub (pc' := 355) dX12_qGoesOn_354 rfl ?_
              refine T_dup2 (pc' := 356) dX12_qGoesOn_355 (Nat.ne_of_beq_eq_false rfl) (Nat.ne_of_beq_eq_false rfl) rfl ?_
              obtain ⟨z1, z2, H⟩ := H
              refine T_iald (pc' := 357) dX12_qGoesOn_356 (by decide) rfl z1 z2 rfl ?_
              refine T_iconst (pc' := 358) dX12_qGoesOn_357 (by decide) rfl ?_
              refine T_iadd (pc' := 359) dX12_qGoesOn_358 rfl ?_
              obtain ⟨z1, z2, H⟩ := H
              refine T_iast (pc' := 360) dX12_qGoesOn_359 (by decide) rfl z1 z2 rfl ?_
              have hG49 := (G_arr (x := 123) (i := (wr32 ((M47 66 81) - 1))) (y := (wr32 ((M47 123 (wr32 ((M47 66 81) - 1))) + 2))) rfl (by decide) hG48)
              obtain ⟨M50, eM50⟩ : ∃ m : Mem, m = (mset M47 123 (wr32 ((M47 66 81) - 1)) (wr32 ((M47 123 (wr32 ((M47 66 81) - 1))) + 2))) := ⟨_, rfl⟩
              rw [← eM50] at hG49 ⊢
              replace H := H M50 eM50
              refine T_iconst (pc' := 361) dX12_qGoesOn_360 (by decide) rfl ?_
              exact T_zret dX12_qGoesOn_361 rfl (by decide) ⟨rfl, hG49, _, rfl, H⟩
            · skip
              replace H := H.2 c45
              refine T_iconst (pc' := 340) dX12_qGoesOn_339 (by decide) rfl ?_
              exact T_zret dX12_qGoesOn_340 rfl (by decide) ⟨rfl, hG44, _, rfl, H⟩
          · skip
            replace H := H.2 c41
            refine T_aload_n (i := 0) (pc' := 318) dX12_qGoesOn_317 rfl rfl rfl ?_
            refine T_callV (av := []) (st := []) (d2 := 2) (nc2 := 0) (ns2 := 0) (pc' := 321) dX12_qGoesOn_318 rfl mtX12_qBracket mvX12_qBracket mlX12_553 cl12 rfl rfl rfl (Nat.le_of_ble_eq_true rfl) (by decide) ⟨by decide, by decide⟩ rfl (pX12_qBracket (E := E) (h := h) (M := M39) H hG40) ?_
            rintro _ _ M52 ⟨rfl, hG53, a51, rfl, H⟩ _
            refine T_bipush (pc' := 323) dX12_qGoesOn_321 rfl (by decide) rfl ?_
            refine T_icmp_ne (pc' := 362) dX12_qGoesOn_323 (by decide) (pf := 326) rfl (fun c54 => ?_) (fun c54 => ?_)
            · skip
              replace H := H.2 c54
              refine T_aload_n (i := 0) (pc' := 363) dX12_qGoesOn_362 rfl rfl rfl ?_
              refine T_callV (av := []) (st := []) (d2 := 2) (nc2 := 0) (ns2 := 0) (pc' := 366) dX12_qGoesOn_363 rfl mtX12_qBracket mvX12_qBracket mlX12_553 cl12 rfl rfl rfl (Nat.le_of_ble_eq_true rfl) (by decide) ⟨by decide, by decide⟩ rfl (pX12_qBracket (E := E) (h := h) (M := M52) H hG53) ?_
              rintro _ _ M56 ⟨rfl, hG57, a55, rfl, H⟩ _
              refine T_iconst (pc' := 367) dX12_qGoesOn_366 (by decide) rfl ?_
              refine T_icmp_eq (pc' := 386) dX12_qGoesOn_367 (by decide) (pf := 370) rfl (fun c58 => ?_) (fun c58 => ?_)
              · skip
                replace H := H.1 c58
                refine T_iconst (pc' := 387) dX12_qGoesOn_386 (by decide) rfl ?_
                exact T_zret dX12_qGoesOn_387 rfl (by decide) ⟨rfl, hG57, _, rfl, H⟩
              · skip
                replace H := H.2 c58
                refine T_aload_n (i := 0) (pc' := 371) dX12_qGoesOn_370 rfl rfl rfl ?_
                refine U_gf (v := (0, (M56 66 5))) (k := 5) (kI := 5) (pc' := 374) dX12_qGoesOn_371 rfl cl12 (by decide) rfl (by decide) flX12_201 rfl rfl (by decide) rfl rfl ?_
                refine T_if_ne (pc' := 386) dX12_qGoesOn_374 (by decide) (pf := 377) rfl (fun c59 => ?_) (fun c59 => ?_)
                · skip
                  replace H := H.2 c59
                  refine T_iconst (pc' := 387) dX12_qGoesOn_386 (by decide) rfl ?_
                  exact T_zret dX12_qGoesOn_387 rfl (by decide) ⟨rfl, hG57, _, rfl, H⟩
                · skip
                  replace H := H.1 c59
                  refine T_aload_n (i := 0) (pc' := 378) dX12_qGoesOn_377 rfl rfl rfl ?_
                  refine T_iconst (pc' := 379) dX12_qGoesOn_378 (by decide) rfl ?_
                  refine T_aload_n (i := 0) (pc' := 380) dX12_qGoesOn_379 rfl rfl rfl ?_
                  refine U_gf (v := (0, (M56 66 2))) (k := 2) (kI := 2) (pc' := 383) dX12_qGoesOn_380 rfl cl12 (by decide) rfl (by decide) flX12_207 rfl rfl (by decide) rfl rfl ?_
                  refine T_callV (av := [(0, 1), (0, (M56 66 2))]) (st := []) (d2 := 1) (nc2 := 0) (ns2 := 0) (pc' := 386) dX12_qGoesOn_383 rfl mtX12_fail mvX12_fail mlX12_231 cl12 rfl rfl rfl (Nat.le_of_ble_eq_true rfl) (by decide) ⟨by decide, by decide⟩ rfl (pX12_fail (E := E) (h := h) (M := M56) (v1 := 1) (v2 := (M56 66 2)) hG57) (kF (st2 := []) rfl (fun hG60 => ?_))
                  obtain ⟨M61, eM61⟩ : ∃ m : Mem, m = (fmX12_fail M56 1 (M56 66 2)) := ⟨_, rfl⟩
                  rw [← eM61] at hG60 ⊢
                  replace H := H M61 eM61
                  refine T_iconst (pc' := 387) dX12_qGoesOn_386 (by decide) rfl ?_
                  exact T_zret dX12_qGoesOn_387 rfl (by decide) ⟨rfl, hG60, _, rfl, H⟩
            · skip
              replace H := H.1 c54
              refine T_aload_n (i := 0) (pc' := 327) dX12_qGoesOn_326 rfl rfl rfl ?_
              refine T_bipush (pc' := 329) dX12_qGoesOn_327 rfl (by decide) rfl ?_
              refine T_callV (av := [(0, 44)]) (st := []) (d2 := 3) (nc2 := 0) (ns2 := 0) (pc' := 332) dX12_qGoesOn_329 rfl mtX12_asksSign mvX12_asksSign mlX12_322 cl12 rfl rfl rfl (Nat.le_of_ble_eq_true rfl) (by decide) ⟨by decide, by decide⟩ rfl (pX12_asksSign (E := E) (h := h) (M := M52) (v1 := 44) H hG53) ?_
              rintro _ _ M63 ⟨rfl, hG64, rfl, H⟩ _
              refine T_aload_n (i := 0) (pc' := 333) dX12_qGoesOn_332 rfl rfl rfl ?_
              refine U_gf (v := (0, (M63 66 5))) (k := 5) (kI := 5) (pc' := 336) dX12_qGoesOn_333 rfl cl12 (by decide) rfl (by decide) flX12_201 rfl rfl (by decide) rfl rfl ?_
              refine T_if_eq (pc' := 341) dX12_qGoesOn_336 (by decide) (pf := 339) rfl (fun c65 => ?_) (fun c65 => ?_)
              · skip
                replace H := H.1 c65
                refine T_aload_n (i := 0) (pc' := 342) dX12_qGoesOn_341 rfl rfl rfl ?_
                refine T_callV (av := []) (st := []) (d2 := 3) (nc2 := 0) (ns2 := 0) (pc' := 345) dX12_qGoesOn_342 rfl mtX12_qDropsToBracket mvX12_qDropsToBracket mlX12_556 cl12 rfl rfl rfl (Nat.le_of_ble_eq_true rfl) (by decide) ⟨by decide, by decide⟩ rfl (pX12_qDropsToBracket (E := E) (h := h) (M := M63) H hG64) ?_
                rintro _ _ M67 ⟨rfl, hG68, rfl, H⟩ _
                refine T_aload_n (i := 0) (pc' := 346) dX12_qGoesOn_345 rfl rfl rfl ?_
                refine U_gr (q := 123) (k := 80) (kI := 80) (pc' := 349) dX12_qGoesOn_346 rfl cl12 (by decide) rfl (by decide) flX12_189 rfl rfl rfl (G_at hG68 123 rfl) (by decide) rfl ?_
                refine T_aload_n (i := 0) (pc' := 350) dX12_qGoesOn_349 rfl rfl rfl ?_
                refine U_gf (v := (0, (M67 66 81))) (k := 81) (kI := 81) (pc' := 353) dX12_qGoesOn_350 rfl cl12 (by decide) rfl (by decide) flX12_523 rfl rfl (by decide) rfl rfl ?_
                refine T_iconst (pc' := 354) dX12_qGoesOn_353 (by decide) rfl ?_
                refine T_isub (pc' := 355) dX12_qGoesOn_354 rfl ?_
                refine T_dup2 (pc' := 356) dX12_qGoesOn_355 (Nat.ne_of_beq_eq_false rfl) (Nat.ne_of_beq_eq_false rfl) rfl ?_
                obtain ⟨z1, z2, H⟩ := H
                refine T_iald (pc' := 357) dX12_qGoesOn_356 (by decide) rfl z1 z2 rfl ?_
                refine T_iconst (pc' := 358) dX12_qGoesOn_357 (by decide) rfl ?_
                refine T_iadd (pc' := 359) dX12_qGoesOn_358 rfl ?_
                obtain ⟨z1, z2, H⟩ := H
                refine T_iast (pc' := 360) dX12_qGoesOn_359 (by decide) rfl z1 z2 rfl ?_
                have hG69 := (G_arr (x := 123) (i := (wr32 ((M67 66 81) - 1))) (y := (wr32 ((M67 123 (wr32 ((M67 66 81) - 1))) + 2))) rfl (by decide) hG68)
                obtain ⟨M70, eM70⟩ : ∃ m : Mem, m = (mset M67 123 (wr32 ((M67 66 81) - 1)) (wr32 ((M67 123 (wr32 ((M67 66 81) - 1))) + 2))) := ⟨_, rfl⟩
                rw [← eM70] at hG69 ⊢
                replace H := H M70 eM70
                refine T_iconst (pc' := 361) dX12_qGoesOn_360 (by decide) rfl ?_
                exact T_zret dX12_qGoesOn_361 rfl (by decide) ⟨rfl, hG69, _, rfl, H⟩
              · skip
                replace H := H.2 c65
                refine T_iconst (pc' := 340) dX12_qGoesOn_339 (by decide) rfl ?_
                exact T_zret dX12_qGoesOn_340 rfl (by decide) ⟨rfl, hG64, _, rfl, H⟩
        · skip
          replace H := H.2 c37
          refine T_aload_n (i := 0) (pc' := 226) dX12_qGoesOn_225 rfl rfl rfl ?_
          refine U_gr (q := 67) (k := 0) (kI := 0) (pc' := 229) dX12_qGoesOn_226 rfl cl12 (by decide) rfl (by decide) flX12_7 rfl rfl rfl (G_at hG36 67 rfl) (by decide) rfl ?_
          refine T_aload_n (i := 0) (pc' := 230) dX12_qGoesOn_229 rfl rfl rfl ?_
          refine U_gf (v := (0, (M35 66 2))) (k := 2) (kI := 2) (pc' := 233) dX12_qGoesOn_230 rfl cl12 (by decide) rfl (by decide) flX12_207 rfl rfl (by decide) rfl rfl ?_
          refine T_iconst (pc' := 234) dX12_qGoesOn_233 (by decide) rfl ?_
          refine T_isub (pc' := 235) dX12_qGoesOn_234 rfl ?_
          obtain ⟨z1, z2, H⟩ := H
          refine T_iald (pc' := 236) dX12_qGoesOn_235 (by decide) rfl z1 z2 rfl ?_
          refine T_bipush (pc' := 238) dX12_qGoesOn_236 rfl (by decide) rfl ?_
          have HJ71 : T E miX12_qGoesOn 4 126 0 0 (fun r S M' => S = S0 ∧ G h M' ∧ RI 0 Q r M') 246 [(2, 66), (3, 0)] [(0, (if (M35 67 (wr32 ((M35 66 2) - 1))) = 43 then (1 : Int) else 2))] S0 M35 0 0 := by
            refine T_istore_n (i := 1) (L' := [(2, 66), (0, (if (M35 67 (wr32 ((M35 66 2) - 1))) = 43 then (1 : Int) else 2))]) (pc' := 247) dX12_qGoesOn_246 rfl (by decide) rfl rfl ?_
            obtain ⟨k72, H⟩ := H
            refine T_wk (L' := [(2, 66), (0, (if (M35 67 (wr32 ((M35 66 2) - 1))) = 43 then (1 : Int) else 2))]) (qX12_qGoesOn_247 (v1 := (if (M35 67 (wr32 ((M35 66 2) - 1))) = 43 then (1 : Int) else 2)) (fun M73 H hG74 => ?_) _ _ H hG36) ⟨Or.inr rfl, Or.inr rfl, trivial⟩
            refine T_aload_n (i := 0) (pc' := 287) dX12_qGoesOn_286 rfl rfl rfl ?_
            refine U_gr (q := 123) (k := 80) (kI := 80) (pc' := 290) dX12_qGoesOn_287 rfl cl12 (by decide) rfl (by decide) flX12_189 rfl rfl rfl (G_at hG74 123 rfl) (by decide) rfl ?_
            refine T_aload_n (i := 0) (pc' := 291) dX12_qGoesOn_290 rfl rfl rfl ?_
            refine U_gf (v := (0, (M73 66 81))) (k := 81) (kI := 81) (pc' := 294) dX12_qGoesOn_291 rfl cl12 (by decide) rfl (by decide) flX12_523 rfl rfl (by decide) rfl rfl ?_
            refine T_iload_n (i := 1) (pc' := 295) dX12_qGoesOn_294 rfl rfl rfl ?_
            obtain ⟨z1, z2, H⟩ := H
            refine T_iast (pc' := 296) dX12_qGoesOn_295 (by decide) rfl z1 z2 rfl ?_
            have hG75 := (G_arr (x := 123) (i := (M73 66 81)) (y := (if (M35 67 (wr32 ((M35 66 2) - 1))) = 43 then (1 : Int) else 2)) rfl (by decide) hG74)
            obtain ⟨M76, eM76⟩ : ∃ m : Mem, m = (mset M73 123 (M73 66 81) (if (M35 67 (wr32 ((M35 66 2) - 1))) = 43 then (1 : Int) else 2)) := ⟨_, rfl⟩
            rw [← eM76] at hG75 ⊢
            replace H := H M76 eM76
            refine T_aload_n (i := 0) (pc' := 297) dX12_qGoesOn_296 rfl rfl rfl ?_
            refine T_dup (pc' := 298) dX12_qGoesOn_297 (Nat.ne_of_beq_eq_false rfl) rfl ?_
            refine U_gf (v := (0, (M76 66 81))) (k := 81) (kI := 81) (pc' := 301) dX12_qGoesOn_298 rfl cl12 (by decide) rfl (by decide) flX12_523 rfl rfl (by decide) rfl rfl ?_
            refine T_iconst (pc' := 302) dX12_qGoesOn_301 (by decide) rfl ?_
            refine T_iadd (pc' := 303) dX12_qGoesOn_302 rfl ?_
            refine U_pf (y := (wr32 ((M76 66 81) + 1))) (k := 81) (kI := 81) (pc' := 306) dX12_qGoesOn_303 rfl cl12 (by decide) rfl (by decide) flX12_523 rfl rfl rfl rfl rfl (by decide) (fun z => z) rfl ?_
            have hG77 := (G_fld (x := 66) (i := 81) (y := (wr32 ((M76 66 81) + 1))) rfl (by decide) (by decide) (by decide) hG75)
            obtain ⟨M78, eM78⟩ : ∃ m : Mem, m = (mset M76 66 81 (wr32 ((M76 66 81) + 1))) := ⟨_, rfl⟩
            rw [← eM78] at hG77 ⊢
            replace H := H M78 eM78
            refine T_iconst (pc' := 307) dX12_qGoesOn_306 (by decide) rfl ?_
            exact T_zret dX12_qGoesOn_307 rfl (by decide) ⟨rfl, hG77, _, rfl, H⟩
          refine T_icmp_ne (pc' := 245) dX12_qGoesOn_238 (by decide) (pf := 241) rfl (fun c79 => ?_) (fun c79 => ?_)
          · skip
            refine T_iconst (pc' := 246) dX12_qGoesOn_245 (by decide) rfl ?_
            exact T_wk (L' := [(2, 66), (3, 0)]) (by have q := HJ71; try simp only [if_neg c79] at q ⊢; exact q) ⟨Or.inr rfl, Or.inl rfl, trivial⟩
          · skip
            refine T_iconst (pc' := 242) dX12_qGoesOn_241 (by decide) rfl ?_
            refine T_goto (pc' := 246) dX12_qGoesOn_242 (by decide) ?_
            exact T_wk (L' := [(2, 66), (3, 0)]) (by have q := HJ71; try simp only [if_pos c79] at q ⊢; exact q) ⟨Or.inr rfl, Or.inl rfl, trivial⟩
    · skip
      replace H := H.2 c20
      refine T_aload_n (i := 0) (pc' := 141) dX12_qGoesOn_140 rfl rfl rfl ?_
      refine U_gr (q := 67) (k := 0) (kI := 0) (pc' := 144) dX12_qGoesOn_141 rfl cl12 (by decide) rfl (by decide) flX12_7 rfl rfl rfl (G_at hG19 67 rfl) (by decide) rfl ?_
      refine T_aload_n (i := 0) (pc' := 145) dX12_qGoesOn_144 rfl rfl rfl ?_
      refine U_gf (v := (0, (M18 66 2))) (k := 2) (kI := 2) (pc' := 148) dX12_qGoesOn_145 rfl cl12 (by decide) rfl (by decide) flX12_207 rfl rfl (by decide) rfl rfl ?_
      refine T_iconst (pc' := 149) dX12_qGoesOn_148 (by decide) rfl ?_
      refine T_isub (pc' := 150) dX12_qGoesOn_149 rfl ?_
      obtain ⟨z1, z2, H⟩ := H
      refine T_iald (pc' := 151) dX12_qGoesOn_150 (by decide) rfl z1 z2 rfl ?_
      refine T_bipush (pc' := 153) dX12_qGoesOn_151 rfl (by decide) rfl ?_
      have HJ80 : T E miX12_qGoesOn 4 126 0 0 (fun r S M' => S = S0 ∧ G h M' ∧ RI 0 Q r M') 161 [(2, 66), (3, 0)] [(0, (if (M18 67 (wr32 ((M18 66 2) - 1))) = 42 then (3 : Int) else 4))] S0 M18 0 0 := by
        refine T_istore_n (i := 1) (L' := [(2, 66), (0, (if (M18 67 (wr32 ((M18 66 2) - 1))) = 42 then (3 : Int) else 4))]) (pc' := 162) dX12_qGoesOn_161 rfl (by decide) rfl rfl ?_
        obtain ⟨k81, H⟩ := H
        refine T_wk (L' := [(2, 66), (0, (if (M18 67 (wr32 ((M18 66 2) - 1))) = 42 then (3 : Int) else 4))]) (qX12_qGoesOn_162 (v1 := (if (M18 67 (wr32 ((M18 66 2) - 1))) = 42 then (3 : Int) else 4)) (fun M82 H hG83 => ?_) _ _ H hG19) ⟨Or.inr rfl, Or.inr rfl, trivial⟩
        refine T_aload_n (i := 0) (pc' := 186) dX12_qGoesOn_185 rfl rfl rfl ?_
        refine U_gr (q := 123) (k := 80) (kI := 80) (pc' := 189) dX12_qGoesOn_186 rfl cl12 (by decide) rfl (by decide) flX12_189 rfl rfl rfl (G_at hG83 123 rfl) (by decide) rfl ?_
        refine T_aload_n (i := 0) (pc' := 190) dX12_qGoesOn_189 rfl rfl rfl ?_
        refine U_gf (v := (0, (M82 66 81))) (k := 81) (kI := 81) (pc' := 193) dX12_qGoesOn_190 rfl cl12 (by decide) rfl (by decide) flX12_523 rfl rfl (by decide) rfl rfl ?_
        refine T_iload_n (i := 1) (pc' := 194) dX12_qGoesOn_193 rfl rfl rfl ?_
        obtain ⟨z1, z2, H⟩ := H
        refine T_iast (pc' := 195) dX12_qGoesOn_194 (by decide) rfl z1 z2 rfl ?_
        have hG84 := (G_arr (x := 123) (i := (M82 66 81)) (y := (if (M18 67 (wr32 ((M18 66 2) - 1))) = 42 then (3 : Int) else 4)) rfl (by decide) hG83)
        obtain ⟨M85, eM85⟩ : ∃ m : Mem, m = (mset M82 123 (M82 66 81) (if (M18 67 (wr32 ((M18 66 2) - 1))) = 42 then (3 : Int) else 4)) := ⟨_, rfl⟩
        rw [← eM85] at hG84 ⊢
        replace H := H M85 eM85
        refine T_aload_n (i := 0) (pc' := 196) dX12_qGoesOn_195 rfl rfl rfl ?_
        refine T_dup (pc' := 197) dX12_qGoesOn_196 (Nat.ne_of_beq_eq_false rfl) rfl ?_
        refine U_gf (v := (0, (M85 66 81))) (k := 81) (kI := 81) (pc' := 200) dX12_qGoesOn_197 rfl cl12 (by decide) rfl (by decide) flX12_523 rfl rfl (by decide) rfl rfl ?_
        refine T_iconst (pc' := 201) dX12_qGoesOn_200 (by decide) rfl ?_
        refine T_iadd (pc' := 202) dX12_qGoesOn_201 rfl ?_
        refine U_pf (y := (wr32 ((M85 66 81) + 1))) (k := 81) (kI := 81) (pc' := 205) dX12_qGoesOn_202 rfl cl12 (by decide) rfl (by decide) flX12_523 rfl rfl rfl rfl rfl (by decide) (fun z => z) rfl ?_
        have hG86 := (G_fld (x := 66) (i := 81) (y := (wr32 ((M85 66 81) + 1))) rfl (by decide) (by decide) (by decide) hG84)
        obtain ⟨M87, eM87⟩ : ∃ m : Mem, m = (mset M85 66 81 (wr32 ((M85 66 81) + 1))) := ⟨_, rfl⟩
        rw [← eM87] at hG86 ⊢
        replace H := H M87 eM87
        refine T_iconst (pc' := 206) dX12_qGoesOn_205 (by decide) rfl ?_
        exact T_zret dX12_qGoesOn_206 rfl (by decide) ⟨rfl, hG86, _, rfl, H⟩
      refine T_icmp_ne (pc' := 160) dX12_qGoesOn_153 (by decide) (pf := 156) rfl (fun c88 => ?_) (fun c88 => ?_)
      · skip
        refine T_iconst (pc' := 161) dX12_qGoesOn_160 (by decide) rfl ?_
        exact T_wk (L' := [(2, 66), (3, 0)]) (by have q := HJ80; try simp only [if_neg c88] at q ⊢; exact q) ⟨Or.inr rfl, Or.inl rfl, trivial⟩
      · skip
        refine T_iconst (pc' := 157) dX12_qGoesOn_156 (by decide) rfl ?_
        refine T_goto (pc' := 161) dX12_qGoesOn_157 (by decide) ?_
        exact T_wk (L' := [(2, 66), (3, 0)]) (by have q := HJ80; try simp only [if_pos c88] at q ⊢; exact q) ⟨Or.inr rfl, Or.inl rfl, trivial⟩
