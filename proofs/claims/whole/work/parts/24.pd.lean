/-! methods as propositions, 4 -/
def PX6_read  (M : Mem) (Q : Int → Mem → Prop) : Prop :=
  (∀ M2 : Mem, M2 = (fmX5_clear M) → PX9_begin M2 (fun _ M4 => (∀ a7 : Int, a7 = (fX9_find M4 1009 9) → (∀ M9 : Mem, M9 = (mset M4 5 2 a7) → (((M9 5 2) = (-1) → (∀ M32 : Mem, M32 = (fmX9_unasked M9) → ((fX9_unasked : Int) = 0 ∨ (fX9_unasked : Int) = 1) ∧ Q fX9_unasked M32)) ∧ (¬ ((M9 5 2) = (-1)) → PX9_next M9 (fun _ M12 => (∃ j14 : Int → Mem → Prop, (∀ (u15 : Int) (M16 : Mem), j14 u15 M16 → ((u15 = 0 → Q 0 M16) ∧ (¬ (u15 = 0) → (((M16 3 1) = 0 → Q 1 M16) ∧ (¬ ((M16 3 1) = 0) → (∀ M21 : Mem, M21 = (fmX9_unasked M16) → (((if fX9_unasked = 0 then (0 : Int) else 1) : Int) = 0 ∨ ((if fX9_unasked = 0 then (0 : Int) else 1) : Int) = 1) ∧ Q (if fX9_unasked = 0 then (0 : Int) else 1) M21)))))) ∧ ((2 < (M12 5 2) → PRq 60 4 0 M12 (fun a25 M26 => j14 a25 M26)) ∧ (¬ (2 < (M12 5 2)) → PRq 60 0 0 M12 (fun a28 M29 => j14 a28 M29)))))))))))
set_option maxRecDepth 100000 in
set_option maxHeartbeats 2000000 in
theorem pX6_read {E : EV} {h : Int} {M : Mem}   {Q : Int → Mem → Prop} (H : PX6_read  M Q) : C2 E miX6_read 81 h [(2, 5)] M (RI 0 Q) := by
  refine C2_of (L := [(2, 5), (3, 0)]) (by decide +kernel) (Nat.le_of_ble_eq_true rfl) rfl (fun hG => ?_)
  refine T_aload_n (i := 0) (pc' := 1) dX6_read_0 rfl rfl rfl ?_
  refine U_gr (q := 6) (k := 1) (kI := 1) (pc' := 4) dX6_read_1 rfl cl6 (by decide) rfl (by decide) flX6_18 rfl rfl rfl (G_at hG 13 rfl) (by decide) rfl ?_
  refine T_callV (av := []) (st := []) (d2 := 1) (nc2 := 0) (ns2 := 0) (pc' := 7) dX6_read_4 rfl mtX5_clear mvX5_clear mlX6_26 cl5 rfl rfl rfl (Nat.le_of_ble_eq_true rfl) (by decide) ⟨by decide, by decide⟩ rfl (pX5_clear (E := E) (h := h) (M := M) hG) (kF (st2 := []) rfl (fun hG1 => ?_))
  obtain ⟨M2, eM2⟩ : ∃ m : Mem, m = (fmX5_clear M) := ⟨_, rfl⟩
  rw [← eM2] at hG1 ⊢
  replace H := H M2 eM2
  refine T_aload_n (i := 0) (pc' := 8) dX6_read_7 rfl rfl rfl ?_
  refine U_gr (q := 3) (k := 0) (kI := 0) (pc' := 11) dX6_read_8 rfl cl6 (by decide) rfl (by decide) flX6_9 rfl rfl rfl (G_at hG1 12 rfl) (by decide) rfl ?_
  refine T_callV (av := []) (st := []) (d2 := 3) (nc2 := 0) (ns2 := 0) (pc' := 14) dX6_read_11 rfl mtX9_begin mvX9_begin mlX6_29 cl9 rfl rfl rfl (Nat.le_of_ble_eq_true rfl) (by decide) ⟨by decide, by decide⟩ rfl (pX9_begin (E := E) (h := h) (M := M2) H hG1) ?_
  rintro _ _ M4 ⟨rfl, hG5, rfl, H⟩ _
  refine T_aload_n (i := 0) (pc' := 15) dX6_read_14 rfl rfl rfl ?_
  refine T_aload_n (i := 0) (pc' := 16) dX6_read_15 rfl rfl rfl ?_
  refine U_gr (q := 3) (k := 0) (kI := 0) (pc' := 19) dX6_read_16 rfl cl6 (by decide) rfl (by decide) flX6_9 rfl rfl rfl (G_at hG5 12 rfl) (by decide) rfl ?_
  refine T_ldcS (i := 9) (x := 1009) (pc' := 21) dX6_read_19 rfl rfl rfl rfl ?_
  refine T_callV (av := [(2, 1009)]) (st := [(2, 5)]) (d2 := 6) (nc2 := 0) (ns2 := 0) (pc' := 24) dX6_read_21 rfl mtX9_find mvX9_find mlX6_36 cl9 rfl rfl rfl (Nat.le_of_ble_eq_true rfl) (by decide) ⟨by decide, by decide⟩ rfl (pX9_find (E := E) (h := h) (M := M4) (p1 := 1009) (s1 := 9) (by decide) rfl hG5) (kF (st2 := [(0, (fX9_find M4 1009 9)), (2, 5)]) rfl (fun hG6 => ?_))
  obtain ⟨a7, ea7⟩ : ∃ z : Int, z = (fX9_find M4 1009 9) := ⟨_, rfl⟩
  rw [← ea7]
  replace H := H a7 ea7
  refine U_pf (y := a7) (k := 2) (kI := 2) (pc' := 27) dX6_read_24 rfl cl6 (by decide) rfl (by decide) flX6_22 rfl rfl rfl rfl rfl (by decide) (fun z => z) rfl ?_
  have hG8 := (G_fld (x := 5) (i := 2) (y := a7) rfl (by decide) (by decide) (by decide) hG5)
  obtain ⟨M9, eM9⟩ : ∃ m : Mem, m = (mset M4 5 2 a7) := ⟨_, rfl⟩
  rw [← eM9] at hG8 ⊢
  replace H := H M9 eM9
  refine T_aload_n (i := 0) (pc' := 28) dX6_read_27 rfl rfl rfl ?_
  refine U_gf (v := (0, (M9 5 2))) (k := 2) (kI := 2) (pc' := 31) dX6_read_28 rfl cl6 (by decide) rfl (by decide) flX6_22 rfl rfl (by decide) rfl rfl ?_
  refine T_iconst (pc' := 32) dX6_read_31 (by decide) rfl ?_
  refine T_icmp_ne (pc' := 43) dX6_read_32 (by decide) (pf := 35) rfl (fun c10 => ?_) (fun c10 => ?_)
  · skip
    replace H := H.2 c10
    refine T_aload_n (i := 0) (pc' := 44) dX6_read_43 rfl rfl rfl ?_
    refine U_gr (q := 3) (k := 0) (kI := 0) (pc' := 47) dX6_read_44 rfl cl6 (by decide) rfl (by decide) flX6_9 rfl rfl rfl (G_at hG8 12 rfl) (by decide) rfl ?_
    refine T_callV (av := []) (st := []) (d2 := 2) (nc2 := 0) (ns2 := 0) (pc' := 50) dX6_read_47 rfl mtX9_next mvX9_next mlX6_44 cl9 rfl rfl rfl (Nat.le_of_ble_eq_true rfl) (by decide) ⟨by decide, by decide⟩ rfl (pX9_next (E := E) (h := h) (M := M9) H hG8) ?_
    rintro _ _ M12 ⟨rfl, hG13, rfl, H⟩ _
    refine T_aload_n (i := 0) (pc' := 51) dX6_read_50 rfl rfl rfl ?_
    refine U_gf (v := (0, (M12 5 2))) (k := 2) (kI := 2) (pc' := 54) dX6_read_51 rfl cl6 (by decide) rfl (by decide) flX6_22 rfl rfl (by decide) rfl rfl ?_
    refine T_iconst (pc' := 55) dX6_read_54 (by decide) rfl ?_
    obtain ⟨j14, hj14, H⟩ := H
    have qj14 : ∀ (u15 : Int) (M16 : Mem), j14 u15 M16 → G h M16 → TG E miX6_read 81 h (RI 0 Q) 71 [(2, 5), (3, 0)] [(0, u15)] M16 := by
      intro u15 M16 H hG17
      replace H := hj14 _ _ H
      refine T_istore_n (i := 1) (L' := [(2, 5), (0, u15)]) (pc' := 72) dX6_read_71 rfl (by decide) rfl rfl ?_
      refine T_iload_n (i := 1) (pc' := 73) dX6_read_72 rfl rfl rfl ?_
      refine T_if_eq (pc' := 100) dX6_read_73 (by decide) (pf := 76) rfl (fun c18 => ?_) (fun c18 => ?_)
      · skip
        replace H := H.1 c18
        refine T_iconst (pc' := 101) dX6_read_100 (by decide) rfl ?_
        exact T_zret dX6_read_101 rfl (by decide) ⟨rfl, hG17, _, rfl, H⟩
      · skip
        replace H := H.2 c18
        refine T_aload_n (i := 0) (pc' := 77) dX6_read_76 rfl rfl rfl ?_
        refine U_gr (q := 3) (k := 0) (kI := 0) (pc' := 80) dX6_read_77 rfl cl6 (by decide) rfl (by decide) flX6_9 rfl rfl rfl (G_at hG17 12 rfl) (by decide) rfl ?_
        refine U_gfN (v := (0, (M16 3 1))) (k := 1) (kI := 1) (pc' := 83) dX6_read_80 rfl cl9 (by decide) rfl (by decide) flX6_54 rfl rfl (by decide) rfl rfl ?_
        refine T_if_eq (pc' := 96) dX6_read_83 (by decide) (pf := 86) rfl (fun c19 => ?_) (fun c19 => ?_)
        · skip
          replace H := H.1 c19
          refine T_iconst (pc' := 97) dX6_read_96 (by decide) rfl ?_
          refine T_goto (pc' := 101) dX6_read_97 (by decide) ?_
          exact T_zret dX6_read_101 rfl (by decide) ⟨rfl, hG17, _, rfl, H⟩
        · skip
          replace H := H.2 c19
          refine T_aload_n (i := 0) (pc' := 87) dX6_read_86 rfl rfl rfl ?_
          refine U_gr (q := 3) (k := 0) (kI := 0) (pc' := 90) dX6_read_87 rfl cl6 (by decide) rfl (by decide) flX6_9 rfl rfl rfl (G_at hG17 12 rfl) (by decide) rfl ?_
          refine T_callV (av := []) (st := []) (d2 := 2) (nc2 := 0) (ns2 := 0) (pc' := 93) dX6_read_90 rfl mtX9_unasked mvX9_unasked mlX6_40 cl9 rfl rfl rfl (Nat.le_of_ble_eq_true rfl) (by decide) ⟨by decide, by decide⟩ rfl (pX9_unasked (E := E) (h := h) (M := M16) hG17) (kF (st2 := [(0, fX9_unasked)]) rfl (fun hG20 => ?_))
          obtain ⟨M21, eM21⟩ : ∃ m : Mem, m = (fmX9_unasked M16) := ⟨_, rfl⟩
          rw [← eM21] at hG20 ⊢
          replace H := H M21 eM21
          have HJ22 : T E miX6_read 81 126 0 0 (fun r S M' => S = S0 ∧ G h M' ∧ RI 0 Q r M') 101 [(3, 0), (3, 0)] [(0, (if fX9_unasked = 0 then (0 : Int) else 1))] S0 M21 0 0 := by
            obtain ⟨z1, H⟩ := H
            exact T_zret dX6_read_101 rfl z1 ⟨rfl, hG20, _, rfl, H⟩
          refine T_if_eq (pc' := 100) dX6_read_93 (by decide) (pf := 96) rfl (fun c23 => ?_) (fun c23 => ?_)
          · skip
            refine T_iconst (pc' := 101) dX6_read_100 (by decide) rfl ?_
            exact T_wk (L' := [(3, 0), (3, 0)]) (by have q := HJ22; try simp only [if_pos c23] at q ⊢; exact q) ⟨Or.inl rfl, Or.inl rfl, trivial⟩
          · skip
            refine T_iconst (pc' := 97) dX6_read_96 (by decide) rfl ?_
            refine T_goto (pc' := 101) dX6_read_97 (by decide) ?_
            exact T_wk (L' := [(3, 0), (3, 0)]) (by have q := HJ22; try simp only [if_neg c23] at q ⊢; exact q) ⟨Or.inl rfl, Or.inl rfl, trivial⟩
    refine T_icmp_gt (pc' := 66) dX6_read_55 (by decide) (pf := 58) rfl (fun c24 => ?_) (fun c24 => ?_)
    · skip
      replace H := H.1 c24
      refine T_aload_n (i := 0) (pc' := 67) dX6_read_66 rfl rfl rfl ?_
      refine T_iconst (pc' := 68) dX6_read_67 (by decide) rfl ?_
      refine T_callV (av := [(0, 0)]) (st := []) (d2 := 80) (nc2 := 0) (ns2 := 0) (pc' := 71) dX6_read_68 rfl mtX6_takeSum mvX6_takeSum mlX6_51 cl6 rfl rfl rfl (Nat.le_of_ble_eq_true rfl) (by decide) ⟨by decide, by decide⟩ rfl (prX6_takeSum (E := E) (h := h) (M := M12) (v1 := 0) H hG13) ?_
      rintro _ _ M26 ⟨rfl, hG27, a25, rfl, H⟩ _
      exact T_wk (L' := [(2, 5), (3, 0)]) (qj14 _ _ H hG27) ⟨Or.inr rfl, Or.inl rfl, trivial⟩
    · skip
      replace H := H.2 c24
      refine T_aload_n (i := 0) (pc' := 59) dX6_read_58 rfl rfl rfl ?_
      refine T_iconst (pc' := 60) dX6_read_59 (by decide) rfl ?_
      refine T_callV (av := [(0, 0)]) (st := []) (d2 := 80) (nc2 := 0) (ns2 := 0) (pc' := 63) dX6_read_60 rfl mtX6_takeTest mvX6_takeTest mlX6_47 cl6 rfl rfl rfl (Nat.le_of_ble_eq_true rfl) (by decide) ⟨by decide, by decide⟩ rfl (prX6_takeTest (E := E) (h := h) (M := M12) (v1 := 0) H hG13) ?_
      rintro _ _ M29 ⟨rfl, hG30, a28, rfl, H⟩ _
      refine T_goto (pc' := 71) dX6_read_63 (by decide) ?_
      exact T_wk (L' := [(2, 5), (3, 0)]) (qj14 _ _ H hG30) ⟨Or.inr rfl, Or.inl rfl, trivial⟩
  · skip
    replace H := H.1 c10
    refine T_aload_n (i := 0) (pc' := 36) dX6_read_35 rfl rfl rfl ?_
    refine U_gr (q := 3) (k := 0) (kI := 0) (pc' := 39) dX6_read_36 rfl cl6 (by decide) rfl (by decide) flX6_9 rfl rfl rfl (G_at hG8 12 rfl) (by decide) rfl ?_
    refine T_callV (av := []) (st := []) (d2 := 2) (nc2 := 0) (ns2 := 0) (pc' := 42) dX6_read_39 rfl mtX9_unasked mvX9_unasked mlX6_40 cl9 rfl rfl rfl (Nat.le_of_ble_eq_true rfl) (by decide) ⟨by decide, by decide⟩ rfl (pX9_unasked (E := E) (h := h) (M := M9) hG8) (kF (st2 := [(0, fX9_unasked)]) rfl (fun hG31 => ?_))
    obtain ⟨M32, eM32⟩ : ∃ m : Mem, m = (fmX9_unasked M9) := ⟨_, rfl⟩
    rw [← eM32] at hG31 ⊢
    replace H := H M32 eM32
    obtain ⟨z1, H⟩ := H
    exact T_zret dX6_read_42 rfl z1 ⟨rfl, hG31, _, rfl, H⟩
def PX6_extreme_14 (v2 : Int) (K : Int → Mem → Prop) (Q : Int → Mem → Prop) : Nat → Int → Int → Mem → Prop
  | 0 => fun _ _ _ => False
  | k + 1 => fun v3 v5 M => ((201 ≤ v5 → K v3 M) ∧ (¬ (201 ≤ v5) → PX5_run v5 M (fun a2 M3 => PX6_extreme_14 v2 K Q k (if v2 = 0 then (if a2 < v3 then a2 else v3) else (if a2 < v3 then v3 else a2)) (wr32 (v5 + 1)) M3)))
def PX6_extreme (v2 : Int) (M : Mem) (Q : Int → Mem → Prop) : Prop :=
  PX5_run 0 M (fun a1 M2 => (∃ k4 : Nat, PX6_extreme_14 v2 (fun u5 M6 => Q u5 M6) Q k4 a1 1 M2))
set_option maxRecDepth 100000 in
set_option maxHeartbeats 2000000 in
theorem qX6_extreme_14 {E : EV} {h : Int} {v2 : Int}  {K : Int → Mem → Prop} {Q : Int → Mem → Prop} (hK : ∀ (v3 : Int) (M : Mem), K v3 M → G h M → TG E miX6_extreme 5 h (RI 1 Q) 61 [(2, 5), (3, 0), (3, 0), (1, v3), (3, 0), (3, 0), (3, 0), (3, 0)] [] M) : ∀ (k : Nat) (v3 v5 : Int) (M : Mem), PX6_extreme_14 v2 K Q k v3 v5 M → G h M → TG E miX6_extreme 5 h (RI 1 Q) 14 [(2, 5), (2, 16), (0, v2), (1, v3), (3, 0), (0, v5), (3, 0), (3, 0)] [] M := by
  intro k
  induction k with
  | zero =>
    intro v3 v5 M H
    exact False.elim H
  | succ k ih =>
    intro v3 v5 M H hG
    refine T_iload (i := 5) (pc' := 16) dX6_extreme_14 rfl rfl ?_
    refine T_sipush (pc' := 19) dX6_extreme_16 rfl (by decide) rfl ?_
    refine T_icmp_ge (pc' := 61) dX6_extreme_19 (by decide) (pf := 22) rfl (fun c1 => ?_) (fun c1 => ?_)
    · skip
      replace H := H.1 c1
      exact T_wk (L' := [(2, 5), (3, 0), (3, 0), (1, v3), (3, 0), (3, 0), (3, 0), (3, 0)]) (hK _ _ H hG) ⟨Or.inr rfl, Or.inl rfl, Or.inl rfl, Or.inr rfl, Or.inl rfl, Or.inl rfl, Or.inl rfl, Or.inl rfl, trivial⟩
    · skip
      replace H := H.2 c1
      refine T_aload_n (i := 0) (pc' := 23) dX6_extreme_22 rfl rfl rfl ?_
      refine U_gr (q := 6) (k := 1) (kI := 1) (pc' := 26) dX6_extreme_23 rfl cl6 (by decide) rfl (by decide) flX6_18 rfl rfl rfl (G_at hG 13 rfl) (by decide) rfl ?_
      refine T_aload_n (i := 1) (pc' := 27) dX6_extreme_26 rfl rfl rfl ?_
      refine T_iload (i := 5) (pc' := 29) dX6_extreme_27 rfl rfl ?_
      refine T_callV (av := [(2, 16), (0, v5)]) (st := []) (d2 := 4) (nc2 := 0) (ns2 := 0) (pc' := 32) dX6_extreme_29 rfl mtX5_run mvX5_run mlX6_130 cl5 rfl rfl rfl (Nat.le_of_ble_eq_true rfl) (by decide) ⟨by decide, by decide⟩ rfl (pX5_run (E := E) (h := h) (M := M) (v2 := v5) H hG) ?_
      rintro _ _ M3 ⟨rfl, hG4, a2, rfl, H⟩ _
      refine T_i2l (pc' := 33) dX6_extreme_32 rfl ?_
      refine T_lstore (i := 6) (L' := [(2, 5), (2, 16), (0, v2), (1, v3), (3, 0), (0, v5), (1, a2), (3, 0)]) (pc' := 35) dX6_extreme_33 (by decide) rfl rfl ?_
      refine T_iload_n (i := 2) (pc' := 36) dX6_extreme_35 rfl rfl rfl ?_
      have HJ5 : T E miX6_extreme 5 126 0 0 (fun r S M' => S = S0 ∧ G h M' ∧ RI 1 Q r M') 54 [(2, 5), (2, 16), (0, v2), (3, 0), (3, 0), (0, v5), (3, 0), (3, 0)] [(1, (if v2 = 0 then (if a2 < v3 then a2 else v3) else (if a2 < v3 then v3 else a2)))] S0 M3 0 0 := by
        refine T_lstore_n (i := 3) (L' := [(2, 5), (2, 16), (0, v2), (1, (if v2 = 0 then (if a2 < v3 then a2 else v3) else (if a2 < v3 then v3 else a2))), (3, 0), (0, v5), (3, 0), (3, 0)]) (pc' := 55) dX6_extreme_54 rfl (by decide) rfl rfl ?_
        refine T_iinc (L' := [(2, 5), (2, 16), (0, v2), (1, (if v2 = 0 then (if a2 < v3 then a2 else v3) else (if a2 < v3 then v3 else a2))), (3, 0), (0, (wr32 (v5 + 1))), (3, 0), (3, 0)]) (pc' := 58) dX6_extreme_55 rfl (by decide) rfl rfl ?_
        refine T_goto (pc' := 14) dX6_extreme_58 (by decide) ?_
        exact T_wk (L' := [(2, 5), (2, 16), (0, v2), (1, (if v2 = 0 then (if a2 < v3 then a2 else v3) else (if a2 < v3 then v3 else a2))), (3, 0), (0, (wr32 (v5 + 1))), (3, 0), (3, 0)]) (ih _ _ _ H hG4) ⟨Or.inr rfl, Or.inr rfl, Or.inr rfl, Or.inr rfl, Or.inl rfl, Or.inr rfl, Or.inl rfl, Or.inl rfl, trivial⟩
      refine T_if_eq (pc' := 48) dX6_extreme_36 (by decide) (pf := 39) rfl (fun c6 => ?_) (fun c6 => ?_)
      · skip
        refine T_lload_n (i := 3) (pc' := 49) dX6_extreme_48 rfl rfl rfl ?_
        refine T_lload (i := 6) (pc' := 51) dX6_extreme_49 rfl rfl ?_
        refine U_mminL (pc' := 54) dX6_extreme_51 rfl mlX6_142 (Nat.le_of_ble_eq_true rfl) (by decide) ⟨by decide, by decide⟩ rfl ?_
        exact T_wk (L' := [(2, 5), (2, 16), (0, v2), (3, 0), (3, 0), (0, v5), (3, 0), (3, 0)]) (by have q := HJ5; try simp only [if_pos c6] at q ⊢; exact q) ⟨Or.inr rfl, Or.inr rfl, Or.inr rfl, Or.inl rfl, Or.inl rfl, Or.inr rfl, Or.inl rfl, Or.inl rfl, trivial⟩
      · skip
        refine T_lload_n (i := 3) (pc' := 40) dX6_extreme_39 rfl rfl rfl ?_
        refine T_lload (i := 6) (pc' := 42) dX6_extreme_40 rfl rfl ?_
        refine U_mmaxL (pc' := 45) dX6_extreme_42 rfl mlX6_136 (Nat.le_of_ble_eq_true rfl) (by decide) ⟨by decide, by decide⟩ rfl ?_
        refine T_goto (pc' := 54) dX6_extreme_45 (by decide) ?_
        exact T_wk (L' := [(2, 5), (2, 16), (0, v2), (3, 0), (3, 0), (0, v5), (3, 0), (3, 0)]) (by have q := HJ5; try simp only [if_neg c6] at q ⊢; exact q) ⟨Or.inr rfl, Or.inr rfl, Or.inr rfl, Or.inl rfl, Or.inl rfl, Or.inr rfl, Or.inl rfl, Or.inl rfl, trivial⟩
set_option maxRecDepth 100000 in
set_option maxHeartbeats 2000000 in
theorem pX6_extreme {E : EV} {h : Int} {M : Mem} {v2 : Int}  {Q : Int → Mem → Prop} (H : PX6_extreme v2 M Q) : C2 E miX6_extreme 5 h [(2, 5), (2, 16), (0, v2)] M (RI 1 Q) := by
  refine C2_of (L := [(2, 5), (2, 16), (0, v2), (3, 0), (3, 0), (3, 0), (3, 0), (3, 0)]) (by decide +kernel) (Nat.le_of_ble_eq_true rfl) rfl (fun hG => ?_)
  refine T_aload_n (i := 0) (pc' := 1) dX6_extreme_0 rfl rfl rfl ?_
  refine U_gr (q := 6) (k := 1) (kI := 1) (pc' := 4) dX6_extreme_1 rfl cl6 (by decide) rfl (by decide) flX6_18 rfl rfl rfl (G_at hG 13 rfl) (by decide) rfl ?_
  refine T_aload_n (i := 1) (pc' := 5) dX6_extreme_4 rfl rfl rfl ?_
  refine T_iconst (pc' := 6) dX6_extreme_5 (by decide) rfl ?_
  refine T_callV (av := [(2, 16), (0, 0)]) (st := []) (d2 := 4) (nc2 := 0) (ns2 := 0) (pc' := 9) dX6_extreme_6 rfl mtX5_run mvX5_run mlX6_130 cl5 rfl rfl rfl (Nat.le_of_ble_eq_true rfl) (by decide) ⟨by decide, by decide⟩ rfl (pX5_run (E := E) (h := h) (M := M) (v2 := 0) H hG) ?_
  rintro _ _ M2 ⟨rfl, hG3, a1, rfl, H⟩ _
  refine T_i2l (pc' := 10) dX6_extreme_9 rfl ?_
  refine T_lstore_n (i := 3) (L' := [(2, 5), (2, 16), (0, v2), (1, a1), (3, 0), (3, 0), (3, 0), (3, 0)]) (pc' := 11) dX6_extreme_10 rfl (by decide) rfl rfl ?_
  refine T_iconst (pc' := 12) dX6_extreme_11 (by decide) rfl ?_
  refine T_istore (i := 5) (L' := [(2, 5), (2, 16), (0, v2), (1, a1), (3, 0), (0, 1), (3, 0), (3, 0)]) (pc' := 14) dX6_extreme_12 (by decide) rfl rfl ?_
  obtain ⟨k4, H⟩ := H
  refine T_wk (L' := [(2, 5), (2, 16), (0, v2), (1, a1), (3, 0), (0, 1), (3, 0), (3, 0)]) (qX6_extreme_14 (v2 := v2) (fun u5 M6 H hG7 => ?_) _ _ _ _ H hG3) ⟨Or.inr rfl, Or.inr rfl, Or.inr rfl, Or.inr rfl, Or.inl rfl, Or.inr rfl, Or.inl rfl, Or.inl rfl, trivial⟩
  refine T_lload_n (i := 3) (pc' := 62) dX6_extreme_61 rfl rfl rfl ?_
  exact T_lret dX6_extreme_62 rfl ⟨rfl, hG7, _, rfl, H⟩
def PX6_firstTrue_2  (K : Mem → Prop) (Q : Int → Mem → Prop) : Nat → Int → Mem → Prop
  | 0 => fun _ _ => False
  | k + 1 => fun v2 M => ((201 ≤ v2 → K M) ∧ (¬ (201 ≤ v2) → PX5_run v2 M (fun a2 M3 => ((a2 = 0 → PX6_firstTrue_2  K Q k (wr32 (v2 + 1)) M3) ∧ (¬ (a2 = 0) → Q v2 M3)))))
def PX6_firstTrue  (M : Mem) (Q : Int → Mem → Prop) : Prop :=
  (∃ k1 : Nat, PX6_firstTrue_2 (fun M2 => Q (-1) M2) Q k1 0 M)
set_option maxRecDepth 100000 in
set_option maxHeartbeats 2000000 in
theorem qX6_firstTrue_2 {E : EV} {h : Int}   {K : Mem → Prop} {Q : Int → Mem → Prop} (hK : ∀ (M : Mem), K M → G h M → TG E miX6_firstTrue 5 h (RI 1 Q) 30 [(2, 5), (3, 0), (3, 0)] [] M) : ∀ (k : Nat) (v2 : Int) (M : Mem), PX6_firstTrue_2  K Q k v2 M → G h M → TG E miX6_firstTrue 5 h (RI 1 Q) 2 [(2, 5), (2, 16), (0, v2)] [] M := by
  intro k
  induction k with
  | zero =>
    intro v2 M H
    exact False.elim H
  | succ k ih =>
    intro v2 M H hG
    refine T_iload_n (i := 2) (pc' := 3) dX6_firstTrue_2 rfl rfl rfl ?_
    refine T_sipush (pc' := 6) dX6_firstTrue_3 rfl (by decide) rfl ?_
    refine T_icmp_ge (pc' := 30) dX6_firstTrue_6 (by decide) (pf := 9) rfl (fun c1 => ?_) (fun c1 => ?_)
    · skip
      replace H := H.1 c1
      exact T_wk (L' := [(2, 5), (3, 0), (3, 0)]) (hK _ H hG) ⟨Or.inr rfl, Or.inl rfl, Or.inl rfl, trivial⟩
    · skip
      replace H := H.2 c1
      refine T_aload_n (i := 0) (pc' := 10) dX6_firstTrue_9 rfl rfl rfl ?_
      refine U_gr (q := 6) (k := 1) (kI := 1) (pc' := 13) dX6_firstTrue_10 rfl cl6 (by decide) rfl (by decide) flX6_18 rfl rfl rfl (G_at hG 13 rfl) (by decide) rfl ?_
      refine T_aload_n (i := 1) (pc' := 14) dX6_firstTrue_13 rfl rfl rfl ?_
      refine T_iload_n (i := 2) (pc' := 15) dX6_firstTrue_14 rfl rfl rfl ?_
      refine T_callV (av := [(2, 16), (0, v2)]) (st := []) (d2 := 4) (nc2 := 0) (ns2 := 0) (pc' := 18) dX6_firstTrue_15 rfl mtX5_run mvX5_run mlX6_130 cl5 rfl rfl rfl (Nat.le_of_ble_eq_true rfl) (by decide) ⟨by decide, by decide⟩ rfl (pX5_run (E := E) (h := h) (M := M) (v2 := v2) H hG) ?_
      rintro _ _ M3 ⟨rfl, hG4, a2, rfl, H⟩ _
      refine T_if_eq (pc' := 24) dX6_firstTrue_18 (by decide) (pf := 21) rfl (fun c5 => ?_) (fun c5 => ?_)
      · skip
        replace H := H.1 c5
        refine T_iinc (L' := [(2, 5), (2, 16), (0, (wr32 (v2 + 1)))]) (pc' := 27) dX6_firstTrue_24 rfl (by decide) rfl rfl ?_
        refine T_goto (pc' := 2) dX6_firstTrue_27 (by decide) ?_
        exact T_wk (L' := [(2, 5), (2, 16), (0, (wr32 (v2 + 1)))]) (ih _ _ H hG4) ⟨Or.inr rfl, Or.inr rfl, Or.inr rfl, trivial⟩
      · skip
        replace H := H.2 c5
        refine T_iload_n (i := 2) (pc' := 22) dX6_firstTrue_21 rfl rfl rfl ?_
        refine T_i2l (pc' := 23) dX6_firstTrue_22 rfl ?_
        exact T_lret dX6_firstTrue_23 rfl ⟨rfl, hG4, _, rfl, H⟩
set_option maxRecDepth 100000 in
set_option maxHeartbeats 2000000 in
theorem pX6_firstTrue {E : EV} {h : Int} {M : Mem}   {Q : Int → Mem → Prop} (H : PX6_firstTrue  M Q) : C2 E miX6_firstTrue 5 h [(2, 5), (2, 16)] M (RI 1 Q) := by
  refine C2_of (L := [(2, 5), (2, 16), (3, 0)]) (by decide +kernel) (Nat.le_of_ble_eq_true rfl) rfl (fun hG => ?_)
  refine T_iconst (pc' := 1) dX6_firstTrue_0 (by decide) rfl ?_
  refine T_istore_n (i := 2) (L' := [(2, 5), (2, 16), (0, 0)]) (pc' := 2) dX6_firstTrue_1 rfl (by decide) rfl rfl ?_
  obtain ⟨k1, H⟩ := H
  refine T_wk (L' := [(2, 5), (2, 16), (0, 0)]) (qX6_firstTrue_2  (fun M2 H hG3 => ?_) _ _ _ H hG) ⟨Or.inr rfl, Or.inr rfl, Or.inr rfl, trivial⟩
  refine T_ldc2 (n := (-1)) (pc' := 33) dX6_firstTrue_30 rfl kjX6_134 rfl (by decide) rfl ?_
  exact T_lret dX6_firstTrue_33 rfl ⟨rfl, hG3, _, rfl, H⟩
def PX6_howOften_5  (K : Int → Mem → Prop) (Q : Int → Mem → Prop) : Nat → Int → Int → Mem → Prop
  | 0 => fun _ _ _ => False
  | k + 1 => fun v2 v4 M => ((201 ≤ v4 → K v2 M) ∧ (¬ (201 ≤ v4) → PX5_run v4 M (fun a2 M3 => PX6_howOften_5  K Q k (if a2 = 0 then v2 else (wr64 (v2 + 1))) (wr32 (v4 + 1)) M3)))
def PX6_howOften  (M : Mem) (Q : Int → Mem → Prop) : Prop :=
  (∃ k1 : Nat, PX6_howOften_5 (fun u2 M3 => Q u2 M3) Q k1 0 0 M)
set_option maxRecDepth 100000 in
set_option maxHeartbeats 2000000 in
theorem qX6_howOften_5 {E : EV} {h : Int}   {K : Int → Mem → Prop} {Q : Int → Mem → Prop} (hK : ∀ (v2 : Int) (M : Mem), K v2 M → G h M → TG E miX6_howOften 5 h (RI 1 Q) 36 [(2, 5), (3, 0), (1, v2), (3, 0), (3, 0)] [] M) : ∀ (k : Nat) (v2 v4 : Int) (M : Mem), PX6_howOften_5  K Q k v2 v4 M → G h M → TG E miX6_howOften 5 h (RI 1 Q) 5 [(2, 5), (2, 16), (1, v2), (3, 0), (0, v4)] [] M := by
  intro k
  induction k with
  | zero =>
    intro v2 v4 M H
    exact False.elim H
  | succ k ih =>
    intro v2 v4 M H hG
    refine T_iload (i := 4) (pc' := 7) dX6_howOften_5 rfl rfl ?_
    refine T_sipush (pc' := 10) dX6_howOften_7 rfl (by decide) rfl ?_
    refine T_icmp_ge (pc' := 36) dX6_howOften_10 (by decide) (pf := 13) rfl (fun c1 => ?_) (fun c1 => ?_)
    · skip
      replace H := H.1 c1
      exact T_wk (L' := [(2, 5), (3, 0), (1, v2), (3, 0), (3, 0)]) (hK _ _ H hG) ⟨Or.inr rfl, Or.inl rfl, Or.inr rfl, Or.inl rfl, Or.inl rfl, trivial⟩
    · skip
      replace H := H.2 c1
      refine T_aload_n (i := 0) (pc' := 14) dX6_howOften_13 rfl rfl rfl ?_
      refine U_gr (q := 6) (k := 1) (kI := 1) (pc' := 17) dX6_howOften_14 rfl cl6 (by decide) rfl (by decide) flX6_18 rfl rfl rfl (G_at hG 13 rfl) (by decide) rfl ?_
      refine T_aload_n (i := 1) (pc' := 18) dX6_howOften_17 rfl rfl rfl ?_
      refine T_iload (i := 4) (pc' := 20) dX6_howOften_18 rfl rfl ?_
      refine T_callV (av := [(2, 16), (0, v4)]) (st := []) (d2 := 4) (nc2 := 0) (ns2 := 0) (pc' := 23) dX6_howOften_20 rfl mtX5_run mvX5_run mlX6_130 cl5 rfl rfl rfl (Nat.le_of_ble_eq_true rfl) (by decide) ⟨by decide, by decide⟩ rfl (pX5_run (E := E) (h := h) (M := M) (v2 := v4) H hG) ?_
      rintro _ _ M3 ⟨rfl, hG4, a2, rfl, H⟩ _
      have HJ5 : T E miX6_howOften 5 126 0 0 (fun r S M' => S = S0 ∧ G h M' ∧ RI 1 Q r M') 30 [(2, 5), (2, 16), (1, (if a2 = 0 then v2 else (wr64 (v2 + 1)))), (3, 0), (0, v4)] [] S0 M3 0 0 := by
        refine T_iinc (L' := [(2, 5), (2, 16), (1, (if a2 = 0 then v2 else (wr64 (v2 + 1)))), (3, 0), (0, (wr32 (v4 + 1)))]) (pc' := 33) dX6_howOften_30 rfl (by decide) rfl rfl ?_
        refine T_goto (pc' := 5) dX6_howOften_33 (by decide) ?_
        exact T_wk (L' := [(2, 5), (2, 16), (1, (if a2 = 0 then v2 else (wr64 (v2 + 1)))), (3, 0), (0, (wr32 (v4 + 1)))]) (ih _ _ _ H hG4) ⟨Or.inr rfl, Or.inr rfl, Or.inr rfl, Or.inl rfl, Or.inr rfl, trivial⟩
      refine T_if_eq (pc' := 30) dX6_howOften_23 (by decide) (pf := 26) rfl (fun c6 => ?_) (fun c6 => ?_)
      · skip
        exact T_wk (L' := [(2, 5), (2, 16), (1, v2), (3, 0), (0, v4)]) (by have q := HJ5; try simp only [if_pos c6] at q ⊢; exact q) ⟨Or.inr rfl, Or.inr rfl, Or.inr rfl, Or.inl rfl, Or.inr rfl, trivial⟩
      · skip
        refine T_lload_n (i := 2) (pc' := 27) dX6_howOften_26 rfl rfl rfl ?_
        refine T_lconst (v := 1) (pc' := 28) dX6_howOften_27 rfl (by decide) rfl ?_
        refine T_ladd (pc' := 29) dX6_howOften_28 rfl ?_
        refine T_lstore_n (i := 2) (L' := [(2, 5), (2, 16), (1, (wr64 (v2 + 1))), (3, 0), (0, v4)]) (pc' := 30) dX6_howOften_29 rfl (by decide) rfl rfl ?_
        exact T_wk (L' := [(2, 5), (2, 16), (1, (wr64 (v2 + 1))), (3, 0), (0, v4)]) (by have q := HJ5; try simp only [if_neg c6] at q ⊢; exact q) ⟨Or.inr rfl, Or.inr rfl, Or.inr rfl, Or.inl rfl, Or.inr rfl, trivial⟩
set_option maxRecDepth 100000 in
set_option maxHeartbeats 2000000 in
theorem pX6_howOften {E : EV} {h : Int} {M : Mem}   {Q : Int → Mem → Prop} (H : PX6_howOften  M Q) : C2 E miX6_howOften 5 h [(2, 5), (2, 16)] M (RI 1 Q) := by
  refine C2_of (L := [(2, 5), (2, 16), (3, 0), (3, 0), (3, 0)]) (by decide +kernel) (Nat.le_of_ble_eq_true rfl) rfl (fun hG => ?_)
  refine T_lconst (v := 0) (pc' := 1) dX6_howOften_0 rfl (by decide) rfl ?_
  refine T_lstore_n (i := 2) (L' := [(2, 5), (2, 16), (1, 0), (3, 0), (3, 0)]) (pc' := 2) dX6_howOften_1 rfl (by decide) rfl rfl ?_
  refine T_iconst (pc' := 3) dX6_howOften_2 (by decide) rfl ?_
  refine T_istore (i := 4) (L' := [(2, 5), (2, 16), (1, 0), (3, 0), (0, 0)]) (pc' := 5) dX6_howOften_3 (by decide) rfl rfl ?_
  obtain ⟨k1, H⟩ := H
  refine T_wk (L' := [(2, 5), (2, 16), (1, 0), (3, 0), (0, 0)]) (qX6_howOften_5  (fun u2 M3 H hG4 => ?_) _ _ _ _ H hG) ⟨Or.inr rfl, Or.inr rfl, Or.inr rfl, Or.inl rfl, Or.inr rfl, trivial⟩
  refine T_lload_n (i := 2) (pc' := 37) dX6_howOften_36 rfl rfl rfl ?_
  exact T_lret dX6_howOften_37 rfl ⟨rfl, hG4, _, rfl, H⟩
def PX6_lastTrue_4  (K : Mem → Prop) (Q : Int → Mem → Prop) : Nat → Int → Mem → Prop
  | 0 => fun _ _ => False
  | k + 1 => fun v2 M => ((v2 < 0 → K M) ∧ (¬ (v2 < 0) → PX5_run v2 M (fun a2 M3 => ((a2 = 0 → PX6_lastTrue_4  K Q k (wr32 (v2 + (-1))) M3) ∧ (¬ (a2 = 0) → Q v2 M3)))))
def PX6_lastTrue  (M : Mem) (Q : Int → Mem → Prop) : Prop :=
  (∃ k1 : Nat, PX6_lastTrue_4 (fun M2 => Q (-1) M2) Q k1 200 M)
set_option maxRecDepth 100000 in
set_option maxHeartbeats 2000000 in
theorem qX6_lastTrue_4 {E : EV} {h : Int}   {K : Mem → Prop} {Q : Int → Mem → Prop} (hK : ∀ (M : Mem), K M → G h M → TG E miX6_lastTrue 5 h (RI 1 Q) 29 [(2, 5), (3, 0), (3, 0)] [] M) : ∀ (k : Nat) (v2 : Int) (M : Mem), PX6_lastTrue_4  K Q k v2 M → G h M → TG E miX6_lastTrue 5 h (RI 1 Q) 4 [(2, 5), (2, 16), (0, v2)] [] M := by
  intro k
  induction k with
  | zero =>
    intro v2 M H
    exact False.elim H
  | succ k ih =>
    intro v2 M H hG
    refine T_iload_n (i := 2) (pc' := 5) dX6_lastTrue_4 rfl rfl rfl ?_
    refine T_if_lt (pc' := 29) dX6_lastTrue_5 (by decide) (pf := 8) rfl (fun c1 => ?_) (fun c1 => ?_)
    · skip
      replace H := H.1 c1
      exact T_wk (L' := [(2, 5), (3, 0), (3, 0)]) (hK _ H hG) ⟨Or.inr rfl, Or.inl rfl, Or.inl rfl, trivial⟩
    · skip
      replace H := H.2 c1
      refine T_aload_n (i := 0) (pc' := 9) dX6_lastTrue_8 rfl rfl rfl ?_
      refine U_gr (q := 6) (k := 1) (kI := 1) (pc' := 12) dX6_lastTrue_9 rfl cl6 (by decide) rfl (by decide) flX6_18 rfl rfl rfl (G_at hG 13 rfl) (by decide) rfl ?_
      refine T_aload_n (i := 1) (pc' := 13) dX6_lastTrue_12 rfl rfl rfl ?_
      refine T_iload_n (i := 2) (pc' := 14) dX6_lastTrue_13 rfl rfl rfl ?_
      refine T_callV (av := [(2, 16), (0, v2)]) (st := []) (d2 := 4) (nc2 := 0) (ns2 := 0) (pc' := 17) dX6_lastTrue_14 rfl mtX5_run mvX5_run mlX6_130 cl5 rfl rfl rfl (Nat.le_of_ble_eq_true rfl) (by decide) ⟨by decide, by decide⟩ rfl (pX5_run (E := E) (h := h) (M := M) (v2 := v2) H hG) ?_
      rintro _ _ M3 ⟨rfl, hG4, a2, rfl, H⟩ _
      refine T_if_eq (pc' := 23) dX6_lastTrue_17 (by decide) (pf := 20) rfl (fun c5 => ?_) (fun c5 => ?_)
      · skip
        replace H := H.1 c5
        refine T_iinc (L' := [(2, 5), (2, 16), (0, (wr32 (v2 + (-1))))]) (pc' := 26) dX6_lastTrue_23 rfl (by decide) rfl rfl ?_
        refine T_goto (pc' := 4) dX6_lastTrue_26 (by decide) ?_
        exact T_wk (L' := [(2, 5), (2, 16), (0, (wr32 (v2 + (-1))))]) (ih _ _ H hG4) ⟨Or.inr rfl, Or.inr rfl, Or.inr rfl, trivial⟩
      · skip
        replace H := H.2 c5
        refine T_iload_n (i := 2) (pc' := 21) dX6_lastTrue_20 rfl rfl rfl ?_
        refine T_i2l (pc' := 22) dX6_lastTrue_21 rfl ?_
        exact T_lret dX6_lastTrue_22 rfl ⟨rfl, hG4, _, rfl, H⟩
set_option maxRecDepth 100000 in
set_option maxHeartbeats 2000000 in
theorem pX6_lastTrue {E : EV} {h : Int} {M : Mem}   {Q : Int → Mem → Prop} (H : PX6_lastTrue  M Q) : C2 E miX6_lastTrue 5 h [(2, 5), (2, 16)] M (RI 1 Q) := by
  refine C2_of (L := [(2, 5), (2, 16), (3, 0)]) (by decide +kernel) (Nat.le_of_ble_eq_true rfl) rfl (fun hG => ?_)
  refine T_sipush (pc' := 3) dX6_lastTrue_0 rfl (by decide) rfl ?_
  refine T_istore_n (i := 2) (L' := [(2, 5), (2, 16), (0, 200)]) (pc' := 4) dX6_lastTrue_3 rfl (by decide) rfl rfl ?_
  obtain ⟨k1, H⟩ := H
  refine T_wk (L' := [(2, 5), (2, 16), (0, 200)]) (qX6_lastTrue_4  (fun M2 H hG3 => ?_) _ _ _ H hG) ⟨Or.inr rfl, Or.inr rfl, Or.inr rfl, trivial⟩
  refine T_ldc2 (n := (-1)) (pc' := 32) dX6_lastTrue_29 rfl kjX6_134 rfl (by decide) rfl ?_
  exact T_lret dX6_lastTrue_32 rfl ⟨rfl, hG3, _, rfl, H⟩
def PX6_total_5  (K : Int → Mem → Prop) (Q : Int → Mem → Prop) : Nat → Int → Int → Mem → Prop
  | 0 => fun _ _ _ => False
  | k + 1 => fun v2 v4 M => ((201 ≤ v4 → K v2 M) ∧ (¬ (201 ≤ v4) → PX5_run v4 M (fun a2 M3 => PX6_total_5  K Q k (wr64 (v2 + a2)) (wr32 (v4 + 1)) M3)))
def PX6_total  (M : Mem) (Q : Int → Mem → Prop) : Prop :=
  (∃ k1 : Nat, PX6_total_5 (fun u2 M3 => Q u2 M3) Q k1 0 0 M)
set_option maxRecDepth 100000 in
set_option maxHeartbeats 2000000 in
theorem qX6_total_5 {E : EV} {h : Int}   {K : Int → Mem → Prop} {Q : Int → Mem → Prop} (hK : ∀ (v2 : Int) (M : Mem), K v2 M → G h M → TG E miX6_total 5 h (RI 1 Q) 33 [(2, 5), (3, 0), (1, v2), (3, 0), (3, 0)] [] M) : ∀ (k : Nat) (v2 v4 : Int) (M : Mem), PX6_total_5  K Q k v2 v4 M → G h M → TG E miX6_total 5 h (RI 1 Q) 5 [(2, 5), (2, 16), (1, v2), (3, 0), (0, v4)] [] M := by
  intro k
  induction k with
  | zero =>
    intro v2 v4 M H
    exact False.elim H
  | succ k ih =>
    intro v2 v4 M H hG
    refine T_iload (i := 4) (pc' := 7) dX6_total_5 rfl rfl ?_
    refine T_sipush (pc' := 10) dX6_total_7 rfl (by decide) rfl ?_
    refine T_icmp_ge (pc' := 33) dX6_total_10 (by decide) (pf := 13) rfl (fun c1 => ?_) (fun c1 => ?_)
    · skip
      replace H := H.1 c1
      exact T_wk (L' := [(2, 5), (3, 0), (1, v2), (3, 0), (3, 0)]) (hK _ _ H hG) ⟨Or.inr rfl, Or.inl rfl, Or.inr rfl, Or.inl rfl, Or.inl rfl, trivial⟩
    · skip
      replace H := H.2 c1
      refine T_lload_n (i := 2) (pc' := 14) dX6_total_13 rfl rfl rfl ?_
      refine T_aload_n (i := 0) (pc' := 15) dX6_total_14 rfl rfl rfl ?_
      refine U_gr (q := 6) (k := 1) (kI := 1) (pc' := 18) dX6_total_15 rfl cl6 (by decide) rfl (by decide) flX6_18 rfl rfl rfl (G_at hG 13 rfl) (by decide) rfl ?_
      refine T_aload_n (i := 1) (pc' := 19) dX6_total_18 rfl rfl rfl ?_
      refine T_iload (i := 4) (pc' := 21) dX6_total_19 rfl rfl ?_
      refine T_callV (av := [(2, 16), (0, v4)]) (st := [(1, v2)]) (d2 := 4) (nc2 := 0) (ns2 := 0) (pc' := 24) dX6_total_21 rfl mtX5_run mvX5_run mlX6_130 cl5 rfl rfl rfl (Nat.le_of_ble_eq_true rfl) (by decide) ⟨by decide, by decide⟩ rfl (pX5_run (E := E) (h := h) (M := M) (v2 := v4) H hG) ?_
      rintro _ _ M3 ⟨rfl, hG4, a2, rfl, H⟩ _
      refine T_i2l (pc' := 25) dX6_total_24 rfl ?_
      refine T_ladd (pc' := 26) dX6_total_25 rfl ?_
      refine T_lstore_n (i := 2) (L' := [(2, 5), (2, 16), (1, (wr64 (v2 + a2))), (3, 0), (0, v4)]) (pc' := 27) dX6_total_26 rfl (by decide) rfl rfl ?_
      refine T_iinc (L' := [(2, 5), (2, 16), (1, (wr64 (v2 + a2))), (3, 0), (0, (wr32 (v4 + 1)))]) (pc' := 30) dX6_total_27 rfl (by decide) rfl rfl ?_
      refine T_goto (pc' := 5) dX6_total_30 (by decide) ?_
      exact T_wk (L' := [(2, 5), (2, 16), (1, (wr64 (v2 + a2))), (3, 0), (0, (wr32 (v4 + 1)))]) (ih _ _ _ H hG4) ⟨Or.inr rfl, Or.inr rfl, Or.inr rfl, Or.inl rfl, Or.inr rfl, trivial⟩
set_option maxRecDepth 100000 in
set_option maxHeartbeats 2000000 in
theorem pX6_total {E : EV} {h : Int} {M : Mem}   {Q : Int → Mem → Prop} (H : PX6_total  M Q) : C2 E miX6_total 5 h [(2, 5), (2, 16)] M (RI 1 Q) := by
  refine C2_of (L := [(2, 5), (2, 16), (3, 0), (3, 0), (3, 0)]) (by decide +kernel) (Nat.le_of_ble_eq_true rfl) rfl (fun hG => ?_)
  refine T_lconst (v := 0) (pc' := 1) dX6_total_0 rfl (by decide) rfl ?_
  refine T_lstore_n (i := 2) (L' := [(2, 5), (2, 16), (1, 0), (3, 0), (3, 0)]) (pc' := 2) dX6_total_1 rfl (by decide) rfl rfl ?_
  refine T_iconst (pc' := 3) dX6_total_2 (by decide) rfl ?_
  refine T_istore (i := 4) (L' := [(2, 5), (2, 16), (1, 0), (3, 0), (0, 0)]) (pc' := 5) dX6_total_3 (by decide) rfl rfl ?_
  obtain ⟨k1, H⟩ := H
  refine T_wk (L' := [(2, 5), (2, 16), (1, 0), (3, 0), (0, 0)]) (qX6_total_5  (fun u2 M3 H hG4 => ?_) _ _ _ _ H hG) ⟨Or.inr rfl, Or.inr rfl, Or.inr rfl, Or.inl rfl, Or.inr rfl, trivial⟩
  refine T_lload_n (i := 2) (pc' := 34) dX6_total_33 rfl rfl rfl ?_
  exact T_lret dX6_total_34 rfl ⟨rfl, hG4, _, rfl, H⟩
def PX6_answer  (M : Mem) (Q : Int → Mem → Prop) : Prop :=
  (((M 5 2) = 0 → PX6_firstTrue M (fun a2 M3 => Q a2 M3)) ∧ (¬ ((M 5 2) = 0) → (((M 5 2) = 1 → PX6_lastTrue M (fun a6 M7 => Q a6 M7)) ∧ (¬ ((M 5 2) = 1) → (((M 5 2) = 2 → PX6_howOften M (fun a10 M11 => Q a10 M11)) ∧ (¬ ((M 5 2) = 2) → (((M 5 2) = 3 → PX6_total M (fun a14 M15 => Q a14 M15)) ∧ (¬ ((M 5 2) = 3) → PX6_extreme (if (M 5 2) = 4 then (1 : Int) else 0) M (fun a18 M19 => Q a18 M19)))))))))
set_option maxRecDepth 100000 in
set_option maxHeartbeats 2000000 in
theorem pX6_answer {E : EV} {h : Int} {M : Mem}   {Q : Int → Mem → Prop} (H : PX6_answer  M Q) : C2 E miX6_answer 6 h [(2, 5), (2, 16)] M (RI 1 Q) := by
  refine C2_of (L := [(2, 5), (2, 16)]) (by decide +kernel) (Nat.le_of_ble_eq_true rfl) rfl (fun hG => ?_)
  refine T_aload_n (i := 0) (pc' := 1) dX6_answer_0 rfl rfl rfl ?_
  refine U_gf (v := (0, (M 5 2))) (k := 2) (kI := 2) (pc' := 4) dX6_answer_1 rfl cl6 (by decide) rfl (by decide) flX6_22 rfl rfl (by decide) rfl rfl ?_
  by_cases c1 : (M 5 2) = 0
  · skip
    replace H := H.1 c1
    refine T_tableIn (pc' := 36) dX6_answer_4 (by omega) (by omega) (by rw [c1]; rfl) (by decide) ?_
    refine T_aload_n (i := 0) (pc' := 37) dX6_answer_36 rfl rfl rfl ?_
    refine T_aload_n (i := 1) (pc' := 38) dX6_answer_37 rfl rfl rfl ?_
    refine T_callV (av := [(2, 16)]) (st := []) (d2 := 5) (nc2 := 0) (ns2 := 0) (pc' := 41) dX6_answer_38 rfl mtX6_firstTrue mvX6_firstTrue mlX6_113 cl6 rfl rfl rfl (Nat.le_of_ble_eq_true rfl) (by decide) ⟨by decide, by decide⟩ rfl (pX6_firstTrue (E := E) (h := h) (M := M) H hG) ?_
    rintro _ _ M3 ⟨rfl, hG4, a2, rfl, H⟩ _
    exact T_lret dX6_answer_41 rfl ⟨rfl, hG4, _, rfl, H⟩
  · skip
    replace H := H.2 c1
    by_cases c5 : (M 5 2) = 1
    · skip
      replace H := H.1 c5
      refine T_tableIn (pc' := 42) dX6_answer_4 (by omega) (by omega) (by rw [c5]; rfl) (by decide) ?_
      refine T_aload_n (i := 0) (pc' := 43) dX6_answer_42 rfl rfl rfl ?_
      refine T_aload_n (i := 1) (pc' := 44) dX6_answer_43 rfl rfl rfl ?_
      refine T_callV (av := [(2, 16)]) (st := []) (d2 := 5) (nc2 := 0) (ns2 := 0) (pc' := 47) dX6_answer_44 rfl mtX6_lastTrue mvX6_lastTrue mlX6_117 cl6 rfl rfl rfl (Nat.le_of_ble_eq_true rfl) (by decide) ⟨by decide, by decide⟩ rfl (pX6_lastTrue (E := E) (h := h) (M := M) H hG) ?_
      rintro _ _ M7 ⟨rfl, hG8, a6, rfl, H⟩ _
      exact T_lret dX6_answer_47 rfl ⟨rfl, hG8, _, rfl, H⟩
    · skip
      replace H := H.2 c5
      by_cases c9 : (M 5 2) = 2
      · skip
        replace H := H.1 c9
        refine T_tableIn (pc' := 48) dX6_answer_4 (by omega) (by omega) (by rw [c9]; rfl) (by decide) ?_
        refine T_aload_n (i := 0) (pc' := 49) dX6_answer_48 rfl rfl rfl ?_
        refine T_aload_n (i := 1) (pc' := 50) dX6_answer_49 rfl rfl rfl ?_
        refine T_callV (av := [(2, 16)]) (st := []) (d2 := 5) (nc2 := 0) (ns2 := 0) (pc' := 53) dX6_answer_50 rfl mtX6_howOften mvX6_howOften mlX6_120 cl6 rfl rfl rfl (Nat.le_of_ble_eq_true rfl) (by decide) ⟨by decide, by decide⟩ rfl (pX6_howOften (E := E) (h := h) (M := M) H hG) ?_
        rintro _ _ M11 ⟨rfl, hG12, a10, rfl, H⟩ _
        exact T_lret dX6_answer_53 rfl ⟨rfl, hG12, _, rfl, H⟩
      · skip
        replace H := H.2 c9
        by_cases c13 : (M 5 2) = 3
        · skip
          replace H := H.1 c13
          refine T_tableIn (pc' := 54) dX6_answer_4 (by omega) (by omega) (by rw [c13]; rfl) (by decide) ?_
          refine T_aload_n (i := 0) (pc' := 55) dX6_answer_54 rfl rfl rfl ?_
          refine T_aload_n (i := 1) (pc' := 56) dX6_answer_55 rfl rfl rfl ?_
          refine T_callV (av := [(2, 16)]) (st := []) (d2 := 5) (nc2 := 0) (ns2 := 0) (pc' := 59) dX6_answer_56 rfl mtX6_total mvX6_total mlX6_123 cl6 rfl rfl rfl (Nat.le_of_ble_eq_true rfl) (by decide) ⟨by decide, by decide⟩ rfl (pX6_total (E := E) (h := h) (M := M) H hG) ?_
          rintro _ _ M15 ⟨rfl, hG16, a14, rfl, H⟩ _
          exact T_lret dX6_answer_59 rfl ⟨rfl, hG16, _, rfl, H⟩
        · skip
          replace H := H.2 c13
          refine T_tableOut (pc' := 60) dX6_answer_4 (by omega) (by decide) ?_
          refine T_aload_n (i := 0) (pc' := 61) dX6_answer_60 rfl rfl rfl ?_
          refine T_aload_n (i := 1) (pc' := 62) dX6_answer_61 rfl rfl rfl ?_
          refine T_aload_n (i := 0) (pc' := 63) dX6_answer_62 rfl rfl rfl ?_
          refine U_gf (v := (0, (M 5 2))) (k := 2) (kI := 2) (pc' := 66) dX6_answer_63 rfl cl6 (by decide) rfl (by decide) flX6_22 rfl rfl (by decide) rfl rfl ?_
          refine T_iconst (pc' := 67) dX6_answer_66 (by decide) rfl ?_
          have HJ17 : T E miX6_answer 6 126 0 0 (fun r S M' => S = S0 ∧ G h M' ∧ RI 1 Q r M') 75 [(3, 0), (3, 0)] [(0, (if (M 5 2) = 4 then (1 : Int) else 0)), (2, 16), (2, 5)] S0 M 0 0 := by
            refine T_callV (av := [(2, 16), (0, (if (M 5 2) = 4 then (1 : Int) else 0))]) (st := []) (d2 := 5) (nc2 := 0) (ns2 := 0) (pc' := 78) dX6_answer_75 rfl mtX6_extreme mvX6_extreme mlX6_126 cl6 rfl rfl rfl (Nat.le_of_ble_eq_true rfl) (by decide) ⟨by decide, by decide⟩ rfl (pX6_extreme (E := E) (h := h) (M := M) (v2 := (if (M 5 2) = 4 then (1 : Int) else 0)) H hG) ?_
            rintro _ _ M19 ⟨rfl, hG20, a18, rfl, H⟩ _
            exact T_lret dX6_answer_78 rfl ⟨rfl, hG20, _, rfl, H⟩
          refine T_icmp_ne (pc' := 74) dX6_answer_67 (by decide) (pf := 70) rfl (fun c21 => ?_) (fun c21 => ?_)
          · skip
            refine T_iconst (pc' := 75) dX6_answer_74 (by decide) rfl ?_
            exact T_wk (L' := [(3, 0), (3, 0)]) (by have q := HJ17; try simp only [if_neg c21] at q ⊢; exact q) ⟨Or.inl rfl, Or.inl rfl, trivial⟩
          · skip
            refine T_iconst (pc' := 71) dX6_answer_70 (by decide) rfl ?_
            refine T_goto (pc' := 75) dX6_answer_71 (by decide) ?_
            exact T_wk (L' := [(3, 0), (3, 0)]) (by have q := HJ17; try simp only [if_pos c21] at q ⊢; exact q) ⟨Or.inl rfl, Or.inl rfl, trivial⟩
def PX7_fillSight_37 (g : Int) (v4 : Int) (v6 : Int) (K : Int → Mem → Prop) (Q : Int → Mem → Prop) : Nat → Int → Int → Mem → Prop
  | 0 => fun _ _ _ => False
  | k + 1 => fun v7 v8 M => (((M (g + 1) 8) ≤ v8 → K v7 M) ∧ (¬ ((M (g + 1) 8) ≤ v8) → PX7_fillSight_37 g v4 v6 K Q k (if (m_cmp (m_land (m_lshr v4 (fX7_walkCell M v8 v6)) 1) 1) = 0 then (m_or v7 (m_shl 1 v8)) else v7) (wr32 (v8 + 1)) M))
def PX7_fillSight_25 (g : Int) (v2 : Int) (v3 : Int) (v4 : Int) (K : Mem → Prop) (Q : Int → Mem → Prop) : Nat → Int → Mem → Prop
  | 0 => fun _ _ => False
  | k + 1 => fun v6 M => ((v3 ≤ v6 → K M) ∧ (¬ (v3 ≤ v6) → (∃ k2 : Nat, PX7_fillSight_37 g v4 v6 (fun u3 M4 => (∀ M7 : Mem, M7 = (fmX11_put M4 11 804 (wr32 ((wr32 (v2 * 201)) + v6)) u3) → PX7_fillSight_25 g v2 v3 v4 K Q k (wr32 (v6 + 1)) M7)) Q k2 0 0 M)))
def PX7_fillSight (g : Int) (v2 : Int) (v3 : Int) (M : Mem) (Q : Int → Mem → Prop) : Prop :=
  (∀ a4 : Int, a4 = (fX1_cellsAround M g (fX11_get M (g + 13) 4 v2) (fX11_get M (g + 14) 4 v2)) → (∃ k5 : Nat, PX7_fillSight_25 g v2 v3 a4 (fun M6 => Q 0 M6) Q k5 0 M))
set_option maxRecDepth 100000 in
set_option maxHeartbeats 2000000 in
theorem qX7_fillSight_37 {E : EV} {h : Int} {g : Int} {v2 : Int} {v3 : Int} {v4 : Int} {v6 : Int} (hg : isG g) {K : Int → Mem → Prop} {Q : Int → Mem → Prop} (hK : ∀ (v7 : Int) (M : Mem), K v7 M → G h M → TG E miX7_fillSight 4 h (RV Q) 82 [(2, 9), (2, g), (0, v2), (0, v3), (1, v4), (3, 0), (0, v6), (0, v7), (3, 0)] [] M) : ∀ (k : Nat) (v7 v8 : Int) (M : Mem), PX7_fillSight_37 g v4 v6 K Q k v7 v8 M → G h M → TG E miX7_fillSight 4 h (RV Q) 37 [(2, 9), (2, g), (0, v2), (0, v3), (1, v4), (3, 0), (0, v6), (0, v7), (0, v8)] [] M := by
  intro k
  induction k with
  | zero =>
    intro v7 v8 M H
    exact False.elim H
  | succ k ih =>
    intro v7 v8 M H hG
    refine T_iload (i := 8) (pc' := 39) dX7_fillSight_37 rfl rfl ?_
    refine T_aload_n (i := 1) (pc' := 40) dX7_fillSight_39 rfl rfl rfl ?_
    refine U_grN (q := (g + 1)) (k := 0) (kI := 0) (pc' := 43) dX7_fillSight_40 rfl cl1 (pog0 hg) (shg0 hg) (by decide) flX7_46 rfl rfl rfl (grg0_0 hg hG) (pog1 hg) rfl ?_
    refine U_gfN (v := (0, (M (g + 1) 8))) (k := 8) (kI := 8) (pc' := 46) dX7_fillSight_43 rfl cl4 (pog1 hg) (shg1 hg) (by decide) flX7_52 rfl rfl (by decide) rfl rfl ?_
    refine T_icmp_ge (pc' := 82) dX7_fillSight_46 (by decide) (pf := 49) rfl (fun c1 => ?_) (fun c1 => ?_)
    · skip
      replace H := H.1 c1
      exact T_wk (L' := [(2, 9), (2, g), (0, v2), (0, v3), (1, v4), (3, 0), (0, v6), (0, v7), (3, 0)]) (hK _ _ H hG) ⟨Or.inr rfl, Or.inr rfl, Or.inr rfl, Or.inr rfl, Or.inr rfl, Or.inl rfl, Or.inr rfl, Or.inr rfl, Or.inl rfl, trivial⟩
    · skip
      replace H := H.2 c1
      refine T_lload (i := 4) (pc' := 51) dX7_fillSight_49 rfl rfl ?_
      refine T_aload_n (i := 0) (pc' := 52) dX7_fillSight_51 rfl rfl rfl ?_
      refine T_iload (i := 8) (pc' := 54) dX7_fillSight_52 rfl rfl ?_
      refine T_iload (i := 6) (pc' := 56) dX7_fillSight_54 rfl rfl ?_
      refine T_callV (av := [(0, v8), (0, v6)]) (st := [(1, v4)]) (d2 := 2) (nc2 := 0) (ns2 := 0) (pc' := 59) dX7_fillSight_56 rfl mtX7_walkCell mvX7_walkCell mlX7_96 cl7 rfl rfl rfl (Nat.le_of_ble_eq_true rfl) (by decide) ⟨by decide, by decide⟩ rfl (pX7_walkCell (E := E) (h := h) (M := M) (v1 := v8) (v2 := v6) hG) (kF (st2 := [(0, (fX7_walkCell M v8 v6)), (1, v4)]) rfl (fun hG2 => ?_))
      refine T_lshr (pc' := 60) dX7_fillSight_59 rfl ?_
      refine T_lconst (v := 1) (pc' := 61) dX7_fillSight_60 rfl (by decide) rfl ?_
      refine T_land (pc' := 62) dX7_fillSight_61 rfl ?_
      refine T_lconst (v := 1) (pc' := 63) dX7_fillSight_62 rfl (by decide) rfl ?_
      refine T_lcmp (pc' := 64) dX7_fillSight_63 rfl ?_
      have HJ3 : T E miX7_fillSight 4 126 0 0 (fun r S M' => S = S0 ∧ G h M' ∧ RV Q r M') 76 [(2, 9), (2, g), (0, v2), (0, v3), (1, v4), (3, 0), (0, v6), (0, (if (m_cmp (m_land (m_lshr v4 (fX7_walkCell M v8 v6)) 1) 1) = 0 then (m_or v7 (m_shl 1 v8)) else v7)), (0, v8)] [] S0 M 0 0 := by
        refine T_iinc (L' := [(2, 9), (2, g), (0, v2), (0, v3), (1, v4), (3, 0), (0, v6), (0, (if (m_cmp (m_land (m_lshr v4 (fX7_walkCell M v8 v6)) 1) 1) = 0 then (m_or v7 (m_shl 1 v8)) else v7)), (0, (wr32 (v8 + 1)))]) (pc' := 79) dX7_fillSight_76 rfl (by decide) rfl rfl ?_
        refine T_goto (pc' := 37) dX7_fillSight_79 (by decide) ?_
        exact T_wk (L' := [(2, 9), (2, g), (0, v2), (0, v3), (1, v4), (3, 0), (0, v6), (0, (if (m_cmp (m_land (m_lshr v4 (fX7_walkCell M v8 v6)) 1) 1) = 0 then (m_or v7 (m_shl 1 v8)) else v7)), (0, (wr32 (v8 + 1)))]) (ih _ _ _ H hG) ⟨Or.inr rfl, Or.inr rfl, Or.inr rfl, Or.inr rfl, Or.inr rfl, Or.inl rfl, Or.inr rfl, Or.inr rfl, Or.inr rfl, trivial⟩
      refine T_if_ne (pc' := 76) dX7_fillSight_64 (by decide) (pf := 67) rfl (fun c4 => ?_) (fun c4 => ?_)
      · skip
        exact T_wk (L' := [(2, 9), (2, g), (0, v2), (0, v3), (1, v4), (3, 0), (0, v6), (0, v7), (0, v8)]) (by have q := HJ3; try simp only [if_neg c4] at q ⊢; exact q) ⟨Or.inr rfl, Or.inr rfl, Or.inr rfl, Or.inr rfl, Or.inr rfl, Or.inl rfl, Or.inr rfl, Or.inr rfl, Or.inr rfl, trivial⟩
      · skip
        refine T_iload (i := 7) (pc' := 69) dX7_fillSight_67 rfl rfl ?_
        refine T_iconst (pc' := 70) dX7_fillSight_69 (by decide) rfl ?_
        refine T_iload (i := 8) (pc' := 72) dX7_fillSight_70 rfl rfl ?_
        refine T_ishl (pc' := 73) dX7_fillSight_72 rfl ?_
        refine T_ior (pc' := 74) dX7_fillSight_73 rfl ?_
        refine T_istore (i := 7) (L' := [(2, 9), (2, g), (0, v2), (0, v3), (1, v4), (3, 0), (0, v6), (0, (m_or v7 (m_shl 1 v8))), (0, v8)]) (pc' := 76) dX7_fillSight_74 (by decide) rfl rfl ?_
        exact T_wk (L' := [(2, 9), (2, g), (0, v2), (0, v3), (1, v4), (3, 0), (0, v6), (0, (m_or v7 (m_shl 1 v8))), (0, v8)]) (by have q := HJ3; try simp only [if_pos c4] at q ⊢; exact q) ⟨Or.inr rfl, Or.inr rfl, Or.inr rfl, Or.inr rfl, Or.inr rfl, Or.inl rfl, Or.inr rfl, Or.inr rfl, Or.inr rfl, trivial⟩
set_option maxRecDepth 100000 in
set_option maxHeartbeats 2000000 in
theorem qX7_fillSight_25 {E : EV} {h : Int} {g : Int} {v2 : Int} {v3 : Int} {v4 : Int} (hg : isG g) {K : Mem → Prop} {Q : Int → Mem → Prop} (hK : ∀ (M : Mem), K M → G h M → TG E miX7_fillSight 4 h (RV Q) 105 [(2, 9), (3, 0), (3, 0), (3, 0), (3, 0), (3, 0), (3, 0), (3, 0), (3, 0)] [] M) : ∀ (k : Nat) (v6 : Int) (M : Mem), PX7_fillSight_25 g v2 v3 v4 K Q k v6 M → G h M → TG E miX7_fillSight 4 h (RV Q) 25 [(2, 9), (2, g), (0, v2), (0, v3), (1, v4), (3, 0), (0, v6), (3, 0), (3, 0)] [] M := by
  intro k
  induction k with
  | zero =>
    intro v6 M H
    exact False.elim H
  | succ k ih =>
    intro v6 M H hG
    refine T_iload (i := 6) (pc' := 27) dX7_fillSight_25 rfl rfl ?_
    refine T_iload_n (i := 3) (pc' := 28) dX7_fillSight_27 rfl rfl rfl ?_
    refine T_icmp_ge (pc' := 105) dX7_fillSight_28 (by decide) (pf := 31) rfl (fun c1 => ?_) (fun c1 => ?_)
    · skip
      replace H := H.1 c1
      exact T_wk (L' := [(2, 9), (3, 0), (3, 0), (3, 0), (3, 0), (3, 0), (3, 0), (3, 0), (3, 0)]) (hK _ H hG) ⟨Or.inr rfl, Or.inl rfl, Or.inl rfl, Or.inl rfl, Or.inl rfl, Or.inl rfl, Or.inl rfl, Or.inl rfl, Or.inl rfl, trivial⟩
    · skip
      replace H := H.2 c1
      refine T_iconst (pc' := 32) dX7_fillSight_31 (by decide) rfl ?_
      refine T_istore (i := 7) (L' := [(2, 9), (2, g), (0, v2), (0, v3), (1, v4), (3, 0), (0, v6), (0, 0), (3, 0)]) (pc' := 34) dX7_fillSight_32 (by decide) rfl rfl ?_
      refine T_iconst (pc' := 35) dX7_fillSight_34 (by decide) rfl ?_
      refine T_istore (i := 8) (L' := [(2, 9), (2, g), (0, v2), (0, v3), (1, v4), (3, 0), (0, v6), (0, 0), (0, 0)]) (pc' := 37) dX7_fillSight_35 (by decide) rfl rfl ?_
      obtain ⟨k2, H⟩ := H
      refine T_wk (L' := [(2, 9), (2, g), (0, v2), (0, v3), (1, v4), (3, 0), (0, v6), (0, 0), (0, 0)]) (qX7_fillSight_37 (v2 := v2) (v3 := v3) (v4 := v4) (v6 := v6) hg (fun u3 M4 H hG5 => ?_) _ _ _ _ H hG) ⟨Or.inr rfl, Or.inr rfl, Or.inr rfl, Or.inr rfl, Or.inr rfl, Or.inl rfl, Or.inr rfl, Or.inr rfl, Or.inr rfl, trivial⟩
      refine T_aload_n (i := 0) (pc' := 83) dX7_fillSight_82 rfl rfl rfl ?_
      refine U_gr (q := 11) (k := 1) (kI := 1) (pc' := 86) dX7_fillSight_83 rfl cl7 (by decide) rfl (by decide) flX7_15 rfl rfl rfl (G_at hG5 17 rfl) (by decide) rfl ?_
      refine T_iload_n (i := 2) (pc' := 87) dX7_fillSight_86 rfl rfl rfl ?_
      refine T_sipush (pc' := 90) dX7_fillSight_87 rfl (by decide) rfl ?_
      refine T_imul (pc' := 91) dX7_fillSight_90 rfl ?_
      refine T_iload (i := 6) (pc' := 93) dX7_fillSight_91 rfl rfl ?_
      refine T_iadd (pc' := 94) dX7_fillSight_93 rfl ?_
      refine T_iload (i := 7) (pc' := 96) dX7_fillSight_94 rfl rfl ?_
      refine T_callSN (av := [(2, 11), (0, (wr32 ((wr32 (v2 * 201)) + v6))), (0, u3)]) (st := []) (d2 := 1) (nc2 := 0) (ns2 := 0) (pc' := 99) dX7_fillSight_96 rfl mtX11_put mvX11_put mlX7_75 rfl rfl (Nat.le_of_ble_eq_true rfl) (by decide) ⟨by decide, by decide⟩ rfl (pX11_put (E := E) (h := h) (M := M4) (p0 := 11) (np0 := 804) (v1 := (wr32 ((wr32 (v2 * 201)) + v6))) (v2 := u3) (by decide) rfl (by decide) hG5) (kF (st2 := []) rfl (fun hG6 => ?_))
      obtain ⟨M7, eM7⟩ : ∃ m : Mem, m = (fmX11_put M4 11 804 (wr32 ((wr32 (v2 * 201)) + v6)) u3) := ⟨_, rfl⟩
      rw [← eM7] at hG6 ⊢
      replace H := H M7 eM7
      refine T_iinc (L' := [(2, 9), (2, g), (0, v2), (0, v3), (1, v4), (3, 0), (0, (wr32 (v6 + 1))), (0, u3), (3, 0)]) (pc' := 102) dX7_fillSight_99 rfl (by decide) rfl rfl ?_
      refine T_goto (pc' := 25) dX7_fillSight_102 (by decide) ?_
      exact T_wk (L' := [(2, 9), (2, g), (0, v2), (0, v3), (1, v4), (3, 0), (0, (wr32 (v6 + 1))), (3, 0), (3, 0)]) (ih _ _ H hG6) ⟨Or.inr rfl, Or.inr rfl, Or.inr rfl, Or.inr rfl, Or.inr rfl, Or.inl rfl, Or.inr rfl, Or.inl rfl, Or.inl rfl, trivial⟩
set_option maxRecDepth 100000 in
set_option maxHeartbeats 2000000 in
theorem pX7_fillSight {E : EV} {h : Int} {M : Mem} {g : Int} {v2 : Int} {v3 : Int} (hg : isG g) {Q : Int → Mem → Prop} (H : PX7_fillSight g v2 v3 M Q) : C2 E miX7_fillSight 4 h [(2, 9), (2, g), (0, v2), (0, v3)] M (RV Q) := by
  refine C2_of (L := [(2, 9), (2, g), (0, v2), (0, v3), (3, 0), (3, 0), (3, 0), (3, 0), (3, 0)]) (by decide +kernel) (Nat.le_of_ble_eq_true rfl) rfl (fun hG => ?_)
  refine T_aload_n (i := 1) (pc' := 1) dX7_fillSight_0 rfl rfl rfl ?_
  refine T_aload_n (i := 1) (pc' := 2) dX7_fillSight_1 rfl rfl rfl ?_
  refine U_grN (q := (g + 13)) (k := 5) (kI := 5) (pc' := 5) dX7_fillSight_2 rfl cl1 (pog0 hg) (shg0 hg) (by decide) flX7_86 rfl rfl rfl (grg0_5 hg hG) (pog13 hg) rfl ?_
  refine T_iload_n (i := 2) (pc' := 6) dX7_fillSight_5 rfl rfl rfl ?_
  refine T_callSN (av := [(2, (g + 13)), (0, v2)]) (st := [(2, g)]) (d2 := 1) (nc2 := 0) (ns2 := 0) (pc' := 9) dX7_fillSight_6 rfl mtX11_get mvX11_get mlX7_71 rfl rfl (Nat.le_of_ble_eq_true rfl) (by decide) ⟨by decide, by decide⟩ rfl (pX11_get (E := E) (h := h) (M := M) (p0 := (g + 13)) (np0 := 4) (v1 := v2) (pog13 hg) (shg13 hg) (by decide) hG) (kF (st2 := [(0, (fX11_get M (g + 13) 4 v2)), (2, g)]) rfl (fun hG1 => ?_))
  refine T_aload_n (i := 1) (pc' := 10) dX7_fillSight_9 rfl rfl rfl ?_
  refine U_grN (q := (g + 14)) (k := 6) (kI := 6) (pc' := 13) dX7_fillSight_10 rfl cl1 (pog0 hg) (shg0 hg) (by decide) flX7_89 rfl rfl rfl (grg0_6 hg hG) (pog14 hg) rfl ?_
  refine T_iload_n (i := 2) (pc' := 14) dX7_fillSight_13 rfl rfl rfl ?_
  refine T_callSN (av := [(2, (g + 14)), (0, v2)]) (st := [(0, (fX11_get M (g + 13) 4 v2)), (2, g)]) (d2 := 1) (nc2 := 0) (ns2 := 0) (pc' := 17) dX7_fillSight_14 rfl mtX11_get mvX11_get mlX7_71 rfl rfl (Nat.le_of_ble_eq_true rfl) (by decide) ⟨by decide, by decide⟩ rfl (pX11_get (E := E) (h := h) (M := M) (p0 := (g + 14)) (np0 := 4) (v1 := v2) (pog14 hg) (shg14 hg) (by decide) hG) (kF (st2 := [(0, (fX11_get M (g + 14) 4 v2)), (0, (fX11_get M (g + 13) 4 v2)), (2, g)]) rfl (fun hG2 => ?_))
  refine T_callV (av := [(0, (fX11_get M (g + 13) 4 v2)), (0, (fX11_get M (g + 14) 4 v2))]) (st := []) (d2 := 3) (nc2 := 0) (ns2 := 0) (pc' := 20) dX7_fillSight_17 rfl mtX1_cellsAround mvX1_cellsAround mlX7_92 cl1 (shg0 hg) rfl rfl (Nat.le_of_ble_eq_true rfl) (by decide) ⟨by decide, by decide⟩ rfl (pX1_cellsAround (E := E) (h := h) (M := M) (g := g) (v1 := (fX11_get M (g + 13) 4 v2)) (v2 := (fX11_get M (g + 14) 4 v2)) hg hG) (kF (st2 := [(1, (fX1_cellsAround M g (fX11_get M (g + 13) 4 v2) (fX11_get M (g + 14) 4 v2)))]) rfl (fun hG3 => ?_))
  obtain ⟨a4, ea4⟩ : ∃ z : Int, z = (fX1_cellsAround M g (fX11_get M (g + 13) 4 v2) (fX11_get M (g + 14) 4 v2)) := ⟨_, rfl⟩
  rw [← ea4]
  replace H := H a4 ea4
  refine T_lstore (i := 4) (L' := [(2, 9), (2, g), (0, v2), (0, v3), (1, a4), (3, 0), (3, 0), (3, 0), (3, 0)]) (pc' := 22) dX7_fillSight_20 (by decide) rfl rfl ?_
  refine T_iconst (pc' := 23) dX7_fillSight_22 (by decide) rfl ?_
  refine T_istore (i := 6) (L' := [(2, 9), (2, g), (0, v2), (0, v3), (1, a4), (3, 0), (0, 0), (3, 0), (3, 0)]) (pc' := 25) dX7_fillSight_23 (by decide) rfl rfl ?_
  obtain ⟨k5, H⟩ := H
  refine T_wk (L' := [(2, 9), (2, g), (0, v2), (0, v3), (1, a4), (3, 0), (0, 0), (3, 0), (3, 0)]) (qX7_fillSight_25 (v2 := v2) (v3 := v3) (v4 := a4) hg (fun M6 H hG7 => ?_) _ _ _ H hG) ⟨Or.inr rfl, Or.inr rfl, Or.inr rfl, Or.inr rfl, Or.inr rfl, Or.inl rfl, Or.inr rfl, Or.inl rfl, Or.inl rfl, trivial⟩
  exact T_vret dX7_fillSight_105 rfl ⟨rfl, hG7, rfl, H⟩
def PX7_prepare_2 (g : Int) (K : Mem → Prop) (Q : Int → Mem → Prop) : Nat → Int → Mem → Prop
  | 0 => fun _ _ => False
  | k + 1 => fun v2 M => (((M (g + 1) 8) ≤ v2 → K M) ∧ (¬ ((M (g + 1) 8) ≤ v2) → (∀ M3 : Mem, M3 = (fmX7_fillWalk M g v2) → PX7_prepare_2 g K Q k (wr32 (v2 + 1)) M3)))
def PX7_prepare_27 (g : Int) (K : Mem → Prop) (Q : Int → Mem → Prop) : Nat → Int → Mem → Prop
  | 0 => fun _ _ => False
  | k + 1 => fun v2 M => (((M g 13) ≤ v2 → K M) ∧ (¬ ((M g 13) ≤ v2) → PX7_fillSight g v2 201 M (fun _ M3 => PX7_prepare_27 g K Q k (wr32 (v2 + 1)) M3)))
def PX7_prepare (g : Int) (M : Mem) (Q : Int → Mem → Prop) : Prop :=
  (∃ k1 : Nat, PX7_prepare_2 g (fun M2 => (∃ k4 : Nat, PX7_prepare_27 g (fun M5 => Q 0 M5) Q k4 0 M2)) Q k1 0 M)
set_option maxRecDepth 100000 in
set_option maxHeartbeats 2000000 in
theorem qX7_prepare_2 {E : EV} {h : Int} {g : Int} (hg : isG g) {K : Mem → Prop} {Q : Int → Mem → Prop} (hK : ∀ (M : Mem), K M → G h M → TG E miX7_prepare 5 h (RV Q) 25 [(2, 9), (2, g), (3, 0)] [] M) : ∀ (k : Nat) (v2 : Int) (M : Mem), PX7_prepare_2 g K Q k v2 M → G h M → TG E miX7_prepare 5 h (RV Q) 2 [(2, 9), (2, g), (0, v2)] [] M := by
  intro k
  induction k with
  | zero =>
    intro v2 M H
    exact False.elim H
  | succ k ih =>
    intro v2 M H hG
    refine T_iload_n (i := 2) (pc' := 3) dX7_prepare_2 rfl rfl rfl ?_
    refine T_aload_n (i := 1) (pc' := 4) dX7_prepare_3 rfl rfl rfl ?_
    refine U_grN (q := (g + 1)) (k := 0) (kI := 0) (pc' := 7) dX7_prepare_4 rfl cl1 (pog0 hg) (shg0 hg) (by decide) flX7_46 rfl rfl rfl (grg0_0 hg hG) (pog1 hg) rfl ?_
    refine U_gfN (v := (0, (M (g + 1) 8))) (k := 8) (kI := 8) (pc' := 10) dX7_prepare_7 rfl cl4 (pog1 hg) (shg1 hg) (by decide) flX7_52 rfl rfl (by decide) rfl rfl ?_
    refine T_icmp_ge (pc' := 25) dX7_prepare_10 (by decide) (pf := 13) rfl (fun c1 => ?_) (fun c1 => ?_)
    · skip
      replace H := H.1 c1
      exact T_wk (L' := [(2, 9), (2, g), (3, 0)]) (hK _ H hG) ⟨Or.inr rfl, Or.inr rfl, Or.inl rfl, trivial⟩
    · skip
      replace H := H.2 c1
      refine T_aload_n (i := 0) (pc' := 14) dX7_prepare_13 rfl rfl rfl ?_
      refine T_aload_n (i := 1) (pc' := 15) dX7_prepare_14 rfl rfl rfl ?_
      refine T_iload_n (i := 2) (pc' := 16) dX7_prepare_15 rfl rfl rfl ?_
      refine T_callV (av := [(2, g), (0, v2)]) (st := []) (d2 := 4) (nc2 := 0) (ns2 := 0) (pc' := 19) dX7_prepare_16 rfl mtX7_fillWalk mvX7_fillWalk mlX7_57 cl7 rfl rfl rfl (Nat.le_of_ble_eq_true rfl) (by decide) ⟨by decide, by decide⟩ rfl (pX7_fillWalk (E := E) (h := h) (M := M) (g := g) (v2 := v2) hg hG) (kF (st2 := []) rfl (fun hG2 => ?_))
      obtain ⟨M3, eM3⟩ : ∃ m : Mem, m = (fmX7_fillWalk M g v2) := ⟨_, rfl⟩
      rw [← eM3] at hG2 ⊢
      replace H := H M3 eM3
      refine T_iinc (L' := [(2, 9), (2, g), (0, (wr32 (v2 + 1)))]) (pc' := 22) dX7_prepare_19 rfl (by decide) rfl rfl ?_
      refine T_goto (pc' := 2) dX7_prepare_22 (by decide) ?_
      exact T_wk (L' := [(2, 9), (2, g), (0, (wr32 (v2 + 1)))]) (ih _ _ H hG2) ⟨Or.inr rfl, Or.inr rfl, Or.inr rfl, trivial⟩
set_option maxRecDepth 100000 in
set_option maxHeartbeats 2000000 in
theorem qX7_prepare_27 {E : EV} {h : Int} {g : Int} (hg : isG g) {K : Mem → Prop} {Q : Int → Mem → Prop} (hK : ∀ (M : Mem), K M → G h M → TG E miX7_prepare 5 h (RV Q) 50 [(2, 9), (3, 0), (3, 0)] [] M) : ∀ (k : Nat) (v2 : Int) (M : Mem), PX7_prepare_27 g K Q k v2 M → G h M → TG E miX7_prepare 5 h (RV Q) 27 [(2, 9), (2, g), (0, v2)] [] M := by
  intro k
  induction k with
  | zero =>
    intro v2 M H
    exact False.elim H
  | succ k ih =>
    intro v2 M H hG
    refine T_iload_n (i := 2) (pc' := 28) dX7_prepare_27 rfl rfl rfl ?_
    refine T_aload_n (i := 1) (pc' := 29) dX7_prepare_28 rfl rfl rfl ?_
    refine U_gfN (v := (0, (M g 13))) (k := 13) (kI := 13) (pc' := 32) dX7_prepare_29 rfl cl1 (pog0 hg) (shg0 hg) (by decide) flX7_61 rfl rfl (by decide) rfl rfl ?_
    refine T_icmp_ge (pc' := 50) dX7_prepare_32 (by decide) (pf := 35) rfl (fun c1 => ?_) (fun c1 => ?_)
    · skip
      replace H := H.1 c1
      exact T_wk (L' := [(2, 9), (3, 0), (3, 0)]) (hK _ H hG) ⟨Or.inr rfl, Or.inl rfl, Or.inl rfl, trivial⟩
    · skip
      replace H := H.2 c1
      refine T_aload_n (i := 0) (pc' := 36) dX7_prepare_35 rfl rfl rfl ?_
      refine T_aload_n (i := 1) (pc' := 37) dX7_prepare_36 rfl rfl rfl ?_
      refine T_iload_n (i := 2) (pc' := 38) dX7_prepare_37 rfl rfl rfl ?_
      refine T_sipush (pc' := 41) dX7_prepare_38 rfl (by decide) rfl ?_
      refine T_callV (av := [(2, g), (0, v2), (0, 201)]) (st := []) (d2 := 4) (nc2 := 0) (ns2 := 0) (pc' := 44) dX7_prepare_41 rfl mtX7_fillSight mvX7_fillSight mlX7_64 cl7 rfl rfl rfl (Nat.le_of_ble_eq_true rfl) (by decide) ⟨by decide, by decide⟩ rfl (pX7_fillSight (E := E) (h := h) (M := M) (g := g) (v2 := v2) (v3 := 201) hg H hG) ?_
      rintro _ _ M3 ⟨rfl, hG4, rfl, H⟩ _
      refine T_iinc (L' := [(2, 9), (2, g), (0, (wr32 (v2 + 1)))]) (pc' := 47) dX7_prepare_44 rfl (by decide) rfl rfl ?_
      refine T_goto (pc' := 27) dX7_prepare_47 (by decide) ?_
      exact T_wk (L' := [(2, 9), (2, g), (0, (wr32 (v2 + 1)))]) (ih _ _ H hG4) ⟨Or.inr rfl, Or.inr rfl, Or.inr rfl, trivial⟩
set_option maxRecDepth 100000 in
set_option maxHeartbeats 2000000 in
theorem pX7_prepare {E : EV} {h : Int} {M : Mem} {g : Int} (hg : isG g) {Q : Int → Mem → Prop} (H : PX7_prepare g M Q) : C2 E miX7_prepare 5 h [(2, 9), (2, g)] M (RV Q) := by
  refine C2_of (L := [(2, 9), (2, g), (3, 0)]) (by decide +kernel) (Nat.le_of_ble_eq_true rfl) rfl (fun hG => ?_)
  refine T_iconst (pc' := 1) dX7_prepare_0 (by decide) rfl ?_
  refine T_istore_n (i := 2) (L' := [(2, 9), (2, g), (0, 0)]) (pc' := 2) dX7_prepare_1 rfl (by decide) rfl rfl ?_
  obtain ⟨k1, H⟩ := H
  refine T_wk (L' := [(2, 9), (2, g), (0, 0)]) (qX7_prepare_2 hg (fun M2 H hG3 => ?_) _ _ _ H hG) ⟨Or.inr rfl, Or.inr rfl, Or.inr rfl, trivial⟩
  refine T_iconst (pc' := 26) dX7_prepare_25 (by decide) rfl ?_
  refine T_istore_n (i := 2) (L' := [(2, 9), (2, g), (0, 0)]) (pc' := 27) dX7_prepare_26 rfl (by decide) rfl rfl ?_
  obtain ⟨k4, H⟩ := H
  refine T_wk (L' := [(2, 9), (2, g), (0, 0)]) (qX7_prepare_27 hg (fun M5 H hG6 => ?_) _ _ _ H hG3) ⟨Or.inr rfl, Or.inr rfl, Or.inr rfl, trivial⟩
  exact T_vret dX7_prepare_50 rfl ⟨rfl, hG6, rfl, H⟩
def PX10_comesOff (g : Int) (v2 : Int) (M : Mem) (Q : Int → Mem → Prop) : Prop :=
  (∀ a2 : Int, a2 = (fJ6_bitCount_0f7a4 v2) → (((M g 17) ≤ a2 → PX7_run g v2 1 M (fun _ M5 => (((if (M5 9 8) = 0 then (0 : Int) else 1) : Int) = 0 ∨ ((if (M5 9 8) = 0 then (0 : Int) else 1) : Int) = 1) ∧ Q (if (M5 9 8) = 0 then (0 : Int) else 1) M5)) ∧ (¬ ((M g 17) ≤ a2) → Q 0 M)))
set_option maxRecDepth 100000 in
set_option maxHeartbeats 2000000 in
theorem pX10_comesOff {E : EV} {h : Int} {M : Mem} {g : Int} {v2 : Int} (hg : isG g) {Q : Int → Mem → Prop} (H : PX10_comesOff g v2 M Q) : C2 E miX10_comesOff 6 h [(2, 25), (2, g), (0, v2)] M (RI 0 Q) := by
  refine C2_of (L := [(2, 25), (2, g), (0, v2)]) (by decide +kernel) (Nat.le_of_ble_eq_true rfl) rfl (fun hG => ?_)
  refine T_iload_n (i := 2) (pc' := 1) dX10_comesOff_0 rfl rfl rfl ?_
  refine T_callS (av := [(0, v2)]) (st := []) (d2 := 1) (nc2 := 0) (ns2 := 0) (pc' := 4) dX10_comesOff_1 rfl mtJ6_bitCount_0f7a4 mvJ6_bitCount_0f7a4 mlX10_26 rfl rfl (Nat.le_of_ble_eq_true rfl) (by decide) ⟨by decide, by decide⟩ rfl (pJ6_bitCount_0f7a4 (E := E) (h := h) (M := M) (v0 := v2) hG) (kF (st2 := [(0, (fJ6_bitCount_0f7a4 v2))]) rfl (fun hG1 => ?_))
  obtain ⟨a2, ea2⟩ : ∃ z : Int, z = (fJ6_bitCount_0f7a4 v2) := ⟨_, rfl⟩
  rw [← ea2]
  replace H := H a2 ea2
  refine T_aload_n (i := 1) (pc' := 5) dX10_comesOff_4 rfl rfl rfl ?_
  refine U_gfN (v := (0, (M g 17))) (k := 17) (kI := 17) (pc' := 8) dX10_comesOff_5 rfl cl1 (pog0 hg) (shg0 hg) (by decide) flX10_32 rfl rfl (by decide) rfl rfl ?_
  refine T_icmp_ge (pc' := 13) dX10_comesOff_8 (by decide) (pf := 11) rfl (fun c3 => ?_) (fun c3 => ?_)
  · skip
    replace H := H.1 c3
    refine T_aload_n (i := 0) (pc' := 14) dX10_comesOff_13 rfl rfl rfl ?_
    refine U_gr (q := 9) (k := 0) (kI := 0) (pc' := 17) dX10_comesOff_14 rfl cl10 (by decide) rfl (by decide) flX10_9 rfl rfl rfl (G_at hG 30 rfl) (by decide) rfl ?_
    refine T_aload_n (i := 1) (pc' := 18) dX10_comesOff_17 rfl rfl rfl ?_
    refine T_iload_n (i := 2) (pc' := 19) dX10_comesOff_18 rfl rfl rfl ?_
    refine T_iconst (pc' := 20) dX10_comesOff_19 (by decide) rfl ?_
    refine T_callV (av := [(2, g), (0, v2), (0, 1)]) (st := []) (d2 := 5) (nc2 := 0) (ns2 := 0) (pc' := 23) dX10_comesOff_20 rfl mtX7_run mvX7_run mlX10_37 cl7 rfl rfl rfl (Nat.le_of_ble_eq_true rfl) (by decide) ⟨by decide, by decide⟩ rfl (pX7_run (E := E) (h := h) (M := M) (g := g) (v2 := v2) (v3 := 1) hg H hG) ?_
    rintro _ _ M5 ⟨rfl, hG6, rfl, H⟩ _
    refine T_aload_n (i := 0) (pc' := 24) dX10_comesOff_23 rfl rfl rfl ?_
    refine U_gr (q := 9) (k := 0) (kI := 0) (pc' := 27) dX10_comesOff_24 rfl cl10 (by decide) rfl (by decide) flX10_9 rfl rfl rfl (G_at hG6 30 rfl) (by decide) rfl ?_
    refine U_gfN (v := (0, (M5 9 8))) (k := 8) (kI := 8) (pc' := 30) dX10_comesOff_27 rfl cl7 (by decide) rfl (by decide) flX10_43 rfl rfl (by decide) rfl rfl ?_
    have HJ7 : T E miX10_comesOff 6 126 0 0 (fun r S M' => S = S0 ∧ G h M' ∧ RI 0 Q r M') 38 [(3, 0), (3, 0), (3, 0)] [(0, (if (M5 9 8) = 0 then (0 : Int) else 1))] S0 M5 0 0 := by
      obtain ⟨z1, H⟩ := H
      exact T_zret dX10_comesOff_38 rfl z1 ⟨rfl, hG6, _, rfl, H⟩
    refine T_if_eq (pc' := 37) dX10_comesOff_30 (by decide) (pf := 33) rfl (fun c8 => ?_) (fun c8 => ?_)
    · skip
      refine T_iconst (pc' := 38) dX10_comesOff_37 (by decide) rfl ?_
      exact T_wk (L' := [(3, 0), (3, 0), (3, 0)]) (by have q := HJ7; try simp only [if_pos c8] at q ⊢; exact q) ⟨Or.inl rfl, Or.inl rfl, Or.inl rfl, trivial⟩
    · skip
      refine T_iconst (pc' := 34) dX10_comesOff_33 (by decide) rfl ?_
      refine T_goto (pc' := 38) dX10_comesOff_34 (by decide) ?_
      exact T_wk (L' := [(3, 0), (3, 0), (3, 0)]) (by have q := HJ7; try simp only [if_neg c8] at q ⊢; exact q) ⟨Or.inl rfl, Or.inl rfl, Or.inl rfl, trivial⟩
  · skip
    replace H := H.2 c3
    refine T_iconst (pc' := 12) dX10_comesOff_11 (by decide) rfl ?_
    exact T_zret dX10_comesOff_12 rfl (by decide) ⟨rfl, hG, _, rfl, H⟩
def PX10_thousandths_5 (g : Int) (K : Int → Mem → Prop) (Q : Int → Mem → Prop) : Nat → Int → Int → Mem → Prop
  | 0 => fun _ _ _ => False
  | k + 1 => fun v2 v4 M => (((fX4_all M g) < v4 → K v2 M) ∧ (¬ ((fX4_all M g) < v4) → (∀ a4 : Int, a4 = (fX10_weightOf M g v4) → (((m_cmp a4 0) ≤ 0 → PX10_thousandths_5 g K Q k v2 (wr32 (v4 + 1)) M) ∧ (¬ ((m_cmp a4 0) ≤ 0) → PX10_comesOff g v4 M (fun a6 M7 => PX10_thousandths_5 g K Q k (if a6 = 0 then v2 else (wr64 (v2 + a4))) (wr32 (v4 + 1)) M7))))))
def PX10_thousandths (g : Int) (M : Mem) (Q : Int → Mem → Prop) : Prop :=
  (∃ k1 : Nat, PX10_thousandths_5 g (fun u2 M3 => Q (wr32 (m_lshr (wr64 (1000 * u2)) (wr32 (2 * (M3 (g + 1) 8))))) M3) Q k1 0 0 M)
set_option maxRecDepth 100000 in
set_option maxHeartbeats 2000000 in
theorem qX10_thousandths_5 {E : EV} {h : Int} {g : Int} (hg : isG g) {K : Int → Mem → Prop} {Q : Int → Mem → Prop} (hK : ∀ (v2 : Int) (M : Mem), K v2 M → G h M → TG E miX10_thousandths 7 h (RI 0 Q) 56 [(2, 25), (2, g), (1, v2), (3, 0), (3, 0), (3, 0), (3, 0)] [] M) : ∀ (k : Nat) (v2 v4 : Int) (M : Mem), PX10_thousandths_5 g K Q k v2 v4 M → G h M → TG E miX10_thousandths 7 h (RI 0 Q) 5 [(2, 25), (2, g), (1, v2), (3, 0), (0, v4), (3, 0), (3, 0)] [] M := by
  intro k
  induction k with
  | zero =>
    intro v2 v4 M H
    exact False.elim H
  | succ k ih =>
    intro v2 v4 M H hG
    refine T_iload (i := 4) (pc' := 7) dX10_thousandths_5 rfl rfl ?_
    refine T_aload_n (i := 1) (pc' := 8) dX10_thousandths_7 rfl rfl rfl ?_
    refine U_grN (q := (g + 1)) (k := 0) (kI := 0) (pc' := 11) dX10_thousandths_8 rfl cl1 (pog0 hg) (shg0 hg) (by decide) flX10_46 rfl rfl rfl (grg0_0 hg hG) (pog1 hg) rfl ?_
    refine T_callV (av := []) (st := [(0, v4)]) (d2 := 1) (nc2 := 0) (ns2 := 0) (pc' := 14) dX10_thousandths_11 rfl mtX4_all mvX4_all mlX10_50 cl4 (shg1 hg) rfl rfl (Nat.le_of_ble_eq_true rfl) (by decide) ⟨by decide, by decide⟩ rfl (pX4_all (E := E) (h := h) (M := M) (g := g) hg hG) (kF (st2 := [(0, (fX4_all M g)), (0, v4)]) rfl (fun hG1 => ?_))
    refine T_icmp_gt (pc' := 56) dX10_thousandths_14 (by decide) (pf := 17) rfl (fun c2 => ?_) (fun c2 => ?_)
    · skip
      replace H := H.1 c2
      exact T_wk (L' := [(2, 25), (2, g), (1, v2), (3, 0), (3, 0), (3, 0), (3, 0)]) (hK _ _ H hG) ⟨Or.inr rfl, Or.inr rfl, Or.inr rfl, Or.inl rfl, Or.inl rfl, Or.inl rfl, Or.inl rfl, trivial⟩
    · skip
      replace H := H.2 c2
      refine T_aload_n (i := 1) (pc' := 18) dX10_thousandths_17 rfl rfl rfl ?_
      refine U_grN (q := (g + 1)) (k := 0) (kI := 0) (pc' := 21) dX10_thousandths_18 rfl cl1 (pog0 hg) (shg0 hg) (by decide) flX10_46 rfl rfl rfl (grg0_0 hg hG) (pog1 hg) rfl ?_
      refine T_iload (i := 4) (pc' := 23) dX10_thousandths_21 rfl rfl ?_
      refine T_callS (av := [(2, (g + 1)), (0, v4)]) (st := []) (d2 := 2) (nc2 := 0) (ns2 := 0) (pc' := 26) dX10_thousandths_23 rfl mtX10_weightOf mvX10_weightOf mlX10_56 rfl rfl (Nat.le_of_ble_eq_true rfl) (by decide) ⟨by decide, by decide⟩ rfl (pX10_weightOf (E := E) (h := h) (M := M) (g := g) (v1 := v4) hg hG) (kF (st2 := [(1, (fX10_weightOf M g v4))]) rfl (fun hG3 => ?_))
      obtain ⟨a4, ea4⟩ : ∃ z : Int, z = (fX10_weightOf M g v4) := ⟨_, rfl⟩
      rw [← ea4]
      replace H := H a4 ea4
      refine T_lstore (i := 5) (L' := [(2, 25), (2, g), (1, v2), (3, 0), (0, v4), (1, a4), (3, 0)]) (pc' := 28) dX10_thousandths_26 (by decide) rfl rfl ?_
      refine T_lload (i := 5) (pc' := 30) dX10_thousandths_28 rfl rfl ?_
      refine T_lconst (v := 0) (pc' := 31) dX10_thousandths_30 rfl (by decide) rfl ?_
      refine T_lcmp (pc' := 32) dX10_thousandths_31 rfl ?_
      refine T_if_le (pc' := 50) dX10_thousandths_32 (by decide) (pf := 35) rfl (fun c5 => ?_) (fun c5 => ?_)
      · skip
        replace H := H.1 c5
        refine T_iinc (L' := [(2, 25), (2, g), (1, v2), (3, 0), (0, (wr32 (v4 + 1))), (1, a4), (3, 0)]) (pc' := 53) dX10_thousandths_50 rfl (by decide) rfl rfl ?_
        refine T_goto (pc' := 5) dX10_thousandths_53 (by decide) ?_
        exact T_wk (L' := [(2, 25), (2, g), (1, v2), (3, 0), (0, (wr32 (v4 + 1))), (3, 0), (3, 0)]) (ih _ _ _ H hG) ⟨Or.inr rfl, Or.inr rfl, Or.inr rfl, Or.inl rfl, Or.inr rfl, Or.inl rfl, Or.inl rfl, trivial⟩
      · skip
        replace H := H.2 c5
        refine T_aload_n (i := 0) (pc' := 36) dX10_thousandths_35 rfl rfl rfl ?_
        refine T_aload_n (i := 1) (pc' := 37) dX10_thousandths_36 rfl rfl rfl ?_
        refine T_iload (i := 4) (pc' := 39) dX10_thousandths_37 rfl rfl ?_
        refine T_callV (av := [(2, g), (0, v4)]) (st := []) (d2 := 6) (nc2 := 0) (ns2 := 0) (pc' := 42) dX10_thousandths_39 rfl mtX10_comesOff mvX10_comesOff mlX10_60 cl10 rfl rfl rfl (Nat.le_of_ble_eq_true rfl) (by decide) ⟨by decide, by decide⟩ rfl (pX10_comesOff (E := E) (h := h) (M := M) (g := g) (v2 := v4) hg H hG) ?_
        rintro _ _ M7 ⟨rfl, hG8, a6, rfl, H⟩ _
        have HJ9 : T E miX10_thousandths 7 126 0 0 (fun r S M' => S = S0 ∧ G h M' ∧ RI 0 Q r M') 50 [(2, 25), (2, g), (1, (if a6 = 0 then v2 else (wr64 (v2 + a4)))), (3, 0), (0, v4), (3, 0), (3, 0)] [] S0 M7 0 0 := by
          refine T_iinc (L' := [(2, 25), (2, g), (1, (if a6 = 0 then v2 else (wr64 (v2 + a4)))), (3, 0), (0, (wr32 (v4 + 1))), (3, 0), (3, 0)]) (pc' := 53) dX10_thousandths_50 rfl (by decide) rfl rfl ?_
          refine T_goto (pc' := 5) dX10_thousandths_53 (by decide) ?_
          exact T_wk (L' := [(2, 25), (2, g), (1, (if a6 = 0 then v2 else (wr64 (v2 + a4)))), (3, 0), (0, (wr32 (v4 + 1))), (3, 0), (3, 0)]) (ih _ _ _ H hG8) ⟨Or.inr rfl, Or.inr rfl, Or.inr rfl, Or.inl rfl, Or.inr rfl, Or.inl rfl, Or.inl rfl, trivial⟩
        refine T_if_eq (pc' := 50) dX10_thousandths_42 (by decide) (pf := 45) rfl (fun c10 => ?_) (fun c10 => ?_)
        · skip
          exact T_wk (L' := [(2, 25), (2, g), (1, v2), (3, 0), (0, v4), (3, 0), (3, 0)]) (by have q := HJ9; try simp only [if_pos c10] at q ⊢; exact q) ⟨Or.inr rfl, Or.inr rfl, Or.inr rfl, Or.inl rfl, Or.inr rfl, Or.inl rfl, Or.inl rfl, trivial⟩
        · skip
          refine T_lload_n (i := 2) (pc' := 46) dX10_thousandths_45 rfl rfl rfl ?_
          refine T_lload (i := 5) (pc' := 48) dX10_thousandths_46 rfl rfl ?_
          refine T_ladd (pc' := 49) dX10_thousandths_48 rfl ?_
          refine T_lstore_n (i := 2) (L' := [(2, 25), (2, g), (1, (wr64 (v2 + a4))), (3, 0), (0, v4), (1, a4), (3, 0)]) (pc' := 50) dX10_thousandths_49 rfl (by decide) rfl rfl ?_
          exact T_wk (L' := [(2, 25), (2, g), (1, (wr64 (v2 + a4))), (3, 0), (0, v4), (3, 0), (3, 0)]) (by have q := HJ9; try simp only [if_neg c10] at q ⊢; exact q) ⟨Or.inr rfl, Or.inr rfl, Or.inr rfl, Or.inl rfl, Or.inr rfl, Or.inl rfl, Or.inl rfl, trivial⟩
set_option maxRecDepth 100000 in
set_option maxHeartbeats 2000000 in
theorem pX10_thousandths {E : EV} {h : Int} {M : Mem} {g : Int} (hg : isG g) {Q : Int → Mem → Prop} (H : PX10_thousandths g M Q) : C2 E miX10_thousandths 7 h [(2, 25), (2, g)] M (RI 0 Q) := by
  refine C2_of (L := [(2, 25), (2, g), (3, 0), (3, 0), (3, 0), (3, 0), (3, 0)]) (by decide +kernel) (Nat.le_of_ble_eq_true rfl) rfl (fun hG => ?_)
  refine T_lconst (v := 0) (pc' := 1) dX10_thousandths_0 rfl (by decide) rfl ?_
  refine T_lstore_n (i := 2) (L' := [(2, 25), (2, g), (1, 0), (3, 0), (3, 0), (3, 0), (3, 0)]) (pc' := 2) dX10_thousandths_1 rfl (by decide) rfl rfl ?_
  refine T_iconst (pc' := 3) dX10_thousandths_2 (by decide) rfl ?_
  refine T_istore (i := 4) (L' := [(2, 25), (2, g), (1, 0), (3, 0), (0, 0), (3, 0), (3, 0)]) (pc' := 5) dX10_thousandths_3 (by decide) rfl rfl ?_
  obtain ⟨k1, H⟩ := H
  refine T_wk (L' := [(2, 25), (2, g), (1, 0), (3, 0), (0, 0), (3, 0), (3, 0)]) (qX10_thousandths_5 hg (fun u2 M3 H hG4 => ?_) _ _ _ _ H hG) ⟨Or.inr rfl, Or.inr rfl, Or.inr rfl, Or.inl rfl, Or.inr rfl, Or.inl rfl, Or.inl rfl, trivial⟩
  refine T_ldc2 (n := 1000) (pc' := 59) dX10_thousandths_56 rfl kjX10_64 rfl (by decide) rfl ?_
  refine T_lload_n (i := 2) (pc' := 60) dX10_thousandths_59 rfl rfl rfl ?_
  refine T_lmul (pc' := 61) dX10_thousandths_60 rfl ?_
  refine T_iconst (pc' := 62) dX10_thousandths_61 (by decide) rfl ?_
  refine T_aload_n (i := 1) (pc' := 63) dX10_thousandths_62 rfl rfl rfl ?_
  refine U_grN (q := (g + 1)) (k := 0) (kI := 0) (pc' := 66) dX10_thousandths_63 rfl cl1 (pog0 hg) (shg0 hg) (by decide) flX10_46 rfl rfl rfl (grg0_0 hg hG4) (pog1 hg) rfl ?_
  refine U_gfN (v := (0, (M3 (g + 1) 8))) (k := 8) (kI := 8) (pc' := 69) dX10_thousandths_66 rfl cl4 (pog1 hg) (shg1 hg) (by decide) flX10_66 rfl rfl (by decide) rfl rfl ?_
  refine T_imul (pc' := 70) dX10_thousandths_69 rfl ?_
  refine T_lshr (pc' := 71) dX10_thousandths_70 rfl ?_
  refine T_l2i (pc' := 72) dX10_thousandths_71 rfl ?_
  exact T_iret dX10_thousandths_72 rfl ⟨rfl, hG4, _, rfl, H⟩
