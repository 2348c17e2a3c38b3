/-! methods as propositions, 12 -/
def PX12_qFloor (v0 : Int) (v2 : Int) (M : Mem) (Q : Int → Mem → Prop) : Prop :=
  (((m_cmp v2 0) = 0 → Q 0 M) ∧ (¬ ((m_cmp v2 0) = 0) → ¬ v2 = 0 ∧ ¬ v2 = 0 ∧ Q (if (m_cmp (Int.tmod v0 v2) 0) = 0 then (wr64 (Int.tdiv v0 v2)) else (if (if 0 ≤ (m_cmp v0 0) then (0 : Int) else 1) = (if 0 ≤ (m_cmp v2 0) then (0 : Int) else 1) then (wr64 (Int.tdiv v0 v2)) else (wr64 ((wr64 (Int.tdiv v0 v2)) - 1)))) M))
set_option maxRecDepth 100000 in
set_option maxHeartbeats 2000000 in
theorem pX12_qFloor {E : EV} {h : Int} {M : Mem} {v0 : Int} {v2 : Int}  {Q : Int → Mem → Prop} (H : PX12_qFloor v0 v2 M Q) : C2 E miX12_qFloor 1 h [(1, v0), (1, v2)] M (RI 1 Q) := by
  refine C2_of (L := [(1, v0), (3, 0), (1, v2), (3, 0), (3, 0), (3, 0)]) (by decide +kernel) (Nat.le_of_ble_eq_true rfl) rfl (fun hG => ?_)
  refine T_lload_n (i := 2) (pc' := 1) dX12_qFloor_0 rfl rfl rfl ?_
  refine T_lconst (v := 0) (pc' := 2) dX12_qFloor_1 rfl (by decide) rfl ?_
  refine T_lcmp (pc' := 3) dX12_qFloor_2 rfl ?_
  refine T_if_ne (pc' := 8) dX12_qFloor_3 (by decide) (pf := 6) rfl (fun c1 => ?_) (fun c1 => ?_)
  · skip
    replace H := H.2 c1
    refine T_lload_n (i := 0) (pc' := 9) dX12_qFloor_8 rfl rfl rfl ?_
    refine T_lload_n (i := 2) (pc' := 10) dX12_qFloor_9 rfl rfl rfl ?_
    obtain ⟨z1, H⟩ := H
    refine T_ldiv (pc' := 11) dX12_qFloor_10 z1 rfl ?_
    refine T_lstore (i := 4) (L' := [(1, v0), (3, 0), (1, v2), (3, 0), (1, (wr64 (Int.tdiv v0 v2))), (3, 0)]) (pc' := 13) dX12_qFloor_11 (by decide) rfl rfl ?_
    refine T_lload_n (i := 0) (pc' := 14) dX12_qFloor_13 rfl rfl rfl ?_
    refine T_lload_n (i := 2) (pc' := 15) dX12_qFloor_14 rfl rfl rfl ?_
    obtain ⟨z1, H⟩ := H
    refine T_lrem (pc' := 16) dX12_qFloor_15 z1 rfl ?_
    refine T_lconst (v := 0) (pc' := 17) dX12_qFloor_16 rfl (by decide) rfl ?_
    refine T_lcmp (pc' := 18) dX12_qFloor_17 rfl ?_
    have HJ2 : T E miX12_qFloor 1 126 0 0 (fun r S M' => S = S0 ∧ G h M' ∧ RI 1 Q r M') 55 [(3, 0), (3, 0), (3, 0), (3, 0), (3, 0), (3, 0)] [(1, (if (m_cmp (Int.tmod v0 v2) 0) = 0 then (wr64 (Int.tdiv v0 v2)) else (if (if 0 ≤ (m_cmp v0 0) then (0 : Int) else 1) = (if 0 ≤ (m_cmp v2 0) then (0 : Int) else 1) then (wr64 (Int.tdiv v0 v2)) else (wr64 ((wr64 (Int.tdiv v0 v2)) - 1)))))] S0 M 0 0 := by
      exact T_lret dX12_qFloor_55 rfl ⟨rfl, hG, _, rfl, H⟩
    refine T_if_eq (pc' := 53) dX12_qFloor_18 (by decide) (pf := 21) rfl (fun c3 => ?_) (fun c3 => ?_)
    · skip
      refine T_lload (i := 4) (pc' := 55) dX12_qFloor_53 rfl rfl ?_
      exact T_wk (L' := [(3, 0), (3, 0), (3, 0), (3, 0), (3, 0), (3, 0)]) (by have q := HJ2; try simp only [if_pos c3] at q ⊢; exact q) ⟨Or.inl rfl, Or.inl rfl, Or.inl rfl, Or.inl rfl, Or.inl rfl, Or.inl rfl, trivial⟩
    · skip
      refine T_lload_n (i := 0) (pc' := 22) dX12_qFloor_21 rfl rfl rfl ?_
      refine T_lconst (v := 0) (pc' := 23) dX12_qFloor_22 rfl (by decide) rfl ?_
      refine T_lcmp (pc' := 24) dX12_qFloor_23 rfl ?_
      have HJ4 : T E miX12_qFloor 1 126 0 0 (fun r S M' => S = S0 ∧ G h M' ∧ RI 1 Q r M') 32 [(3, 0), (3, 0), (1, v2), (3, 0), (1, (wr64 (Int.tdiv v0 v2))), (3, 0)] [(0, (if 0 ≤ (m_cmp v0 0) then (0 : Int) else 1))] S0 M 0 0 := by
        refine T_lload_n (i := 2) (pc' := 33) dX12_qFloor_32 rfl rfl rfl ?_
        refine T_lconst (v := 0) (pc' := 34) dX12_qFloor_33 rfl (by decide) rfl ?_
        refine T_lcmp (pc' := 35) dX12_qFloor_34 rfl ?_
        have HJ5 : T E miX12_qFloor 1 126 0 0 (fun r S M' => S = S0 ∧ G h M' ∧ RI 1 Q r M') 43 [(3, 0), (3, 0), (3, 0), (3, 0), (1, (wr64 (Int.tdiv v0 v2))), (3, 0)] [(0, (if 0 ≤ (m_cmp v2 0) then (0 : Int) else 1)), (0, (if 0 ≤ (m_cmp v0 0) then (0 : Int) else 1))] S0 M 0 0 := by
          refine T_icmp_eq (pc' := 53) dX12_qFloor_43 (by decide) (pf := 46) rfl (fun c6 => ?_) (fun c6 => ?_)
          · skip
            refine T_lload (i := 4) (pc' := 55) dX12_qFloor_53 rfl rfl ?_
            exact T_wk (L' := [(3, 0), (3, 0), (3, 0), (3, 0), (3, 0), (3, 0)]) (by have q := HJ2; try simp only [if_neg c3] at q ⊢; try simp only [if_pos c6] at q ⊢; exact q) ⟨Or.inl rfl, Or.inl rfl, Or.inl rfl, Or.inl rfl, Or.inl rfl, Or.inl rfl, trivial⟩
          · skip
            refine T_lload (i := 4) (pc' := 48) dX12_qFloor_46 rfl rfl ?_
            refine T_lconst (v := 1) (pc' := 49) dX12_qFloor_48 rfl (by decide) rfl ?_
            refine T_lsub (pc' := 50) dX12_qFloor_49 rfl ?_
            refine T_goto (pc' := 55) dX12_qFloor_50 (by decide) ?_
            exact T_wk (L' := [(3, 0), (3, 0), (3, 0), (3, 0), (3, 0), (3, 0)]) (by have q := HJ2; try simp only [if_neg c3] at q ⊢; try simp only [if_neg c6] at q ⊢; exact q) ⟨Or.inl rfl, Or.inl rfl, Or.inl rfl, Or.inl rfl, Or.inl rfl, Or.inl rfl, trivial⟩
        refine T_if_ge (pc' := 42) dX12_qFloor_35 (by decide) (pf := 38) rfl (fun c7 => ?_) (fun c7 => ?_)
        · skip
          refine T_iconst (pc' := 43) dX12_qFloor_42 (by decide) rfl ?_
          exact T_wk (L' := [(3, 0), (3, 0), (3, 0), (3, 0), (1, (wr64 (Int.tdiv v0 v2))), (3, 0)]) (by have q := HJ5; try simp only [if_pos c7] at q ⊢; exact q) ⟨Or.inl rfl, Or.inl rfl, Or.inl rfl, Or.inl rfl, Or.inr rfl, Or.inl rfl, trivial⟩
        · skip
          refine T_iconst (pc' := 39) dX12_qFloor_38 (by decide) rfl ?_
          refine T_goto (pc' := 43) dX12_qFloor_39 (by decide) ?_
          exact T_wk (L' := [(3, 0), (3, 0), (3, 0), (3, 0), (1, (wr64 (Int.tdiv v0 v2))), (3, 0)]) (by have q := HJ5; try simp only [if_neg c7] at q ⊢; exact q) ⟨Or.inl rfl, Or.inl rfl, Or.inl rfl, Or.inl rfl, Or.inr rfl, Or.inl rfl, trivial⟩
      refine T_if_ge (pc' := 31) dX12_qFloor_24 (by decide) (pf := 27) rfl (fun c8 => ?_) (fun c8 => ?_)
      · skip
        refine T_iconst (pc' := 32) dX12_qFloor_31 (by decide) rfl ?_
        exact T_wk (L' := [(3, 0), (3, 0), (1, v2), (3, 0), (1, (wr64 (Int.tdiv v0 v2))), (3, 0)]) (by have q := HJ4; try simp only [if_pos c8] at q ⊢; exact q) ⟨Or.inl rfl, Or.inl rfl, Or.inr rfl, Or.inl rfl, Or.inr rfl, Or.inl rfl, trivial⟩
      · skip
        refine T_iconst (pc' := 28) dX12_qFloor_27 (by decide) rfl ?_
        refine T_goto (pc' := 32) dX12_qFloor_28 (by decide) ?_
        exact T_wk (L' := [(3, 0), (3, 0), (1, v2), (3, 0), (1, (wr64 (Int.tdiv v0 v2))), (3, 0)]) (by have q := HJ4; try simp only [if_neg c8] at q ⊢; exact q) ⟨Or.inl rfl, Or.inl rfl, Or.inr rfl, Or.inl rfl, Or.inr rfl, Or.inl rfl, trivial⟩
  · skip
    replace H := H.1 c1
    refine T_lconst (v := 0) (pc' := 7) dX12_qFloor_6 rfl (by decide) rfl ?_
    exact T_lret dX12_qFloor_7 rfl ⟨rfl, hG, _, rfl, H⟩
def PX12_qJoins (v1 : Int) (M : Mem) (Q : Int → Mem → Prop) : Prop :=
  0 ≤ (wr32 ((M 66 85) - 1)) ∧ (wr32 ((M 66 85) - 1)) < 1700 ∧ 0 ≤ (wr32 ((M 66 85) - 2)) ∧ (wr32 ((M 66 85) - 2)) < 1700 ∧ (∀ M2 : Mem, M2 = (mset M 66 85 (wr32 ((M 66 85) - 2))) → ((v1 = 1 → (nX12_qPuts M2) ∧ (∀ M7 : Mem, M7 = (fmX12_qPuts M2 (fX12_qClip (wr64 ((M 124 (wr32 ((M 66 85) - 2))) + (M 124 (wr32 ((M 66 85) - 1))))))) → Q 0 M7)) ∧ (¬ (v1 = 1) → ((v1 = 2 → (nX12_qPuts M2) ∧ (∀ M12 : Mem, M12 = (fmX12_qPuts M2 (fX12_qClip (wr64 ((M 124 (wr32 ((M 66 85) - 2))) - (M 124 (wr32 ((M 66 85) - 1))))))) → Q 0 M12)) ∧ (¬ (v1 = 2) → ((v1 = 3 → (nX12_qPuts M2) ∧ (∀ M17 : Mem, M17 = (fmX12_qPuts M2 (fX12_qClip (wr64 ((M 124 (wr32 ((M 66 85) - 2))) * (M 124 (wr32 ((M 66 85) - 1))))))) → Q 0 M17)) ∧ (¬ (v1 = 3) → ((v1 = 4 → PX12_qFloor (M 124 (wr32 ((M 66 85) - 2))) (M 124 (wr32 ((M 66 85) - 1))) M2 (fun a19 M20 => (nX12_qPuts M20) ∧ (∀ M24 : Mem, M24 = (fmX12_qPuts M20 a19) → Q 0 M24))) ∧ (¬ (v1 = 4) → ((v1 = 5 → (nX12_qPuts M2) ∧ (∀ M29 : Mem, M29 = (fmX12_qPuts M2 (if 0 ≤ (m_cmp (M 124 (wr32 ((M 66 85) - 2))) (M 124 (wr32 ((M 66 85) - 1)))) then (M 124 (wr32 ((M 66 85) - 1))) else (M 124 (wr32 ((M 66 85) - 2))))) → Q 0 M29)) ∧ (¬ (v1 = 5) → ((v1 = 6 → (nX12_qPuts M2) ∧ (∀ M35 : Mem, M35 = (fmX12_qPuts M2 (if (m_cmp (M 124 (wr32 ((M 66 85) - 2))) (M 124 (wr32 ((M 66 85) - 1)))) ≤ 0 then (M 124 (wr32 ((M 66 85) - 1))) else (M 124 (wr32 ((M 66 85) - 2))))) → Q 0 M35)) ∧ (¬ (v1 = 6) → ((v1 = 7 → (nX12_qPuts M2) ∧ (∀ M41 : Mem, M41 = (fmX12_qPuts M2 (if 0 ≤ (m_cmp (M 124 (wr32 ((M 66 85) - 2))) (M 124 (wr32 ((M 66 85) - 1)))) then (0 : Int) else 1)) → Q 0 M41)) ∧ (¬ (v1 = 7) → ((v1 = 8 → (nX12_qPuts M2) ∧ (∀ M47 : Mem, M47 = (fmX12_qPuts M2 (if (m_cmp (M 124 (wr32 ((M 66 85) - 2))) (M 124 (wr32 ((M 66 85) - 1)))) ≤ 0 then (0 : Int) else 1)) → Q 0 M47)) ∧ (¬ (v1 = 8) → ((v1 = 9 → (nX12_qPuts M2) ∧ (∀ M53 : Mem, M53 = (fmX12_qPuts M2 (if (m_cmp (M 124 (wr32 ((M 66 85) - 2))) (M 124 (wr32 ((M 66 85) - 1)))) = 0 then (1 : Int) else 0)) → Q 0 M53)) ∧ (¬ (v1 = 9) → ((v1 = 10 → (nX12_qPuts M2) ∧ (∀ M58 : Mem, M58 = (fmX12_qPuts M2 (wr64 ((M 124 (wr32 ((M 66 85) - 2))) * (M 124 (wr32 ((M 66 85) - 1)))))) → Q 0 M58)) ∧ (¬ (v1 = 10) → (nX12_qPuts M2) ∧ (∀ M62 : Mem, M62 = (fmX12_qPuts M2 (if (m_cmp (wr64 ((M 124 (wr32 ((M 66 85) - 2))) + (M 124 (wr32 ((M 66 85) - 1))))) 0) ≤ 0 then (0 : Int) else 1)) → Q 0 M62))))))))))))))))))))))
set_option maxRecDepth 100000 in
set_option maxHeartbeats 2000000 in
theorem pX12_qJoins {E : EV} {h : Int} {M : Mem} {v1 : Int}  {Q : Int → Mem → Prop} (H : PX12_qJoins v1 M Q) : C2 E miX12_qJoins 2 h [(2, 66), (0, v1)] M (RV Q) := by
  refine C2_of (L := [(2, 66), (0, v1), (3, 0), (3, 0), (3, 0), (3, 0)]) (by decide +kernel) (Nat.le_of_ble_eq_true rfl) rfl (fun hG => ?_)
  refine T_aload_n (i := 0) (pc' := 1) dX12_qJoins_0 rfl rfl rfl ?_
  refine U_gr (q := 124) (k := 84) (kI := 84) (pc' := 4) dX12_qJoins_1 rfl cl12 (by decide) rfl (by decide) flX12_192 rfl rfl rfl (G_at hG 124 rfl) (by decide) rfl ?_
  refine T_aload_n (i := 0) (pc' := 5) dX12_qJoins_4 rfl rfl rfl ?_
  refine U_gf (v := (0, (M 66 85))) (k := 85) (kI := 85) (pc' := 8) dX12_qJoins_5 rfl cl12 (by decide) rfl (by decide) flX12_587 rfl rfl (by decide) rfl rfl ?_
  refine T_iconst (pc' := 9) dX12_qJoins_8 (by decide) rfl ?_
  refine T_isub (pc' := 10) dX12_qJoins_9 rfl ?_
  obtain ⟨z1, z2, H⟩ := H
  refine T_lald (pc' := 11) dX12_qJoins_10 (by decide) rfl z1 z2 rfl ?_
  refine T_lstore_n (i := 2) (L' := [(2, 66), (0, v1), (1, (M 124 (wr32 ((M 66 85) - 1)))), (3, 0), (3, 0), (3, 0)]) (pc' := 12) dX12_qJoins_11 rfl (by decide) rfl rfl ?_
  refine T_aload_n (i := 0) (pc' := 13) dX12_qJoins_12 rfl rfl rfl ?_
  refine U_gr (q := 124) (k := 84) (kI := 84) (pc' := 16) dX12_qJoins_13 rfl cl12 (by decide) rfl (by decide) flX12_192 rfl rfl rfl (G_at hG 124 rfl) (by decide) rfl ?_
  refine T_aload_n (i := 0) (pc' := 17) dX12_qJoins_16 rfl rfl rfl ?_
  refine U_gf (v := (0, (M 66 85))) (k := 85) (kI := 85) (pc' := 20) dX12_qJoins_17 rfl cl12 (by decide) rfl (by decide) flX12_587 rfl rfl (by decide) rfl rfl ?_
  refine T_iconst (pc' := 21) dX12_qJoins_20 (by decide) rfl ?_
  refine T_isub (pc' := 22) dX12_qJoins_21 rfl ?_
  obtain ⟨z1, z2, H⟩ := H
  refine T_lald (pc' := 23) dX12_qJoins_22 (by decide) rfl z1 z2 rfl ?_
  refine T_lstore (i := 4) (L' := [(2, 66), (0, v1), (1, (M 124 (wr32 ((M 66 85) - 1)))), (3, 0), (1, (M 124 (wr32 ((M 66 85) - 2)))), (3, 0)]) (pc' := 25) dX12_qJoins_23 (by decide) rfl rfl ?_
  refine T_aload_n (i := 0) (pc' := 26) dX12_qJoins_25 rfl rfl rfl ?_
  refine T_dup (pc' := 27) dX12_qJoins_26 (Nat.ne_of_beq_eq_false rfl) rfl ?_
  refine U_gf (v := (0, (M 66 85))) (k := 85) (kI := 85) (pc' := 30) dX12_qJoins_27 rfl cl12 (by decide) rfl (by decide) flX12_587 rfl rfl (by decide) rfl rfl ?_
  refine T_iconst (pc' := 31) dX12_qJoins_30 (by decide) rfl ?_
  refine T_isub (pc' := 32) dX12_qJoins_31 rfl ?_
  refine U_pf (y := (wr32 ((M 66 85) - 2))) (k := 85) (kI := 85) (pc' := 35) dX12_qJoins_32 rfl cl12 (by decide) rfl (by decide) flX12_587 rfl rfl rfl rfl rfl (by decide) (fun z => z) rfl ?_
  have hG1 := (G_fld (x := 66) (i := 85) (y := (wr32 ((M 66 85) - 2))) rfl (by decide) (by decide) (by decide) hG)
  obtain ⟨M2, eM2⟩ : ∃ m : Mem, m = (mset M 66 85 (wr32 ((M 66 85) - 2))) := ⟨_, rfl⟩
  rw [← eM2] at hG1 ⊢
  replace H := H M2 eM2
  refine T_iload_n (i := 1) (pc' := 36) dX12_qJoins_35 rfl rfl rfl ?_
  by_cases c3 : v1 = 1
  · skip
    replace H := H.1 c3
    refine T_tableIn (pc' := 92) dX12_qJoins_36 (by omega) (by omega) (by rw [c3]; rfl) (by decide) ?_
    refine T_aload_n (i := 0) (pc' := 93) dX12_qJoins_92 rfl rfl rfl ?_
    refine T_lload (i := 4) (pc' := 95) dX12_qJoins_93 rfl rfl ?_
    refine T_lload_n (i := 2) (pc' := 96) dX12_qJoins_95 rfl rfl rfl ?_
    refine T_ladd (pc' := 97) dX12_qJoins_96 rfl ?_
    refine T_callS (av := [(1, (wr64 ((M 124 (wr32 ((M 66 85) - 2))) + (M 124 (wr32 ((M 66 85) - 1))))))]) (st := [(2, 66)]) (d2 := 1) (nc2 := 0) (ns2 := 0) (pc' := 100) dX12_qJoins_97 rfl mtX12_qClip mvX12_qClip mlX12_590 rfl rfl (Nat.le_of_ble_eq_true rfl) (by decide) ⟨by decide, by decide⟩ rfl (pX12_qClip (E := E) (h := h) (M := M2) (v0 := (wr64 ((M 124 (wr32 ((M 66 85) - 2))) + (M 124 (wr32 ((M 66 85) - 1)))))) hG1) (kF (st2 := [(1, (fX12_qClip (wr64 ((M 124 (wr32 ((M 66 85) - 2))) + (M 124 (wr32 ((M 66 85) - 1))))))), (2, 66)]) rfl (fun hG4 => ?_))
    obtain ⟨z5, H⟩ := H
    refine T_callV (av := [(1, (fX12_qClip (wr64 ((M 124 (wr32 ((M 66 85) - 2))) + (M 124 (wr32 ((M 66 85) - 1)))))))]) (st := []) (d2 := 1) (nc2 := 0) (ns2 := 0) (pc' := 103) dX12_qJoins_100 rfl mtX12_qPuts mvX12_qPuts mlX12_594 cl12 rfl rfl rfl (Nat.le_of_ble_eq_true rfl) (by decide) ⟨by decide, by decide⟩ rfl (pX12_qPuts (E := E) (h := h) (M := M2) (v1 := (fX12_qClip (wr64 ((M 124 (wr32 ((M 66 85) - 2))) + (M 124 (wr32 ((M 66 85) - 1))))))) z5 hG1) (kF (st2 := []) rfl (fun hG6 => ?_))
    obtain ⟨M7, eM7⟩ : ∃ m : Mem, m = (fmX12_qPuts M2 (fX12_qClip (wr64 ((M 124 (wr32 ((M 66 85) - 2))) + (M 124 (wr32 ((M 66 85) - 1))))))) := ⟨_, rfl⟩
    rw [← eM7] at hG6 ⊢
    replace H := H M7 eM7
    refine T_goto (pc' := 273) dX12_qJoins_103 (by decide) ?_
    exact T_vret dX12_qJoins_273 rfl ⟨rfl, hG6, rfl, H⟩
  · skip
    replace H := H.2 c3
    by_cases c8 : v1 = 2
    · skip
      replace H := H.1 c8
      refine T_tableIn (pc' := 106) dX12_qJoins_36 (by omega) (by omega) (by rw [c8]; rfl) (by decide) ?_
      refine T_aload_n (i := 0) (pc' := 107) dX12_qJoins_106 rfl rfl rfl ?_
      refine T_lload (i := 4) (pc' := 109) dX12_qJoins_107 rfl rfl ?_
      refine T_lload_n (i := 2) (pc' := 110) dX12_qJoins_109 rfl rfl rfl ?_
      refine T_lsub (pc' := 111) dX12_qJoins_110 rfl ?_
      refine T_callS (av := [(1, (wr64 ((M 124 (wr32 ((M 66 85) - 2))) - (M 124 (wr32 ((M 66 85) - 1))))))]) (st := [(2, 66)]) (d2 := 1) (nc2 := 0) (ns2 := 0) (pc' := 114) dX12_qJoins_111 rfl mtX12_qClip mvX12_qClip mlX12_590 rfl rfl (Nat.le_of_ble_eq_true rfl) (by decide) ⟨by decide, by decide⟩ rfl (pX12_qClip (E := E) (h := h) (M := M2) (v0 := (wr64 ((M 124 (wr32 ((M 66 85) - 2))) - (M 124 (wr32 ((M 66 85) - 1)))))) hG1) (kF (st2 := [(1, (fX12_qClip (wr64 ((M 124 (wr32 ((M 66 85) - 2))) - (M 124 (wr32 ((M 66 85) - 1))))))), (2, 66)]) rfl (fun hG9 => ?_))
      obtain ⟨z10, H⟩ := H
      refine T_callV (av := [(1, (fX12_qClip (wr64 ((M 124 (wr32 ((M 66 85) - 2))) - (M 124 (wr32 ((M 66 85) - 1)))))))]) (st := []) (d2 := 1) (nc2 := 0) (ns2 := 0) (pc' := 117) dX12_qJoins_114 rfl mtX12_qPuts mvX12_qPuts mlX12_594 cl12 rfl rfl rfl (Nat.le_of_ble_eq_true rfl) (by decide) ⟨by decide, by decide⟩ rfl (pX12_qPuts (E := E) (h := h) (M := M2) (v1 := (fX12_qClip (wr64 ((M 124 (wr32 ((M 66 85) - 2))) - (M 124 (wr32 ((M 66 85) - 1))))))) z10 hG1) (kF (st2 := []) rfl (fun hG11 => ?_))
      obtain ⟨M12, eM12⟩ : ∃ m : Mem, m = (fmX12_qPuts M2 (fX12_qClip (wr64 ((M 124 (wr32 ((M 66 85) - 2))) - (M 124 (wr32 ((M 66 85) - 1))))))) := ⟨_, rfl⟩
      rw [← eM12] at hG11 ⊢
      replace H := H M12 eM12
      refine T_goto (pc' := 273) dX12_qJoins_117 (by decide) ?_
      exact T_vret dX12_qJoins_273 rfl ⟨rfl, hG11, rfl, H⟩
    · skip
      replace H := H.2 c8
      by_cases c13 : v1 = 3
      · skip
        replace H := H.1 c13
        refine T_tableIn (pc' := 120) dX12_qJoins_36 (by omega) (by omega) (by rw [c13]; rfl) (by decide) ?_
        refine T_aload_n (i := 0) (pc' := 121) dX12_qJoins_120 rfl rfl rfl ?_
        refine T_lload (i := 4) (pc' := 123) dX12_qJoins_121 rfl rfl ?_
        refine T_lload_n (i := 2) (pc' := 124) dX12_qJoins_123 rfl rfl rfl ?_
        refine T_lmul (pc' := 125) dX12_qJoins_124 rfl ?_
        refine T_callS (av := [(1, (wr64 ((M 124 (wr32 ((M 66 85) - 2))) * (M 124 (wr32 ((M 66 85) - 1))))))]) (st := [(2, 66)]) (d2 := 1) (nc2 := 0) (ns2 := 0) (pc' := 128) dX12_qJoins_125 rfl mtX12_qClip mvX12_qClip mlX12_590 rfl rfl (Nat.le_of_ble_eq_true rfl) (by decide) ⟨by decide, by decide⟩ rfl (pX12_qClip (E := E) (h := h) (M := M2) (v0 := (wr64 ((M 124 (wr32 ((M 66 85) - 2))) * (M 124 (wr32 ((M 66 85) - 1)))))) hG1) (kF (st2 := [(1, (fX12_qClip (wr64 ((M 124 (wr32 ((M 66 85) - 2))) * (M 124 (wr32 ((M 66 85) - 1))))))), (2, 66)]) rfl (fun hG14 => ?_))
        obtain ⟨z15, H⟩ := H
        refine T_callV (av := [(1, (fX12_qClip (wr64 ((M 124 (wr32 ((M 66 85) - 2))) * (M 124 (wr32 ((M 66 85) - 1)))))))]) (st := []) (d2 := 1) (nc2 := 0) (ns2 := 0) (pc' := 131) dX12_qJoins_128 rfl mtX12_qPuts mvX12_qPuts mlX12_594 cl12 rfl rfl rfl (Nat.le_of_ble_eq_true rfl) (by decide) ⟨by decide, by decide⟩ rfl (pX12_qPuts (E := E) (h := h) (M := M2) (v1 := (fX12_qClip (wr64 ((M 124 (wr32 ((M 66 85) - 2))) * (M 124 (wr32 ((M 66 85) - 1))))))) z15 hG1) (kF (st2 := []) rfl (fun hG16 => ?_))
        obtain ⟨M17, eM17⟩ : ∃ m : Mem, m = (fmX12_qPuts M2 (fX12_qClip (wr64 ((M 124 (wr32 ((M 66 85) - 2))) * (M 124 (wr32 ((M 66 85) - 1))))))) := ⟨_, rfl⟩
        rw [← eM17] at hG16 ⊢
        replace H := H M17 eM17
        refine T_goto (pc' := 273) dX12_qJoins_131 (by decide) ?_
        exact T_vret dX12_qJoins_273 rfl ⟨rfl, hG16, rfl, H⟩
      · skip
        replace H := H.2 c13
        by_cases c18 : v1 = 4
        · skip
          replace H := H.1 c18
          refine T_tableIn (pc' := 134) dX12_qJoins_36 (by omega) (by omega) (by rw [c18]; rfl) (by decide) ?_
          refine T_aload_n (i := 0) (pc' := 135) dX12_qJoins_134 rfl rfl rfl ?_
          refine T_lload (i := 4) (pc' := 137) dX12_qJoins_135 rfl rfl ?_
          refine T_lload_n (i := 2) (pc' := 138) dX12_qJoins_137 rfl rfl rfl ?_
          refine T_callS (av := [(1, (M 124 (wr32 ((M 66 85) - 2)))), (1, (M 124 (wr32 ((M 66 85) - 1))))]) (st := [(2, 66)]) (d2 := 1) (nc2 := 0) (ns2 := 0) (pc' := 141) dX12_qJoins_138 rfl mtX12_qFloor mvX12_qFloor mlX12_598 rfl rfl (Nat.le_of_ble_eq_true rfl) (by decide) ⟨by decide, by decide⟩ rfl (pX12_qFloor (E := E) (h := h) (M := M2) (v0 := (M 124 (wr32 ((M 66 85) - 2)))) (v2 := (M 124 (wr32 ((M 66 85) - 1)))) H hG1) ?_
          rintro _ _ M20 ⟨rfl, hG21, a19, rfl, H⟩ _
          obtain ⟨z22, H⟩ := H
          refine T_callV (av := [(1, a19)]) (st := []) (d2 := 1) (nc2 := 0) (ns2 := 0) (pc' := 144) dX12_qJoins_141 rfl mtX12_qPuts mvX12_qPuts mlX12_594 cl12 rfl rfl rfl (Nat.le_of_ble_eq_true rfl) (by decide) ⟨by decide, by decide⟩ rfl (pX12_qPuts (E := E) (h := h) (M := M20) (v1 := a19) z22 hG21) (kF (st2 := []) rfl (fun hG23 => ?_))
          obtain ⟨M24, eM24⟩ : ∃ m : Mem, m = (fmX12_qPuts M20 a19) := ⟨_, rfl⟩
          rw [← eM24] at hG23 ⊢
          replace H := H M24 eM24
          refine T_goto (pc' := 273) dX12_qJoins_144 (by decide) ?_
          exact T_vret dX12_qJoins_273 rfl ⟨rfl, hG23, rfl, H⟩
        · skip
          replace H := H.2 c18
          by_cases c25 : v1 = 5
          · skip
            replace H := H.1 c25
            refine T_tableIn (pc' := 147) dX12_qJoins_36 (by omega) (by omega) (by rw [c25]; rfl) (by decide) ?_
            refine T_aload_n (i := 0) (pc' := 148) dX12_qJoins_147 rfl rfl rfl ?_
            refine T_lload (i := 4) (pc' := 150) dX12_qJoins_148 rfl rfl ?_
            refine T_lload_n (i := 2) (pc' := 151) dX12_qJoins_150 rfl rfl rfl ?_
            refine T_lcmp (pc' := 152) dX12_qJoins_151 rfl ?_
            have HJ26 : T E miX12_qJoins 2 126 0 0 (fun r S M' => S = S0 ∧ G h M' ∧ RV Q r M') 161 [(3, 0), (3, 0), (3, 0), (3, 0), (3, 0), (3, 0)] [(1, (if 0 ≤ (m_cmp (M 124 (wr32 ((M 66 85) - 2))) (M 124 (wr32 ((M 66 85) - 1)))) then (M 124 (wr32 ((M 66 85) - 1))) else (M 124 (wr32 ((M 66 85) - 2))))), (2, 66)] S0 M2 0 0 := by
              obtain ⟨z27, H⟩ := H
              refine T_callV (av := [(1, (if 0 ≤ (m_cmp (M 124 (wr32 ((M 66 85) - 2))) (M 124 (wr32 ((M 66 85) - 1)))) then (M 124 (wr32 ((M 66 85) - 1))) else (M 124 (wr32 ((M 66 85) - 2)))))]) (st := []) (d2 := 1) (nc2 := 0) (ns2 := 0) (pc' := 164) dX12_qJoins_161 rfl mtX12_qPuts mvX12_qPuts mlX12_594 cl12 rfl rfl rfl (Nat.le_of_ble_eq_true rfl) (by decide) ⟨by decide, by decide⟩ rfl (pX12_qPuts (E := E) (h := h) (M := M2) (v1 := (if 0 ≤ (m_cmp (M 124 (wr32 ((M 66 85) - 2))) (M 124 (wr32 ((M 66 85) - 1)))) then (M 124 (wr32 ((M 66 85) - 1))) else (M 124 (wr32 ((M 66 85) - 2))))) z27 hG1) (kF (st2 := []) rfl (fun hG28 => ?_))
              obtain ⟨M29, eM29⟩ : ∃ m : Mem, m = (fmX12_qPuts M2 (if 0 ≤ (m_cmp (M 124 (wr32 ((M 66 85) - 2))) (M 124 (wr32 ((M 66 85) - 1)))) then (M 124 (wr32 ((M 66 85) - 1))) else (M 124 (wr32 ((M 66 85) - 2))))) := ⟨_, rfl⟩
              rw [← eM29] at hG28 ⊢
              replace H := H M29 eM29
              refine T_goto (pc' := 273) dX12_qJoins_164 (by decide) ?_
              exact T_vret dX12_qJoins_273 rfl ⟨rfl, hG28, rfl, H⟩
            refine T_if_ge (pc' := 160) dX12_qJoins_152 (by decide) (pf := 155) rfl (fun c30 => ?_) (fun c30 => ?_)
            · skip
              refine T_lload_n (i := 2) (pc' := 161) dX12_qJoins_160 rfl rfl rfl ?_
              exact T_wk (L' := [(3, 0), (3, 0), (3, 0), (3, 0), (3, 0), (3, 0)]) (by have q := HJ26; try simp only [if_pos c30] at q ⊢; exact q) ⟨Or.inl rfl, Or.inl rfl, Or.inl rfl, Or.inl rfl, Or.inl rfl, Or.inl rfl, trivial⟩
            · skip
              refine T_lload (i := 4) (pc' := 157) dX12_qJoins_155 rfl rfl ?_
              refine T_goto (pc' := 161) dX12_qJoins_157 (by decide) ?_
              exact T_wk (L' := [(3, 0), (3, 0), (3, 0), (3, 0), (3, 0), (3, 0)]) (by have q := HJ26; try simp only [if_neg c30] at q ⊢; exact q) ⟨Or.inl rfl, Or.inl rfl, Or.inl rfl, Or.inl rfl, Or.inl rfl, Or.inl rfl, trivial⟩
          · skip
            replace H := H.2 c25
            by_cases c31 : v1 = 6
            · skip
              replace H := H.1 c31
              refine T_tableIn (pc' := 167) dX12_qJoins_36 (by omega) (by omega) (by rw [c31]; rfl) (by decide) ?_
              refine T_aload_n (i := 0) (pc' := 168) dX12_qJoins_167 rfl rfl rfl ?_
              refine T_lload (i := 4) (pc' := 170) dX12_qJoins_168 rfl rfl ?_
              refine T_lload_n (i := 2) (pc' := 171) dX12_qJoins_170 rfl rfl rfl ?_
              refine T_lcmp (pc' := 172) dX12_qJoins_171 rfl ?_
              have HJ32 : T E miX12_qJoins 2 126 0 0 (fun r S M' => S = S0 ∧ G h M' ∧ RV Q r M') 181 [(3, 0), (3, 0), (3, 0), (3, 0), (3, 0), (3, 0)] [(1, (if (m_cmp (M 124 (wr32 ((M 66 85) - 2))) (M 124 (wr32 ((M 66 85) - 1)))) ≤ 0 then (M 124 (wr32 ((M 66 85) - 1))) else (M 124 (wr32 ((M 66 85) - 2))))), (2, 66)] S0 M2 0 0 := by
                obtain ⟨z33, H⟩ := H
                refine T_callV (av := [(1, (if (m_cmp (M 124 (wr32 ((M 66 85) - 2))) (M 124 (wr32 ((M 66 85) - 1)))) ≤ 0 then (M 124 (wr32 ((M 66 85) - 1))) else (M 124 (wr32 ((M 66 85) - 2)))))]) (st := []) (d2 := 1) (nc2 := 0) (ns2 := 0) (pc' := 184) dX12_qJoins_181 rfl mtX12_qPuts mvX12_qPuts mlX12_594 cl12 rfl rfl rfl (Nat.le_of_ble_eq_true rfl) (by decide) ⟨by decide, by decide⟩ rfl (pX12_qPuts (E := E) (h := h) (M := M2) (v1 := (if (m_cmp (M 124 (wr32 ((M 66 85) - 2))) (M 124 (wr32 ((M 66 85) - 1)))) ≤ 0 then (M 124 (wr32 ((M 66 85) - 1))) else (M 124 (wr32 ((M 66 85) - 2))))) z33 hG1) (kF (st2 := []) rfl (fun hG34 => ?_))
                obtain ⟨M35, eM35⟩ : ∃ m : Mem, m = (fmX12_qPuts M2 (if (m_cmp (M 124 (wr32 ((M 66 85) - 2))) (M 124 (wr32 ((M 66 85) - 1)))) ≤ 0 then (M 124 (wr32 ((M 66 85) - 1))) else (M 124 (wr32 ((M 66 85) - 2))))) := ⟨_, rfl⟩
                rw [← eM35] at hG34 ⊢
                replace H := H M35 eM35
                refine T_goto (pc' := 273) dX12_qJoins_184 (by decide) ?_
                exact T_vret dX12_qJoins_273 rfl ⟨rfl, hG34, rfl, H⟩
              refine T_if_le (pc' := 180) dX12_qJoins_172 (by decide) (pf := 175) rfl (fun c36 => ?_) (fun c36 => ?_)
              · skip
                refine T_lload_n (i := 2) (pc' := 181) dX12_qJoins_180 rfl rfl rfl ?_
                exact T_wk (L' := [(3, 0), (3, 0), (3, 0), (3, 0), (3, 0), (3, 0)]) (by have q := HJ32; try simp only [if_pos c36] at q ⊢; exact q) ⟨Or.inl rfl, Or.inl rfl, Or.inl rfl, Or.inl rfl, Or.inl rfl, Or.inl rfl, trivial⟩
              · skip
                refine T_lload (i := 4) (pc' := 177) dX12_qJoins_175 rfl rfl ?_
                refine T_goto (pc' := 181) dX12_qJoins_177 (by decide) ?_
                exact T_wk (L' := [(3, 0), (3, 0), (3, 0), (3, 0), (3, 0), (3, 0)]) (by have q := HJ32; try simp only [if_neg c36] at q ⊢; exact q) ⟨Or.inl rfl, Or.inl rfl, Or.inl rfl, Or.inl rfl, Or.inl rfl, Or.inl rfl, trivial⟩
            · skip
              replace H := H.2 c31
              by_cases c37 : v1 = 7
              · skip
                replace H := H.1 c37
                refine T_tableIn (pc' := 187) dX12_qJoins_36 (by omega) (by omega) (by rw [c37]; rfl) (by decide) ?_
                refine T_aload_n (i := 0) (pc' := 188) dX12_qJoins_187 rfl rfl rfl ?_
                refine T_lload (i := 4) (pc' := 190) dX12_qJoins_188 rfl rfl ?_
                refine T_lload_n (i := 2) (pc' := 191) dX12_qJoins_190 rfl rfl rfl ?_
                refine T_lcmp (pc' := 192) dX12_qJoins_191 rfl ?_
                have HJ38 : T E miX12_qJoins 2 126 0 0 (fun r S M' => S = S0 ∧ G h M' ∧ RV Q r M') 200 [(3, 0), (3, 0), (3, 0), (3, 0), (3, 0), (3, 0)] [(1, (if 0 ≤ (m_cmp (M 124 (wr32 ((M 66 85) - 2))) (M 124 (wr32 ((M 66 85) - 1)))) then (0 : Int) else 1)), (2, 66)] S0 M2 0 0 := by
                  obtain ⟨z39, H⟩ := H
                  refine T_callV (av := [(1, (if 0 ≤ (m_cmp (M 124 (wr32 ((M 66 85) - 2))) (M 124 (wr32 ((M 66 85) - 1)))) then (0 : Int) else 1))]) (st := []) (d2 := 1) (nc2 := 0) (ns2 := 0) (pc' := 203) dX12_qJoins_200 rfl mtX12_qPuts mvX12_qPuts mlX12_594 cl12 rfl rfl rfl (Nat.le_of_ble_eq_true rfl) (by decide) ⟨by decide, by decide⟩ rfl (pX12_qPuts (E := E) (h := h) (M := M2) (v1 := (if 0 ≤ (m_cmp (M 124 (wr32 ((M 66 85) - 2))) (M 124 (wr32 ((M 66 85) - 1)))) then (0 : Int) else 1)) z39 hG1) (kF (st2 := []) rfl (fun hG40 => ?_))
                  obtain ⟨M41, eM41⟩ : ∃ m : Mem, m = (fmX12_qPuts M2 (if 0 ≤ (m_cmp (M 124 (wr32 ((M 66 85) - 2))) (M 124 (wr32 ((M 66 85) - 1)))) then (0 : Int) else 1)) := ⟨_, rfl⟩
                  rw [← eM41] at hG40 ⊢
                  replace H := H M41 eM41
                  refine T_goto (pc' := 273) dX12_qJoins_203 (by decide) ?_
                  exact T_vret dX12_qJoins_273 rfl ⟨rfl, hG40, rfl, H⟩
                refine T_if_ge (pc' := 199) dX12_qJoins_192 (by decide) (pf := 195) rfl (fun c42 => ?_) (fun c42 => ?_)
                · skip
                  refine T_lconst (v := 0) (pc' := 200) dX12_qJoins_199 rfl (by decide) rfl ?_
                  exact T_wk (L' := [(3, 0), (3, 0), (3, 0), (3, 0), (3, 0), (3, 0)]) (by have q := HJ38; try simp only [if_pos c42] at q ⊢; exact q) ⟨Or.inl rfl, Or.inl rfl, Or.inl rfl, Or.inl rfl, Or.inl rfl, Or.inl rfl, trivial⟩
                · skip
                  refine T_lconst (v := 1) (pc' := 196) dX12_qJoins_195 rfl (by decide) rfl ?_
                  refine T_goto (pc' := 200) dX12_qJoins_196 (by decide) ?_
                  exact T_wk (L' := [(3, 0), (3, 0), (3, 0), (3, 0), (3, 0), (3, 0)]) (by have q := HJ38; try simp only [if_neg c42] at q ⊢; exact q) ⟨Or.inl rfl, Or.inl rfl, Or.inl rfl, Or.inl rfl, Or.inl rfl, Or.inl rfl, trivial⟩
              · skip
                replace H := H.2 c37
                by_cases c43 : v1 = 8
                · skip
                  replace H := H.1 c43
                  refine T_tableIn (pc' := 206) dX12_qJoins_36 (by omega) (by omega) (by rw [c43]; rfl) (by decide) ?_
                  refine T_aload_n (i := 0) (pc' := 207) dX12_qJoins_206 rfl rfl rfl ?_
                  refine T_lload (i := 4) (pc' := 209) dX12_qJoins_207 rfl rfl ?_
                  refine T_lload_n (i := 2) (pc' := 210) dX12_qJoins_209 rfl rfl rfl ?_
                  refine T_lcmp (pc' := 211) dX12_qJoins_210 rfl ?_
                  have HJ44 : T E miX12_qJoins 2 126 0 0 (fun r S M' => S = S0 ∧ G h M' ∧ RV Q r M') 219 [(3, 0), (3, 0), (3, 0), (3, 0), (3, 0), (3, 0)] [(1, (if (m_cmp (M 124 (wr32 ((M 66 85) - 2))) (M 124 (wr32 ((M 66 85) - 1)))) ≤ 0 then (0 : Int) else 1)), (2, 66)] S0 M2 0 0 := by
                    obtain ⟨z45, H⟩ := H
                    refine T_callV (av := [(1, (if (m_cmp (M 124 (wr32 ((M 66 85) - 2))) (M 124 (wr32 ((M 66 85) - 1)))) ≤ 0 then (0 : Int) else 1))]) (st := []) (d2 := 1) (nc2 := 0) (ns2 := 0) (pc' := 222) dX12_qJoins_219 rfl mtX12_qPuts mvX12_qPuts mlX12_594 cl12 rfl rfl rfl (Nat.le_of_ble_eq_true rfl) (by decide) ⟨by decide, by decide⟩ rfl (pX12_qPuts (E := E) (h := h) (M := M2) (v1 := (if (m_cmp (M 124 (wr32 ((M 66 85) - 2))) (M 124 (wr32 ((M 66 85) - 1)))) ≤ 0 then (0 : Int) else 1)) z45 hG1) (kF (st2 := []) rfl (fun hG46 => ?_))
                    obtain ⟨M47, eM47⟩ : ∃ m : Mem, m = (fmX12_qPuts M2 (if (m_cmp (M 124 (wr32 ((M 66 85) - 2))) (M 124 (wr32 ((M 66 85) - 1)))) ≤ 0 then (0 : Int) else 1)) := ⟨_, rfl⟩
                    rw [← eM47] at hG46 ⊢
                    replace H := H M47 eM47
                    refine T_goto (pc' := 273) dX12_qJoins_222 (by decide) ?_
                    exact T_vret dX12_qJoins_273 rfl ⟨rfl, hG46, rfl, H⟩
                  refine T_if_le (pc' := 218) dX12_qJoins_211 (by decide) (pf := 214) rfl (fun c48 => ?_) (fun c48 => ?_)
                  · skip
                    refine T_lconst (v := 0) (pc' := 219) dX12_qJoins_218 rfl (by decide) rfl ?_
                    exact T_wk (L' := [(3, 0), (3, 0), (3, 0), (3, 0), (3, 0), (3, 0)]) (by have q := HJ44; try simp only [if_pos c48] at q ⊢; exact q) ⟨Or.inl rfl, Or.inl rfl, Or.inl rfl, Or.inl rfl, Or.inl rfl, Or.inl rfl, trivial⟩
                  · skip
                    refine T_lconst (v := 1) (pc' := 215) dX12_qJoins_214 rfl (by decide) rfl ?_
                    refine T_goto (pc' := 219) dX12_qJoins_215 (by decide) ?_
                    exact T_wk (L' := [(3, 0), (3, 0), (3, 0), (3, 0), (3, 0), (3, 0)]) (by have q := HJ44; try simp only [if_neg c48] at q ⊢; exact q) ⟨Or.inl rfl, Or.inl rfl, Or.inl rfl, Or.inl rfl, Or.inl rfl, Or.inl rfl, trivial⟩
                · skip
                  replace H := H.2 c43
                  by_cases c49 : v1 = 9
                  · skip
                    replace H := H.1 c49
                    refine T_tableIn (pc' := 225) dX12_qJoins_36 (by omega) (by omega) (by rw [c49]; rfl) (by decide) ?_
                    refine T_aload_n (i := 0) (pc' := 226) dX12_qJoins_225 rfl rfl rfl ?_
                    refine T_lload (i := 4) (pc' := 228) dX12_qJoins_226 rfl rfl ?_
                    refine T_lload_n (i := 2) (pc' := 229) dX12_qJoins_228 rfl rfl rfl ?_
                    refine T_lcmp (pc' := 230) dX12_qJoins_229 rfl ?_
                    have HJ50 : T E miX12_qJoins 2 126 0 0 (fun r S M' => S = S0 ∧ G h M' ∧ RV Q r M') 238 [(3, 0), (3, 0), (3, 0), (3, 0), (3, 0), (3, 0)] [(1, (if (m_cmp (M 124 (wr32 ((M 66 85) - 2))) (M 124 (wr32 ((M 66 85) - 1)))) = 0 then (1 : Int) else 0)), (2, 66)] S0 M2 0 0 := by
                      obtain ⟨z51, H⟩ := H
                      refine T_callV (av := [(1, (if (m_cmp (M 124 (wr32 ((M 66 85) - 2))) (M 124 (wr32 ((M 66 85) - 1)))) = 0 then (1 : Int) else 0))]) (st := []) (d2 := 1) (nc2 := 0) (ns2 := 0) (pc' := 241) dX12_qJoins_238 rfl mtX12_qPuts mvX12_qPuts mlX12_594 cl12 rfl rfl rfl (Nat.le_of_ble_eq_true rfl) (by decide) ⟨by decide, by decide⟩ rfl (pX12_qPuts (E := E) (h := h) (M := M2) (v1 := (if (m_cmp (M 124 (wr32 ((M 66 85) - 2))) (M 124 (wr32 ((M 66 85) - 1)))) = 0 then (1 : Int) else 0)) z51 hG1) (kF (st2 := []) rfl (fun hG52 => ?_))
                      obtain ⟨M53, eM53⟩ : ∃ m : Mem, m = (fmX12_qPuts M2 (if (m_cmp (M 124 (wr32 ((M 66 85) - 2))) (M 124 (wr32 ((M 66 85) - 1)))) = 0 then (1 : Int) else 0)) := ⟨_, rfl⟩
                      rw [← eM53] at hG52 ⊢
                      replace H := H M53 eM53
                      refine T_goto (pc' := 273) dX12_qJoins_241 (by decide) ?_
                      exact T_vret dX12_qJoins_273 rfl ⟨rfl, hG52, rfl, H⟩
                    refine T_if_ne (pc' := 237) dX12_qJoins_230 (by decide) (pf := 233) rfl (fun c54 => ?_) (fun c54 => ?_)
                    · skip
                      refine T_lconst (v := 0) (pc' := 238) dX12_qJoins_237 rfl (by decide) rfl ?_
                      exact T_wk (L' := [(3, 0), (3, 0), (3, 0), (3, 0), (3, 0), (3, 0)]) (by have q := HJ50; try simp only [if_neg c54] at q ⊢; exact q) ⟨Or.inl rfl, Or.inl rfl, Or.inl rfl, Or.inl rfl, Or.inl rfl, Or.inl rfl, trivial⟩
                    · skip
                      refine T_lconst (v := 1) (pc' := 234) dX12_qJoins_233 rfl (by decide) rfl ?_
                      refine T_goto (pc' := 238) dX12_qJoins_234 (by decide) ?_
                      exact T_wk (L' := [(3, 0), (3, 0), (3, 0), (3, 0), (3, 0), (3, 0)]) (by have q := HJ50; try simp only [if_pos c54] at q ⊢; exact q) ⟨Or.inl rfl, Or.inl rfl, Or.inl rfl, Or.inl rfl, Or.inl rfl, Or.inl rfl, trivial⟩
                  · skip
                    replace H := H.2 c49
                    by_cases c55 : v1 = 10
                    · skip
                      replace H := H.1 c55
                      refine T_tableIn (pc' := 244) dX12_qJoins_36 (by omega) (by omega) (by rw [c55]; rfl) (by decide) ?_
                      refine T_aload_n (i := 0) (pc' := 245) dX12_qJoins_244 rfl rfl rfl ?_
                      refine T_lload (i := 4) (pc' := 247) dX12_qJoins_245 rfl rfl ?_
                      refine T_lload_n (i := 2) (pc' := 248) dX12_qJoins_247 rfl rfl rfl ?_
                      refine T_lmul (pc' := 249) dX12_qJoins_248 rfl ?_
                      obtain ⟨z56, H⟩ := H
                      refine T_callV (av := [(1, (wr64 ((M 124 (wr32 ((M 66 85) - 2))) * (M 124 (wr32 ((M 66 85) - 1))))))]) (st := []) (d2 := 1) (nc2 := 0) (ns2 := 0) (pc' := 252) dX12_qJoins_249 rfl mtX12_qPuts mvX12_qPuts mlX12_594 cl12 rfl rfl rfl (Nat.le_of_ble_eq_true rfl) (by decide) ⟨by decide, by decide⟩ rfl (pX12_qPuts (E := E) (h := h) (M := M2) (v1 := (wr64 ((M 124 (wr32 ((M 66 85) - 2))) * (M 124 (wr32 ((M 66 85) - 1)))))) z56 hG1) (kF (st2 := []) rfl (fun hG57 => ?_))
                      obtain ⟨M58, eM58⟩ : ∃ m : Mem, m = (fmX12_qPuts M2 (wr64 ((M 124 (wr32 ((M 66 85) - 2))) * (M 124 (wr32 ((M 66 85) - 1)))))) := ⟨_, rfl⟩
                      rw [← eM58] at hG57 ⊢
                      replace H := H M58 eM58
                      refine T_goto (pc' := 273) dX12_qJoins_252 (by decide) ?_
                      exact T_vret dX12_qJoins_273 rfl ⟨rfl, hG57, rfl, H⟩
                    · skip
                      replace H := H.2 c55
                      refine T_tableOut (pc' := 255) dX12_qJoins_36 (by omega) (by decide) ?_
                      refine T_aload_n (i := 0) (pc' := 256) dX12_qJoins_255 rfl rfl rfl ?_
                      refine T_lload (i := 4) (pc' := 258) dX12_qJoins_256 rfl rfl ?_
                      refine T_lload_n (i := 2) (pc' := 259) dX12_qJoins_258 rfl rfl rfl ?_
                      refine T_ladd (pc' := 260) dX12_qJoins_259 rfl ?_
                      refine T_lconst (v := 0) (pc' := 261) dX12_qJoins_260 rfl (by decide) rfl ?_
                      refine T_lcmp (pc' := 262) dX12_qJoins_261 rfl ?_
                      have HJ59 : T E miX12_qJoins 2 126 0 0 (fun r S M' => S = S0 ∧ G h M' ∧ RV Q r M') 270 [(3, 0), (3, 0), (3, 0), (3, 0), (3, 0), (3, 0)] [(1, (if (m_cmp (wr64 ((M 124 (wr32 ((M 66 85) - 2))) + (M 124 (wr32 ((M 66 85) - 1))))) 0) ≤ 0 then (0 : Int) else 1)), (2, 66)] S0 M2 0 0 := by
                        obtain ⟨z60, H⟩ := H
                        refine T_callV (av := [(1, (if (m_cmp (wr64 ((M 124 (wr32 ((M 66 85) - 2))) + (M 124 (wr32 ((M 66 85) - 1))))) 0) ≤ 0 then (0 : Int) else 1))]) (st := []) (d2 := 1) (nc2 := 0) (ns2 := 0) (pc' := 273) dX12_qJoins_270 rfl mtX12_qPuts mvX12_qPuts mlX12_594 cl12 rfl rfl rfl (Nat.le_of_ble_eq_true rfl) (by decide) ⟨by decide, by decide⟩ rfl (pX12_qPuts (E := E) (h := h) (M := M2) (v1 := (if (m_cmp (wr64 ((M 124 (wr32 ((M 66 85) - 2))) + (M 124 (wr32 ((M 66 85) - 1))))) 0) ≤ 0 then (0 : Int) else 1)) z60 hG1) (kF (st2 := []) rfl (fun hG61 => ?_))
                        obtain ⟨M62, eM62⟩ : ∃ m : Mem, m = (fmX12_qPuts M2 (if (m_cmp (wr64 ((M 124 (wr32 ((M 66 85) - 2))) + (M 124 (wr32 ((M 66 85) - 1))))) 0) ≤ 0 then (0 : Int) else 1)) := ⟨_, rfl⟩
                        rw [← eM62] at hG61 ⊢
                        replace H := H M62 eM62
                        exact T_vret dX12_qJoins_273 rfl ⟨rfl, hG61, rfl, H⟩
                      refine T_if_le (pc' := 269) dX12_qJoins_262 (by decide) (pf := 265) rfl (fun c63 => ?_) (fun c63 => ?_)
                      · skip
                        refine T_lconst (v := 0) (pc' := 270) dX12_qJoins_269 rfl (by decide) rfl ?_
                        exact T_wk (L' := [(3, 0), (3, 0), (3, 0), (3, 0), (3, 0), (3, 0)]) (by have q := HJ59; try simp only [if_pos c63] at q ⊢; exact q) ⟨Or.inl rfl, Or.inl rfl, Or.inl rfl, Or.inl rfl, Or.inl rfl, Or.inl rfl, trivial⟩
                      · skip
                        refine T_lconst (v := 1) (pc' := 266) dX12_qJoins_265 rfl (by decide) rfl ?_
                        refine T_goto (pc' := 270) dX12_qJoins_266 (by decide) ?_
                        exact T_wk (L' := [(3, 0), (3, 0), (3, 0), (3, 0), (3, 0), (3, 0)]) (by have q := HJ59; try simp only [if_neg c63] at q ⊢; exact q) ⟨Or.inl rfl, Or.inl rfl, Or.inl rfl, Or.inl rfl, Or.inl rfl, Or.inl rfl, trivial⟩
def PX12_qTold_7 (v1 : Int) (K : Mem → Prop) (Q : Int → Mem → Prop) : Nat → Int → Mem → Prop
  | 0 => fun _ _ => False
  | k + 1 => fun v2 M => (((M 66 79) ≤ v2 → K M) ∧ (¬ ((M 66 79) ≤ v2) → 0 ≤ v2 ∧ v2 < 1700 ∧ (((M 122 v2) < 1000 → (((M 122 v2) < 60 → (((M 122 v2) < 40 → (((M 122 v2) = 13 → (nX12_qPuts M) ∧ (∀ M14 : Mem, M14 = (fmX12_qPuts M 1) → PX12_qTold_7 v1 K Q k (wr32 (v2 + 1)) M14)) ∧ (¬ ((M 122 v2) = 13) → (((M 122 v2) = 12 → 0 ≤ (wr32 ((M 66 85) - 1)) ∧ (wr32 ((M 66 85) - 1)) < 1700 ∧ 0 ≤ (wr32 ((M 66 85) - 1)) ∧ (wr32 ((M 66 85) - 1)) < 1700 ∧ (∀ M11 : Mem, M11 = (mset M 124 (wr32 ((M 66 85) - 1)) (wr64 (1 - (M 124 (wr32 ((M 66 85) - 1)))))) → PX12_qTold_7 v1 K Q k (wr32 (v2 + 1)) M11)) ∧ (¬ ((M 122 v2) = 12) → PX12_qJoins (M 122 v2) M (fun _ M8 => PX12_qTold_7 v1 K Q k (wr32 (v2 + 1)) M8)))))) ∧ (¬ ((M 122 v2) < 40) → (nX12_qPartOf M (wr32 ((M 122 v2) - 40)) v1) ∧ (∀ a17 : Int, a17 = (fX12_qPartOf M (wr32 ((M 122 v2) - 40)) v1) → (nX12_qPuts M) ∧ (∀ M21 : Mem, M21 = (fmX12_qPuts M (fX12_qClip a17)) → PX12_qTold_7 v1 K Q k (wr32 (v2 + 1)) M21))))) ∧ (¬ ((M 122 v2) < 60) → 0 ≤ (wr32 ((M 66 85) - 1)) ∧ (wr32 ((M 66 85) - 1)) < 1700 ∧ (nX12_qOf M (wr32 ((M 122 v2) - 60)) (M 124 (wr32 ((M 66 85) - 1))) v1) ∧ (∀ a24 : Int, a24 = (fX12_qOf M (wr32 ((M 122 v2) - 60)) (M 124 (wr32 ((M 66 85) - 1))) v1) → 0 ≤ (wr32 ((M 66 85) - 1)) ∧ (wr32 ((M 66 85) - 1)) < 1700 ∧ (∀ M27 : Mem, M27 = (mset M 124 (wr32 ((M 66 85) - 1)) (fX12_qClip a24)) → PX12_qTold_7 v1 K Q k (wr32 (v2 + 1)) M27))))) ∧ (¬ ((M 122 v2) < 1000) → (nX12_qPuts M) ∧ (∀ M30 : Mem, M30 = (fmX12_qPuts M (wr32 ((M 122 v2) - 1000))) → PX12_qTold_7 v1 K Q k (wr32 (v2 + 1)) M30)))))
def PX12_qTold (v1 : Int) (M : Mem) (Q : Int → Mem → Prop) : Prop :=
  (∀ M2 : Mem, M2 = (mset M 66 85 0) → (∃ k3 : Nat, PX12_qTold_7 v1 (fun M4 => Q (M4 124 0) M4) Q k3 0 M2))
set_option maxRecDepth 100000 in
set_option maxHeartbeats 2000000 in
theorem qX12_qTold_7 {E : EV} {h : Int} {v1 : Int}  {K : Mem → Prop} {Q : Int → Mem → Prop} (hK : ∀ (M : Mem), K M → G h M → TG E miX12_qTold 7 h (RI 1 Q) 168 [(2, 66), (3, 0), (3, 0), (3, 0)] [] M) : ∀ (k : Nat) (v2 : Int) (M : Mem), PX12_qTold_7 v1 K Q k v2 M → G h M → TG E miX12_qTold 7 h (RI 1 Q) 7 [(2, 66), (0, v1), (0, v2), (3, 0)] [] M := by
  intro k
  induction k with
  | zero =>
    intro v2 M H
    exact False.elim H
  | succ k ih =>
    intro v2 M H hG
    refine T_iload_n (i := 2) (pc' := 8) dX12_qTold_7 rfl rfl rfl ?_
    refine T_aload_n (i := 0) (pc' := 9) dX12_qTold_8 rfl rfl rfl ?_
    refine U_gf (v := (0, (M 66 79))) (k := 79) (kI := 79) (pc' := 12) dX12_qTold_9 rfl cl12 (by decide) rfl (by decide) flX12_517 rfl rfl (by decide) rfl rfl ?_
    refine T_icmp_ge (pc' := 168) dX12_qTold_12 (by decide) (pf := 15) rfl (fun c1 => ?_) (fun c1 => ?_)
    · skip
      replace H := H.1 c1
      exact T_wk (L' := [(2, 66), (3, 0), (3, 0), (3, 0)]) (hK _ H hG) ⟨Or.inr rfl, Or.inl rfl, Or.inl rfl, Or.inl rfl, trivial⟩
    · skip
      replace H := H.2 c1
      refine T_aload_n (i := 0) (pc' := 16) dX12_qTold_15 rfl rfl rfl ?_
      refine U_gr (q := 122) (k := 78) (kI := 78) (pc' := 19) dX12_qTold_16 rfl cl12 (by decide) rfl (by decide) flX12_186 rfl rfl rfl (G_at hG 122 rfl) (by decide) rfl ?_
      refine T_iload_n (i := 2) (pc' := 20) dX12_qTold_19 rfl rfl rfl ?_
      obtain ⟨z1, z2, H⟩ := H
      refine T_iald (pc' := 21) dX12_qTold_20 (by decide) rfl z1 z2 rfl ?_
      refine T_istore_n (i := 3) (L' := [(2, 66), (0, v1), (0, v2), (0, (M 122 v2))]) (pc' := 22) dX12_qTold_21 rfl (by decide) rfl rfl ?_
      refine T_iload_n (i := 3) (pc' := 23) dX12_qTold_22 rfl rfl rfl ?_
      refine T_sipush (pc' := 26) dX12_qTold_23 rfl (by decide) rfl ?_
      refine T_icmp_lt (pc' := 42) dX12_qTold_26 (by decide) (pf := 29) rfl (fun c2 => ?_) (fun c2 => ?_)
      · skip
        replace H := H.1 c2
        refine T_iload_n (i := 3) (pc' := 43) dX12_qTold_42 rfl rfl rfl ?_
        refine T_bipush (pc' := 45) dX12_qTold_43 rfl (by decide) rfl ?_
        refine T_icmp_lt (pc' := 85) dX12_qTold_45 (by decide) (pf := 48) rfl (fun c3 => ?_) (fun c3 => ?_)
        · skip
          replace H := H.1 c3
          refine T_iload_n (i := 3) (pc' := 86) dX12_qTold_85 rfl rfl rfl ?_
          refine T_bipush (pc' := 88) dX12_qTold_86 rfl (by decide) rfl ?_
          refine T_icmp_lt (pc' := 110) dX12_qTold_88 (by decide) (pf := 91) rfl (fun c4 => ?_) (fun c4 => ?_)
          · skip
            replace H := H.1 c4
            refine T_iload_n (i := 3) (pc' := 111) dX12_qTold_110 rfl rfl rfl ?_
            refine T_bipush (pc' := 113) dX12_qTold_111 rfl (by decide) rfl ?_
            refine T_icmp_ne (pc' := 124) dX12_qTold_113 (by decide) (pf := 116) rfl (fun c5 => ?_) (fun c5 => ?_)
            · skip
              replace H := H.2 c5
              refine T_iload_n (i := 3) (pc' := 125) dX12_qTold_124 rfl rfl rfl ?_
              refine T_bipush (pc' := 127) dX12_qTold_125 rfl (by decide) rfl ?_
              refine T_icmp_ne (pc' := 157) dX12_qTold_127 (by decide) (pf := 130) rfl (fun c6 => ?_) (fun c6 => ?_)
              · skip
                replace H := H.2 c6
                refine T_aload_n (i := 0) (pc' := 158) dX12_qTold_157 rfl rfl rfl ?_
                refine T_iload_n (i := 3) (pc' := 159) dX12_qTold_158 rfl rfl rfl ?_
                refine T_callV (av := [(0, (M 122 v2))]) (st := []) (d2 := 2) (nc2 := 0) (ns2 := 0) (pc' := 162) dX12_qTold_159 rfl mtX12_qJoins mvX12_qJoins mlX12_618 cl12 rfl rfl rfl (Nat.le_of_ble_eq_true rfl) (by decide) ⟨by decide, by decide⟩ rfl (pX12_qJoins (E := E) (h := h) (M := M) (v1 := (M 122 v2)) H hG) ?_
                rintro _ _ M8 ⟨rfl, hG9, rfl, H⟩ _
                refine T_iinc (L' := [(2, 66), (0, v1), (0, (wr32 (v2 + 1))), (0, (M 122 v2))]) (pc' := 165) dX12_qTold_162 rfl (by decide) rfl rfl ?_
                refine T_goto (pc' := 7) dX12_qTold_165 (by decide) ?_
                exact T_wk (L' := [(2, 66), (0, v1), (0, (wr32 (v2 + 1))), (3, 0)]) (ih _ _ H hG9) ⟨Or.inr rfl, Or.inr rfl, Or.inr rfl, Or.inl rfl, trivial⟩
              · skip
                replace H := H.1 c6
                refine T_aload_n (i := 0) (pc' := 131) dX12_qTold_130 rfl rfl rfl ?_
                refine U_gr (q := 124) (k := 84) (kI := 84) (pc' := 134) dX12_qTold_131 rfl cl12 (by decide) rfl (by decide) flX12_192 rfl rfl rfl (G_at hG 124 rfl) (by decide) rfl ?_
                refine T_aload_n (i := 0) (pc' := 135) dX12_qTold_134 rfl rfl rfl ?_
                refine U_gf (v := (0, (M 66 85))) (k := 85) (kI := 85) (pc' := 138) dX12_qTold_135 rfl cl12 (by decide) rfl (by decide) flX12_587 rfl rfl (by decide) rfl rfl ?_
                refine T_iconst (pc' := 139) dX12_qTold_138 (by decide) rfl ?_
                refine T_isub (pc' := 140) dX12_qTold_139 rfl ?_
                refine T_lconst (v := 1) (pc' := 141) dX12_qTold_140 rfl (by decide) rfl ?_
                refine T_aload_n (i := 0) (pc' := 142) dX12_qTold_141 rfl rfl rfl ?_
                refine U_gr (q := 124) (k := 84) (kI := 84) (pc' := 145) dX12_qTold_142 rfl cl12 (by decide) rfl (by decide) flX12_192 rfl rfl rfl (G_at hG 124 rfl) (by decide) rfl ?_
                refine T_aload_n (i := 0) (pc' := 146) dX12_qTold_145 rfl rfl rfl ?_
                refine U_gf (v := (0, (M 66 85))) (k := 85) (kI := 85) (pc' := 149) dX12_qTold_146 rfl cl12 (by decide) rfl (by decide) flX12_587 rfl rfl (by decide) rfl rfl ?_
                refine T_iconst (pc' := 150) dX12_qTold_149 (by decide) rfl ?_
                refine T_isub (pc' := 151) dX12_qTold_150 rfl ?_
                obtain ⟨z1, z2, H⟩ := H
                refine T_lald (pc' := 152) dX12_qTold_151 (by decide) rfl z1 z2 rfl ?_
                refine T_lsub (pc' := 153) dX12_qTold_152 rfl ?_
                obtain ⟨z1, z2, H⟩ := H
                refine T_last (pc' := 154) dX12_qTold_153 (by decide) rfl z1 z2 rfl ?_
                have hG10 := (G_arr (x := 124) (i := (wr32 ((M 66 85) - 1))) (y := (wr64 (1 - (M 124 (wr32 ((M 66 85) - 1)))))) rfl (by decide) hG)
                obtain ⟨M11, eM11⟩ : ∃ m : Mem, m = (mset M 124 (wr32 ((M 66 85) - 1)) (wr64 (1 - (M 124 (wr32 ((M 66 85) - 1)))))) := ⟨_, rfl⟩
                rw [← eM11] at hG10 ⊢
                replace H := H M11 eM11
                refine T_goto (pc' := 162) dX12_qTold_154 (by decide) ?_
                refine T_iinc (L' := [(2, 66), (0, v1), (0, (wr32 (v2 + 1))), (0, (M 122 v2))]) (pc' := 165) dX12_qTold_162 rfl (by decide) rfl rfl ?_
                refine T_goto (pc' := 7) dX12_qTold_165 (by decide) ?_
                exact T_wk (L' := [(2, 66), (0, v1), (0, (wr32 (v2 + 1))), (3, 0)]) (ih _ _ H hG10) ⟨Or.inr rfl, Or.inr rfl, Or.inr rfl, Or.inl rfl, trivial⟩
            · skip
              replace H := H.1 c5
              refine T_aload_n (i := 0) (pc' := 117) dX12_qTold_116 rfl rfl rfl ?_
              refine T_lconst (v := 1) (pc' := 118) dX12_qTold_117 rfl (by decide) rfl ?_
              obtain ⟨z12, H⟩ := H
              refine T_callV (av := [(1, 1)]) (st := []) (d2 := 1) (nc2 := 0) (ns2 := 0) (pc' := 121) dX12_qTold_118 rfl mtX12_qPuts mvX12_qPuts mlX12_594 cl12 rfl rfl rfl (Nat.le_of_ble_eq_true rfl) (by decide) ⟨by decide, by decide⟩ rfl (pX12_qPuts (E := E) (h := h) (M := M) (v1 := 1) z12 hG) (kF (st2 := []) rfl (fun hG13 => ?_))
              obtain ⟨M14, eM14⟩ : ∃ m : Mem, m = (fmX12_qPuts M 1) := ⟨_, rfl⟩
              rw [← eM14] at hG13 ⊢
              replace H := H M14 eM14
              refine T_goto (pc' := 162) dX12_qTold_121 (by decide) ?_
              refine T_iinc (L' := [(2, 66), (0, v1), (0, (wr32 (v2 + 1))), (0, (M 122 v2))]) (pc' := 165) dX12_qTold_162 rfl (by decide) rfl rfl ?_
              refine T_goto (pc' := 7) dX12_qTold_165 (by decide) ?_
              exact T_wk (L' := [(2, 66), (0, v1), (0, (wr32 (v2 + 1))), (3, 0)]) (ih _ _ H hG13) ⟨Or.inr rfl, Or.inr rfl, Or.inr rfl, Or.inl rfl, trivial⟩
          · skip
            replace H := H.2 c4
            refine T_aload_n (i := 0) (pc' := 92) dX12_qTold_91 rfl rfl rfl ?_
            refine T_aload_n (i := 0) (pc' := 93) dX12_qTold_92 rfl rfl rfl ?_
            refine T_iload_n (i := 3) (pc' := 94) dX12_qTold_93 rfl rfl rfl ?_
            refine T_bipush (pc' := 96) dX12_qTold_94 rfl (by decide) rfl ?_
            refine T_isub (pc' := 97) dX12_qTold_96 rfl ?_
            refine T_iload_n (i := 1) (pc' := 98) dX12_qTold_97 rfl rfl rfl ?_
            obtain ⟨z15, H⟩ := H
            refine T_callV (av := [(0, (wr32 ((M 122 v2) - 40))), (0, v1)]) (st := [(2, 66)]) (d2 := 6) (nc2 := 0) (ns2 := 0) (pc' := 101) dX12_qTold_98 rfl mtX12_qPartOf mvX12_qPartOf mlX12_615 cl12 rfl rfl rfl (Nat.le_of_ble_eq_true rfl) (by decide) ⟨by decide, by decide⟩ rfl (pX12_qPartOf (E := E) (h := h) (M := M) (v1 := (wr32 ((M 122 v2) - 40))) (v2 := v1) z15 hG) (kF (st2 := [(1, (fX12_qPartOf M (wr32 ((M 122 v2) - 40)) v1)), (2, 66)]) rfl (fun hG16 => ?_))
            obtain ⟨a17, ea17⟩ : ∃ z : Int, z = (fX12_qPartOf M (wr32 ((M 122 v2) - 40)) v1) := ⟨_, rfl⟩
            rw [← ea17]
            replace H := H a17 ea17
            refine T_callS (av := [(1, a17)]) (st := [(2, 66)]) (d2 := 1) (nc2 := 0) (ns2 := 0) (pc' := 104) dX12_qTold_101 rfl mtX12_qClip mvX12_qClip mlX12_590 rfl rfl (Nat.le_of_ble_eq_true rfl) (by decide) ⟨by decide, by decide⟩ rfl (pX12_qClip (E := E) (h := h) (M := M) (v0 := a17) hG) (kF (st2 := [(1, (fX12_qClip a17)), (2, 66)]) rfl (fun hG18 => ?_))
            obtain ⟨z19, H⟩ := H
            refine T_callV (av := [(1, (fX12_qClip a17))]) (st := []) (d2 := 1) (nc2 := 0) (ns2 := 0) (pc' := 107) dX12_qTold_104 rfl mtX12_qPuts mvX12_qPuts mlX12_594 cl12 rfl rfl rfl (Nat.le_of_ble_eq_true rfl) (by decide) ⟨by decide, by decide⟩ rfl (pX12_qPuts (E := E) (h := h) (M := M) (v1 := (fX12_qClip a17)) z19 hG) (kF (st2 := []) rfl (fun hG20 => ?_))
            obtain ⟨M21, eM21⟩ : ∃ m : Mem, m = (fmX12_qPuts M (fX12_qClip a17)) := ⟨_, rfl⟩
            rw [← eM21] at hG20 ⊢
            replace H := H M21 eM21
            refine T_goto (pc' := 162) dX12_qTold_107 (by decide) ?_
            refine T_iinc (L' := [(2, 66), (0, v1), (0, (wr32 (v2 + 1))), (0, (M 122 v2))]) (pc' := 165) dX12_qTold_162 rfl (by decide) rfl rfl ?_
            refine T_goto (pc' := 7) dX12_qTold_165 (by decide) ?_
            exact T_wk (L' := [(2, 66), (0, v1), (0, (wr32 (v2 + 1))), (3, 0)]) (ih _ _ H hG20) ⟨Or.inr rfl, Or.inr rfl, Or.inr rfl, Or.inl rfl, trivial⟩
        · skip
          replace H := H.2 c3
          refine T_aload_n (i := 0) (pc' := 49) dX12_qTold_48 rfl rfl rfl ?_
          refine U_gr (q := 124) (k := 84) (kI := 84) (pc' := 52) dX12_qTold_49 rfl cl12 (by decide) rfl (by decide) flX12_192 rfl rfl rfl (G_at hG 124 rfl) (by decide) rfl ?_
          refine T_aload_n (i := 0) (pc' := 53) dX12_qTold_52 rfl rfl rfl ?_
          refine U_gf (v := (0, (M 66 85))) (k := 85) (kI := 85) (pc' := 56) dX12_qTold_53 rfl cl12 (by decide) rfl (by decide) flX12_587 rfl rfl (by decide) rfl rfl ?_
          refine T_iconst (pc' := 57) dX12_qTold_56 (by decide) rfl ?_
          refine T_isub (pc' := 58) dX12_qTold_57 rfl ?_
          refine T_aload_n (i := 0) (pc' := 59) dX12_qTold_58 rfl rfl rfl ?_
          refine T_iload_n (i := 3) (pc' := 60) dX12_qTold_59 rfl rfl rfl ?_
          refine T_bipush (pc' := 62) dX12_qTold_60 rfl (by decide) rfl ?_
          refine T_isub (pc' := 63) dX12_qTold_62 rfl ?_
          refine T_aload_n (i := 0) (pc' := 64) dX12_qTold_63 rfl rfl rfl ?_
          refine U_gr (q := 124) (k := 84) (kI := 84) (pc' := 67) dX12_qTold_64 rfl cl12 (by decide) rfl (by decide) flX12_192 rfl rfl rfl (G_at hG 124 rfl) (by decide) rfl ?_
          refine T_aload_n (i := 0) (pc' := 68) dX12_qTold_67 rfl rfl rfl ?_
          refine U_gf (v := (0, (M 66 85))) (k := 85) (kI := 85) (pc' := 71) dX12_qTold_68 rfl cl12 (by decide) rfl (by decide) flX12_587 rfl rfl (by decide) rfl rfl ?_
          refine T_iconst (pc' := 72) dX12_qTold_71 (by decide) rfl ?_
          refine T_isub (pc' := 73) dX12_qTold_72 rfl ?_
          obtain ⟨z1, z2, H⟩ := H
          refine T_lald (pc' := 74) dX12_qTold_73 (by decide) rfl z1 z2 rfl ?_
          refine T_iload_n (i := 1) (pc' := 75) dX12_qTold_74 rfl rfl rfl ?_
          obtain ⟨z22, H⟩ := H
          refine T_callV (av := [(0, (wr32 ((M 122 v2) - 60))), (1, (M 124 (wr32 ((M 66 85) - 1)))), (0, v1)]) (st := [(0, (wr32 ((M 66 85) - 1))), (2, 124)]) (d2 := 5) (nc2 := 0) (ns2 := 0) (pc' := 78) dX12_qTold_75 rfl mtX12_qOf mvX12_qOf mlX12_611 cl12 rfl rfl rfl (Nat.le_of_ble_eq_true rfl) (by decide) ⟨by decide, by decide⟩ rfl (pX12_qOf (E := E) (h := h) (M := M) (v1 := (wr32 ((M 122 v2) - 60))) (v2 := (M 124 (wr32 ((M 66 85) - 1)))) (v4 := v1) z22 hG) (kF (st2 := [(1, (fX12_qOf M (wr32 ((M 122 v2) - 60)) (M 124 (wr32 ((M 66 85) - 1))) v1)), (0, (wr32 ((M 66 85) - 1))), (2, 124)]) rfl (fun hG23 => ?_))
          obtain ⟨a24, ea24⟩ : ∃ z : Int, z = (fX12_qOf M (wr32 ((M 122 v2) - 60)) (M 124 (wr32 ((M 66 85) - 1))) v1) := ⟨_, rfl⟩
          rw [← ea24]
          replace H := H a24 ea24
          refine T_callS (av := [(1, a24)]) (st := [(0, (wr32 ((M 66 85) - 1))), (2, 124)]) (d2 := 1) (nc2 := 0) (ns2 := 0) (pc' := 81) dX12_qTold_78 rfl mtX12_qClip mvX12_qClip mlX12_590 rfl rfl (Nat.le_of_ble_eq_true rfl) (by decide) ⟨by decide, by decide⟩ rfl (pX12_qClip (E := E) (h := h) (M := M) (v0 := a24) hG) (kF (st2 := [(1, (fX12_qClip a24)), (0, (wr32 ((M 66 85) - 1))), (2, 124)]) rfl (fun hG25 => ?_))
          obtain ⟨z1, z2, H⟩ := H
          refine T_last (pc' := 82) dX12_qTold_81 (by decide) rfl z1 z2 rfl ?_
          have hG26 := (G_arr (x := 124) (i := (wr32 ((M 66 85) - 1))) (y := (fX12_qClip a24)) rfl (by decide) hG)
          obtain ⟨M27, eM27⟩ : ∃ m : Mem, m = (mset M 124 (wr32 ((M 66 85) - 1)) (fX12_qClip a24)) := ⟨_, rfl⟩
          rw [← eM27] at hG26 ⊢
          replace H := H M27 eM27
          refine T_goto (pc' := 162) dX12_qTold_82 (by decide) ?_
          refine T_iinc (L' := [(2, 66), (0, v1), (0, (wr32 (v2 + 1))), (0, (M 122 v2))]) (pc' := 165) dX12_qTold_162 rfl (by decide) rfl rfl ?_
          refine T_goto (pc' := 7) dX12_qTold_165 (by decide) ?_
          exact T_wk (L' := [(2, 66), (0, v1), (0, (wr32 (v2 + 1))), (3, 0)]) (ih _ _ H hG26) ⟨Or.inr rfl, Or.inr rfl, Or.inr rfl, Or.inl rfl, trivial⟩
      · skip
        replace H := H.2 c2
        refine T_aload_n (i := 0) (pc' := 30) dX12_qTold_29 rfl rfl rfl ?_
        refine T_iload_n (i := 3) (pc' := 31) dX12_qTold_30 rfl rfl rfl ?_
        refine T_sipush (pc' := 34) dX12_qTold_31 rfl (by decide) rfl ?_
        refine T_isub (pc' := 35) dX12_qTold_34 rfl ?_
        refine T_i2l (pc' := 36) dX12_qTold_35 rfl ?_
        obtain ⟨z28, H⟩ := H
        refine T_callV (av := [(1, (wr32 ((M 122 v2) - 1000)))]) (st := []) (d2 := 1) (nc2 := 0) (ns2 := 0) (pc' := 39) dX12_qTold_36 rfl mtX12_qPuts mvX12_qPuts mlX12_594 cl12 rfl rfl rfl (Nat.le_of_ble_eq_true rfl) (by decide) ⟨by decide, by decide⟩ rfl (pX12_qPuts (E := E) (h := h) (M := M) (v1 := (wr32 ((M 122 v2) - 1000))) z28 hG) (kF (st2 := []) rfl (fun hG29 => ?_))
        obtain ⟨M30, eM30⟩ : ∃ m : Mem, m = (fmX12_qPuts M (wr32 ((M 122 v2) - 1000))) := ⟨_, rfl⟩
        rw [← eM30] at hG29 ⊢
        replace H := H M30 eM30
        refine T_goto (pc' := 162) dX12_qTold_39 (by decide) ?_
        refine T_iinc (L' := [(2, 66), (0, v1), (0, (wr32 (v2 + 1))), (0, (M 122 v2))]) (pc' := 165) dX12_qTold_162 rfl (by decide) rfl rfl ?_
        refine T_goto (pc' := 7) dX12_qTold_165 (by decide) ?_
        exact T_wk (L' := [(2, 66), (0, v1), (0, (wr32 (v2 + 1))), (3, 0)]) (ih _ _ H hG29) ⟨Or.inr rfl, Or.inr rfl, Or.inr rfl, Or.inl rfl, trivial⟩
set_option maxRecDepth 100000 in
set_option maxHeartbeats 2000000 in
theorem pX12_qTold {E : EV} {h : Int} {M : Mem} {v1 : Int}  {Q : Int → Mem → Prop} (H : PX12_qTold v1 M Q) : C2 E miX12_qTold 7 h [(2, 66), (0, v1)] M (RI 1 Q) := by
  refine C2_of (L := [(2, 66), (0, v1), (3, 0), (3, 0)]) (by decide +kernel) (Nat.le_of_ble_eq_true rfl) rfl (fun hG => ?_)
  refine T_aload_n (i := 0) (pc' := 1) dX12_qTold_0 rfl rfl rfl ?_
  refine T_iconst (pc' := 2) dX12_qTold_1 (by decide) rfl ?_
  refine U_pf (y := 0) (k := 85) (kI := 85) (pc' := 5) dX12_qTold_2 rfl cl12 (by decide) rfl (by decide) flX12_587 rfl rfl rfl rfl rfl (by decide) (fun z => z) rfl ?_
  have hG1 := (G_fld (x := 66) (i := 85) (y := 0) rfl (by decide) (by decide) (by decide) hG)
  obtain ⟨M2, eM2⟩ : ∃ m : Mem, m = (mset M 66 85 0) := ⟨_, rfl⟩
  rw [← eM2] at hG1 ⊢
  replace H := H M2 eM2
  refine T_iconst (pc' := 6) dX12_qTold_5 (by decide) rfl ?_
  refine T_istore_n (i := 2) (L' := [(2, 66), (0, v1), (0, 0), (3, 0)]) (pc' := 7) dX12_qTold_6 rfl (by decide) rfl rfl ?_
  obtain ⟨k3, H⟩ := H
  refine T_wk (L' := [(2, 66), (0, v1), (0, 0), (3, 0)]) (qX12_qTold_7 (v1 := v1) (fun M4 H hG5 => ?_) _ _ _ H hG1) ⟨Or.inr rfl, Or.inr rfl, Or.inr rfl, Or.inl rfl, trivial⟩
  refine T_aload_n (i := 0) (pc' := 169) dX12_qTold_168 rfl rfl rfl ?_
  refine U_gr (q := 124) (k := 84) (kI := 84) (pc' := 172) dX12_qTold_169 rfl cl12 (by decide) rfl (by decide) flX12_192 rfl rfl rfl (G_at hG5 124 rfl) (by decide) rfl ?_
  refine T_iconst (pc' := 173) dX12_qTold_172 (by decide) rfl ?_
  refine T_lald (pc' := 174) dX12_qTold_173 (by decide) rfl (by decide) (by decide) rfl ?_
  exact T_lret dX12_qTold_174 rfl ⟨rfl, hG5, _, rfl, H⟩
def PX12_qKind  (M : Mem) (Q : Int → Mem → Prop) : Prop :=
  PX12_takes 102 5 M (fun a1 M2 => (∃ j4 : Int → Mem → Prop, (∀ (u5 : Int) (M6 : Mem), j4 u5 M6 → ((u5 = 5 → PX12_asks 107 5 M6 (fun _ M10 => Q u5 M10)) ∧ (¬ (u5 = 5) → Q u5 M6))) ∧ ((a1 = 0 → PX12_takes 103 4 M2 (fun a13 M14 => ((a13 = 0 → PX12_takes 104 5 M14 (fun a17 M18 => ((a17 = 0 → PX12_takes 105 5 M18 (fun a21 M22 => ((a21 = 0 → PX12_takes 106 4 M22 (fun a25 M26 => ((a25 = 0 → j4 5 M26) ∧ (¬ (a25 = 0) → j4 4 M26)))) ∧ (¬ (a21 = 0) → j4 3 M22)))) ∧ (¬ (a17 = 0) → j4 2 M18)))) ∧ (¬ (a13 = 0) → j4 1 M14)))) ∧ (¬ (a1 = 0) → j4 0 M2))))
set_option maxRecDepth 100000 in
set_option maxHeartbeats 2000000 in
theorem pX12_qKind {E : EV} {h : Int} {M : Mem}   {Q : Int → Mem → Prop} (H : PX12_qKind  M Q) : C2 E miX12_qKind 5 h [(2, 66)] M (RI 0 Q) := by
  refine C2_of (L := [(2, 66), (3, 0)]) (by decide +kernel) (Nat.le_of_ble_eq_true rfl) rfl (fun hG => ?_)
  refine T_aload_n (i := 0) (pc' := 1) dX12_qKind_0 rfl rfl rfl ?_
  refine T_aload_n (i := 0) (pc' := 2) dX12_qKind_1 rfl rfl rfl ?_
  refine U_gr (q := 102) (k := 58) (kI := 58) (pc' := 5) dX12_qKind_2 rfl cl12 (by decide) rfl (by decide) flX12_126 rfl rfl rfl (G_at hG 102 rfl) (by decide) rfl ?_
  refine T_callV (av := [(2, 102)]) (st := []) (d2 := 3) (nc2 := 0) (ns2 := 0) (pc' := 8) dX12_qKind_5 rfl mtX12_takes mvX12_takes mlX12_228 cl12 rfl rfl rfl (Nat.le_of_ble_eq_true rfl) (by decide) ⟨by decide, by decide⟩ rfl (pX12_takes (E := E) (h := h) (M := M) (p1 := 102) (np1 := 5) (by decide) rfl (by decide) H hG) ?_
  rintro _ _ M2 ⟨rfl, hG3, a1, rfl, H⟩ _
  obtain ⟨j4, hj4, H⟩ := H
  have qj4 : ∀ (u5 : Int) (M6 : Mem), j4 u5 M6 → G h M6 → TG E miX12_qKind 5 h (RI 0 Q) 76 [(2, 66), (3, 0)] [(0, u5)] M6 := by
    intro u5 M6 H hG7
    replace H := hj4 _ _ H
    refine T_istore_n (i := 1) (L' := [(2, 66), (0, u5)]) (pc' := 77) dX12_qKind_76 rfl (by decide) rfl rfl ?_
    refine T_iload_n (i := 1) (pc' := 78) dX12_qKind_77 rfl rfl rfl ?_
    refine T_iconst (pc' := 79) dX12_qKind_78 (by decide) rfl ?_
    refine T_icmp_ne (pc' := 90) dX12_qKind_79 (by decide) (pf := 82) rfl (fun c8 => ?_) (fun c8 => ?_)
    · skip
      replace H := H.2 c8
      refine T_iload_n (i := 1) (pc' := 91) dX12_qKind_90 rfl rfl rfl ?_
      exact T_iret dX12_qKind_91 rfl ⟨rfl, hG7, _, rfl, H⟩
    · skip
      replace H := H.1 c8
      refine T_aload_n (i := 0) (pc' := 83) dX12_qKind_82 rfl rfl rfl ?_
      refine T_aload_n (i := 0) (pc' := 84) dX12_qKind_83 rfl rfl rfl ?_
      refine U_gr (q := 107) (k := 63) (kI := 63) (pc' := 87) dX12_qKind_84 rfl cl12 (by decide) rfl (by decide) flX12_141 rfl rfl rfl (G_at hG7 107 rfl) (by decide) rfl ?_
      refine T_callV (av := [(2, 107)]) (st := []) (d2 := 4) (nc2 := 0) (ns2 := 0) (pc' := 90) dX12_qKind_87 rfl mtX12_asks mvX12_asks mlX12_296 cl12 rfl rfl rfl (Nat.le_of_ble_eq_true rfl) (by decide) ⟨by decide, by decide⟩ rfl (pX12_asks (E := E) (h := h) (M := M6) (p1 := 107) (np1 := 5) (by decide) rfl (by decide) H hG7) ?_
      rintro _ _ M10 ⟨rfl, hG11, rfl, H⟩ _
      refine T_iload_n (i := 1) (pc' := 91) dX12_qKind_90 rfl rfl rfl ?_
      exact T_iret dX12_qKind_91 rfl ⟨rfl, hG11, _, rfl, H⟩
  refine T_if_eq (pc' := 15) dX12_qKind_8 (by decide) (pf := 11) rfl (fun c12 => ?_) (fun c12 => ?_)
  · skip
    replace H := H.1 c12
    refine T_aload_n (i := 0) (pc' := 16) dX12_qKind_15 rfl rfl rfl ?_
    refine T_aload_n (i := 0) (pc' := 17) dX12_qKind_16 rfl rfl rfl ?_
    refine U_gr (q := 103) (k := 59) (kI := 59) (pc' := 20) dX12_qKind_17 rfl cl12 (by decide) rfl (by decide) flX12_129 rfl rfl rfl (G_at hG3 103 rfl) (by decide) rfl ?_
    refine T_callV (av := [(2, 103)]) (st := []) (d2 := 3) (nc2 := 0) (ns2 := 0) (pc' := 23) dX12_qKind_20 rfl mtX12_takes mvX12_takes mlX12_228 cl12 rfl rfl rfl (Nat.le_of_ble_eq_true rfl) (by decide) ⟨by decide, by decide⟩ rfl (pX12_takes (E := E) (h := h) (M := M2) (p1 := 103) (np1 := 4) (by decide) rfl (by decide) H hG3) ?_
    rintro _ _ M14 ⟨rfl, hG15, a13, rfl, H⟩ _
    refine T_if_eq (pc' := 30) dX12_qKind_23 (by decide) (pf := 26) rfl (fun c16 => ?_) (fun c16 => ?_)
    · skip
      replace H := H.1 c16
      refine T_aload_n (i := 0) (pc' := 31) dX12_qKind_30 rfl rfl rfl ?_
      refine T_aload_n (i := 0) (pc' := 32) dX12_qKind_31 rfl rfl rfl ?_
      refine U_gr (q := 104) (k := 60) (kI := 60) (pc' := 35) dX12_qKind_32 rfl cl12 (by decide) rfl (by decide) flX12_132 rfl rfl rfl (G_at hG15 104 rfl) (by decide) rfl ?_
      refine T_callV (av := [(2, 104)]) (st := []) (d2 := 3) (nc2 := 0) (ns2 := 0) (pc' := 38) dX12_qKind_35 rfl mtX12_takes mvX12_takes mlX12_228 cl12 rfl rfl rfl (Nat.le_of_ble_eq_true rfl) (by decide) ⟨by decide, by decide⟩ rfl (pX12_takes (E := E) (h := h) (M := M14) (p1 := 104) (np1 := 5) (by decide) rfl (by decide) H hG15) ?_
      rintro _ _ M18 ⟨rfl, hG19, a17, rfl, H⟩ _
      refine T_if_eq (pc' := 45) dX12_qKind_38 (by decide) (pf := 41) rfl (fun c20 => ?_) (fun c20 => ?_)
      · skip
        replace H := H.1 c20
        refine T_aload_n (i := 0) (pc' := 46) dX12_qKind_45 rfl rfl rfl ?_
        refine T_aload_n (i := 0) (pc' := 47) dX12_qKind_46 rfl rfl rfl ?_
        refine U_gr (q := 105) (k := 61) (kI := 61) (pc' := 50) dX12_qKind_47 rfl cl12 (by decide) rfl (by decide) flX12_135 rfl rfl rfl (G_at hG19 105 rfl) (by decide) rfl ?_
        refine T_callV (av := [(2, 105)]) (st := []) (d2 := 3) (nc2 := 0) (ns2 := 0) (pc' := 53) dX12_qKind_50 rfl mtX12_takes mvX12_takes mlX12_228 cl12 rfl rfl rfl (Nat.le_of_ble_eq_true rfl) (by decide) ⟨by decide, by decide⟩ rfl (pX12_takes (E := E) (h := h) (M := M18) (p1 := 105) (np1 := 5) (by decide) rfl (by decide) H hG19) ?_
        rintro _ _ M22 ⟨rfl, hG23, a21, rfl, H⟩ _
        refine T_if_eq (pc' := 60) dX12_qKind_53 (by decide) (pf := 56) rfl (fun c24 => ?_) (fun c24 => ?_)
        · skip
          replace H := H.1 c24
          refine T_aload_n (i := 0) (pc' := 61) dX12_qKind_60 rfl rfl rfl ?_
          refine T_aload_n (i := 0) (pc' := 62) dX12_qKind_61 rfl rfl rfl ?_
          refine U_gr (q := 106) (k := 62) (kI := 62) (pc' := 65) dX12_qKind_62 rfl cl12 (by decide) rfl (by decide) flX12_138 rfl rfl rfl (G_at hG23 106 rfl) (by decide) rfl ?_
          refine T_callV (av := [(2, 106)]) (st := []) (d2 := 3) (nc2 := 0) (ns2 := 0) (pc' := 68) dX12_qKind_65 rfl mtX12_takes mvX12_takes mlX12_228 cl12 rfl rfl rfl (Nat.le_of_ble_eq_true rfl) (by decide) ⟨by decide, by decide⟩ rfl (pX12_takes (E := E) (h := h) (M := M22) (p1 := 106) (np1 := 4) (by decide) rfl (by decide) H hG23) ?_
          rintro _ _ M26 ⟨rfl, hG27, a25, rfl, H⟩ _
          refine T_if_eq (pc' := 75) dX12_qKind_68 (by decide) (pf := 71) rfl (fun c28 => ?_) (fun c28 => ?_)
          · skip
            replace H := H.1 c28
            refine T_iconst (pc' := 76) dX12_qKind_75 (by decide) rfl ?_
            exact T_wk (L' := [(2, 66), (3, 0)]) (qj4 _ _ H hG27) ⟨Or.inr rfl, Or.inl rfl, trivial⟩
          · skip
            replace H := H.2 c28
            refine T_iconst (pc' := 72) dX12_qKind_71 (by decide) rfl ?_
            refine T_goto (pc' := 76) dX12_qKind_72 (by decide) ?_
            exact T_wk (L' := [(2, 66), (3, 0)]) (qj4 _ _ H hG27) ⟨Or.inr rfl, Or.inl rfl, trivial⟩
        · skip
          replace H := H.2 c24
          refine T_iconst (pc' := 57) dX12_qKind_56 (by decide) rfl ?_
          refine T_goto (pc' := 76) dX12_qKind_57 (by decide) ?_
          exact T_wk (L' := [(2, 66), (3, 0)]) (qj4 _ _ H hG23) ⟨Or.inr rfl, Or.inl rfl, trivial⟩
      · skip
        replace H := H.2 c20
        refine T_iconst (pc' := 42) dX12_qKind_41 (by decide) rfl ?_
        refine T_goto (pc' := 76) dX12_qKind_42 (by decide) ?_
        exact T_wk (L' := [(2, 66), (3, 0)]) (qj4 _ _ H hG19) ⟨Or.inr rfl, Or.inl rfl, trivial⟩
    · skip
      replace H := H.2 c16
      refine T_iconst (pc' := 27) dX12_qKind_26 (by decide) rfl ?_
      refine T_goto (pc' := 76) dX12_qKind_27 (by decide) ?_
      exact T_wk (L' := [(2, 66), (3, 0)]) (qj4 _ _ H hG15) ⟨Or.inr rfl, Or.inl rfl, trivial⟩
  · skip
    replace H := H.2 c12
    refine T_iconst (pc' := 12) dX12_qKind_11 (by decide) rfl ?_
    refine T_goto (pc' := 76) dX12_qKind_12 (by decide) ?_
    exact T_wk (L' := [(2, 66), (3, 0)]) (qj4 _ _ H hG3) ⟨Or.inr rfl, Or.inl rfl, trivial⟩
def PX12_qTakes (v1 : Int) (v2 : Int) (v4 : Int) (M : Mem) (Q : Int → Mem → Prop) : Prop :=
  (∃ j2 : Mem → Prop, (∀ (M3 : Mem), j2 M3 → (∃ j5 : Mem → Prop, (∀ (M6 : Mem), j5 M6 → (∃ j8 : Mem → Prop, (∀ (M9 : Mem), j8 M9 → ((v1 ≤ 3 → (∀ M13 : Mem, M13 = (mset M9 66 87 0) → Q 0 M13)) ∧ (¬ (v1 ≤ 3) → (((M9 66 87) = 0 → ((v1 = 4 → (((m_cmp v2 (M9 66 86)) ≤ 0 → (∀ M29 : Mem, M29 = (mset M9 66 87 0) → Q 0 M29)) ∧ (¬ ((m_cmp v2 (M9 66 86)) ≤ 0) → (∀ M31 : Mem, M31 = (mset M9 66 86 v2) → (∀ M33 : Mem, M33 = (mset M31 66 87 0) → Q 0 M33))))) ∧ (¬ (v1 = 4) → ((0 ≤ (m_cmp v2 (M9 66 86)) → (∀ M22 : Mem, M22 = (mset M9 66 87 0) → Q 0 M22)) ∧ (¬ (0 ≤ (m_cmp v2 (M9 66 86))) → (∀ M24 : Mem, M24 = (mset M9 66 86 v2) → (∀ M26 : Mem, M26 = (mset M24 66 87 0) → Q 0 M26))))))) ∧ (¬ ((M9 66 87) = 0) → (∀ M16 : Mem, M16 = (mset M9 66 86 v2) → (∀ M18 : Mem, M18 = (mset M16 66 87 0) → Q 0 M18))))))) ∧ ((v1 = 3 → (∀ M36 : Mem, M36 = (mset M6 66 86 (wr64 ((M6 66 86) + v2))) → j8 M36)) ∧ (¬ (v1 = 3) → j8 M6)))) ∧ ((v1 = 2 → (((if 3 ≤ v1 then (0 : Int) else (if (m_cmp v2 1) = 0 then (1 : Int) else 0)) = 0 → j5 M3) ∧ (¬ ((if 3 ≤ v1 then (0 : Int) else (if (m_cmp v2 1) = 0 then (1 : Int) else 0)) = 0) → (∀ M40 : Mem, M40 = (mset M3 66 86 (wr64 ((M3 66 86) + 1))) → j5 M40)))) ∧ (¬ (v1 = 2) → j5 M3)))) ∧ ((v1 = 0 → (((if 3 ≤ v1 then (0 : Int) else (if (m_cmp v2 1) = 0 then (1 : Int) else 0)) = 0 → ((v1 = 1 → (((if 3 ≤ v1 then (0 : Int) else (if (m_cmp v2 1) = 0 then (1 : Int) else 0)) = 0 → j2 M) ∧ (¬ ((if 3 ≤ v1 then (0 : Int) else (if (m_cmp v2 1) = 0 then (1 : Int) else 0)) = 0) → (∀ M50 : Mem, M50 = (mset M 66 86 v4) → j2 M50)))) ∧ (¬ (v1 = 1) → j2 M))) ∧ (¬ ((if 3 ≤ v1 then (0 : Int) else (if (m_cmp v2 1) = 0 then (1 : Int) else 0)) = 0) → (((m_cmp (M 66 86) (-1)) = 0 → (∀ M53 : Mem, M53 = (mset M 66 86 v4) → j2 M53)) ∧ (¬ ((m_cmp (M 66 86) (-1)) = 0) → ((v1 = 1 → (((if 3 ≤ v1 then (0 : Int) else (if (m_cmp v2 1) = 0 then (1 : Int) else 0)) = 0 → j2 M) ∧ (¬ ((if 3 ≤ v1 then (0 : Int) else (if (m_cmp v2 1) = 0 then (1 : Int) else 0)) = 0) → (∀ M57 : Mem, M57 = (mset M 66 86 v4) → j2 M57)))) ∧ (¬ (v1 = 1) → j2 M))))))) ∧ (¬ (v1 = 0) → ((v1 = 1 → (((if 3 ≤ v1 then (0 : Int) else (if (m_cmp v2 1) = 0 then (1 : Int) else 0)) = 0 → j2 M) ∧ (¬ ((if 3 ≤ v1 then (0 : Int) else (if (m_cmp v2 1) = 0 then (1 : Int) else 0)) = 0) → (∀ M45 : Mem, M45 = (mset M 66 86 v4) → j2 M45)))) ∧ (¬ (v1 = 1) → j2 M)))))
set_option maxRecDepth 100000 in
set_option maxHeartbeats 2000000 in
theorem pX12_qTakes {E : EV} {h : Int} {M : Mem} {v1 : Int} {v2 : Int} {v4 : Int}  {Q : Int → Mem → Prop} (H : PX12_qTakes v1 v2 v4 M Q) : C2 E miX12_qTakes 1 h [(2, 66), (0, v1), (1, v2), (0, v4)] M (RV Q) := by
  refine C2_of (L := [(2, 66), (0, v1), (1, v2), (3, 0), (0, v4), (3, 0)]) (by decide +kernel) (Nat.le_of_ble_eq_true rfl) rfl (fun hG => ?_)
  refine T_iload_n (i := 1) (pc' := 1) dX12_qTakes_0 rfl rfl rfl ?_
  refine T_iconst (pc' := 2) dX12_qTakes_1 (by decide) rfl ?_
  have HJ1 : T E miX12_qTakes 1 126 0 0 (fun r S M' => S = S0 ∧ G h M' ∧ RV Q r M') 16 [(2, 66), (0, v1), (1, v2), (3, 0), (0, v4), (3, 0)] [(0, (if 3 ≤ v1 then (0 : Int) else (if (m_cmp v2 1) = 0 then (1 : Int) else 0)))] S0 M 0 0 := by
    refine T_istore (i := 5) (L' := [(2, 66), (0, v1), (1, v2), (3, 0), (0, v4), (0, (if 3 ≤ v1 then (0 : Int) else (if (m_cmp v2 1) = 0 then (1 : Int) else 0)))]) (pc' := 18) dX12_qTakes_16 (by decide) rfl rfl ?_
    refine T_iload_n (i := 1) (pc' := 19) dX12_qTakes_18 rfl rfl rfl ?_
    obtain ⟨j2, hj2, H⟩ := H
    have qj2 : ∀ (M3 : Mem), j2 M3 → G h M3 → TG E miX12_qTakes 1 h (RV Q) 55 [(2, 66), (0, v1), (1, v2), (3, 0), (3, 0), (0, (if 3 ≤ v1 then (0 : Int) else (if (m_cmp v2 1) = 0 then (1 : Int) else 0)))] [] M3 := by
      intro M3 H hG4
      replace H := hj2 _ H
      refine T_iload_n (i := 1) (pc' := 56) dX12_qTakes_55 rfl rfl rfl ?_
      refine T_iconst (pc' := 57) dX12_qTakes_56 (by decide) rfl ?_
      obtain ⟨j5, hj5, H⟩ := H
      have qj5 : ∀ (M6 : Mem), j5 M6 → G h M6 → TG E miX12_qTakes 1 h (RV Q) 75 [(2, 66), (0, v1), (1, v2), (3, 0), (3, 0), (3, 0)] [] M6 := by
        intro M6 H hG7
        replace H := hj5 _ H
        refine T_iload_n (i := 1) (pc' := 76) dX12_qTakes_75 rfl rfl rfl ?_
        refine T_iconst (pc' := 77) dX12_qTakes_76 (by decide) rfl ?_
        obtain ⟨j8, hj8, H⟩ := H
        have qj8 : ∀ (M9 : Mem), j8 M9 → G h M9 → TG E miX12_qTakes 1 h (RV Q) 90 [(2, 66), (0, v1), (1, v2), (3, 0), (3, 0), (3, 0)] [] M9 := by
          intro M9 H hG10
          replace H := hj8 _ H
          refine T_iload_n (i := 1) (pc' := 91) dX12_qTakes_90 rfl rfl rfl ?_
          refine T_iconst (pc' := 92) dX12_qTakes_91 (by decide) rfl ?_
          refine T_icmp_le (pc' := 133) dX12_qTakes_92 (by decide) (pf := 95) rfl (fun c11 => ?_) (fun c11 => ?_)
          · skip
            replace H := H.1 c11
            refine T_aload_n (i := 0) (pc' := 134) dX12_qTakes_133 rfl rfl rfl ?_
            refine T_iconst (pc' := 135) dX12_qTakes_134 (by decide) rfl ?_
            refine U_pf (y := 0) (k := 87) (kI := 87) (pc' := 138) dX12_qTakes_135 rfl cl12 (by decide) rfl (by decide) flX12_626 rfl rfl rfl rfl rfl (by decide) (fun _ => bool_ok (by decide)) rfl ?_
            have hG12 := (G_fld (x := 66) (i := 87) (y := 0) rfl (by decide) (by decide) (by decide) hG10)
            obtain ⟨M13, eM13⟩ : ∃ m : Mem, m = (mset M9 66 87 0) := ⟨_, rfl⟩
            rw [← eM13] at hG12 ⊢
            replace H := H M13 eM13
            exact T_vret dX12_qTakes_138 rfl ⟨rfl, hG12, rfl, H⟩
          · skip
            replace H := H.2 c11
            refine T_aload_n (i := 0) (pc' := 96) dX12_qTakes_95 rfl rfl rfl ?_
            refine U_gf (v := (0, (M9 66 87))) (k := 87) (kI := 87) (pc' := 99) dX12_qTakes_96 rfl cl12 (by decide) rfl (by decide) flX12_626 rfl rfl (by decide) rfl rfl ?_
            refine T_if_ne (pc' := 128) dX12_qTakes_99 (by decide) (pf := 102) rfl (fun c14 => ?_) (fun c14 => ?_)
            · skip
              replace H := H.2 c14
              refine T_aload_n (i := 0) (pc' := 129) dX12_qTakes_128 rfl rfl rfl ?_
              refine T_lload_n (i := 2) (pc' := 130) dX12_qTakes_129 rfl rfl rfl ?_
              refine U_pf (y := v2) (k := 86) (kI := 86) (pc' := 133) dX12_qTakes_130 rfl cl12 (by decide) rfl (by decide) flX12_621 rfl rfl rfl rfl rfl (by decide) (fun z => z) rfl ?_
              have hG15 := (G_fld (x := 66) (i := 86) (y := v2) rfl (by decide) (by decide) (by decide) hG10)
              obtain ⟨M16, eM16⟩ : ∃ m : Mem, m = (mset M9 66 86 v2) := ⟨_, rfl⟩
              rw [← eM16] at hG15 ⊢
              replace H := H M16 eM16
              refine T_aload_n (i := 0) (pc' := 134) dX12_qTakes_133 rfl rfl rfl ?_
              refine T_iconst (pc' := 135) dX12_qTakes_134 (by decide) rfl ?_
              refine U_pf (y := 0) (k := 87) (kI := 87) (pc' := 138) dX12_qTakes_135 rfl cl12 (by decide) rfl (by decide) flX12_626 rfl rfl rfl rfl rfl (by decide) (fun _ => bool_ok (by decide)) rfl ?_
              have hG17 := (G_fld (x := 66) (i := 87) (y := 0) rfl (by decide) (by decide) (by decide) hG15)
              obtain ⟨M18, eM18⟩ : ∃ m : Mem, m = (mset M16 66 87 0) := ⟨_, rfl⟩
              rw [← eM18] at hG17 ⊢
              replace H := H M18 eM18
              exact T_vret dX12_qTakes_138 rfl ⟨rfl, hG17, rfl, H⟩
            · skip
              replace H := H.1 c14
              refine T_iload_n (i := 1) (pc' := 103) dX12_qTakes_102 rfl rfl rfl ?_
              refine T_iconst (pc' := 104) dX12_qTakes_103 (by decide) rfl ?_
              refine T_icmp_ne (pc' := 119) dX12_qTakes_104 (by decide) (pf := 107) rfl (fun c19 => ?_) (fun c19 => ?_)
              · skip
                replace H := H.2 c19
                refine T_lload_n (i := 2) (pc' := 120) dX12_qTakes_119 rfl rfl rfl ?_
                refine T_aload_n (i := 0) (pc' := 121) dX12_qTakes_120 rfl rfl rfl ?_
                refine U_gf (v := (1, (M9 66 86))) (k := 86) (kI := 86) (pc' := 124) dX12_qTakes_121 rfl cl12 (by decide) rfl (by decide) flX12_621 rfl rfl (by decide) rfl rfl ?_
                refine T_lcmp (pc' := 125) dX12_qTakes_124 rfl ?_
                refine T_if_ge (pc' := 133) dX12_qTakes_125 (by decide) (pf := 128) rfl (fun c20 => ?_) (fun c20 => ?_)
                · skip
                  replace H := H.1 c20
                  refine T_aload_n (i := 0) (pc' := 134) dX12_qTakes_133 rfl rfl rfl ?_
                  refine T_iconst (pc' := 135) dX12_qTakes_134 (by decide) rfl ?_
                  refine U_pf (y := 0) (k := 87) (kI := 87) (pc' := 138) dX12_qTakes_135 rfl cl12 (by decide) rfl (by decide) flX12_626 rfl rfl rfl rfl rfl (by decide) (fun _ => bool_ok (by decide)) rfl ?_
                  have hG21 := (G_fld (x := 66) (i := 87) (y := 0) rfl (by decide) (by decide) (by decide) hG10)
                  obtain ⟨M22, eM22⟩ : ∃ m : Mem, m = (mset M9 66 87 0) := ⟨_, rfl⟩
                  rw [← eM22] at hG21 ⊢
                  replace H := H M22 eM22
                  exact T_vret dX12_qTakes_138 rfl ⟨rfl, hG21, rfl, H⟩
                · skip
                  replace H := H.2 c20
                  refine T_aload_n (i := 0) (pc' := 129) dX12_qTakes_128 rfl rfl rfl ?_
                  refine T_lload_n (i := 2) (pc' := 130) dX12_qTakes_129 rfl rfl rfl ?_
                  refine U_pf (y := v2) (k := 86) (kI := 86) (pc' := 133) dX12_qTakes_130 rfl cl12 (by decide) rfl (by decide) flX12_621 rfl rfl rfl rfl rfl (by decide) (fun z => z) rfl ?_
                  have hG23 := (G_fld (x := 66) (i := 86) (y := v2) rfl (by decide) (by decide) (by decide) hG10)
                  obtain ⟨M24, eM24⟩ : ∃ m : Mem, m = (mset M9 66 86 v2) := ⟨_, rfl⟩
                  rw [← eM24] at hG23 ⊢
                  replace H := H M24 eM24
                  refine T_aload_n (i := 0) (pc' := 134) dX12_qTakes_133 rfl rfl rfl ?_
                  refine T_iconst (pc' := 135) dX12_qTakes_134 (by decide) rfl ?_
                  refine U_pf (y := 0) (k := 87) (kI := 87) (pc' := 138) dX12_qTakes_135 rfl cl12 (by decide) rfl (by decide) flX12_626 rfl rfl rfl rfl rfl (by decide) (fun _ => bool_ok (by decide)) rfl ?_
                  have hG25 := (G_fld (x := 66) (i := 87) (y := 0) rfl (by decide) (by decide) (by decide) hG23)
                  obtain ⟨M26, eM26⟩ : ∃ m : Mem, m = (mset M24 66 87 0) := ⟨_, rfl⟩
                  rw [← eM26] at hG25 ⊢
                  replace H := H M26 eM26
                  exact T_vret dX12_qTakes_138 rfl ⟨rfl, hG25, rfl, H⟩
              · skip
                replace H := H.1 c19
                refine T_lload_n (i := 2) (pc' := 108) dX12_qTakes_107 rfl rfl rfl ?_
                refine T_aload_n (i := 0) (pc' := 109) dX12_qTakes_108 rfl rfl rfl ?_
                refine U_gf (v := (1, (M9 66 86))) (k := 86) (kI := 86) (pc' := 112) dX12_qTakes_109 rfl cl12 (by decide) rfl (by decide) flX12_621 rfl rfl (by decide) rfl rfl ?_
                refine T_lcmp (pc' := 113) dX12_qTakes_112 rfl ?_
                refine T_if_le (pc' := 133) dX12_qTakes_113 (by decide) (pf := 116) rfl (fun c27 => ?_) (fun c27 => ?_)
                · skip
                  replace H := H.1 c27
                  refine T_aload_n (i := 0) (pc' := 134) dX12_qTakes_133 rfl rfl rfl ?_
                  refine T_iconst (pc' := 135) dX12_qTakes_134 (by decide) rfl ?_
                  refine U_pf (y := 0) (k := 87) (kI := 87) (pc' := 138) dX12_qTakes_135 rfl cl12 (by decide) rfl (by decide) flX12_626 rfl rfl rfl rfl rfl (by decide) (fun _ => bool_ok (by decide)) rfl ?_
                  have hG28 := (G_fld (x := 66) (i := 87) (y := 0) rfl (by decide) (by decide) (by decide) hG10)
                  obtain ⟨M29, eM29⟩ : ∃ m : Mem, m = (mset M9 66 87 0) := ⟨_, rfl⟩
                  rw [← eM29] at hG28 ⊢
                  replace H := H M29 eM29
                  exact T_vret dX12_qTakes_138 rfl ⟨rfl, hG28, rfl, H⟩
                · skip
                  replace H := H.2 c27
                  refine T_goto (pc' := 128) dX12_qTakes_116 (by decide) ?_
                  refine T_aload_n (i := 0) (pc' := 129) dX12_qTakes_128 rfl rfl rfl ?_
                  refine T_lload_n (i := 2) (pc' := 130) dX12_qTakes_129 rfl rfl rfl ?_
                  refine U_pf (y := v2) (k := 86) (kI := 86) (pc' := 133) dX12_qTakes_130 rfl cl12 (by decide) rfl (by decide) flX12_621 rfl rfl rfl rfl rfl (by decide) (fun z => z) rfl ?_
                  have hG30 := (G_fld (x := 66) (i := 86) (y := v2) rfl (by decide) (by decide) (by decide) hG10)
                  obtain ⟨M31, eM31⟩ : ∃ m : Mem, m = (mset M9 66 86 v2) := ⟨_, rfl⟩
                  rw [← eM31] at hG30 ⊢
                  replace H := H M31 eM31
                  refine T_aload_n (i := 0) (pc' := 134) dX12_qTakes_133 rfl rfl rfl ?_
                  refine T_iconst (pc' := 135) dX12_qTakes_134 (by decide) rfl ?_
                  refine U_pf (y := 0) (k := 87) (kI := 87) (pc' := 138) dX12_qTakes_135 rfl cl12 (by decide) rfl (by decide) flX12_626 rfl rfl rfl rfl rfl (by decide) (fun _ => bool_ok (by decide)) rfl ?_
                  have hG32 := (G_fld (x := 66) (i := 87) (y := 0) rfl (by decide) (by decide) (by decide) hG30)
                  obtain ⟨M33, eM33⟩ : ∃ m : Mem, m = (mset M31 66 87 0) := ⟨_, rfl⟩
                  rw [← eM33] at hG32 ⊢
                  replace H := H M33 eM33
                  exact T_vret dX12_qTakes_138 rfl ⟨rfl, hG32, rfl, H⟩
        refine T_icmp_ne (pc' := 90) dX12_qTakes_77 (by decide) (pf := 80) rfl (fun c34 => ?_) (fun c34 => ?_)
        · skip
          replace H := H.2 c34
          exact T_wk (L' := [(2, 66), (0, v1), (1, v2), (3, 0), (3, 0), (3, 0)]) (qj8 _ H hG7) ⟨Or.inr rfl, Or.inr rfl, Or.inr rfl, Or.inl rfl, Or.inl rfl, Or.inl rfl, trivial⟩
        · skip
          replace H := H.1 c34
          refine T_aload_n (i := 0) (pc' := 81) dX12_qTakes_80 rfl rfl rfl ?_
          refine T_dup (pc' := 82) dX12_qTakes_81 (Nat.ne_of_beq_eq_false rfl) rfl ?_
          refine U_gf (v := (1, (M6 66 86))) (k := 86) (kI := 86) (pc' := 85) dX12_qTakes_82 rfl cl12 (by decide) rfl (by decide) flX12_621 rfl rfl (by decide) rfl rfl ?_
          refine T_lload_n (i := 2) (pc' := 86) dX12_qTakes_85 rfl rfl rfl ?_
          refine T_ladd (pc' := 87) dX12_qTakes_86 rfl ?_
          refine U_pf (y := (wr64 ((M6 66 86) + v2))) (k := 86) (kI := 86) (pc' := 90) dX12_qTakes_87 rfl cl12 (by decide) rfl (by decide) flX12_621 rfl rfl rfl rfl rfl (by decide) (fun z => z) rfl ?_
          have hG35 := (G_fld (x := 66) (i := 86) (y := (wr64 ((M6 66 86) + v2))) rfl (by decide) (by decide) (by decide) hG7)
          obtain ⟨M36, eM36⟩ : ∃ m : Mem, m = (mset M6 66 86 (wr64 ((M6 66 86) + v2))) := ⟨_, rfl⟩
          rw [← eM36] at hG35 ⊢
          replace H := H M36 eM36
          exact T_wk (L' := [(2, 66), (0, v1), (1, v2), (3, 0), (3, 0), (3, 0)]) (qj8 _ H hG35) ⟨Or.inr rfl, Or.inr rfl, Or.inr rfl, Or.inl rfl, Or.inl rfl, Or.inl rfl, trivial⟩
      refine T_icmp_ne (pc' := 75) dX12_qTakes_57 (by decide) (pf := 60) rfl (fun c37 => ?_) (fun c37 => ?_)
      · skip
        replace H := H.2 c37
        exact T_wk (L' := [(2, 66), (0, v1), (1, v2), (3, 0), (3, 0), (3, 0)]) (qj5 _ H hG4) ⟨Or.inr rfl, Or.inr rfl, Or.inr rfl, Or.inl rfl, Or.inl rfl, Or.inl rfl, trivial⟩
      · skip
        replace H := H.1 c37
        refine T_iload (i := 5) (pc' := 62) dX12_qTakes_60 rfl rfl ?_
        refine T_if_eq (pc' := 75) dX12_qTakes_62 (by decide) (pf := 65) rfl (fun c38 => ?_) (fun c38 => ?_)
        · skip
          replace H := H.1 c38
          exact T_wk (L' := [(2, 66), (0, v1), (1, v2), (3, 0), (3, 0), (3, 0)]) (qj5 _ H hG4) ⟨Or.inr rfl, Or.inr rfl, Or.inr rfl, Or.inl rfl, Or.inl rfl, Or.inl rfl, trivial⟩
        · skip
          replace H := H.2 c38
          refine T_aload_n (i := 0) (pc' := 66) dX12_qTakes_65 rfl rfl rfl ?_
          refine T_dup (pc' := 67) dX12_qTakes_66 (Nat.ne_of_beq_eq_false rfl) rfl ?_
          refine U_gf (v := (1, (M3 66 86))) (k := 86) (kI := 86) (pc' := 70) dX12_qTakes_67 rfl cl12 (by decide) rfl (by decide) flX12_621 rfl rfl (by decide) rfl rfl ?_
          refine T_lconst (v := 1) (pc' := 71) dX12_qTakes_70 rfl (by decide) rfl ?_
          refine T_ladd (pc' := 72) dX12_qTakes_71 rfl ?_
          refine U_pf (y := (wr64 ((M3 66 86) + 1))) (k := 86) (kI := 86) (pc' := 75) dX12_qTakes_72 rfl cl12 (by decide) rfl (by decide) flX12_621 rfl rfl rfl rfl rfl (by decide) (fun z => z) rfl ?_
          have hG39 := (G_fld (x := 66) (i := 86) (y := (wr64 ((M3 66 86) + 1))) rfl (by decide) (by decide) (by decide) hG4)
          obtain ⟨M40, eM40⟩ : ∃ m : Mem, m = (mset M3 66 86 (wr64 ((M3 66 86) + 1))) := ⟨_, rfl⟩
          rw [← eM40] at hG39 ⊢
          replace H := H M40 eM40
          exact T_wk (L' := [(2, 66), (0, v1), (1, v2), (3, 0), (3, 0), (3, 0)]) (qj5 _ H hG39) ⟨Or.inr rfl, Or.inr rfl, Or.inr rfl, Or.inl rfl, Or.inl rfl, Or.inl rfl, trivial⟩
    refine T_if_ne (pc' := 38) dX12_qTakes_19 (by decide) (pf := 22) rfl (fun c41 => ?_) (fun c41 => ?_)
    · skip
      replace H := H.2 c41
      refine T_iload_n (i := 1) (pc' := 39) dX12_qTakes_38 rfl rfl rfl ?_
      refine T_iconst (pc' := 40) dX12_qTakes_39 (by decide) rfl ?_
      refine T_icmp_ne (pc' := 55) dX12_qTakes_40 (by decide) (pf := 43) rfl (fun c42 => ?_) (fun c42 => ?_)
      · skip
        replace H := H.2 c42
        exact T_wk (L' := [(2, 66), (0, v1), (1, v2), (3, 0), (3, 0), (0, (if 3 ≤ v1 then (0 : Int) else (if (m_cmp v2 1) = 0 then (1 : Int) else 0)))]) (qj2 _ H hG) ⟨Or.inr rfl, Or.inr rfl, Or.inr rfl, Or.inl rfl, Or.inl rfl, Or.inr rfl, trivial⟩
      · skip
        replace H := H.1 c42
        refine T_iload (i := 5) (pc' := 45) dX12_qTakes_43 rfl rfl ?_
        refine T_if_eq (pc' := 55) dX12_qTakes_45 (by decide) (pf := 48) rfl (fun c43 => ?_) (fun c43 => ?_)
        · skip
          replace H := H.1 c43
          exact T_wk (L' := [(2, 66), (0, v1), (1, v2), (3, 0), (3, 0), (0, (if 3 ≤ v1 then (0 : Int) else (if (m_cmp v2 1) = 0 then (1 : Int) else 0)))]) (qj2 _ H hG) ⟨Or.inr rfl, Or.inr rfl, Or.inr rfl, Or.inl rfl, Or.inl rfl, Or.inr rfl, trivial⟩
        · skip
          replace H := H.2 c43
          refine T_aload_n (i := 0) (pc' := 49) dX12_qTakes_48 rfl rfl rfl ?_
          refine T_iload (i := 4) (pc' := 51) dX12_qTakes_49 rfl rfl ?_
          refine T_i2l (pc' := 52) dX12_qTakes_51 rfl ?_
          refine U_pf (y := v4) (k := 86) (kI := 86) (pc' := 55) dX12_qTakes_52 rfl cl12 (by decide) rfl (by decide) flX12_621 rfl rfl rfl rfl rfl (by decide) (fun z => z) rfl ?_
          have hG44 := (G_fld (x := 66) (i := 86) (y := v4) rfl (by decide) (by decide) (by decide) hG)
          obtain ⟨M45, eM45⟩ : ∃ m : Mem, m = (mset M 66 86 v4) := ⟨_, rfl⟩
          rw [← eM45] at hG44 ⊢
          replace H := H M45 eM45
          exact T_wk (L' := [(2, 66), (0, v1), (1, v2), (3, 0), (3, 0), (0, (if 3 ≤ v1 then (0 : Int) else (if (m_cmp v2 1) = 0 then (1 : Int) else 0)))]) (qj2 _ H hG44) ⟨Or.inr rfl, Or.inr rfl, Or.inr rfl, Or.inl rfl, Or.inl rfl, Or.inr rfl, trivial⟩
    · skip
      replace H := H.1 c41
      refine T_iload (i := 5) (pc' := 24) dX12_qTakes_22 rfl rfl ?_
      refine T_if_eq (pc' := 38) dX12_qTakes_24 (by decide) (pf := 27) rfl (fun c46 => ?_) (fun c46 => ?_)
      · skip
        replace H := H.1 c46
        refine T_iload_n (i := 1) (pc' := 39) dX12_qTakes_38 rfl rfl rfl ?_
        refine T_iconst (pc' := 40) dX12_qTakes_39 (by decide) rfl ?_
        refine T_icmp_ne (pc' := 55) dX12_qTakes_40 (by decide) (pf := 43) rfl (fun c47 => ?_) (fun c47 => ?_)
        · skip
          replace H := H.2 c47
          exact T_wk (L' := [(2, 66), (0, v1), (1, v2), (3, 0), (3, 0), (0, (if 3 ≤ v1 then (0 : Int) else (if (m_cmp v2 1) = 0 then (1 : Int) else 0)))]) (qj2 _ H hG) ⟨Or.inr rfl, Or.inr rfl, Or.inr rfl, Or.inl rfl, Or.inl rfl, Or.inr rfl, trivial⟩
        · skip
          replace H := H.1 c47
          refine T_iload (i := 5) (pc' := 45) dX12_qTakes_43 rfl rfl ?_
          refine T_if_eq (pc' := 55) dX12_qTakes_45 (by decide) (pf := 48) rfl (fun c48 => ?_) (fun c48 => ?_)
          · skip
            replace H := H.1 c48
            exact T_wk (L' := [(2, 66), (0, v1), (1, v2), (3, 0), (3, 0), (0, (if 3 ≤ v1 then (0 : Int) else (if (m_cmp v2 1) = 0 then (1 : Int) else 0)))]) (qj2 _ H hG) ⟨Or.inr rfl, Or.inr rfl, Or.inr rfl, Or.inl rfl, Or.inl rfl, Or.inr rfl, trivial⟩
          · skip
            replace H := H.2 c48
            refine T_aload_n (i := 0) (pc' := 49) dX12_qTakes_48 rfl rfl rfl ?_
            refine T_iload (i := 4) (pc' := 51) dX12_qTakes_49 rfl rfl ?_
            refine T_i2l (pc' := 52) dX12_qTakes_51 rfl ?_
            refine U_pf (y := v4) (k := 86) (kI := 86) (pc' := 55) dX12_qTakes_52 rfl cl12 (by decide) rfl (by decide) flX12_621 rfl rfl rfl rfl rfl (by decide) (fun z => z) rfl ?_
            have hG49 := (G_fld (x := 66) (i := 86) (y := v4) rfl (by decide) (by decide) (by decide) hG)
            obtain ⟨M50, eM50⟩ : ∃ m : Mem, m = (mset M 66 86 v4) := ⟨_, rfl⟩
            rw [← eM50] at hG49 ⊢
            replace H := H M50 eM50
            exact T_wk (L' := [(2, 66), (0, v1), (1, v2), (3, 0), (3, 0), (0, (if 3 ≤ v1 then (0 : Int) else (if (m_cmp v2 1) = 0 then (1 : Int) else 0)))]) (qj2 _ H hG49) ⟨Or.inr rfl, Or.inr rfl, Or.inr rfl, Or.inl rfl, Or.inl rfl, Or.inr rfl, trivial⟩
      · skip
        replace H := H.2 c46
        refine T_aload_n (i := 0) (pc' := 28) dX12_qTakes_27 rfl rfl rfl ?_
        refine U_gf (v := (1, (M 66 86))) (k := 86) (kI := 86) (pc' := 31) dX12_qTakes_28 rfl cl12 (by decide) rfl (by decide) flX12_621 rfl rfl (by decide) rfl rfl ?_
        refine T_ldc2 (n := (-1)) (pc' := 34) dX12_qTakes_31 rfl kjX12_624 rfl (by decide) rfl ?_
        refine T_lcmp (pc' := 35) dX12_qTakes_34 rfl ?_
        refine T_if_eq (pc' := 48) dX12_qTakes_35 (by decide) (pf := 38) rfl (fun c51 => ?_) (fun c51 => ?_)
        · skip
          replace H := H.1 c51
          refine T_aload_n (i := 0) (pc' := 49) dX12_qTakes_48 rfl rfl rfl ?_
          refine T_iload (i := 4) (pc' := 51) dX12_qTakes_49 rfl rfl ?_
          refine T_i2l (pc' := 52) dX12_qTakes_51 rfl ?_
          refine U_pf (y := v4) (k := 86) (kI := 86) (pc' := 55) dX12_qTakes_52 rfl cl12 (by decide) rfl (by decide) flX12_621 rfl rfl rfl rfl rfl (by decide) (fun z => z) rfl ?_
          have hG52 := (G_fld (x := 66) (i := 86) (y := v4) rfl (by decide) (by decide) (by decide) hG)
          obtain ⟨M53, eM53⟩ : ∃ m : Mem, m = (mset M 66 86 v4) := ⟨_, rfl⟩
          rw [← eM53] at hG52 ⊢
          replace H := H M53 eM53
          exact T_wk (L' := [(2, 66), (0, v1), (1, v2), (3, 0), (3, 0), (0, (if 3 ≤ v1 then (0 : Int) else (if (m_cmp v2 1) = 0 then (1 : Int) else 0)))]) (qj2 _ H hG52) ⟨Or.inr rfl, Or.inr rfl, Or.inr rfl, Or.inl rfl, Or.inl rfl, Or.inr rfl, trivial⟩
        · skip
          replace H := H.2 c51
          refine T_iload_n (i := 1) (pc' := 39) dX12_qTakes_38 rfl rfl rfl ?_
          refine T_iconst (pc' := 40) dX12_qTakes_39 (by decide) rfl ?_
          refine T_icmp_ne (pc' := 55) dX12_qTakes_40 (by decide) (pf := 43) rfl (fun c54 => ?_) (fun c54 => ?_)
          · skip
            replace H := H.2 c54
            exact T_wk (L' := [(2, 66), (0, v1), (1, v2), (3, 0), (3, 0), (0, (if 3 ≤ v1 then (0 : Int) else (if (m_cmp v2 1) = 0 then (1 : Int) else 0)))]) (qj2 _ H hG) ⟨Or.inr rfl, Or.inr rfl, Or.inr rfl, Or.inl rfl, Or.inl rfl, Or.inr rfl, trivial⟩
          · skip
            replace H := H.1 c54
            refine T_iload (i := 5) (pc' := 45) dX12_qTakes_43 rfl rfl ?_
            refine T_if_eq (pc' := 55) dX12_qTakes_45 (by decide) (pf := 48) rfl (fun c55 => ?_) (fun c55 => ?_)
            · skip
              replace H := H.1 c55
              exact T_wk (L' := [(2, 66), (0, v1), (1, v2), (3, 0), (3, 0), (0, (if 3 ≤ v1 then (0 : Int) else (if (m_cmp v2 1) = 0 then (1 : Int) else 0)))]) (qj2 _ H hG) ⟨Or.inr rfl, Or.inr rfl, Or.inr rfl, Or.inl rfl, Or.inl rfl, Or.inr rfl, trivial⟩
            · skip
              replace H := H.2 c55
              refine T_aload_n (i := 0) (pc' := 49) dX12_qTakes_48 rfl rfl rfl ?_
              refine T_iload (i := 4) (pc' := 51) dX12_qTakes_49 rfl rfl ?_
              refine T_i2l (pc' := 52) dX12_qTakes_51 rfl ?_
              refine U_pf (y := v4) (k := 86) (kI := 86) (pc' := 55) dX12_qTakes_52 rfl cl12 (by decide) rfl (by decide) flX12_621 rfl rfl rfl rfl rfl (by decide) (fun z => z) rfl ?_
              have hG56 := (G_fld (x := 66) (i := 86) (y := v4) rfl (by decide) (by decide) (by decide) hG)
              obtain ⟨M57, eM57⟩ : ∃ m : Mem, m = (mset M 66 86 v4) := ⟨_, rfl⟩
              rw [← eM57] at hG56 ⊢
              replace H := H M57 eM57
              exact T_wk (L' := [(2, 66), (0, v1), (1, v2), (3, 0), (3, 0), (0, (if 3 ≤ v1 then (0 : Int) else (if (m_cmp v2 1) = 0 then (1 : Int) else 0)))]) (qj2 _ H hG56) ⟨Or.inr rfl, Or.inr rfl, Or.inr rfl, Or.inl rfl, Or.inl rfl, Or.inr rfl, trivial⟩
  refine T_icmp_ge (pc' := 15) dX12_qTakes_2 (by decide) (pf := 5) rfl (fun c58 => ?_) (fun c58 => ?_)
  · skip
    refine T_iconst (pc' := 16) dX12_qTakes_15 (by decide) rfl ?_
    exact T_wk (L' := [(2, 66), (0, v1), (1, v2), (3, 0), (0, v4), (3, 0)]) (by have q := HJ1; try simp only [if_pos c58] at q ⊢; exact q) ⟨Or.inr rfl, Or.inr rfl, Or.inr rfl, Or.inl rfl, Or.inr rfl, Or.inl rfl, trivial⟩
  · skip
    refine T_lload_n (i := 2) (pc' := 6) dX12_qTakes_5 rfl rfl rfl ?_
    refine T_lconst (v := 1) (pc' := 7) dX12_qTakes_6 rfl (by decide) rfl ?_
    refine T_lcmp (pc' := 8) dX12_qTakes_7 rfl ?_
    refine T_if_ne (pc' := 15) dX12_qTakes_8 (by decide) (pf := 11) rfl (fun c59 => ?_) (fun c59 => ?_)
    · skip
      refine T_iconst (pc' := 16) dX12_qTakes_15 (by decide) rfl ?_
      exact T_wk (L' := [(2, 66), (0, v1), (1, v2), (3, 0), (0, v4), (3, 0)]) (by have q := HJ1; try simp only [if_neg c58] at q ⊢; try simp only [if_neg c59] at q ⊢; exact q) ⟨Or.inr rfl, Or.inr rfl, Or.inr rfl, Or.inl rfl, Or.inr rfl, Or.inl rfl, trivial⟩
    · skip
      refine T_iconst (pc' := 12) dX12_qTakes_11 (by decide) rfl ?_
      refine T_goto (pc' := 16) dX12_qTakes_12 (by decide) ?_
      exact T_wk (L' := [(2, 66), (0, v1), (1, v2), (3, 0), (0, v4), (3, 0)]) (by have q := HJ1; try simp only [if_neg c58] at q ⊢; try simp only [if_pos c59] at q ⊢; exact q) ⟨Or.inr rfl, Or.inr rfl, Or.inr rfl, Or.inl rfl, Or.inr rfl, Or.inl rfl, trivial⟩
def PX12_ask_182 (v1 : Int) (K : Mem → Prop) (Q : Int → Mem → Prop) : Nat → Int → Mem → Prop
  | 0 => fun _ _ => False
  | k + 1 => fun v2 M => ((200 < v2 → K M) ∧ (¬ (200 < v2) → PX12_qTold v2 M (fun a2 M3 => PX12_qTakes v1 a2 v2 M3 (fun _ M6 => PX12_ask_182 v1 K Q k (wr32 (v2 + 1)) M6))))
def PX12_ask  (M : Mem) (Q : Int → Mem → Prop) : Prop :=
  (((M 66 38) = 0 → (∀ M69 : Mem, M69 = (mset M 66 1 0) → Q (-1000000000000000) M69)) ∧ (¬ ((M 66 38) = 0) → (∀ M3 : Mem, M3 = (mset M 66 3 (M 66 1)) → (∀ M5 : Mem, M5 = (mset M3 66 1 0) → (∀ M7 : Mem, M7 = (mset M5 66 2 0) → (∀ M9 : Mem, M9 = (mset M7 66 4 (-1)) → (∀ M11 : Mem, M11 = (mset M9 66 5 0) → (∀ M13 : Mem, M13 = (mset M11 66 6 (-1)) → (∀ M15 : Mem, M15 = (mset M13 66 79 0) → (∀ M17 : Mem, M17 = (mset M15 66 81 0) → (∀ M19 : Mem, M19 = (mset M17 66 82 0) → (∀ M21 : Mem, M21 = (mset M19 66 83 0) → PX12_qKind M21 (fun a22 M23 => (∃ j25 : Mem → Prop, (∀ (M26 : Mem), j25 M26 → (∃ j28 : Mem → Prop, (∀ (M29 : Mem), j28 M29 → (∀ M32 : Mem, M32 = (mset M29 66 7 (M29 66 5)) → (∀ M34 : Mem, M34 = (mset M32 66 8 (M32 66 6)) → (((M34 66 5) = 0 → (∀ M38 : Mem, M38 = (mset M34 66 86 (if 2 ≤ a22 then (0 : Int) else (-1))) → (∀ M40 : Mem, M40 = (mset M38 66 87 1) → PX12_plays M40 (fun _ M42 => (∃ k44 : Nat, PX12_ask_182 a22 (fun M45 => Q (M45 66 86) M45) Q k44 0 M42))))) ∧ (¬ ((M34 66 5) = 0) → Q (-1000000000000000) M34))))) ∧ (((M26 66 5) = 0 → PX12_look M26 (fun a49 M50 => ((a49 = (-1) → j28 M50) ∧ (¬ (a49 = (-1)) → (∀ M54 : Mem, M54 = (fmX12_fail M50 1 (M50 66 2)) → j28 M54))))) ∧ (¬ ((M26 66 5) = 0) → j28 M26)))) ∧ (((M23 66 5) = 0 → ((3 ≤ a22 → (((M23 66 5) = 0 → PX12_qSums M23 (fun _ M63 => j25 M63)) ∧ (¬ ((M23 66 5) = 0) → j25 M23))) ∧ (¬ (3 ≤ a22) → PX12_qTest M23 (fun _ M66 => j25 M66)))) ∧ (¬ ((M23 66 5) = 0) → (((M23 66 5) = 0 → PX12_qSums M23 (fun _ M58 => j25 M58)) ∧ (¬ ((M23 66 5) = 0) → j25 M23))))))))))))))))))
set_option maxRecDepth 100000 in
set_option maxHeartbeats 2000000 in
theorem qX12_ask_182 {E : EV} {h : Int} {v1 : Int}  {K : Mem → Prop} {Q : Int → Mem → Prop} (hK : ∀ (M : Mem), K M → G h M → TG E miX12_ask 10 h (RI 1 Q) 206 [(2, 66), (3, 0), (3, 0)] [] M) : ∀ (k : Nat) (v2 : Int) (M : Mem), PX12_ask_182 v1 K Q k v2 M → G h M → TG E miX12_ask 10 h (RI 1 Q) 182 [(2, 66), (0, v1), (0, v2)] [] M := by
  intro k
  induction k with
  | zero =>
    intro v2 M H
    exact False.elim H
  | succ k ih =>
    intro v2 M H hG
    refine T_iload_n (i := 2) (pc' := 183) dX12_ask_182 rfl rfl rfl ?_
    refine T_sipush (pc' := 186) dX12_ask_183 rfl (by decide) rfl ?_
    refine T_icmp_gt (pc' := 206) dX12_ask_186 (by decide) (pf := 189) rfl (fun c1 => ?_) (fun c1 => ?_)
    · skip
      replace H := H.1 c1
      exact T_wk (L' := [(2, 66), (3, 0), (3, 0)]) (hK _ H hG) ⟨Or.inr rfl, Or.inl rfl, Or.inl rfl, trivial⟩
    · skip
      replace H := H.2 c1
      refine T_aload_n (i := 0) (pc' := 190) dX12_ask_189 rfl rfl rfl ?_
      refine T_iload_n (i := 1) (pc' := 191) dX12_ask_190 rfl rfl rfl ?_
      refine T_aload_n (i := 0) (pc' := 192) dX12_ask_191 rfl rfl rfl ?_
      refine T_iload_n (i := 2) (pc' := 193) dX12_ask_192 rfl rfl rfl ?_
      refine T_callV (av := [(0, v2)]) (st := [(0, v1), (2, 66)]) (d2 := 7) (nc2 := 0) (ns2 := 0) (pc' := 196) dX12_ask_193 rfl mtX12_qTold mvX12_qTold mlX12_637 cl12 rfl rfl rfl (Nat.le_of_ble_eq_true rfl) (by decide) ⟨by decide, by decide⟩ rfl (pX12_qTold (E := E) (h := h) (M := M) (v1 := v2) H hG) ?_
      rintro _ _ M3 ⟨rfl, hG4, a2, rfl, H⟩ _
      refine T_iload_n (i := 2) (pc' := 197) dX12_ask_196 rfl rfl rfl ?_
      refine T_callV (av := [(0, v1), (1, a2), (0, v2)]) (st := []) (d2 := 1) (nc2 := 0) (ns2 := 0) (pc' := 200) dX12_ask_197 rfl mtX12_qTakes mvX12_qTakes mlX12_641 cl12 rfl rfl rfl (Nat.le_of_ble_eq_true rfl) (by decide) ⟨by decide, by decide⟩ rfl (pX12_qTakes (E := E) (h := h) (M := M3) (v1 := v1) (v2 := a2) (v4 := v2) H hG4) ?_
      rintro _ _ M6 ⟨rfl, hG7, rfl, H⟩ _
      refine T_iinc (L' := [(2, 66), (0, v1), (0, (wr32 (v2 + 1)))]) (pc' := 203) dX12_ask_200 rfl (by decide) rfl rfl ?_
      refine T_goto (pc' := 182) dX12_ask_203 (by decide) ?_
      exact T_wk (L' := [(2, 66), (0, v1), (0, (wr32 (v2 + 1)))]) (ih _ _ H hG7) ⟨Or.inr rfl, Or.inr rfl, Or.inr rfl, trivial⟩
set_option maxRecDepth 100000 in
set_option maxHeartbeats 2000000 in
theorem pX12_ask {E : EV} {h : Int} {M : Mem}   {Q : Int → Mem → Prop} (H : PX12_ask  M Q) : C2 E miX12_ask 10 h [(2, 66)] M (RI 1 Q) := by
  refine C2_of (L := [(2, 66), (3, 0), (3, 0)]) (by decide +kernel) (Nat.le_of_ble_eq_true rfl) rfl (fun hG => ?_)
  refine T_aload_n (i := 0) (pc' := 1) dX12_ask_0 rfl rfl rfl ?_
  refine U_gf (v := (0, (M 66 38))) (k := 38) (kI := 38) (pc' := 4) dX12_ask_1 rfl cl12 (by decide) rfl (by decide) flX12_334 rfl rfl (by decide) rfl rfl ?_
  refine T_if_ne (pc' := 16) dX12_ask_4 (by decide) (pf := 7) rfl (fun c1 => ?_) (fun c1 => ?_)
  · skip
    replace H := H.2 c1
    refine T_aload_n (i := 0) (pc' := 17) dX12_ask_16 rfl rfl rfl ?_
    refine T_aload_n (i := 0) (pc' := 18) dX12_ask_17 rfl rfl rfl ?_
    refine U_gf (v := (0, (M 66 1))) (k := 1) (kI := 1) (pc' := 21) dX12_ask_18 rfl cl12 (by decide) rfl (by decide) flX12_198 rfl rfl (by decide) rfl rfl ?_
    refine U_pf (y := (M 66 1)) (k := 3) (kI := 3) (pc' := 24) dX12_ask_21 rfl cl12 (by decide) rfl (by decide) flX12_210 rfl rfl rfl rfl rfl (by decide) (fun z => z) rfl ?_
    have hG2 := (G_fld (x := 66) (i := 3) (y := (M 66 1)) rfl (by decide) (by decide) (by decide) hG)
    obtain ⟨M3, eM3⟩ : ∃ m : Mem, m = (mset M 66 3 (M 66 1)) := ⟨_, rfl⟩
    rw [← eM3] at hG2 ⊢
    replace H := H M3 eM3
    refine T_aload_n (i := 0) (pc' := 25) dX12_ask_24 rfl rfl rfl ?_
    refine T_iconst (pc' := 26) dX12_ask_25 (by decide) rfl ?_
    refine U_pf (y := 0) (k := 1) (kI := 1) (pc' := 29) dX12_ask_26 rfl cl12 (by decide) rfl (by decide) flX12_198 rfl rfl rfl rfl rfl (by decide) (fun z => z) rfl ?_
    have hG4 := (G_fld (x := 66) (i := 1) (y := 0) rfl (by decide) (by decide) (by decide) hG2)
    obtain ⟨M5, eM5⟩ : ∃ m : Mem, m = (mset M3 66 1 0) := ⟨_, rfl⟩
    rw [← eM5] at hG4 ⊢
    replace H := H M5 eM5
    refine T_aload_n (i := 0) (pc' := 30) dX12_ask_29 rfl rfl rfl ?_
    refine T_iconst (pc' := 31) dX12_ask_30 (by decide) rfl ?_
    refine U_pf (y := 0) (k := 2) (kI := 2) (pc' := 34) dX12_ask_31 rfl cl12 (by decide) rfl (by decide) flX12_207 rfl rfl rfl rfl rfl (by decide) (fun z => z) rfl ?_
    have hG6 := (G_fld (x := 66) (i := 2) (y := 0) rfl (by decide) (by decide) (by decide) hG4)
    obtain ⟨M7, eM7⟩ : ∃ m : Mem, m = (mset M5 66 2 0) := ⟨_, rfl⟩
    rw [← eM7] at hG6 ⊢
    replace H := H M7 eM7
    refine T_aload_n (i := 0) (pc' := 35) dX12_ask_34 rfl rfl rfl ?_
    refine T_iconst (pc' := 36) dX12_ask_35 (by decide) rfl ?_
    refine U_pf (y := (-1)) (k := 4) (kI := 4) (pc' := 39) dX12_ask_36 rfl cl12 (by decide) rfl (by decide) flX12_221 rfl rfl rfl rfl rfl (by decide) (fun z => z) rfl ?_
    have hG8 := (G_fld (x := 66) (i := 4) (y := (-1)) rfl (by decide) (by decide) (by decide) hG6)
    obtain ⟨M9, eM9⟩ : ∃ m : Mem, m = (mset M7 66 4 (-1)) := ⟨_, rfl⟩
    rw [← eM9] at hG8 ⊢
    replace H := H M9 eM9
    refine T_aload_n (i := 0) (pc' := 40) dX12_ask_39 rfl rfl rfl ?_
    refine T_iconst (pc' := 41) dX12_ask_40 (by decide) rfl ?_
    refine U_pf (y := 0) (k := 5) (kI := 5) (pc' := 44) dX12_ask_41 rfl cl12 (by decide) rfl (by decide) flX12_201 rfl rfl rfl rfl rfl (by decide) (fun z => z) rfl ?_
    have hG10 := (G_fld (x := 66) (i := 5) (y := 0) rfl (by decide) (by decide) (by decide) hG8)
    obtain ⟨M11, eM11⟩ : ∃ m : Mem, m = (mset M9 66 5 0) := ⟨_, rfl⟩
    rw [← eM11] at hG10 ⊢
    replace H := H M11 eM11
    refine T_aload_n (i := 0) (pc' := 45) dX12_ask_44 rfl rfl rfl ?_
    refine T_iconst (pc' := 46) dX12_ask_45 (by decide) rfl ?_
    refine U_pf (y := (-1)) (k := 6) (kI := 6) (pc' := 49) dX12_ask_46 rfl cl12 (by decide) rfl (by decide) flX12_204 rfl rfl rfl rfl rfl (by decide) (fun z => z) rfl ?_
    have hG12 := (G_fld (x := 66) (i := 6) (y := (-1)) rfl (by decide) (by decide) (by decide) hG10)
    obtain ⟨M13, eM13⟩ : ∃ m : Mem, m = (mset M11 66 6 (-1)) := ⟨_, rfl⟩
    rw [← eM13] at hG12 ⊢
    replace H := H M13 eM13
    refine T_aload_n (i := 0) (pc' := 50) dX12_ask_49 rfl rfl rfl ?_
    refine T_iconst (pc' := 51) dX12_ask_50 (by decide) rfl ?_
    refine U_pf (y := 0) (k := 79) (kI := 79) (pc' := 54) dX12_ask_51 rfl cl12 (by decide) rfl (by decide) flX12_517 rfl rfl rfl rfl rfl (by decide) (fun z => z) rfl ?_
    have hG14 := (G_fld (x := 66) (i := 79) (y := 0) rfl (by decide) (by decide) (by decide) hG12)
    obtain ⟨M15, eM15⟩ : ∃ m : Mem, m = (mset M13 66 79 0) := ⟨_, rfl⟩
    rw [← eM15] at hG14 ⊢
    replace H := H M15 eM15
    refine T_aload_n (i := 0) (pc' := 55) dX12_ask_54 rfl rfl rfl ?_
    refine T_iconst (pc' := 56) dX12_ask_55 (by decide) rfl ?_
    refine U_pf (y := 0) (k := 81) (kI := 81) (pc' := 59) dX12_ask_56 rfl cl12 (by decide) rfl (by decide) flX12_523 rfl rfl rfl rfl rfl (by decide) (fun z => z) rfl ?_
    have hG16 := (G_fld (x := 66) (i := 81) (y := 0) rfl (by decide) (by decide) (by decide) hG14)
    obtain ⟨M17, eM17⟩ : ∃ m : Mem, m = (mset M15 66 81 0) := ⟨_, rfl⟩
    rw [← eM17] at hG16 ⊢
    replace H := H M17 eM17
    refine T_aload_n (i := 0) (pc' := 60) dX12_ask_59 rfl rfl rfl ?_
    refine T_iconst (pc' := 61) dX12_ask_60 (by decide) rfl ?_
    refine U_pf (y := 0) (k := 82) (kI := 82) (pc' := 64) dX12_ask_61 rfl cl12 (by decide) rfl (by decide) flX12_520 rfl rfl rfl rfl rfl (by decide) (fun z => z) rfl ?_
    have hG18 := (G_fld (x := 66) (i := 82) (y := 0) rfl (by decide) (by decide) (by decide) hG16)
    obtain ⟨M19, eM19⟩ : ∃ m : Mem, m = (mset M17 66 82 0) := ⟨_, rfl⟩
    rw [← eM19] at hG18 ⊢
    replace H := H M19 eM19
    refine T_aload_n (i := 0) (pc' := 65) dX12_ask_64 rfl rfl rfl ?_
    refine T_iconst (pc' := 66) dX12_ask_65 (by decide) rfl ?_
    refine U_pf (y := 0) (k := 83) (kI := 83) (pc' := 69) dX12_ask_66 rfl cl12 (by decide) rfl (by decide) flX12_529 rfl rfl rfl rfl rfl (by decide) (fun z => z) rfl ?_
    have hG20 := (G_fld (x := 66) (i := 83) (y := 0) rfl (by decide) (by decide) (by decide) hG18)
    obtain ⟨M21, eM21⟩ : ∃ m : Mem, m = (mset M19 66 83 0) := ⟨_, rfl⟩
    rw [← eM21] at hG20 ⊢
    replace H := H M21 eM21
    refine T_aload_n (i := 0) (pc' := 70) dX12_ask_69 rfl rfl rfl ?_
    refine T_callV (av := []) (st := []) (d2 := 5) (nc2 := 0) (ns2 := 0) (pc' := 73) dX12_ask_70 rfl mtX12_qKind mvX12_qKind mlX12_631 cl12 rfl rfl rfl (Nat.le_of_ble_eq_true rfl) (by decide) ⟨by decide, by decide⟩ rfl (pX12_qKind (E := E) (h := h) (M := M21) H hG20) ?_
    rintro _ _ M23 ⟨rfl, hG24, a22, rfl, H⟩ _
    refine T_istore_n (i := 1) (L' := [(2, 66), (0, a22), (3, 0)]) (pc' := 74) dX12_ask_73 rfl (by decide) rfl rfl ?_
    refine T_aload_n (i := 0) (pc' := 75) dX12_ask_74 rfl rfl rfl ?_
    refine U_gf (v := (0, (M23 66 5))) (k := 5) (kI := 5) (pc' := 78) dX12_ask_75 rfl cl12 (by decide) rfl (by decide) flX12_201 rfl rfl (by decide) rfl rfl ?_
    obtain ⟨j25, hj25, H⟩ := H
    have qj25 : ∀ (M26 : Mem), j25 M26 → G h M26 → TG E miX12_ask 10 h (RI 1 Q) 104 [(2, 66), (0, a22), (3, 0)] [] M26 := by
      intro M26 H hG27
      replace H := hj25 _ H
      refine T_aload_n (i := 0) (pc' := 105) dX12_ask_104 rfl rfl rfl ?_
      refine U_gf (v := (0, (M26 66 5))) (k := 5) (kI := 5) (pc' := 108) dX12_ask_105 rfl cl12 (by decide) rfl (by decide) flX12_201 rfl rfl (by decide) rfl rfl ?_
      obtain ⟨j28, hj28, H⟩ := H
      have qj28 : ∀ (M29 : Mem), j28 M29 → G h M29 → TG E miX12_ask 10 h (RI 1 Q) 128 [(2, 66), (0, a22), (3, 0)] [] M29 := by
        intro M29 H hG30
        replace H := hj28 _ H
        refine T_aload_n (i := 0) (pc' := 129) dX12_ask_128 rfl rfl rfl ?_
        refine T_aload_n (i := 0) (pc' := 130) dX12_ask_129 rfl rfl rfl ?_
        refine U_gf (v := (0, (M29 66 5))) (k := 5) (kI := 5) (pc' := 133) dX12_ask_130 rfl cl12 (by decide) rfl (by decide) flX12_201 rfl rfl (by decide) rfl rfl ?_
        refine U_pf (y := (M29 66 5)) (k := 7) (kI := 7) (pc' := 136) dX12_ask_133 rfl cl12 (by decide) rfl (by decide) flX12_328 rfl rfl rfl rfl rfl (by decide) (fun z => z) rfl ?_
        have hG31 := (G_fld (x := 66) (i := 7) (y := (M29 66 5)) rfl (by decide) (by decide) (by decide) hG30)
        obtain ⟨M32, eM32⟩ : ∃ m : Mem, m = (mset M29 66 7 (M29 66 5)) := ⟨_, rfl⟩
        rw [← eM32] at hG31 ⊢
        replace H := H M32 eM32
        refine T_aload_n (i := 0) (pc' := 137) dX12_ask_136 rfl rfl rfl ?_
        refine T_aload_n (i := 0) (pc' := 138) dX12_ask_137 rfl rfl rfl ?_
        refine U_gf (v := (0, (M32 66 6))) (k := 6) (kI := 6) (pc' := 141) dX12_ask_138 rfl cl12 (by decide) rfl (by decide) flX12_204 rfl rfl (by decide) rfl rfl ?_
        refine U_pf (y := (M32 66 6)) (k := 8) (kI := 8) (pc' := 144) dX12_ask_141 rfl cl12 (by decide) rfl (by decide) flX12_13 rfl rfl rfl rfl rfl (by decide) (fun z => z) rfl ?_
        have hG33 := (G_fld (x := 66) (i := 8) (y := (M32 66 6)) rfl (by decide) (by decide) (by decide) hG31)
        obtain ⟨M34, eM34⟩ : ∃ m : Mem, m = (mset M32 66 8 (M32 66 6)) := ⟨_, rfl⟩
        rw [← eM34] at hG33 ⊢
        replace H := H M34 eM34
        refine T_aload_n (i := 0) (pc' := 145) dX12_ask_144 rfl rfl rfl ?_
        refine U_gf (v := (0, (M34 66 5))) (k := 5) (kI := 5) (pc' := 148) dX12_ask_145 rfl cl12 (by decide) rfl (by decide) flX12_201 rfl rfl (by decide) rfl rfl ?_
        refine T_if_eq (pc' := 155) dX12_ask_148 (by decide) (pf := 151) rfl (fun c35 => ?_) (fun c35 => ?_)
        · skip
          replace H := H.1 c35
          refine T_aload_n (i := 0) (pc' := 156) dX12_ask_155 rfl rfl rfl ?_
          refine T_iload_n (i := 1) (pc' := 157) dX12_ask_156 rfl rfl rfl ?_
          refine T_iconst (pc' := 158) dX12_ask_157 (by decide) rfl ?_
          have HJ36 : T E miX12_ask 10 126 0 0 (fun r S M' => S = S0 ∧ G h M' ∧ RI 1 Q r M') 168 [(2, 66), (0, a22), (3, 0)] [(1, (if 2 ≤ a22 then (0 : Int) else (-1))), (2, 66)] S0 M34 0 0 := by
            refine U_pf (y := (if 2 ≤ a22 then (0 : Int) else (-1))) (k := 86) (kI := 86) (pc' := 171) dX12_ask_168 rfl cl12 (by decide) rfl (by decide) flX12_621 rfl rfl rfl rfl rfl (by decide) (fun z => z) rfl ?_
            have hG37 := (G_fld (x := 66) (i := 86) (y := (if 2 ≤ a22 then (0 : Int) else (-1))) rfl (by decide) (by decide) (by decide) hG33)
            obtain ⟨M38, eM38⟩ : ∃ m : Mem, m = (mset M34 66 86 (if 2 ≤ a22 then (0 : Int) else (-1))) := ⟨_, rfl⟩
            rw [← eM38] at hG37 ⊢
            replace H := H M38 eM38
            refine T_aload_n (i := 0) (pc' := 172) dX12_ask_171 rfl rfl rfl ?_
            refine T_iconst (pc' := 173) dX12_ask_172 (by decide) rfl ?_
            refine U_pf (y := 1) (k := 87) (kI := 87) (pc' := 176) dX12_ask_173 rfl cl12 (by decide) rfl (by decide) flX12_626 rfl rfl rfl rfl rfl (by decide) (fun _ => bool_ok (by decide)) rfl ?_
            have hG39 := (G_fld (x := 66) (i := 87) (y := 1) rfl (by decide) (by decide) (by decide) hG37)
            obtain ⟨M40, eM40⟩ : ∃ m : Mem, m = (mset M38 66 87 1) := ⟨_, rfl⟩
            rw [← eM40] at hG39 ⊢
            replace H := H M40 eM40
            refine T_aload_n (i := 0) (pc' := 177) dX12_ask_176 rfl rfl rfl ?_
            refine T_callV (av := []) (st := []) (d2 := 6) (nc2 := 0) (ns2 := 0) (pc' := 180) dX12_ask_177 rfl mtX12_plays mvX12_plays mlX12_441 cl12 rfl rfl rfl (Nat.le_of_ble_eq_true rfl) (by decide) ⟨by decide, by decide⟩ rfl (pX12_plays (E := E) (h := h) (M := M40) H hG39) ?_
            rintro _ _ M42 ⟨rfl, hG43, rfl, H⟩ _
            refine T_iconst (pc' := 181) dX12_ask_180 (by decide) rfl ?_
            refine T_istore_n (i := 2) (L' := [(2, 66), (0, a22), (0, 0)]) (pc' := 182) dX12_ask_181 rfl (by decide) rfl rfl ?_
            obtain ⟨k44, H⟩ := H
            refine T_wk (L' := [(2, 66), (0, a22), (0, 0)]) (qX12_ask_182 (v1 := a22) (fun M45 H hG46 => ?_) _ _ _ H hG43) ⟨Or.inr rfl, Or.inr rfl, Or.inr rfl, trivial⟩
            refine T_aload_n (i := 0) (pc' := 207) dX12_ask_206 rfl rfl rfl ?_
            refine U_gf (v := (1, (M45 66 86))) (k := 86) (kI := 86) (pc' := 210) dX12_ask_207 rfl cl12 (by decide) rfl (by decide) flX12_621 rfl rfl (by decide) rfl rfl ?_
            exact T_lret dX12_ask_210 rfl ⟨rfl, hG46, _, rfl, H⟩
          refine T_icmp_ge (pc' := 167) dX12_ask_158 (by decide) (pf := 161) rfl (fun c47 => ?_) (fun c47 => ?_)
          · skip
            refine T_lconst (v := 0) (pc' := 168) dX12_ask_167 rfl (by decide) rfl ?_
            exact T_wk (L' := [(2, 66), (0, a22), (3, 0)]) (by have q := HJ36; try simp only [if_pos c47] at q ⊢; exact q) ⟨Or.inr rfl, Or.inr rfl, Or.inl rfl, trivial⟩
          · skip
            refine T_ldc2 (n := (-1)) (pc' := 164) dX12_ask_161 rfl kjX12_624 rfl (by decide) rfl ?_
            refine T_goto (pc' := 168) dX12_ask_164 (by decide) ?_
            exact T_wk (L' := [(2, 66), (0, a22), (3, 0)]) (by have q := HJ36; try simp only [if_neg c47] at q ⊢; exact q) ⟨Or.inr rfl, Or.inr rfl, Or.inl rfl, trivial⟩
        · skip
          replace H := H.2 c35
          refine T_ldc2 (n := (-1000000000000000)) (pc' := 154) dX12_ask_151 rfl kjX12_629 rfl (by decide) rfl ?_
          exact T_lret dX12_ask_154 rfl ⟨rfl, hG33, _, rfl, H⟩
      refine T_if_ne (pc' := 128) dX12_ask_108 (by decide) (pf := 111) rfl (fun c48 => ?_) (fun c48 => ?_)
      · skip
        replace H := H.2 c48
        exact T_wk (L' := [(2, 66), (0, a22), (3, 0)]) (qj28 _ H hG27) ⟨Or.inr rfl, Or.inr rfl, Or.inl rfl, trivial⟩
      · skip
        replace H := H.1 c48
        refine T_aload_n (i := 0) (pc' := 112) dX12_ask_111 rfl rfl rfl ?_
        refine T_callV (av := []) (st := []) (d2 := 1) (nc2 := 0) (ns2 := 0) (pc' := 115) dX12_ask_112 rfl mtX12_look mvX12_look mlX12_213 cl12 rfl rfl rfl (Nat.le_of_ble_eq_true rfl) (by decide) ⟨by decide, by decide⟩ rfl (pX12_look (E := E) (h := h) (M := M26) H hG27) ?_
        rintro _ _ M50 ⟨rfl, hG51, a49, rfl, H⟩ _
        refine T_iconst (pc' := 116) dX12_ask_115 (by decide) rfl ?_
        refine T_icmp_eq (pc' := 128) dX12_ask_116 (by decide) (pf := 119) rfl (fun c52 => ?_) (fun c52 => ?_)
        · skip
          replace H := H.1 c52
          exact T_wk (L' := [(2, 66), (0, a22), (3, 0)]) (qj28 _ H hG51) ⟨Or.inr rfl, Or.inr rfl, Or.inl rfl, trivial⟩
        · skip
          replace H := H.2 c52
          refine T_aload_n (i := 0) (pc' := 120) dX12_ask_119 rfl rfl rfl ?_
          refine T_iconst (pc' := 121) dX12_ask_120 (by decide) rfl ?_
          refine T_aload_n (i := 0) (pc' := 122) dX12_ask_121 rfl rfl rfl ?_
          refine U_gf (v := (0, (M50 66 2))) (k := 2) (kI := 2) (pc' := 125) dX12_ask_122 rfl cl12 (by decide) rfl (by decide) flX12_207 rfl rfl (by decide) rfl rfl ?_
          refine T_callV (av := [(0, 1), (0, (M50 66 2))]) (st := []) (d2 := 1) (nc2 := 0) (ns2 := 0) (pc' := 128) dX12_ask_125 rfl mtX12_fail mvX12_fail mlX12_231 cl12 rfl rfl rfl (Nat.le_of_ble_eq_true rfl) (by decide) ⟨by decide, by decide⟩ rfl (pX12_fail (E := E) (h := h) (M := M50) (v1 := 1) (v2 := (M50 66 2)) hG51) (kF (st2 := []) rfl (fun hG53 => ?_))
          obtain ⟨M54, eM54⟩ : ∃ m : Mem, m = (fmX12_fail M50 1 (M50 66 2)) := ⟨_, rfl⟩
          rw [← eM54] at hG53 ⊢
          replace H := H M54 eM54
          exact T_wk (L' := [(2, 66), (0, a22), (3, 0)]) (qj28 _ H hG53) ⟨Or.inr rfl, Or.inr rfl, Or.inl rfl, trivial⟩
    refine T_if_ne (pc' := 93) dX12_ask_78 (by decide) (pf := 81) rfl (fun c55 => ?_) (fun c55 => ?_)
    · skip
      replace H := H.2 c55
      refine T_aload_n (i := 0) (pc' := 94) dX12_ask_93 rfl rfl rfl ?_
      refine U_gf (v := (0, (M23 66 5))) (k := 5) (kI := 5) (pc' := 97) dX12_ask_94 rfl cl12 (by decide) rfl (by decide) flX12_201 rfl rfl (by decide) rfl rfl ?_
      refine T_if_ne (pc' := 104) dX12_ask_97 (by decide) (pf := 100) rfl (fun c56 => ?_) (fun c56 => ?_)
      · skip
        replace H := H.2 c56
        exact T_wk (L' := [(2, 66), (0, a22), (3, 0)]) (qj25 _ H hG24) ⟨Or.inr rfl, Or.inr rfl, Or.inl rfl, trivial⟩
      · skip
        replace H := H.1 c56
        refine T_aload_n (i := 0) (pc' := 101) dX12_ask_100 rfl rfl rfl ?_
        refine T_callV (av := []) (st := []) (d2 := 7) (nc2 := 0) (ns2 := 0) (pc' := 104) dX12_ask_101 rfl mtX12_qSums mvX12_qSums mlX12_568 cl12 rfl rfl rfl (Nat.le_of_ble_eq_true rfl) (by decide) ⟨by decide, by decide⟩ rfl (pX12_qSums (E := E) (h := h) (M := M23) H hG24) ?_
        rintro _ _ M58 ⟨rfl, hG59, rfl, H⟩ _
        exact T_wk (L' := [(2, 66), (0, a22), (3, 0)]) (qj25 _ H hG59) ⟨Or.inr rfl, Or.inr rfl, Or.inl rfl, trivial⟩
    · skip
      replace H := H.1 c55
      refine T_iload_n (i := 1) (pc' := 82) dX12_ask_81 rfl rfl rfl ?_
      refine T_iconst (pc' := 83) dX12_ask_82 (by decide) rfl ?_
      refine T_icmp_ge (pc' := 93) dX12_ask_83 (by decide) (pf := 86) rfl (fun c60 => ?_) (fun c60 => ?_)
      · skip
        replace H := H.1 c60
        refine T_aload_n (i := 0) (pc' := 94) dX12_ask_93 rfl rfl rfl ?_
        refine U_gf (v := (0, (M23 66 5))) (k := 5) (kI := 5) (pc' := 97) dX12_ask_94 rfl cl12 (by decide) rfl (by decide) flX12_201 rfl rfl (by decide) rfl rfl ?_
        refine T_if_ne (pc' := 104) dX12_ask_97 (by decide) (pf := 100) rfl (fun c61 => ?_) (fun c61 => ?_)
        · skip
          replace H := H.2 c61
          exact T_wk (L' := [(2, 66), (0, a22), (3, 0)]) (qj25 _ H hG24) ⟨Or.inr rfl, Or.inr rfl, Or.inl rfl, trivial⟩
        · skip
          replace H := H.1 c61
          refine T_aload_n (i := 0) (pc' := 101) dX12_ask_100 rfl rfl rfl ?_
          refine T_callV (av := []) (st := []) (d2 := 7) (nc2 := 0) (ns2 := 0) (pc' := 104) dX12_ask_101 rfl mtX12_qSums mvX12_qSums mlX12_568 cl12 rfl rfl rfl (Nat.le_of_ble_eq_true rfl) (by decide) ⟨by decide, by decide⟩ rfl (pX12_qSums (E := E) (h := h) (M := M23) H hG24) ?_
          rintro _ _ M63 ⟨rfl, hG64, rfl, H⟩ _
          exact T_wk (L' := [(2, 66), (0, a22), (3, 0)]) (qj25 _ H hG64) ⟨Or.inr rfl, Or.inr rfl, Or.inl rfl, trivial⟩
      · skip
        replace H := H.2 c60
        refine T_aload_n (i := 0) (pc' := 87) dX12_ask_86 rfl rfl rfl ?_
        refine T_callV (av := []) (st := []) (d2 := 9) (nc2 := 0) (ns2 := 0) (pc' := 90) dX12_ask_87 rfl mtX12_qTest mvX12_qTest mlX12_634 cl12 rfl rfl rfl (Nat.le_of_ble_eq_true rfl) (by decide) ⟨by decide, by decide⟩ rfl (pX12_qTest (E := E) (h := h) (M := M23) H hG24) ?_
        rintro _ _ M66 ⟨rfl, hG67, rfl, H⟩ _
        refine T_goto (pc' := 104) dX12_ask_90 (by decide) ?_
        exact T_wk (L' := [(2, 66), (0, a22), (3, 0)]) (qj25 _ H hG67) ⟨Or.inr rfl, Or.inr rfl, Or.inl rfl, trivial⟩
  · skip
    replace H := H.1 c1
    refine T_aload_n (i := 0) (pc' := 8) dX12_ask_7 rfl rfl rfl ?_
    refine T_iconst (pc' := 9) dX12_ask_8 (by decide) rfl ?_
    refine U_pf (y := 0) (k := 1) (kI := 1) (pc' := 12) dX12_ask_9 rfl cl12 (by decide) rfl (by decide) flX12_198 rfl rfl rfl rfl rfl (by decide) (fun z => z) rfl ?_
    have hG68 := (G_fld (x := 66) (i := 1) (y := 0) rfl (by decide) (by decide) (by decide) hG)
    obtain ⟨M69, eM69⟩ : ∃ m : Mem, m = (mset M 66 1 0) := ⟨_, rfl⟩
    rw [← eM69] at hG68 ⊢
    replace H := H M69 eM69
    refine T_ldc2 (n := (-1000000000000000)) (pc' := 15) dX12_ask_12 rfl kjX12_629 rfl (by decide) rfl ?_
    exact T_lret dX12_ask_15 rfl ⟨rfl, hG68, _, rfl, H⟩
