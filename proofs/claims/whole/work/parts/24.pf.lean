/-! methods as propositions, 6 -/
def PX11_spark (h : Int) (v1 : Int) (M : Mem) (Q : Int → Mem → Prop) : Prop :=
  (((fX11_hasWatch M h v1) = 0 → Q (-1) M) ∧ (¬ ((fX11_hasWatch M h v1) = 0) → PX11_freshWalks h M (fun _ M4 => PX10_sparked h (M4 0 12) v1 M4 (fun a6 M7 => Q a6 M7))))
set_option maxRecDepth 100000 in
set_option maxHeartbeats 2000000 in
theorem pX11_spark {E : EV} {h : Int} {M : Mem} {v1 : Int}  {Q : Int → Mem → Prop} (H : PX11_spark h v1 M Q) : C2 E miX11_spark 7 h [(2, 0), (0, v1)] M (RI 0 Q) := by
  refine C2_of (L := [(2, 0), (0, v1)]) (by decide +kernel) (Nat.le_of_ble_eq_true rfl) rfl (fun hG => ?_)
  have hh := hG.2.2.2
  refine T_aload_n (i := 0) (pc' := 1) dX11_spark_0 rfl rfl rfl ?_
  refine T_iload_n (i := 1) (pc' := 2) dX11_spark_1 rfl rfl rfl ?_
  refine T_callV (av := [(0, v1)]) (st := []) (d2 := 3) (nc2 := 0) (ns2 := 0) (pc' := 5) dX11_spark_2 rfl mtX11_hasWatch mvX11_hasWatch mlX11_334 cl11 rfl rfl rfl (Nat.le_of_ble_eq_true rfl) (by decide) ⟨by decide, by decide⟩ rfl (pX11_hasWatch (E := E) (h := h) (M := M) (v1 := v1) hG) (kF (st2 := [(0, (fX11_hasWatch M h v1))]) rfl (fun hG1 => ?_))
  refine T_if_ne (pc' := 10) dX11_spark_5 (by decide) (pf := 8) rfl (fun c2 => ?_) (fun c2 => ?_)
  · skip
    replace H := H.2 c2
    refine T_aload_n (i := 0) (pc' := 11) dX11_spark_10 rfl rfl rfl ?_
    refine T_callV (av := []) (st := []) (d2 := 6) (nc2 := 0) (ns2 := 0) (pc' := 14) dX11_spark_11 rfl mtX11_freshWalks mvX11_freshWalks mlX11_327 cl11 rfl rfl rfl (Nat.le_of_ble_eq_true rfl) (by decide) ⟨by decide, by decide⟩ rfl (pX11_freshWalks (E := E) (h := h) (M := M) H hG) ?_
    rintro _ _ M4 ⟨rfl, hG5, rfl, H⟩ _
    refine T_aload_n (i := 0) (pc' := 15) dX11_spark_14 rfl rfl rfl ?_
    refine U_gr (q := 25) (k := 6) (kI := 6) (pc' := 18) dX11_spark_15 rfl cl11 (by decide) rfl (by decide) flX11_60 rfl rfl rfl (G_at hG5 6 rfl) (by decide) rfl ?_
    refine T_aload_n (i := 0) (pc' := 19) dX11_spark_18 rfl rfl rfl ?_
    refine U_gr (q := h) (k := 10) (kI := 10) (pc' := 22) dX11_spark_19 rfl cl11 (by decide) rfl (by decide) flX11_82 rfl rfl rfl hG5.2.1 (pog0 hh) rfl ?_
    refine T_aload_n (i := 0) (pc' := 23) dX11_spark_22 rfl rfl rfl ?_
    refine U_gf (v := (0, (M4 0 12))) (k := 12) (kI := 12) (pc' := 26) dX11_spark_23 rfl cl11 (by decide) rfl (by decide) flX11_89 rfl rfl (by decide) rfl rfl ?_
    refine T_iload_n (i := 1) (pc' := 27) dX11_spark_26 rfl rfl rfl ?_
    refine T_callV (av := [(2, h), (0, (M4 0 12)), (0, v1)]) (st := []) (d2 := 6) (nc2 := 0) (ns2 := 0) (pc' := 30) dX11_spark_27 rfl mtX10_sparked mvX10_sparked mlX11_337 cl10 rfl rfl rfl (Nat.le_of_ble_eq_true rfl) (by decide) ⟨by decide, by decide⟩ rfl (pX10_sparked (E := E) (h := h) (M := M4) (g := h) (v2 := (M4 0 12)) (v3 := v1) hh H hG5) ?_
    rintro _ _ M7 ⟨rfl, hG8, a6, rfl, H⟩ _
    exact T_iret dX11_spark_30 rfl ⟨rfl, hG8, _, rfl, H⟩
  · skip
    replace H := H.1 c2
    refine T_iconst (pc' := 9) dX11_spark_8 (by decide) rfl ?_
    exact T_iret dX11_spark_9 rfl ⟨rfl, hG, _, rfl, H⟩
def PX11_daring (h : Int) (v1 : Int) (M : Mem) (Q : Int → Mem → Prop) : Prop :=
  ((v1 < 0 → Q (-1) M) ∧ (¬ (v1 < 0) → ((v1 ≤ 1 → PX11_freshWalks h M (fun _ M4 => PX10_fewestDaring h (M4 0 12) M4 (fun a6 M7 => Q (if v1 = 0 then (if a6 = (-1) then a6 else (fJ6_bitCount_0f7a4 a6)) else a6) M7))) ∧ (¬ (v1 ≤ 1) → Q (-1) M))))
set_option maxRecDepth 100000 in
set_option maxHeartbeats 2000000 in
theorem pX11_daring {E : EV} {h : Int} {M : Mem} {v1 : Int}  {Q : Int → Mem → Prop} (H : PX11_daring h v1 M Q) : C2 E miX11_daring 7 h [(2, 0), (0, v1)] M (RI 0 Q) := by
  refine C2_of (L := [(2, 0), (0, v1), (3, 0)]) (by decide +kernel) (Nat.le_of_ble_eq_true rfl) rfl (fun hG => ?_)
  have hh := hG.2.2.2
  refine T_iload_n (i := 1) (pc' := 1) dX11_daring_0 rfl rfl rfl ?_
  refine T_if_lt (pc' := 9) dX11_daring_1 (by decide) (pf := 4) rfl (fun c1 => ?_) (fun c1 => ?_)
  · skip
    replace H := H.1 c1
    refine T_iconst (pc' := 10) dX11_daring_9 (by decide) rfl ?_
    exact T_iret dX11_daring_10 rfl ⟨rfl, hG, _, rfl, H⟩
  · skip
    replace H := H.2 c1
    refine T_iload_n (i := 1) (pc' := 5) dX11_daring_4 rfl rfl rfl ?_
    refine T_iconst (pc' := 6) dX11_daring_5 (by decide) rfl ?_
    refine T_icmp_le (pc' := 11) dX11_daring_6 (by decide) (pf := 9) rfl (fun c2 => ?_) (fun c2 => ?_)
    · skip
      replace H := H.1 c2
      refine T_aload_n (i := 0) (pc' := 12) dX11_daring_11 rfl rfl rfl ?_
      refine T_callV (av := []) (st := []) (d2 := 6) (nc2 := 0) (ns2 := 0) (pc' := 15) dX11_daring_12 rfl mtX11_freshWalks mvX11_freshWalks mlX11_327 cl11 rfl rfl rfl (Nat.le_of_ble_eq_true rfl) (by decide) ⟨by decide, by decide⟩ rfl (pX11_freshWalks (E := E) (h := h) (M := M) H hG) ?_
      rintro _ _ M4 ⟨rfl, hG5, rfl, H⟩ _
      refine T_aload_n (i := 0) (pc' := 16) dX11_daring_15 rfl rfl rfl ?_
      refine U_gr (q := 25) (k := 6) (kI := 6) (pc' := 19) dX11_daring_16 rfl cl11 (by decide) rfl (by decide) flX11_60 rfl rfl rfl (G_at hG5 6 rfl) (by decide) rfl ?_
      refine T_aload_n (i := 0) (pc' := 20) dX11_daring_19 rfl rfl rfl ?_
      refine U_gr (q := h) (k := 10) (kI := 10) (pc' := 23) dX11_daring_20 rfl cl11 (by decide) rfl (by decide) flX11_82 rfl rfl rfl hG5.2.1 (pog0 hh) rfl ?_
      refine T_aload_n (i := 0) (pc' := 24) dX11_daring_23 rfl rfl rfl ?_
      refine U_gf (v := (0, (M4 0 12))) (k := 12) (kI := 12) (pc' := 27) dX11_daring_24 rfl cl11 (by decide) rfl (by decide) flX11_89 rfl rfl (by decide) rfl rfl ?_
      refine T_callV (av := [(2, h), (0, (M4 0 12))]) (st := []) (d2 := 6) (nc2 := 0) (ns2 := 0) (pc' := 30) dX11_daring_27 rfl mtX10_fewestDaring mvX10_fewestDaring mlX11_341 cl10 rfl rfl rfl (Nat.le_of_ble_eq_true rfl) (by decide) ⟨by decide, by decide⟩ rfl (pX10_fewestDaring (E := E) (h := h) (M := M4) (g := h) (v2 := (M4 0 12)) hh H hG5) ?_
      rintro _ _ M7 ⟨rfl, hG8, a6, rfl, H⟩ _
      refine T_istore_n (i := 2) (L' := [(2, 0), (0, v1), (0, a6)]) (pc' := 31) dX11_daring_30 rfl (by decide) rfl rfl ?_
      refine T_iload_n (i := 1) (pc' := 32) dX11_daring_31 rfl rfl rfl ?_
      have HJ9 : T E miX11_daring 7 126 0 0 (fun r S M' => S = S0 ∧ G h M' ∧ RI 0 Q r M') 48 [(3, 0), (3, 0), (3, 0)] [(0, (if v1 = 0 then (if a6 = (-1) then a6 else (fJ6_bitCount_0f7a4 a6)) else a6))] S0 M7 0 0 := by
        exact T_iret dX11_daring_48 rfl ⟨rfl, hG8, _, rfl, H⟩
      refine T_if_ne (pc' := 47) dX11_daring_32 (by decide) (pf := 35) rfl (fun c10 => ?_) (fun c10 => ?_)
      · skip
        refine T_iload_n (i := 2) (pc' := 48) dX11_daring_47 rfl rfl rfl ?_
        exact T_wk (L' := [(3, 0), (3, 0), (3, 0)]) (by have q := HJ9; try simp only [if_neg c10] at q ⊢; exact q) ⟨Or.inl rfl, Or.inl rfl, Or.inl rfl, trivial⟩
      · skip
        refine T_iload_n (i := 2) (pc' := 36) dX11_daring_35 rfl rfl rfl ?_
        refine T_iconst (pc' := 37) dX11_daring_36 (by decide) rfl ?_
        refine T_icmp_eq (pc' := 47) dX11_daring_37 (by decide) (pf := 40) rfl (fun c11 => ?_) (fun c11 => ?_)
        · skip
          refine T_iload_n (i := 2) (pc' := 48) dX11_daring_47 rfl rfl rfl ?_
          exact T_wk (L' := [(3, 0), (3, 0), (3, 0)]) (by have q := HJ9; try simp only [if_pos c10] at q ⊢; try simp only [if_pos c11] at q ⊢; exact q) ⟨Or.inl rfl, Or.inl rfl, Or.inl rfl, trivial⟩
        · skip
          refine T_iload_n (i := 2) (pc' := 41) dX11_daring_40 rfl rfl rfl ?_
          refine T_callS (av := [(0, a6)]) (st := []) (d2 := 1) (nc2 := 0) (ns2 := 0) (pc' := 44) dX11_daring_41 rfl mtJ6_bitCount_0f7a4 mvJ6_bitCount_0f7a4 mlX11_345 rfl rfl (Nat.le_of_ble_eq_true rfl) (by decide) ⟨by decide, by decide⟩ rfl (pJ6_bitCount_0f7a4 (E := E) (h := h) (M := M7) (v0 := a6) hG8) (kF (st2 := [(0, (fJ6_bitCount_0f7a4 a6))]) rfl (fun hG12 => ?_))
          refine T_goto (pc' := 48) dX11_daring_44 (by decide) ?_
          exact T_wk (L' := [(3, 0), (3, 0), (3, 0)]) (by have q := HJ9; try simp only [if_pos c10] at q ⊢; try simp only [if_neg c11] at q ⊢; exact q) ⟨Or.inl rfl, Or.inl rfl, Or.inl rfl, trivial⟩
    · skip
      replace H := H.2 c2
      refine T_iconst (pc' := 10) dX11_daring_9 (by decide) rfl ?_
      exact T_iret dX11_daring_10 rfl ⟨rfl, hG, _, rfl, H⟩
def PX11_late (h : Int) (v1 : Int) (M : Mem) (Q : Int → Mem → Prop) : Prop :=
  (((fX11_hasWatch M h v1) = 0 → Q (-1) M) ∧ (¬ ((fX11_hasWatch M h v1) = 0) → PX11_freshWalks h M (fun _ M4 => PX10_latest h (M4 0 12) v1 M4 (fun a6 M7 => Q a6 M7))))
set_option maxRecDepth 100000 in
set_option maxHeartbeats 2000000 in
theorem pX11_late {E : EV} {h : Int} {M : Mem} {v1 : Int}  {Q : Int → Mem → Prop} (H : PX11_late h v1 M Q) : C2 E miX11_late 7 h [(2, 0), (0, v1)] M (RI 0 Q) := by
  refine C2_of (L := [(2, 0), (0, v1)]) (by decide +kernel) (Nat.le_of_ble_eq_true rfl) rfl (fun hG => ?_)
  have hh := hG.2.2.2
  refine T_aload_n (i := 0) (pc' := 1) dX11_late_0 rfl rfl rfl ?_
  refine T_iload_n (i := 1) (pc' := 2) dX11_late_1 rfl rfl rfl ?_
  refine T_callV (av := [(0, v1)]) (st := []) (d2 := 3) (nc2 := 0) (ns2 := 0) (pc' := 5) dX11_late_2 rfl mtX11_hasWatch mvX11_hasWatch mlX11_334 cl11 rfl rfl rfl (Nat.le_of_ble_eq_true rfl) (by decide) ⟨by decide, by decide⟩ rfl (pX11_hasWatch (E := E) (h := h) (M := M) (v1 := v1) hG) (kF (st2 := [(0, (fX11_hasWatch M h v1))]) rfl (fun hG1 => ?_))
  refine T_if_ne (pc' := 10) dX11_late_5 (by decide) (pf := 8) rfl (fun c2 => ?_) (fun c2 => ?_)
  · skip
    replace H := H.2 c2
    refine T_aload_n (i := 0) (pc' := 11) dX11_late_10 rfl rfl rfl ?_
    refine T_callV (av := []) (st := []) (d2 := 6) (nc2 := 0) (ns2 := 0) (pc' := 14) dX11_late_11 rfl mtX11_freshWalks mvX11_freshWalks mlX11_327 cl11 rfl rfl rfl (Nat.le_of_ble_eq_true rfl) (by decide) ⟨by decide, by decide⟩ rfl (pX11_freshWalks (E := E) (h := h) (M := M) H hG) ?_
    rintro _ _ M4 ⟨rfl, hG5, rfl, H⟩ _
    refine T_aload_n (i := 0) (pc' := 15) dX11_late_14 rfl rfl rfl ?_
    refine U_gr (q := 25) (k := 6) (kI := 6) (pc' := 18) dX11_late_15 rfl cl11 (by decide) rfl (by decide) flX11_60 rfl rfl rfl (G_at hG5 6 rfl) (by decide) rfl ?_
    refine T_aload_n (i := 0) (pc' := 19) dX11_late_18 rfl rfl rfl ?_
    refine U_gr (q := h) (k := 10) (kI := 10) (pc' := 22) dX11_late_19 rfl cl11 (by decide) rfl (by decide) flX11_82 rfl rfl rfl hG5.2.1 (pog0 hh) rfl ?_
    refine T_aload_n (i := 0) (pc' := 23) dX11_late_22 rfl rfl rfl ?_
    refine U_gf (v := (0, (M4 0 12))) (k := 12) (kI := 12) (pc' := 26) dX11_late_23 rfl cl11 (by decide) rfl (by decide) flX11_89 rfl rfl (by decide) rfl rfl ?_
    refine T_iload_n (i := 1) (pc' := 27) dX11_late_26 rfl rfl rfl ?_
    refine T_callV (av := [(2, h), (0, (M4 0 12)), (0, v1)]) (st := []) (d2 := 6) (nc2 := 0) (ns2 := 0) (pc' := 30) dX11_late_27 rfl mtX10_latest mvX10_latest mlX11_350 cl10 rfl rfl rfl (Nat.le_of_ble_eq_true rfl) (by decide) ⟨by decide, by decide⟩ rfl (pX10_latest (E := E) (h := h) (M := M4) (g := h) (v2 := (M4 0 12)) (v3 := v1) hh H hG5) ?_
    rintro _ _ M7 ⟨rfl, hG8, a6, rfl, H⟩ _
    exact T_iret dX11_late_30 rfl ⟨rfl, hG8, _, rfl, H⟩
  · skip
    replace H := H.1 c2
    refine T_iconst (pc' := 9) dX11_late_8 (by decide) rfl ?_
    exact T_iret dX11_late_9 rfl ⟨rfl, hG, _, rfl, H⟩
def PX11_post (h : Int) (v1 : Int) (v2 : Int) (M : Mem) (Q : Int → Mem → Prop) : Prop :=
  (((fX1_hasGuard M h v1) = 0 → Q (-1) M) ∧ (¬ ((fX1_hasGuard M h v1) = 0) → ((v2 < 0 → Q (-1) M) ∧ (¬ (v2 < 0) → ((v2 ≤ 1 → PX11_freshWalks h M (fun _ M6 => PX10_findPost h (M6 0 12) v1 M6 (fun _ M9 => Q (if v2 = 0 then (M9 25 2) else (M9 25 3)) M9))) ∧ (¬ (v2 ≤ 1) → Q (-1) M))))))
set_option maxRecDepth 100000 in
set_option maxHeartbeats 2000000 in
theorem pX11_post {E : EV} {h : Int} {M : Mem} {v1 : Int} {v2 : Int}  {Q : Int → Mem → Prop} (H : PX11_post h v1 v2 M Q) : C2 E miX11_post 7 h [(2, 0), (0, v1), (0, v2)] M (RI 0 Q) := by
  refine C2_of (L := [(2, 0), (0, v1), (0, v2)]) (by decide +kernel) (Nat.le_of_ble_eq_true rfl) rfl (fun hG => ?_)
  have hh := hG.2.2.2
  refine T_aload_n (i := 0) (pc' := 1) dX11_post_0 rfl rfl rfl ?_
  refine U_gr (q := h) (k := 10) (kI := 10) (pc' := 4) dX11_post_1 rfl cl11 (by decide) rfl (by decide) flX11_82 rfl rfl rfl hG.2.1 (pog0 hh) rfl ?_
  refine T_iload_n (i := 1) (pc' := 5) dX11_post_4 rfl rfl rfl ?_
  refine T_callV (av := [(0, v1)]) (st := []) (d2 := 1) (nc2 := 0) (ns2 := 0) (pc' := 8) dX11_post_5 rfl mtX1_hasGuard mvX1_hasGuard mlX11_197 cl1 (shg0 hh) rfl rfl (Nat.le_of_ble_eq_true rfl) (by decide) ⟨by decide, by decide⟩ rfl (pX1_hasGuard (E := E) (h := h) (M := M) (g := h) (v1 := v1) hh hG) (kF (st2 := [(0, (fX1_hasGuard M h v1))]) rfl (fun hG1 => ?_))
  refine T_if_eq (pc' := 20) dX11_post_8 (by decide) (pf := 11) rfl (fun c2 => ?_) (fun c2 => ?_)
  · skip
    replace H := H.1 c2
    refine T_iconst (pc' := 21) dX11_post_20 (by decide) rfl ?_
    exact T_iret dX11_post_21 rfl ⟨rfl, hG, _, rfl, H⟩
  · skip
    replace H := H.2 c2
    refine T_iload_n (i := 2) (pc' := 12) dX11_post_11 rfl rfl rfl ?_
    refine T_if_lt (pc' := 20) dX11_post_12 (by decide) (pf := 15) rfl (fun c3 => ?_) (fun c3 => ?_)
    · skip
      replace H := H.1 c3
      refine T_iconst (pc' := 21) dX11_post_20 (by decide) rfl ?_
      exact T_iret dX11_post_21 rfl ⟨rfl, hG, _, rfl, H⟩
    · skip
      replace H := H.2 c3
      refine T_iload_n (i := 2) (pc' := 16) dX11_post_15 rfl rfl rfl ?_
      refine T_iconst (pc' := 17) dX11_post_16 (by decide) rfl ?_
      refine T_icmp_le (pc' := 22) dX11_post_17 (by decide) (pf := 20) rfl (fun c4 => ?_) (fun c4 => ?_)
      · skip
        replace H := H.1 c4
        refine T_aload_n (i := 0) (pc' := 23) dX11_post_22 rfl rfl rfl ?_
        refine T_callV (av := []) (st := []) (d2 := 6) (nc2 := 0) (ns2 := 0) (pc' := 26) dX11_post_23 rfl mtX11_freshWalks mvX11_freshWalks mlX11_327 cl11 rfl rfl rfl (Nat.le_of_ble_eq_true rfl) (by decide) ⟨by decide, by decide⟩ rfl (pX11_freshWalks (E := E) (h := h) (M := M) H hG) ?_
        rintro _ _ M6 ⟨rfl, hG7, rfl, H⟩ _
        refine T_aload_n (i := 0) (pc' := 27) dX11_post_26 rfl rfl rfl ?_
        refine U_gr (q := 25) (k := 6) (kI := 6) (pc' := 30) dX11_post_27 rfl cl11 (by decide) rfl (by decide) flX11_60 rfl rfl rfl (G_at hG7 6 rfl) (by decide) rfl ?_
        refine T_aload_n (i := 0) (pc' := 31) dX11_post_30 rfl rfl rfl ?_
        refine U_gr (q := h) (k := 10) (kI := 10) (pc' := 34) dX11_post_31 rfl cl11 (by decide) rfl (by decide) flX11_82 rfl rfl rfl hG7.2.1 (pog0 hh) rfl ?_
        refine T_aload_n (i := 0) (pc' := 35) dX11_post_34 rfl rfl rfl ?_
        refine U_gf (v := (0, (M6 0 12))) (k := 12) (kI := 12) (pc' := 38) dX11_post_35 rfl cl11 (by decide) rfl (by decide) flX11_89 rfl rfl (by decide) rfl rfl ?_
        refine T_iload_n (i := 1) (pc' := 39) dX11_post_38 rfl rfl rfl ?_
        refine T_callV (av := [(2, h), (0, (M6 0 12)), (0, v1)]) (st := []) (d2 := 5) (nc2 := 0) (ns2 := 0) (pc' := 42) dX11_post_39 rfl mtX10_findPost mvX10_findPost mlX11_353 cl10 rfl rfl rfl (Nat.le_of_ble_eq_true rfl) (by decide) ⟨by decide, by decide⟩ rfl (pX10_findPost (E := E) (h := h) (M := M6) (g := h) (v2 := (M6 0 12)) (v3 := v1) hh H hG7) ?_
        rintro _ _ M9 ⟨rfl, hG10, rfl, H⟩ _
        refine T_iload_n (i := 2) (pc' := 43) dX11_post_42 rfl rfl rfl ?_
        have HJ11 : T E miX11_post 7 126 0 0 (fun r S M' => S = S0 ∧ G h M' ∧ RI 0 Q r M') 63 [(3, 0), (3, 0), (3, 0)] [(0, (if v2 = 0 then (M9 25 2) else (M9 25 3)))] S0 M9 0 0 := by
          exact T_iret dX11_post_63 rfl ⟨rfl, hG10, _, rfl, H⟩
        refine T_if_ne (pc' := 56) dX11_post_43 (by decide) (pf := 46) rfl (fun c12 => ?_) (fun c12 => ?_)
        · skip
          refine T_aload_n (i := 0) (pc' := 57) dX11_post_56 rfl rfl rfl ?_
          refine U_gr (q := 25) (k := 6) (kI := 6) (pc' := 60) dX11_post_57 rfl cl11 (by decide) rfl (by decide) flX11_60 rfl rfl rfl (G_at hG10 6 rfl) (by decide) rfl ?_
          refine U_gfN (v := (0, (M9 25 3))) (k := 3) (kI := 3) (pc' := 63) dX11_post_60 rfl cl10 (by decide) rfl (by decide) flX11_360 rfl rfl (by decide) rfl rfl ?_
          exact T_wk (L' := [(3, 0), (3, 0), (3, 0)]) (by have q := HJ11; try simp only [if_neg c12] at q ⊢; exact q) ⟨Or.inl rfl, Or.inl rfl, Or.inl rfl, trivial⟩
        · skip
          refine T_aload_n (i := 0) (pc' := 47) dX11_post_46 rfl rfl rfl ?_
          refine U_gr (q := 25) (k := 6) (kI := 6) (pc' := 50) dX11_post_47 rfl cl11 (by decide) rfl (by decide) flX11_60 rfl rfl rfl (G_at hG10 6 rfl) (by decide) rfl ?_
          refine U_gfN (v := (0, (M9 25 2))) (k := 2) (kI := 2) (pc' := 53) dX11_post_50 rfl cl10 (by decide) rfl (by decide) flX11_357 rfl rfl (by decide) rfl rfl ?_
          refine T_goto (pc' := 63) dX11_post_53 (by decide) ?_
          exact T_wk (L' := [(3, 0), (3, 0), (3, 0)]) (by have q := HJ11; try simp only [if_pos c12] at q ⊢; exact q) ⟨Or.inl rfl, Or.inl rfl, Or.inl rfl, trivial⟩
      · skip
        replace H := H.2 c4
        refine T_iconst (pc' := 21) dX11_post_20 (by decide) rfl ?_
        exact T_iret dX11_post_21 rfl ⟨rfl, hG, _, rfl, H⟩
def PX11_ask (h : Int) (M : Mem) (Q : Int → Mem → Prop) : Prop :=
  (((fX1_isTold M h) = 0 → (∀ M18 : Mem, M18 = (fmX8_cutTo M 0) → Q (-1000000000000000) M18)) ∧ (¬ ((fX1_isTold M h) = 0) → PX6_read M (fun a3 M4 => (∀ M7 : Mem, M7 = (fmX11_takeFault M4) → (∀ M9 : Mem, M9 = (fmX8_cutTo M7 0) → ((a3 = 0 → Q (-1000000000000000) M9) ∧ (¬ (a3 = 0) → PX11_freshMorning h M9 (fun _ M12 => PX6_answer M12 (fun a14 M15 => Q a14 M15)))))))))
set_option maxRecDepth 100000 in
set_option maxHeartbeats 2000000 in
theorem pX11_ask {E : EV} {h : Int} {M : Mem}   {Q : Int → Mem → Prop} (H : PX11_ask h M Q) : C2 E miX11_ask 82 h [(2, 0)] M (RI 1 Q) := by
  refine C2_of (L := [(2, 0), (3, 0)]) (by decide +kernel) (Nat.le_of_ble_eq_true rfl) rfl (fun hG => ?_)
  have hh := hG.2.2.2
  refine T_aload_n (i := 0) (pc' := 1) dX11_ask_0 rfl rfl rfl ?_
  refine U_gr (q := h) (k := 10) (kI := 10) (pc' := 4) dX11_ask_1 rfl cl11 (by decide) rfl (by decide) flX11_82 rfl rfl rfl hG.2.1 (pog0 hh) rfl ?_
  refine T_callV (av := []) (st := []) (d2 := 1) (nc2 := 0) (ns2 := 0) (pc' := 7) dX11_ask_4 rfl mtX1_isTold mvX1_isTold mlX11_278 cl1 (shg0 hh) rfl rfl (Nat.le_of_ble_eq_true rfl) (by decide) ⟨by decide, by decide⟩ rfl (pX1_isTold (E := E) (h := h) (M := M) (g := h) hh hG) (kF (st2 := [(0, (fX1_isTold M h))]) rfl (fun hG1 => ?_))
  refine T_if_ne (pc' := 23) dX11_ask_7 (by decide) (pf := 10) rfl (fun c2 => ?_) (fun c2 => ?_)
  · skip
    replace H := H.2 c2
    refine T_aload_n (i := 0) (pc' := 24) dX11_ask_23 rfl rfl rfl ?_
    refine U_gr (q := 5) (k := 3) (kI := 3) (pc' := 27) dX11_ask_24 rfl cl11 (by decide) rfl (by decide) flX11_37 rfl rfl rfl (G_at hG 3 rfl) (by decide) rfl ?_
    refine T_callV (av := []) (st := []) (d2 := 81) (nc2 := 0) (ns2 := 0) (pc' := 30) dX11_ask_27 rfl mtX6_read mvX6_read mlX11_365 cl6 rfl rfl rfl (Nat.le_of_ble_eq_true rfl) (by decide) ⟨by decide, by decide⟩ rfl (pX6_read (E := E) (h := h) (M := M) H hG) ?_
    rintro _ _ M4 ⟨rfl, hG5, a3, rfl, H⟩ _
    refine T_istore_n (i := 1) (L' := [(2, 0), (0, a3)]) (pc' := 31) dX11_ask_30 rfl (by decide) rfl rfl ?_
    refine T_aload_n (i := 0) (pc' := 32) dX11_ask_31 rfl rfl rfl ?_
    refine T_callV (av := []) (st := []) (d2 := 1) (nc2 := 0) (ns2 := 0) (pc' := 35) dX11_ask_32 rfl mtX11_takeFault mvX11_takeFault mlX11_126 cl11 rfl rfl rfl (Nat.le_of_ble_eq_true rfl) (by decide) ⟨by decide, by decide⟩ rfl (pX11_takeFault (E := E) (h := h) (M := M4) hG5) (kF (st2 := []) rfl (fun hG6 => ?_))
    obtain ⟨M7, eM7⟩ : ∃ m : Mem, m = (fmX11_takeFault M4) := ⟨_, rfl⟩
    rw [← eM7] at hG6 ⊢
    replace H := H M7 eM7
    refine T_aload_n (i := 0) (pc' := 36) dX11_ask_35 rfl rfl rfl ?_
    refine U_gr (q := 1) (k := 0) (kI := 0) (pc' := 39) dX11_ask_36 rfl cl11 (by decide) rfl (by decide) flX11_12 rfl rfl rfl (G_at hG6 0 rfl) (by decide) rfl ?_
    refine T_iconst (pc' := 40) dX11_ask_39 (by decide) rfl ?_
    refine T_callV (av := [(0, 0)]) (st := []) (d2 := 1) (nc2 := 0) (ns2 := 0) (pc' := 43) dX11_ask_40 rfl mtX8_cutTo mvX8_cutTo mlX11_119 cl8 rfl rfl rfl (Nat.le_of_ble_eq_true rfl) (by decide) ⟨by decide, by decide⟩ rfl (pX8_cutTo (E := E) (h := h) (M := M7) (v1 := 0) hG6) (kF (st2 := [(0, (fX8_cutTo M7 0))]) rfl (fun hG8 => ?_))
    obtain ⟨M9, eM9⟩ : ∃ m : Mem, m = (fmX8_cutTo M7 0) := ⟨_, rfl⟩
    rw [← eM9] at hG8 ⊢
    replace H := H M9 eM9
    refine T_pop (pc' := 44) dX11_ask_43 (Nat.ne_of_beq_eq_false rfl) rfl ?_
    refine T_iload_n (i := 1) (pc' := 45) dX11_ask_44 rfl rfl rfl ?_
    refine T_if_eq (pc' := 62) dX11_ask_45 (by decide) (pf := 48) rfl (fun c10 => ?_) (fun c10 => ?_)
    · skip
      replace H := H.1 c10
      refine T_ldc2 (n := (-1000000000000000)) (pc' := 65) dX11_ask_62 rfl kjX11_363 rfl (by decide) rfl ?_
      exact T_lret dX11_ask_65 rfl ⟨rfl, hG8, _, rfl, H⟩
    · skip
      replace H := H.2 c10
      refine T_aload_n (i := 0) (pc' := 49) dX11_ask_48 rfl rfl rfl ?_
      refine U_gr (q := 5) (k := 3) (kI := 3) (pc' := 52) dX11_ask_49 rfl cl11 (by decide) rfl (by decide) flX11_37 rfl rfl rfl (G_at hG8 3 rfl) (by decide) rfl ?_
      refine T_aload_n (i := 0) (pc' := 53) dX11_ask_52 rfl rfl rfl ?_
      refine T_callV (av := []) (st := [(2, 5)]) (d2 := 7) (nc2 := 0) (ns2 := 0) (pc' := 56) dX11_ask_53 rfl mtX11_freshMorning mvX11_freshMorning mlX11_243 cl11 rfl rfl rfl (Nat.le_of_ble_eq_true rfl) (by decide) ⟨by decide, by decide⟩ rfl (pX11_freshMorning (E := E) (h := h) (M := M9) H hG8) ?_
      rintro _ _ M12 ⟨rfl, hG13, rfl, H⟩ _
      refine T_callV (av := [(2, 16)]) (st := []) (d2 := 6) (nc2 := 0) (ns2 := 0) (pc' := 59) dX11_ask_56 rfl mtX6_answer mvX6_answer mlX11_367 cl6 rfl rfl rfl (Nat.le_of_ble_eq_true rfl) (by decide) ⟨by decide, by decide⟩ rfl (pX6_answer (E := E) (h := h) (M := M12) H hG13) ?_
      rintro _ _ M15 ⟨rfl, hG16, a14, rfl, H⟩ _
      refine T_goto (pc' := 65) dX11_ask_59 (by decide) ?_
      exact T_lret dX11_ask_65 rfl ⟨rfl, hG16, _, rfl, H⟩
  · skip
    replace H := H.1 c2
    refine T_aload_n (i := 0) (pc' := 11) dX11_ask_10 rfl rfl rfl ?_
    refine U_gr (q := 1) (k := 0) (kI := 0) (pc' := 14) dX11_ask_11 rfl cl11 (by decide) rfl (by decide) flX11_12 rfl rfl rfl (G_at hG 0 rfl) (by decide) rfl ?_
    refine T_iconst (pc' := 15) dX11_ask_14 (by decide) rfl ?_
    refine T_callV (av := [(0, 0)]) (st := []) (d2 := 1) (nc2 := 0) (ns2 := 0) (pc' := 18) dX11_ask_15 rfl mtX8_cutTo mvX8_cutTo mlX11_119 cl8 rfl rfl rfl (Nat.le_of_ble_eq_true rfl) (by decide) ⟨by decide, by decide⟩ rfl (pX8_cutTo (E := E) (h := h) (M := M) (v1 := 0) hG) (kF (st2 := [(0, (fX8_cutTo M 0))]) rfl (fun hG17 => ?_))
    obtain ⟨M18, eM18⟩ : ∃ m : Mem, m = (fmX8_cutTo M 0) := ⟨_, rfl⟩
    rw [← eM18] at hG17 ⊢
    replace H := H M18 eM18
    refine T_pop (pc' := 19) dX11_ask_18 (Nat.ne_of_beq_eq_false rfl) rfl ?_
    refine T_ldc2 (n := (-1000000000000000)) (pc' := 22) dX11_ask_19 rfl kjX11_363 rfl (by decide) rfl ?_
    exact T_lret dX11_ask_22 rfl ⟨rfl, hG17, _, rfl, H⟩
def PX12_look_0  (K : Mem → Prop) (Q : Int → Mem → Prop) : Nat → Mem → Prop
  | 0 => fun _ => False
  | k + 1 => fun M => (((M 66 3) ≤ (M 66 2) → K M) ∧ (¬ ((M 66 3) ≤ (M 66 2)) → 0 ≤ (M 66 2) ∧ (M 66 2) < 1600 ∧ (((M 67 (M 66 2)) = 10 → (∀ M4 : Mem, M4 = (mset M 66 2 (wr32 ((M 66 2) + 1))) → PX12_look_0  K Q k M4)) ∧ (¬ ((M 67 (M 66 2)) = 10) → 0 ≤ (M 66 2) ∧ (M 66 2) < 1600 ∧ (((M 67 (M 66 2)) = 32 → (∀ M7 : Mem, M7 = (mset M 66 2 (wr32 ((M 66 2) + 1))) → PX12_look_0  K Q k M7)) ∧ (¬ ((M 67 (M 66 2)) = 32) → K M))))))
def PX12_look  (M : Mem) (Q : Int → Mem → Prop) : Prop :=
  (∃ k1 : Nat, PX12_look_0 (fun M2 => (((M2 66 3) ≤ (M2 66 2) → Q (-1) M2) ∧ (¬ ((M2 66 3) ≤ (M2 66 2)) → 0 ≤ (M2 66 2) ∧ (M2 66 2) < 1600 ∧ Q (M2 67 (M2 66 2)) M2))) Q k1 M)
set_option maxRecDepth 100000 in
set_option maxHeartbeats 2000000 in
theorem qX12_look_0 {E : EV} {h : Int}   {K : Mem → Prop} {Q : Int → Mem → Prop} (hK : ∀ (M : Mem), K M → G h M → TG E miX12_look 1 h (RI 0 Q) 52 [(2, 66)] [] M) : ∀ (k : Nat) (M : Mem), PX12_look_0  K Q k M → G h M → TG E miX12_look 1 h (RI 0 Q) 0 [(2, 66)] [] M := by
  intro k
  induction k with
  | zero =>
    intro M H
    exact False.elim H
  | succ k ih =>
    intro M H hG
    refine T_aload_n (i := 0) (pc' := 1) dX12_look_0 rfl rfl rfl ?_
    refine U_gf (v := (0, (M 66 2))) (k := 2) (kI := 2) (pc' := 4) dX12_look_1 rfl cl12 (by decide) rfl (by decide) flX12_207 rfl rfl (by decide) rfl rfl ?_
    refine T_aload_n (i := 0) (pc' := 5) dX12_look_4 rfl rfl rfl ?_
    refine U_gf (v := (0, (M 66 3))) (k := 3) (kI := 3) (pc' := 8) dX12_look_5 rfl cl12 (by decide) rfl (by decide) flX12_210 rfl rfl (by decide) rfl rfl ?_
    refine T_icmp_ge (pc' := 52) dX12_look_8 (by decide) (pf := 11) rfl (fun c1 => ?_) (fun c1 => ?_)
    · skip
      replace H := H.1 c1
      exact T_wk (L' := [(2, 66)]) (hK _ H hG) ⟨Or.inr rfl, trivial⟩
    · skip
      replace H := H.2 c1
      refine T_aload_n (i := 0) (pc' := 12) dX12_look_11 rfl rfl rfl ?_
      refine U_gr (q := 67) (k := 0) (kI := 0) (pc' := 15) dX12_look_12 rfl cl12 (by decide) rfl (by decide) flX12_7 rfl rfl rfl (G_at hG 67 rfl) (by decide) rfl ?_
      refine T_aload_n (i := 0) (pc' := 16) dX12_look_15 rfl rfl rfl ?_
      refine U_gf (v := (0, (M 66 2))) (k := 2) (kI := 2) (pc' := 19) dX12_look_16 rfl cl12 (by decide) rfl (by decide) flX12_207 rfl rfl (by decide) rfl rfl ?_
      obtain ⟨z1, z2, H⟩ := H
      refine T_iald (pc' := 20) dX12_look_19 (by decide) rfl z1 z2 rfl ?_
      refine T_bipush (pc' := 22) dX12_look_20 rfl (by decide) rfl ?_
      refine T_icmp_eq (pc' := 39) dX12_look_22 (by decide) (pf := 25) rfl (fun c2 => ?_) (fun c2 => ?_)
      · skip
        replace H := H.1 c2
        refine T_aload_n (i := 0) (pc' := 40) dX12_look_39 rfl rfl rfl ?_
        refine T_dup (pc' := 41) dX12_look_40 (Nat.ne_of_beq_eq_false rfl) rfl ?_
        refine U_gf (v := (0, (M 66 2))) (k := 2) (kI := 2) (pc' := 44) dX12_look_41 rfl cl12 (by decide) rfl (by decide) flX12_207 rfl rfl (by decide) rfl rfl ?_
        refine T_iconst (pc' := 45) dX12_look_44 (by decide) rfl ?_
        refine T_iadd (pc' := 46) dX12_look_45 rfl ?_
        refine U_pf (y := (wr32 ((M 66 2) + 1))) (k := 2) (kI := 2) (pc' := 49) dX12_look_46 rfl cl12 (by decide) rfl (by decide) flX12_207 rfl rfl rfl rfl rfl (by decide) (fun z => z) rfl ?_
        have hG3 := (G_fld (x := 66) (i := 2) (y := (wr32 ((M 66 2) + 1))) rfl (by decide) (by decide) (by decide) hG)
        obtain ⟨M4, eM4⟩ : ∃ m : Mem, m = (mset M 66 2 (wr32 ((M 66 2) + 1))) := ⟨_, rfl⟩
        rw [← eM4] at hG3 ⊢
        replace H := H M4 eM4
        refine T_goto (pc' := 0) dX12_look_49 (by decide) ?_
        exact T_wk (L' := [(2, 66)]) (ih _ H hG3) ⟨Or.inr rfl, trivial⟩
      · skip
        replace H := H.2 c2
        refine T_aload_n (i := 0) (pc' := 26) dX12_look_25 rfl rfl rfl ?_
        refine U_gr (q := 67) (k := 0) (kI := 0) (pc' := 29) dX12_look_26 rfl cl12 (by decide) rfl (by decide) flX12_7 rfl rfl rfl (G_at hG 67 rfl) (by decide) rfl ?_
        refine T_aload_n (i := 0) (pc' := 30) dX12_look_29 rfl rfl rfl ?_
        refine U_gf (v := (0, (M 66 2))) (k := 2) (kI := 2) (pc' := 33) dX12_look_30 rfl cl12 (by decide) rfl (by decide) flX12_207 rfl rfl (by decide) rfl rfl ?_
        obtain ⟨z1, z2, H⟩ := H
        refine T_iald (pc' := 34) dX12_look_33 (by decide) rfl z1 z2 rfl ?_
        refine T_bipush (pc' := 36) dX12_look_34 rfl (by decide) rfl ?_
        refine T_icmp_ne (pc' := 52) dX12_look_36 (by decide) (pf := 39) rfl (fun c5 => ?_) (fun c5 => ?_)
        · skip
          replace H := H.2 c5
          exact T_wk (L' := [(2, 66)]) (hK _ H hG) ⟨Or.inr rfl, trivial⟩
        · skip
          replace H := H.1 c5
          refine T_aload_n (i := 0) (pc' := 40) dX12_look_39 rfl rfl rfl ?_
          refine T_dup (pc' := 41) dX12_look_40 (Nat.ne_of_beq_eq_false rfl) rfl ?_
          refine U_gf (v := (0, (M 66 2))) (k := 2) (kI := 2) (pc' := 44) dX12_look_41 rfl cl12 (by decide) rfl (by decide) flX12_207 rfl rfl (by decide) rfl rfl ?_
          refine T_iconst (pc' := 45) dX12_look_44 (by decide) rfl ?_
          refine T_iadd (pc' := 46) dX12_look_45 rfl ?_
          refine U_pf (y := (wr32 ((M 66 2) + 1))) (k := 2) (kI := 2) (pc' := 49) dX12_look_46 rfl cl12 (by decide) rfl (by decide) flX12_207 rfl rfl rfl rfl rfl (by decide) (fun z => z) rfl ?_
          have hG6 := (G_fld (x := 66) (i := 2) (y := (wr32 ((M 66 2) + 1))) rfl (by decide) (by decide) (by decide) hG)
          obtain ⟨M7, eM7⟩ : ∃ m : Mem, m = (mset M 66 2 (wr32 ((M 66 2) + 1))) := ⟨_, rfl⟩
          rw [← eM7] at hG6 ⊢
          replace H := H M7 eM7
          refine T_goto (pc' := 0) dX12_look_49 (by decide) ?_
          exact T_wk (L' := [(2, 66)]) (ih _ H hG6) ⟨Or.inr rfl, trivial⟩
set_option maxRecDepth 100000 in
set_option maxHeartbeats 2000000 in
theorem pX12_look {E : EV} {h : Int} {M : Mem}   {Q : Int → Mem → Prop} (H : PX12_look  M Q) : C2 E miX12_look 1 h [(2, 66)] M (RI 0 Q) := by
  refine C2_of (L := [(2, 66)]) (by decide +kernel) (Nat.le_of_ble_eq_true rfl) rfl (fun hG => ?_)
  obtain ⟨k1, H⟩ := H
  refine T_wk (L' := [(2, 66)]) (qX12_look_0  (fun M2 H hG3 => ?_) _ _ H hG) ⟨Or.inr rfl, trivial⟩
  refine T_aload_n (i := 0) (pc' := 53) dX12_look_52 rfl rfl rfl ?_
  refine U_gf (v := (0, (M2 66 2))) (k := 2) (kI := 2) (pc' := 56) dX12_look_53 rfl cl12 (by decide) rfl (by decide) flX12_207 rfl rfl (by decide) rfl rfl ?_
  refine T_aload_n (i := 0) (pc' := 57) dX12_look_56 rfl rfl rfl ?_
  refine U_gf (v := (0, (M2 66 3))) (k := 3) (kI := 3) (pc' := 60) dX12_look_57 rfl cl12 (by decide) rfl (by decide) flX12_210 rfl rfl (by decide) rfl rfl ?_
  refine T_icmp_ge (pc' := 75) dX12_look_60 (by decide) (pf := 63) rfl (fun c4 => ?_) (fun c4 => ?_)
  · skip
    replace H := H.1 c4
    refine T_iconst (pc' := 76) dX12_look_75 (by decide) rfl ?_
    exact T_iret dX12_look_76 rfl ⟨rfl, hG3, _, rfl, H⟩
  · skip
    replace H := H.2 c4
    refine T_aload_n (i := 0) (pc' := 64) dX12_look_63 rfl rfl rfl ?_
    refine U_gr (q := 67) (k := 0) (kI := 0) (pc' := 67) dX12_look_64 rfl cl12 (by decide) rfl (by decide) flX12_7 rfl rfl rfl (G_at hG3 67 rfl) (by decide) rfl ?_
    refine T_aload_n (i := 0) (pc' := 68) dX12_look_67 rfl rfl rfl ?_
    refine U_gf (v := (0, (M2 66 2))) (k := 2) (kI := 2) (pc' := 71) dX12_look_68 rfl cl12 (by decide) rfl (by decide) flX12_207 rfl rfl (by decide) rfl rfl ?_
    obtain ⟨z1, z2, H⟩ := H
    refine T_iald (pc' := 72) dX12_look_71 (by decide) rfl z1 z2 rfl ?_
    refine T_goto (pc' := 76) dX12_look_72 (by decide) ?_
    exact T_iret dX12_look_76 rfl ⟨rfl, hG3, _, rfl, H⟩
def PX12_isHere_35  (K : Int → Mem → Prop) (Q : Int → Mem → Prop) : Nat → Int → Mem → Prop
  | 0 => fun _ _ => False
  | k + 1 => fun v2 M => (((M 66 3) ≤ v2 → K v2 M) ∧ (¬ ((M 66 3) ≤ v2) → 0 ≤ v2 ∧ v2 < 1600 ∧ (((fX12_isLetter (M 67 v2)) = 0 → K v2 M) ∧ (¬ ((fX12_isLetter (M 67 v2)) = 0) → PX12_isHere_35  K Q k (wr32 (v2 + 1)) M))))
def PX12_isHere_76 (p1 : Int) (np1 : Nat) (K : Mem → Prop) (Q : Int → Mem → Prop) : Nat → Int → Mem → Prop
  | 0 => fun _ _ => False
  | k + 1 => fun v3 M => (((np1 : Int) ≤ v3 → K M) ∧ (¬ ((np1 : Int) ≤ v3) → 0 ≤ (wr32 ((M 66 2) + v3)) ∧ (wr32 ((M 66 2) + v3)) < 1600 ∧ 0 ≤ v3 ∧ v3 < np1 ∧ (((M 67 (wr32 ((M 66 2) + v3))) = (M p1 v3) → PX12_isHere_76 p1 np1 K Q k (wr32 (v3 + 1)) M) ∧ (¬ ((M 67 (wr32 ((M 66 2) + v3))) = (M p1 v3)) → Q 0 M))))
def PX12_isHere (p1 : Int) (np1 : Nat) (M : Mem) (Q : Int → Mem → Prop) : Prop :=
  (((M 66 5) = 0 → PX12_look M (fun a2 M3 => (((fX12_isLetter a2) = 0 → Q 0 M3) ∧ (¬ ((fX12_isLetter a2) = 0) → (((M3 66 2) = (M3 66 4) → Q 0 M3) ∧ (¬ ((M3 66 2) = (M3 66 4)) → (∃ k8 : Nat, PX12_isHere_35 (fun u9 M10 => (((wr32 (u9 - (M10 66 2))) = (np1 : Int) → (∃ k13 : Nat, PX12_isHere_76 p1 np1 (fun M14 => Q 1 M14) Q k13 0 M10)) ∧ (¬ ((wr32 (u9 - (M10 66 2))) = (np1 : Int)) → Q 0 M10))) Q k8 (M3 66 2) M3))))))) ∧ (¬ ((M 66 5) = 0) → Q 0 M))
set_option maxRecDepth 100000 in
set_option maxHeartbeats 2000000 in
theorem qX12_isHere_35 {E : EV} {h : Int} {p1 : Int} {np1 : Nat} (h0p1 : 0 ≤ p1) (hSp1 : S0[p1.toNat]? = some (0, 4, np1)) (hnp1 : np1 < 2147483648) {K : Int → Mem → Prop} {Q : Int → Mem → Prop} (hK : ∀ (v2 : Int) (M : Mem), K v2 M → G h M → TG E miX12_isHere 2 h (RI 0 Q) 61 [(2, 66), (2, p1), (0, v2), (3, 0)] [] M) : ∀ (k : Nat) (v2 : Int) (M : Mem), PX12_isHere_35  K Q k v2 M → G h M → TG E miX12_isHere 2 h (RI 0 Q) 35 [(2, 66), (2, p1), (0, v2), (3, 0)] [] M := by
  intro k
  induction k with
  | zero =>
    intro v2 M H
    exact False.elim H
  | succ k ih =>
    intro v2 M H hG
    refine T_iload_n (i := 2) (pc' := 36) dX12_isHere_35 rfl rfl rfl ?_
    refine T_aload_n (i := 0) (pc' := 37) dX12_isHere_36 rfl rfl rfl ?_
    refine U_gf (v := (0, (M 66 3))) (k := 3) (kI := 3) (pc' := 40) dX12_isHere_37 rfl cl12 (by decide) rfl (by decide) flX12_210 rfl rfl (by decide) rfl rfl ?_
    refine T_icmp_ge (pc' := 61) dX12_isHere_40 (by decide) (pf := 43) rfl (fun c1 => ?_) (fun c1 => ?_)
    · skip
      replace H := H.1 c1
      exact T_wk (L' := [(2, 66), (2, p1), (0, v2), (3, 0)]) (hK _ _ H hG) ⟨Or.inr rfl, Or.inr rfl, Or.inr rfl, Or.inl rfl, trivial⟩
    · skip
      replace H := H.2 c1
      refine T_aload_n (i := 0) (pc' := 44) dX12_isHere_43 rfl rfl rfl ?_
      refine U_gr (q := 67) (k := 0) (kI := 0) (pc' := 47) dX12_isHere_44 rfl cl12 (by decide) rfl (by decide) flX12_7 rfl rfl rfl (G_at hG 67 rfl) (by decide) rfl ?_
      refine T_iload_n (i := 2) (pc' := 48) dX12_isHere_47 rfl rfl rfl ?_
      obtain ⟨z1, z2, H⟩ := H
      refine T_iald (pc' := 49) dX12_isHere_48 (by decide) rfl z1 z2 rfl ?_
      refine T_callS (av := [(0, (M 67 v2))]) (st := []) (d2 := 1) (nc2 := 0) (ns2 := 0) (pc' := 52) dX12_isHere_49 rfl mtX12_isLetter mvX12_isLetter mlX12_217 rfl rfl (Nat.le_of_ble_eq_true rfl) (by decide) ⟨by decide, by decide⟩ rfl (pX12_isLetter (E := E) (h := h) (M := M) (v0 := (M 67 v2)) hG) (kF (st2 := [(0, (fX12_isLetter (M 67 v2)))]) rfl (fun hG2 => ?_))
      refine T_if_eq (pc' := 61) dX12_isHere_52 (by decide) (pf := 55) rfl (fun c3 => ?_) (fun c3 => ?_)
      · skip
        replace H := H.1 c3
        exact T_wk (L' := [(2, 66), (2, p1), (0, v2), (3, 0)]) (hK _ _ H hG) ⟨Or.inr rfl, Or.inr rfl, Or.inr rfl, Or.inl rfl, trivial⟩
      · skip
        replace H := H.2 c3
        refine T_iinc (L' := [(2, 66), (2, p1), (0, (wr32 (v2 + 1))), (3, 0)]) (pc' := 58) dX12_isHere_55 rfl (by decide) rfl rfl ?_
        refine T_goto (pc' := 35) dX12_isHere_58 (by decide) ?_
        exact T_wk (L' := [(2, 66), (2, p1), (0, (wr32 (v2 + 1))), (3, 0)]) (ih _ _ H hG) ⟨Or.inr rfl, Or.inr rfl, Or.inr rfl, Or.inl rfl, trivial⟩
set_option maxRecDepth 100000 in
set_option maxHeartbeats 2000000 in
theorem qX12_isHere_76 {E : EV} {h : Int} {p1 : Int} {np1 : Nat} (h0p1 : 0 ≤ p1) (hSp1 : S0[p1.toNat]? = some (0, 4, np1)) (hnp1 : np1 < 2147483648) {K : Mem → Prop} {Q : Int → Mem → Prop} (hK : ∀ (M : Mem), K M → G h M → TG E miX12_isHere 2 h (RI 0 Q) 107 [(2, 66), (3, 0), (3, 0), (3, 0)] [] M) : ∀ (k : Nat) (v3 : Int) (M : Mem), PX12_isHere_76 p1 np1 K Q k v3 M → G h M → TG E miX12_isHere 2 h (RI 0 Q) 76 [(2, 66), (2, p1), (3, 0), (0, v3)] [] M := by
  intro k
  induction k with
  | zero =>
    intro v3 M H
    exact False.elim H
  | succ k ih =>
    intro v3 M H hG
    refine T_iload_n (i := 3) (pc' := 77) dX12_isHere_76 rfl rfl rfl ?_
    refine T_aload_n (i := 1) (pc' := 78) dX12_isHere_77 rfl rfl rfl ?_
    refine U_alen (nI := (np1 : Int)) (pc' := 79) dX12_isHere_78 (by decide) hnp1 hSp1 rfl rfl ?_
    refine T_icmp_ge (pc' := 107) dX12_isHere_79 (by decide) (pf := 82) rfl (fun c1 => ?_) (fun c1 => ?_)
    · skip
      replace H := H.1 c1
      exact T_wk (L' := [(2, 66), (3, 0), (3, 0), (3, 0)]) (hK _ H hG) ⟨Or.inr rfl, Or.inl rfl, Or.inl rfl, Or.inl rfl, trivial⟩
    · skip
      replace H := H.2 c1
      refine T_aload_n (i := 0) (pc' := 83) dX12_isHere_82 rfl rfl rfl ?_
      refine U_gr (q := 67) (k := 0) (kI := 0) (pc' := 86) dX12_isHere_83 rfl cl12 (by decide) rfl (by decide) flX12_7 rfl rfl rfl (G_at hG 67 rfl) (by decide) rfl ?_
      refine T_aload_n (i := 0) (pc' := 87) dX12_isHere_86 rfl rfl rfl ?_
      refine U_gf (v := (0, (M 66 2))) (k := 2) (kI := 2) (pc' := 90) dX12_isHere_87 rfl cl12 (by decide) rfl (by decide) flX12_207 rfl rfl (by decide) rfl rfl ?_
      refine T_iload_n (i := 3) (pc' := 91) dX12_isHere_90 rfl rfl rfl ?_
      refine T_iadd (pc' := 92) dX12_isHere_91 rfl ?_
      obtain ⟨z1, z2, H⟩ := H
      refine T_iald (pc' := 93) dX12_isHere_92 (by decide) rfl z1 z2 rfl ?_
      refine T_aload_n (i := 1) (pc' := 94) dX12_isHere_93 rfl rfl rfl ?_
      refine T_iload_n (i := 3) (pc' := 95) dX12_isHere_94 rfl rfl rfl ?_
      obtain ⟨z1, z2, H⟩ := H
      refine T_cald (pc' := 96) dX12_isHere_95 h0p1 hSp1 z1 z2 rfl ?_
      refine T_icmp_eq (pc' := 101) dX12_isHere_96 (by decide) (pf := 99) rfl (fun c2 => ?_) (fun c2 => ?_)
      · skip
        replace H := H.1 c2
        refine T_iinc (L' := [(2, 66), (2, p1), (3, 0), (0, (wr32 (v3 + 1)))]) (pc' := 104) dX12_isHere_101 rfl (by decide) rfl rfl ?_
        refine T_goto (pc' := 76) dX12_isHere_104 (by decide) ?_
        exact T_wk (L' := [(2, 66), (2, p1), (3, 0), (0, (wr32 (v3 + 1)))]) (ih _ _ H hG) ⟨Or.inr rfl, Or.inr rfl, Or.inl rfl, Or.inr rfl, trivial⟩
      · skip
        replace H := H.2 c2
        refine T_iconst (pc' := 100) dX12_isHere_99 (by decide) rfl ?_
        exact T_zret dX12_isHere_100 rfl (by decide) ⟨rfl, hG, _, rfl, H⟩
set_option maxRecDepth 100000 in
set_option maxHeartbeats 2000000 in
theorem pX12_isHere {E : EV} {h : Int} {M : Mem} {p1 : Int} {np1 : Nat} (h0p1 : 0 ≤ p1) (hSp1 : S0[p1.toNat]? = some (0, 4, np1)) (hnp1 : np1 < 2147483648) {Q : Int → Mem → Prop} (H : PX12_isHere p1 np1 M Q) : C2 E miX12_isHere 2 h [(2, 66), (2, p1)] M (RI 0 Q) := by
  refine C2_of (L := [(2, 66), (2, p1), (3, 0), (3, 0)]) (by decide +kernel) (Nat.le_of_ble_eq_true rfl) rfl (fun hG => ?_)
  refine T_aload_n (i := 0) (pc' := 1) dX12_isHere_0 rfl rfl rfl ?_
  refine U_gf (v := (0, (M 66 5))) (k := 5) (kI := 5) (pc' := 4) dX12_isHere_1 rfl cl12 (by decide) rfl (by decide) flX12_201 rfl rfl (by decide) rfl rfl ?_
  refine T_if_ne (pc' := 28) dX12_isHere_4 (by decide) (pf := 7) rfl (fun c1 => ?_) (fun c1 => ?_)
  · skip
    replace H := H.2 c1
    refine T_iconst (pc' := 29) dX12_isHere_28 (by decide) rfl ?_
    exact T_zret dX12_isHere_29 rfl (by decide) ⟨rfl, hG, _, rfl, H⟩
  · skip
    replace H := H.1 c1
    refine T_aload_n (i := 0) (pc' := 8) dX12_isHere_7 rfl rfl rfl ?_
    refine T_callV (av := []) (st := []) (d2 := 1) (nc2 := 0) (ns2 := 0) (pc' := 11) dX12_isHere_8 rfl mtX12_look mvX12_look mlX12_213 cl12 rfl rfl rfl (Nat.le_of_ble_eq_true rfl) (by decide) ⟨by decide, by decide⟩ rfl (pX12_look (E := E) (h := h) (M := M) H hG) ?_
    rintro _ _ M3 ⟨rfl, hG4, a2, rfl, H⟩ _
    refine T_callS (av := [(0, a2)]) (st := []) (d2 := 1) (nc2 := 0) (ns2 := 0) (pc' := 14) dX12_isHere_11 rfl mtX12_isLetter mvX12_isLetter mlX12_217 rfl rfl (Nat.le_of_ble_eq_true rfl) (by decide) ⟨by decide, by decide⟩ rfl (pX12_isLetter (E := E) (h := h) (M := M3) (v0 := a2) hG4) (kF (st2 := [(0, (fX12_isLetter a2))]) rfl (fun hG5 => ?_))
    refine T_if_eq (pc' := 28) dX12_isHere_14 (by decide) (pf := 17) rfl (fun c6 => ?_) (fun c6 => ?_)
    · skip
      replace H := H.1 c6
      refine T_iconst (pc' := 29) dX12_isHere_28 (by decide) rfl ?_
      exact T_zret dX12_isHere_29 rfl (by decide) ⟨rfl, hG4, _, rfl, H⟩
    · skip
      replace H := H.2 c6
      refine T_aload_n (i := 0) (pc' := 18) dX12_isHere_17 rfl rfl rfl ?_
      refine U_gf (v := (0, (M3 66 2))) (k := 2) (kI := 2) (pc' := 21) dX12_isHere_18 rfl cl12 (by decide) rfl (by decide) flX12_207 rfl rfl (by decide) rfl rfl ?_
      refine T_aload_n (i := 0) (pc' := 22) dX12_isHere_21 rfl rfl rfl ?_
      refine U_gf (v := (0, (M3 66 4))) (k := 4) (kI := 4) (pc' := 25) dX12_isHere_22 rfl cl12 (by decide) rfl (by decide) flX12_221 rfl rfl (by decide) rfl rfl ?_
      refine T_icmp_ne (pc' := 30) dX12_isHere_25 (by decide) (pf := 28) rfl (fun c7 => ?_) (fun c7 => ?_)
      · skip
        replace H := H.2 c7
        refine T_aload_n (i := 0) (pc' := 31) dX12_isHere_30 rfl rfl rfl ?_
        refine U_gf (v := (0, (M3 66 2))) (k := 2) (kI := 2) (pc' := 34) dX12_isHere_31 rfl cl12 (by decide) rfl (by decide) flX12_207 rfl rfl (by decide) rfl rfl ?_
        refine T_istore_n (i := 2) (L' := [(2, 66), (2, p1), (0, (M3 66 2)), (3, 0)]) (pc' := 35) dX12_isHere_34 rfl (by decide) rfl rfl ?_
        obtain ⟨k8, H⟩ := H
        refine T_wk (L' := [(2, 66), (2, p1), (0, (M3 66 2)), (3, 0)]) (qX12_isHere_35 h0p1 hSp1 hnp1 (fun u9 M10 H hG11 => ?_) _ _ _ H hG4) ⟨Or.inr rfl, Or.inr rfl, Or.inr rfl, Or.inl rfl, trivial⟩
        refine T_iload_n (i := 2) (pc' := 62) dX12_isHere_61 rfl rfl rfl ?_
        refine T_aload_n (i := 0) (pc' := 63) dX12_isHere_62 rfl rfl rfl ?_
        refine U_gf (v := (0, (M10 66 2))) (k := 2) (kI := 2) (pc' := 66) dX12_isHere_63 rfl cl12 (by decide) rfl (by decide) flX12_207 rfl rfl (by decide) rfl rfl ?_
        refine T_isub (pc' := 67) dX12_isHere_66 rfl ?_
        refine T_aload_n (i := 1) (pc' := 68) dX12_isHere_67 rfl rfl rfl ?_
        refine U_alen (nI := (np1 : Int)) (pc' := 69) dX12_isHere_68 (by decide) hnp1 hSp1 rfl rfl ?_
        refine T_icmp_eq (pc' := 74) dX12_isHere_69 (by decide) (pf := 72) rfl (fun c12 => ?_) (fun c12 => ?_)
        · skip
          replace H := H.1 c12
          refine T_iconst (pc' := 75) dX12_isHere_74 (by decide) rfl ?_
          refine T_istore_n (i := 3) (L' := [(2, 66), (2, p1), (0, u9), (0, 0)]) (pc' := 76) dX12_isHere_75 rfl (by decide) rfl rfl ?_
          obtain ⟨k13, H⟩ := H
          refine T_wk (L' := [(2, 66), (2, p1), (3, 0), (0, 0)]) (qX12_isHere_76 h0p1 hSp1 hnp1 (fun M14 H hG15 => ?_) _ _ _ H hG11) ⟨Or.inr rfl, Or.inr rfl, Or.inl rfl, Or.inr rfl, trivial⟩
          refine T_iconst (pc' := 108) dX12_isHere_107 (by decide) rfl ?_
          exact T_zret dX12_isHere_108 rfl (by decide) ⟨rfl, hG15, _, rfl, H⟩
        · skip
          replace H := H.2 c12
          refine T_iconst (pc' := 73) dX12_isHere_72 (by decide) rfl ?_
          exact T_zret dX12_isHere_73 rfl (by decide) ⟨rfl, hG11, _, rfl, H⟩
      · skip
        replace H := H.1 c7
        refine T_iconst (pc' := 29) dX12_isHere_28 (by decide) rfl ?_
        exact T_zret dX12_isHere_29 rfl (by decide) ⟨rfl, hG4, _, rfl, H⟩
def PX12_takes (p1 : Int) (np1 : Nat) (M : Mem) (Q : Int → Mem → Prop) : Prop :=
  PX12_isHere p1 np1 M (fun a1 M2 => ((a1 = 0 → Q 0 M2) ∧ (¬ (a1 = 0) → (∀ M6 : Mem, M6 = (mset M2 66 2 (wr32 ((M2 66 2) + (np1 : Int)))) → (∀ M8 : Mem, M8 = (mset M6 66 4 (M6 66 2)) → Q 1 M8)))))
set_option maxRecDepth 100000 in
set_option maxHeartbeats 2000000 in
theorem pX12_takes {E : EV} {h : Int} {M : Mem} {p1 : Int} {np1 : Nat} (h0p1 : 0 ≤ p1) (hSp1 : S0[p1.toNat]? = some (0, 4, np1)) (hnp1 : np1 < 2147483648) {Q : Int → Mem → Prop} (H : PX12_takes p1 np1 M Q) : C2 E miX12_takes 3 h [(2, 66), (2, p1)] M (RI 0 Q) := by
  refine C2_of (L := [(2, 66), (2, p1)]) (by decide +kernel) (Nat.le_of_ble_eq_true rfl) rfl (fun hG => ?_)
  refine T_aload_n (i := 0) (pc' := 1) dX12_takes_0 rfl rfl rfl ?_
  refine T_aload_n (i := 1) (pc' := 2) dX12_takes_1 rfl rfl rfl ?_
  refine T_callV (av := [(2, p1)]) (st := []) (d2 := 2) (nc2 := 0) (ns2 := 0) (pc' := 5) dX12_takes_2 rfl mtX12_isHere mvX12_isHere mlX12_224 cl12 rfl rfl rfl (Nat.le_of_ble_eq_true rfl) (by decide) ⟨by decide, by decide⟩ rfl (pX12_isHere (E := E) (h := h) (M := M) (p1 := p1) (np1 := np1) h0p1 hSp1 hnp1 H hG) ?_
  rintro _ _ M2 ⟨rfl, hG3, a1, rfl, H⟩ _
  refine T_if_ne (pc' := 10) dX12_takes_5 (by decide) (pf := 8) rfl (fun c4 => ?_) (fun c4 => ?_)
  · skip
    replace H := H.2 c4
    refine T_aload_n (i := 0) (pc' := 11) dX12_takes_10 rfl rfl rfl ?_
    refine T_dup (pc' := 12) dX12_takes_11 (Nat.ne_of_beq_eq_false rfl) rfl ?_
    refine U_gf (v := (0, (M2 66 2))) (k := 2) (kI := 2) (pc' := 15) dX12_takes_12 rfl cl12 (by decide) rfl (by decide) flX12_207 rfl rfl (by decide) rfl rfl ?_
    refine T_aload_n (i := 1) (pc' := 16) dX12_takes_15 rfl rfl rfl ?_
    refine U_alen (nI := (np1 : Int)) (pc' := 17) dX12_takes_16 (by decide) hnp1 hSp1 rfl rfl ?_
    refine T_iadd (pc' := 18) dX12_takes_17 rfl ?_
    refine U_pf (y := (wr32 ((M2 66 2) + (np1 : Int)))) (k := 2) (kI := 2) (pc' := 21) dX12_takes_18 rfl cl12 (by decide) rfl (by decide) flX12_207 rfl rfl rfl rfl rfl (by decide) (fun z => z) rfl ?_
    have hG5 := (G_fld (x := 66) (i := 2) (y := (wr32 ((M2 66 2) + (np1 : Int)))) rfl (by decide) (by decide) (by decide) hG3)
    obtain ⟨M6, eM6⟩ : ∃ m : Mem, m = (mset M2 66 2 (wr32 ((M2 66 2) + (np1 : Int)))) := ⟨_, rfl⟩
    rw [← eM6] at hG5 ⊢
    replace H := H M6 eM6
    refine T_aload_n (i := 0) (pc' := 22) dX12_takes_21 rfl rfl rfl ?_
    refine T_aload_n (i := 0) (pc' := 23) dX12_takes_22 rfl rfl rfl ?_
    refine U_gf (v := (0, (M6 66 2))) (k := 2) (kI := 2) (pc' := 26) dX12_takes_23 rfl cl12 (by decide) rfl (by decide) flX12_207 rfl rfl (by decide) rfl rfl ?_
    refine U_pf (y := (M6 66 2)) (k := 4) (kI := 4) (pc' := 29) dX12_takes_26 rfl cl12 (by decide) rfl (by decide) flX12_221 rfl rfl rfl rfl rfl (by decide) (fun z => z) rfl ?_
    have hG7 := (G_fld (x := 66) (i := 4) (y := (M6 66 2)) rfl (by decide) (by decide) (by decide) hG5)
    obtain ⟨M8, eM8⟩ : ∃ m : Mem, m = (mset M6 66 4 (M6 66 2)) := ⟨_, rfl⟩
    rw [← eM8] at hG7 ⊢
    replace H := H M8 eM8
    refine T_iconst (pc' := 30) dX12_takes_29 (by decide) rfl ?_
    exact T_zret dX12_takes_30 rfl (by decide) ⟨rfl, hG7, _, rfl, H⟩
  · skip
    replace H := H.1 c4
    refine T_iconst (pc' := 9) dX12_takes_8 (by decide) rfl ?_
    exact T_zret dX12_takes_9 rfl (by decide) ⟨rfl, hG3, _, rfl, H⟩
def PX12_asks (p1 : Int) (np1 : Nat) (M : Mem) (Q : Int → Mem → Prop) : Prop :=
  (((M 66 5) = 0 → PX12_takes p1 np1 M (fun a2 M3 => ((a2 = 0 → (∀ M7 : Mem, M7 = (fmX12_fail M3 1 (M3 66 2)) → Q 0 M7)) ∧ (¬ (a2 = 0) → Q 0 M3)))) ∧ (¬ ((M 66 5) = 0) → Q 0 M))
set_option maxRecDepth 100000 in
set_option maxHeartbeats 2000000 in
theorem pX12_asks {E : EV} {h : Int} {M : Mem} {p1 : Int} {np1 : Nat} (h0p1 : 0 ≤ p1) (hSp1 : S0[p1.toNat]? = some (0, 4, np1)) (hnp1 : np1 < 2147483648) {Q : Int → Mem → Prop} (H : PX12_asks p1 np1 M Q) : C2 E miX12_asks 4 h [(2, 66), (2, p1)] M (RV Q) := by
  refine C2_of (L := [(2, 66), (2, p1)]) (by decide +kernel) (Nat.le_of_ble_eq_true rfl) rfl (fun hG => ?_)
  refine T_aload_n (i := 0) (pc' := 1) dX12_asks_0 rfl rfl rfl ?_
  refine U_gf (v := (0, (M 66 5))) (k := 5) (kI := 5) (pc' := 4) dX12_asks_1 rfl cl12 (by decide) rfl (by decide) flX12_201 rfl rfl (by decide) rfl rfl ?_
  refine T_if_ne (pc' := 24) dX12_asks_4 (by decide) (pf := 7) rfl (fun c1 => ?_) (fun c1 => ?_)
  · skip
    replace H := H.2 c1
    exact T_vret dX12_asks_24 rfl ⟨rfl, hG, rfl, H⟩
  · skip
    replace H := H.1 c1
    refine T_aload_n (i := 0) (pc' := 8) dX12_asks_7 rfl rfl rfl ?_
    refine T_aload_n (i := 1) (pc' := 9) dX12_asks_8 rfl rfl rfl ?_
    refine T_callV (av := [(2, p1)]) (st := []) (d2 := 3) (nc2 := 0) (ns2 := 0) (pc' := 12) dX12_asks_9 rfl mtX12_takes mvX12_takes mlX12_228 cl12 rfl rfl rfl (Nat.le_of_ble_eq_true rfl) (by decide) ⟨by decide, by decide⟩ rfl (pX12_takes (E := E) (h := h) (M := M) (p1 := p1) (np1 := np1) h0p1 hSp1 hnp1 H hG) ?_
    rintro _ _ M3 ⟨rfl, hG4, a2, rfl, H⟩ _
    refine T_if_ne (pc' := 24) dX12_asks_12 (by decide) (pf := 15) rfl (fun c5 => ?_) (fun c5 => ?_)
    · skip
      replace H := H.2 c5
      exact T_vret dX12_asks_24 rfl ⟨rfl, hG4, rfl, H⟩
    · skip
      replace H := H.1 c5
      refine T_aload_n (i := 0) (pc' := 16) dX12_asks_15 rfl rfl rfl ?_
      refine T_iconst (pc' := 17) dX12_asks_16 (by decide) rfl ?_
      refine T_aload_n (i := 0) (pc' := 18) dX12_asks_17 rfl rfl rfl ?_
      refine U_gf (v := (0, (M3 66 2))) (k := 2) (kI := 2) (pc' := 21) dX12_asks_18 rfl cl12 (by decide) rfl (by decide) flX12_207 rfl rfl (by decide) rfl rfl ?_
      refine T_callV (av := [(0, 1), (0, (M3 66 2))]) (st := []) (d2 := 1) (nc2 := 0) (ns2 := 0) (pc' := 24) dX12_asks_21 rfl mtX12_fail mvX12_fail mlX12_231 cl12 rfl rfl rfl (Nat.le_of_ble_eq_true rfl) (by decide) ⟨by decide, by decide⟩ rfl (pX12_fail (E := E) (h := h) (M := M3) (v1 := 1) (v2 := (M3 66 2)) hG4) (kF (st2 := []) rfl (fun hG6 => ?_))
      obtain ⟨M7, eM7⟩ : ∃ m : Mem, m = (fmX12_fail M3 1 (M3 66 2)) := ⟨_, rfl⟩
      rw [← eM7] at hG6 ⊢
      replace H := H M7 eM7
      exact T_vret dX12_asks_24 rfl ⟨rfl, hG6, rfl, H⟩
def PX12_takesSign (v1 : Int) (M : Mem) (Q : Int → Mem → Prop) : Prop :=
  (((M 66 5) = 0 → PX12_look M (fun a2 M3 => ((a2 = v1 → (∀ M7 : Mem, M7 = (mset M3 66 2 (wr32 ((M3 66 2) + 1))) → Q 1 M7)) ∧ (¬ (a2 = v1) → Q 0 M3)))) ∧ (¬ ((M 66 5) = 0) → Q 0 M))
set_option maxRecDepth 100000 in
set_option maxHeartbeats 2000000 in
theorem pX12_takesSign {E : EV} {h : Int} {M : Mem} {v1 : Int}  {Q : Int → Mem → Prop} (H : PX12_takesSign v1 M Q) : C2 E miX12_takesSign 2 h [(2, 66), (0, v1)] M (RI 0 Q) := by
  refine C2_of (L := [(2, 66), (0, v1)]) (by decide +kernel) (Nat.le_of_ble_eq_true rfl) rfl (fun hG => ?_)
  refine T_aload_n (i := 0) (pc' := 1) dX12_takesSign_0 rfl rfl rfl ?_
  refine U_gf (v := (0, (M 66 5))) (k := 5) (kI := 5) (pc' := 4) dX12_takesSign_1 rfl cl12 (by decide) rfl (by decide) flX12_201 rfl rfl (by decide) rfl rfl ?_
  refine T_if_ne (pc' := 15) dX12_takesSign_4 (by decide) (pf := 7) rfl (fun c1 => ?_) (fun c1 => ?_)
  · skip
    replace H := H.2 c1
    refine T_iconst (pc' := 16) dX12_takesSign_15 (by decide) rfl ?_
    exact T_zret dX12_takesSign_16 rfl (by decide) ⟨rfl, hG, _, rfl, H⟩
  · skip
    replace H := H.1 c1
    refine T_aload_n (i := 0) (pc' := 8) dX12_takesSign_7 rfl rfl rfl ?_
    refine T_callV (av := []) (st := []) (d2 := 1) (nc2 := 0) (ns2 := 0) (pc' := 11) dX12_takesSign_8 rfl mtX12_look mvX12_look mlX12_213 cl12 rfl rfl rfl (Nat.le_of_ble_eq_true rfl) (by decide) ⟨by decide, by decide⟩ rfl (pX12_look (E := E) (h := h) (M := M) H hG) ?_
    rintro _ _ M3 ⟨rfl, hG4, a2, rfl, H⟩ _
    refine T_iload_n (i := 1) (pc' := 12) dX12_takesSign_11 rfl rfl rfl ?_
    refine T_icmp_eq (pc' := 17) dX12_takesSign_12 (by decide) (pf := 15) rfl (fun c5 => ?_) (fun c5 => ?_)
    · skip
      replace H := H.1 c5
      refine T_aload_n (i := 0) (pc' := 18) dX12_takesSign_17 rfl rfl rfl ?_
      refine T_dup (pc' := 19) dX12_takesSign_18 (Nat.ne_of_beq_eq_false rfl) rfl ?_
      refine U_gf (v := (0, (M3 66 2))) (k := 2) (kI := 2) (pc' := 22) dX12_takesSign_19 rfl cl12 (by decide) rfl (by decide) flX12_207 rfl rfl (by decide) rfl rfl ?_
      refine T_iconst (pc' := 23) dX12_takesSign_22 (by decide) rfl ?_
      refine T_iadd (pc' := 24) dX12_takesSign_23 rfl ?_
      refine U_pf (y := (wr32 ((M3 66 2) + 1))) (k := 2) (kI := 2) (pc' := 27) dX12_takesSign_24 rfl cl12 (by decide) rfl (by decide) flX12_207 rfl rfl rfl rfl rfl (by decide) (fun z => z) rfl ?_
      have hG6 := (G_fld (x := 66) (i := 2) (y := (wr32 ((M3 66 2) + 1))) rfl (by decide) (by decide) (by decide) hG4)
      obtain ⟨M7, eM7⟩ : ∃ m : Mem, m = (mset M3 66 2 (wr32 ((M3 66 2) + 1))) := ⟨_, rfl⟩
      rw [← eM7] at hG6 ⊢
      replace H := H M7 eM7
      refine T_iconst (pc' := 28) dX12_takesSign_27 (by decide) rfl ?_
      exact T_zret dX12_takesSign_28 rfl (by decide) ⟨rfl, hG6, _, rfl, H⟩
    · skip
      replace H := H.2 c5
      refine T_iconst (pc' := 16) dX12_takesSign_15 (by decide) rfl ?_
      exact T_zret dX12_takesSign_16 rfl (by decide) ⟨rfl, hG4, _, rfl, H⟩
def PX12_asksSign (v1 : Int) (M : Mem) (Q : Int → Mem → Prop) : Prop :=
  (((M 66 5) = 0 → PX12_takesSign v1 M (fun a2 M3 => ((a2 = 0 → (∀ M7 : Mem, M7 = (fmX12_fail M3 1 (M3 66 2)) → Q 0 M7)) ∧ (¬ (a2 = 0) → Q 0 M3)))) ∧ (¬ ((M 66 5) = 0) → Q 0 M))
set_option maxRecDepth 100000 in
set_option maxHeartbeats 2000000 in
theorem pX12_asksSign {E : EV} {h : Int} {M : Mem} {v1 : Int}  {Q : Int → Mem → Prop} (H : PX12_asksSign v1 M Q) : C2 E miX12_asksSign 3 h [(2, 66), (0, v1)] M (RV Q) := by
  refine C2_of (L := [(2, 66), (0, v1)]) (by decide +kernel) (Nat.le_of_ble_eq_true rfl) rfl (fun hG => ?_)
  refine T_aload_n (i := 0) (pc' := 1) dX12_asksSign_0 rfl rfl rfl ?_
  refine U_gf (v := (0, (M 66 5))) (k := 5) (kI := 5) (pc' := 4) dX12_asksSign_1 rfl cl12 (by decide) rfl (by decide) flX12_201 rfl rfl (by decide) rfl rfl ?_
  refine T_if_ne (pc' := 24) dX12_asksSign_4 (by decide) (pf := 7) rfl (fun c1 => ?_) (fun c1 => ?_)
  · skip
    replace H := H.2 c1
    exact T_vret dX12_asksSign_24 rfl ⟨rfl, hG, rfl, H⟩
  · skip
    replace H := H.1 c1
    refine T_aload_n (i := 0) (pc' := 8) dX12_asksSign_7 rfl rfl rfl ?_
    refine T_iload_n (i := 1) (pc' := 9) dX12_asksSign_8 rfl rfl rfl ?_
    refine T_callV (av := [(0, v1)]) (st := []) (d2 := 2) (nc2 := 0) (ns2 := 0) (pc' := 12) dX12_asksSign_9 rfl mtX12_takesSign mvX12_takesSign mlX12_235 cl12 rfl rfl rfl (Nat.le_of_ble_eq_true rfl) (by decide) ⟨by decide, by decide⟩ rfl (pX12_takesSign (E := E) (h := h) (M := M) (v1 := v1) H hG) ?_
    rintro _ _ M3 ⟨rfl, hG4, a2, rfl, H⟩ _
    refine T_if_ne (pc' := 24) dX12_asksSign_12 (by decide) (pf := 15) rfl (fun c5 => ?_) (fun c5 => ?_)
    · skip
      replace H := H.2 c5
      exact T_vret dX12_asksSign_24 rfl ⟨rfl, hG4, rfl, H⟩
    · skip
      replace H := H.1 c5
      refine T_aload_n (i := 0) (pc' := 16) dX12_asksSign_15 rfl rfl rfl ?_
      refine T_iconst (pc' := 17) dX12_asksSign_16 (by decide) rfl ?_
      refine T_aload_n (i := 0) (pc' := 18) dX12_asksSign_17 rfl rfl rfl ?_
      refine U_gf (v := (0, (M3 66 2))) (k := 2) (kI := 2) (pc' := 21) dX12_asksSign_18 rfl cl12 (by decide) rfl (by decide) flX12_207 rfl rfl (by decide) rfl rfl ?_
      refine T_callV (av := [(0, 1), (0, (M3 66 2))]) (st := []) (d2 := 1) (nc2 := 0) (ns2 := 0) (pc' := 24) dX12_asksSign_21 rfl mtX12_fail mvX12_fail mlX12_231 cl12 rfl rfl rfl (Nat.le_of_ble_eq_true rfl) (by decide) ⟨by decide, by decide⟩ rfl (pX12_fail (E := E) (h := h) (M := M3) (v1 := 1) (v2 := (M3 66 2)) hG4) (kF (st2 := []) rfl (fun hG6 => ?_))
      obtain ⟨M7, eM7⟩ : ∃ m : Mem, m = (fmX12_fail M3 1 (M3 66 2)) := ⟨_, rfl⟩
      rw [← eM7] at hG6 ⊢
      replace H := H M7 eM7
      exact T_vret dX12_asksSign_24 rfl ⟨rfl, hG6, rfl, H⟩
def PX12_number_49 (v3 : Int) (K : Int → Mem → Prop) (Q : Int → Mem → Prop) : Nat → Int → Mem → Prop
  | 0 => fun _ _ => False
  | k + 1 => fun v4 M => (((M 66 3) ≤ (M 66 2) → K v4 M) ∧ (¬ ((M 66 3) ≤ (M 66 2)) → 0 ≤ (M 66 2) ∧ (M 66 2) < 1600 ∧ (((fX12_isDigit (M 67 (M 66 2))) = 0 → K v4 M) ∧ (¬ ((fX12_isDigit (M 67 (M 66 2))) = 0) → (((wr32 ((M 66 2) - v3)) = 4 → (∀ M8 : Mem, M8 = (fmX12_fail M 1 (M 66 2)) → Q 0 M8)) ∧ (¬ ((wr32 ((M 66 2) - v3)) = 4) → 0 ≤ (M 66 2) ∧ (M 66 2) < 1600 ∧ (∀ M6 : Mem, M6 = (mset M 66 2 (wr32 ((M 66 2) + 1))) → PX12_number_49 v3 K Q k (wr32 ((wr32 ((wr32 (10 * v4)) + (M 67 (M 66 2)))) - 48)) M6)))))))
def PX12_number (v1 : Int) (v2 : Int) (M : Mem) (Q : Int → Mem → Prop) : Prop :=
  (((M 66 5) = 0 → PX12_look M (fun a2 M3 => (((fX12_isDigit a2) = 0 → (∀ M8 : Mem, M8 = (fmX12_fail M3 1 (M3 66 2)) → Q 0 M8)) ∧ (¬ ((fX12_isDigit a2) = 0) → (((M3 66 2) = (M3 66 4) → (∀ M23 : Mem, M23 = (fmX12_fail M3 1 (M3 66 2)) → Q 0 M23)) ∧ (¬ ((M3 66 2) = (M3 66 4)) → (∃ k10 : Nat, PX12_number_49 (M3 66 2) (fun u11 M12 => (∀ M15 : Mem, M15 = (mset M12 66 4 (M12 66 2)) → (∀ M17 : Mem, M17 = (mset M15 66 9 (M3 66 2)) → (((fX12_isIn u11 v1 v2) = 0 → (∀ M21 : Mem, M21 = (fmX12_fail M17 2 (M3 66 2)) → Q u11 M21)) ∧ (¬ ((fX12_isIn u11 v1 v2) = 0) → Q u11 M17))))) Q k10 0 M3))))))) ∧ (¬ ((M 66 5) = 0) → Q 0 M))
set_option maxRecDepth 100000 in
set_option maxHeartbeats 2000000 in
theorem qX12_number_49 {E : EV} {h : Int} {v1 : Int} {v2 : Int} {v3 : Int}  {K : Int → Mem → Prop} {Q : Int → Mem → Prop} (hK : ∀ (v4 : Int) (M : Mem), K v4 M → G h M → TG E miX12_number 2 h (RI 0 Q) 129 [(2, 66), (0, v1), (0, v2), (0, v3), (0, v4)] [] M) : ∀ (k : Nat) (v4 : Int) (M : Mem), PX12_number_49 v3 K Q k v4 M → G h M → TG E miX12_number 2 h (RI 0 Q) 49 [(2, 66), (0, v1), (0, v2), (0, v3), (0, v4)] [] M := by
  intro k
  induction k with
  | zero =>
    intro v4 M H
    exact False.elim H
  | succ k ih =>
    intro v4 M H hG
    refine T_aload_n (i := 0) (pc' := 50) dX12_number_49 rfl rfl rfl ?_
    refine U_gf (v := (0, (M 66 2))) (k := 2) (kI := 2) (pc' := 53) dX12_number_50 rfl cl12 (by decide) rfl (by decide) flX12_207 rfl rfl (by decide) rfl rfl ?_
    refine T_aload_n (i := 0) (pc' := 54) dX12_number_53 rfl rfl rfl ?_
    refine U_gf (v := (0, (M 66 3))) (k := 3) (kI := 3) (pc' := 57) dX12_number_54 rfl cl12 (by decide) rfl (by decide) flX12_210 rfl rfl (by decide) rfl rfl ?_
    refine T_icmp_ge (pc' := 129) dX12_number_57 (by decide) (pf := 60) rfl (fun c1 => ?_) (fun c1 => ?_)
    · skip
      replace H := H.1 c1
      exact T_wk (L' := [(2, 66), (0, v1), (0, v2), (0, v3), (0, v4)]) (hK _ _ H hG) ⟨Or.inr rfl, Or.inr rfl, Or.inr rfl, Or.inr rfl, Or.inr rfl, trivial⟩
    · skip
      replace H := H.2 c1
      refine T_aload_n (i := 0) (pc' := 61) dX12_number_60 rfl rfl rfl ?_
      refine U_gr (q := 67) (k := 0) (kI := 0) (pc' := 64) dX12_number_61 rfl cl12 (by decide) rfl (by decide) flX12_7 rfl rfl rfl (G_at hG 67 rfl) (by decide) rfl ?_
      refine T_aload_n (i := 0) (pc' := 65) dX12_number_64 rfl rfl rfl ?_
      refine U_gf (v := (0, (M 66 2))) (k := 2) (kI := 2) (pc' := 68) dX12_number_65 rfl cl12 (by decide) rfl (by decide) flX12_207 rfl rfl (by decide) rfl rfl ?_
      obtain ⟨z1, z2, H⟩ := H
      refine T_iald (pc' := 69) dX12_number_68 (by decide) rfl z1 z2 rfl ?_
      refine T_callS (av := [(0, (M 67 (M 66 2)))]) (st := []) (d2 := 1) (nc2 := 0) (ns2 := 0) (pc' := 72) dX12_number_69 rfl mtX12_isDigit mvX12_isDigit mlX12_238 rfl rfl (Nat.le_of_ble_eq_true rfl) (by decide) ⟨by decide, by decide⟩ rfl (pX12_isDigit (E := E) (h := h) (M := M) (v0 := (M 67 (M 66 2))) hG) (kF (st2 := [(0, (fX12_isDigit (M 67 (M 66 2))))]) rfl (fun hG2 => ?_))
      refine T_if_eq (pc' := 129) dX12_number_72 (by decide) (pf := 75) rfl (fun c3 => ?_) (fun c3 => ?_)
      · skip
        replace H := H.1 c3
        exact T_wk (L' := [(2, 66), (0, v1), (0, v2), (0, v3), (0, v4)]) (hK _ _ H hG) ⟨Or.inr rfl, Or.inr rfl, Or.inr rfl, Or.inr rfl, Or.inr rfl, trivial⟩
      · skip
        replace H := H.2 c3
        refine T_aload_n (i := 0) (pc' := 76) dX12_number_75 rfl rfl rfl ?_
        refine U_gf (v := (0, (M 66 2))) (k := 2) (kI := 2) (pc' := 79) dX12_number_76 rfl cl12 (by decide) rfl (by decide) flX12_207 rfl rfl (by decide) rfl rfl ?_
        refine T_iload_n (i := 3) (pc' := 80) dX12_number_79 rfl rfl rfl ?_
        refine T_isub (pc' := 81) dX12_number_80 rfl ?_
        refine T_iconst (pc' := 82) dX12_number_81 (by decide) rfl ?_
        refine T_icmp_ne (pc' := 96) dX12_number_82 (by decide) (pf := 85) rfl (fun c4 => ?_) (fun c4 => ?_)
        · skip
          replace H := H.2 c4
          refine T_bipush (pc' := 98) dX12_number_96 rfl (by decide) rfl ?_
          refine T_iload (i := 4) (pc' := 100) dX12_number_98 rfl rfl ?_
          refine T_imul (pc' := 101) dX12_number_100 rfl ?_
          refine T_aload_n (i := 0) (pc' := 102) dX12_number_101 rfl rfl rfl ?_
          refine U_gr (q := 67) (k := 0) (kI := 0) (pc' := 105) dX12_number_102 rfl cl12 (by decide) rfl (by decide) flX12_7 rfl rfl rfl (G_at hG 67 rfl) (by decide) rfl ?_
          refine T_aload_n (i := 0) (pc' := 106) dX12_number_105 rfl rfl rfl ?_
          refine U_gf (v := (0, (M 66 2))) (k := 2) (kI := 2) (pc' := 109) dX12_number_106 rfl cl12 (by decide) rfl (by decide) flX12_207 rfl rfl (by decide) rfl rfl ?_
          obtain ⟨z1, z2, H⟩ := H
          refine T_iald (pc' := 110) dX12_number_109 (by decide) rfl z1 z2 rfl ?_
          refine T_iadd (pc' := 111) dX12_number_110 rfl ?_
          refine T_bipush (pc' := 113) dX12_number_111 rfl (by decide) rfl ?_
          refine T_isub (pc' := 114) dX12_number_113 rfl ?_
          refine T_istore (i := 4) (L' := [(2, 66), (0, v1), (0, v2), (0, v3), (0, (wr32 ((wr32 ((wr32 (10 * v4)) + (M 67 (M 66 2)))) - 48)))]) (pc' := 116) dX12_number_114 (by decide) rfl rfl ?_
          refine T_aload_n (i := 0) (pc' := 117) dX12_number_116 rfl rfl rfl ?_
          refine T_dup (pc' := 118) dX12_number_117 (Nat.ne_of_beq_eq_false rfl) rfl ?_
          refine U_gf (v := (0, (M 66 2))) (k := 2) (kI := 2) (pc' := 121) dX12_number_118 rfl cl12 (by decide) rfl (by decide) flX12_207 rfl rfl (by decide) rfl rfl ?_
          refine T_iconst (pc' := 122) dX12_number_121 (by decide) rfl ?_
          refine T_iadd (pc' := 123) dX12_number_122 rfl ?_
          refine U_pf (y := (wr32 ((M 66 2) + 1))) (k := 2) (kI := 2) (pc' := 126) dX12_number_123 rfl cl12 (by decide) rfl (by decide) flX12_207 rfl rfl rfl rfl rfl (by decide) (fun z => z) rfl ?_
          have hG5 := (G_fld (x := 66) (i := 2) (y := (wr32 ((M 66 2) + 1))) rfl (by decide) (by decide) (by decide) hG)
          obtain ⟨M6, eM6⟩ : ∃ m : Mem, m = (mset M 66 2 (wr32 ((M 66 2) + 1))) := ⟨_, rfl⟩
          rw [← eM6] at hG5 ⊢
          replace H := H M6 eM6
          refine T_goto (pc' := 49) dX12_number_126 (by decide) ?_
          exact T_wk (L' := [(2, 66), (0, v1), (0, v2), (0, v3), (0, (wr32 ((wr32 ((wr32 (10 * v4)) + (M 67 (M 66 2)))) - 48)))]) (ih _ _ H hG5) ⟨Or.inr rfl, Or.inr rfl, Or.inr rfl, Or.inr rfl, Or.inr rfl, trivial⟩
        · skip
          replace H := H.1 c4
          refine T_aload_n (i := 0) (pc' := 86) dX12_number_85 rfl rfl rfl ?_
          refine T_iconst (pc' := 87) dX12_number_86 (by decide) rfl ?_
          refine T_aload_n (i := 0) (pc' := 88) dX12_number_87 rfl rfl rfl ?_
          refine U_gf (v := (0, (M 66 2))) (k := 2) (kI := 2) (pc' := 91) dX12_number_88 rfl cl12 (by decide) rfl (by decide) flX12_207 rfl rfl (by decide) rfl rfl ?_
          refine T_callV (av := [(0, 1), (0, (M 66 2))]) (st := []) (d2 := 1) (nc2 := 0) (ns2 := 0) (pc' := 94) dX12_number_91 rfl mtX12_fail mvX12_fail mlX12_231 cl12 rfl rfl rfl (Nat.le_of_ble_eq_true rfl) (by decide) ⟨by decide, by decide⟩ rfl (pX12_fail (E := E) (h := h) (M := M) (v1 := 1) (v2 := (M 66 2)) hG) (kF (st2 := []) rfl (fun hG7 => ?_))
          obtain ⟨M8, eM8⟩ : ∃ m : Mem, m = (fmX12_fail M 1 (M 66 2)) := ⟨_, rfl⟩
          rw [← eM8] at hG7 ⊢
          replace H := H M8 eM8
          refine T_iconst (pc' := 95) dX12_number_94 (by decide) rfl ?_
          exact T_iret dX12_number_95 rfl ⟨rfl, hG7, _, rfl, H⟩
set_option maxRecDepth 100000 in
set_option maxHeartbeats 2000000 in
theorem pX12_number {E : EV} {h : Int} {M : Mem} {v1 : Int} {v2 : Int}  {Q : Int → Mem → Prop} (H : PX12_number v1 v2 M Q) : C2 E miX12_number 2 h [(2, 66), (0, v1), (0, v2)] M (RI 0 Q) := by
  refine C2_of (L := [(2, 66), (0, v1), (0, v2), (3, 0), (3, 0)]) (by decide +kernel) (Nat.le_of_ble_eq_true rfl) rfl (fun hG => ?_)
  refine T_aload_n (i := 0) (pc' := 1) dX12_number_0 rfl rfl rfl ?_
  refine U_gf (v := (0, (M 66 5))) (k := 5) (kI := 5) (pc' := 4) dX12_number_1 rfl cl12 (by decide) rfl (by decide) flX12_201 rfl rfl (by decide) rfl rfl ?_
  refine T_if_eq (pc' := 9) dX12_number_4 (by decide) (pf := 7) rfl (fun c1 => ?_) (fun c1 => ?_)
  · skip
    replace H := H.1 c1
    refine T_aload_n (i := 0) (pc' := 10) dX12_number_9 rfl rfl rfl ?_
    refine T_callV (av := []) (st := []) (d2 := 1) (nc2 := 0) (ns2 := 0) (pc' := 13) dX12_number_10 rfl mtX12_look mvX12_look mlX12_213 cl12 rfl rfl rfl (Nat.le_of_ble_eq_true rfl) (by decide) ⟨by decide, by decide⟩ rfl (pX12_look (E := E) (h := h) (M := M) H hG) ?_
    rintro _ _ M3 ⟨rfl, hG4, a2, rfl, H⟩ _
    refine T_callS (av := [(0, a2)]) (st := []) (d2 := 1) (nc2 := 0) (ns2 := 0) (pc' := 16) dX12_number_13 rfl mtX12_isDigit mvX12_isDigit mlX12_238 rfl rfl (Nat.le_of_ble_eq_true rfl) (by decide) ⟨by decide, by decide⟩ rfl (pX12_isDigit (E := E) (h := h) (M := M3) (v0 := a2) hG4) (kF (st2 := [(0, (fX12_isDigit a2))]) rfl (fun hG5 => ?_))
    refine T_if_eq (pc' := 30) dX12_number_16 (by decide) (pf := 19) rfl (fun c6 => ?_) (fun c6 => ?_)
    · skip
      replace H := H.1 c6
      refine T_aload_n (i := 0) (pc' := 31) dX12_number_30 rfl rfl rfl ?_
      refine T_iconst (pc' := 32) dX12_number_31 (by decide) rfl ?_
      refine T_aload_n (i := 0) (pc' := 33) dX12_number_32 rfl rfl rfl ?_
      refine U_gf (v := (0, (M3 66 2))) (k := 2) (kI := 2) (pc' := 36) dX12_number_33 rfl cl12 (by decide) rfl (by decide) flX12_207 rfl rfl (by decide) rfl rfl ?_
      refine T_callV (av := [(0, 1), (0, (M3 66 2))]) (st := []) (d2 := 1) (nc2 := 0) (ns2 := 0) (pc' := 39) dX12_number_36 rfl mtX12_fail mvX12_fail mlX12_231 cl12 rfl rfl rfl (Nat.le_of_ble_eq_true rfl) (by decide) ⟨by decide, by decide⟩ rfl (pX12_fail (E := E) (h := h) (M := M3) (v1 := 1) (v2 := (M3 66 2)) hG4) (kF (st2 := []) rfl (fun hG7 => ?_))
      obtain ⟨M8, eM8⟩ : ∃ m : Mem, m = (fmX12_fail M3 1 (M3 66 2)) := ⟨_, rfl⟩
      rw [← eM8] at hG7 ⊢
      replace H := H M8 eM8
      refine T_iconst (pc' := 40) dX12_number_39 (by decide) rfl ?_
      exact T_iret dX12_number_40 rfl ⟨rfl, hG7, _, rfl, H⟩
    · skip
      replace H := H.2 c6
      refine T_aload_n (i := 0) (pc' := 20) dX12_number_19 rfl rfl rfl ?_
      refine U_gf (v := (0, (M3 66 2))) (k := 2) (kI := 2) (pc' := 23) dX12_number_20 rfl cl12 (by decide) rfl (by decide) flX12_207 rfl rfl (by decide) rfl rfl ?_
      refine T_aload_n (i := 0) (pc' := 24) dX12_number_23 rfl rfl rfl ?_
      refine U_gf (v := (0, (M3 66 4))) (k := 4) (kI := 4) (pc' := 27) dX12_number_24 rfl cl12 (by decide) rfl (by decide) flX12_221 rfl rfl (by decide) rfl rfl ?_
      refine T_icmp_ne (pc' := 41) dX12_number_27 (by decide) (pf := 30) rfl (fun c9 => ?_) (fun c9 => ?_)
      · skip
        replace H := H.2 c9
        refine T_aload_n (i := 0) (pc' := 42) dX12_number_41 rfl rfl rfl ?_
        refine U_gf (v := (0, (M3 66 2))) (k := 2) (kI := 2) (pc' := 45) dX12_number_42 rfl cl12 (by decide) rfl (by decide) flX12_207 rfl rfl (by decide) rfl rfl ?_
        refine T_istore_n (i := 3) (L' := [(2, 66), (0, v1), (0, v2), (0, (M3 66 2)), (3, 0)]) (pc' := 46) dX12_number_45 rfl (by decide) rfl rfl ?_
        refine T_iconst (pc' := 47) dX12_number_46 (by decide) rfl ?_
        refine T_istore (i := 4) (L' := [(2, 66), (0, v1), (0, v2), (0, (M3 66 2)), (0, 0)]) (pc' := 49) dX12_number_47 (by decide) rfl rfl ?_
        obtain ⟨k10, H⟩ := H
        refine T_wk (L' := [(2, 66), (0, v1), (0, v2), (0, (M3 66 2)), (0, 0)]) (qX12_number_49 (v1 := v1) (v2 := v2) (v3 := (M3 66 2)) (fun u11 M12 H hG13 => ?_) _ _ _ H hG4) ⟨Or.inr rfl, Or.inr rfl, Or.inr rfl, Or.inr rfl, Or.inr rfl, trivial⟩
        refine T_aload_n (i := 0) (pc' := 130) dX12_number_129 rfl rfl rfl ?_
        refine T_aload_n (i := 0) (pc' := 131) dX12_number_130 rfl rfl rfl ?_
        refine U_gf (v := (0, (M12 66 2))) (k := 2) (kI := 2) (pc' := 134) dX12_number_131 rfl cl12 (by decide) rfl (by decide) flX12_207 rfl rfl (by decide) rfl rfl ?_
        refine U_pf (y := (M12 66 2)) (k := 4) (kI := 4) (pc' := 137) dX12_number_134 rfl cl12 (by decide) rfl (by decide) flX12_221 rfl rfl rfl rfl rfl (by decide) (fun z => z) rfl ?_
        have hG14 := (G_fld (x := 66) (i := 4) (y := (M12 66 2)) rfl (by decide) (by decide) (by decide) hG13)
        obtain ⟨M15, eM15⟩ : ∃ m : Mem, m = (mset M12 66 4 (M12 66 2)) := ⟨_, rfl⟩
        rw [← eM15] at hG14 ⊢
        replace H := H M15 eM15
        refine T_aload_n (i := 0) (pc' := 138) dX12_number_137 rfl rfl rfl ?_
        refine T_iload_n (i := 3) (pc' := 139) dX12_number_138 rfl rfl rfl ?_
        refine U_pf (y := (M3 66 2)) (k := 9) (kI := 9) (pc' := 142) dX12_number_139 rfl cl12 (by decide) rfl (by decide) flX12_241 rfl rfl rfl rfl rfl (by decide) (fun z => z) rfl ?_
        have hG16 := (G_fld (x := 66) (i := 9) (y := (M3 66 2)) rfl (by decide) (by decide) (by decide) hG14)
        obtain ⟨M17, eM17⟩ : ∃ m : Mem, m = (mset M15 66 9 (M3 66 2)) := ⟨_, rfl⟩
        rw [← eM17] at hG16 ⊢
        replace H := H M17 eM17
        refine T_iload (i := 4) (pc' := 144) dX12_number_142 rfl rfl ?_
        refine T_i2l (pc' := 145) dX12_number_144 rfl ?_
        refine T_iload_n (i := 1) (pc' := 146) dX12_number_145 rfl rfl rfl ?_
        refine T_i2l (pc' := 147) dX12_number_146 rfl ?_
        refine T_iload_n (i := 2) (pc' := 148) dX12_number_147 rfl rfl rfl ?_
        refine T_i2l (pc' := 149) dX12_number_148 rfl ?_
        refine T_callS (av := [(1, u11), (1, v1), (1, v2)]) (st := []) (d2 := 1) (nc2 := 0) (ns2 := 0) (pc' := 152) dX12_number_149 rfl mtX12_isIn mvX12_isIn mlX12_244 rfl rfl (Nat.le_of_ble_eq_true rfl) (by decide) ⟨by decide, by decide⟩ rfl (pX12_isIn (E := E) (h := h) (M := M17) (v0 := u11) (v2 := v1) (v4 := v2) hG16) (kF (st2 := [(0, (fX12_isIn u11 v1 v2))]) rfl (fun hG18 => ?_))
        refine T_if_ne (pc' := 161) dX12_number_152 (by decide) (pf := 155) rfl (fun c19 => ?_) (fun c19 => ?_)
        · skip
          replace H := H.2 c19
          refine T_iload (i := 4) (pc' := 163) dX12_number_161 rfl rfl ?_
          exact T_iret dX12_number_163 rfl ⟨rfl, hG16, _, rfl, H⟩
        · skip
          replace H := H.1 c19
          refine T_aload_n (i := 0) (pc' := 156) dX12_number_155 rfl rfl rfl ?_
          refine T_iconst (pc' := 157) dX12_number_156 (by decide) rfl ?_
          refine T_iload_n (i := 3) (pc' := 158) dX12_number_157 rfl rfl rfl ?_
          refine T_callV (av := [(0, 2), (0, (M3 66 2))]) (st := []) (d2 := 1) (nc2 := 0) (ns2 := 0) (pc' := 161) dX12_number_158 rfl mtX12_fail mvX12_fail mlX12_231 cl12 rfl rfl rfl (Nat.le_of_ble_eq_true rfl) (by decide) ⟨by decide, by decide⟩ rfl (pX12_fail (E := E) (h := h) (M := M17) (v1 := 2) (v2 := (M3 66 2)) hG16) (kF (st2 := []) rfl (fun hG20 => ?_))
          obtain ⟨M21, eM21⟩ : ∃ m : Mem, m = (fmX12_fail M17 2 (M3 66 2)) := ⟨_, rfl⟩
          rw [← eM21] at hG20 ⊢
          replace H := H M21 eM21
          refine T_iload (i := 4) (pc' := 163) dX12_number_161 rfl rfl ?_
          exact T_iret dX12_number_163 rfl ⟨rfl, hG20, _, rfl, H⟩
      · skip
        replace H := H.1 c9
        refine T_aload_n (i := 0) (pc' := 31) dX12_number_30 rfl rfl rfl ?_
        refine T_iconst (pc' := 32) dX12_number_31 (by decide) rfl ?_
        refine T_aload_n (i := 0) (pc' := 33) dX12_number_32 rfl rfl rfl ?_
        refine U_gf (v := (0, (M3 66 2))) (k := 2) (kI := 2) (pc' := 36) dX12_number_33 rfl cl12 (by decide) rfl (by decide) flX12_207 rfl rfl (by decide) rfl rfl ?_
        refine T_callV (av := [(0, 1), (0, (M3 66 2))]) (st := []) (d2 := 1) (nc2 := 0) (ns2 := 0) (pc' := 39) dX12_number_36 rfl mtX12_fail mvX12_fail mlX12_231 cl12 rfl rfl rfl (Nat.le_of_ble_eq_true rfl) (by decide) ⟨by decide, by decide⟩ rfl (pX12_fail (E := E) (h := h) (M := M3) (v1 := 1) (v2 := (M3 66 2)) hG4) (kF (st2 := []) rfl (fun hG22 => ?_))
        obtain ⟨M23, eM23⟩ : ∃ m : Mem, m = (fmX12_fail M3 1 (M3 66 2)) := ⟨_, rfl⟩
        rw [← eM23] at hG22 ⊢
        replace H := H M23 eM23
        refine T_iconst (pc' := 40) dX12_number_39 (by decide) rfl ?_
        exact T_iret dX12_number_40 rfl ⟨rfl, hG22, _, rfl, H⟩
  · skip
    replace H := H.2 c1
    refine T_iconst (pc' := 8) dX12_number_7 (by decide) rfl ?_
    exact T_iret dX12_number_8 rfl ⟨rfl, hG, _, rfl, H⟩
def PX12_signed (v1 : Int) (M : Mem) (Q : Int → Mem → Prop) : Prop :=
  (((M 66 5) = 0 → PX12_look M (fun a2 M3 => (∃ j6 : Mem → Prop, (∀ (M7 : Mem), j6 M7 → PX12_number 0 9999 M7 (fun a9 M10 => (((M10 66 5) = 0 → ((a9 ≤ v1 → Q (if (if a2 = 45 then (1 : Int) else 0) = 0 then a9 else (wr32 (-a9))) M10) ∧ (¬ (a9 ≤ v1) → (∀ M19 : Mem, M19 = (fmX12_fail M10 2 (M3 66 2)) → Q (if (if a2 = 45 then (1 : Int) else 0) = 0 then a9 else (wr32 (-a9))) M19)))) ∧ (¬ ((M10 66 5) = 0) → Q (if (if a2 = 45 then (1 : Int) else 0) = 0 then a9 else (wr32 (-a9))) M10)))) ∧ (((if a2 = 45 then (1 : Int) else 0) = 0 → j6 M3) ∧ (¬ ((if a2 = 45 then (1 : Int) else 0) = 0) → (∀ M24 : Mem, M24 = (mset M3 66 2 (wr32 ((M3 66 2) + 1))) → j6 M24)))))) ∧ (¬ ((M 66 5) = 0) → Q 0 M))
set_option maxRecDepth 100000 in
set_option maxHeartbeats 2000000 in
theorem pX12_signed {E : EV} {h : Int} {M : Mem} {v1 : Int}  {Q : Int → Mem → Prop} (H : PX12_signed v1 M Q) : C2 E miX12_signed 3 h [(2, 66), (0, v1)] M (RI 0 Q) := by
  refine C2_of (L := [(2, 66), (0, v1), (3, 0), (3, 0), (3, 0)]) (by decide +kernel) (Nat.le_of_ble_eq_true rfl) rfl (fun hG => ?_)
  refine T_aload_n (i := 0) (pc' := 1) dX12_signed_0 rfl rfl rfl ?_
  refine U_gf (v := (0, (M 66 5))) (k := 5) (kI := 5) (pc' := 4) dX12_signed_1 rfl cl12 (by decide) rfl (by decide) flX12_201 rfl rfl (by decide) rfl rfl ?_
  refine T_if_eq (pc' := 9) dX12_signed_4 (by decide) (pf := 7) rfl (fun c1 => ?_) (fun c1 => ?_)
  · skip
    replace H := H.1 c1
    refine T_aload_n (i := 0) (pc' := 10) dX12_signed_9 rfl rfl rfl ?_
    refine T_callV (av := []) (st := []) (d2 := 1) (nc2 := 0) (ns2 := 0) (pc' := 13) dX12_signed_10 rfl mtX12_look mvX12_look mlX12_213 cl12 rfl rfl rfl (Nat.le_of_ble_eq_true rfl) (by decide) ⟨by decide, by decide⟩ rfl (pX12_look (E := E) (h := h) (M := M) H hG) ?_
    rintro _ _ M3 ⟨rfl, hG4, a2, rfl, H⟩ _
    refine T_bipush (pc' := 15) dX12_signed_13 rfl (by decide) rfl ?_
    have HJ5 : T E miX12_signed 3 126 0 0 (fun r S M' => S = S0 ∧ G h M' ∧ RI 0 Q r M') 23 [(2, 66), (0, v1), (3, 0), (3, 0), (3, 0)] [(0, (if a2 = 45 then (1 : Int) else 0))] S0 M3 0 0 := by
      refine T_istore_n (i := 2) (L' := [(2, 66), (0, v1), (0, (if a2 = 45 then (1 : Int) else 0)), (3, 0), (3, 0)]) (pc' := 24) dX12_signed_23 rfl (by decide) rfl rfl ?_
      refine T_aload_n (i := 0) (pc' := 25) dX12_signed_24 rfl rfl rfl ?_
      refine U_gf (v := (0, (M3 66 2))) (k := 2) (kI := 2) (pc' := 28) dX12_signed_25 rfl cl12 (by decide) rfl (by decide) flX12_207 rfl rfl (by decide) rfl rfl ?_
      refine T_istore_n (i := 3) (L' := [(2, 66), (0, v1), (0, (if a2 = 45 then (1 : Int) else 0)), (0, (M3 66 2)), (3, 0)]) (pc' := 29) dX12_signed_28 rfl (by decide) rfl rfl ?_
      refine T_iload_n (i := 2) (pc' := 30) dX12_signed_29 rfl rfl rfl ?_
      obtain ⟨j6, hj6, H⟩ := H
      have qj6 : ∀ (M7 : Mem), j6 M7 → G h M7 → TG E miX12_signed 3 h (RI 0 Q) 43 [(2, 66), (0, v1), (0, (if a2 = 45 then (1 : Int) else 0)), (0, (M3 66 2)), (3, 0)] [] M7 := by
        intro M7 H hG8
        replace H := hj6 _ H
        refine T_aload_n (i := 0) (pc' := 44) dX12_signed_43 rfl rfl rfl ?_
        refine T_iconst (pc' := 45) dX12_signed_44 (by decide) rfl ?_
        refine T_sipush (pc' := 48) dX12_signed_45 rfl (by decide) rfl ?_
        refine T_callV (av := [(0, 0), (0, 9999)]) (st := []) (d2 := 2) (nc2 := 0) (ns2 := 0) (pc' := 51) dX12_signed_48 rfl mtX12_number mvX12_number mlX12_248 cl12 rfl rfl rfl (Nat.le_of_ble_eq_true rfl) (by decide) ⟨by decide, by decide⟩ rfl (pX12_number (E := E) (h := h) (M := M7) (v1 := 0) (v2 := 9999) H hG8) ?_
        rintro _ _ M10 ⟨rfl, hG11, a9, rfl, H⟩ _
        refine T_istore (i := 4) (L' := [(2, 66), (0, v1), (0, (if a2 = 45 then (1 : Int) else 0)), (0, (M3 66 2)), (0, a9)]) (pc' := 53) dX12_signed_51 (by decide) rfl rfl ?_
        refine T_aload_n (i := 0) (pc' := 54) dX12_signed_53 rfl rfl rfl ?_
        refine U_gf (v := (0, (M10 66 5))) (k := 5) (kI := 5) (pc' := 57) dX12_signed_54 rfl cl12 (by decide) rfl (by decide) flX12_201 rfl rfl (by decide) rfl rfl ?_
        refine T_if_ne (pc' := 72) dX12_signed_57 (by decide) (pf := 60) rfl (fun c12 => ?_) (fun c12 => ?_)
        · skip
          replace H := H.2 c12
          refine T_iload_n (i := 2) (pc' := 73) dX12_signed_72 rfl rfl rfl ?_
          have HJ13 : T E miX12_signed 3 126 0 0 (fun r S M' => S = S0 ∧ G h M' ∧ RI 0 Q r M') 84 [(3, 0), (3, 0), (3, 0), (3, 0), (3, 0)] [(0, (if (if a2 = 45 then (1 : Int) else 0) = 0 then a9 else (wr32 (-a9))))] S0 M10 0 0 := by
            exact T_iret dX12_signed_84 rfl ⟨rfl, hG11, _, rfl, H⟩
          refine T_if_eq (pc' := 82) dX12_signed_73 (by decide) (pf := 76) rfl (fun c14 => ?_) (fun c14 => ?_)
          · skip
            refine T_iload (i := 4) (pc' := 84) dX12_signed_82 rfl rfl ?_
            exact T_wk (L' := [(3, 0), (3, 0), (3, 0), (3, 0), (3, 0)]) (by have q := HJ13; try simp only [if_pos c14] at q ⊢; exact q) ⟨Or.inl rfl, Or.inl rfl, Or.inl rfl, Or.inl rfl, Or.inl rfl, trivial⟩
          · skip
            refine T_iload (i := 4) (pc' := 78) dX12_signed_76 rfl rfl ?_
            refine T_ineg (pc' := 79) dX12_signed_78 rfl ?_
            refine T_goto (pc' := 84) dX12_signed_79 (by decide) ?_
            exact T_wk (L' := [(3, 0), (3, 0), (3, 0), (3, 0), (3, 0)]) (by have q := HJ13; try simp only [if_neg c14] at q ⊢; exact q) ⟨Or.inl rfl, Or.inl rfl, Or.inl rfl, Or.inl rfl, Or.inl rfl, trivial⟩
        · skip
          replace H := H.1 c12
          refine T_iload (i := 4) (pc' := 62) dX12_signed_60 rfl rfl ?_
          refine T_iload_n (i := 1) (pc' := 63) dX12_signed_62 rfl rfl rfl ?_
          refine T_icmp_le (pc' := 72) dX12_signed_63 (by decide) (pf := 66) rfl (fun c15 => ?_) (fun c15 => ?_)
          · skip
            replace H := H.1 c15
            refine T_iload_n (i := 2) (pc' := 73) dX12_signed_72 rfl rfl rfl ?_
            have HJ16 : T E miX12_signed 3 126 0 0 (fun r S M' => S = S0 ∧ G h M' ∧ RI 0 Q r M') 84 [(3, 0), (3, 0), (3, 0), (3, 0), (3, 0)] [(0, (if (if a2 = 45 then (1 : Int) else 0) = 0 then a9 else (wr32 (-a9))))] S0 M10 0 0 := by
              exact T_iret dX12_signed_84 rfl ⟨rfl, hG11, _, rfl, H⟩
            refine T_if_eq (pc' := 82) dX12_signed_73 (by decide) (pf := 76) rfl (fun c17 => ?_) (fun c17 => ?_)
            · skip
              refine T_iload (i := 4) (pc' := 84) dX12_signed_82 rfl rfl ?_
              exact T_wk (L' := [(3, 0), (3, 0), (3, 0), (3, 0), (3, 0)]) (by have q := HJ16; try simp only [if_pos c17] at q ⊢; exact q) ⟨Or.inl rfl, Or.inl rfl, Or.inl rfl, Or.inl rfl, Or.inl rfl, trivial⟩
            · skip
              refine T_iload (i := 4) (pc' := 78) dX12_signed_76 rfl rfl ?_
              refine T_ineg (pc' := 79) dX12_signed_78 rfl ?_
              refine T_goto (pc' := 84) dX12_signed_79 (by decide) ?_
              exact T_wk (L' := [(3, 0), (3, 0), (3, 0), (3, 0), (3, 0)]) (by have q := HJ16; try simp only [if_neg c17] at q ⊢; exact q) ⟨Or.inl rfl, Or.inl rfl, Or.inl rfl, Or.inl rfl, Or.inl rfl, trivial⟩
          · skip
            replace H := H.2 c15
            refine T_aload_n (i := 0) (pc' := 67) dX12_signed_66 rfl rfl rfl ?_
            refine T_iconst (pc' := 68) dX12_signed_67 (by decide) rfl ?_
            refine T_iload_n (i := 3) (pc' := 69) dX12_signed_68 rfl rfl rfl ?_
            refine T_callV (av := [(0, 2), (0, (M3 66 2))]) (st := []) (d2 := 1) (nc2 := 0) (ns2 := 0) (pc' := 72) dX12_signed_69 rfl mtX12_fail mvX12_fail mlX12_231 cl12 rfl rfl rfl (Nat.le_of_ble_eq_true rfl) (by decide) ⟨by decide, by decide⟩ rfl (pX12_fail (E := E) (h := h) (M := M10) (v1 := 2) (v2 := (M3 66 2)) hG11) (kF (st2 := []) rfl (fun hG18 => ?_))
            obtain ⟨M19, eM19⟩ : ∃ m : Mem, m = (fmX12_fail M10 2 (M3 66 2)) := ⟨_, rfl⟩
            rw [← eM19] at hG18 ⊢
            replace H := H M19 eM19
            refine T_iload_n (i := 2) (pc' := 73) dX12_signed_72 rfl rfl rfl ?_
            have HJ20 : T E miX12_signed 3 126 0 0 (fun r S M' => S = S0 ∧ G h M' ∧ RI 0 Q r M') 84 [(3, 0), (3, 0), (3, 0), (3, 0), (3, 0)] [(0, (if (if a2 = 45 then (1 : Int) else 0) = 0 then a9 else (wr32 (-a9))))] S0 M19 0 0 := by
              exact T_iret dX12_signed_84 rfl ⟨rfl, hG18, _, rfl, H⟩
            refine T_if_eq (pc' := 82) dX12_signed_73 (by decide) (pf := 76) rfl (fun c21 => ?_) (fun c21 => ?_)
            · skip
              refine T_iload (i := 4) (pc' := 84) dX12_signed_82 rfl rfl ?_
              exact T_wk (L' := [(3, 0), (3, 0), (3, 0), (3, 0), (3, 0)]) (by have q := HJ20; try simp only [if_pos c21] at q ⊢; exact q) ⟨Or.inl rfl, Or.inl rfl, Or.inl rfl, Or.inl rfl, Or.inl rfl, trivial⟩
            · skip
              refine T_iload (i := 4) (pc' := 78) dX12_signed_76 rfl rfl ?_
              refine T_ineg (pc' := 79) dX12_signed_78 rfl ?_
              refine T_goto (pc' := 84) dX12_signed_79 (by decide) ?_
              exact T_wk (L' := [(3, 0), (3, 0), (3, 0), (3, 0), (3, 0)]) (by have q := HJ20; try simp only [if_neg c21] at q ⊢; exact q) ⟨Or.inl rfl, Or.inl rfl, Or.inl rfl, Or.inl rfl, Or.inl rfl, trivial⟩
      refine T_if_eq (pc' := 43) dX12_signed_30 (by decide) (pf := 33) rfl (fun c22 => ?_) (fun c22 => ?_)
      · skip
        replace H := H.1 c22
        exact T_wk (L' := [(2, 66), (0, v1), (0, (if a2 = 45 then (1 : Int) else 0)), (0, (M3 66 2)), (3, 0)]) (qj6 _ H hG4) ⟨Or.inr rfl, Or.inr rfl, Or.inr rfl, Or.inr rfl, Or.inl rfl, trivial⟩
      · skip
        replace H := H.2 c22
        refine T_aload_n (i := 0) (pc' := 34) dX12_signed_33 rfl rfl rfl ?_
        refine T_dup (pc' := 35) dX12_signed_34 (Nat.ne_of_beq_eq_false rfl) rfl ?_
        refine U_gf (v := (0, (M3 66 2))) (k := 2) (kI := 2) (pc' := 38) dX12_signed_35 rfl cl12 (by decide) rfl (by decide) flX12_207 rfl rfl (by decide) rfl rfl ?_
        refine T_iconst (pc' := 39) dX12_signed_38 (by decide) rfl ?_
        refine T_iadd (pc' := 40) dX12_signed_39 rfl ?_
        refine U_pf (y := (wr32 ((M3 66 2) + 1))) (k := 2) (kI := 2) (pc' := 43) dX12_signed_40 rfl cl12 (by decide) rfl (by decide) flX12_207 rfl rfl rfl rfl rfl (by decide) (fun z => z) rfl ?_
        have hG23 := (G_fld (x := 66) (i := 2) (y := (wr32 ((M3 66 2) + 1))) rfl (by decide) (by decide) (by decide) hG4)
        obtain ⟨M24, eM24⟩ : ∃ m : Mem, m = (mset M3 66 2 (wr32 ((M3 66 2) + 1))) := ⟨_, rfl⟩
        rw [← eM24] at hG23 ⊢
        replace H := H M24 eM24
        exact T_wk (L' := [(2, 66), (0, v1), (0, (if a2 = 45 then (1 : Int) else 0)), (0, (M3 66 2)), (3, 0)]) (qj6 _ H hG23) ⟨Or.inr rfl, Or.inr rfl, Or.inr rfl, Or.inr rfl, Or.inl rfl, trivial⟩
    refine T_icmp_ne (pc' := 22) dX12_signed_15 (by decide) (pf := 18) rfl (fun c25 => ?_) (fun c25 => ?_)
    · skip
      refine T_iconst (pc' := 23) dX12_signed_22 (by decide) rfl ?_
      exact T_wk (L' := [(2, 66), (0, v1), (3, 0), (3, 0), (3, 0)]) (by have q := HJ5; try simp only [if_neg c25] at q ⊢; exact q) ⟨Or.inr rfl, Or.inr rfl, Or.inl rfl, Or.inl rfl, Or.inl rfl, trivial⟩
    · skip
      refine T_iconst (pc' := 19) dX12_signed_18 (by decide) rfl ?_
      refine T_goto (pc' := 23) dX12_signed_19 (by decide) ?_
      exact T_wk (L' := [(2, 66), (0, v1), (3, 0), (3, 0), (3, 0)]) (by have q := HJ5; try simp only [if_pos c25] at q ⊢; exact q) ⟨Or.inr rfl, Or.inr rfl, Or.inl rfl, Or.inl rfl, Or.inl rfl, trivial⟩
  · skip
    replace H := H.2 c1
    refine T_iconst (pc' := 8) dX12_signed_7 (by decide) rfl ?_
    exact T_iret dX12_signed_8 rfl ⟨rfl, hG, _, rfl, H⟩
def PX12_isOwnHere  (M : Mem) (Q : Int → Mem → Prop) : Prop :=
  PX12_isHere 68 4 M (fun a1 M2 => (∃ j4 : Int → Mem → Prop, (∀ (u5 : Int) (M6 : Mem), j4 u5 M6 → (∃ j8 : Int → Mem → Prop, (∀ (u9 : Int) (M10 : Mem), j8 u9 M10 → ((u9 = 0 → PX12_isHere 80 5 M10 (fun a13 M14 => ((a13 = 0 → PX12_isHere 81 6 M14 (fun a17 M18 => ((a17 = 0 → PX12_isHere 82 4 M18 (fun a21 M22 => ((a21 = 0 → PX12_isHere 83 4 M22 (fun a25 M26 => ((a25 = 0 → PX12_isHere 84 6 M26 (fun a29 M30 => (((if a29 = 0 then (0 : Int) else 1) : Int) = 0 ∨ ((if a29 = 0 then (0 : Int) else 1) : Int) = 1) ∧ Q (if a29 = 0 then (0 : Int) else 1) M30)) ∧ (¬ (a25 = 0) → Q 1 M26)))) ∧ (¬ (a21 = 0) → Q 1 M22)))) ∧ (¬ (a17 = 0) → Q 1 M18)))) ∧ (¬ (a13 = 0) → Q 1 M14)))) ∧ (¬ (u9 = 0) → Q 1 M10))) ∧ ((u5 = 0 → PX12_isHere 74 5 M6 (fun a35 M36 => ((a35 = 0 → PX12_isHere 75 5 M36 (fun a39 M40 => ((a39 = 0 → PX12_isHere 76 5 M40 (fun a43 M44 => ((a43 = 0 → PX12_isHere 77 6 M44 (fun a47 M48 => ((a47 = 0 → PX12_isHere 78 5 M48 (fun a51 M52 => ((a51 = 0 → PX12_isHere 79 4 M52 (fun a55 M56 => ((a55 = 0 → j8 0 M56) ∧ (¬ (a55 = 0) → j8 1 M56)))) ∧ (¬ (a51 = 0) → j8 1 M52)))) ∧ (¬ (a47 = 0) → j8 1 M48)))) ∧ (¬ (a43 = 0) → j8 1 M44)))) ∧ (¬ (a39 = 0) → j8 1 M40)))) ∧ (¬ (a35 = 0) → j8 1 M36)))) ∧ (¬ (u5 = 0) → j8 1 M6)))) ∧ ((a1 = 0 → PX12_isHere 69 4 M2 (fun a60 M61 => ((a60 = 0 → PX12_isHere 70 4 M61 (fun a64 M65 => ((a64 = 0 → PX12_isHere 71 6 M65 (fun a68 M69 => ((a68 = 0 → PX12_isHere 72 2 M69 (fun a72 M73 => ((a72 = 0 → PX12_isHere 73 4 M73 (fun a76 M77 => ((a76 = 0 → j4 0 M77) ∧ (¬ (a76 = 0) → j4 1 M77)))) ∧ (¬ (a72 = 0) → j4 1 M73)))) ∧ (¬ (a68 = 0) → j4 1 M69)))) ∧ (¬ (a64 = 0) → j4 1 M65)))) ∧ (¬ (a60 = 0) → j4 1 M61)))) ∧ (¬ (a1 = 0) → j4 1 M2))))
set_option maxRecDepth 100000 in
set_option maxHeartbeats 2000000 in
theorem pX12_isOwnHere {E : EV} {h : Int} {M : Mem}   {Q : Int → Mem → Prop} (H : PX12_isOwnHere  M Q) : C2 E miX12_isOwnHere 3 h [(2, 66)] M (RI 0 Q) := by
  refine C2_of (L := [(2, 66), (3, 0)]) (by decide +kernel) (Nat.le_of_ble_eq_true rfl) rfl (fun hG => ?_)
  refine T_aload_n (i := 0) (pc' := 1) dX12_isOwnHere_0 rfl rfl rfl ?_
  refine T_aload_n (i := 0) (pc' := 2) dX12_isOwnHere_1 rfl rfl rfl ?_
  refine U_gr (q := 68) (k := 10) (kI := 10) (pc' := 5) dX12_isOwnHere_2 rfl cl12 (by decide) rfl (by decide) flX12_17 rfl rfl rfl (G_at hG 68 rfl) (by decide) rfl ?_
  refine T_callV (av := [(2, 68)]) (st := []) (d2 := 2) (nc2 := 0) (ns2 := 0) (pc' := 8) dX12_isOwnHere_5 rfl mtX12_isHere mvX12_isHere mlX12_224 cl12 rfl rfl rfl (Nat.le_of_ble_eq_true rfl) (by decide) ⟨by decide, by decide⟩ rfl (pX12_isHere (E := E) (h := h) (M := M) (p1 := 68) (np1 := 4) (by decide) rfl (by decide) H hG) ?_
  rintro _ _ M2 ⟨rfl, hG3, a1, rfl, H⟩ _
  obtain ⟨j4, hj4, H⟩ := H
  have qj4 : ∀ (u5 : Int) (M6 : Mem), j4 u5 M6 → G h M6 → TG E miX12_isOwnHere 3 h (RI 0 Q) 71 [(2, 66), (3, 0)] [(0, u5)] M6 := by
    intro u5 M6 H hG7
    replace H := hj4 _ _ H
    refine T_istore_n (i := 1) (L' := [(2, 66), (0, u5)]) (pc' := 72) dX12_isOwnHere_71 rfl (by decide) rfl rfl ?_
    refine T_iload_n (i := 1) (pc' := 73) dX12_isOwnHere_72 rfl rfl rfl ?_
    obtain ⟨j8, hj8, H⟩ := H
    have qj8 : ∀ (u9 : Int) (M10 : Mem), j8 u9 M10 → G h M10 → TG E miX12_isOwnHere 3 h (RI 0 Q) 147 [(2, 66), (3, 0)] [(0, u9)] M10 := by
      intro u9 M10 H hG11
      replace H := hj8 _ _ H
      refine T_istore_n (i := 1) (L' := [(2, 66), (0, u9)]) (pc' := 148) dX12_isOwnHere_147 rfl (by decide) rfl rfl ?_
      refine T_iload_n (i := 1) (pc' := 149) dX12_isOwnHere_148 rfl rfl rfl ?_
      refine T_if_ne (pc' := 207) dX12_isOwnHere_149 (by decide) (pf := 152) rfl (fun c12 => ?_) (fun c12 => ?_)
      · skip
        replace H := H.2 c12
        refine T_iconst (pc' := 208) dX12_isOwnHere_207 (by decide) rfl ?_
        refine T_goto (pc' := 212) dX12_isOwnHere_208 (by decide) ?_
        refine T_istore_n (i := 1) (L' := [(2, 66), (0, 1)]) (pc' := 213) dX12_isOwnHere_212 rfl (by decide) rfl rfl ?_
        refine T_iload_n (i := 1) (pc' := 214) dX12_isOwnHere_213 rfl rfl rfl ?_
        exact T_zret dX12_isOwnHere_214 rfl (by decide) ⟨rfl, hG11, _, rfl, H⟩
      · skip
        replace H := H.1 c12
        refine T_aload_n (i := 0) (pc' := 153) dX12_isOwnHere_152 rfl rfl rfl ?_
        refine T_aload_n (i := 0) (pc' := 154) dX12_isOwnHere_153 rfl rfl rfl ?_
        refine U_gr (q := 80) (k := 22) (kI := 22) (pc' := 157) dX12_isOwnHere_154 rfl cl12 (by decide) rfl (by decide) flX12_54 rfl rfl rfl (G_at hG11 80 rfl) (by decide) rfl ?_
        refine T_callV (av := [(2, 80)]) (st := []) (d2 := 2) (nc2 := 0) (ns2 := 0) (pc' := 160) dX12_isOwnHere_157 rfl mtX12_isHere mvX12_isHere mlX12_224 cl12 rfl rfl rfl (Nat.le_of_ble_eq_true rfl) (by decide) ⟨by decide, by decide⟩ rfl (pX12_isHere (E := E) (h := h) (M := M10) (p1 := 80) (np1 := 5) (by decide) rfl (by decide) H hG11) ?_
        rintro _ _ M14 ⟨rfl, hG15, a13, rfl, H⟩ _
        refine T_if_ne (pc' := 207) dX12_isOwnHere_160 (by decide) (pf := 163) rfl (fun c16 => ?_) (fun c16 => ?_)
        · skip
          replace H := H.2 c16
          refine T_iconst (pc' := 208) dX12_isOwnHere_207 (by decide) rfl ?_
          refine T_goto (pc' := 212) dX12_isOwnHere_208 (by decide) ?_
          refine T_istore_n (i := 1) (L' := [(2, 66), (0, 1)]) (pc' := 213) dX12_isOwnHere_212 rfl (by decide) rfl rfl ?_
          refine T_iload_n (i := 1) (pc' := 214) dX12_isOwnHere_213 rfl rfl rfl ?_
          exact T_zret dX12_isOwnHere_214 rfl (by decide) ⟨rfl, hG15, _, rfl, H⟩
        · skip
          replace H := H.1 c16
          refine T_aload_n (i := 0) (pc' := 164) dX12_isOwnHere_163 rfl rfl rfl ?_
          refine T_aload_n (i := 0) (pc' := 165) dX12_isOwnHere_164 rfl rfl rfl ?_
          refine U_gr (q := 81) (k := 23) (kI := 23) (pc' := 168) dX12_isOwnHere_165 rfl cl12 (by decide) rfl (by decide) flX12_57 rfl rfl rfl (G_at hG15 81 rfl) (by decide) rfl ?_
          refine T_callV (av := [(2, 81)]) (st := []) (d2 := 2) (nc2 := 0) (ns2 := 0) (pc' := 171) dX12_isOwnHere_168 rfl mtX12_isHere mvX12_isHere mlX12_224 cl12 rfl rfl rfl (Nat.le_of_ble_eq_true rfl) (by decide) ⟨by decide, by decide⟩ rfl (pX12_isHere (E := E) (h := h) (M := M14) (p1 := 81) (np1 := 6) (by decide) rfl (by decide) H hG15) ?_
          rintro _ _ M18 ⟨rfl, hG19, a17, rfl, H⟩ _
          refine T_if_ne (pc' := 207) dX12_isOwnHere_171 (by decide) (pf := 174) rfl (fun c20 => ?_) (fun c20 => ?_)
          · skip
            replace H := H.2 c20
            refine T_iconst (pc' := 208) dX12_isOwnHere_207 (by decide) rfl ?_
            refine T_goto (pc' := 212) dX12_isOwnHere_208 (by decide) ?_
            refine T_istore_n (i := 1) (L' := [(2, 66), (0, 1)]) (pc' := 213) dX12_isOwnHere_212 rfl (by decide) rfl rfl ?_
            refine T_iload_n (i := 1) (pc' := 214) dX12_isOwnHere_213 rfl rfl rfl ?_
            exact T_zret dX12_isOwnHere_214 rfl (by decide) ⟨rfl, hG19, _, rfl, H⟩
          · skip
            replace H := H.1 c20
            refine T_aload_n (i := 0) (pc' := 175) dX12_isOwnHere_174 rfl rfl rfl ?_
            refine T_aload_n (i := 0) (pc' := 176) dX12_isOwnHere_175 rfl rfl rfl ?_
            refine U_gr (q := 82) (k := 24) (kI := 24) (pc' := 179) dX12_isOwnHere_176 rfl cl12 (by decide) rfl (by decide) flX12_60 rfl rfl rfl (G_at hG19 82 rfl) (by decide) rfl ?_
            refine T_callV (av := [(2, 82)]) (st := []) (d2 := 2) (nc2 := 0) (ns2 := 0) (pc' := 182) dX12_isOwnHere_179 rfl mtX12_isHere mvX12_isHere mlX12_224 cl12 rfl rfl rfl (Nat.le_of_ble_eq_true rfl) (by decide) ⟨by decide, by decide⟩ rfl (pX12_isHere (E := E) (h := h) (M := M18) (p1 := 82) (np1 := 4) (by decide) rfl (by decide) H hG19) ?_
            rintro _ _ M22 ⟨rfl, hG23, a21, rfl, H⟩ _
            refine T_if_ne (pc' := 207) dX12_isOwnHere_182 (by decide) (pf := 185) rfl (fun c24 => ?_) (fun c24 => ?_)
            · skip
              replace H := H.2 c24
              refine T_iconst (pc' := 208) dX12_isOwnHere_207 (by decide) rfl ?_
              refine T_goto (pc' := 212) dX12_isOwnHere_208 (by decide) ?_
              refine T_istore_n (i := 1) (L' := [(2, 66), (0, 1)]) (pc' := 213) dX12_isOwnHere_212 rfl (by decide) rfl rfl ?_
              refine T_iload_n (i := 1) (pc' := 214) dX12_isOwnHere_213 rfl rfl rfl ?_
              exact T_zret dX12_isOwnHere_214 rfl (by decide) ⟨rfl, hG23, _, rfl, H⟩
            · skip
              replace H := H.1 c24
              refine T_aload_n (i := 0) (pc' := 186) dX12_isOwnHere_185 rfl rfl rfl ?_
              refine T_aload_n (i := 0) (pc' := 187) dX12_isOwnHere_186 rfl rfl rfl ?_
              refine U_gr (q := 83) (k := 25) (kI := 25) (pc' := 190) dX12_isOwnHere_187 rfl cl12 (by decide) rfl (by decide) flX12_63 rfl rfl rfl (G_at hG23 83 rfl) (by decide) rfl ?_
              refine T_callV (av := [(2, 83)]) (st := []) (d2 := 2) (nc2 := 0) (ns2 := 0) (pc' := 193) dX12_isOwnHere_190 rfl mtX12_isHere mvX12_isHere mlX12_224 cl12 rfl rfl rfl (Nat.le_of_ble_eq_true rfl) (by decide) ⟨by decide, by decide⟩ rfl (pX12_isHere (E := E) (h := h) (M := M22) (p1 := 83) (np1 := 4) (by decide) rfl (by decide) H hG23) ?_
              rintro _ _ M26 ⟨rfl, hG27, a25, rfl, H⟩ _
              refine T_if_ne (pc' := 207) dX12_isOwnHere_193 (by decide) (pf := 196) rfl (fun c28 => ?_) (fun c28 => ?_)
              · skip
                replace H := H.2 c28
                refine T_iconst (pc' := 208) dX12_isOwnHere_207 (by decide) rfl ?_
                refine T_goto (pc' := 212) dX12_isOwnHere_208 (by decide) ?_
                refine T_istore_n (i := 1) (L' := [(2, 66), (0, 1)]) (pc' := 213) dX12_isOwnHere_212 rfl (by decide) rfl rfl ?_
                refine T_iload_n (i := 1) (pc' := 214) dX12_isOwnHere_213 rfl rfl rfl ?_
                exact T_zret dX12_isOwnHere_214 rfl (by decide) ⟨rfl, hG27, _, rfl, H⟩
              · skip
                replace H := H.1 c28
                refine T_aload_n (i := 0) (pc' := 197) dX12_isOwnHere_196 rfl rfl rfl ?_
                refine T_aload_n (i := 0) (pc' := 198) dX12_isOwnHere_197 rfl rfl rfl ?_
                refine U_gr (q := 84) (k := 26) (kI := 26) (pc' := 201) dX12_isOwnHere_198 rfl cl12 (by decide) rfl (by decide) flX12_66 rfl rfl rfl (G_at hG27 84 rfl) (by decide) rfl ?_
                refine T_callV (av := [(2, 84)]) (st := []) (d2 := 2) (nc2 := 0) (ns2 := 0) (pc' := 204) dX12_isOwnHere_201 rfl mtX12_isHere mvX12_isHere mlX12_224 cl12 rfl rfl rfl (Nat.le_of_ble_eq_true rfl) (by decide) ⟨by decide, by decide⟩ rfl (pX12_isHere (E := E) (h := h) (M := M26) (p1 := 84) (np1 := 6) (by decide) rfl (by decide) H hG27) ?_
                rintro _ _ M30 ⟨rfl, hG31, a29, rfl, H⟩ _
                have HJ32 : T E miX12_isOwnHere 3 126 0 0 (fun r S M' => S = S0 ∧ G h M' ∧ RI 0 Q r M') 212 [(3, 0), (3, 0)] [(0, (if a29 = 0 then (0 : Int) else 1))] S0 M30 0 0 := by
                  refine T_istore_n (i := 1) (L' := [(3, 0), (0, (if a29 = 0 then (0 : Int) else 1))]) (pc' := 213) dX12_isOwnHere_212 rfl (by decide) rfl rfl ?_
                  refine T_iload_n (i := 1) (pc' := 214) dX12_isOwnHere_213 rfl rfl rfl ?_
                  obtain ⟨z1, H⟩ := H
                  exact T_zret dX12_isOwnHere_214 rfl z1 ⟨rfl, hG31, _, rfl, H⟩
                refine T_if_eq (pc' := 211) dX12_isOwnHere_204 (by decide) (pf := 207) rfl (fun c33 => ?_) (fun c33 => ?_)
                · skip
                  refine T_iconst (pc' := 212) dX12_isOwnHere_211 (by decide) rfl ?_
                  exact T_wk (L' := [(3, 0), (3, 0)]) (by have q := HJ32; try simp only [if_pos c33] at q ⊢; exact q) ⟨Or.inl rfl, Or.inl rfl, trivial⟩
                · skip
                  refine T_iconst (pc' := 208) dX12_isOwnHere_207 (by decide) rfl ?_
                  refine T_goto (pc' := 212) dX12_isOwnHere_208 (by decide) ?_
                  exact T_wk (L' := [(3, 0), (3, 0)]) (by have q := HJ32; try simp only [if_neg c33] at q ⊢; exact q) ⟨Or.inl rfl, Or.inl rfl, trivial⟩
    refine T_if_ne (pc' := 142) dX12_isOwnHere_73 (by decide) (pf := 76) rfl (fun c34 => ?_) (fun c34 => ?_)
    · skip
      replace H := H.2 c34
      refine T_iconst (pc' := 143) dX12_isOwnHere_142 (by decide) rfl ?_
      refine T_goto (pc' := 147) dX12_isOwnHere_143 (by decide) ?_
      exact T_wk (L' := [(2, 66), (3, 0)]) (qj8 _ _ H hG7) ⟨Or.inr rfl, Or.inl rfl, trivial⟩
    · skip
      replace H := H.1 c34
      refine T_aload_n (i := 0) (pc' := 77) dX12_isOwnHere_76 rfl rfl rfl ?_
      refine T_aload_n (i := 0) (pc' := 78) dX12_isOwnHere_77 rfl rfl rfl ?_
      refine U_gr (q := 74) (k := 16) (kI := 16) (pc' := 81) dX12_isOwnHere_78 rfl cl12 (by decide) rfl (by decide) flX12_36 rfl rfl rfl (G_at hG7 74 rfl) (by decide) rfl ?_
      refine T_callV (av := [(2, 74)]) (st := []) (d2 := 2) (nc2 := 0) (ns2 := 0) (pc' := 84) dX12_isOwnHere_81 rfl mtX12_isHere mvX12_isHere mlX12_224 cl12 rfl rfl rfl (Nat.le_of_ble_eq_true rfl) (by decide) ⟨by decide, by decide⟩ rfl (pX12_isHere (E := E) (h := h) (M := M6) (p1 := 74) (np1 := 5) (by decide) rfl (by decide) H hG7) ?_
      rintro _ _ M36 ⟨rfl, hG37, a35, rfl, H⟩ _
      refine T_if_ne (pc' := 142) dX12_isOwnHere_84 (by decide) (pf := 87) rfl (fun c38 => ?_) (fun c38 => ?_)
      · skip
        replace H := H.2 c38
        refine T_iconst (pc' := 143) dX12_isOwnHere_142 (by decide) rfl ?_
        refine T_goto (pc' := 147) dX12_isOwnHere_143 (by decide) ?_
        exact T_wk (L' := [(2, 66), (3, 0)]) (qj8 _ _ H hG37) ⟨Or.inr rfl, Or.inl rfl, trivial⟩
      · skip
        replace H := H.1 c38
        refine T_aload_n (i := 0) (pc' := 88) dX12_isOwnHere_87 rfl rfl rfl ?_
        refine T_aload_n (i := 0) (pc' := 89) dX12_isOwnHere_88 rfl rfl rfl ?_
        refine U_gr (q := 75) (k := 17) (kI := 17) (pc' := 92) dX12_isOwnHere_89 rfl cl12 (by decide) rfl (by decide) flX12_39 rfl rfl rfl (G_at hG37 75 rfl) (by decide) rfl ?_
        refine T_callV (av := [(2, 75)]) (st := []) (d2 := 2) (nc2 := 0) (ns2 := 0) (pc' := 95) dX12_isOwnHere_92 rfl mtX12_isHere mvX12_isHere mlX12_224 cl12 rfl rfl rfl (Nat.le_of_ble_eq_true rfl) (by decide) ⟨by decide, by decide⟩ rfl (pX12_isHere (E := E) (h := h) (M := M36) (p1 := 75) (np1 := 5) (by decide) rfl (by decide) H hG37) ?_
        rintro _ _ M40 ⟨rfl, hG41, a39, rfl, H⟩ _
        refine T_if_ne (pc' := 142) dX12_isOwnHere_95 (by decide) (pf := 98) rfl (fun c42 => ?_) (fun c42 => ?_)
        · skip
          replace H := H.2 c42
          refine T_iconst (pc' := 143) dX12_isOwnHere_142 (by decide) rfl ?_
          refine T_goto (pc' := 147) dX12_isOwnHere_143 (by decide) ?_
          exact T_wk (L' := [(2, 66), (3, 0)]) (qj8 _ _ H hG41) ⟨Or.inr rfl, Or.inl rfl, trivial⟩
        · skip
          replace H := H.1 c42
          refine T_aload_n (i := 0) (pc' := 99) dX12_isOwnHere_98 rfl rfl rfl ?_
          refine T_aload_n (i := 0) (pc' := 100) dX12_isOwnHere_99 rfl rfl rfl ?_
          refine U_gr (q := 76) (k := 18) (kI := 18) (pc' := 103) dX12_isOwnHere_100 rfl cl12 (by decide) rfl (by decide) flX12_42 rfl rfl rfl (G_at hG41 76 rfl) (by decide) rfl ?_
          refine T_callV (av := [(2, 76)]) (st := []) (d2 := 2) (nc2 := 0) (ns2 := 0) (pc' := 106) dX12_isOwnHere_103 rfl mtX12_isHere mvX12_isHere mlX12_224 cl12 rfl rfl rfl (Nat.le_of_ble_eq_true rfl) (by decide) ⟨by decide, by decide⟩ rfl (pX12_isHere (E := E) (h := h) (M := M40) (p1 := 76) (np1 := 5) (by decide) rfl (by decide) H hG41) ?_
          rintro _ _ M44 ⟨rfl, hG45, a43, rfl, H⟩ _
          refine T_if_ne (pc' := 142) dX12_isOwnHere_106 (by decide) (pf := 109) rfl (fun c46 => ?_) (fun c46 => ?_)
          · skip
            replace H := H.2 c46
            refine T_iconst (pc' := 143) dX12_isOwnHere_142 (by decide) rfl ?_
            refine T_goto (pc' := 147) dX12_isOwnHere_143 (by decide) ?_
            exact T_wk (L' := [(2, 66), (3, 0)]) (qj8 _ _ H hG45) ⟨Or.inr rfl, Or.inl rfl, trivial⟩
          · skip
            replace H := H.1 c46
            refine T_aload_n (i := 0) (pc' := 110) dX12_isOwnHere_109 rfl rfl rfl ?_
            refine T_aload_n (i := 0) (pc' := 111) dX12_isOwnHere_110 rfl rfl rfl ?_
            refine U_gr (q := 77) (k := 19) (kI := 19) (pc' := 114) dX12_isOwnHere_111 rfl cl12 (by decide) rfl (by decide) flX12_45 rfl rfl rfl (G_at hG45 77 rfl) (by decide) rfl ?_
            refine T_callV (av := [(2, 77)]) (st := []) (d2 := 2) (nc2 := 0) (ns2 := 0) (pc' := 117) dX12_isOwnHere_114 rfl mtX12_isHere mvX12_isHere mlX12_224 cl12 rfl rfl rfl (Nat.le_of_ble_eq_true rfl) (by decide) ⟨by decide, by decide⟩ rfl (pX12_isHere (E := E) (h := h) (M := M44) (p1 := 77) (np1 := 6) (by decide) rfl (by decide) H hG45) ?_
            rintro _ _ M48 ⟨rfl, hG49, a47, rfl, H⟩ _
            refine T_if_ne (pc' := 142) dX12_isOwnHere_117 (by decide) (pf := 120) rfl (fun c50 => ?_) (fun c50 => ?_)
            · skip
              replace H := H.2 c50
              refine T_iconst (pc' := 143) dX12_isOwnHere_142 (by decide) rfl ?_
              refine T_goto (pc' := 147) dX12_isOwnHere_143 (by decide) ?_
              exact T_wk (L' := [(2, 66), (3, 0)]) (qj8 _ _ H hG49) ⟨Or.inr rfl, Or.inl rfl, trivial⟩
            · skip
              replace H := H.1 c50
              refine T_aload_n (i := 0) (pc' := 121) dX12_isOwnHere_120 rfl rfl rfl ?_
              refine T_aload_n (i := 0) (pc' := 122) dX12_isOwnHere_121 rfl rfl rfl ?_
              refine U_gr (q := 78) (k := 20) (kI := 20) (pc' := 125) dX12_isOwnHere_122 rfl cl12 (by decide) rfl (by decide) flX12_48 rfl rfl rfl (G_at hG49 78 rfl) (by decide) rfl ?_
              refine T_callV (av := [(2, 78)]) (st := []) (d2 := 2) (nc2 := 0) (ns2 := 0) (pc' := 128) dX12_isOwnHere_125 rfl mtX12_isHere mvX12_isHere mlX12_224 cl12 rfl rfl rfl (Nat.le_of_ble_eq_true rfl) (by decide) ⟨by decide, by decide⟩ rfl (pX12_isHere (E := E) (h := h) (M := M48) (p1 := 78) (np1 := 5) (by decide) rfl (by decide) H hG49) ?_
              rintro _ _ M52 ⟨rfl, hG53, a51, rfl, H⟩ _
              refine T_if_ne (pc' := 142) dX12_isOwnHere_128 (by decide) (pf := 131) rfl (fun c54 => ?_) (fun c54 => ?_)
              · skip
                replace H := H.2 c54
                refine T_iconst (pc' := 143) dX12_isOwnHere_142 (by decide) rfl ?_
                refine T_goto (pc' := 147) dX12_isOwnHere_143 (by decide) ?_
                exact T_wk (L' := [(2, 66), (3, 0)]) (qj8 _ _ H hG53) ⟨Or.inr rfl, Or.inl rfl, trivial⟩
              · skip
                replace H := H.1 c54
                refine T_aload_n (i := 0) (pc' := 132) dX12_isOwnHere_131 rfl rfl rfl ?_
                refine T_aload_n (i := 0) (pc' := 133) dX12_isOwnHere_132 rfl rfl rfl ?_
                refine U_gr (q := 79) (k := 21) (kI := 21) (pc' := 136) dX12_isOwnHere_133 rfl cl12 (by decide) rfl (by decide) flX12_51 rfl rfl rfl (G_at hG53 79 rfl) (by decide) rfl ?_
                refine T_callV (av := [(2, 79)]) (st := []) (d2 := 2) (nc2 := 0) (ns2 := 0) (pc' := 139) dX12_isOwnHere_136 rfl mtX12_isHere mvX12_isHere mlX12_224 cl12 rfl rfl rfl (Nat.le_of_ble_eq_true rfl) (by decide) ⟨by decide, by decide⟩ rfl (pX12_isHere (E := E) (h := h) (M := M52) (p1 := 79) (np1 := 4) (by decide) rfl (by decide) H hG53) ?_
                rintro _ _ M56 ⟨rfl, hG57, a55, rfl, H⟩ _
                refine T_if_eq (pc' := 146) dX12_isOwnHere_139 (by decide) (pf := 142) rfl (fun c58 => ?_) (fun c58 => ?_)
                · skip
                  replace H := H.1 c58
                  refine T_iconst (pc' := 147) dX12_isOwnHere_146 (by decide) rfl ?_
                  exact T_wk (L' := [(2, 66), (3, 0)]) (qj8 _ _ H hG57) ⟨Or.inr rfl, Or.inl rfl, trivial⟩
                · skip
                  replace H := H.2 c58
                  refine T_iconst (pc' := 143) dX12_isOwnHere_142 (by decide) rfl ?_
                  refine T_goto (pc' := 147) dX12_isOwnHere_143 (by decide) ?_
                  exact T_wk (L' := [(2, 66), (3, 0)]) (qj8 _ _ H hG57) ⟨Or.inr rfl, Or.inl rfl, trivial⟩
  refine T_if_ne (pc' := 66) dX12_isOwnHere_8 (by decide) (pf := 11) rfl (fun c59 => ?_) (fun c59 => ?_)
  · skip
    replace H := H.2 c59
    refine T_iconst (pc' := 67) dX12_isOwnHere_66 (by decide) rfl ?_
    refine T_goto (pc' := 71) dX12_isOwnHere_67 (by decide) ?_
    exact T_wk (L' := [(2, 66), (3, 0)]) (qj4 _ _ H hG3) ⟨Or.inr rfl, Or.inl rfl, trivial⟩
  · skip
    replace H := H.1 c59
    refine T_aload_n (i := 0) (pc' := 12) dX12_isOwnHere_11 rfl rfl rfl ?_
    refine T_aload_n (i := 0) (pc' := 13) dX12_isOwnHere_12 rfl rfl rfl ?_
    refine U_gr (q := 69) (k := 11) (kI := 11) (pc' := 16) dX12_isOwnHere_13 rfl cl12 (by decide) rfl (by decide) flX12_21 rfl rfl rfl (G_at hG3 69 rfl) (by decide) rfl ?_
    refine T_callV (av := [(2, 69)]) (st := []) (d2 := 2) (nc2 := 0) (ns2 := 0) (pc' := 19) dX12_isOwnHere_16 rfl mtX12_isHere mvX12_isHere mlX12_224 cl12 rfl rfl rfl (Nat.le_of_ble_eq_true rfl) (by decide) ⟨by decide, by decide⟩ rfl (pX12_isHere (E := E) (h := h) (M := M2) (p1 := 69) (np1 := 4) (by decide) rfl (by decide) H hG3) ?_
    rintro _ _ M61 ⟨rfl, hG62, a60, rfl, H⟩ _
    refine T_if_ne (pc' := 66) dX12_isOwnHere_19 (by decide) (pf := 22) rfl (fun c63 => ?_) (fun c63 => ?_)
    · skip
      replace H := H.2 c63
      refine T_iconst (pc' := 67) dX12_isOwnHere_66 (by decide) rfl ?_
      refine T_goto (pc' := 71) dX12_isOwnHere_67 (by decide) ?_
      exact T_wk (L' := [(2, 66), (3, 0)]) (qj4 _ _ H hG62) ⟨Or.inr rfl, Or.inl rfl, trivial⟩
    · skip
      replace H := H.1 c63
      refine T_aload_n (i := 0) (pc' := 23) dX12_isOwnHere_22 rfl rfl rfl ?_
      refine T_aload_n (i := 0) (pc' := 24) dX12_isOwnHere_23 rfl rfl rfl ?_
      refine U_gr (q := 70) (k := 12) (kI := 12) (pc' := 27) dX12_isOwnHere_24 rfl cl12 (by decide) rfl (by decide) flX12_24 rfl rfl rfl (G_at hG62 70 rfl) (by decide) rfl ?_
      refine T_callV (av := [(2, 70)]) (st := []) (d2 := 2) (nc2 := 0) (ns2 := 0) (pc' := 30) dX12_isOwnHere_27 rfl mtX12_isHere mvX12_isHere mlX12_224 cl12 rfl rfl rfl (Nat.le_of_ble_eq_true rfl) (by decide) ⟨by decide, by decide⟩ rfl (pX12_isHere (E := E) (h := h) (M := M61) (p1 := 70) (np1 := 4) (by decide) rfl (by decide) H hG62) ?_
      rintro _ _ M65 ⟨rfl, hG66, a64, rfl, H⟩ _
      refine T_if_ne (pc' := 66) dX12_isOwnHere_30 (by decide) (pf := 33) rfl (fun c67 => ?_) (fun c67 => ?_)
      · skip
        replace H := H.2 c67
        refine T_iconst (pc' := 67) dX12_isOwnHere_66 (by decide) rfl ?_
        refine T_goto (pc' := 71) dX12_isOwnHere_67 (by decide) ?_
        exact T_wk (L' := [(2, 66), (3, 0)]) (qj4 _ _ H hG66) ⟨Or.inr rfl, Or.inl rfl, trivial⟩
      · skip
        replace H := H.1 c67
        refine T_aload_n (i := 0) (pc' := 34) dX12_isOwnHere_33 rfl rfl rfl ?_
        refine T_aload_n (i := 0) (pc' := 35) dX12_isOwnHere_34 rfl rfl rfl ?_
        refine U_gr (q := 71) (k := 13) (kI := 13) (pc' := 38) dX12_isOwnHere_35 rfl cl12 (by decide) rfl (by decide) flX12_27 rfl rfl rfl (G_at hG66 71 rfl) (by decide) rfl ?_
        refine T_callV (av := [(2, 71)]) (st := []) (d2 := 2) (nc2 := 0) (ns2 := 0) (pc' := 41) dX12_isOwnHere_38 rfl mtX12_isHere mvX12_isHere mlX12_224 cl12 rfl rfl rfl (Nat.le_of_ble_eq_true rfl) (by decide) ⟨by decide, by decide⟩ rfl (pX12_isHere (E := E) (h := h) (M := M65) (p1 := 71) (np1 := 6) (by decide) rfl (by decide) H hG66) ?_
        rintro _ _ M69 ⟨rfl, hG70, a68, rfl, H⟩ _
        refine T_if_ne (pc' := 66) dX12_isOwnHere_41 (by decide) (pf := 44) rfl (fun c71 => ?_) (fun c71 => ?_)
        · skip
          replace H := H.2 c71
          refine T_iconst (pc' := 67) dX12_isOwnHere_66 (by decide) rfl ?_
          refine T_goto (pc' := 71) dX12_isOwnHere_67 (by decide) ?_
          exact T_wk (L' := [(2, 66), (3, 0)]) (qj4 _ _ H hG70) ⟨Or.inr rfl, Or.inl rfl, trivial⟩
        · skip
          replace H := H.1 c71
          refine T_aload_n (i := 0) (pc' := 45) dX12_isOwnHere_44 rfl rfl rfl ?_
          refine T_aload_n (i := 0) (pc' := 46) dX12_isOwnHere_45 rfl rfl rfl ?_
          refine U_gr (q := 72) (k := 14) (kI := 14) (pc' := 49) dX12_isOwnHere_46 rfl cl12 (by decide) rfl (by decide) flX12_30 rfl rfl rfl (G_at hG70 72 rfl) (by decide) rfl ?_
          refine T_callV (av := [(2, 72)]) (st := []) (d2 := 2) (nc2 := 0) (ns2 := 0) (pc' := 52) dX12_isOwnHere_49 rfl mtX12_isHere mvX12_isHere mlX12_224 cl12 rfl rfl rfl (Nat.le_of_ble_eq_true rfl) (by decide) ⟨by decide, by decide⟩ rfl (pX12_isHere (E := E) (h := h) (M := M69) (p1 := 72) (np1 := 2) (by decide) rfl (by decide) H hG70) ?_
          rintro _ _ M73 ⟨rfl, hG74, a72, rfl, H⟩ _
          refine T_if_ne (pc' := 66) dX12_isOwnHere_52 (by decide) (pf := 55) rfl (fun c75 => ?_) (fun c75 => ?_)
          · skip
            replace H := H.2 c75
            refine T_iconst (pc' := 67) dX12_isOwnHere_66 (by decide) rfl ?_
            refine T_goto (pc' := 71) dX12_isOwnHere_67 (by decide) ?_
            exact T_wk (L' := [(2, 66), (3, 0)]) (qj4 _ _ H hG74) ⟨Or.inr rfl, Or.inl rfl, trivial⟩
          · skip
            replace H := H.1 c75
            refine T_aload_n (i := 0) (pc' := 56) dX12_isOwnHere_55 rfl rfl rfl ?_
            refine T_aload_n (i := 0) (pc' := 57) dX12_isOwnHere_56 rfl rfl rfl ?_
            refine U_gr (q := 73) (k := 15) (kI := 15) (pc' := 60) dX12_isOwnHere_57 rfl cl12 (by decide) rfl (by decide) flX12_33 rfl rfl rfl (G_at hG74 73 rfl) (by decide) rfl ?_
            refine T_callV (av := [(2, 73)]) (st := []) (d2 := 2) (nc2 := 0) (ns2 := 0) (pc' := 63) dX12_isOwnHere_60 rfl mtX12_isHere mvX12_isHere mlX12_224 cl12 rfl rfl rfl (Nat.le_of_ble_eq_true rfl) (by decide) ⟨by decide, by decide⟩ rfl (pX12_isHere (E := E) (h := h) (M := M73) (p1 := 73) (np1 := 4) (by decide) rfl (by decide) H hG74) ?_
            rintro _ _ M77 ⟨rfl, hG78, a76, rfl, H⟩ _
            refine T_if_eq (pc' := 70) dX12_isOwnHere_63 (by decide) (pf := 66) rfl (fun c79 => ?_) (fun c79 => ?_)
            · skip
              replace H := H.1 c79
              refine T_iconst (pc' := 71) dX12_isOwnHere_70 (by decide) rfl ?_
              exact T_wk (L' := [(2, 66), (3, 0)]) (qj4 _ _ H hG78) ⟨Or.inr rfl, Or.inl rfl, trivial⟩
            · skip
              replace H := H.2 c79
              refine T_iconst (pc' := 67) dX12_isOwnHere_66 (by decide) rfl ?_
              refine T_goto (pc' := 71) dX12_isOwnHere_67 (by decide) ?_
              exact T_wk (L' := [(2, 66), (3, 0)]) (qj4 _ _ H hG78) ⟨Or.inr rfl, Or.inl rfl, trivial⟩
def PX12_name_58  (K : Int → Mem → Prop) (Q : Int → Mem → Prop) : Nat → Int → Mem → Prop
  | 0 => fun _ _ => False
  | k + 1 => fun v1 M => (((M 66 3) ≤ (M 66 2) → K v1 M) ∧ (¬ ((M 66 3) ≤ (M 66 2)) → 0 ≤ (M 66 2) ∧ (M 66 2) < 1600 ∧ (((fX12_isLetter (M 67 (M 66 2))) = 0 → K v1 M) ∧ (¬ ((fX12_isLetter (M 67 (M 66 2))) = 0) → (((wr32 ((M 66 2) - (M 66 27))) = 6 → (∀ M8 : Mem, M8 = (fmX12_fail M 1 (M 66 2)) → Q 0 M8)) ∧ (¬ ((wr32 ((M 66 2) - (M 66 27))) = 6) → 0 ≤ (M 66 2) ∧ (M 66 2) < 1600 ∧ (∀ M6 : Mem, M6 = (mset M 66 2 (wr32 ((M 66 2) + 1))) → PX12_name_58  K Q k (wr64 ((wr64 ((wr64 ((wr64 (27 * v1)) + (M 67 (M 66 2)))) - 97)) + 1)) M6)))))))
def PX12_name  (M : Mem) (Q : Int → Mem → Prop) : Prop :=
  (((M 66 5) = 0 → PX12_look M (fun a2 M3 => (((fX12_isLetter a2) = 0 → (∀ M8 : Mem, M8 = (fmX12_fail M3 1 (M3 66 2)) → Q 0 M8)) ∧ (¬ ((fX12_isLetter a2) = 0) → (((M3 66 2) = (M3 66 4) → (∀ M11 : Mem, M11 = (fmX12_fail M3 1 (M3 66 2)) → Q 0 M11)) ∧ (¬ ((M3 66 2) = (M3 66 4)) → PX12_isOwnHere M3 (fun a12 M13 => ((a12 = 0 → (∀ M17 : Mem, M17 = (mset M13 66 27 (M13 66 2)) → (∃ k18 : Nat, PX12_name_58 (fun u19 M20 => (∀ M23 : Mem, M23 = (mset M20 66 4 (M20 66 2)) → Q u19 M23)) Q k18 0 M17))) ∧ (¬ (a12 = 0) → (∀ M25 : Mem, M25 = (fmX12_fail M13 1 (M13 66 2)) → Q 0 M25)))))))))) ∧ (¬ ((M 66 5) = 0) → Q 0 M))
set_option maxRecDepth 100000 in
set_option maxHeartbeats 2000000 in
theorem qX12_name_58 {E : EV} {h : Int}   {K : Int → Mem → Prop} {Q : Int → Mem → Prop} (hK : ∀ (v1 : Int) (M : Mem), K v1 M → G h M → TG E miX12_name 4 h (RI 1 Q) 145 [(2, 66), (1, v1), (3, 0)] [] M) : ∀ (k : Nat) (v1 : Int) (M : Mem), PX12_name_58  K Q k v1 M → G h M → TG E miX12_name 4 h (RI 1 Q) 58 [(2, 66), (1, v1), (3, 0)] [] M := by
  intro k
  induction k with
  | zero =>
    intro v1 M H
    exact False.elim H
  | succ k ih =>
    intro v1 M H hG
    refine T_aload_n (i := 0) (pc' := 59) dX12_name_58 rfl rfl rfl ?_
    refine U_gf (v := (0, (M 66 2))) (k := 2) (kI := 2) (pc' := 62) dX12_name_59 rfl cl12 (by decide) rfl (by decide) flX12_207 rfl rfl (by decide) rfl rfl ?_
    refine T_aload_n (i := 0) (pc' := 63) dX12_name_62 rfl rfl rfl ?_
    refine U_gf (v := (0, (M 66 3))) (k := 3) (kI := 3) (pc' := 66) dX12_name_63 rfl cl12 (by decide) rfl (by decide) flX12_210 rfl rfl (by decide) rfl rfl ?_
    refine T_icmp_ge (pc' := 145) dX12_name_66 (by decide) (pf := 69) rfl (fun c1 => ?_) (fun c1 => ?_)
    · skip
      replace H := H.1 c1
      exact T_wk (L' := [(2, 66), (1, v1), (3, 0)]) (hK _ _ H hG) ⟨Or.inr rfl, Or.inr rfl, Or.inl rfl, trivial⟩
    · skip
      replace H := H.2 c1
      refine T_aload_n (i := 0) (pc' := 70) dX12_name_69 rfl rfl rfl ?_
      refine U_gr (q := 67) (k := 0) (kI := 0) (pc' := 73) dX12_name_70 rfl cl12 (by decide) rfl (by decide) flX12_7 rfl rfl rfl (G_at hG 67 rfl) (by decide) rfl ?_
      refine T_aload_n (i := 0) (pc' := 74) dX12_name_73 rfl rfl rfl ?_
      refine U_gf (v := (0, (M 66 2))) (k := 2) (kI := 2) (pc' := 77) dX12_name_74 rfl cl12 (by decide) rfl (by decide) flX12_207 rfl rfl (by decide) rfl rfl ?_
      obtain ⟨z1, z2, H⟩ := H
      refine T_iald (pc' := 78) dX12_name_77 (by decide) rfl z1 z2 rfl ?_
      refine T_callS (av := [(0, (M 67 (M 66 2)))]) (st := []) (d2 := 1) (nc2 := 0) (ns2 := 0) (pc' := 81) dX12_name_78 rfl mtX12_isLetter mvX12_isLetter mlX12_217 rfl rfl (Nat.le_of_ble_eq_true rfl) (by decide) ⟨by decide, by decide⟩ rfl (pX12_isLetter (E := E) (h := h) (M := M) (v0 := (M 67 (M 66 2))) hG) (kF (st2 := [(0, (fX12_isLetter (M 67 (M 66 2))))]) rfl (fun hG2 => ?_))
      refine T_if_eq (pc' := 145) dX12_name_81 (by decide) (pf := 84) rfl (fun c3 => ?_) (fun c3 => ?_)
      · skip
        replace H := H.1 c3
        exact T_wk (L' := [(2, 66), (1, v1), (3, 0)]) (hK _ _ H hG) ⟨Or.inr rfl, Or.inr rfl, Or.inl rfl, trivial⟩
      · skip
        replace H := H.2 c3
        refine T_aload_n (i := 0) (pc' := 85) dX12_name_84 rfl rfl rfl ?_
        refine U_gf (v := (0, (M 66 2))) (k := 2) (kI := 2) (pc' := 88) dX12_name_85 rfl cl12 (by decide) rfl (by decide) flX12_207 rfl rfl (by decide) rfl rfl ?_
        refine T_aload_n (i := 0) (pc' := 89) dX12_name_88 rfl rfl rfl ?_
        refine U_gf (v := (0, (M 66 27))) (k := 27) (kI := 27) (pc' := 92) dX12_name_89 rfl cl12 (by decide) rfl (by decide) flX12_256 rfl rfl (by decide) rfl rfl ?_
        refine T_isub (pc' := 93) dX12_name_92 rfl ?_
        refine T_bipush (pc' := 95) dX12_name_93 rfl (by decide) rfl ?_
        refine T_icmp_ne (pc' := 109) dX12_name_95 (by decide) (pf := 98) rfl (fun c4 => ?_) (fun c4 => ?_)
        · skip
          replace H := H.2 c4
          refine T_ldc2 (n := 27) (pc' := 112) dX12_name_109 rfl kjX12_259 rfl (by decide) rfl ?_
          refine T_lload_n (i := 1) (pc' := 113) dX12_name_112 rfl rfl rfl ?_
          refine T_lmul (pc' := 114) dX12_name_113 rfl ?_
          refine T_aload_n (i := 0) (pc' := 115) dX12_name_114 rfl rfl rfl ?_
          refine U_gr (q := 67) (k := 0) (kI := 0) (pc' := 118) dX12_name_115 rfl cl12 (by decide) rfl (by decide) flX12_7 rfl rfl rfl (G_at hG 67 rfl) (by decide) rfl ?_
          refine T_aload_n (i := 0) (pc' := 119) dX12_name_118 rfl rfl rfl ?_
          refine U_gf (v := (0, (M 66 2))) (k := 2) (kI := 2) (pc' := 122) dX12_name_119 rfl cl12 (by decide) rfl (by decide) flX12_207 rfl rfl (by decide) rfl rfl ?_
          obtain ⟨z1, z2, H⟩ := H
          refine T_iald (pc' := 123) dX12_name_122 (by decide) rfl z1 z2 rfl ?_
          refine T_i2l (pc' := 124) dX12_name_123 rfl ?_
          refine T_ladd (pc' := 125) dX12_name_124 rfl ?_
          refine T_ldc2 (n := 97) (pc' := 128) dX12_name_125 rfl kjX12_261 rfl (by decide) rfl ?_
          refine T_lsub (pc' := 129) dX12_name_128 rfl ?_
          refine T_lconst (v := 1) (pc' := 130) dX12_name_129 rfl (by decide) rfl ?_
          refine T_ladd (pc' := 131) dX12_name_130 rfl ?_
          refine T_lstore_n (i := 1) (L' := [(2, 66), (1, (wr64 ((wr64 ((wr64 ((wr64 (27 * v1)) + (M 67 (M 66 2)))) - 97)) + 1))), (3, 0)]) (pc' := 132) dX12_name_131 rfl (by decide) rfl rfl ?_
          refine T_aload_n (i := 0) (pc' := 133) dX12_name_132 rfl rfl rfl ?_
          refine T_dup (pc' := 134) dX12_name_133 (Nat.ne_of_beq_eq_false rfl) rfl ?_
          refine U_gf (v := (0, (M 66 2))) (k := 2) (kI := 2) (pc' := 137) dX12_name_134 rfl cl12 (by decide) rfl (by decide) flX12_207 rfl rfl (by decide) rfl rfl ?_
          refine T_iconst (pc' := 138) dX12_name_137 (by decide) rfl ?_
          refine T_iadd (pc' := 139) dX12_name_138 rfl ?_
          refine U_pf (y := (wr32 ((M 66 2) + 1))) (k := 2) (kI := 2) (pc' := 142) dX12_name_139 rfl cl12 (by decide) rfl (by decide) flX12_207 rfl rfl rfl rfl rfl (by decide) (fun z => z) rfl ?_
          have hG5 := (G_fld (x := 66) (i := 2) (y := (wr32 ((M 66 2) + 1))) rfl (by decide) (by decide) (by decide) hG)
          obtain ⟨M6, eM6⟩ : ∃ m : Mem, m = (mset M 66 2 (wr32 ((M 66 2) + 1))) := ⟨_, rfl⟩
          rw [← eM6] at hG5 ⊢
          replace H := H M6 eM6
          refine T_goto (pc' := 58) dX12_name_142 (by decide) ?_
          exact T_wk (L' := [(2, 66), (1, (wr64 ((wr64 ((wr64 ((wr64 (27 * v1)) + (M 67 (M 66 2)))) - 97)) + 1))), (3, 0)]) (ih _ _ H hG5) ⟨Or.inr rfl, Or.inr rfl, Or.inl rfl, trivial⟩
        · skip
          replace H := H.1 c4
          refine T_aload_n (i := 0) (pc' := 99) dX12_name_98 rfl rfl rfl ?_
          refine T_iconst (pc' := 100) dX12_name_99 (by decide) rfl ?_
          refine T_aload_n (i := 0) (pc' := 101) dX12_name_100 rfl rfl rfl ?_
          refine U_gf (v := (0, (M 66 2))) (k := 2) (kI := 2) (pc' := 104) dX12_name_101 rfl cl12 (by decide) rfl (by decide) flX12_207 rfl rfl (by decide) rfl rfl ?_
          refine T_callV (av := [(0, 1), (0, (M 66 2))]) (st := []) (d2 := 1) (nc2 := 0) (ns2 := 0) (pc' := 107) dX12_name_104 rfl mtX12_fail mvX12_fail mlX12_231 cl12 rfl rfl rfl (Nat.le_of_ble_eq_true rfl) (by decide) ⟨by decide, by decide⟩ rfl (pX12_fail (E := E) (h := h) (M := M) (v1 := 1) (v2 := (M 66 2)) hG) (kF (st2 := []) rfl (fun hG7 => ?_))
          obtain ⟨M8, eM8⟩ : ∃ m : Mem, m = (fmX12_fail M 1 (M 66 2)) := ⟨_, rfl⟩
          rw [← eM8] at hG7 ⊢
          replace H := H M8 eM8
          refine T_lconst (v := 0) (pc' := 108) dX12_name_107 rfl (by decide) rfl ?_
          exact T_lret dX12_name_108 rfl ⟨rfl, hG7, _, rfl, H⟩
set_option maxRecDepth 100000 in
set_option maxHeartbeats 2000000 in
theorem pX12_name {E : EV} {h : Int} {M : Mem}   {Q : Int → Mem → Prop} (H : PX12_name  M Q) : C2 E miX12_name 4 h [(2, 66)] M (RI 1 Q) := by
  refine C2_of (L := [(2, 66), (3, 0), (3, 0)]) (by decide +kernel) (Nat.le_of_ble_eq_true rfl) rfl (fun hG => ?_)
  refine T_aload_n (i := 0) (pc' := 1) dX12_name_0 rfl rfl rfl ?_
  refine U_gf (v := (0, (M 66 5))) (k := 5) (kI := 5) (pc' := 4) dX12_name_1 rfl cl12 (by decide) rfl (by decide) flX12_201 rfl rfl (by decide) rfl rfl ?_
  refine T_if_eq (pc' := 9) dX12_name_4 (by decide) (pf := 7) rfl (fun c1 => ?_) (fun c1 => ?_)
  · skip
    replace H := H.1 c1
    refine T_aload_n (i := 0) (pc' := 10) dX12_name_9 rfl rfl rfl ?_
    refine T_callV (av := []) (st := []) (d2 := 1) (nc2 := 0) (ns2 := 0) (pc' := 13) dX12_name_10 rfl mtX12_look mvX12_look mlX12_213 cl12 rfl rfl rfl (Nat.le_of_ble_eq_true rfl) (by decide) ⟨by decide, by decide⟩ rfl (pX12_look (E := E) (h := h) (M := M) H hG) ?_
    rintro _ _ M3 ⟨rfl, hG4, a2, rfl, H⟩ _
    refine T_callS (av := [(0, a2)]) (st := []) (d2 := 1) (nc2 := 0) (ns2 := 0) (pc' := 16) dX12_name_13 rfl mtX12_isLetter mvX12_isLetter mlX12_217 rfl rfl (Nat.le_of_ble_eq_true rfl) (by decide) ⟨by decide, by decide⟩ rfl (pX12_isLetter (E := E) (h := h) (M := M3) (v0 := a2) hG4) (kF (st2 := [(0, (fX12_isLetter a2))]) rfl (fun hG5 => ?_))
    refine T_if_eq (pc' := 37) dX12_name_16 (by decide) (pf := 19) rfl (fun c6 => ?_) (fun c6 => ?_)
    · skip
      replace H := H.1 c6
      refine T_aload_n (i := 0) (pc' := 38) dX12_name_37 rfl rfl rfl ?_
      refine T_iconst (pc' := 39) dX12_name_38 (by decide) rfl ?_
      refine T_aload_n (i := 0) (pc' := 40) dX12_name_39 rfl rfl rfl ?_
      refine U_gf (v := (0, (M3 66 2))) (k := 2) (kI := 2) (pc' := 43) dX12_name_40 rfl cl12 (by decide) rfl (by decide) flX12_207 rfl rfl (by decide) rfl rfl ?_
      refine T_callV (av := [(0, 1), (0, (M3 66 2))]) (st := []) (d2 := 1) (nc2 := 0) (ns2 := 0) (pc' := 46) dX12_name_43 rfl mtX12_fail mvX12_fail mlX12_231 cl12 rfl rfl rfl (Nat.le_of_ble_eq_true rfl) (by decide) ⟨by decide, by decide⟩ rfl (pX12_fail (E := E) (h := h) (M := M3) (v1 := 1) (v2 := (M3 66 2)) hG4) (kF (st2 := []) rfl (fun hG7 => ?_))
      obtain ⟨M8, eM8⟩ : ∃ m : Mem, m = (fmX12_fail M3 1 (M3 66 2)) := ⟨_, rfl⟩
      rw [← eM8] at hG7 ⊢
      replace H := H M8 eM8
      refine T_lconst (v := 0) (pc' := 47) dX12_name_46 rfl (by decide) rfl ?_
      exact T_lret dX12_name_47 rfl ⟨rfl, hG7, _, rfl, H⟩
    · skip
      replace H := H.2 c6
      refine T_aload_n (i := 0) (pc' := 20) dX12_name_19 rfl rfl rfl ?_
      refine U_gf (v := (0, (M3 66 2))) (k := 2) (kI := 2) (pc' := 23) dX12_name_20 rfl cl12 (by decide) rfl (by decide) flX12_207 rfl rfl (by decide) rfl rfl ?_
      refine T_aload_n (i := 0) (pc' := 24) dX12_name_23 rfl rfl rfl ?_
      refine U_gf (v := (0, (M3 66 4))) (k := 4) (kI := 4) (pc' := 27) dX12_name_24 rfl cl12 (by decide) rfl (by decide) flX12_221 rfl rfl (by decide) rfl rfl ?_
      refine T_icmp_eq (pc' := 37) dX12_name_27 (by decide) (pf := 30) rfl (fun c9 => ?_) (fun c9 => ?_)
      · skip
        replace H := H.1 c9
        refine T_aload_n (i := 0) (pc' := 38) dX12_name_37 rfl rfl rfl ?_
        refine T_iconst (pc' := 39) dX12_name_38 (by decide) rfl ?_
        refine T_aload_n (i := 0) (pc' := 40) dX12_name_39 rfl rfl rfl ?_
        refine U_gf (v := (0, (M3 66 2))) (k := 2) (kI := 2) (pc' := 43) dX12_name_40 rfl cl12 (by decide) rfl (by decide) flX12_207 rfl rfl (by decide) rfl rfl ?_
        refine T_callV (av := [(0, 1), (0, (M3 66 2))]) (st := []) (d2 := 1) (nc2 := 0) (ns2 := 0) (pc' := 46) dX12_name_43 rfl mtX12_fail mvX12_fail mlX12_231 cl12 rfl rfl rfl (Nat.le_of_ble_eq_true rfl) (by decide) ⟨by decide, by decide⟩ rfl (pX12_fail (E := E) (h := h) (M := M3) (v1 := 1) (v2 := (M3 66 2)) hG4) (kF (st2 := []) rfl (fun hG10 => ?_))
        obtain ⟨M11, eM11⟩ : ∃ m : Mem, m = (fmX12_fail M3 1 (M3 66 2)) := ⟨_, rfl⟩
        rw [← eM11] at hG10 ⊢
        replace H := H M11 eM11
        refine T_lconst (v := 0) (pc' := 47) dX12_name_46 rfl (by decide) rfl ?_
        exact T_lret dX12_name_47 rfl ⟨rfl, hG10, _, rfl, H⟩
      · skip
        replace H := H.2 c9
        refine T_aload_n (i := 0) (pc' := 31) dX12_name_30 rfl rfl rfl ?_
        refine T_callV (av := []) (st := []) (d2 := 3) (nc2 := 0) (ns2 := 0) (pc' := 34) dX12_name_31 rfl mtX12_isOwnHere mvX12_isOwnHere mlX12_252 cl12 rfl rfl rfl (Nat.le_of_ble_eq_true rfl) (by decide) ⟨by decide, by decide⟩ rfl (pX12_isOwnHere (E := E) (h := h) (M := M3) H hG4) ?_
        rintro _ _ M13 ⟨rfl, hG14, a12, rfl, H⟩ _
        refine T_if_eq (pc' := 48) dX12_name_34 (by decide) (pf := 37) rfl (fun c15 => ?_) (fun c15 => ?_)
        · skip
          replace H := H.1 c15
          refine T_aload_n (i := 0) (pc' := 49) dX12_name_48 rfl rfl rfl ?_
          refine T_aload_n (i := 0) (pc' := 50) dX12_name_49 rfl rfl rfl ?_
          refine U_gf (v := (0, (M13 66 2))) (k := 2) (kI := 2) (pc' := 53) dX12_name_50 rfl cl12 (by decide) rfl (by decide) flX12_207 rfl rfl (by decide) rfl rfl ?_
          refine U_pf (y := (M13 66 2)) (k := 27) (kI := 27) (pc' := 56) dX12_name_53 rfl cl12 (by decide) rfl (by decide) flX12_256 rfl rfl rfl rfl rfl (by decide) (fun z => z) rfl ?_
          have hG16 := (G_fld (x := 66) (i := 27) (y := (M13 66 2)) rfl (by decide) (by decide) (by decide) hG14)
          obtain ⟨M17, eM17⟩ : ∃ m : Mem, m = (mset M13 66 27 (M13 66 2)) := ⟨_, rfl⟩
          rw [← eM17] at hG16 ⊢
          replace H := H M17 eM17
          refine T_lconst (v := 0) (pc' := 57) dX12_name_56 rfl (by decide) rfl ?_
          refine T_lstore_n (i := 1) (L' := [(2, 66), (1, 0), (3, 0)]) (pc' := 58) dX12_name_57 rfl (by decide) rfl rfl ?_
          obtain ⟨k18, H⟩ := H
          refine T_wk (L' := [(2, 66), (1, 0), (3, 0)]) (qX12_name_58  (fun u19 M20 H hG21 => ?_) _ _ _ H hG16) ⟨Or.inr rfl, Or.inr rfl, Or.inl rfl, trivial⟩
          refine T_aload_n (i := 0) (pc' := 146) dX12_name_145 rfl rfl rfl ?_
          refine T_aload_n (i := 0) (pc' := 147) dX12_name_146 rfl rfl rfl ?_
          refine U_gf (v := (0, (M20 66 2))) (k := 2) (kI := 2) (pc' := 150) dX12_name_147 rfl cl12 (by decide) rfl (by decide) flX12_207 rfl rfl (by decide) rfl rfl ?_
          refine U_pf (y := (M20 66 2)) (k := 4) (kI := 4) (pc' := 153) dX12_name_150 rfl cl12 (by decide) rfl (by decide) flX12_221 rfl rfl rfl rfl rfl (by decide) (fun z => z) rfl ?_
          have hG22 := (G_fld (x := 66) (i := 4) (y := (M20 66 2)) rfl (by decide) (by decide) (by decide) hG21)
          obtain ⟨M23, eM23⟩ : ∃ m : Mem, m = (mset M20 66 4 (M20 66 2)) := ⟨_, rfl⟩
          rw [← eM23] at hG22 ⊢
          replace H := H M23 eM23
          refine T_lload_n (i := 1) (pc' := 154) dX12_name_153 rfl rfl rfl ?_
          exact T_lret dX12_name_154 rfl ⟨rfl, hG22, _, rfl, H⟩
        · skip
          replace H := H.2 c15
          refine T_aload_n (i := 0) (pc' := 38) dX12_name_37 rfl rfl rfl ?_
          refine T_iconst (pc' := 39) dX12_name_38 (by decide) rfl ?_
          refine T_aload_n (i := 0) (pc' := 40) dX12_name_39 rfl rfl rfl ?_
          refine U_gf (v := (0, (M13 66 2))) (k := 2) (kI := 2) (pc' := 43) dX12_name_40 rfl cl12 (by decide) rfl (by decide) flX12_207 rfl rfl (by decide) rfl rfl ?_
          refine T_callV (av := [(0, 1), (0, (M13 66 2))]) (st := []) (d2 := 1) (nc2 := 0) (ns2 := 0) (pc' := 46) dX12_name_43 rfl mtX12_fail mvX12_fail mlX12_231 cl12 rfl rfl rfl (Nat.le_of_ble_eq_true rfl) (by decide) ⟨by decide, by decide⟩ rfl (pX12_fail (E := E) (h := h) (M := M13) (v1 := 1) (v2 := (M13 66 2)) hG14) (kF (st2 := []) rfl (fun hG24 => ?_))
          obtain ⟨M25, eM25⟩ : ∃ m : Mem, m = (fmX12_fail M13 1 (M13 66 2)) := ⟨_, rfl⟩
          rw [← eM25] at hG24 ⊢
          replace H := H M25 eM25
          refine T_lconst (v := 0) (pc' := 47) dX12_name_46 rfl (by decide) rfl ?_
          exact T_lret dX12_name_47 rfl ⟨rfl, hG24, _, rfl, H⟩
  · skip
    replace H := H.2 c1
    refine T_lconst (v := 0) (pc' := 8) dX12_name_7 rfl (by decide) rfl ?_
    exact T_lret dX12_name_8 rfl ⟨rfl, hG, _, rfl, H⟩
