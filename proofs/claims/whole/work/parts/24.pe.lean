/-! methods as propositions, 5 -/
def PX10_sparked_54 (g : Int) (K : Int → Mem → Prop) (Q : Int → Mem → Prop) : Nat → Int → Int → Mem → Prop
  | 0 => fun _ _ _ => False
  | k + 1 => fun v5 v6 M => (((M (g + 1) 8) ≤ v6 → K v5 M) ∧ (¬ ((M (g + 1) 8) ≤ v6) → PX10_sparked_54 g K Q k (if (fX11_get M 13 9 v6) = (-1) then v5 else (if (M g 14) ≤ (fX11_get M 13 9 v6) then v5 else (wr32 (v5 + 1)))) (wr32 (v6 + 1)) M))
def PX10_sparked (g : Int) (v2 : Int) (v3 : Int) (M : Mem) (Q : Int → Mem → Prop) : Prop :=
  (∀ M3 : Mem, M3 = (fmX11_put M (g + 4) 9 v3 0) → PX7_run g v2 0 M3 (fun _ M5 => (∀ M8 : Mem, M8 = (fmX11_put M5 (g + 4) 9 v3 (fX11_get M (g + 4) 9 v3)) → (∃ k9 : Nat, PX10_sparked_54 g (fun u10 M11 => Q u10 M11) Q k9 0 0 M8))))
set_option maxRecDepth 100000 in
set_option maxHeartbeats 2000000 in
theorem qX10_sparked_54 {E : EV} {h : Int} {g : Int} (hg : isG g) {K : Int → Mem → Prop} {Q : Int → Mem → Prop} (hK : ∀ (v5 : Int) (M : Mem), K v5 M → G h M → TG E miX10_sparked 6 h (RI 0 Q) 104 [(2, 25), (3, 0), (3, 0), (3, 0), (3, 0), (0, v5), (3, 0), (3, 0)] [] M) : ∀ (k : Nat) (v5 v6 : Int) (M : Mem), PX10_sparked_54 g K Q k v5 v6 M → G h M → TG E miX10_sparked 6 h (RI 0 Q) 54 [(2, 25), (2, g), (3, 0), (3, 0), (3, 0), (0, v5), (0, v6), (3, 0)] [] M := by
  intro k
  induction k with
  | zero =>
    intro v5 v6 M H
    exact False.elim H
  | succ k ih =>
    intro v5 v6 M H hG
    refine T_iload (i := 6) (pc' := 56) dX10_sparked_54 rfl rfl ?_
    refine T_aload_n (i := 1) (pc' := 57) dX10_sparked_56 rfl rfl rfl ?_
    refine U_grN (q := (g + 1)) (k := 0) (kI := 0) (pc' := 60) dX10_sparked_57 rfl cl1 (pog0 hg) (shg0 hg) (by decide) flX10_46 rfl rfl rfl (grg0_0 hg hG) (pog1 hg) rfl ?_
    refine U_gfN (v := (0, (M (g + 1) 8))) (k := 8) (kI := 8) (pc' := 63) dX10_sparked_60 rfl cl4 (pog1 hg) (shg1 hg) (by decide) flX10_66 rfl rfl (by decide) rfl rfl ?_
    refine T_icmp_ge (pc' := 104) dX10_sparked_63 (by decide) (pf := 66) rfl (fun c1 => ?_) (fun c1 => ?_)
    · skip
      replace H := H.1 c1
      exact T_wk (L' := [(2, 25), (3, 0), (3, 0), (3, 0), (3, 0), (0, v5), (3, 0), (3, 0)]) (hK _ _ H hG) ⟨Or.inr rfl, Or.inl rfl, Or.inl rfl, Or.inl rfl, Or.inl rfl, Or.inr rfl, Or.inl rfl, Or.inl rfl, trivial⟩
    · skip
      replace H := H.2 c1
      refine T_aload_n (i := 0) (pc' := 67) dX10_sparked_66 rfl rfl rfl ?_
      refine U_gr (q := 9) (k := 0) (kI := 0) (pc' := 70) dX10_sparked_67 rfl cl10 (by decide) rfl (by decide) flX10_9 rfl rfl rfl (G_at hG 30 rfl) (by decide) rfl ?_
      refine U_grN (q := 13) (k := 3) (kI := 3) (pc' := 73) dX10_sparked_70 rfl cl7 (by decide) rfl (by decide) flX10_87 rfl rfl rfl (G_at hG 19 rfl) (by decide) rfl ?_
      refine T_iload (i := 6) (pc' := 75) dX10_sparked_73 rfl rfl ?_
      refine T_callSN (av := [(2, 13), (0, v6)]) (st := []) (d2 := 1) (nc2 := 0) (ns2 := 0) (pc' := 78) dX10_sparked_75 rfl mtX11_get mvX11_get mlX10_72 rfl rfl (Nat.le_of_ble_eq_true rfl) (by decide) ⟨by decide, by decide⟩ rfl (pX11_get (E := E) (h := h) (M := M) (p0 := 13) (np0 := 9) (v1 := v6) (by decide) rfl (by decide) hG) (kF (st2 := [(0, (fX11_get M 13 9 v6))]) rfl (fun hG2 => ?_))
      refine T_istore (i := 7) (L' := [(2, 25), (2, g), (3, 0), (3, 0), (3, 0), (0, v5), (0, v6), (0, (fX11_get M 13 9 v6))]) (pc' := 80) dX10_sparked_78 (by decide) rfl rfl ?_
      refine T_iload (i := 7) (pc' := 82) dX10_sparked_80 rfl rfl ?_
      refine T_iconst (pc' := 83) dX10_sparked_82 (by decide) rfl ?_
      have HJ3 : T E miX10_sparked 6 126 0 0 (fun r S M' => S = S0 ∧ G h M' ∧ RI 0 Q r M') 98 [(2, 25), (2, g), (3, 0), (3, 0), (3, 0), (0, (if (fX11_get M 13 9 v6) = (-1) then v5 else (if (M g 14) ≤ (fX11_get M 13 9 v6) then v5 else (wr32 (v5 + 1))))), (0, v6), (3, 0)] [] S0 M 0 0 := by
        refine T_iinc (L' := [(2, 25), (2, g), (3, 0), (3, 0), (3, 0), (0, (if (fX11_get M 13 9 v6) = (-1) then v5 else (if (M g 14) ≤ (fX11_get M 13 9 v6) then v5 else (wr32 (v5 + 1))))), (0, (wr32 (v6 + 1))), (3, 0)]) (pc' := 101) dX10_sparked_98 rfl (by decide) rfl rfl ?_
        refine T_goto (pc' := 54) dX10_sparked_101 (by decide) ?_
        exact T_wk (L' := [(2, 25), (2, g), (3, 0), (3, 0), (3, 0), (0, (if (fX11_get M 13 9 v6) = (-1) then v5 else (if (M g 14) ≤ (fX11_get M 13 9 v6) then v5 else (wr32 (v5 + 1))))), (0, (wr32 (v6 + 1))), (3, 0)]) (ih _ _ _ H hG) ⟨Or.inr rfl, Or.inr rfl, Or.inl rfl, Or.inl rfl, Or.inl rfl, Or.inr rfl, Or.inr rfl, Or.inl rfl, trivial⟩
      refine T_icmp_eq (pc' := 98) dX10_sparked_83 (by decide) (pf := 86) rfl (fun c4 => ?_) (fun c4 => ?_)
      · skip
        exact T_wk (L' := [(2, 25), (2, g), (3, 0), (3, 0), (3, 0), (0, v5), (0, v6), (3, 0)]) (by have q := HJ3; try simp only [if_pos c4] at q ⊢; exact q) ⟨Or.inr rfl, Or.inr rfl, Or.inl rfl, Or.inl rfl, Or.inl rfl, Or.inr rfl, Or.inr rfl, Or.inl rfl, trivial⟩
      · skip
        refine T_iload (i := 7) (pc' := 88) dX10_sparked_86 rfl rfl ?_
        refine T_aload_n (i := 1) (pc' := 89) dX10_sparked_88 rfl rfl rfl ?_
        refine U_gfN (v := (0, (M g 14))) (k := 14) (kI := 14) (pc' := 92) dX10_sparked_89 rfl cl1 (pog0 hg) (shg0 hg) (by decide) flX10_90 rfl rfl (by decide) rfl rfl ?_
        refine T_icmp_ge (pc' := 98) dX10_sparked_92 (by decide) (pf := 95) rfl (fun c5 => ?_) (fun c5 => ?_)
        · skip
          exact T_wk (L' := [(2, 25), (2, g), (3, 0), (3, 0), (3, 0), (0, v5), (0, v6), (3, 0)]) (by have q := HJ3; try simp only [if_neg c4] at q ⊢; try simp only [if_pos c5] at q ⊢; exact q) ⟨Or.inr rfl, Or.inr rfl, Or.inl rfl, Or.inl rfl, Or.inl rfl, Or.inr rfl, Or.inr rfl, Or.inl rfl, trivial⟩
        · skip
          refine T_iinc (L' := [(2, 25), (2, g), (3, 0), (3, 0), (3, 0), (0, (wr32 (v5 + 1))), (0, v6), (0, (fX11_get M 13 9 v6))]) (pc' := 98) dX10_sparked_95 rfl (by decide) rfl rfl ?_
          exact T_wk (L' := [(2, 25), (2, g), (3, 0), (3, 0), (3, 0), (0, (wr32 (v5 + 1))), (0, v6), (3, 0)]) (by have q := HJ3; try simp only [if_neg c4] at q ⊢; try simp only [if_neg c5] at q ⊢; exact q) ⟨Or.inr rfl, Or.inr rfl, Or.inl rfl, Or.inl rfl, Or.inl rfl, Or.inr rfl, Or.inr rfl, Or.inl rfl, trivial⟩
set_option maxRecDepth 100000 in
set_option maxHeartbeats 2000000 in
theorem pX10_sparked {E : EV} {h : Int} {M : Mem} {g : Int} {v2 : Int} {v3 : Int} (hg : isG g) {Q : Int → Mem → Prop} (H : PX10_sparked g v2 v3 M Q) : C2 E miX10_sparked 6 h [(2, 25), (2, g), (0, v2), (0, v3)] M (RI 0 Q) := by
  refine C2_of (L := [(2, 25), (2, g), (0, v2), (0, v3), (3, 0), (3, 0), (3, 0), (3, 0)]) (by decide +kernel) (Nat.le_of_ble_eq_true rfl) rfl (fun hG => ?_)
  refine T_aload_n (i := 1) (pc' := 1) dX10_sparked_0 rfl rfl rfl ?_
  refine U_grN (q := (g + 1)) (k := 0) (kI := 0) (pc' := 4) dX10_sparked_1 rfl cl1 (pog0 hg) (shg0 hg) (by decide) flX10_46 rfl rfl rfl (grg0_0 hg hG) (pog1 hg) rfl ?_
  refine U_grN (q := (g + 4)) (k := 2) (kI := 2) (pc' := 7) dX10_sparked_4 rfl cl4 (pog1 hg) (shg1 hg) (by decide) flX10_80 rfl rfl rfl (grg1_2 hg hG) (pog4 hg) rfl ?_
  refine T_iload_n (i := 3) (pc' := 8) dX10_sparked_7 rfl rfl rfl ?_
  refine T_callSN (av := [(2, (g + 4)), (0, v3)]) (st := []) (d2 := 1) (nc2 := 0) (ns2 := 0) (pc' := 11) dX10_sparked_8 rfl mtX11_get mvX11_get mlX10_72 rfl rfl (Nat.le_of_ble_eq_true rfl) (by decide) ⟨by decide, by decide⟩ rfl (pX11_get (E := E) (h := h) (M := M) (p0 := (g + 4)) (np0 := 9) (v1 := v3) (pog4 hg) (shg4 hg) (by decide) hG) (kF (st2 := [(0, (fX11_get M (g + 4) 9 v3))]) rfl (fun hG1 => ?_))
  refine T_istore (i := 4) (L' := [(2, 25), (2, g), (0, v2), (0, v3), (0, (fX11_get M (g + 4) 9 v3)), (3, 0), (3, 0), (3, 0)]) (pc' := 13) dX10_sparked_11 (by decide) rfl rfl ?_
  refine T_aload_n (i := 1) (pc' := 14) dX10_sparked_13 rfl rfl rfl ?_
  refine U_grN (q := (g + 1)) (k := 0) (kI := 0) (pc' := 17) dX10_sparked_14 rfl cl1 (pog0 hg) (shg0 hg) (by decide) flX10_46 rfl rfl rfl (grg0_0 hg hG) (pog1 hg) rfl ?_
  refine U_grN (q := (g + 4)) (k := 2) (kI := 2) (pc' := 20) dX10_sparked_17 rfl cl4 (pog1 hg) (shg1 hg) (by decide) flX10_80 rfl rfl rfl (grg1_2 hg hG) (pog4 hg) rfl ?_
  refine T_iload_n (i := 3) (pc' := 21) dX10_sparked_20 rfl rfl rfl ?_
  refine T_iconst (pc' := 22) dX10_sparked_21 (by decide) rfl ?_
  refine T_callSN (av := [(2, (g + 4)), (0, v3), (0, 0)]) (st := []) (d2 := 1) (nc2 := 0) (ns2 := 0) (pc' := 25) dX10_sparked_22 rfl mtX11_put mvX11_put mlX10_83 rfl rfl (Nat.le_of_ble_eq_true rfl) (by decide) ⟨by decide, by decide⟩ rfl (pX11_put (E := E) (h := h) (M := M) (p0 := (g + 4)) (np0 := 9) (v1 := v3) (v2 := 0) (pog4 hg) (shg4 hg) (by decide) hG) (kF (st2 := []) rfl (fun hG2 => ?_))
  obtain ⟨M3, eM3⟩ : ∃ m : Mem, m = (fmX11_put M (g + 4) 9 v3 0) := ⟨_, rfl⟩
  rw [← eM3] at hG2 ⊢
  replace H := H M3 eM3
  refine T_aload_n (i := 0) (pc' := 26) dX10_sparked_25 rfl rfl rfl ?_
  refine U_gr (q := 9) (k := 0) (kI := 0) (pc' := 29) dX10_sparked_26 rfl cl10 (by decide) rfl (by decide) flX10_9 rfl rfl rfl (G_at hG2 30 rfl) (by decide) rfl ?_
  refine T_aload_n (i := 1) (pc' := 30) dX10_sparked_29 rfl rfl rfl ?_
  refine T_iload_n (i := 2) (pc' := 31) dX10_sparked_30 rfl rfl rfl ?_
  refine T_iconst (pc' := 32) dX10_sparked_31 (by decide) rfl ?_
  refine T_callV (av := [(2, g), (0, v2), (0, 0)]) (st := []) (d2 := 5) (nc2 := 0) (ns2 := 0) (pc' := 35) dX10_sparked_32 rfl mtX7_run mvX7_run mlX10_37 cl7 rfl rfl rfl (Nat.le_of_ble_eq_true rfl) (by decide) ⟨by decide, by decide⟩ rfl (pX7_run (E := E) (h := h) (M := M3) (g := g) (v2 := v2) (v3 := 0) hg H hG2) ?_
  rintro _ _ M5 ⟨rfl, hG6, rfl, H⟩ _
  refine T_aload_n (i := 1) (pc' := 36) dX10_sparked_35 rfl rfl rfl ?_
  refine U_grN (q := (g + 1)) (k := 0) (kI := 0) (pc' := 39) dX10_sparked_36 rfl cl1 (pog0 hg) (shg0 hg) (by decide) flX10_46 rfl rfl rfl (grg0_0 hg hG6) (pog1 hg) rfl ?_
  refine U_grN (q := (g + 4)) (k := 2) (kI := 2) (pc' := 42) dX10_sparked_39 rfl cl4 (pog1 hg) (shg1 hg) (by decide) flX10_80 rfl rfl rfl (grg1_2 hg hG6) (pog4 hg) rfl ?_
  refine T_iload_n (i := 3) (pc' := 43) dX10_sparked_42 rfl rfl rfl ?_
  refine T_iload (i := 4) (pc' := 45) dX10_sparked_43 rfl rfl ?_
  refine T_callSN (av := [(2, (g + 4)), (0, v3), (0, (fX11_get M (g + 4) 9 v3))]) (st := []) (d2 := 1) (nc2 := 0) (ns2 := 0) (pc' := 48) dX10_sparked_45 rfl mtX11_put mvX11_put mlX10_83 rfl rfl (Nat.le_of_ble_eq_true rfl) (by decide) ⟨by decide, by decide⟩ rfl (pX11_put (E := E) (h := h) (M := M5) (p0 := (g + 4)) (np0 := 9) (v1 := v3) (v2 := (fX11_get M (g + 4) 9 v3)) (pog4 hg) (shg4 hg) (by decide) hG6) (kF (st2 := []) rfl (fun hG7 => ?_))
  obtain ⟨M8, eM8⟩ : ∃ m : Mem, m = (fmX11_put M5 (g + 4) 9 v3 (fX11_get M (g + 4) 9 v3)) := ⟨_, rfl⟩
  rw [← eM8] at hG7 ⊢
  replace H := H M8 eM8
  refine T_iconst (pc' := 49) dX10_sparked_48 (by decide) rfl ?_
  refine T_istore (i := 5) (L' := [(2, 25), (2, g), (0, v2), (0, v3), (0, (fX11_get M (g + 4) 9 v3)), (0, 0), (3, 0), (3, 0)]) (pc' := 51) dX10_sparked_49 (by decide) rfl rfl ?_
  refine T_iconst (pc' := 52) dX10_sparked_51 (by decide) rfl ?_
  refine T_istore (i := 6) (L' := [(2, 25), (2, g), (0, v2), (0, v3), (0, (fX11_get M (g + 4) 9 v3)), (0, 0), (0, 0), (3, 0)]) (pc' := 54) dX10_sparked_52 (by decide) rfl rfl ?_
  obtain ⟨k9, H⟩ := H
  refine T_wk (L' := [(2, 25), (2, g), (3, 0), (3, 0), (3, 0), (0, 0), (0, 0), (3, 0)]) (qX10_sparked_54 hg (fun u10 M11 H hG12 => ?_) _ _ _ _ H hG7) ⟨Or.inr rfl, Or.inr rfl, Or.inl rfl, Or.inl rfl, Or.inl rfl, Or.inr rfl, Or.inr rfl, Or.inl rfl, trivial⟩
  refine T_iload (i := 5) (pc' := 106) dX10_sparked_104 rfl rfl ?_
  exact T_iret dX10_sparked_106 rfl ⟨rfl, hG12, _, rfl, H⟩
def PX10_comesOffDaring_25 (g : Int) (v3 : Int) (K : Mem → Prop) (Q : Int → Mem → Prop) : Nat → Int → Mem → Prop
  | 0 => fun _ _ => False
  | k + 1 => fun v6 M => (((M (g + 1) 8) ≤ v6 → K M) ∧ (¬ ((M (g + 1) 8) ≤ v6) → (((fX11_hasBit v3 v6) = 0 → PX10_comesOffDaring_25 g v3 K Q k (wr32 (v6 + 1)) M) ∧ (¬ ((fX11_hasBit v3 v6) = 0) → (∀ M5 : Mem, M5 = (fmX11_put M (g + 5) 9 v6 1) → PX10_comesOffDaring_25 g v3 K Q k (wr32 (v6 + 1)) M5)))))
def PX10_comesOffDaring (g : Int) (v2 : Int) (v3 : Int) (v4 : Int) (M : Mem) (Q : Int → Mem → Prop) : Prop :=
  (∀ M2 : Mem, M2 = (mcpy M (g + 5) 0 26 0 9) → (∃ k3 : Nat, PX10_comesOffDaring_25 g v3 (fun M4 => PX7_openAll g v2 v4 1 M4 (fun _ M7 => (∀ M10 : Mem, M10 = (mcpy M7 26 0 (g + 5) 0 9) → (((if (M10 9 8) = 0 then (0 : Int) else 1) : Int) = 0 ∨ ((if (M10 9 8) = 0 then (0 : Int) else 1) : Int) = 1) ∧ Q (if (M10 9 8) = 0 then (0 : Int) else 1) M10))) Q k3 0 M2))
set_option maxRecDepth 100000 in
set_option maxHeartbeats 2000000 in
theorem qX10_comesOffDaring_25 {E : EV} {h : Int} {g : Int} {v2 : Int} {v3 : Int} {v4 : Int} (hg : isG g) {K : Mem → Prop} {Q : Int → Mem → Prop} (hK : ∀ (M : Mem), K M → G h M → TG E miX10_comesOffDaring 5 h (RI 0 Q) 60 [(2, 25), (2, g), (0, v2), (3, 0), (0, v4), (2, (g + 5)), (3, 0)] [] M) : ∀ (k : Nat) (v6 : Int) (M : Mem), PX10_comesOffDaring_25 g v3 K Q k v6 M → G h M → TG E miX10_comesOffDaring 5 h (RI 0 Q) 25 [(2, 25), (2, g), (0, v2), (0, v3), (0, v4), (2, (g + 5)), (0, v6)] [] M := by
  intro k
  induction k with
  | zero =>
    intro v6 M H
    exact False.elim H
  | succ k ih =>
    intro v6 M H hG
    refine T_iload (i := 6) (pc' := 27) dX10_comesOffDaring_25 rfl rfl ?_
    refine T_aload_n (i := 1) (pc' := 28) dX10_comesOffDaring_27 rfl rfl rfl ?_
    refine U_grN (q := (g + 1)) (k := 0) (kI := 0) (pc' := 31) dX10_comesOffDaring_28 rfl cl1 (pog0 hg) (shg0 hg) (by decide) flX10_46 rfl rfl rfl (grg0_0 hg hG) (pog1 hg) rfl ?_
    refine U_gfN (v := (0, (M (g + 1) 8))) (k := 8) (kI := 8) (pc' := 34) dX10_comesOffDaring_31 rfl cl4 (pog1 hg) (shg1 hg) (by decide) flX10_66 rfl rfl (by decide) rfl rfl ?_
    refine T_icmp_ge (pc' := 60) dX10_comesOffDaring_34 (by decide) (pf := 37) rfl (fun c1 => ?_) (fun c1 => ?_)
    · skip
      replace H := H.1 c1
      exact T_wk (L' := [(2, 25), (2, g), (0, v2), (3, 0), (0, v4), (2, (g + 5)), (3, 0)]) (hK _ H hG) ⟨Or.inr rfl, Or.inr rfl, Or.inr rfl, Or.inl rfl, Or.inr rfl, Or.inr rfl, Or.inl rfl, trivial⟩
    · skip
      replace H := H.2 c1
      refine T_iload_n (i := 3) (pc' := 38) dX10_comesOffDaring_37 rfl rfl rfl ?_
      refine T_iload (i := 6) (pc' := 40) dX10_comesOffDaring_38 rfl rfl ?_
      refine T_callSN (av := [(0, v3), (0, v6)]) (st := []) (d2 := 1) (nc2 := 0) (ns2 := 0) (pc' := 43) dX10_comesOffDaring_40 rfl mtX11_hasBit mvX11_hasBit mlX10_76 rfl rfl (Nat.le_of_ble_eq_true rfl) (by decide) ⟨by decide, by decide⟩ rfl (pX11_hasBit (E := E) (h := h) (M := M) (v0 := v3) (v1 := v6) hG) (kF (st2 := [(0, (fX11_hasBit v3 v6))]) rfl (fun hG2 => ?_))
      refine T_if_eq (pc' := 54) dX10_comesOffDaring_43 (by decide) (pf := 46) rfl (fun c3 => ?_) (fun c3 => ?_)
      · skip
        replace H := H.1 c3
        refine T_iinc (L' := [(2, 25), (2, g), (0, v2), (0, v3), (0, v4), (2, (g + 5)), (0, (wr32 (v6 + 1)))]) (pc' := 57) dX10_comesOffDaring_54 rfl (by decide) rfl rfl ?_
        refine T_goto (pc' := 25) dX10_comesOffDaring_57 (by decide) ?_
        exact T_wk (L' := [(2, 25), (2, g), (0, v2), (0, v3), (0, v4), (2, (g + 5)), (0, (wr32 (v6 + 1)))]) (ih _ _ H hG) ⟨Or.inr rfl, Or.inr rfl, Or.inr rfl, Or.inr rfl, Or.inr rfl, Or.inr rfl, Or.inr rfl, trivial⟩
      · skip
        replace H := H.2 c3
        refine T_aload (i := 5) (pc' := 48) dX10_comesOffDaring_46 rfl rfl ?_
        refine T_iload (i := 6) (pc' := 50) dX10_comesOffDaring_48 rfl rfl ?_
        refine T_iconst (pc' := 51) dX10_comesOffDaring_50 (by decide) rfl ?_
        refine T_callSN (av := [(2, (g + 5)), (0, v6), (0, 1)]) (st := []) (d2 := 1) (nc2 := 0) (ns2 := 0) (pc' := 54) dX10_comesOffDaring_51 rfl mtX11_put mvX11_put mlX10_83 rfl rfl (Nat.le_of_ble_eq_true rfl) (by decide) ⟨by decide, by decide⟩ rfl (pX11_put (E := E) (h := h) (M := M) (p0 := (g + 5)) (np0 := 9) (v1 := v6) (v2 := 1) (pog5 hg) (shg5 hg) (by decide) hG) (kF (st2 := []) rfl (fun hG4 => ?_))
        obtain ⟨M5, eM5⟩ : ∃ m : Mem, m = (fmX11_put M (g + 5) 9 v6 1) := ⟨_, rfl⟩
        rw [← eM5] at hG4 ⊢
        replace H := H M5 eM5
        refine T_iinc (L' := [(2, 25), (2, g), (0, v2), (0, v3), (0, v4), (2, (g + 5)), (0, (wr32 (v6 + 1)))]) (pc' := 57) dX10_comesOffDaring_54 rfl (by decide) rfl rfl ?_
        refine T_goto (pc' := 25) dX10_comesOffDaring_57 (by decide) ?_
        exact T_wk (L' := [(2, 25), (2, g), (0, v2), (0, v3), (0, v4), (2, (g + 5)), (0, (wr32 (v6 + 1)))]) (ih _ _ H hG4) ⟨Or.inr rfl, Or.inr rfl, Or.inr rfl, Or.inr rfl, Or.inr rfl, Or.inr rfl, Or.inr rfl, trivial⟩
set_option maxRecDepth 100000 in
set_option maxHeartbeats 2000000 in
theorem pX10_comesOffDaring {E : EV} {h : Int} {M : Mem} {g : Int} {v2 : Int} {v3 : Int} {v4 : Int} (hg : isG g) {Q : Int → Mem → Prop} (H : PX10_comesOffDaring g v2 v3 v4 M Q) : C2 E miX10_comesOffDaring 5 h [(2, 25), (2, g), (0, v2), (0, v3), (0, v4)] M (RI 0 Q) := by
  refine C2_of (L := [(2, 25), (2, g), (0, v2), (0, v3), (0, v4), (3, 0), (3, 0)]) (by decide +kernel) (Nat.le_of_ble_eq_true rfl) rfl (fun hG => ?_)
  refine T_aload_n (i := 1) (pc' := 1) dX10_comesOffDaring_0 rfl rfl rfl ?_
  refine U_grN (q := (g + 1)) (k := 0) (kI := 0) (pc' := 4) dX10_comesOffDaring_1 rfl cl1 (pog0 hg) (shg0 hg) (by decide) flX10_46 rfl rfl rfl (grg0_0 hg hG) (pog1 hg) rfl ?_
  refine U_grN (q := (g + 5)) (k := 3) (kI := 3) (pc' := 7) dX10_comesOffDaring_4 rfl cl4 (pog1 hg) (shg1 hg) (by decide) flX10_108 rfl rfl rfl (grg1_3 hg hG) (pog5 hg) rfl ?_
  refine T_astore (i := 5) (L' := [(2, 25), (2, g), (0, v2), (0, v3), (0, v4), (2, (g + 5)), (3, 0)]) (pc' := 9) dX10_comesOffDaring_7 (by decide) rfl rfl ?_
  refine T_aload (i := 5) (pc' := 11) dX10_comesOffDaring_9 rfl rfl ?_
  refine T_iconst (pc' := 12) dX10_comesOffDaring_11 (by decide) rfl ?_
  refine T_aload_n (i := 0) (pc' := 13) dX10_comesOffDaring_12 rfl rfl rfl ?_
  refine U_gr (q := 26) (k := 1) (kI := 1) (pc' := 16) dX10_comesOffDaring_13 rfl cl10 (by decide) rfl (by decide) flX10_15 rfl rfl rfl (G_at hG 31 rfl) (by decide) rfl ?_
  refine T_iconst (pc' := 17) dX10_comesOffDaring_16 (by decide) rfl ?_
  refine T_bipush (pc' := 19) dX10_comesOffDaring_17 rfl (by decide) rfl ?_
  refine U_copy (pc' := 22) dX10_comesOffDaring_19 rfl mlX10_111 (by decide) (pog5 hg) rfl (shg5 hg) (by decide) (by decide) (by decide) (by decide) (by decide) (Nat.le_of_ble_eq_true rfl) (by decide) rfl ?_
  have hG1 := (G_cpy (x := 26) (y := (g + 5)) (sp := 0) (dp := 0) (n := 9) rfl (by decide) hG)
  obtain ⟨M2, eM2⟩ : ∃ m : Mem, m = (mcpy M (g + 5) 0 26 0 9) := ⟨_, rfl⟩
  rw [← eM2] at hG1 ⊢
  replace H := H M2 eM2
  refine T_iconst (pc' := 23) dX10_comesOffDaring_22 (by decide) rfl ?_
  refine T_istore (i := 6) (L' := [(2, 25), (2, g), (0, v2), (0, v3), (0, v4), (2, (g + 5)), (0, 0)]) (pc' := 25) dX10_comesOffDaring_23 (by decide) rfl rfl ?_
  obtain ⟨k3, H⟩ := H
  refine T_wk (L' := [(2, 25), (2, g), (0, v2), (0, v3), (0, v4), (2, (g + 5)), (0, 0)]) (qX10_comesOffDaring_25 (v2 := v2) (v3 := v3) (v4 := v4) hg (fun M4 H hG5 => ?_) _ _ _ H hG1) ⟨Or.inr rfl, Or.inr rfl, Or.inr rfl, Or.inr rfl, Or.inr rfl, Or.inr rfl, Or.inr rfl, trivial⟩
  refine T_aload_n (i := 0) (pc' := 61) dX10_comesOffDaring_60 rfl rfl rfl ?_
  refine U_gr (q := 9) (k := 0) (kI := 0) (pc' := 64) dX10_comesOffDaring_61 rfl cl10 (by decide) rfl (by decide) flX10_9 rfl rfl rfl (G_at hG5 30 rfl) (by decide) rfl ?_
  refine T_aload_n (i := 1) (pc' := 65) dX10_comesOffDaring_64 rfl rfl rfl ?_
  refine T_iload_n (i := 2) (pc' := 66) dX10_comesOffDaring_65 rfl rfl rfl ?_
  refine T_iload (i := 4) (pc' := 68) dX10_comesOffDaring_66 rfl rfl ?_
  refine T_iconst (pc' := 69) dX10_comesOffDaring_68 (by decide) rfl ?_
  refine T_callV (av := [(2, g), (0, v2), (0, v4), (0, 1)]) (st := []) (d2 := 4) (nc2 := 0) (ns2 := 0) (pc' := 72) dX10_comesOffDaring_69 rfl mtX7_openAll mvX7_openAll mlX10_117 cl7 rfl rfl rfl (Nat.le_of_ble_eq_true rfl) (by decide) ⟨by decide, by decide⟩ rfl (pX7_openAll (E := E) (h := h) (M := M4) (g := g) (v2 := v2) (v3 := v4) (v4 := 1) hg H hG5) ?_
  rintro _ _ M7 ⟨rfl, hG8, rfl, H⟩ _
  refine T_aload_n (i := 0) (pc' := 73) dX10_comesOffDaring_72 rfl rfl rfl ?_
  refine U_gr (q := 26) (k := 1) (kI := 1) (pc' := 76) dX10_comesOffDaring_73 rfl cl10 (by decide) rfl (by decide) flX10_15 rfl rfl rfl (G_at hG8 31 rfl) (by decide) rfl ?_
  refine T_iconst (pc' := 77) dX10_comesOffDaring_76 (by decide) rfl ?_
  refine T_aload (i := 5) (pc' := 79) dX10_comesOffDaring_77 rfl rfl ?_
  refine T_iconst (pc' := 80) dX10_comesOffDaring_79 (by decide) rfl ?_
  refine T_bipush (pc' := 82) dX10_comesOffDaring_80 rfl (by decide) rfl ?_
  refine U_copy (pc' := 85) dX10_comesOffDaring_82 rfl mlX10_111 (pog5 hg) (by decide) (shg5 hg) rfl (by decide) (by decide) (by decide) (by decide) (by decide) (Nat.le_of_ble_eq_true rfl) (by decide) rfl ?_
  have hG9 := (G_cpy (x := (g + 5)) (y := 26) (sp := 0) (dp := 0) (n := 9) (shg5 hg) (pog5 hg) hG8)
  obtain ⟨M10, eM10⟩ : ∃ m : Mem, m = (mcpy M7 26 0 (g + 5) 0 9) := ⟨_, rfl⟩
  rw [← eM10] at hG9 ⊢
  replace H := H M10 eM10
  refine T_aload_n (i := 0) (pc' := 86) dX10_comesOffDaring_85 rfl rfl rfl ?_
  refine U_gr (q := 9) (k := 0) (kI := 0) (pc' := 89) dX10_comesOffDaring_86 rfl cl10 (by decide) rfl (by decide) flX10_9 rfl rfl rfl (G_at hG9 30 rfl) (by decide) rfl ?_
  refine U_gfN (v := (0, (M10 9 8))) (k := 8) (kI := 8) (pc' := 92) dX10_comesOffDaring_89 rfl cl7 (by decide) rfl (by decide) flX10_43 rfl rfl (by decide) rfl rfl ?_
  have HJ11 : T E miX10_comesOffDaring 5 126 0 0 (fun r S M' => S = S0 ∧ G h M' ∧ RI 0 Q r M') 100 [(3, 0), (3, 0), (3, 0), (3, 0), (3, 0), (3, 0), (3, 0)] [(0, (if (M10 9 8) = 0 then (0 : Int) else 1))] S0 M10 0 0 := by
    obtain ⟨z1, H⟩ := H
    exact T_zret dX10_comesOffDaring_100 rfl z1 ⟨rfl, hG9, _, rfl, H⟩
  refine T_if_eq (pc' := 99) dX10_comesOffDaring_92 (by decide) (pf := 95) rfl (fun c12 => ?_) (fun c12 => ?_)
  · skip
    refine T_iconst (pc' := 100) dX10_comesOffDaring_99 (by decide) rfl ?_
    exact T_wk (L' := [(3, 0), (3, 0), (3, 0), (3, 0), (3, 0), (3, 0), (3, 0)]) (by have q := HJ11; try simp only [if_pos c12] at q ⊢; exact q) ⟨Or.inl rfl, Or.inl rfl, Or.inl rfl, Or.inl rfl, Or.inl rfl, Or.inl rfl, Or.inl rfl, trivial⟩
  · skip
    refine T_iconst (pc' := 96) dX10_comesOffDaring_95 (by decide) rfl ?_
    refine T_goto (pc' := 100) dX10_comesOffDaring_96 (by decide) ?_
    exact T_wk (L' := [(3, 0), (3, 0), (3, 0), (3, 0), (3, 0), (3, 0), (3, 0)]) (by have q := HJ11; try simp only [if_neg c12] at q ⊢; exact q) ⟨Or.inl rfl, Or.inl rfl, Or.inl rfl, Or.inl rfl, Or.inl rfl, Or.inl rfl, Or.inl rfl, trivial⟩
def PX10_fewestDaring_62 (g : Int) (v2 : Int) (v3 : Int) (v4 : Int) (K : Mem → Prop) (Q : Int → Mem → Prop) : Nat → Int → Mem → Prop
  | 0 => fun _ _ => False
  | k + 1 => fun v5 M => (((fX4_all M g) < v5 → K M) ∧ (¬ ((fX4_all M g) < v5) → (∀ a4 : Int, a4 = (fJ6_bitCount_0f7a4 v5) → (((if a4 = v4 then (if (m_and v5 (m_xor v2 (-1))) = 0 then (1 : Int) else 0) else 0) = 0 → PX10_fewestDaring_62 g v2 v3 v4 K Q k (wr32 (v5 + 1)) M) ∧ (¬ ((if a4 = v4 then (if (m_and v5 (m_xor v2 (-1))) = 0 then (1 : Int) else 0) else 0) = 0) → PX10_comesOffDaring g v2 v5 v3 M (fun a7 M8 => ((a7 = 0 → PX10_fewestDaring_62 g v2 v3 v4 K Q k (wr32 (v5 + 1)) M8) ∧ (¬ (a7 = 0) → Q v5 M8))))))))
def PX10_fewestDaring_47 (g : Int) (v2 : Int) (v3 : Int) (K : Mem → Prop) (Q : Int → Mem → Prop) : Nat → Int → Mem → Prop
  | 0 => fun _ _ => False
  | k + 1 => fun v4 M => (((M (g + 1) 8) < v4 → K M) ∧ (¬ ((M (g + 1) 8) < v4) → (∃ k2 : Nat, PX10_fewestDaring_62 g v2 v3 v4 (fun M3 => PX10_fewestDaring_47 g v2 v3 K Q k (wr32 (v4 + 1)) M3) Q k2 0 M)))
def PX10_fewestDaring (g : Int) (v2 : Int) (M : Mem) (Q : Int → Mem → Prop) : Prop :=
  (∀ M2 : Mem, M2 = (fmX7_findFirst M g v2) → (∀ a3 : Int, a3 = (fX7_findFirst M g v2) → PX7_findAlarm g v2 a3 M2 (fun _ M5 => (((M5 9 9) = (-1) → (∀ a9 : Int, a9 = (fJ6_bitCount_0f7a4 v2) → (((M5 g 17) ≤ a9 → (∃ k11 : Nat, PX10_fewestDaring_47 g v2 a3 (fun M12 => Q (-1) M12) Q k11 0 M5)) ∧ (¬ ((M5 g 17) ≤ a9) → Q (-1) M5)))) ∧ (¬ ((M5 9 9) = (-1)) → Q (-1) M5)))))
set_option maxRecDepth 100000 in
set_option maxHeartbeats 2000000 in
theorem qX10_fewestDaring_62 {E : EV} {h : Int} {g : Int} {v2 : Int} {v3 : Int} {v4 : Int} (hg : isG g) {K : Mem → Prop} {Q : Int → Mem → Prop} (hK : ∀ (M : Mem), K M → G h M → TG E miX10_fewestDaring 6 h (RI 0 Q) 126 [(2, 25), (2, g), (0, v2), (0, v3), (0, v4), (3, 0), (3, 0)] [] M) : ∀ (k : Nat) (v5 : Int) (M : Mem), PX10_fewestDaring_62 g v2 v3 v4 K Q k v5 M → G h M → TG E miX10_fewestDaring 6 h (RI 0 Q) 62 [(2, 25), (2, g), (0, v2), (0, v3), (0, v4), (0, v5), (3, 0)] [] M := by
  intro k
  induction k with
  | zero =>
    intro v5 M H
    exact False.elim H
  | succ k ih =>
    intro v5 M H hG
    refine T_iload (i := 5) (pc' := 64) dX10_fewestDaring_62 rfl rfl ?_
    refine T_aload_n (i := 1) (pc' := 65) dX10_fewestDaring_64 rfl rfl rfl ?_
    refine U_grN (q := (g + 1)) (k := 0) (kI := 0) (pc' := 68) dX10_fewestDaring_65 rfl cl1 (pog0 hg) (shg0 hg) (by decide) flX10_46 rfl rfl rfl (grg0_0 hg hG) (pog1 hg) rfl ?_
    refine T_callV (av := []) (st := [(0, v5)]) (d2 := 1) (nc2 := 0) (ns2 := 0) (pc' := 71) dX10_fewestDaring_68 rfl mtX4_all mvX4_all mlX10_50 cl4 (shg1 hg) rfl rfl (Nat.le_of_ble_eq_true rfl) (by decide) ⟨by decide, by decide⟩ rfl (pX4_all (E := E) (h := h) (M := M) (g := g) hg hG) (kF (st2 := [(0, (fX4_all M g)), (0, v5)]) rfl (fun hG1 => ?_))
    refine T_icmp_gt (pc' := 126) dX10_fewestDaring_71 (by decide) (pf := 74) rfl (fun c2 => ?_) (fun c2 => ?_)
    · skip
      replace H := H.1 c2
      exact T_wk (L' := [(2, 25), (2, g), (0, v2), (0, v3), (0, v4), (3, 0), (3, 0)]) (hK _ H hG) ⟨Or.inr rfl, Or.inr rfl, Or.inr rfl, Or.inr rfl, Or.inr rfl, Or.inl rfl, Or.inl rfl, trivial⟩
    · skip
      replace H := H.2 c2
      refine T_iload (i := 5) (pc' := 76) dX10_fewestDaring_74 rfl rfl ?_
      refine T_callS (av := [(0, v5)]) (st := []) (d2 := 1) (nc2 := 0) (ns2 := 0) (pc' := 79) dX10_fewestDaring_76 rfl mtJ6_bitCount_0f7a4 mvJ6_bitCount_0f7a4 mlX10_26 rfl rfl (Nat.le_of_ble_eq_true rfl) (by decide) ⟨by decide, by decide⟩ rfl (pJ6_bitCount_0f7a4 (E := E) (h := h) (M := M) (v0 := v5) hG) (kF (st2 := [(0, (fJ6_bitCount_0f7a4 v5))]) rfl (fun hG3 => ?_))
      obtain ⟨a4, ea4⟩ : ∃ z : Int, z = (fJ6_bitCount_0f7a4 v5) := ⟨_, rfl⟩
      rw [← ea4]
      replace H := H a4 ea4
      refine T_iload (i := 4) (pc' := 81) dX10_fewestDaring_79 rfl rfl ?_
      have HJ5 : T E miX10_fewestDaring 6 126 0 0 (fun r S M' => S = S0 ∧ G h M' ∧ RI 0 Q r M') 98 [(2, 25), (2, g), (0, v2), (0, v3), (0, v4), (0, v5), (3, 0)] [(0, (if a4 = v4 then (if (m_and v5 (m_xor v2 (-1))) = 0 then (1 : Int) else 0) else 0))] S0 M 0 0 := by
        refine T_istore (i := 6) (L' := [(2, 25), (2, g), (0, v2), (0, v3), (0, v4), (0, v5), (0, (if a4 = v4 then (if (m_and v5 (m_xor v2 (-1))) = 0 then (1 : Int) else 0) else 0))]) (pc' := 100) dX10_fewestDaring_98 (by decide) rfl rfl ?_
        refine T_iload (i := 6) (pc' := 102) dX10_fewestDaring_100 rfl rfl ?_
        refine T_if_eq (pc' := 120) dX10_fewestDaring_102 (by decide) (pf := 105) rfl (fun c6 => ?_) (fun c6 => ?_)
        · skip
          replace H := H.1 c6
          refine T_iinc (L' := [(2, 25), (2, g), (0, v2), (0, v3), (0, v4), (0, (wr32 (v5 + 1))), (0, (if a4 = v4 then (if (m_and v5 (m_xor v2 (-1))) = 0 then (1 : Int) else 0) else 0))]) (pc' := 123) dX10_fewestDaring_120 rfl (by decide) rfl rfl ?_
          refine T_goto (pc' := 62) dX10_fewestDaring_123 (by decide) ?_
          exact T_wk (L' := [(2, 25), (2, g), (0, v2), (0, v3), (0, v4), (0, (wr32 (v5 + 1))), (3, 0)]) (ih _ _ H hG) ⟨Or.inr rfl, Or.inr rfl, Or.inr rfl, Or.inr rfl, Or.inr rfl, Or.inr rfl, Or.inl rfl, trivial⟩
        · skip
          replace H := H.2 c6
          refine T_aload_n (i := 0) (pc' := 106) dX10_fewestDaring_105 rfl rfl rfl ?_
          refine T_aload_n (i := 1) (pc' := 107) dX10_fewestDaring_106 rfl rfl rfl ?_
          refine T_iload_n (i := 2) (pc' := 108) dX10_fewestDaring_107 rfl rfl rfl ?_
          refine T_iload (i := 5) (pc' := 110) dX10_fewestDaring_108 rfl rfl ?_
          refine T_iload_n (i := 3) (pc' := 111) dX10_fewestDaring_110 rfl rfl rfl ?_
          refine T_callV (av := [(2, g), (0, v2), (0, v5), (0, v3)]) (st := []) (d2 := 5) (nc2 := 0) (ns2 := 0) (pc' := 114) dX10_fewestDaring_111 rfl mtX10_comesOffDaring mvX10_comesOffDaring mlX10_104 cl10 rfl rfl rfl (Nat.le_of_ble_eq_true rfl) (by decide) ⟨by decide, by decide⟩ rfl (pX10_comesOffDaring (E := E) (h := h) (M := M) (g := g) (v2 := v2) (v3 := v5) (v4 := v3) hg H hG) ?_
          rintro _ _ M8 ⟨rfl, hG9, a7, rfl, H⟩ _
          refine T_if_eq (pc' := 120) dX10_fewestDaring_114 (by decide) (pf := 117) rfl (fun c10 => ?_) (fun c10 => ?_)
          · skip
            replace H := H.1 c10
            refine T_iinc (L' := [(2, 25), (2, g), (0, v2), (0, v3), (0, v4), (0, (wr32 (v5 + 1))), (0, (if a4 = v4 then (if (m_and v5 (m_xor v2 (-1))) = 0 then (1 : Int) else 0) else 0))]) (pc' := 123) dX10_fewestDaring_120 rfl (by decide) rfl rfl ?_
            refine T_goto (pc' := 62) dX10_fewestDaring_123 (by decide) ?_
            exact T_wk (L' := [(2, 25), (2, g), (0, v2), (0, v3), (0, v4), (0, (wr32 (v5 + 1))), (3, 0)]) (ih _ _ H hG9) ⟨Or.inr rfl, Or.inr rfl, Or.inr rfl, Or.inr rfl, Or.inr rfl, Or.inr rfl, Or.inl rfl, trivial⟩
          · skip
            replace H := H.2 c10
            refine T_iload (i := 5) (pc' := 119) dX10_fewestDaring_117 rfl rfl ?_
            exact T_iret dX10_fewestDaring_119 rfl ⟨rfl, hG9, _, rfl, H⟩
      refine T_icmp_ne (pc' := 97) dX10_fewestDaring_81 (by decide) (pf := 84) rfl (fun c11 => ?_) (fun c11 => ?_)
      · skip
        refine T_iconst (pc' := 98) dX10_fewestDaring_97 (by decide) rfl ?_
        exact T_wk (L' := [(2, 25), (2, g), (0, v2), (0, v3), (0, v4), (0, v5), (3, 0)]) (by have q := HJ5; try simp only [if_neg c11] at q ⊢; exact q) ⟨Or.inr rfl, Or.inr rfl, Or.inr rfl, Or.inr rfl, Or.inr rfl, Or.inr rfl, Or.inl rfl, trivial⟩
      · skip
        refine T_iload (i := 5) (pc' := 86) dX10_fewestDaring_84 rfl rfl ?_
        refine T_iload_n (i := 2) (pc' := 87) dX10_fewestDaring_86 rfl rfl rfl ?_
        refine T_iconst (pc' := 88) dX10_fewestDaring_87 (by decide) rfl ?_
        refine T_ixor (pc' := 89) dX10_fewestDaring_88 rfl ?_
        refine T_iand (pc' := 90) dX10_fewestDaring_89 rfl ?_
        refine T_if_ne (pc' := 97) dX10_fewestDaring_90 (by decide) (pf := 93) rfl (fun c12 => ?_) (fun c12 => ?_)
        · skip
          refine T_iconst (pc' := 98) dX10_fewestDaring_97 (by decide) rfl ?_
          exact T_wk (L' := [(2, 25), (2, g), (0, v2), (0, v3), (0, v4), (0, v5), (3, 0)]) (by have q := HJ5; try simp only [if_pos c11] at q ⊢; try simp only [if_neg c12] at q ⊢; exact q) ⟨Or.inr rfl, Or.inr rfl, Or.inr rfl, Or.inr rfl, Or.inr rfl, Or.inr rfl, Or.inl rfl, trivial⟩
        · skip
          refine T_iconst (pc' := 94) dX10_fewestDaring_93 (by decide) rfl ?_
          refine T_goto (pc' := 98) dX10_fewestDaring_94 (by decide) ?_
          exact T_wk (L' := [(2, 25), (2, g), (0, v2), (0, v3), (0, v4), (0, v5), (3, 0)]) (by have q := HJ5; try simp only [if_pos c11] at q ⊢; try simp only [if_pos c12] at q ⊢; exact q) ⟨Or.inr rfl, Or.inr rfl, Or.inr rfl, Or.inr rfl, Or.inr rfl, Or.inr rfl, Or.inl rfl, trivial⟩
set_option maxRecDepth 100000 in
set_option maxHeartbeats 2000000 in
theorem qX10_fewestDaring_47 {E : EV} {h : Int} {g : Int} {v2 : Int} {v3 : Int} (hg : isG g) {K : Mem → Prop} {Q : Int → Mem → Prop} (hK : ∀ (M : Mem), K M → G h M → TG E miX10_fewestDaring 6 h (RI 0 Q) 132 [(2, 25), (3, 0), (3, 0), (3, 0), (3, 0), (3, 0), (3, 0)] [] M) : ∀ (k : Nat) (v4 : Int) (M : Mem), PX10_fewestDaring_47 g v2 v3 K Q k v4 M → G h M → TG E miX10_fewestDaring 6 h (RI 0 Q) 47 [(2, 25), (2, g), (0, v2), (0, v3), (0, v4), (3, 0), (3, 0)] [] M := by
  intro k
  induction k with
  | zero =>
    intro v4 M H
    exact False.elim H
  | succ k ih =>
    intro v4 M H hG
    refine T_iload (i := 4) (pc' := 49) dX10_fewestDaring_47 rfl rfl ?_
    refine T_aload_n (i := 1) (pc' := 50) dX10_fewestDaring_49 rfl rfl rfl ?_
    refine U_grN (q := (g + 1)) (k := 0) (kI := 0) (pc' := 53) dX10_fewestDaring_50 rfl cl1 (pog0 hg) (shg0 hg) (by decide) flX10_46 rfl rfl rfl (grg0_0 hg hG) (pog1 hg) rfl ?_
    refine U_gfN (v := (0, (M (g + 1) 8))) (k := 8) (kI := 8) (pc' := 56) dX10_fewestDaring_53 rfl cl4 (pog1 hg) (shg1 hg) (by decide) flX10_66 rfl rfl (by decide) rfl rfl ?_
    refine T_icmp_gt (pc' := 132) dX10_fewestDaring_56 (by decide) (pf := 59) rfl (fun c1 => ?_) (fun c1 => ?_)
    · skip
      replace H := H.1 c1
      exact T_wk (L' := [(2, 25), (3, 0), (3, 0), (3, 0), (3, 0), (3, 0), (3, 0)]) (hK _ H hG) ⟨Or.inr rfl, Or.inl rfl, Or.inl rfl, Or.inl rfl, Or.inl rfl, Or.inl rfl, Or.inl rfl, trivial⟩
    · skip
      replace H := H.2 c1
      refine T_iconst (pc' := 60) dX10_fewestDaring_59 (by decide) rfl ?_
      refine T_istore (i := 5) (L' := [(2, 25), (2, g), (0, v2), (0, v3), (0, v4), (0, 0), (3, 0)]) (pc' := 62) dX10_fewestDaring_60 (by decide) rfl rfl ?_
      obtain ⟨k2, H⟩ := H
      refine T_wk (L' := [(2, 25), (2, g), (0, v2), (0, v3), (0, v4), (0, 0), (3, 0)]) (qX10_fewestDaring_62 (v2 := v2) (v3 := v3) (v4 := v4) hg (fun M3 H hG4 => ?_) _ _ _ H hG) ⟨Or.inr rfl, Or.inr rfl, Or.inr rfl, Or.inr rfl, Or.inr rfl, Or.inr rfl, Or.inl rfl, trivial⟩
      refine T_iinc (L' := [(2, 25), (2, g), (0, v2), (0, v3), (0, (wr32 (v4 + 1))), (3, 0), (3, 0)]) (pc' := 129) dX10_fewestDaring_126 rfl (by decide) rfl rfl ?_
      refine T_goto (pc' := 47) dX10_fewestDaring_129 (by decide) ?_
      exact T_wk (L' := [(2, 25), (2, g), (0, v2), (0, v3), (0, (wr32 (v4 + 1))), (3, 0), (3, 0)]) (ih _ _ H hG4) ⟨Or.inr rfl, Or.inr rfl, Or.inr rfl, Or.inr rfl, Or.inr rfl, Or.inl rfl, Or.inl rfl, trivial⟩
set_option maxRecDepth 100000 in
set_option maxHeartbeats 2000000 in
theorem pX10_fewestDaring {E : EV} {h : Int} {M : Mem} {g : Int} {v2 : Int} (hg : isG g) {Q : Int → Mem → Prop} (H : PX10_fewestDaring g v2 M Q) : C2 E miX10_fewestDaring 6 h [(2, 25), (2, g), (0, v2)] M (RI 0 Q) := by
  refine C2_of (L := [(2, 25), (2, g), (0, v2), (3, 0), (3, 0), (3, 0), (3, 0)]) (by decide +kernel) (Nat.le_of_ble_eq_true rfl) rfl (fun hG => ?_)
  refine T_aload_n (i := 0) (pc' := 1) dX10_fewestDaring_0 rfl rfl rfl ?_
  refine U_gr (q := 9) (k := 0) (kI := 0) (pc' := 4) dX10_fewestDaring_1 rfl cl10 (by decide) rfl (by decide) flX10_9 rfl rfl rfl (G_at hG 30 rfl) (by decide) rfl ?_
  refine T_aload_n (i := 1) (pc' := 5) dX10_fewestDaring_4 rfl rfl rfl ?_
  refine T_iload_n (i := 2) (pc' := 6) dX10_fewestDaring_5 rfl rfl rfl ?_
  refine T_callV (av := [(2, g), (0, v2)]) (st := []) (d2 := 2) (nc2 := 0) (ns2 := 0) (pc' := 9) dX10_fewestDaring_6 rfl mtX7_findFirst mvX7_findFirst mlX10_93 cl7 rfl rfl rfl (Nat.le_of_ble_eq_true rfl) (by decide) ⟨by decide, by decide⟩ rfl (pX7_findFirst (E := E) (h := h) (M := M) (g := g) (v2 := v2) hg hG) (kF (st2 := [(0, (fX7_findFirst M g v2))]) rfl (fun hG1 => ?_))
  obtain ⟨M2, eM2⟩ : ∃ m : Mem, m = (fmX7_findFirst M g v2) := ⟨_, rfl⟩
  rw [← eM2] at hG1 ⊢
  replace H := H M2 eM2
  obtain ⟨a3, ea3⟩ : ∃ z : Int, z = (fX7_findFirst M g v2) := ⟨_, rfl⟩
  rw [← ea3]
  replace H := H a3 ea3
  refine T_istore_n (i := 3) (L' := [(2, 25), (2, g), (0, v2), (0, a3), (3, 0), (3, 0), (3, 0)]) (pc' := 10) dX10_fewestDaring_9 rfl (by decide) rfl rfl ?_
  refine T_aload_n (i := 0) (pc' := 11) dX10_fewestDaring_10 rfl rfl rfl ?_
  refine U_gr (q := 9) (k := 0) (kI := 0) (pc' := 14) dX10_fewestDaring_11 rfl cl10 (by decide) rfl (by decide) flX10_9 rfl rfl rfl (G_at hG1 30 rfl) (by decide) rfl ?_
  refine T_aload_n (i := 1) (pc' := 15) dX10_fewestDaring_14 rfl rfl rfl ?_
  refine T_iload_n (i := 2) (pc' := 16) dX10_fewestDaring_15 rfl rfl rfl ?_
  refine T_iload_n (i := 3) (pc' := 17) dX10_fewestDaring_16 rfl rfl rfl ?_
  refine T_callV (av := [(2, g), (0, v2), (0, a3)]) (st := []) (d2 := 2) (nc2 := 0) (ns2 := 0) (pc' := 20) dX10_fewestDaring_17 rfl mtX7_findAlarm mvX7_findAlarm mlX10_97 cl7 rfl rfl rfl (Nat.le_of_ble_eq_true rfl) (by decide) ⟨by decide, by decide⟩ rfl (pX7_findAlarm (E := E) (h := h) (M := M2) (g := g) (v2 := v2) (v3 := a3) hg H hG1) ?_
  rintro _ _ M5 ⟨rfl, hG6, rfl, H⟩ _
  refine T_aload_n (i := 0) (pc' := 21) dX10_fewestDaring_20 rfl rfl rfl ?_
  refine U_gr (q := 9) (k := 0) (kI := 0) (pc' := 24) dX10_fewestDaring_21 rfl cl10 (by decide) rfl (by decide) flX10_9 rfl rfl rfl (G_at hG6 30 rfl) (by decide) rfl ?_
  refine U_gfN (v := (0, (M5 9 9))) (k := 9) (kI := 9) (pc' := 27) dX10_fewestDaring_24 rfl cl7 (by decide) rfl (by decide) flX10_101 rfl rfl (by decide) rfl rfl ?_
  refine T_iconst (pc' := 28) dX10_fewestDaring_27 (by decide) rfl ?_
  refine T_icmp_ne (pc' := 42) dX10_fewestDaring_28 (by decide) (pf := 31) rfl (fun c7 => ?_) (fun c7 => ?_)
  · skip
    replace H := H.2 c7
    refine T_iconst (pc' := 43) dX10_fewestDaring_42 (by decide) rfl ?_
    exact T_iret dX10_fewestDaring_43 rfl ⟨rfl, hG6, _, rfl, H⟩
  · skip
    replace H := H.1 c7
    refine T_iload_n (i := 2) (pc' := 32) dX10_fewestDaring_31 rfl rfl rfl ?_
    refine T_callS (av := [(0, v2)]) (st := []) (d2 := 1) (nc2 := 0) (ns2 := 0) (pc' := 35) dX10_fewestDaring_32 rfl mtJ6_bitCount_0f7a4 mvJ6_bitCount_0f7a4 mlX10_26 rfl rfl (Nat.le_of_ble_eq_true rfl) (by decide) ⟨by decide, by decide⟩ rfl (pJ6_bitCount_0f7a4 (E := E) (h := h) (M := M5) (v0 := v2) hG6) (kF (st2 := [(0, (fJ6_bitCount_0f7a4 v2))]) rfl (fun hG8 => ?_))
    obtain ⟨a9, ea9⟩ : ∃ z : Int, z = (fJ6_bitCount_0f7a4 v2) := ⟨_, rfl⟩
    rw [← ea9]
    replace H := H a9 ea9
    refine T_aload_n (i := 1) (pc' := 36) dX10_fewestDaring_35 rfl rfl rfl ?_
    refine U_gfN (v := (0, (M5 g 17))) (k := 17) (kI := 17) (pc' := 39) dX10_fewestDaring_36 rfl cl1 (pog0 hg) (shg0 hg) (by decide) flX10_32 rfl rfl (by decide) rfl rfl ?_
    refine T_icmp_ge (pc' := 44) dX10_fewestDaring_39 (by decide) (pf := 42) rfl (fun c10 => ?_) (fun c10 => ?_)
    · skip
      replace H := H.1 c10
      refine T_iconst (pc' := 45) dX10_fewestDaring_44 (by decide) rfl ?_
      refine T_istore (i := 4) (L' := [(2, 25), (2, g), (0, v2), (0, a3), (0, 0), (3, 0), (3, 0)]) (pc' := 47) dX10_fewestDaring_45 (by decide) rfl rfl ?_
      obtain ⟨k11, H⟩ := H
      refine T_wk (L' := [(2, 25), (2, g), (0, v2), (0, a3), (0, 0), (3, 0), (3, 0)]) (qX10_fewestDaring_47 (v2 := v2) (v3 := a3) hg (fun M12 H hG13 => ?_) _ _ _ H hG6) ⟨Or.inr rfl, Or.inr rfl, Or.inr rfl, Or.inr rfl, Or.inr rfl, Or.inl rfl, Or.inl rfl, trivial⟩
      refine T_iconst (pc' := 133) dX10_fewestDaring_132 (by decide) rfl ?_
      exact T_iret dX10_fewestDaring_133 rfl ⟨rfl, hG13, _, rfl, H⟩
    · skip
      replace H := H.2 c10
      refine T_iconst (pc' := 43) dX10_fewestDaring_42 (by decide) rfl ?_
      exact T_iret dX10_fewestDaring_43 rfl ⟨rfl, hG6, _, rfl, H⟩
def PX10_latest_20 (g : Int) (v2 : Int) (v3 : Int) (K : Int → Mem → Prop) (Q : Int → Mem → Prop) : Nat → Int → Int → Mem → Prop
  | 0 => fun _ _ _ => False
  | k + 1 => fun v5 v6 M => ((v6 < 0 → K v5 M) ∧ (¬ (v6 < 0) → ((v5 = (-1) → (∀ M4 : Mem, M4 = (fmX11_put M (g + 4) 9 v3 v6) → PX7_run g v2 0 M4 (fun _ M6 => PX10_latest_20 g v2 v3 K Q k (if (fX11_hasBit (M6 9 8) v3) = 0 then ((-1) : Int) else v6) (wr32 (v6 + (-1))) M6))) ∧ (¬ (v5 = (-1)) → K v5 M))))
def PX10_latest (g : Int) (v2 : Int) (v3 : Int) (M : Mem) (Q : Int → Mem → Prop) : Prop :=
  (∃ k2 : Nat, PX10_latest_20 g v2 v3 (fun u3 M4 => (∀ M7 : Mem, M7 = (fmX11_put M4 (g + 4) 9 v3 (fX11_get M (g + 4) 9 v3)) → Q u3 M7)) Q k2 (-1) 120 M)
set_option maxRecDepth 100000 in
set_option maxHeartbeats 2000000 in
theorem qX10_latest_20 {E : EV} {h : Int} {g : Int} {v2 : Int} {v3 : Int} {v4 : Int} (hg : isG g) {K : Int → Mem → Prop} {Q : Int → Mem → Prop} (hK : ∀ (v5 : Int) (M : Mem), K v5 M → G h M → TG E miX10_latest 6 h (RI 0 Q) 82 [(2, 25), (2, g), (3, 0), (0, v3), (0, v4), (0, v5), (3, 0)] [] M) : ∀ (k : Nat) (v5 v6 : Int) (M : Mem), PX10_latest_20 g v2 v3 K Q k v5 v6 M → G h M → TG E miX10_latest 6 h (RI 0 Q) 20 [(2, 25), (2, g), (0, v2), (0, v3), (0, v4), (0, v5), (0, v6)] [] M := by
  intro k
  induction k with
  | zero =>
    intro v5 v6 M H
    exact False.elim H
  | succ k ih =>
    intro v5 v6 M H hG
    refine T_iload (i := 6) (pc' := 22) dX10_latest_20 rfl rfl ?_
    refine T_if_lt (pc' := 82) dX10_latest_22 (by decide) (pf := 25) rfl (fun c1 => ?_) (fun c1 => ?_)
    · skip
      replace H := H.1 c1
      exact T_wk (L' := [(2, 25), (2, g), (3, 0), (0, v3), (0, v4), (0, v5), (3, 0)]) (hK _ _ H hG) ⟨Or.inr rfl, Or.inr rfl, Or.inl rfl, Or.inr rfl, Or.inr rfl, Or.inr rfl, Or.inl rfl, trivial⟩
    · skip
      replace H := H.2 c1
      refine T_iload (i := 5) (pc' := 27) dX10_latest_25 rfl rfl ?_
      refine T_iconst (pc' := 28) dX10_latest_27 (by decide) rfl ?_
      refine T_icmp_ne (pc' := 82) dX10_latest_28 (by decide) (pf := 31) rfl (fun c2 => ?_) (fun c2 => ?_)
      · skip
        replace H := H.2 c2
        exact T_wk (L' := [(2, 25), (2, g), (3, 0), (0, v3), (0, v4), (0, v5), (3, 0)]) (hK _ _ H hG) ⟨Or.inr rfl, Or.inr rfl, Or.inl rfl, Or.inr rfl, Or.inr rfl, Or.inr rfl, Or.inl rfl, trivial⟩
      · skip
        replace H := H.1 c2
        refine T_aload_n (i := 1) (pc' := 32) dX10_latest_31 rfl rfl rfl ?_
        refine U_grN (q := (g + 1)) (k := 0) (kI := 0) (pc' := 35) dX10_latest_32 rfl cl1 (pog0 hg) (shg0 hg) (by decide) flX10_46 rfl rfl rfl (grg0_0 hg hG) (pog1 hg) rfl ?_
        refine U_grN (q := (g + 4)) (k := 2) (kI := 2) (pc' := 38) dX10_latest_35 rfl cl4 (pog1 hg) (shg1 hg) (by decide) flX10_80 rfl rfl rfl (grg1_2 hg hG) (pog4 hg) rfl ?_
        refine T_iload_n (i := 3) (pc' := 39) dX10_latest_38 rfl rfl rfl ?_
        refine T_iload (i := 6) (pc' := 41) dX10_latest_39 rfl rfl ?_
        refine T_callSN (av := [(2, (g + 4)), (0, v3), (0, v6)]) (st := []) (d2 := 1) (nc2 := 0) (ns2 := 0) (pc' := 44) dX10_latest_41 rfl mtX11_put mvX11_put mlX10_83 rfl rfl (Nat.le_of_ble_eq_true rfl) (by decide) ⟨by decide, by decide⟩ rfl (pX11_put (E := E) (h := h) (M := M) (p0 := (g + 4)) (np0 := 9) (v1 := v3) (v2 := v6) (pog4 hg) (shg4 hg) (by decide) hG) (kF (st2 := []) rfl (fun hG3 => ?_))
        obtain ⟨M4, eM4⟩ : ∃ m : Mem, m = (fmX11_put M (g + 4) 9 v3 v6) := ⟨_, rfl⟩
        rw [← eM4] at hG3 ⊢
        replace H := H M4 eM4
        refine T_aload_n (i := 0) (pc' := 45) dX10_latest_44 rfl rfl rfl ?_
        refine U_gr (q := 9) (k := 0) (kI := 0) (pc' := 48) dX10_latest_45 rfl cl10 (by decide) rfl (by decide) flX10_9 rfl rfl rfl (G_at hG3 30 rfl) (by decide) rfl ?_
        refine T_aload_n (i := 1) (pc' := 49) dX10_latest_48 rfl rfl rfl ?_
        refine T_iload_n (i := 2) (pc' := 50) dX10_latest_49 rfl rfl rfl ?_
        refine T_iconst (pc' := 51) dX10_latest_50 (by decide) rfl ?_
        refine T_callV (av := [(2, g), (0, v2), (0, 0)]) (st := []) (d2 := 5) (nc2 := 0) (ns2 := 0) (pc' := 54) dX10_latest_51 rfl mtX7_run mvX7_run mlX10_37 cl7 rfl rfl rfl (Nat.le_of_ble_eq_true rfl) (by decide) ⟨by decide, by decide⟩ rfl (pX7_run (E := E) (h := h) (M := M4) (g := g) (v2 := v2) (v3 := 0) hg H hG3) ?_
        rintro _ _ M6 ⟨rfl, hG7, rfl, H⟩ _
        refine T_aload_n (i := 0) (pc' := 55) dX10_latest_54 rfl rfl rfl ?_
        refine U_gr (q := 9) (k := 0) (kI := 0) (pc' := 58) dX10_latest_55 rfl cl10 (by decide) rfl (by decide) flX10_9 rfl rfl rfl (G_at hG7 30 rfl) (by decide) rfl ?_
        refine U_gfN (v := (0, (M6 9 8))) (k := 8) (kI := 8) (pc' := 61) dX10_latest_58 rfl cl7 (by decide) rfl (by decide) flX10_43 rfl rfl (by decide) rfl rfl ?_
        refine T_iload_n (i := 3) (pc' := 62) dX10_latest_61 rfl rfl rfl ?_
        refine T_callSN (av := [(0, (M6 9 8)), (0, v3)]) (st := []) (d2 := 1) (nc2 := 0) (ns2 := 0) (pc' := 65) dX10_latest_62 rfl mtX11_hasBit mvX11_hasBit mlX10_76 rfl rfl (Nat.le_of_ble_eq_true rfl) (by decide) ⟨by decide, by decide⟩ rfl (pX11_hasBit (E := E) (h := h) (M := M6) (v0 := (M6 9 8)) (v1 := v3) hG7) (kF (st2 := [(0, (fX11_hasBit (M6 9 8) v3))]) rfl (fun hG8 => ?_))
        have HJ9 : T E miX10_latest 6 126 0 0 (fun r S M' => S = S0 ∧ G h M' ∧ RI 0 Q r M') 74 [(2, 25), (2, g), (0, v2), (0, v3), (0, v4), (3, 0), (0, v6)] [(0, (if (fX11_hasBit (M6 9 8) v3) = 0 then ((-1) : Int) else v6))] S0 M6 0 0 := by
          refine T_istore (i := 5) (L' := [(2, 25), (2, g), (0, v2), (0, v3), (0, v4), (0, (if (fX11_hasBit (M6 9 8) v3) = 0 then ((-1) : Int) else v6)), (0, v6)]) (pc' := 76) dX10_latest_74 (by decide) rfl rfl ?_
          refine T_iinc (L' := [(2, 25), (2, g), (0, v2), (0, v3), (0, v4), (0, (if (fX11_hasBit (M6 9 8) v3) = 0 then ((-1) : Int) else v6)), (0, (wr32 (v6 + (-1))))]) (pc' := 79) dX10_latest_76 rfl (by decide) rfl rfl ?_
          refine T_goto (pc' := 20) dX10_latest_79 (by decide) ?_
          exact T_wk (L' := [(2, 25), (2, g), (0, v2), (0, v3), (0, v4), (0, (if (fX11_hasBit (M6 9 8) v3) = 0 then ((-1) : Int) else v6)), (0, (wr32 (v6 + (-1))))]) (ih _ _ _ H hG7) ⟨Or.inr rfl, Or.inr rfl, Or.inr rfl, Or.inr rfl, Or.inr rfl, Or.inr rfl, Or.inr rfl, trivial⟩
        refine T_if_eq (pc' := 73) dX10_latest_65 (by decide) (pf := 68) rfl (fun c10 => ?_) (fun c10 => ?_)
        · skip
          refine T_iconst (pc' := 74) dX10_latest_73 (by decide) rfl ?_
          exact T_wk (L' := [(2, 25), (2, g), (0, v2), (0, v3), (0, v4), (3, 0), (0, v6)]) (by have q := HJ9; try simp only [if_pos c10] at q ⊢; exact q) ⟨Or.inr rfl, Or.inr rfl, Or.inr rfl, Or.inr rfl, Or.inr rfl, Or.inl rfl, Or.inr rfl, trivial⟩
        · skip
          refine T_iload (i := 6) (pc' := 70) dX10_latest_68 rfl rfl ?_
          refine T_goto (pc' := 74) dX10_latest_70 (by decide) ?_
          exact T_wk (L' := [(2, 25), (2, g), (0, v2), (0, v3), (0, v4), (3, 0), (0, v6)]) (by have q := HJ9; try simp only [if_neg c10] at q ⊢; exact q) ⟨Or.inr rfl, Or.inr rfl, Or.inr rfl, Or.inr rfl, Or.inr rfl, Or.inl rfl, Or.inr rfl, trivial⟩
set_option maxRecDepth 100000 in
set_option maxHeartbeats 2000000 in
theorem pX10_latest {E : EV} {h : Int} {M : Mem} {g : Int} {v2 : Int} {v3 : Int} (hg : isG g) {Q : Int → Mem → Prop} (H : PX10_latest g v2 v3 M Q) : C2 E miX10_latest 6 h [(2, 25), (2, g), (0, v2), (0, v3)] M (RI 0 Q) := by
  refine C2_of (L := [(2, 25), (2, g), (0, v2), (0, v3), (3, 0), (3, 0), (3, 0)]) (by decide +kernel) (Nat.le_of_ble_eq_true rfl) rfl (fun hG => ?_)
  refine T_aload_n (i := 1) (pc' := 1) dX10_latest_0 rfl rfl rfl ?_
  refine U_grN (q := (g + 1)) (k := 0) (kI := 0) (pc' := 4) dX10_latest_1 rfl cl1 (pog0 hg) (shg0 hg) (by decide) flX10_46 rfl rfl rfl (grg0_0 hg hG) (pog1 hg) rfl ?_
  refine U_grN (q := (g + 4)) (k := 2) (kI := 2) (pc' := 7) dX10_latest_4 rfl cl4 (pog1 hg) (shg1 hg) (by decide) flX10_80 rfl rfl rfl (grg1_2 hg hG) (pog4 hg) rfl ?_
  refine T_iload_n (i := 3) (pc' := 8) dX10_latest_7 rfl rfl rfl ?_
  refine T_callSN (av := [(2, (g + 4)), (0, v3)]) (st := []) (d2 := 1) (nc2 := 0) (ns2 := 0) (pc' := 11) dX10_latest_8 rfl mtX11_get mvX11_get mlX10_72 rfl rfl (Nat.le_of_ble_eq_true rfl) (by decide) ⟨by decide, by decide⟩ rfl (pX11_get (E := E) (h := h) (M := M) (p0 := (g + 4)) (np0 := 9) (v1 := v3) (pog4 hg) (shg4 hg) (by decide) hG) (kF (st2 := [(0, (fX11_get M (g + 4) 9 v3))]) rfl (fun hG1 => ?_))
  refine T_istore (i := 4) (L' := [(2, 25), (2, g), (0, v2), (0, v3), (0, (fX11_get M (g + 4) 9 v3)), (3, 0), (3, 0)]) (pc' := 13) dX10_latest_11 (by decide) rfl rfl ?_
  refine T_iconst (pc' := 14) dX10_latest_13 (by decide) rfl ?_
  refine T_istore (i := 5) (L' := [(2, 25), (2, g), (0, v2), (0, v3), (0, (fX11_get M (g + 4) 9 v3)), (0, (-1)), (3, 0)]) (pc' := 16) dX10_latest_14 (by decide) rfl rfl ?_
  refine T_bipush (pc' := 18) dX10_latest_16 rfl (by decide) rfl ?_
  refine T_istore (i := 6) (L' := [(2, 25), (2, g), (0, v2), (0, v3), (0, (fX11_get M (g + 4) 9 v3)), (0, (-1)), (0, 120)]) (pc' := 20) dX10_latest_18 (by decide) rfl rfl ?_
  obtain ⟨k2, H⟩ := H
  refine T_wk (L' := [(2, 25), (2, g), (0, v2), (0, v3), (0, (fX11_get M (g + 4) 9 v3)), (0, (-1)), (0, 120)]) (qX10_latest_20 (v2 := v2) (v3 := v3) (v4 := (fX11_get M (g + 4) 9 v3)) hg (fun u3 M4 H hG5 => ?_) _ _ _ _ H hG) ⟨Or.inr rfl, Or.inr rfl, Or.inr rfl, Or.inr rfl, Or.inr rfl, Or.inr rfl, Or.inr rfl, trivial⟩
  refine T_aload_n (i := 1) (pc' := 83) dX10_latest_82 rfl rfl rfl ?_
  refine U_grN (q := (g + 1)) (k := 0) (kI := 0) (pc' := 86) dX10_latest_83 rfl cl1 (pog0 hg) (shg0 hg) (by decide) flX10_46 rfl rfl rfl (grg0_0 hg hG5) (pog1 hg) rfl ?_
  refine U_grN (q := (g + 4)) (k := 2) (kI := 2) (pc' := 89) dX10_latest_86 rfl cl4 (pog1 hg) (shg1 hg) (by decide) flX10_80 rfl rfl rfl (grg1_2 hg hG5) (pog4 hg) rfl ?_
  refine T_iload_n (i := 3) (pc' := 90) dX10_latest_89 rfl rfl rfl ?_
  refine T_iload (i := 4) (pc' := 92) dX10_latest_90 rfl rfl ?_
  refine T_callSN (av := [(2, (g + 4)), (0, v3), (0, (fX11_get M (g + 4) 9 v3))]) (st := []) (d2 := 1) (nc2 := 0) (ns2 := 0) (pc' := 95) dX10_latest_92 rfl mtX11_put mvX11_put mlX10_83 rfl rfl (Nat.le_of_ble_eq_true rfl) (by decide) ⟨by decide, by decide⟩ rfl (pX11_put (E := E) (h := h) (M := M4) (p0 := (g + 4)) (np0 := 9) (v1 := v3) (v2 := (fX11_get M (g + 4) 9 v3)) (pog4 hg) (shg4 hg) (by decide) hG5) (kF (st2 := []) rfl (fun hG6 => ?_))
  obtain ⟨M7, eM7⟩ : ∃ m : Mem, m = (fmX11_put M4 (g + 4) 9 v3 (fX11_get M (g + 4) 9 v3)) := ⟨_, rfl⟩
  rw [← eM7] at hG6 ⊢
  replace H := H M7 eM7
  refine T_iload (i := 5) (pc' := 97) dX10_latest_95 rfl rfl ?_
  exact T_iret dX10_latest_97 rfl ⟨rfl, hG6, _, rfl, H⟩
def PX10_findPost_34 (g : Int) (v2 : Int) (v3 : Int) (K : Mem → Prop) (Q : Int → Mem → Prop) : Nat → Int → Int → Mem → Prop
  | 0 => fun _ _ _ => False
  | k + 1 => fun v5 v6 M => (((fX1_cells M g) ≤ v6 → K M) ∧ (¬ ((fX1_cells M g) ≤ v6) → (((fX1_isFree M g v6) = 0 → PX10_findPost_34 g v2 v3 K Q k v5 (wr32 (v6 + 1)) M) ∧ (¬ ((fX1_isFree M g v6) = 0) → (∀ M6 : Mem, M6 = (fmX11_put M (g + 13) 4 v3 v6) → PX7_fillSight g v3 v5 M6 (fun _ M8 => PX7_findAlarm g v2 v5 M8 (fun _ M11 => (((M11 9 9) = (-1) → (((M11 25 2) = (-1) → (∀ M16 : Mem, M16 = (mset M11 25 2 v6) → PX10_findPost_34 g v2 v3 K Q k v5 (wr32 (v6 + 1)) M16)) ∧ (¬ ((M11 25 2) = (-1)) → PX10_findPost_34 g v2 v3 K Q k v5 (wr32 (v6 + 1)) M11))) ∧ (¬ ((M11 9 9) = (-1)) → (∀ M18 : Mem, M18 = (mset M11 25 2 v6) → (∀ M20 : Mem, M20 = (mset M18 25 3 (M18 9 9)) → PX10_findPost_34 g v2 v3 K Q k (M20 25 3) (wr32 (v6 + 1)) M20)))))))))))
def PX10_findPost (g : Int) (v2 : Int) (v3 : Int) (M : Mem) (Q : Int → Mem → Prop) : Prop :=
  (∀ M3 : Mem, M3 = (fmX7_findFirst M g v2) → (∀ a4 : Int, a4 = (fX7_findFirst M g v2) → (∀ M6 : Mem, M6 = (mset M3 25 2 (-1)) → (∀ M8 : Mem, M8 = (mset M6 25 3 (-1)) → (∃ k9 : Nat, PX10_findPost_34 g v2 v3 (fun M10 => (∀ M13 : Mem, M13 = (fmX11_put M10 (g + 13) 4 v3 (fX11_get M (g + 13) 4 v3)) → PX7_fillSight g v3 201 M13 (fun _ M15 => Q 0 M15))) Q k9 a4 0 M8)))))
set_option maxRecDepth 100000 in
set_option maxHeartbeats 2000000 in
theorem qX10_findPost_34 {E : EV} {h : Int} {g : Int} {v2 : Int} {v3 : Int} {v4 : Int} (hg : isG g) {K : Mem → Prop} {Q : Int → Mem → Prop} (hK : ∀ (M : Mem), K M → G h M → TG E miX10_findPost 5 h (RV Q) 141 [(2, 25), (2, g), (3, 0), (0, v3), (0, v4), (3, 0), (3, 0)] [] M) : ∀ (k : Nat) (v5 v6 : Int) (M : Mem), PX10_findPost_34 g v2 v3 K Q k v5 v6 M → G h M → TG E miX10_findPost 5 h (RV Q) 34 [(2, 25), (2, g), (0, v2), (0, v3), (0, v4), (0, v5), (0, v6)] [] M := by
  intro k
  induction k with
  | zero =>
    intro v5 v6 M H
    exact False.elim H
  | succ k ih =>
    intro v5 v6 M H hG
    refine T_iload (i := 6) (pc' := 36) dX10_findPost_34 rfl rfl ?_
    refine T_aload_n (i := 1) (pc' := 37) dX10_findPost_36 rfl rfl rfl ?_
    refine T_callV (av := []) (st := [(0, v6)]) (d2 := 1) (nc2 := 0) (ns2 := 0) (pc' := 40) dX10_findPost_37 rfl mtX1_cells mvX1_cells mlX10_124 cl1 (shg0 hg) rfl rfl (Nat.le_of_ble_eq_true rfl) (by decide) ⟨by decide, by decide⟩ rfl (pX1_cells (E := E) (h := h) (M := M) (g := g) hg hG) (kF (st2 := [(0, (fX1_cells M g)), (0, v6)]) rfl (fun hG1 => ?_))
    refine T_icmp_ge (pc' := 141) dX10_findPost_40 (by decide) (pf := 43) rfl (fun c2 => ?_) (fun c2 => ?_)
    · skip
      replace H := H.1 c2
      exact T_wk (L' := [(2, 25), (2, g), (3, 0), (0, v3), (0, v4), (3, 0), (3, 0)]) (hK _ H hG) ⟨Or.inr rfl, Or.inr rfl, Or.inl rfl, Or.inr rfl, Or.inr rfl, Or.inl rfl, Or.inl rfl, trivial⟩
    · skip
      replace H := H.2 c2
      refine T_aload_n (i := 1) (pc' := 44) dX10_findPost_43 rfl rfl rfl ?_
      refine T_iload (i := 6) (pc' := 46) dX10_findPost_44 rfl rfl ?_
      refine T_callV (av := [(0, v6)]) (st := []) (d2 := 2) (nc2 := 0) (ns2 := 0) (pc' := 49) dX10_findPost_46 rfl mtX1_isFree mvX1_isFree mlX10_127 cl1 (shg0 hg) rfl rfl (Nat.le_of_ble_eq_true rfl) (by decide) ⟨by decide, by decide⟩ rfl (pX1_isFree (E := E) (h := h) (M := M) (g := g) (v1 := v6) hg hG) (kF (st2 := [(0, (fX1_isFree M g v6))]) rfl (fun hG3 => ?_))
      refine T_if_eq (pc' := 135) dX10_findPost_49 (by decide) (pf := 52) rfl (fun c4 => ?_) (fun c4 => ?_)
      · skip
        replace H := H.1 c4
        refine T_iinc (L' := [(2, 25), (2, g), (0, v2), (0, v3), (0, v4), (0, v5), (0, (wr32 (v6 + 1)))]) (pc' := 138) dX10_findPost_135 rfl (by decide) rfl rfl ?_
        refine T_goto (pc' := 34) dX10_findPost_138 (by decide) ?_
        exact T_wk (L' := [(2, 25), (2, g), (0, v2), (0, v3), (0, v4), (0, v5), (0, (wr32 (v6 + 1)))]) (ih _ _ _ H hG) ⟨Or.inr rfl, Or.inr rfl, Or.inr rfl, Or.inr rfl, Or.inr rfl, Or.inr rfl, Or.inr rfl, trivial⟩
      · skip
        replace H := H.2 c4
        refine T_aload_n (i := 1) (pc' := 53) dX10_findPost_52 rfl rfl rfl ?_
        refine U_grN (q := (g + 13)) (k := 5) (kI := 5) (pc' := 56) dX10_findPost_53 rfl cl1 (pog0 hg) (shg0 hg) (by decide) flX10_121 rfl rfl rfl (grg0_5 hg hG) (pog13 hg) rfl ?_
        refine T_iload_n (i := 3) (pc' := 57) dX10_findPost_56 rfl rfl rfl ?_
        refine T_iload (i := 6) (pc' := 59) dX10_findPost_57 rfl rfl ?_
        refine T_callSN (av := [(2, (g + 13)), (0, v3), (0, v6)]) (st := []) (d2 := 1) (nc2 := 0) (ns2 := 0) (pc' := 62) dX10_findPost_59 rfl mtX11_put mvX11_put mlX10_83 rfl rfl (Nat.le_of_ble_eq_true rfl) (by decide) ⟨by decide, by decide⟩ rfl (pX11_put (E := E) (h := h) (M := M) (p0 := (g + 13)) (np0 := 4) (v1 := v3) (v2 := v6) (pog13 hg) (shg13 hg) (by decide) hG) (kF (st2 := []) rfl (fun hG5 => ?_))
        obtain ⟨M6, eM6⟩ : ∃ m : Mem, m = (fmX11_put M (g + 13) 4 v3 v6) := ⟨_, rfl⟩
        rw [← eM6] at hG5 ⊢
        replace H := H M6 eM6
        refine T_aload_n (i := 0) (pc' := 63) dX10_findPost_62 rfl rfl rfl ?_
        refine U_gr (q := 9) (k := 0) (kI := 0) (pc' := 66) dX10_findPost_63 rfl cl10 (by decide) rfl (by decide) flX10_9 rfl rfl rfl (G_at hG5 30 rfl) (by decide) rfl ?_
        refine T_aload_n (i := 1) (pc' := 67) dX10_findPost_66 rfl rfl rfl ?_
        refine T_iload_n (i := 3) (pc' := 68) dX10_findPost_67 rfl rfl rfl ?_
        refine T_iload (i := 5) (pc' := 70) dX10_findPost_68 rfl rfl ?_
        refine T_callV (av := [(2, g), (0, v3), (0, v5)]) (st := []) (d2 := 4) (nc2 := 0) (ns2 := 0) (pc' := 73) dX10_findPost_70 rfl mtX7_fillSight mvX7_fillSight mlX10_131 cl7 rfl rfl rfl (Nat.le_of_ble_eq_true rfl) (by decide) ⟨by decide, by decide⟩ rfl (pX7_fillSight (E := E) (h := h) (M := M6) (g := g) (v2 := v3) (v3 := v5) hg H hG5) ?_
        rintro _ _ M8 ⟨rfl, hG9, rfl, H⟩ _
        refine T_aload_n (i := 0) (pc' := 74) dX10_findPost_73 rfl rfl rfl ?_
        refine U_gr (q := 9) (k := 0) (kI := 0) (pc' := 77) dX10_findPost_74 rfl cl10 (by decide) rfl (by decide) flX10_9 rfl rfl rfl (G_at hG9 30 rfl) (by decide) rfl ?_
        refine T_aload_n (i := 1) (pc' := 78) dX10_findPost_77 rfl rfl rfl ?_
        refine T_iload_n (i := 2) (pc' := 79) dX10_findPost_78 rfl rfl rfl ?_
        refine T_iload (i := 5) (pc' := 81) dX10_findPost_79 rfl rfl ?_
        refine T_callV (av := [(2, g), (0, v2), (0, v5)]) (st := []) (d2 := 2) (nc2 := 0) (ns2 := 0) (pc' := 84) dX10_findPost_81 rfl mtX7_findAlarm mvX7_findAlarm mlX10_97 cl7 rfl rfl rfl (Nat.le_of_ble_eq_true rfl) (by decide) ⟨by decide, by decide⟩ rfl (pX7_findAlarm (E := E) (h := h) (M := M8) (g := g) (v2 := v2) (v3 := v5) hg H hG9) ?_
        rintro _ _ M11 ⟨rfl, hG12, rfl, H⟩ _
        refine T_aload_n (i := 0) (pc' := 85) dX10_findPost_84 rfl rfl rfl ?_
        refine U_gr (q := 9) (k := 0) (kI := 0) (pc' := 88) dX10_findPost_85 rfl cl10 (by decide) rfl (by decide) flX10_9 rfl rfl rfl (G_at hG12 30 rfl) (by decide) rfl ?_
        refine U_gfN (v := (0, (M11 9 9))) (k := 9) (kI := 9) (pc' := 91) dX10_findPost_88 rfl cl7 (by decide) rfl (by decide) flX10_101 rfl rfl (by decide) rfl rfl ?_
        refine T_iconst (pc' := 92) dX10_findPost_91 (by decide) rfl ?_
        refine T_icmp_eq (pc' := 121) dX10_findPost_92 (by decide) (pf := 95) rfl (fun c13 => ?_) (fun c13 => ?_)
        · skip
          replace H := H.1 c13
          refine T_aload_n (i := 0) (pc' := 122) dX10_findPost_121 rfl rfl rfl ?_
          refine U_gf (v := (0, (M11 25 2))) (k := 2) (kI := 2) (pc' := 125) dX10_findPost_122 rfl cl10 (by decide) rfl (by decide) flX10_19 rfl rfl (by decide) rfl rfl ?_
          refine T_iconst (pc' := 126) dX10_findPost_125 (by decide) rfl ?_
          refine T_icmp_ne (pc' := 135) dX10_findPost_126 (by decide) (pf := 129) rfl (fun c14 => ?_) (fun c14 => ?_)
          · skip
            replace H := H.2 c14
            refine T_iinc (L' := [(2, 25), (2, g), (0, v2), (0, v3), (0, v4), (0, v5), (0, (wr32 (v6 + 1)))]) (pc' := 138) dX10_findPost_135 rfl (by decide) rfl rfl ?_
            refine T_goto (pc' := 34) dX10_findPost_138 (by decide) ?_
            exact T_wk (L' := [(2, 25), (2, g), (0, v2), (0, v3), (0, v4), (0, v5), (0, (wr32 (v6 + 1)))]) (ih _ _ _ H hG12) ⟨Or.inr rfl, Or.inr rfl, Or.inr rfl, Or.inr rfl, Or.inr rfl, Or.inr rfl, Or.inr rfl, trivial⟩
          · skip
            replace H := H.1 c14
            refine T_aload_n (i := 0) (pc' := 130) dX10_findPost_129 rfl rfl rfl ?_
            refine T_iload (i := 6) (pc' := 132) dX10_findPost_130 rfl rfl ?_
            refine U_pf (y := v6) (k := 2) (kI := 2) (pc' := 135) dX10_findPost_132 rfl cl10 (by decide) rfl (by decide) flX10_19 rfl rfl rfl rfl rfl (by decide) (fun z => z) rfl ?_
            have hG15 := (G_fld (x := 25) (i := 2) (y := v6) rfl (by decide) (by decide) (by decide) hG12)
            obtain ⟨M16, eM16⟩ : ∃ m : Mem, m = (mset M11 25 2 v6) := ⟨_, rfl⟩
            rw [← eM16] at hG15 ⊢
            replace H := H M16 eM16
            refine T_iinc (L' := [(2, 25), (2, g), (0, v2), (0, v3), (0, v4), (0, v5), (0, (wr32 (v6 + 1)))]) (pc' := 138) dX10_findPost_135 rfl (by decide) rfl rfl ?_
            refine T_goto (pc' := 34) dX10_findPost_138 (by decide) ?_
            exact T_wk (L' := [(2, 25), (2, g), (0, v2), (0, v3), (0, v4), (0, v5), (0, (wr32 (v6 + 1)))]) (ih _ _ _ H hG15) ⟨Or.inr rfl, Or.inr rfl, Or.inr rfl, Or.inr rfl, Or.inr rfl, Or.inr rfl, Or.inr rfl, trivial⟩
        · skip
          replace H := H.2 c13
          refine T_aload_n (i := 0) (pc' := 96) dX10_findPost_95 rfl rfl rfl ?_
          refine T_iload (i := 6) (pc' := 98) dX10_findPost_96 rfl rfl ?_
          refine U_pf (y := v6) (k := 2) (kI := 2) (pc' := 101) dX10_findPost_98 rfl cl10 (by decide) rfl (by decide) flX10_19 rfl rfl rfl rfl rfl (by decide) (fun z => z) rfl ?_
          have hG17 := (G_fld (x := 25) (i := 2) (y := v6) rfl (by decide) (by decide) (by decide) hG12)
          obtain ⟨M18, eM18⟩ : ∃ m : Mem, m = (mset M11 25 2 v6) := ⟨_, rfl⟩
          rw [← eM18] at hG17 ⊢
          replace H := H M18 eM18
          refine T_aload_n (i := 0) (pc' := 102) dX10_findPost_101 rfl rfl rfl ?_
          refine T_aload_n (i := 0) (pc' := 103) dX10_findPost_102 rfl rfl rfl ?_
          refine U_gr (q := 9) (k := 0) (kI := 0) (pc' := 106) dX10_findPost_103 rfl cl10 (by decide) rfl (by decide) flX10_9 rfl rfl rfl (G_at hG17 30 rfl) (by decide) rfl ?_
          refine U_gfN (v := (0, (M18 9 9))) (k := 9) (kI := 9) (pc' := 109) dX10_findPost_106 rfl cl7 (by decide) rfl (by decide) flX10_101 rfl rfl (by decide) rfl rfl ?_
          refine U_pf (y := (M18 9 9)) (k := 3) (kI := 3) (pc' := 112) dX10_findPost_109 rfl cl10 (by decide) rfl (by decide) flX10_23 rfl rfl rfl rfl rfl (by decide) (fun z => z) rfl ?_
          have hG19 := (G_fld (x := 25) (i := 3) (y := (M18 9 9)) rfl (by decide) (by decide) (by decide) hG17)
          obtain ⟨M20, eM20⟩ : ∃ m : Mem, m = (mset M18 25 3 (M18 9 9)) := ⟨_, rfl⟩
          rw [← eM20] at hG19 ⊢
          replace H := H M20 eM20
          refine T_aload_n (i := 0) (pc' := 113) dX10_findPost_112 rfl rfl rfl ?_
          refine U_gf (v := (0, (M20 25 3))) (k := 3) (kI := 3) (pc' := 116) dX10_findPost_113 rfl cl10 (by decide) rfl (by decide) flX10_23 rfl rfl (by decide) rfl rfl ?_
          refine T_istore (i := 5) (L' := [(2, 25), (2, g), (0, v2), (0, v3), (0, v4), (0, (M20 25 3)), (0, v6)]) (pc' := 118) dX10_findPost_116 (by decide) rfl rfl ?_
          refine T_goto (pc' := 135) dX10_findPost_118 (by decide) ?_
          refine T_iinc (L' := [(2, 25), (2, g), (0, v2), (0, v3), (0, v4), (0, (M20 25 3)), (0, (wr32 (v6 + 1)))]) (pc' := 138) dX10_findPost_135 rfl (by decide) rfl rfl ?_
          refine T_goto (pc' := 34) dX10_findPost_138 (by decide) ?_
          exact T_wk (L' := [(2, 25), (2, g), (0, v2), (0, v3), (0, v4), (0, (M20 25 3)), (0, (wr32 (v6 + 1)))]) (ih _ _ _ H hG19) ⟨Or.inr rfl, Or.inr rfl, Or.inr rfl, Or.inr rfl, Or.inr rfl, Or.inr rfl, Or.inr rfl, trivial⟩
set_option maxRecDepth 100000 in
set_option maxHeartbeats 2000000 in
theorem pX10_findPost {E : EV} {h : Int} {M : Mem} {g : Int} {v2 : Int} {v3 : Int} (hg : isG g) {Q : Int → Mem → Prop} (H : PX10_findPost g v2 v3 M Q) : C2 E miX10_findPost 5 h [(2, 25), (2, g), (0, v2), (0, v3)] M (RV Q) := by
  refine C2_of (L := [(2, 25), (2, g), (0, v2), (0, v3), (3, 0), (3, 0), (3, 0)]) (by decide +kernel) (Nat.le_of_ble_eq_true rfl) rfl (fun hG => ?_)
  refine T_aload_n (i := 1) (pc' := 1) dX10_findPost_0 rfl rfl rfl ?_
  refine U_grN (q := (g + 13)) (k := 5) (kI := 5) (pc' := 4) dX10_findPost_1 rfl cl1 (pog0 hg) (shg0 hg) (by decide) flX10_121 rfl rfl rfl (grg0_5 hg hG) (pog13 hg) rfl ?_
  refine T_iload_n (i := 3) (pc' := 5) dX10_findPost_4 rfl rfl rfl ?_
  refine T_callSN (av := [(2, (g + 13)), (0, v3)]) (st := []) (d2 := 1) (nc2 := 0) (ns2 := 0) (pc' := 8) dX10_findPost_5 rfl mtX11_get mvX11_get mlX10_72 rfl rfl (Nat.le_of_ble_eq_true rfl) (by decide) ⟨by decide, by decide⟩ rfl (pX11_get (E := E) (h := h) (M := M) (p0 := (g + 13)) (np0 := 4) (v1 := v3) (pog13 hg) (shg13 hg) (by decide) hG) (kF (st2 := [(0, (fX11_get M (g + 13) 4 v3))]) rfl (fun hG1 => ?_))
  refine T_istore (i := 4) (L' := [(2, 25), (2, g), (0, v2), (0, v3), (0, (fX11_get M (g + 13) 4 v3)), (3, 0), (3, 0)]) (pc' := 10) dX10_findPost_8 (by decide) rfl rfl ?_
  refine T_aload_n (i := 0) (pc' := 11) dX10_findPost_10 rfl rfl rfl ?_
  refine U_gr (q := 9) (k := 0) (kI := 0) (pc' := 14) dX10_findPost_11 rfl cl10 (by decide) rfl (by decide) flX10_9 rfl rfl rfl (G_at hG 30 rfl) (by decide) rfl ?_
  refine T_aload_n (i := 1) (pc' := 15) dX10_findPost_14 rfl rfl rfl ?_
  refine T_iload_n (i := 2) (pc' := 16) dX10_findPost_15 rfl rfl rfl ?_
  refine T_callV (av := [(2, g), (0, v2)]) (st := []) (d2 := 2) (nc2 := 0) (ns2 := 0) (pc' := 19) dX10_findPost_16 rfl mtX7_findFirst mvX7_findFirst mlX10_93 cl7 rfl rfl rfl (Nat.le_of_ble_eq_true rfl) (by decide) ⟨by decide, by decide⟩ rfl (pX7_findFirst (E := E) (h := h) (M := M) (g := g) (v2 := v2) hg hG) (kF (st2 := [(0, (fX7_findFirst M g v2))]) rfl (fun hG2 => ?_))
  obtain ⟨M3, eM3⟩ : ∃ m : Mem, m = (fmX7_findFirst M g v2) := ⟨_, rfl⟩
  rw [← eM3] at hG2 ⊢
  replace H := H M3 eM3
  obtain ⟨a4, ea4⟩ : ∃ z : Int, z = (fX7_findFirst M g v2) := ⟨_, rfl⟩
  rw [← ea4]
  replace H := H a4 ea4
  refine T_istore (i := 5) (L' := [(2, 25), (2, g), (0, v2), (0, v3), (0, (fX11_get M (g + 13) 4 v3)), (0, a4), (3, 0)]) (pc' := 21) dX10_findPost_19 (by decide) rfl rfl ?_
  refine T_aload_n (i := 0) (pc' := 22) dX10_findPost_21 rfl rfl rfl ?_
  refine T_iconst (pc' := 23) dX10_findPost_22 (by decide) rfl ?_
  refine U_pf (y := (-1)) (k := 2) (kI := 2) (pc' := 26) dX10_findPost_23 rfl cl10 (by decide) rfl (by decide) flX10_19 rfl rfl rfl rfl rfl (by decide) (fun z => z) rfl ?_
  have hG5 := (G_fld (x := 25) (i := 2) (y := (-1)) rfl (by decide) (by decide) (by decide) hG2)
  obtain ⟨M6, eM6⟩ : ∃ m : Mem, m = (mset M3 25 2 (-1)) := ⟨_, rfl⟩
  rw [← eM6] at hG5 ⊢
  replace H := H M6 eM6
  refine T_aload_n (i := 0) (pc' := 27) dX10_findPost_26 rfl rfl rfl ?_
  refine T_iconst (pc' := 28) dX10_findPost_27 (by decide) rfl ?_
  refine U_pf (y := (-1)) (k := 3) (kI := 3) (pc' := 31) dX10_findPost_28 rfl cl10 (by decide) rfl (by decide) flX10_23 rfl rfl rfl rfl rfl (by decide) (fun z => z) rfl ?_
  have hG7 := (G_fld (x := 25) (i := 3) (y := (-1)) rfl (by decide) (by decide) (by decide) hG5)
  obtain ⟨M8, eM8⟩ : ∃ m : Mem, m = (mset M6 25 3 (-1)) := ⟨_, rfl⟩
  rw [← eM8] at hG7 ⊢
  replace H := H M8 eM8
  refine T_iconst (pc' := 32) dX10_findPost_31 (by decide) rfl ?_
  refine T_istore (i := 6) (L' := [(2, 25), (2, g), (0, v2), (0, v3), (0, (fX11_get M (g + 13) 4 v3)), (0, a4), (0, 0)]) (pc' := 34) dX10_findPost_32 (by decide) rfl rfl ?_
  obtain ⟨k9, H⟩ := H
  refine T_wk (L' := [(2, 25), (2, g), (0, v2), (0, v3), (0, (fX11_get M (g + 13) 4 v3)), (0, a4), (0, 0)]) (qX10_findPost_34 (v2 := v2) (v3 := v3) (v4 := (fX11_get M (g + 13) 4 v3)) hg (fun M10 H hG11 => ?_) _ _ _ _ H hG7) ⟨Or.inr rfl, Or.inr rfl, Or.inr rfl, Or.inr rfl, Or.inr rfl, Or.inr rfl, Or.inr rfl, trivial⟩
  refine T_aload_n (i := 1) (pc' := 142) dX10_findPost_141 rfl rfl rfl ?_
  refine U_grN (q := (g + 13)) (k := 5) (kI := 5) (pc' := 145) dX10_findPost_142 rfl cl1 (pog0 hg) (shg0 hg) (by decide) flX10_121 rfl rfl rfl (grg0_5 hg hG11) (pog13 hg) rfl ?_
  refine T_iload_n (i := 3) (pc' := 146) dX10_findPost_145 rfl rfl rfl ?_
  refine T_iload (i := 4) (pc' := 148) dX10_findPost_146 rfl rfl ?_
  refine T_callSN (av := [(2, (g + 13)), (0, v3), (0, (fX11_get M (g + 13) 4 v3))]) (st := []) (d2 := 1) (nc2 := 0) (ns2 := 0) (pc' := 151) dX10_findPost_148 rfl mtX11_put mvX11_put mlX10_83 rfl rfl (Nat.le_of_ble_eq_true rfl) (by decide) ⟨by decide, by decide⟩ rfl (pX11_put (E := E) (h := h) (M := M10) (p0 := (g + 13)) (np0 := 4) (v1 := v3) (v2 := (fX11_get M (g + 13) 4 v3)) (pog13 hg) (shg13 hg) (by decide) hG11) (kF (st2 := []) rfl (fun hG12 => ?_))
  obtain ⟨M13, eM13⟩ : ∃ m : Mem, m = (fmX11_put M10 (g + 13) 4 v3 (fX11_get M (g + 13) 4 v3)) := ⟨_, rfl⟩
  rw [← eM13] at hG12 ⊢
  replace H := H M13 eM13
  refine T_aload_n (i := 0) (pc' := 152) dX10_findPost_151 rfl rfl rfl ?_
  refine U_gr (q := 9) (k := 0) (kI := 0) (pc' := 155) dX10_findPost_152 rfl cl10 (by decide) rfl (by decide) flX10_9 rfl rfl rfl (G_at hG12 30 rfl) (by decide) rfl ?_
  refine T_aload_n (i := 1) (pc' := 156) dX10_findPost_155 rfl rfl rfl ?_
  refine T_iload_n (i := 3) (pc' := 157) dX10_findPost_156 rfl rfl rfl ?_
  refine T_sipush (pc' := 160) dX10_findPost_157 rfl (by decide) rfl ?_
  refine T_callV (av := [(2, g), (0, v3), (0, 201)]) (st := []) (d2 := 4) (nc2 := 0) (ns2 := 0) (pc' := 163) dX10_findPost_160 rfl mtX7_fillSight mvX7_fillSight mlX10_131 cl7 rfl rfl rfl (Nat.le_of_ble_eq_true rfl) (by decide) ⟨by decide, by decide⟩ rfl (pX7_fillSight (E := E) (h := h) (M := M13) (g := g) (v2 := v3) (v3 := 201) hg H hG12) ?_
  rintro _ _ M15 ⟨rfl, hG16, rfl, H⟩ _
  exact T_vret dX10_findPost_163 rfl ⟨rfl, hG16, rfl, H⟩
theorem isG_lt {g : Int} (hg : isG g) : g < (S0.length : Nat) := by
  have e : S0.length = 126 := by decide +kernel
  rw [e]
  rcases hg with rfl | rfl <;> decide
theorem G_swap {h hd : Int} {M : Mem} (e : hd = 81 - h) (hG : G h M) : G hd (mset (mset M 0 10 hd) 0 11 h) := by
  have key : gtab.all (fun e => !(decide (e.1 = 0) && (decide (e.2.1 = 10) || decide (e.2.1 = 11)))) = true := by decide +kernel
  refine ⟨fun z hz => ?_, ?_, ?_, ?_⟩
  · have h1 := List.all_eq_true.mp key z hz
    simp only [Bool.not_eq_true', Bool.and_eq_false_iff, Bool.or_eq_false_iff, decide_eq_false_iff_not] at h1
    rw [← hG.1 z hz]
    unfold mset
    by_cases h0 : z.1 = 0
    · rcases h1 with h1 | h1
      · exact absurd h0 h1
      · rw [if_pos h0]
        show (if z.2.1 = 11 then h else _) = _
        rw [if_neg h1.2, if_pos rfl]
        show (if z.2.1 = 10 then hd else _) = _
        rw [if_neg h1.1, h0]
    · rw [if_neg h0, if_neg h0]
  · unfold mset
    rw [if_pos rfl]
    show (if (10 : Int) = 11 then h else _) = _
    rw [if_neg (by decide), if_pos rfl]
    show (if (10 : Int) = 10 then hd else _) = _
    rw [if_pos rfl]
  · unfold mset
    rw [if_pos rfl]
    show (if (11 : Int) = 11 then h else _) = _
    rw [if_pos rfl]
    omega
  · rcases hG.2.2.2 with z | z
    · exact Or.inr (by omega)
    · exact Or.inl (by omega)
def PX11_text (h hd : Int) (M : Mem) (Q : Int → Mem → Prop) : Prop :=
  PX2_read hd M (fun a1 M2 => (∀ M5 : Mem, M5 = (fmX11_takeFault M2) → (∀ M7 : Mem, M7 = (fmX8_cutTo M5 0) → ((a1 = 0 → Q (-1) M7) ∧ (¬ (a1 = 0) → (∀ M10 : Mem, M10 = (mset (mset M7 0 10 hd) 0 11 h) → (∀ M13 : Mem, M13 = (mset M10 0 12 (fX4_all M10 hd)) → (∀ M15 : Mem, M15 = (fmX0_forget M13) → (∀ M17 : Mem, M17 = (fmX11_changed M15 1) → Q (M17 4 1) M17)))))))))
set_option maxRecDepth 100000 in
set_option maxHeartbeats 2000000 in
theorem pX11_text {E : EV} {h hd : Int} {M : Mem} (ehd : hd = 81 - h) (hhd : isG hd) {Q : Int → Mem → Prop} (H : PX11_text h hd M Q) (hG : G h M) : Ct E miX11_text 12 0 0 [(2, 0)] S0 M (fun r S M' => S = S0 ∧ (∃ h', G h' M') ∧ RI 0 Q r M') := by
  refine Ct_of (L := [(2, 0), (3, 0), (3, 0)]) (by decide +kernel) (Nat.le_of_ble_eq_true rfl) rfl ?_
  have hh := hG.2.2.2
  refine T_aload_n (i := 0) (pc' := 1) dX11_text_0 rfl rfl rfl ?_
  refine U_gr (q := 4) (k := 2) (kI := 2) (pc' := 4) dX11_text_1 rfl cl11 (by decide) rfl (by decide) flX11_30 rfl rfl rfl (G_at hG 2 rfl) (by decide) rfl ?_
  refine T_aload_n (i := 0) (pc' := 5) dX11_text_4 rfl rfl rfl ?_
  refine U_gr (q := hd) (k := 11) (kI := 11) (pc' := 8) dX11_text_5 rfl cl11 (by decide) rfl (by decide) flX11_86 rfl rfl rfl (hG.2.2.1.trans ehd.symm) (pog0 hhd) rfl ?_
  refine T_callV (av := [(2, hd)]) (st := []) (d2 := 11) (nc2 := 0) (ns2 := 0) (pc' := 11) dX11_text_8 rfl mtX2_read mvX2_read mlX11_122 cl2 rfl rfl rfl (Nat.le_of_ble_eq_true rfl) (by decide) ⟨by decide, by decide⟩ rfl (pX2_read (E := E) (h := h) (M := M) (g := hd) hhd H hG) ?_
  rintro _ _ M2 ⟨rfl, hG3, a1, rfl, H⟩ _
  refine T_istore_n (i := 1) (L' := [(2, 0), (0, a1), (3, 0)]) (pc' := 12) dX11_text_11 rfl (by decide) rfl rfl ?_
  refine T_aload_n (i := 0) (pc' := 13) dX11_text_12 rfl rfl rfl ?_
  refine T_callV (av := []) (st := []) (d2 := 1) (nc2 := 0) (ns2 := 0) (pc' := 16) dX11_text_13 rfl mtX11_takeFault mvX11_takeFault mlX11_126 cl11 rfl rfl rfl (Nat.le_of_ble_eq_true rfl) (by decide) ⟨by decide, by decide⟩ rfl (pX11_takeFault (E := E) (h := h) (M := M2) hG3) (kF (st2 := []) rfl (fun hG4 => ?_))
  obtain ⟨M5, eM5⟩ : ∃ m : Mem, m = (fmX11_takeFault M2) := ⟨_, rfl⟩
  rw [← eM5] at hG4 ⊢
  replace H := H M5 eM5
  refine T_aload_n (i := 0) (pc' := 17) dX11_text_16 rfl rfl rfl ?_
  refine U_gr (q := 1) (k := 0) (kI := 0) (pc' := 20) dX11_text_17 rfl cl11 (by decide) rfl (by decide) flX11_12 rfl rfl rfl (G_at hG4 0 rfl) (by decide) rfl ?_
  refine T_iconst (pc' := 21) dX11_text_20 (by decide) rfl ?_
  refine T_callV (av := [(0, 0)]) (st := []) (d2 := 1) (nc2 := 0) (ns2 := 0) (pc' := 24) dX11_text_21 rfl mtX8_cutTo mvX8_cutTo mlX11_119 cl8 rfl rfl rfl (Nat.le_of_ble_eq_true rfl) (by decide) ⟨by decide, by decide⟩ rfl (pX8_cutTo (E := E) (h := h) (M := M5) (v1 := 0) hG4) (kF (st2 := [(0, (fX8_cutTo M5 0))]) rfl (fun hG6 => ?_))
  obtain ⟨M7, eM7⟩ : ∃ m : Mem, m = (fmX8_cutTo M5 0) := ⟨_, rfl⟩
  rw [← eM7] at hG6 ⊢
  replace H := H M7 eM7
  refine T_pop (pc' := 25) dX11_text_24 (Nat.ne_of_beq_eq_false rfl) rfl ?_
  refine T_iload_n (i := 1) (pc' := 26) dX11_text_25 rfl rfl rfl ?_
  refine T_if_ne (pc' := 31) dX11_text_26 (by decide) (pf := 29) rfl (fun c8 => ?_) (fun c8 => ?_)
  · skip
    replace H := H.2 c8
    refine T_aload_n (i := 0) (pc' := 32) dX11_text_31 rfl rfl rfl ?_
    refine U_gr (q := h) (k := 10) (kI := 10) (pc' := 35) dX11_text_32 rfl cl11 (by decide) rfl (by decide) flX11_82 rfl rfl rfl hG6.2.1 (pog0 hh) rfl ?_
    refine T_astore_n (i := 2) (L' := [(2, 0), (0, a1), (2, h)]) (pc' := 36) dX11_text_35 rfl (by decide) rfl rfl ?_
    refine T_aload_n (i := 0) (pc' := 37) dX11_text_36 rfl rfl rfl ?_
    refine T_aload_n (i := 0) (pc' := 38) dX11_text_37 rfl rfl rfl ?_
    refine U_gr (q := hd) (k := 11) (kI := 11) (pc' := 41) dX11_text_38 rfl cl11 (by decide) rfl (by decide) flX11_86 rfl rfl rfl (hG6.2.2.1.trans ehd.symm) (pog0 hhd) rfl ?_
    refine U_pr (y := hd) (k := 10) (kI := 10) (pc' := 44) dX11_text_41 rfl cl11 (by decide) rfl (by decide) flX11_82 rfl rfl rfl rfl rfl (pog0 hhd) (isG_lt hhd) rfl ?_
    refine T_aload_n (i := 0) (pc' := 45) dX11_text_44 rfl rfl rfl ?_
    refine T_aload_n (i := 2) (pc' := 46) dX11_text_45 rfl rfl rfl ?_
    refine U_pr (y := h) (k := 11) (kI := 11) (pc' := 49) dX11_text_46 rfl cl11 (by decide) rfl (by decide) flX11_86 rfl rfl rfl rfl rfl (pog0 hh) (isG_lt hh) rfl ?_
    have hG9 := G_swap ehd hG6
    obtain ⟨M10, eM10⟩ : ∃ m : Mem, m = (mset (mset M7 0 10 hd) 0 11 h) := ⟨_, rfl⟩
    rw [← eM10] at hG9 ⊢
    replace H := H M10 eM10
    refine T_aload_n (i := 0) (pc' := 50) dX11_text_49 rfl rfl rfl ?_
    refine T_aload_n (i := 0) (pc' := 51) dX11_text_50 rfl rfl rfl ?_
    refine U_gr (q := hd) (k := 10) (kI := 10) (pc' := 54) dX11_text_51 rfl cl11 (by decide) rfl (by decide) flX11_82 rfl rfl rfl hG9.2.1 (pog0 hhd) rfl ?_
    refine U_grN (q := (hd + 1)) (k := 0) (kI := 0) (pc' := 57) dX11_text_54 rfl cl1 (pog0 hhd) (shg0 hhd) (by decide) flX11_129 rfl rfl rfl (grg0_0 hhd hG9) (pog1 hhd) rfl ?_
    refine T_callV (av := []) (st := [(2, 0)]) (d2 := 1) (nc2 := 0) (ns2 := 0) (pc' := 60) dX11_text_57 rfl mtX4_all mvX4_all mlX11_133 cl4 (shg1 hhd) rfl rfl (Nat.le_of_ble_eq_true rfl) (by decide) ⟨by decide, by decide⟩ rfl (pX4_all (E := E) (h := hd) (M := M10) (g := hd) hhd hG9) (kF (st2 := [(0, (fX4_all M10 hd)), (2, 0)]) rfl (fun hG11 => ?_))
    refine U_pf (y := (fX4_all M10 hd)) (k := 12) (kI := 12) (pc' := 63) dX11_text_60 rfl cl11 (by decide) rfl (by decide) flX11_89 rfl rfl rfl rfl rfl (by decide) (fun z => z) rfl ?_
    have hG12 := (G_fld (x := 0) (i := 12) (y := (fX4_all M10 hd)) rfl (by decide) (by decide) (by decide) hG9)
    obtain ⟨M13, eM13⟩ : ∃ m : Mem, m = (mset M10 0 12 (fX4_all M10 hd)) := ⟨_, rfl⟩
    rw [← eM13] at hG12 ⊢
    replace H := H M13 eM13
    refine T_aload_n (i := 0) (pc' := 64) dX11_text_63 rfl rfl rfl ?_
    refine U_gr (q := 27) (k := 7) (kI := 7) (pc' := 67) dX11_text_64 rfl cl11 (by decide) rfl (by decide) flX11_67 rfl rfl rfl (G_at hG12 7 rfl) (by decide) rfl ?_
    refine T_callV (av := []) (st := []) (d2 := 1) (nc2 := 0) (ns2 := 0) (pc' := 70) dX11_text_67 rfl mtX0_forget mvX0_forget mlX11_139 cl0 rfl rfl rfl (Nat.le_of_ble_eq_true rfl) (by decide) ⟨by decide, by decide⟩ rfl (pX0_forget (E := E) (h := hd) (M := M13) hG12) (kF (st2 := []) rfl (fun hG14 => ?_))
    obtain ⟨M15, eM15⟩ : ∃ m : Mem, m = (fmX0_forget M13) := ⟨_, rfl⟩
    rw [← eM15] at hG14 ⊢
    replace H := H M15 eM15
    refine T_aload_n (i := 0) (pc' := 71) dX11_text_70 rfl rfl rfl ?_
    refine T_iconst (pc' := 72) dX11_text_71 (by decide) rfl ?_
    refine T_callV (av := [(0, 1)]) (st := []) (d2 := 1) (nc2 := 0) (ns2 := 0) (pc' := 75) dX11_text_72 rfl mtX11_changed mvX11_changed mlX11_142 cl11 rfl rfl rfl (Nat.le_of_ble_eq_true rfl) (by decide) ⟨by decide, by decide⟩ rfl (pX11_changed (E := E) (h := hd) (M := M15) (v1 := 1) hG14) (kF (st2 := []) rfl (fun hG16 => ?_))
    obtain ⟨M17, eM17⟩ : ∃ m : Mem, m = (fmX11_changed M15 1) := ⟨_, rfl⟩
    rw [← eM17] at hG16 ⊢
    replace H := H M17 eM17
    refine T_aload_n (i := 0) (pc' := 76) dX11_text_75 rfl rfl rfl ?_
    refine U_gr (q := 4) (k := 2) (kI := 2) (pc' := 79) dX11_text_76 rfl cl11 (by decide) rfl (by decide) flX11_30 rfl rfl rfl (G_at hG16 2 rfl) (by decide) rfl ?_
    refine U_gfN (v := (0, (M17 4 1))) (k := 1) (kI := 1) (pc' := 82) dX11_text_79 rfl cl2 (by decide) rfl (by decide) flX11_146 rfl rfl (by decide) rfl rfl ?_
    exact T_iret dX11_text_82 rfl ⟨rfl, ⟨_, hG16⟩, _, rfl, H⟩
  · skip
    replace H := H.1 c8
    refine T_iconst (pc' := 30) dX11_text_29 (by decide) rfl ?_
    exact T_iret dX11_text_30 rfl ⟨rfl, ⟨_, hG6⟩, _, rfl, H⟩
def PX11_freshWalks (h : Int) (M : Mem) (Q : Int → Mem → Prop) : Prop :=
  (((M 0 16) = 0 → Q 0 M) ∧ (¬ ((M 0 16) = 0) → PX7_prepare h M (fun _ M3 => (∀ M6 : Mem, M6 = (mset M3 0 16 0) → Q 0 M6))))
set_option maxRecDepth 100000 in
set_option maxHeartbeats 2000000 in
theorem pX11_freshWalks {E : EV} {h : Int} {M : Mem}   {Q : Int → Mem → Prop} (H : PX11_freshWalks h M Q) : C2 E miX11_freshWalks 6 h [(2, 0)] M (RV Q) := by
  refine C2_of (L := [(2, 0)]) (by decide +kernel) (Nat.le_of_ble_eq_true rfl) rfl (fun hG => ?_)
  have hh := hG.2.2.2
  refine T_aload_n (i := 0) (pc' := 1) dX11_freshWalks_0 rfl rfl rfl ?_
  refine U_gf (v := (0, (M 0 16))) (k := 16) (kI := 16) (pc' := 4) dX11_freshWalks_1 rfl cl11 (by decide) rfl (by decide) flX11_101 rfl rfl (by decide) rfl rfl ?_
  refine T_if_eq (pc' := 23) dX11_freshWalks_4 (by decide) (pf := 7) rfl (fun c1 => ?_) (fun c1 => ?_)
  · skip
    replace H := H.1 c1
    exact T_vret dX11_freshWalks_23 rfl ⟨rfl, hG, rfl, H⟩
  · skip
    replace H := H.2 c1
    refine T_aload_n (i := 0) (pc' := 8) dX11_freshWalks_7 rfl rfl rfl ?_
    refine U_gr (q := 9) (k := 4) (kI := 4) (pc' := 11) dX11_freshWalks_8 rfl cl11 (by decide) rfl (by decide) flX11_44 rfl rfl rfl (G_at hG 4 rfl) (by decide) rfl ?_
    refine T_aload_n (i := 0) (pc' := 12) dX11_freshWalks_11 rfl rfl rfl ?_
    refine U_gr (q := h) (k := 10) (kI := 10) (pc' := 15) dX11_freshWalks_12 rfl cl11 (by decide) rfl (by decide) flX11_82 rfl rfl rfl hG.2.1 (pog0 hh) rfl ?_
    refine T_callV (av := [(2, h)]) (st := []) (d2 := 5) (nc2 := 0) (ns2 := 0) (pc' := 18) dX11_freshWalks_15 rfl mtX7_prepare mvX7_prepare mlX11_387 cl7 rfl rfl rfl (Nat.le_of_ble_eq_true rfl) (by decide) ⟨by decide, by decide⟩ rfl (pX7_prepare (E := E) (h := h) (M := M) (g := h) hh H hG) ?_
    rintro _ _ M3 ⟨rfl, hG4, rfl, H⟩ _
    refine T_aload_n (i := 0) (pc' := 19) dX11_freshWalks_18 rfl rfl rfl ?_
    refine T_iconst (pc' := 20) dX11_freshWalks_19 (by decide) rfl ?_
    refine U_pf (y := 0) (k := 16) (kI := 16) (pc' := 23) dX11_freshWalks_20 rfl cl11 (by decide) rfl (by decide) flX11_101 rfl rfl rfl rfl rfl (by decide) (fun _ => bool_ok (by decide)) rfl ?_
    have hG5 := (G_fld (x := 0) (i := 16) (y := 0) rfl (by decide) (by decide) (by decide) hG4)
    obtain ⟨M6, eM6⟩ : ∃ m : Mem, m = (mset M3 0 16 0) := ⟨_, rfl⟩
    rw [← eM6] at hG5 ⊢
    replace H := H M6 eM6
    exact T_vret dX11_freshWalks_23 rfl ⟨rfl, hG5, rfl, H⟩
def PX11_freshMorning (h : Int) (M : Mem) (Q : Int → Mem → Prop) : Prop :=
  (((M 0 17) = 0 → Q 0 M) ∧ (¬ ((M 0 17) = 0) → PX11_freshWalks h M (fun _ M3 => PX3_tell h (M3 0 12) M3 (fun _ M6 => (∀ M9 : Mem, M9 = (mset M6 0 17 0) → Q 0 M9)))))
set_option maxRecDepth 100000 in
set_option maxHeartbeats 2000000 in
theorem pX11_freshMorning {E : EV} {h : Int} {M : Mem}   {Q : Int → Mem → Prop} (H : PX11_freshMorning h M Q) : C2 E miX11_freshMorning 7 h [(2, 0)] M (RR 16 Q) := by
  refine C2_of (L := [(2, 0)]) (by decide +kernel) (Nat.le_of_ble_eq_true rfl) rfl (fun hG => ?_)
  have hh := hG.2.2.2
  refine T_aload_n (i := 0) (pc' := 1) dX11_freshMorning_0 rfl rfl rfl ?_
  refine U_gf (v := (0, (M 0 17))) (k := 17) (kI := 17) (pc' := 4) dX11_freshMorning_1 rfl cl11 (by decide) rfl (by decide) flX11_105 rfl rfl (by decide) rfl rfl ?_
  refine T_if_eq (pc' := 35) dX11_freshMorning_4 (by decide) (pf := 7) rfl (fun c1 => ?_) (fun c1 => ?_)
  · skip
    replace H := H.1 c1
    refine T_aload_n (i := 0) (pc' := 36) dX11_freshMorning_35 rfl rfl rfl ?_
    refine U_gr (q := 16) (k := 5) (kI := 5) (pc' := 39) dX11_freshMorning_36 rfl cl11 (by decide) rfl (by decide) flX11_51 rfl rfl rfl (G_at hG 5 rfl) (by decide) rfl ?_
    exact T_aret dX11_freshMorning_39 rfl (by first | exact Or.inl ⟨_, rfl⟩ | exact Or.inr ⟨_, rfl⟩) ⟨rfl, hG, rfl, H⟩
  · skip
    replace H := H.2 c1
    refine T_aload_n (i := 0) (pc' := 8) dX11_freshMorning_7 rfl rfl rfl ?_
    refine T_callV (av := []) (st := []) (d2 := 6) (nc2 := 0) (ns2 := 0) (pc' := 11) dX11_freshMorning_8 rfl mtX11_freshWalks mvX11_freshWalks mlX11_327 cl11 rfl rfl rfl (Nat.le_of_ble_eq_true rfl) (by decide) ⟨by decide, by decide⟩ rfl (pX11_freshWalks (E := E) (h := h) (M := M) H hG) ?_
    rintro _ _ M3 ⟨rfl, hG4, rfl, H⟩ _
    refine T_aload_n (i := 0) (pc' := 12) dX11_freshMorning_11 rfl rfl rfl ?_
    refine U_gr (q := 16) (k := 5) (kI := 5) (pc' := 15) dX11_freshMorning_12 rfl cl11 (by decide) rfl (by decide) flX11_51 rfl rfl rfl (G_at hG4 5 rfl) (by decide) rfl ?_
    refine T_aload_n (i := 0) (pc' := 16) dX11_freshMorning_15 rfl rfl rfl ?_
    refine U_gr (q := h) (k := 10) (kI := 10) (pc' := 19) dX11_freshMorning_16 rfl cl11 (by decide) rfl (by decide) flX11_82 rfl rfl rfl hG4.2.1 (pog0 hh) rfl ?_
    refine T_aload_n (i := 0) (pc' := 20) dX11_freshMorning_19 rfl rfl rfl ?_
    refine U_gr (q := 9) (k := 4) (kI := 4) (pc' := 23) dX11_freshMorning_20 rfl cl11 (by decide) rfl (by decide) flX11_44 rfl rfl rfl (G_at hG4 4 rfl) (by decide) rfl ?_
    refine T_aload_n (i := 0) (pc' := 24) dX11_freshMorning_23 rfl rfl rfl ?_
    refine U_gf (v := (0, (M3 0 12))) (k := 12) (kI := 12) (pc' := 27) dX11_freshMorning_24 rfl cl11 (by decide) rfl (by decide) flX11_89 rfl rfl (by decide) rfl rfl ?_
    refine T_callV (av := [(2, h), (2, 9), (0, (M3 0 12))]) (st := []) (d2 := 6) (nc2 := 0) (ns2 := 0) (pc' := 30) dX11_freshMorning_27 rfl mtX3_tell mvX3_tell mlX11_390 cl3 rfl rfl rfl (Nat.le_of_ble_eq_true rfl) (by decide) ⟨by decide, by decide⟩ rfl (pX3_tell (E := E) (h := h) (M := M3) (g := h) (v3 := (M3 0 12)) hh H hG4) ?_
    rintro _ _ M6 ⟨rfl, hG7, rfl, H⟩ _
    refine T_aload_n (i := 0) (pc' := 31) dX11_freshMorning_30 rfl rfl rfl ?_
    refine T_iconst (pc' := 32) dX11_freshMorning_31 (by decide) rfl ?_
    refine U_pf (y := 0) (k := 17) (kI := 17) (pc' := 35) dX11_freshMorning_32 rfl cl11 (by decide) rfl (by decide) flX11_105 rfl rfl rfl rfl rfl (by decide) (fun _ => bool_ok (by decide)) rfl ?_
    have hG8 := (G_fld (x := 0) (i := 17) (y := 0) rfl (by decide) (by decide) (by decide) hG7)
    obtain ⟨M9, eM9⟩ : ∃ m : Mem, m = (mset M6 0 17 0) := ⟨_, rfl⟩
    rw [← eM9] at hG8 ⊢
    replace H := H M9 eM9
    refine T_aload_n (i := 0) (pc' := 36) dX11_freshMorning_35 rfl rfl rfl ?_
    refine U_gr (q := 16) (k := 5) (kI := 5) (pc' := 39) dX11_freshMorning_36 rfl cl11 (by decide) rfl (by decide) flX11_51 rfl rfl rfl (G_at hG8 5 rfl) (by decide) rfl ?_
    exact T_aret dX11_freshMorning_39 rfl (by first | exact Or.inl ⟨_, rfl⟩ | exact Or.inr ⟨_, rfl⟩) ⟨rfl, hG8, rfl, H⟩
def PX11_door (h : Int) (v1 : Int) (v2 : Int) (M : Mem) (Q : Int → Mem → Prop) : Prop :=
  (((fX1_hasDoor M h v1) = 0 → Q (-1) M) ∧ (¬ ((fX1_hasDoor M h v1) = 0) → ((v2 = 0 → Q (fX11_get M (h + 10) 6 v1) M) ∧ (¬ (v2 = 0) → ((v2 = 1 → Q (fX11_get M (h + 11) 6 v1) M) ∧ (¬ (v2 = 1) → ((v2 = 2 → PX11_freshMorning h M (fun _ M9 => (∀ a12 : Int, a12 = (fX3_outBy M9 v1) → Q a12 M9))) ∧ (¬ (v2 = 2) → ((v2 = 3 → PX11_freshMorning h M (fun _ M15 => (∀ a18 : Int, a18 = (fX3_lastOutBy M15 v1) → Q a18 M15))) ∧ (¬ (v2 = 3) → Q (-1) M))))))))))
set_option maxRecDepth 100000 in
set_option maxHeartbeats 2000000 in
theorem pX11_door {E : EV} {h : Int} {M : Mem} {v1 : Int} {v2 : Int}  {Q : Int → Mem → Prop} (H : PX11_door h v1 v2 M Q) : C2 E miX11_door 8 h [(2, 0), (0, v1), (0, v2)] M (RI 0 Q) := by
  refine C2_of (L := [(2, 0), (0, v1), (0, v2)]) (by decide +kernel) (Nat.le_of_ble_eq_true rfl) rfl (fun hG => ?_)
  have hh := hG.2.2.2
  refine T_aload_n (i := 0) (pc' := 1) dX11_door_0 rfl rfl rfl ?_
  refine U_gr (q := h) (k := 10) (kI := 10) (pc' := 4) dX11_door_1 rfl cl11 (by decide) rfl (by decide) flX11_82 rfl rfl rfl hG.2.1 (pog0 hh) rfl ?_
  refine T_iload_n (i := 1) (pc' := 5) dX11_door_4 rfl rfl rfl ?_
  refine T_callV (av := [(0, v1)]) (st := []) (d2 := 1) (nc2 := 0) (ns2 := 0) (pc' := 8) dX11_door_5 rfl mtX1_hasDoor mvX1_hasDoor mlX11_234 cl1 (shg0 hh) rfl rfl (Nat.le_of_ble_eq_true rfl) (by decide) ⟨by decide, by decide⟩ rfl (pX1_hasDoor (E := E) (h := h) (M := M) (g := h) (v1 := v1) hh hG) (kF (st2 := [(0, (fX1_hasDoor M h v1))]) rfl (fun hG1 => ?_))
  refine T_if_ne (pc' := 13) dX11_door_8 (by decide) (pf := 11) rfl (fun c2 => ?_) (fun c2 => ?_)
  · skip
    replace H := H.2 c2
    refine T_iload_n (i := 2) (pc' := 14) dX11_door_13 rfl rfl rfl ?_
    by_cases c3 : v2 = 0
    · skip
      replace H := H.1 c3
      refine T_tableIn (pc' := 44) dX11_door_14 (by omega) (by omega) (by rw [c3]; rfl) (by decide) ?_
      refine T_aload_n (i := 0) (pc' := 45) dX11_door_44 rfl rfl rfl ?_
      refine U_gr (q := h) (k := 10) (kI := 10) (pc' := 48) dX11_door_45 rfl cl11 (by decide) rfl (by decide) flX11_82 rfl rfl rfl hG.2.1 (pog0 hh) rfl ?_
      refine U_grN (q := (h + 10)) (k := 2) (kI := 2) (pc' := 51) dX11_door_48 rfl cl1 (pog0 hh) (shg0 hh) (by decide) flX11_237 rfl rfl rfl (grg0_2 hh hG) (pog10 hh) rfl ?_
      refine T_iload_n (i := 1) (pc' := 52) dX11_door_51 rfl rfl rfl ?_
      refine T_callS (av := [(2, (h + 10)), (0, v1)]) (st := []) (d2 := 1) (nc2 := 0) (ns2 := 0) (pc' := 55) dX11_door_52 rfl mtX11_get mvX11_get mlX11_189 rfl rfl (Nat.le_of_ble_eq_true rfl) (by decide) ⟨by decide, by decide⟩ rfl (pX11_get (E := E) (h := h) (M := M) (p0 := (h + 10)) (np0 := 6) (v1 := v1) (pog10 hh) (shg10 hh) (by decide) hG) (kF (st2 := [(0, (fX11_get M (h + 10) 6 v1))]) rfl (fun hG4 => ?_))
      exact T_iret dX11_door_55 rfl ⟨rfl, hG, _, rfl, H⟩
    · skip
      replace H := H.2 c3
      by_cases c5 : v2 = 1
      · skip
        replace H := H.1 c5
        refine T_tableIn (pc' := 56) dX11_door_14 (by omega) (by omega) (by rw [c5]; rfl) (by decide) ?_
        refine T_aload_n (i := 0) (pc' := 57) dX11_door_56 rfl rfl rfl ?_
        refine U_gr (q := h) (k := 10) (kI := 10) (pc' := 60) dX11_door_57 rfl cl11 (by decide) rfl (by decide) flX11_82 rfl rfl rfl hG.2.1 (pog0 hh) rfl ?_
        refine U_grN (q := (h + 11)) (k := 3) (kI := 3) (pc' := 63) dX11_door_60 rfl cl1 (pog0 hh) (shg0 hh) (by decide) flX11_240 rfl rfl rfl (grg0_3 hh hG) (pog11 hh) rfl ?_
        refine T_iload_n (i := 1) (pc' := 64) dX11_door_63 rfl rfl rfl ?_
        refine T_callS (av := [(2, (h + 11)), (0, v1)]) (st := []) (d2 := 1) (nc2 := 0) (ns2 := 0) (pc' := 67) dX11_door_64 rfl mtX11_get mvX11_get mlX11_189 rfl rfl (Nat.le_of_ble_eq_true rfl) (by decide) ⟨by decide, by decide⟩ rfl (pX11_get (E := E) (h := h) (M := M) (p0 := (h + 11)) (np0 := 6) (v1 := v1) (pog11 hh) (shg11 hh) (by decide) hG) (kF (st2 := [(0, (fX11_get M (h + 11) 6 v1))]) rfl (fun hG6 => ?_))
        exact T_iret dX11_door_67 rfl ⟨rfl, hG, _, rfl, H⟩
      · skip
        replace H := H.2 c5
        by_cases c7 : v2 = 2
        · skip
          replace H := H.1 c7
          refine T_tableIn (pc' := 68) dX11_door_14 (by omega) (by omega) (by rw [c7]; rfl) (by decide) ?_
          refine T_aload_n (i := 0) (pc' := 69) dX11_door_68 rfl rfl rfl ?_
          refine T_callV (av := []) (st := []) (d2 := 7) (nc2 := 0) (ns2 := 0) (pc' := 72) dX11_door_69 rfl mtX11_freshMorning mvX11_freshMorning mlX11_243 cl11 rfl rfl rfl (Nat.le_of_ble_eq_true rfl) (by decide) ⟨by decide, by decide⟩ rfl (pX11_freshMorning (E := E) (h := h) (M := M) H hG) ?_
          rintro _ _ M9 ⟨rfl, hG10, rfl, H⟩ _
          refine T_iload_n (i := 1) (pc' := 73) dX11_door_72 rfl rfl rfl ?_
          refine T_callV (av := [(0, v1)]) (st := []) (d2 := 2) (nc2 := 0) (ns2 := 0) (pc' := 76) dX11_door_73 rfl mtX3_outBy mvX3_outBy mlX11_247 cl3 rfl rfl rfl (Nat.le_of_ble_eq_true rfl) (by decide) ⟨by decide, by decide⟩ rfl (pX3_outBy (E := E) (h := h) (M := M9) (v1 := v1) hG10) (kF (st2 := [(0, (fX3_outBy M9 v1))]) rfl (fun hG11 => ?_))
          obtain ⟨a12, ea12⟩ : ∃ z : Int, z = (fX3_outBy M9 v1) := ⟨_, rfl⟩
          rw [← ea12]
          replace H := H a12 ea12
          exact T_iret dX11_door_76 rfl ⟨rfl, hG10, _, rfl, H⟩
        · skip
          replace H := H.2 c7
          by_cases c13 : v2 = 3
          · skip
            replace H := H.1 c13
            refine T_tableIn (pc' := 77) dX11_door_14 (by omega) (by omega) (by rw [c13]; rfl) (by decide) ?_
            refine T_aload_n (i := 0) (pc' := 78) dX11_door_77 rfl rfl rfl ?_
            refine T_callV (av := []) (st := []) (d2 := 7) (nc2 := 0) (ns2 := 0) (pc' := 81) dX11_door_78 rfl mtX11_freshMorning mvX11_freshMorning mlX11_243 cl11 rfl rfl rfl (Nat.le_of_ble_eq_true rfl) (by decide) ⟨by decide, by decide⟩ rfl (pX11_freshMorning (E := E) (h := h) (M := M) H hG) ?_
            rintro _ _ M15 ⟨rfl, hG16, rfl, H⟩ _
            refine T_iload_n (i := 1) (pc' := 82) dX11_door_81 rfl rfl rfl ?_
            refine T_callV (av := [(0, v1)]) (st := []) (d2 := 2) (nc2 := 0) (ns2 := 0) (pc' := 85) dX11_door_82 rfl mtX3_lastOutBy mvX3_lastOutBy mlX11_251 cl3 rfl rfl rfl (Nat.le_of_ble_eq_true rfl) (by decide) ⟨by decide, by decide⟩ rfl (pX3_lastOutBy (E := E) (h := h) (M := M15) (v1 := v1) hG16) (kF (st2 := [(0, (fX3_lastOutBy M15 v1))]) rfl (fun hG17 => ?_))
            obtain ⟨a18, ea18⟩ : ∃ z : Int, z = (fX3_lastOutBy M15 v1) := ⟨_, rfl⟩
            rw [← ea18]
            replace H := H a18 ea18
            exact T_iret dX11_door_85 rfl ⟨rfl, hG16, _, rfl, H⟩
          · skip
            replace H := H.2 c13
            refine T_tableOut (pc' := 86) dX11_door_14 (by omega) (by decide) ?_
            refine T_iconst (pc' := 87) dX11_door_86 (by decide) rfl ?_
            exact T_iret dX11_door_87 rfl ⟨rfl, hG, _, rfl, H⟩
  · skip
    replace H := H.1 c2
    refine T_iconst (pc' := 12) dX11_door_11 (by decide) rfl ?_
    exact T_iret dX11_door_12 rfl ⟨rfl, hG, _, rfl, H⟩
def PX11_where (h : Int) (v1 : Int) (v2 : Int) (M : Mem) (Q : Int → Mem → Prop) : Prop :=
  (((fX11_isSecond v2) = 0 → Q (-1) M) ∧ (¬ ((fX11_isSecond v2) = 0) → (((fX11_isComer M h v1) = 0 → Q (-1) M) ∧ (¬ ((fX11_isComer M h v1) = 0) → PX11_freshMorning h M (fun _ M6 => Q (fX3_cellOf M6 v1 v2) M6)))))
set_option maxRecDepth 100000 in
set_option maxHeartbeats 2000000 in
theorem pX11_where {E : EV} {h : Int} {M : Mem} {v1 : Int} {v2 : Int}  {Q : Int → Mem → Prop} (H : PX11_where h v1 v2 M Q) : C2 E miX11_where 8 h [(2, 0), (0, v1), (0, v2)] M (RI 0 Q) := by
  refine C2_of (L := [(2, 0), (0, v1), (0, v2)]) (by decide +kernel) (Nat.le_of_ble_eq_true rfl) rfl (fun hG => ?_)
  refine T_iload_n (i := 2) (pc' := 1) dX11_where_0 rfl rfl rfl ?_
  refine T_callS (av := [(0, v2)]) (st := []) (d2 := 1) (nc2 := 0) (ns2 := 0) (pc' := 4) dX11_where_1 rfl mtX11_isSecond mvX11_isSecond mlX11_254 rfl rfl (Nat.le_of_ble_eq_true rfl) (by decide) ⟨by decide, by decide⟩ rfl (pX11_isSecond (E := E) (h := h) (M := M) (v0 := v2) hG) (kF (st2 := [(0, (fX11_isSecond v2))]) rfl (fun hG1 => ?_))
  refine T_if_eq (pc' := 15) dX11_where_4 (by decide) (pf := 7) rfl (fun c2 => ?_) (fun c2 => ?_)
  · skip
    replace H := H.1 c2
    refine T_iconst (pc' := 16) dX11_where_15 (by decide) rfl ?_
    exact T_iret dX11_where_16 rfl ⟨rfl, hG, _, rfl, H⟩
  · skip
    replace H := H.2 c2
    refine T_aload_n (i := 0) (pc' := 8) dX11_where_7 rfl rfl rfl ?_
    refine T_iload_n (i := 1) (pc' := 9) dX11_where_8 rfl rfl rfl ?_
    refine T_callV (av := [(0, v1)]) (st := []) (d2 := 2) (nc2 := 0) (ns2 := 0) (pc' := 12) dX11_where_9 rfl mtX11_isComer mvX11_isComer mlX11_257 cl11 rfl rfl rfl (Nat.le_of_ble_eq_true rfl) (by decide) ⟨by decide, by decide⟩ rfl (pX11_isComer (E := E) (h := h) (M := M) (v1 := v1) hG) (kF (st2 := [(0, (fX11_isComer M h v1))]) rfl (fun hG3 => ?_))
    refine T_if_ne (pc' := 17) dX11_where_12 (by decide) (pf := 15) rfl (fun c4 => ?_) (fun c4 => ?_)
    · skip
      replace H := H.2 c4
      refine T_aload_n (i := 0) (pc' := 18) dX11_where_17 rfl rfl rfl ?_
      refine T_callV (av := []) (st := []) (d2 := 7) (nc2 := 0) (ns2 := 0) (pc' := 21) dX11_where_18 rfl mtX11_freshMorning mvX11_freshMorning mlX11_243 cl11 rfl rfl rfl (Nat.le_of_ble_eq_true rfl) (by decide) ⟨by decide, by decide⟩ rfl (pX11_freshMorning (E := E) (h := h) (M := M) H hG) ?_
      rintro _ _ M6 ⟨rfl, hG7, rfl, H⟩ _
      refine T_iload_n (i := 1) (pc' := 22) dX11_where_21 rfl rfl rfl ?_
      refine T_iload_n (i := 2) (pc' := 23) dX11_where_22 rfl rfl rfl ?_
      refine T_callV (av := [(0, v1), (0, v2)]) (st := []) (d2 := 2) (nc2 := 0) (ns2 := 0) (pc' := 26) dX11_where_23 rfl mtX3_cellOf mvX3_cellOf mlX11_260 cl3 rfl rfl rfl (Nat.le_of_ble_eq_true rfl) (by decide) ⟨by decide, by decide⟩ rfl (pX3_cellOf (E := E) (h := h) (M := M6) (v1 := v1) (v2 := v2) hG7) (kF (st2 := [(0, (fX3_cellOf M6 v1 v2))]) rfl (fun hG8 => ?_))
      exact T_iret dX11_where_26 rfl ⟨rfl, hG7, _, rfl, H⟩
    · skip
      replace H := H.1 c4
      refine T_iconst (pc' := 16) dX11_where_15 (by decide) rfl ?_
      exact T_iret dX11_where_16 rfl ⟨rfl, hG, _, rfl, H⟩
def PX11_does (h : Int) (v1 : Int) (v2 : Int) (M : Mem) (Q : Int → Mem → Prop) : Prop :=
  (((fX11_isComer M h v1) = 0 → Q (-1) M) ∧ (¬ ((fX11_isComer M h v1) = 0) → PX11_freshMorning h M (fun _ M4 => ((v2 = 0 → Q (fX11_get M4 19 9 v1) M4) ∧ (¬ (v2 = 0) → ((v2 = 1 → Q (fX11_get M4 21 9 v1) M4) ∧ (¬ (v2 = 1) → ((v2 = 2 → Q (fX11_get M4 20 9 v1) M4) ∧ (¬ (v2 = 2) → ((v2 = 3 → Q (fX11_get M4 22 9 v1) M4) ∧ (¬ (v2 = 3) → Q (-1) M4)))))))))))
set_option maxRecDepth 100000 in
set_option maxHeartbeats 2000000 in
theorem pX11_does {E : EV} {h : Int} {M : Mem} {v1 : Int} {v2 : Int}  {Q : Int → Mem → Prop} (H : PX11_does h v1 v2 M Q) : C2 E miX11_does 8 h [(2, 0), (0, v1), (0, v2)] M (RI 0 Q) := by
  refine C2_of (L := [(2, 0), (0, v1), (0, v2), (3, 0)]) (by decide +kernel) (Nat.le_of_ble_eq_true rfl) rfl (fun hG => ?_)
  refine T_aload_n (i := 0) (pc' := 1) dX11_does_0 rfl rfl rfl ?_
  refine T_iload_n (i := 1) (pc' := 2) dX11_does_1 rfl rfl rfl ?_
  refine T_callV (av := [(0, v1)]) (st := []) (d2 := 2) (nc2 := 0) (ns2 := 0) (pc' := 5) dX11_does_2 rfl mtX11_isComer mvX11_isComer mlX11_257 cl11 rfl rfl rfl (Nat.le_of_ble_eq_true rfl) (by decide) ⟨by decide, by decide⟩ rfl (pX11_isComer (E := E) (h := h) (M := M) (v1 := v1) hG) (kF (st2 := [(0, (fX11_isComer M h v1))]) rfl (fun hG1 => ?_))
  refine T_if_ne (pc' := 10) dX11_does_5 (by decide) (pf := 8) rfl (fun c2 => ?_) (fun c2 => ?_)
  · skip
    replace H := H.2 c2
    refine T_aload_n (i := 0) (pc' := 11) dX11_does_10 rfl rfl rfl ?_
    refine T_callV (av := []) (st := []) (d2 := 7) (nc2 := 0) (ns2 := 0) (pc' := 14) dX11_does_11 rfl mtX11_freshMorning mvX11_freshMorning mlX11_243 cl11 rfl rfl rfl (Nat.le_of_ble_eq_true rfl) (by decide) ⟨by decide, by decide⟩ rfl (pX11_freshMorning (E := E) (h := h) (M := M) H hG) ?_
    rintro _ _ M4 ⟨rfl, hG5, rfl, H⟩ _
    refine T_astore_n (i := 3) (L' := [(2, 0), (0, v1), (0, v2), (2, 16)]) (pc' := 15) dX11_does_14 rfl (by decide) rfl rfl ?_
    refine T_iload_n (i := 2) (pc' := 16) dX11_does_15 rfl rfl rfl ?_
    by_cases c6 : v2 = 0
    · skip
      replace H := H.1 c6
      refine T_tableIn (pc' := 48) dX11_does_16 (by omega) (by omega) (by rw [c6]; rfl) (by decide) ?_
      refine T_aload_n (i := 3) (pc' := 49) dX11_does_48 rfl rfl rfl ?_
      refine U_grN (q := 19) (k := 2) (kI := 2) (pc' := 52) dX11_does_49 rfl cl3 (by decide) rfl (by decide) flX11_263 rfl rfl rfl (G_at hG5 24 rfl) (by decide) rfl ?_
      refine T_iload_n (i := 1) (pc' := 53) dX11_does_52 rfl rfl rfl ?_
      refine T_callS (av := [(2, 19), (0, v1)]) (st := []) (d2 := 1) (nc2 := 0) (ns2 := 0) (pc' := 56) dX11_does_53 rfl mtX11_get mvX11_get mlX11_189 rfl rfl (Nat.le_of_ble_eq_true rfl) (by decide) ⟨by decide, by decide⟩ rfl (pX11_get (E := E) (h := h) (M := M4) (p0 := 19) (np0 := 9) (v1 := v1) (by decide) rfl (by decide) hG5) (kF (st2 := [(0, (fX11_get M4 19 9 v1))]) rfl (fun hG7 => ?_))
      exact T_iret dX11_does_56 rfl ⟨rfl, hG5, _, rfl, H⟩
    · skip
      replace H := H.2 c6
      by_cases c8 : v2 = 1
      · skip
        replace H := H.1 c8
        refine T_tableIn (pc' := 57) dX11_does_16 (by omega) (by omega) (by rw [c8]; rfl) (by decide) ?_
        refine T_aload_n (i := 3) (pc' := 58) dX11_does_57 rfl rfl rfl ?_
        refine U_grN (q := 21) (k := 4) (kI := 4) (pc' := 61) dX11_does_58 rfl cl3 (by decide) rfl (by decide) flX11_266 rfl rfl rfl (G_at hG5 26 rfl) (by decide) rfl ?_
        refine T_iload_n (i := 1) (pc' := 62) dX11_does_61 rfl rfl rfl ?_
        refine T_callS (av := [(2, 21), (0, v1)]) (st := []) (d2 := 1) (nc2 := 0) (ns2 := 0) (pc' := 65) dX11_does_62 rfl mtX11_get mvX11_get mlX11_189 rfl rfl (Nat.le_of_ble_eq_true rfl) (by decide) ⟨by decide, by decide⟩ rfl (pX11_get (E := E) (h := h) (M := M4) (p0 := 21) (np0 := 9) (v1 := v1) (by decide) rfl (by decide) hG5) (kF (st2 := [(0, (fX11_get M4 21 9 v1))]) rfl (fun hG9 => ?_))
        exact T_iret dX11_does_65 rfl ⟨rfl, hG5, _, rfl, H⟩
      · skip
        replace H := H.2 c8
        by_cases c10 : v2 = 2
        · skip
          replace H := H.1 c10
          refine T_tableIn (pc' := 66) dX11_does_16 (by omega) (by omega) (by rw [c10]; rfl) (by decide) ?_
          refine T_aload_n (i := 3) (pc' := 67) dX11_does_66 rfl rfl rfl ?_
          refine U_grN (q := 20) (k := 3) (kI := 3) (pc' := 70) dX11_does_67 rfl cl3 (by decide) rfl (by decide) flX11_269 rfl rfl rfl (G_at hG5 25 rfl) (by decide) rfl ?_
          refine T_iload_n (i := 1) (pc' := 71) dX11_does_70 rfl rfl rfl ?_
          refine T_callS (av := [(2, 20), (0, v1)]) (st := []) (d2 := 1) (nc2 := 0) (ns2 := 0) (pc' := 74) dX11_does_71 rfl mtX11_get mvX11_get mlX11_189 rfl rfl (Nat.le_of_ble_eq_true rfl) (by decide) ⟨by decide, by decide⟩ rfl (pX11_get (E := E) (h := h) (M := M4) (p0 := 20) (np0 := 9) (v1 := v1) (by decide) rfl (by decide) hG5) (kF (st2 := [(0, (fX11_get M4 20 9 v1))]) rfl (fun hG11 => ?_))
          exact T_iret dX11_does_74 rfl ⟨rfl, hG5, _, rfl, H⟩
        · skip
          replace H := H.2 c10
          by_cases c12 : v2 = 3
          · skip
            replace H := H.1 c12
            refine T_tableIn (pc' := 75) dX11_does_16 (by omega) (by omega) (by rw [c12]; rfl) (by decide) ?_
            refine T_aload_n (i := 3) (pc' := 76) dX11_does_75 rfl rfl rfl ?_
            refine U_grN (q := 22) (k := 5) (kI := 5) (pc' := 79) dX11_does_76 rfl cl3 (by decide) rfl (by decide) flX11_272 rfl rfl rfl (G_at hG5 27 rfl) (by decide) rfl ?_
            refine T_iload_n (i := 1) (pc' := 80) dX11_does_79 rfl rfl rfl ?_
            refine T_callS (av := [(2, 22), (0, v1)]) (st := []) (d2 := 1) (nc2 := 0) (ns2 := 0) (pc' := 83) dX11_does_80 rfl mtX11_get mvX11_get mlX11_189 rfl rfl (Nat.le_of_ble_eq_true rfl) (by decide) ⟨by decide, by decide⟩ rfl (pX11_get (E := E) (h := h) (M := M4) (p0 := 22) (np0 := 9) (v1 := v1) (by decide) rfl (by decide) hG5) (kF (st2 := [(0, (fX11_get M4 22 9 v1))]) rfl (fun hG13 => ?_))
            exact T_iret dX11_does_83 rfl ⟨rfl, hG5, _, rfl, H⟩
          · skip
            replace H := H.2 c12
            refine T_tableOut (pc' := 84) dX11_does_16 (by omega) (by decide) ?_
            refine T_iconst (pc' := 85) dX11_does_84 (by decide) rfl ?_
            exact T_iret dX11_does_85 rfl ⟨rfl, hG5, _, rfl, H⟩
  · skip
    replace H := H.1 c2
    refine T_iconst (pc' := 9) dX11_does_8 (by decide) rfl ?_
    exact T_iret dX11_does_9 rfl ⟨rfl, hG, _, rfl, H⟩
def PX11_count (h : Int) (v1 : Int) (v2 : Int) (M : Mem) (Q : Int → Mem → Prop) : Prop :=
  (((fX11_isSecond v1) = 0 → Q (-1) M) ∧ (¬ ((fX11_isSecond v1) = 0) → ((v2 < 0 → Q (-1) M) ∧ (¬ (v2 < 0) → ((v2 ≤ 3 → PX11_freshMorning h M (fun _ M6 => Q (fX3_howMany M6 v1 (wr32 (0 + v2))) M6)) ∧ (¬ (v2 ≤ 3) → Q (-1) M))))))
set_option maxRecDepth 100000 in
set_option maxHeartbeats 2000000 in
theorem pX11_count {E : EV} {h : Int} {M : Mem} {v1 : Int} {v2 : Int}  {Q : Int → Mem → Prop} (H : PX11_count h v1 v2 M Q) : C2 E miX11_count 8 h [(2, 0), (0, v1), (0, v2)] M (RI 0 Q) := by
  refine C2_of (L := [(2, 0), (0, v1), (0, v2)]) (by decide +kernel) (Nat.le_of_ble_eq_true rfl) rfl (fun hG => ?_)
  refine T_iload_n (i := 1) (pc' := 1) dX11_count_0 rfl rfl rfl ?_
  refine T_callS (av := [(0, v1)]) (st := []) (d2 := 1) (nc2 := 0) (ns2 := 0) (pc' := 4) dX11_count_1 rfl mtX11_isSecond mvX11_isSecond mlX11_254 rfl rfl (Nat.le_of_ble_eq_true rfl) (by decide) ⟨by decide, by decide⟩ rfl (pX11_isSecond (E := E) (h := h) (M := M) (v0 := v1) hG) (kF (st2 := [(0, (fX11_isSecond v1))]) rfl (fun hG1 => ?_))
  refine T_if_eq (pc' := 16) dX11_count_4 (by decide) (pf := 7) rfl (fun c2 => ?_) (fun c2 => ?_)
  · skip
    replace H := H.1 c2
    refine T_iconst (pc' := 17) dX11_count_16 (by decide) rfl ?_
    exact T_iret dX11_count_17 rfl ⟨rfl, hG, _, rfl, H⟩
  · skip
    replace H := H.2 c2
    refine T_iload_n (i := 2) (pc' := 8) dX11_count_7 rfl rfl rfl ?_
    refine T_if_lt (pc' := 16) dX11_count_8 (by decide) (pf := 11) rfl (fun c3 => ?_) (fun c3 => ?_)
    · skip
      replace H := H.1 c3
      refine T_iconst (pc' := 17) dX11_count_16 (by decide) rfl ?_
      exact T_iret dX11_count_17 rfl ⟨rfl, hG, _, rfl, H⟩
    · skip
      replace H := H.2 c3
      refine T_iload_n (i := 2) (pc' := 12) dX11_count_11 rfl rfl rfl ?_
      refine T_iconst (pc' := 13) dX11_count_12 (by decide) rfl ?_
      refine T_icmp_le (pc' := 18) dX11_count_13 (by decide) (pf := 16) rfl (fun c4 => ?_) (fun c4 => ?_)
      · skip
        replace H := H.1 c4
        refine T_aload_n (i := 0) (pc' := 19) dX11_count_18 rfl rfl rfl ?_
        refine T_callV (av := []) (st := []) (d2 := 7) (nc2 := 0) (ns2 := 0) (pc' := 22) dX11_count_19 rfl mtX11_freshMorning mvX11_freshMorning mlX11_243 cl11 rfl rfl rfl (Nat.le_of_ble_eq_true rfl) (by decide) ⟨by decide, by decide⟩ rfl (pX11_freshMorning (E := E) (h := h) (M := M) H hG) ?_
        rintro _ _ M6 ⟨rfl, hG7, rfl, H⟩ _
        refine T_iload_n (i := 1) (pc' := 23) dX11_count_22 rfl rfl rfl ?_
        refine T_iconst (pc' := 24) dX11_count_23 (by decide) rfl ?_
        refine T_iload_n (i := 2) (pc' := 25) dX11_count_24 rfl rfl rfl ?_
        refine T_iadd (pc' := 26) dX11_count_25 rfl ?_
        refine T_callV (av := [(0, v1), (0, (wr32 (0 + v2)))]) (st := []) (d2 := 2) (nc2 := 0) (ns2 := 0) (pc' := 29) dX11_count_26 rfl mtX3_howMany mvX3_howMany mlX11_275 cl3 rfl rfl rfl (Nat.le_of_ble_eq_true rfl) (by decide) ⟨by decide, by decide⟩ rfl (pX3_howMany (E := E) (h := h) (M := M6) (v1 := v1) (v2 := (wr32 (0 + v2))) hG7) (kF (st2 := [(0, (fX3_howMany M6 v1 (wr32 (0 + v2))))]) rfl (fun hG8 => ?_))
        exact T_iret dX11_count_29 rfl ⟨rfl, hG7, _, rfl, H⟩
      · skip
        replace H := H.2 c4
        refine T_iconst (pc' := 17) dX11_count_16 (by decide) rfl ?_
        exact T_iret dX11_count_17 rfl ⟨rfl, hG, _, rfl, H⟩
def PX11_whole (h : Int) (v1 : Int) (M : Mem) (Q : Int → Mem → Prop) : Prop :=
  (((fX1_isTold M h) = 0 → Q (-1) M) ∧ (¬ ((fX1_isTold M h) = 0) → PX11_freshMorning h M (fun _ M4 => ((v1 = 0 → Q (M4 16 10) M4) ∧ (¬ (v1 = 0) → ((v1 = 1 → Q (M4 16 11) M4) ∧ (¬ (v1 = 1) → ((v1 = 2 → (∀ a10 : Int, a10 = (fX3_peak M4) → Q a10 M4)) ∧ (¬ (v1 = 2) → ((v1 = 3 → (∀ a13 : Int, a13 = (fX3_peak M4) → Q (fX3_howMany M4 a13 0) M4)) ∧ (¬ (v1 = 3) → ((v1 = 4 → (∀ a17 : Int, a17 = (fX3_firstWith M4 (M4 h 17)) → Q (if a17 = (-1) then (0 : Int) else 1) M4)) ∧ (¬ (v1 = 4) → ((v1 = 5 → (∀ a22 : Int, a22 = (fX3_firstWith M4 (M4 h 17)) → Q a22 M4)) ∧ (¬ (v1 = 5) → ((v1 = 6 → (∀ a25 : Int, a25 = (fX3_openersOf M4 (M4 (h + 1) 7)) → Q a25 M4)) ∧ (¬ (v1 = 6) → ((v1 = 7 → (∀ a28 : Int, a28 = (fX3_lastOut M4) → Q a28 M4)) ∧ (¬ (v1 = 7) → ((v1 = 8 → (∀ a31 : Int, a31 = (fX3_openersAhead M4 (M4 h 14)) → Q a31 M4)) ∧ (¬ (v1 = 8) → Q (-1) M4)))))))))))))))))))))
set_option maxRecDepth 100000 in
set_option maxHeartbeats 2000000 in
theorem pX11_whole {E : EV} {h : Int} {M : Mem} {v1 : Int}  {Q : Int → Mem → Prop} (H : PX11_whole h v1 M Q) : C2 E miX11_whole 8 h [(2, 0), (0, v1)] M (RI 0 Q) := by
  refine C2_of (L := [(2, 0), (0, v1), (3, 0)]) (by decide +kernel) (Nat.le_of_ble_eq_true rfl) rfl (fun hG => ?_)
  have hh := hG.2.2.2
  refine T_aload_n (i := 0) (pc' := 1) dX11_whole_0 rfl rfl rfl ?_
  refine U_gr (q := h) (k := 10) (kI := 10) (pc' := 4) dX11_whole_1 rfl cl11 (by decide) rfl (by decide) flX11_82 rfl rfl rfl hG.2.1 (pog0 hh) rfl ?_
  refine T_callV (av := []) (st := []) (d2 := 1) (nc2 := 0) (ns2 := 0) (pc' := 7) dX11_whole_4 rfl mtX1_isTold mvX1_isTold mlX11_278 cl1 (shg0 hh) rfl rfl (Nat.le_of_ble_eq_true rfl) (by decide) ⟨by decide, by decide⟩ rfl (pX1_isTold (E := E) (h := h) (M := M) (g := h) hh hG) (kF (st2 := [(0, (fX1_isTold M h))]) rfl (fun hG1 => ?_))
  refine T_if_ne (pc' := 12) dX11_whole_7 (by decide) (pf := 10) rfl (fun c2 => ?_) (fun c2 => ?_)
  · skip
    replace H := H.2 c2
    refine T_aload_n (i := 0) (pc' := 13) dX11_whole_12 rfl rfl rfl ?_
    refine T_callV (av := []) (st := []) (d2 := 7) (nc2 := 0) (ns2 := 0) (pc' := 16) dX11_whole_13 rfl mtX11_freshMorning mvX11_freshMorning mlX11_243 cl11 rfl rfl rfl (Nat.le_of_ble_eq_true rfl) (by decide) ⟨by decide, by decide⟩ rfl (pX11_freshMorning (E := E) (h := h) (M := M) H hG) ?_
    rintro _ _ M4 ⟨rfl, hG5, rfl, H⟩ _
    refine T_astore_n (i := 2) (L' := [(2, 0), (0, v1), (2, 16)]) (pc' := 17) dX11_whole_16 rfl (by decide) rfl rfl ?_
    refine T_iload_n (i := 1) (pc' := 18) dX11_whole_17 rfl rfl rfl ?_
    by_cases c6 : v1 = 0
    · skip
      replace H := H.1 c6
      refine T_tableIn (pc' := 68) dX11_whole_18 (by omega) (by omega) (by rw [c6]; rfl) (by decide) ?_
      refine T_aload_n (i := 2) (pc' := 69) dX11_whole_68 rfl rfl rfl ?_
      refine U_gfN (v := (0, (M4 16 10))) (k := 10) (kI := 10) (pc' := 72) dX11_whole_69 rfl cl3 (by decide) rfl (by decide) flX11_282 rfl rfl (by decide) rfl rfl ?_
      exact T_iret dX11_whole_72 rfl ⟨rfl, hG5, _, rfl, H⟩
    · skip
      replace H := H.2 c6
      by_cases c7 : v1 = 1
      · skip
        replace H := H.1 c7
        refine T_tableIn (pc' := 73) dX11_whole_18 (by omega) (by omega) (by rw [c7]; rfl) (by decide) ?_
        refine T_aload_n (i := 2) (pc' := 74) dX11_whole_73 rfl rfl rfl ?_
        refine U_gfN (v := (0, (M4 16 11))) (k := 11) (kI := 11) (pc' := 77) dX11_whole_74 rfl cl3 (by decide) rfl (by decide) flX11_285 rfl rfl (by decide) rfl rfl ?_
        exact T_iret dX11_whole_77 rfl ⟨rfl, hG5, _, rfl, H⟩
      · skip
        replace H := H.2 c7
        by_cases c8 : v1 = 2
        · skip
          replace H := H.1 c8
          refine T_tableIn (pc' := 78) dX11_whole_18 (by omega) (by omega) (by rw [c8]; rfl) (by decide) ?_
          refine T_aload_n (i := 2) (pc' := 79) dX11_whole_78 rfl rfl rfl ?_
          refine T_callV (av := []) (st := []) (d2 := 3) (nc2 := 0) (ns2 := 0) (pc' := 82) dX11_whole_79 rfl mtX3_peak mvX3_peak mlX11_288 cl3 rfl rfl rfl (Nat.le_of_ble_eq_true rfl) (by decide) ⟨by decide, by decide⟩ rfl (pX3_peak (E := E) (h := h) (M := M4) hG5) (kF (st2 := [(0, (fX3_peak M4))]) rfl (fun hG9 => ?_))
          obtain ⟨a10, ea10⟩ : ∃ z : Int, z = (fX3_peak M4) := ⟨_, rfl⟩
          rw [← ea10]
          replace H := H a10 ea10
          exact T_iret dX11_whole_82 rfl ⟨rfl, hG5, _, rfl, H⟩
        · skip
          replace H := H.2 c8
          by_cases c11 : v1 = 3
          · skip
            replace H := H.1 c11
            refine T_tableIn (pc' := 83) dX11_whole_18 (by omega) (by omega) (by rw [c11]; rfl) (by decide) ?_
            refine T_aload_n (i := 2) (pc' := 84) dX11_whole_83 rfl rfl rfl ?_
            refine T_aload_n (i := 2) (pc' := 85) dX11_whole_84 rfl rfl rfl ?_
            refine T_callV (av := []) (st := [(2, 16)]) (d2 := 3) (nc2 := 0) (ns2 := 0) (pc' := 88) dX11_whole_85 rfl mtX3_peak mvX3_peak mlX11_288 cl3 rfl rfl rfl (Nat.le_of_ble_eq_true rfl) (by decide) ⟨by decide, by decide⟩ rfl (pX3_peak (E := E) (h := h) (M := M4) hG5) (kF (st2 := [(0, (fX3_peak M4)), (2, 16)]) rfl (fun hG12 => ?_))
            obtain ⟨a13, ea13⟩ : ∃ z : Int, z = (fX3_peak M4) := ⟨_, rfl⟩
            rw [← ea13]
            replace H := H a13 ea13
            refine T_iconst (pc' := 89) dX11_whole_88 (by decide) rfl ?_
            refine T_callV (av := [(0, a13), (0, 0)]) (st := []) (d2 := 2) (nc2 := 0) (ns2 := 0) (pc' := 92) dX11_whole_89 rfl mtX3_howMany mvX3_howMany mlX11_275 cl3 rfl rfl rfl (Nat.le_of_ble_eq_true rfl) (by decide) ⟨by decide, by decide⟩ rfl (pX3_howMany (E := E) (h := h) (M := M4) (v1 := a13) (v2 := 0) hG5) (kF (st2 := [(0, (fX3_howMany M4 a13 0))]) rfl (fun hG14 => ?_))
            exact T_iret dX11_whole_92 rfl ⟨rfl, hG5, _, rfl, H⟩
          · skip
            replace H := H.2 c11
            by_cases c15 : v1 = 4
            · skip
              replace H := H.1 c15
              refine T_tableIn (pc' := 93) dX11_whole_18 (by omega) (by omega) (by rw [c15]; rfl) (by decide) ?_
              refine T_aload_n (i := 2) (pc' := 94) dX11_whole_93 rfl rfl rfl ?_
              refine T_aload_n (i := 0) (pc' := 95) dX11_whole_94 rfl rfl rfl ?_
              refine U_gr (q := h) (k := 10) (kI := 10) (pc' := 98) dX11_whole_95 rfl cl11 (by decide) rfl (by decide) flX11_82 rfl rfl rfl hG5.2.1 (pog0 hh) rfl ?_
              refine U_gfN (v := (0, (M4 h 17))) (k := 17) (kI := 17) (pc' := 101) dX11_whole_98 rfl cl1 (pog0 hh) (shg0 hh) (by decide) flX11_179 rfl rfl (by decide) rfl rfl ?_
              refine T_callV (av := [(0, (M4 h 17))]) (st := []) (d2 := 3) (nc2 := 0) (ns2 := 0) (pc' := 104) dX11_whole_101 rfl mtX3_firstWith mvX3_firstWith mlX11_291 cl3 rfl rfl rfl (Nat.le_of_ble_eq_true rfl) (by decide) ⟨by decide, by decide⟩ rfl (pX3_firstWith (E := E) (h := h) (M := M4) (v1 := (M4 h 17)) hG5) (kF (st2 := [(0, (fX3_firstWith M4 (M4 h 17)))]) rfl (fun hG16 => ?_))
              obtain ⟨a17, ea17⟩ : ∃ z : Int, z = (fX3_firstWith M4 (M4 h 17)) := ⟨_, rfl⟩
              rw [← ea17]
              replace H := H a17 ea17
              refine T_iconst (pc' := 105) dX11_whole_104 (by decide) rfl ?_
              have HJ18 : T E miX11_whole 8 126 0 0 (fun r S M' => S = S0 ∧ G h M' ∧ RI 0 Q r M') 113 [(3, 0), (3, 0), (3, 0)] [(0, (if a17 = (-1) then (0 : Int) else 1))] S0 M4 0 0 := by
                exact T_iret dX11_whole_113 rfl ⟨rfl, hG5, _, rfl, H⟩
              refine T_icmp_ne (pc' := 112) dX11_whole_105 (by decide) (pf := 108) rfl (fun c19 => ?_) (fun c19 => ?_)
              · skip
                refine T_iconst (pc' := 113) dX11_whole_112 (by decide) rfl ?_
                exact T_wk (L' := [(3, 0), (3, 0), (3, 0)]) (by have q := HJ18; try simp only [if_neg c19] at q ⊢; exact q) ⟨Or.inl rfl, Or.inl rfl, Or.inl rfl, trivial⟩
              · skip
                refine T_iconst (pc' := 109) dX11_whole_108 (by decide) rfl ?_
                refine T_goto (pc' := 113) dX11_whole_109 (by decide) ?_
                exact T_wk (L' := [(3, 0), (3, 0), (3, 0)]) (by have q := HJ18; try simp only [if_pos c19] at q ⊢; exact q) ⟨Or.inl rfl, Or.inl rfl, Or.inl rfl, trivial⟩
            · skip
              replace H := H.2 c15
              by_cases c20 : v1 = 5
              · skip
                replace H := H.1 c20
                refine T_tableIn (pc' := 114) dX11_whole_18 (by omega) (by omega) (by rw [c20]; rfl) (by decide) ?_
                refine T_aload_n (i := 2) (pc' := 115) dX11_whole_114 rfl rfl rfl ?_
                refine T_aload_n (i := 0) (pc' := 116) dX11_whole_115 rfl rfl rfl ?_
                refine U_gr (q := h) (k := 10) (kI := 10) (pc' := 119) dX11_whole_116 rfl cl11 (by decide) rfl (by decide) flX11_82 rfl rfl rfl hG5.2.1 (pog0 hh) rfl ?_
                refine U_gfN (v := (0, (M4 h 17))) (k := 17) (kI := 17) (pc' := 122) dX11_whole_119 rfl cl1 (pog0 hh) (shg0 hh) (by decide) flX11_179 rfl rfl (by decide) rfl rfl ?_
                refine T_callV (av := [(0, (M4 h 17))]) (st := []) (d2 := 3) (nc2 := 0) (ns2 := 0) (pc' := 125) dX11_whole_122 rfl mtX3_firstWith mvX3_firstWith mlX11_291 cl3 rfl rfl rfl (Nat.le_of_ble_eq_true rfl) (by decide) ⟨by decide, by decide⟩ rfl (pX3_firstWith (E := E) (h := h) (M := M4) (v1 := (M4 h 17)) hG5) (kF (st2 := [(0, (fX3_firstWith M4 (M4 h 17)))]) rfl (fun hG21 => ?_))
                obtain ⟨a22, ea22⟩ : ∃ z : Int, z = (fX3_firstWith M4 (M4 h 17)) := ⟨_, rfl⟩
                rw [← ea22]
                replace H := H a22 ea22
                exact T_iret dX11_whole_125 rfl ⟨rfl, hG5, _, rfl, H⟩
              · skip
                replace H := H.2 c20
                by_cases c23 : v1 = 6
                · skip
                  replace H := H.1 c23
                  refine T_tableIn (pc' := 126) dX11_whole_18 (by omega) (by omega) (by rw [c23]; rfl) (by decide) ?_
                  refine T_aload_n (i := 2) (pc' := 127) dX11_whole_126 rfl rfl rfl ?_
                  refine T_aload_n (i := 0) (pc' := 128) dX11_whole_127 rfl rfl rfl ?_
                  refine U_gr (q := h) (k := 10) (kI := 10) (pc' := 131) dX11_whole_128 rfl cl11 (by decide) rfl (by decide) flX11_82 rfl rfl rfl hG5.2.1 (pog0 hh) rfl ?_
                  refine U_grN (q := (h + 1)) (k := 0) (kI := 0) (pc' := 134) dX11_whole_131 rfl cl1 (pog0 hh) (shg0 hh) (by decide) flX11_129 rfl rfl rfl (grg0_0 hh hG5) (pog1 hh) rfl ?_
                  refine U_gfN (v := (0, (M4 (h + 1) 7))) (k := 7) (kI := 7) (pc' := 137) dX11_whole_134 rfl cl4 (pog1 hh) (shg1 hh) (by decide) flX11_215 rfl rfl (by decide) rfl rfl ?_
                  refine T_callV (av := [(0, (M4 (h + 1) 7))]) (st := []) (d2 := 2) (nc2 := 0) (ns2 := 0) (pc' := 140) dX11_whole_137 rfl mtX3_openersOf mvX3_openersOf mlX11_294 cl3 rfl rfl rfl (Nat.le_of_ble_eq_true rfl) (by decide) ⟨by decide, by decide⟩ rfl (pX3_openersOf (E := E) (h := h) (M := M4) (v1 := (M4 (h + 1) 7)) hG5) (kF (st2 := [(0, (fX3_openersOf M4 (M4 (h + 1) 7)))]) rfl (fun hG24 => ?_))
                  obtain ⟨a25, ea25⟩ : ∃ z : Int, z = (fX3_openersOf M4 (M4 (h + 1) 7)) := ⟨_, rfl⟩
                  rw [← ea25]
                  replace H := H a25 ea25
                  exact T_iret dX11_whole_140 rfl ⟨rfl, hG5, _, rfl, H⟩
                · skip
                  replace H := H.2 c23
                  by_cases c26 : v1 = 7
                  · skip
                    replace H := H.1 c26
                    refine T_tableIn (pc' := 141) dX11_whole_18 (by omega) (by omega) (by rw [c26]; rfl) (by decide) ?_
                    refine T_aload_n (i := 2) (pc' := 142) dX11_whole_141 rfl rfl rfl ?_
                    refine T_callV (av := []) (st := []) (d2 := 2) (nc2 := 0) (ns2 := 0) (pc' := 145) dX11_whole_142 rfl mtX3_lastOut mvX3_lastOut mlX11_297 cl3 rfl rfl rfl (Nat.le_of_ble_eq_true rfl) (by decide) ⟨by decide, by decide⟩ rfl (pX3_lastOut (E := E) (h := h) (M := M4) hG5) (kF (st2 := [(0, (fX3_lastOut M4))]) rfl (fun hG27 => ?_))
                    obtain ⟨a28, ea28⟩ : ∃ z : Int, z = (fX3_lastOut M4) := ⟨_, rfl⟩
                    rw [← ea28]
                    replace H := H a28 ea28
                    exact T_iret dX11_whole_145 rfl ⟨rfl, hG5, _, rfl, H⟩
                  · skip
                    replace H := H.2 c26
                    by_cases c29 : v1 = 8
                    · skip
                      replace H := H.1 c29
                      refine T_tableIn (pc' := 146) dX11_whole_18 (by omega) (by omega) (by rw [c29]; rfl) (by decide) ?_
                      refine T_aload_n (i := 2) (pc' := 147) dX11_whole_146 rfl rfl rfl ?_
                      refine T_aload_n (i := 0) (pc' := 148) dX11_whole_147 rfl rfl rfl ?_
                      refine U_gr (q := h) (k := 10) (kI := 10) (pc' := 151) dX11_whole_148 rfl cl11 (by decide) rfl (by decide) flX11_82 rfl rfl rfl hG5.2.1 (pog0 hh) rfl ?_
                      refine U_gfN (v := (0, (M4 h 14))) (k := 14) (kI := 14) (pc' := 154) dX11_whole_151 rfl cl1 (pog0 hh) (shg0 hh) (by decide) flX11_170 rfl rfl (by decide) rfl rfl ?_
                      refine T_callV (av := [(0, (M4 h 14))]) (st := []) (d2 := 2) (nc2 := 0) (ns2 := 0) (pc' := 157) dX11_whole_154 rfl mtX3_openersAhead mvX3_openersAhead mlX11_300 cl3 rfl rfl rfl (Nat.le_of_ble_eq_true rfl) (by decide) ⟨by decide, by decide⟩ rfl (pX3_openersAhead (E := E) (h := h) (M := M4) (v1 := (M4 h 14)) hG5) (kF (st2 := [(0, (fX3_openersAhead M4 (M4 h 14)))]) rfl (fun hG30 => ?_))
                      obtain ⟨a31, ea31⟩ : ∃ z : Int, z = (fX3_openersAhead M4 (M4 h 14)) := ⟨_, rfl⟩
                      rw [← ea31]
                      replace H := H a31 ea31
                      exact T_iret dX11_whole_157 rfl ⟨rfl, hG5, _, rfl, H⟩
                    · skip
                      replace H := H.2 c29
                      refine T_tableOut (pc' := 158) dX11_whole_18 (by omega) (by decide) ?_
                      refine T_iconst (pc' := 159) dX11_whole_158 (by decide) rfl ?_
                      exact T_iret dX11_whole_159 rfl ⟨rfl, hG5, _, rfl, H⟩
  · skip
    replace H := H.1 c2
    refine T_iconst (pc' := 11) dX11_whole_10 (by decide) rfl ?_
    exact T_iret dX11_whole_11 rfl ⟨rfl, hG, _, rfl, H⟩
def PX11_odds (h : Int) (M : Mem) (Q : Int → Mem → Prop) : Prop :=
  (((fX1_isTold M h) = 0 → Q (-1) M) ∧ (¬ ((fX1_isTold M h) = 0) → PX11_freshWalks h M (fun _ M4 => PX10_thousandths h M4 (fun a6 M7 => Q a6 M7))))
set_option maxRecDepth 100000 in
set_option maxHeartbeats 2000000 in
theorem pX11_odds {E : EV} {h : Int} {M : Mem}   {Q : Int → Mem → Prop} (H : PX11_odds h M Q) : C2 E miX11_odds 8 h [(2, 0)] M (RI 0 Q) := by
  refine C2_of (L := [(2, 0)]) (by decide +kernel) (Nat.le_of_ble_eq_true rfl) rfl (fun hG => ?_)
  have hh := hG.2.2.2
  refine T_aload_n (i := 0) (pc' := 1) dX11_odds_0 rfl rfl rfl ?_
  refine U_gr (q := h) (k := 10) (kI := 10) (pc' := 4) dX11_odds_1 rfl cl11 (by decide) rfl (by decide) flX11_82 rfl rfl rfl hG.2.1 (pog0 hh) rfl ?_
  refine T_callV (av := []) (st := []) (d2 := 1) (nc2 := 0) (ns2 := 0) (pc' := 7) dX11_odds_4 rfl mtX1_isTold mvX1_isTold mlX11_278 cl1 (shg0 hh) rfl rfl (Nat.le_of_ble_eq_true rfl) (by decide) ⟨by decide, by decide⟩ rfl (pX1_isTold (E := E) (h := h) (M := M) (g := h) hh hG) (kF (st2 := [(0, (fX1_isTold M h))]) rfl (fun hG1 => ?_))
  refine T_if_ne (pc' := 12) dX11_odds_7 (by decide) (pf := 10) rfl (fun c2 => ?_) (fun c2 => ?_)
  · skip
    replace H := H.2 c2
    refine T_aload_n (i := 0) (pc' := 13) dX11_odds_12 rfl rfl rfl ?_
    refine T_callV (av := []) (st := []) (d2 := 6) (nc2 := 0) (ns2 := 0) (pc' := 16) dX11_odds_13 rfl mtX11_freshWalks mvX11_freshWalks mlX11_327 cl11 rfl rfl rfl (Nat.le_of_ble_eq_true rfl) (by decide) ⟨by decide, by decide⟩ rfl (pX11_freshWalks (E := E) (h := h) (M := M) H hG) ?_
    rintro _ _ M4 ⟨rfl, hG5, rfl, H⟩ _
    refine T_aload_n (i := 0) (pc' := 17) dX11_odds_16 rfl rfl rfl ?_
    refine U_gr (q := 25) (k := 6) (kI := 6) (pc' := 20) dX11_odds_17 rfl cl11 (by decide) rfl (by decide) flX11_60 rfl rfl rfl (G_at hG5 6 rfl) (by decide) rfl ?_
    refine T_aload_n (i := 0) (pc' := 21) dX11_odds_20 rfl rfl rfl ?_
    refine U_gr (q := h) (k := 10) (kI := 10) (pc' := 24) dX11_odds_21 rfl cl11 (by decide) rfl (by decide) flX11_82 rfl rfl rfl hG5.2.1 (pog0 hh) rfl ?_
    refine T_callV (av := [(2, h)]) (st := []) (d2 := 7) (nc2 := 0) (ns2 := 0) (pc' := 27) dX11_odds_24 rfl mtX10_thousandths mvX10_thousandths mlX11_330 cl10 rfl rfl rfl (Nat.le_of_ble_eq_true rfl) (by decide) ⟨by decide, by decide⟩ rfl (pX10_thousandths (E := E) (h := h) (M := M4) (g := h) hh H hG5) ?_
    rintro _ _ M7 ⟨rfl, hG8, a6, rfl, H⟩ _
    exact T_iret dX11_odds_27 rfl ⟨rfl, hG8, _, rfl, H⟩
  · skip
    replace H := H.1 c2
    refine T_iconst (pc' := 11) dX11_odds_10 (by decide) rfl ?_
    exact T_iret dX11_odds_11 rfl ⟨rfl, hG, _, rfl, H⟩
