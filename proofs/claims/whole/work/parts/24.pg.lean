/-! methods as propositions, 7 -/
def PX12_newName_7 (v1 : Int) (K : Mem → Prop) (Q : Int → Mem → Prop) : Nat → Int → Mem → Prop
  | 0 => fun _ _ => False
  | k + 1 => fun v3 M => (((M 85 0) ≤ v3 → K M) ∧ (¬ ((M 85 0) ≤ v3) → (((M 66 5) = 0 → 0 ≤ v3 ∧ v3 < 40 ∧ (((m_cmp (M 86 v3) v1) = 0 → (∀ M5 : Mem, M5 = (fmX12_fail M 3 (M 66 27)) → PX12_newName_7 v1 K Q k (wr32 (v3 + 1)) M5)) ∧ (¬ ((m_cmp (M 86 v3) v1) = 0) → PX12_newName_7 v1 K Q k (wr32 (v3 + 1)) M))) ∧ (¬ ((M 66 5) = 0) → PX12_newName_7 v1 K Q k (wr32 (v3 + 1)) M))))
def PX12_newName_52 (v1 : Int) (K : Mem → Prop) (Q : Int → Mem → Prop) : Nat → Int → Mem → Prop
  | 0 => fun _ _ => False
  | k + 1 => fun v3 M => (((M 85 1) ≤ v3 → K M) ∧ (¬ ((M 85 1) ≤ v3) → (((M 66 5) = 0 → 0 ≤ (wr32 (10 + v3)) ∧ (wr32 (10 + v3)) < 40 ∧ (((m_cmp (M 86 (wr32 (10 + v3))) v1) = 0 → (∀ M5 : Mem, M5 = (fmX12_fail M 3 (M 66 27)) → PX12_newName_52 v1 K Q k (wr32 (v3 + 1)) M5)) ∧ (¬ ((m_cmp (M 86 (wr32 (10 + v3))) v1) = 0) → PX12_newName_52 v1 K Q k (wr32 (v3 + 1)) M))) ∧ (¬ ((M 66 5) = 0) → PX12_newName_52 v1 K Q k (wr32 (v3 + 1)) M))))
def PX12_newName  (M : Mem) (Q : Int → Mem → Prop) : Prop :=
  PX12_name M (fun a1 M2 => (∃ k4 : Nat, PX12_newName_7 a1 (fun M5 => (∃ k7 : Nat, PX12_newName_52 a1 (fun M8 => Q a1 M8) Q k7 0 M5)) Q k4 0 M2))
set_option maxRecDepth 100000 in
set_option maxHeartbeats 2000000 in
theorem qX12_newName_7 {E : EV} {h : Int} {v1 : Int}  {K : Mem → Prop} {Q : Int → Mem → Prop} (hK : ∀ (M : Mem), K M → G h M → TG E miX12_newName 5 h (RI 1 Q) 50 [(2, 66), (1, v1), (3, 0), (3, 0)] [] M) : ∀ (k : Nat) (v3 : Int) (M : Mem), PX12_newName_7 v1 K Q k v3 M → G h M → TG E miX12_newName 5 h (RI 1 Q) 7 [(2, 66), (1, v1), (3, 0), (0, v3)] [] M := by
  intro k
  induction k with
  | zero =>
    intro v3 M H
    exact False.elim H
  | succ k ih =>
    intro v3 M H hG
    refine T_iload_n (i := 3) (pc' := 8) dX12_newName_7 rfl rfl rfl ?_
    refine T_aload_n (i := 0) (pc' := 9) dX12_newName_8 rfl rfl rfl ?_
    refine U_gr (q := 85) (k := 28) (kI := 28) (pc' := 12) dX12_newName_9 rfl cl12 (by decide) rfl (by decide) flX12_69 rfl rfl rfl (G_at hG 85 rfl) (by decide) rfl ?_
    refine T_iconst (pc' := 13) dX12_newName_12 (by decide) rfl ?_
    refine T_iald (pc' := 14) dX12_newName_13 (by decide) rfl (by decide) (by decide) rfl ?_
    refine T_icmp_ge (pc' := 50) dX12_newName_14 (by decide) (pf := 17) rfl (fun c1 => ?_) (fun c1 => ?_)
    · skip
      replace H := H.1 c1
      exact T_wk (L' := [(2, 66), (1, v1), (3, 0), (3, 0)]) (hK _ H hG) ⟨Or.inr rfl, Or.inr rfl, Or.inl rfl, Or.inl rfl, trivial⟩
    · skip
      replace H := H.2 c1
      refine T_aload_n (i := 0) (pc' := 18) dX12_newName_17 rfl rfl rfl ?_
      refine U_gf (v := (0, (M 66 5))) (k := 5) (kI := 5) (pc' := 21) dX12_newName_18 rfl cl12 (by decide) rfl (by decide) flX12_201 rfl rfl (by decide) rfl rfl ?_
      refine T_if_ne (pc' := 44) dX12_newName_21 (by decide) (pf := 24) rfl (fun c2 => ?_) (fun c2 => ?_)
      · skip
        replace H := H.2 c2
        refine T_iinc (L' := [(2, 66), (1, v1), (3, 0), (0, (wr32 (v3 + 1)))]) (pc' := 47) dX12_newName_44 rfl (by decide) rfl rfl ?_
        refine T_goto (pc' := 7) dX12_newName_47 (by decide) ?_
        exact T_wk (L' := [(2, 66), (1, v1), (3, 0), (0, (wr32 (v3 + 1)))]) (ih _ _ H hG) ⟨Or.inr rfl, Or.inr rfl, Or.inl rfl, Or.inr rfl, trivial⟩
      · skip
        replace H := H.1 c2
        refine T_aload_n (i := 0) (pc' := 25) dX12_newName_24 rfl rfl rfl ?_
        refine U_gr (q := 86) (k := 29) (kI := 29) (pc' := 28) dX12_newName_25 rfl cl12 (by decide) rfl (by decide) flX12_72 rfl rfl rfl (G_at hG 86 rfl) (by decide) rfl ?_
        refine T_iload_n (i := 3) (pc' := 29) dX12_newName_28 rfl rfl rfl ?_
        obtain ⟨z1, z2, H⟩ := H
        refine T_lald (pc' := 30) dX12_newName_29 (by decide) rfl z1 z2 rfl ?_
        refine T_lload_n (i := 1) (pc' := 31) dX12_newName_30 rfl rfl rfl ?_
        refine T_lcmp (pc' := 32) dX12_newName_31 rfl ?_
        refine T_if_ne (pc' := 44) dX12_newName_32 (by decide) (pf := 35) rfl (fun c3 => ?_) (fun c3 => ?_)
        · skip
          replace H := H.2 c3
          refine T_iinc (L' := [(2, 66), (1, v1), (3, 0), (0, (wr32 (v3 + 1)))]) (pc' := 47) dX12_newName_44 rfl (by decide) rfl rfl ?_
          refine T_goto (pc' := 7) dX12_newName_47 (by decide) ?_
          exact T_wk (L' := [(2, 66), (1, v1), (3, 0), (0, (wr32 (v3 + 1)))]) (ih _ _ H hG) ⟨Or.inr rfl, Or.inr rfl, Or.inl rfl, Or.inr rfl, trivial⟩
        · skip
          replace H := H.1 c3
          refine T_aload_n (i := 0) (pc' := 36) dX12_newName_35 rfl rfl rfl ?_
          refine T_iconst (pc' := 37) dX12_newName_36 (by decide) rfl ?_
          refine T_aload_n (i := 0) (pc' := 38) dX12_newName_37 rfl rfl rfl ?_
          refine U_gf (v := (0, (M 66 27))) (k := 27) (kI := 27) (pc' := 41) dX12_newName_38 rfl cl12 (by decide) rfl (by decide) flX12_256 rfl rfl (by decide) rfl rfl ?_
          refine T_callV (av := [(0, 3), (0, (M 66 27))]) (st := []) (d2 := 1) (nc2 := 0) (ns2 := 0) (pc' := 44) dX12_newName_41 rfl mtX12_fail mvX12_fail mlX12_231 cl12 rfl rfl rfl (Nat.le_of_ble_eq_true rfl) (by decide) ⟨by decide, by decide⟩ rfl (pX12_fail (E := E) (h := h) (M := M) (v1 := 3) (v2 := (M 66 27)) hG) (kF (st2 := []) rfl (fun hG4 => ?_))
          obtain ⟨M5, eM5⟩ : ∃ m : Mem, m = (fmX12_fail M 3 (M 66 27)) := ⟨_, rfl⟩
          rw [← eM5] at hG4 ⊢
          replace H := H M5 eM5
          refine T_iinc (L' := [(2, 66), (1, v1), (3, 0), (0, (wr32 (v3 + 1)))]) (pc' := 47) dX12_newName_44 rfl (by decide) rfl rfl ?_
          refine T_goto (pc' := 7) dX12_newName_47 (by decide) ?_
          exact T_wk (L' := [(2, 66), (1, v1), (3, 0), (0, (wr32 (v3 + 1)))]) (ih _ _ H hG4) ⟨Or.inr rfl, Or.inr rfl, Or.inl rfl, Or.inr rfl, trivial⟩
set_option maxRecDepth 100000 in
set_option maxHeartbeats 2000000 in
theorem qX12_newName_52 {E : EV} {h : Int} {v1 : Int}  {K : Mem → Prop} {Q : Int → Mem → Prop} (hK : ∀ (M : Mem), K M → G h M → TG E miX12_newName 5 h (RI 1 Q) 98 [(2, 66), (1, v1), (3, 0), (3, 0)] [] M) : ∀ (k : Nat) (v3 : Int) (M : Mem), PX12_newName_52 v1 K Q k v3 M → G h M → TG E miX12_newName 5 h (RI 1 Q) 52 [(2, 66), (1, v1), (3, 0), (0, v3)] [] M := by
  intro k
  induction k with
  | zero =>
    intro v3 M H
    exact False.elim H
  | succ k ih =>
    intro v3 M H hG
    refine T_iload_n (i := 3) (pc' := 53) dX12_newName_52 rfl rfl rfl ?_
    refine T_aload_n (i := 0) (pc' := 54) dX12_newName_53 rfl rfl rfl ?_
    refine U_gr (q := 85) (k := 28) (kI := 28) (pc' := 57) dX12_newName_54 rfl cl12 (by decide) rfl (by decide) flX12_69 rfl rfl rfl (G_at hG 85 rfl) (by decide) rfl ?_
    refine T_iconst (pc' := 58) dX12_newName_57 (by decide) rfl ?_
    refine T_iald (pc' := 59) dX12_newName_58 (by decide) rfl (by decide) (by decide) rfl ?_
    refine T_icmp_ge (pc' := 98) dX12_newName_59 (by decide) (pf := 62) rfl (fun c1 => ?_) (fun c1 => ?_)
    · skip
      replace H := H.1 c1
      exact T_wk (L' := [(2, 66), (1, v1), (3, 0), (3, 0)]) (hK _ H hG) ⟨Or.inr rfl, Or.inr rfl, Or.inl rfl, Or.inl rfl, trivial⟩
    · skip
      replace H := H.2 c1
      refine T_aload_n (i := 0) (pc' := 63) dX12_newName_62 rfl rfl rfl ?_
      refine U_gf (v := (0, (M 66 5))) (k := 5) (kI := 5) (pc' := 66) dX12_newName_63 rfl cl12 (by decide) rfl (by decide) flX12_201 rfl rfl (by decide) rfl rfl ?_
      refine T_if_ne (pc' := 92) dX12_newName_66 (by decide) (pf := 69) rfl (fun c2 => ?_) (fun c2 => ?_)
      · skip
        replace H := H.2 c2
        refine T_iinc (L' := [(2, 66), (1, v1), (3, 0), (0, (wr32 (v3 + 1)))]) (pc' := 95) dX12_newName_92 rfl (by decide) rfl rfl ?_
        refine T_goto (pc' := 52) dX12_newName_95 (by decide) ?_
        exact T_wk (L' := [(2, 66), (1, v1), (3, 0), (0, (wr32 (v3 + 1)))]) (ih _ _ H hG) ⟨Or.inr rfl, Or.inr rfl, Or.inl rfl, Or.inr rfl, trivial⟩
      · skip
        replace H := H.1 c2
        refine T_aload_n (i := 0) (pc' := 70) dX12_newName_69 rfl rfl rfl ?_
        refine U_gr (q := 86) (k := 29) (kI := 29) (pc' := 73) dX12_newName_70 rfl cl12 (by decide) rfl (by decide) flX12_72 rfl rfl rfl (G_at hG 86 rfl) (by decide) rfl ?_
        refine T_bipush (pc' := 75) dX12_newName_73 rfl (by decide) rfl ?_
        refine T_iload_n (i := 3) (pc' := 76) dX12_newName_75 rfl rfl rfl ?_
        refine T_iadd (pc' := 77) dX12_newName_76 rfl ?_
        obtain ⟨z1, z2, H⟩ := H
        refine T_lald (pc' := 78) dX12_newName_77 (by decide) rfl z1 z2 rfl ?_
        refine T_lload_n (i := 1) (pc' := 79) dX12_newName_78 rfl rfl rfl ?_
        refine T_lcmp (pc' := 80) dX12_newName_79 rfl ?_
        refine T_if_ne (pc' := 92) dX12_newName_80 (by decide) (pf := 83) rfl (fun c3 => ?_) (fun c3 => ?_)
        · skip
          replace H := H.2 c3
          refine T_iinc (L' := [(2, 66), (1, v1), (3, 0), (0, (wr32 (v3 + 1)))]) (pc' := 95) dX12_newName_92 rfl (by decide) rfl rfl ?_
          refine T_goto (pc' := 52) dX12_newName_95 (by decide) ?_
          exact T_wk (L' := [(2, 66), (1, v1), (3, 0), (0, (wr32 (v3 + 1)))]) (ih _ _ H hG) ⟨Or.inr rfl, Or.inr rfl, Or.inl rfl, Or.inr rfl, trivial⟩
        · skip
          replace H := H.1 c3
          refine T_aload_n (i := 0) (pc' := 84) dX12_newName_83 rfl rfl rfl ?_
          refine T_iconst (pc' := 85) dX12_newName_84 (by decide) rfl ?_
          refine T_aload_n (i := 0) (pc' := 86) dX12_newName_85 rfl rfl rfl ?_
          refine U_gf (v := (0, (M 66 27))) (k := 27) (kI := 27) (pc' := 89) dX12_newName_86 rfl cl12 (by decide) rfl (by decide) flX12_256 rfl rfl (by decide) rfl rfl ?_
          refine T_callV (av := [(0, 3), (0, (M 66 27))]) (st := []) (d2 := 1) (nc2 := 0) (ns2 := 0) (pc' := 92) dX12_newName_89 rfl mtX12_fail mvX12_fail mlX12_231 cl12 rfl rfl rfl (Nat.le_of_ble_eq_true rfl) (by decide) ⟨by decide, by decide⟩ rfl (pX12_fail (E := E) (h := h) (M := M) (v1 := 3) (v2 := (M 66 27)) hG) (kF (st2 := []) rfl (fun hG4 => ?_))
          obtain ⟨M5, eM5⟩ : ∃ m : Mem, m = (fmX12_fail M 3 (M 66 27)) := ⟨_, rfl⟩
          rw [← eM5] at hG4 ⊢
          replace H := H M5 eM5
          refine T_iinc (L' := [(2, 66), (1, v1), (3, 0), (0, (wr32 (v3 + 1)))]) (pc' := 95) dX12_newName_92 rfl (by decide) rfl rfl ?_
          refine T_goto (pc' := 52) dX12_newName_95 (by decide) ?_
          exact T_wk (L' := [(2, 66), (1, v1), (3, 0), (0, (wr32 (v3 + 1)))]) (ih _ _ H hG4) ⟨Or.inr rfl, Or.inr rfl, Or.inl rfl, Or.inr rfl, trivial⟩
set_option maxRecDepth 100000 in
set_option maxHeartbeats 2000000 in
theorem pX12_newName {E : EV} {h : Int} {M : Mem}   {Q : Int → Mem → Prop} (H : PX12_newName  M Q) : C2 E miX12_newName 5 h [(2, 66)] M (RI 1 Q) := by
  refine C2_of (L := [(2, 66), (3, 0), (3, 0), (3, 0)]) (by decide +kernel) (Nat.le_of_ble_eq_true rfl) rfl (fun hG => ?_)
  refine T_aload_n (i := 0) (pc' := 1) dX12_newName_0 rfl rfl rfl ?_
  refine T_callV (av := []) (st := []) (d2 := 4) (nc2 := 0) (ns2 := 0) (pc' := 4) dX12_newName_1 rfl mtX12_name mvX12_name mlX12_263 cl12 rfl rfl rfl (Nat.le_of_ble_eq_true rfl) (by decide) ⟨by decide, by decide⟩ rfl (pX12_name (E := E) (h := h) (M := M) H hG) ?_
  rintro _ _ M2 ⟨rfl, hG3, a1, rfl, H⟩ _
  refine T_lstore_n (i := 1) (L' := [(2, 66), (1, a1), (3, 0), (3, 0)]) (pc' := 5) dX12_newName_4 rfl (by decide) rfl rfl ?_
  refine T_iconst (pc' := 6) dX12_newName_5 (by decide) rfl ?_
  refine T_istore_n (i := 3) (L' := [(2, 66), (1, a1), (3, 0), (0, 0)]) (pc' := 7) dX12_newName_6 rfl (by decide) rfl rfl ?_
  obtain ⟨k4, H⟩ := H
  refine T_wk (L' := [(2, 66), (1, a1), (3, 0), (0, 0)]) (qX12_newName_7 (v1 := a1) (fun M5 H hG6 => ?_) _ _ _ H hG3) ⟨Or.inr rfl, Or.inr rfl, Or.inl rfl, Or.inr rfl, trivial⟩
  refine T_iconst (pc' := 51) dX12_newName_50 (by decide) rfl ?_
  refine T_istore_n (i := 3) (L' := [(2, 66), (1, a1), (3, 0), (0, 0)]) (pc' := 52) dX12_newName_51 rfl (by decide) rfl rfl ?_
  obtain ⟨k7, H⟩ := H
  refine T_wk (L' := [(2, 66), (1, a1), (3, 0), (0, 0)]) (qX12_newName_52 (v1 := a1) (fun M8 H hG9 => ?_) _ _ _ H hG6) ⟨Or.inr rfl, Or.inr rfl, Or.inl rfl, Or.inr rfl, trivial⟩
  refine T_lload_n (i := 1) (pc' := 99) dX12_newName_98 rfl rfl rfl ?_
  exact T_lret dX12_newName_99 rfl ⟨rfl, hG9, _, rfl, H⟩
def PX12_cellTold  (M : Mem) (Q : Int → Mem → Prop) : Prop :=
  PX12_number 0 (wr32 ((M 66 35) - 1)) M (fun a1 M2 => PX12_number 0 (wr32 ((M2 66 36) - 1)) M2 (fun a4 M5 => Q (if (M5 66 5) = 0 then (wr32 ((wr32 ((M5 66 35) * a4)) + a1)) else 0) M5))
set_option maxRecDepth 100000 in
set_option maxHeartbeats 2000000 in
theorem pX12_cellTold {E : EV} {h : Int} {M : Mem}   {Q : Int → Mem → Prop} (H : PX12_cellTold  M Q) : C2 E miX12_cellTold 3 h [(2, 66)] M (RI 0 Q) := by
  refine C2_of (L := [(2, 66), (3, 0), (3, 0)]) (by decide +kernel) (Nat.le_of_ble_eq_true rfl) rfl (fun hG => ?_)
  refine T_aload_n (i := 0) (pc' := 1) dX12_cellTold_0 rfl rfl rfl ?_
  refine T_iconst (pc' := 2) dX12_cellTold_1 (by decide) rfl ?_
  refine T_aload_n (i := 0) (pc' := 3) dX12_cellTold_2 rfl rfl rfl ?_
  refine U_gf (v := (0, (M 66 35))) (k := 35) (kI := 35) (pc' := 6) dX12_cellTold_3 rfl cl12 (by decide) rfl (by decide) flX12_267 rfl rfl (by decide) rfl rfl ?_
  refine T_iconst (pc' := 7) dX12_cellTold_6 (by decide) rfl ?_
  refine T_isub (pc' := 8) dX12_cellTold_7 rfl ?_
  refine T_callV (av := [(0, 0), (0, (wr32 ((M 66 35) - 1)))]) (st := []) (d2 := 2) (nc2 := 0) (ns2 := 0) (pc' := 11) dX12_cellTold_8 rfl mtX12_number mvX12_number mlX12_248 cl12 rfl rfl rfl (Nat.le_of_ble_eq_true rfl) (by decide) ⟨by decide, by decide⟩ rfl (pX12_number (E := E) (h := h) (M := M) (v1 := 0) (v2 := (wr32 ((M 66 35) - 1))) H hG) ?_
  rintro _ _ M2 ⟨rfl, hG3, a1, rfl, H⟩ _
  refine T_istore_n (i := 1) (L' := [(2, 66), (0, a1), (3, 0)]) (pc' := 12) dX12_cellTold_11 rfl (by decide) rfl rfl ?_
  refine T_aload_n (i := 0) (pc' := 13) dX12_cellTold_12 rfl rfl rfl ?_
  refine T_iconst (pc' := 14) dX12_cellTold_13 (by decide) rfl ?_
  refine T_aload_n (i := 0) (pc' := 15) dX12_cellTold_14 rfl rfl rfl ?_
  refine U_gf (v := (0, (M2 66 36))) (k := 36) (kI := 36) (pc' := 18) dX12_cellTold_15 rfl cl12 (by decide) rfl (by decide) flX12_270 rfl rfl (by decide) rfl rfl ?_
  refine T_iconst (pc' := 19) dX12_cellTold_18 (by decide) rfl ?_
  refine T_isub (pc' := 20) dX12_cellTold_19 rfl ?_
  refine T_callV (av := [(0, 0), (0, (wr32 ((M2 66 36) - 1)))]) (st := []) (d2 := 2) (nc2 := 0) (ns2 := 0) (pc' := 23) dX12_cellTold_20 rfl mtX12_number mvX12_number mlX12_248 cl12 rfl rfl rfl (Nat.le_of_ble_eq_true rfl) (by decide) ⟨by decide, by decide⟩ rfl (pX12_number (E := E) (h := h) (M := M2) (v1 := 0) (v2 := (wr32 ((M2 66 36) - 1))) H hG3) ?_
  rintro _ _ M5 ⟨rfl, hG6, a4, rfl, H⟩ _
  refine T_istore_n (i := 2) (L' := [(2, 66), (0, a1), (0, a4)]) (pc' := 24) dX12_cellTold_23 rfl (by decide) rfl rfl ?_
  refine T_aload_n (i := 0) (pc' := 25) dX12_cellTold_24 rfl rfl rfl ?_
  refine U_gf (v := (0, (M5 66 5))) (k := 5) (kI := 5) (pc' := 28) dX12_cellTold_25 rfl cl12 (by decide) rfl (by decide) flX12_201 rfl rfl (by decide) rfl rfl ?_
  have HJ7 : T E miX12_cellTold 3 126 0 0 (fun r S M' => S = S0 ∧ G h M' ∧ RI 0 Q r M') 43 [(3, 0), (3, 0), (3, 0)] [(0, (if (M5 66 5) = 0 then (wr32 ((wr32 ((M5 66 35) * a4)) + a1)) else 0))] S0 M5 0 0 := by
    exact T_iret dX12_cellTold_43 rfl ⟨rfl, hG6, _, rfl, H⟩
  refine T_if_ne (pc' := 42) dX12_cellTold_28 (by decide) (pf := 31) rfl (fun c8 => ?_) (fun c8 => ?_)
  · skip
    refine T_iconst (pc' := 43) dX12_cellTold_42 (by decide) rfl ?_
    exact T_wk (L' := [(3, 0), (3, 0), (3, 0)]) (by have q := HJ7; try simp only [if_neg c8] at q ⊢; exact q) ⟨Or.inl rfl, Or.inl rfl, Or.inl rfl, trivial⟩
  · skip
    refine T_aload_n (i := 0) (pc' := 32) dX12_cellTold_31 rfl rfl rfl ?_
    refine U_gf (v := (0, (M5 66 35))) (k := 35) (kI := 35) (pc' := 35) dX12_cellTold_32 rfl cl12 (by decide) rfl (by decide) flX12_267 rfl rfl (by decide) rfl rfl ?_
    refine T_iload_n (i := 2) (pc' := 36) dX12_cellTold_35 rfl rfl rfl ?_
    refine T_imul (pc' := 37) dX12_cellTold_36 rfl ?_
    refine T_iload_n (i := 1) (pc' := 38) dX12_cellTold_37 rfl rfl rfl ?_
    refine T_iadd (pc' := 39) dX12_cellTold_38 rfl ?_
    refine T_goto (pc' := 43) dX12_cellTold_39 (by decide) ?_
    exact T_wk (L' := [(3, 0), (3, 0), (3, 0)]) (by have q := HJ7; try simp only [if_pos c8] at q ⊢; exact q) ⟨Or.inl rfl, Or.inl rfl, Or.inl rfl, trivial⟩
def PX12_wallTold (v1 : Int) (M : Mem) (Q : Int → Mem → Prop) : Prop :=
  (∃ j1 : Mem → Prop, (∀ (M2 : Mem), j1 M2 → PX12_cellTold M2 (fun a4 M5 => (∃ j7 : Mem → Prop, (∀ (M8 : Mem), j7 M8 → (((M8 66 5) = 0 → 0 ≤ a4 ∧ a4 < 108 ∧ (∀ M12 : Mem, M12 = (mset M8 87 a4 1) → (∀ M14 : Mem, M14 = (mset M12 66 37 (wr32 ((M12 66 37) + 1))) → Q 0 M14))) ∧ (¬ ((M8 66 5) = 0) → Q 0 M8))) ∧ (((M5 66 5) = 0 → (nX12_doorAt M5 a4) ∧ (∀ a18 : Int, a18 = (fX12_doorAt M5 a4) → ((a18 = (-1) → (nX12_isSomebody M5 a4) ∧ (∀ a24 : Int, a24 = (fX12_isSomebody M5 a4) → ((a24 = 0 → j7 M5) ∧ (¬ (a24 = 0) → (∀ M27 : Mem, M27 = (fmX12_fail M5 2 (M5 66 9)) → j7 M27))))) ∧ (¬ (a18 = (-1)) → (∀ M21 : Mem, M21 = (fmX12_fail M5 2 (M5 66 9)) → j7 M21))))) ∧ (¬ ((M5 66 5) = 0) → j7 M5))))) ∧ (((M 66 5) = 0 → (((M 66 37) = 15 → (∀ M31 : Mem, M31 = (fmX12_fail M 5 v1) → j1 M31)) ∧ (¬ ((M 66 37) = 15) → j1 M))) ∧ (¬ ((M 66 5) = 0) → j1 M)))
set_option maxRecDepth 100000 in
set_option maxHeartbeats 2000000 in
theorem pX12_wallTold {E : EV} {h : Int} {M : Mem} {v1 : Int}  {Q : Int → Mem → Prop} (H : PX12_wallTold v1 M Q) : C2 E miX12_wallTold 4 h [(2, 66), (0, v1)] M (RV Q) := by
  refine C2_of (L := [(2, 66), (0, v1), (3, 0)]) (by decide +kernel) (Nat.le_of_ble_eq_true rfl) rfl (fun hG => ?_)
  refine T_aload_n (i := 0) (pc' := 1) dX12_wallTold_0 rfl rfl rfl ?_
  refine U_gf (v := (0, (M 66 5))) (k := 5) (kI := 5) (pc' := 4) dX12_wallTold_1 rfl cl12 (by decide) rfl (by decide) flX12_201 rfl rfl (by decide) rfl rfl ?_
  obtain ⟨j1, hj1, H⟩ := H
  have qj1 : ∀ (M2 : Mem), j1 M2 → G h M2 → TG E miX12_wallTold 4 h (RV Q) 22 [(2, 66), (3, 0), (3, 0)] [] M2 := by
    intro M2 H hG3
    replace H := hj1 _ H
    refine T_aload_n (i := 0) (pc' := 23) dX12_wallTold_22 rfl rfl rfl ?_
    refine T_callV (av := []) (st := []) (d2 := 3) (nc2 := 0) (ns2 := 0) (pc' := 26) dX12_wallTold_23 rfl mtX12_cellTold mvX12_cellTold mlX12_276 cl12 rfl rfl rfl (Nat.le_of_ble_eq_true rfl) (by decide) ⟨by decide, by decide⟩ rfl (pX12_cellTold (E := E) (h := h) (M := M2) H hG3) ?_
    rintro _ _ M5 ⟨rfl, hG6, a4, rfl, H⟩ _
    refine T_istore_n (i := 2) (L' := [(2, 66), (3, 0), (0, a4)]) (pc' := 27) dX12_wallTold_26 rfl (by decide) rfl rfl ?_
    refine T_aload_n (i := 0) (pc' := 28) dX12_wallTold_27 rfl rfl rfl ?_
    refine U_gf (v := (0, (M5 66 5))) (k := 5) (kI := 5) (pc' := 31) dX12_wallTold_28 rfl cl12 (by decide) rfl (by decide) flX12_201 rfl rfl (by decide) rfl rfl ?_
    obtain ⟨j7, hj7, H⟩ := H
    have qj7 : ∀ (M8 : Mem), j7 M8 → G h M8 → TG E miX12_wallTold 4 h (RV Q) 60 [(2, 66), (3, 0), (0, a4)] [] M8 := by
      intro M8 H hG9
      replace H := hj7 _ H
      refine T_aload_n (i := 0) (pc' := 61) dX12_wallTold_60 rfl rfl rfl ?_
      refine U_gf (v := (0, (M8 66 5))) (k := 5) (kI := 5) (pc' := 64) dX12_wallTold_61 rfl cl12 (by decide) rfl (by decide) flX12_201 rfl rfl (by decide) rfl rfl ?_
      refine T_if_eq (pc' := 68) dX12_wallTold_64 (by decide) (pf := 67) rfl (fun c10 => ?_) (fun c10 => ?_)
      · skip
        replace H := H.1 c10
        refine T_aload_n (i := 0) (pc' := 69) dX12_wallTold_68 rfl rfl rfl ?_
        refine U_gr (q := 87) (k := 30) (kI := 30) (pc' := 72) dX12_wallTold_69 rfl cl12 (by decide) rfl (by decide) flX12_76 rfl rfl rfl (G_at hG9 87 rfl) (by decide) rfl ?_
        refine T_iload_n (i := 2) (pc' := 73) dX12_wallTold_72 rfl rfl rfl ?_
        refine T_iconst (pc' := 74) dX12_wallTold_73 (by decide) rfl ?_
        obtain ⟨z1, z2, H⟩ := H
        refine T_zast (pc' := 75) dX12_wallTold_74 (by decide) rfl z1 z2 (by decide) rfl ?_
        have hG11 := (G_arr (x := 87) (i := a4) (y := 1) rfl (by decide) hG9)
        obtain ⟨M12, eM12⟩ : ∃ m : Mem, m = (mset M8 87 a4 1) := ⟨_, rfl⟩
        rw [← eM12] at hG11 ⊢
        replace H := H M12 eM12
        refine T_aload_n (i := 0) (pc' := 76) dX12_wallTold_75 rfl rfl rfl ?_
        refine T_dup (pc' := 77) dX12_wallTold_76 (Nat.ne_of_beq_eq_false rfl) rfl ?_
        refine U_gf (v := (0, (M12 66 37))) (k := 37) (kI := 37) (pc' := 80) dX12_wallTold_77 rfl cl12 (by decide) rfl (by decide) flX12_273 rfl rfl (by decide) rfl rfl ?_
        refine T_iconst (pc' := 81) dX12_wallTold_80 (by decide) rfl ?_
        refine T_iadd (pc' := 82) dX12_wallTold_81 rfl ?_
        refine U_pf (y := (wr32 ((M12 66 37) + 1))) (k := 37) (kI := 37) (pc' := 85) dX12_wallTold_82 rfl cl12 (by decide) rfl (by decide) flX12_273 rfl rfl rfl rfl rfl (by decide) (fun z => z) rfl ?_
        have hG13 := (G_fld (x := 66) (i := 37) (y := (wr32 ((M12 66 37) + 1))) rfl (by decide) (by decide) (by decide) hG11)
        obtain ⟨M14, eM14⟩ : ∃ m : Mem, m = (mset M12 66 37 (wr32 ((M12 66 37) + 1))) := ⟨_, rfl⟩
        rw [← eM14] at hG13 ⊢
        replace H := H M14 eM14
        exact T_vret dX12_wallTold_85 rfl ⟨rfl, hG13, rfl, H⟩
      · skip
        replace H := H.2 c10
        exact T_vret dX12_wallTold_67 rfl ⟨rfl, hG9, rfl, H⟩
    refine T_if_ne (pc' := 60) dX12_wallTold_31 (by decide) (pf := 34) rfl (fun c15 => ?_) (fun c15 => ?_)
    · skip
      replace H := H.2 c15
      exact T_wk (L' := [(2, 66), (3, 0), (0, a4)]) (qj7 _ H hG6) ⟨Or.inr rfl, Or.inl rfl, Or.inr rfl, trivial⟩
    · skip
      replace H := H.1 c15
      refine T_aload_n (i := 0) (pc' := 35) dX12_wallTold_34 rfl rfl rfl ?_
      refine T_iload_n (i := 2) (pc' := 36) dX12_wallTold_35 rfl rfl rfl ?_
      obtain ⟨z16, H⟩ := H
      refine T_callV (av := [(0, a4)]) (st := []) (d2 := 1) (nc2 := 0) (ns2 := 0) (pc' := 39) dX12_wallTold_36 rfl mtX12_doorAt mvX12_doorAt mlX12_279 cl12 rfl rfl rfl (Nat.le_of_ble_eq_true rfl) (by decide) ⟨by decide, by decide⟩ rfl (pX12_doorAt (E := E) (h := h) (M := M5) (v1 := a4) z16 hG6) (kF (st2 := [(0, (fX12_doorAt M5 a4))]) rfl (fun hG17 => ?_))
      obtain ⟨a18, ea18⟩ : ∃ z : Int, z = (fX12_doorAt M5 a4) := ⟨_, rfl⟩
      rw [← ea18]
      replace H := H a18 ea18
      refine T_iconst (pc' := 40) dX12_wallTold_39 (by decide) rfl ?_
      refine T_icmp_ne (pc' := 51) dX12_wallTold_40 (by decide) (pf := 43) rfl (fun c19 => ?_) (fun c19 => ?_)
      · skip
        replace H := H.2 c19
        refine T_aload_n (i := 0) (pc' := 52) dX12_wallTold_51 rfl rfl rfl ?_
        refine T_iconst (pc' := 53) dX12_wallTold_52 (by decide) rfl ?_
        refine T_aload_n (i := 0) (pc' := 54) dX12_wallTold_53 rfl rfl rfl ?_
        refine U_gf (v := (0, (M5 66 9))) (k := 9) (kI := 9) (pc' := 57) dX12_wallTold_54 rfl cl12 (by decide) rfl (by decide) flX12_241 rfl rfl (by decide) rfl rfl ?_
        refine T_callV (av := [(0, 2), (0, (M5 66 9))]) (st := []) (d2 := 1) (nc2 := 0) (ns2 := 0) (pc' := 60) dX12_wallTold_57 rfl mtX12_fail mvX12_fail mlX12_231 cl12 rfl rfl rfl (Nat.le_of_ble_eq_true rfl) (by decide) ⟨by decide, by decide⟩ rfl (pX12_fail (E := E) (h := h) (M := M5) (v1 := 2) (v2 := (M5 66 9)) hG6) (kF (st2 := []) rfl (fun hG20 => ?_))
        obtain ⟨M21, eM21⟩ : ∃ m : Mem, m = (fmX12_fail M5 2 (M5 66 9)) := ⟨_, rfl⟩
        rw [← eM21] at hG20 ⊢
        replace H := H M21 eM21
        exact T_wk (L' := [(2, 66), (3, 0), (0, a4)]) (qj7 _ H hG20) ⟨Or.inr rfl, Or.inl rfl, Or.inr rfl, trivial⟩
      · skip
        replace H := H.1 c19
        refine T_aload_n (i := 0) (pc' := 44) dX12_wallTold_43 rfl rfl rfl ?_
        refine T_iload_n (i := 2) (pc' := 45) dX12_wallTold_44 rfl rfl rfl ?_
        obtain ⟨z22, H⟩ := H
        refine T_callV (av := [(0, a4)]) (st := []) (d2 := 1) (nc2 := 0) (ns2 := 0) (pc' := 48) dX12_wallTold_45 rfl mtX12_isSomebody mvX12_isSomebody mlX12_283 cl12 rfl rfl rfl (Nat.le_of_ble_eq_true rfl) (by decide) ⟨by decide, by decide⟩ rfl (pX12_isSomebody (E := E) (h := h) (M := M5) (v1 := a4) z22 hG6) (kF (st2 := [(0, (fX12_isSomebody M5 a4))]) rfl (fun hG23 => ?_))
        obtain ⟨a24, ea24⟩ : ∃ z : Int, z = (fX12_isSomebody M5 a4) := ⟨_, rfl⟩
        rw [← ea24]
        replace H := H a24 ea24
        refine T_if_eq (pc' := 60) dX12_wallTold_48 (by decide) (pf := 51) rfl (fun c25 => ?_) (fun c25 => ?_)
        · skip
          replace H := H.1 c25
          exact T_wk (L' := [(2, 66), (3, 0), (0, a4)]) (qj7 _ H hG6) ⟨Or.inr rfl, Or.inl rfl, Or.inr rfl, trivial⟩
        · skip
          replace H := H.2 c25
          refine T_aload_n (i := 0) (pc' := 52) dX12_wallTold_51 rfl rfl rfl ?_
          refine T_iconst (pc' := 53) dX12_wallTold_52 (by decide) rfl ?_
          refine T_aload_n (i := 0) (pc' := 54) dX12_wallTold_53 rfl rfl rfl ?_
          refine U_gf (v := (0, (M5 66 9))) (k := 9) (kI := 9) (pc' := 57) dX12_wallTold_54 rfl cl12 (by decide) rfl (by decide) flX12_241 rfl rfl (by decide) rfl rfl ?_
          refine T_callV (av := [(0, 2), (0, (M5 66 9))]) (st := []) (d2 := 1) (nc2 := 0) (ns2 := 0) (pc' := 60) dX12_wallTold_57 rfl mtX12_fail mvX12_fail mlX12_231 cl12 rfl rfl rfl (Nat.le_of_ble_eq_true rfl) (by decide) ⟨by decide, by decide⟩ rfl (pX12_fail (E := E) (h := h) (M := M5) (v1 := 2) (v2 := (M5 66 9)) hG6) (kF (st2 := []) rfl (fun hG26 => ?_))
          obtain ⟨M27, eM27⟩ : ∃ m : Mem, m = (fmX12_fail M5 2 (M5 66 9)) := ⟨_, rfl⟩
          rw [← eM27] at hG26 ⊢
          replace H := H M27 eM27
          exact T_wk (L' := [(2, 66), (3, 0), (0, a4)]) (qj7 _ H hG26) ⟨Or.inr rfl, Or.inl rfl, Or.inr rfl, trivial⟩
  refine T_if_ne (pc' := 22) dX12_wallTold_4 (by decide) (pf := 7) rfl (fun c28 => ?_) (fun c28 => ?_)
  · skip
    replace H := H.2 c28
    exact T_wk (L' := [(2, 66), (3, 0), (3, 0)]) (qj1 _ H hG) ⟨Or.inr rfl, Or.inl rfl, Or.inl rfl, trivial⟩
  · skip
    replace H := H.1 c28
    refine T_aload_n (i := 0) (pc' := 8) dX12_wallTold_7 rfl rfl rfl ?_
    refine U_gf (v := (0, (M 66 37))) (k := 37) (kI := 37) (pc' := 11) dX12_wallTold_8 rfl cl12 (by decide) rfl (by decide) flX12_273 rfl rfl (by decide) rfl rfl ?_
    refine T_bipush (pc' := 13) dX12_wallTold_11 rfl (by decide) rfl ?_
    refine T_icmp_ne (pc' := 22) dX12_wallTold_13 (by decide) (pf := 16) rfl (fun c29 => ?_) (fun c29 => ?_)
    · skip
      replace H := H.2 c29
      exact T_wk (L' := [(2, 66), (3, 0), (3, 0)]) (qj1 _ H hG) ⟨Or.inr rfl, Or.inl rfl, Or.inl rfl, trivial⟩
    · skip
      replace H := H.1 c29
      refine T_aload_n (i := 0) (pc' := 17) dX12_wallTold_16 rfl rfl rfl ?_
      refine T_iconst (pc' := 18) dX12_wallTold_17 (by decide) rfl ?_
      refine T_iload_n (i := 1) (pc' := 19) dX12_wallTold_18 rfl rfl rfl ?_
      refine T_callV (av := [(0, 5), (0, v1)]) (st := []) (d2 := 1) (nc2 := 0) (ns2 := 0) (pc' := 22) dX12_wallTold_19 rfl mtX12_fail mvX12_fail mlX12_231 cl12 rfl rfl rfl (Nat.le_of_ble_eq_true rfl) (by decide) ⟨by decide, by decide⟩ rfl (pX12_fail (E := E) (h := h) (M := M) (v1 := 5) (v2 := v1) hG) (kF (st2 := []) rfl (fun hG30 => ?_))
      obtain ⟨M31, eM31⟩ : ∃ m : Mem, m = (fmX12_fail M 5 v1) := ⟨_, rfl⟩
      rw [← eM31] at hG30 ⊢
      replace H := H M31 eM31
      exact T_wk (L' := [(2, 66), (3, 0), (3, 0)]) (qj1 _ H hG30) ⟨Or.inr rfl, Or.inl rfl, Or.inl rfl, trivial⟩
def PX12_doorTold (v1 : Int) (M : Mem) (Q : Int → Mem → Prop) : Prop :=
  (nX12_isFull M 2) ∧ (∀ M3 : Mem, M3 = (fmX12_isFull M 2 6 v1) → (((fX12_isFull M 2 6 v1) = 0 → PX12_cellTold M3 (fun a5 M6 => (∃ j8 : Mem → Prop, (∀ (M9 : Mem), j8 M9 → (((M9 66 5) = 0 → 0 ≤ (M9 85 2) ∧ (M9 85 2) < 12 ∧ (∀ M13 : Mem, M13 = (mset M9 90 (M9 85 2) a5) → (∀ M15 : Mem, M15 = (mset M13 85 2 (wr32 ((M13 85 2) + 1))) → Q 0 M15))) ∧ (¬ ((M9 66 5) = 0) → Q 0 M9))) ∧ (((M6 66 5) = 0 → 0 ≤ a5 ∧ a5 < 108 ∧ (((M6 87 a5) = 0 → (nX12_doorAt M6 a5) ∧ (∀ a23 : Int, a23 = (fX12_doorAt M6 a5) → ((a23 = (-1) → j8 M6) ∧ (¬ (a23 = (-1)) → (∀ M26 : Mem, M26 = (fmX12_fail M6 2 (M6 66 9)) → j8 M26))))) ∧ (¬ ((M6 87 a5) = 0) → (∀ M20 : Mem, M20 = (fmX12_fail M6 2 (M6 66 9)) → j8 M20)))) ∧ (¬ ((M6 66 5) = 0) → j8 M6))))) ∧ (¬ ((fX12_isFull M 2 6 v1) = 0) → Q 0 M3)))
set_option maxRecDepth 100000 in
set_option maxHeartbeats 2000000 in
theorem pX12_doorTold {E : EV} {h : Int} {M : Mem} {v1 : Int}  {Q : Int → Mem → Prop} (H : PX12_doorTold v1 M Q) : C2 E miX12_doorTold 4 h [(2, 66), (0, v1)] M (RV Q) := by
  refine C2_of (L := [(2, 66), (0, v1), (3, 0)]) (by decide +kernel) (Nat.le_of_ble_eq_true rfl) rfl (fun hG => ?_)
  refine T_aload_n (i := 0) (pc' := 1) dX12_doorTold_0 rfl rfl rfl ?_
  refine T_iconst (pc' := 2) dX12_doorTold_1 (by decide) rfl ?_
  refine T_bipush (pc' := 4) dX12_doorTold_2 rfl (by decide) rfl ?_
  refine T_iload_n (i := 1) (pc' := 5) dX12_doorTold_4 rfl rfl rfl ?_
  obtain ⟨z1, H⟩ := H
  refine T_callV (av := [(0, 2), (0, 6), (0, v1)]) (st := []) (d2 := 2) (nc2 := 0) (ns2 := 0) (pc' := 8) dX12_doorTold_5 rfl mtX12_isFull mvX12_isFull mlX12_286 cl12 rfl rfl rfl (Nat.le_of_ble_eq_true rfl) (by decide) ⟨by decide, by decide⟩ rfl (pX12_isFull (E := E) (h := h) (M := M) (v1 := 2) (v2 := 6) (v3 := v1) z1 hG) (kF (st2 := [(0, (fX12_isFull M 2 6 v1))]) rfl (fun hG2 => ?_))
  obtain ⟨M3, eM3⟩ : ∃ m : Mem, m = (fmX12_isFull M 2 6 v1) := ⟨_, rfl⟩
  rw [← eM3] at hG2 ⊢
  replace H := H M3 eM3
  refine T_if_eq (pc' := 12) dX12_doorTold_8 (by decide) (pf := 11) rfl (fun c4 => ?_) (fun c4 => ?_)
  · skip
    replace H := H.1 c4
    refine T_aload_n (i := 0) (pc' := 13) dX12_doorTold_12 rfl rfl rfl ?_
    refine T_callV (av := []) (st := []) (d2 := 3) (nc2 := 0) (ns2 := 0) (pc' := 16) dX12_doorTold_13 rfl mtX12_cellTold mvX12_cellTold mlX12_276 cl12 rfl rfl rfl (Nat.le_of_ble_eq_true rfl) (by decide) ⟨by decide, by decide⟩ rfl (pX12_cellTold (E := E) (h := h) (M := M3) H hG2) ?_
    rintro _ _ M6 ⟨rfl, hG7, a5, rfl, H⟩ _
    refine T_istore_n (i := 2) (L' := [(2, 66), (0, v1), (0, a5)]) (pc' := 17) dX12_doorTold_16 rfl (by decide) rfl rfl ?_
    refine T_aload_n (i := 0) (pc' := 18) dX12_doorTold_17 rfl rfl rfl ?_
    refine U_gf (v := (0, (M6 66 5))) (k := 5) (kI := 5) (pc' := 21) dX12_doorTold_18 rfl cl12 (by decide) rfl (by decide) flX12_201 rfl rfl (by decide) rfl rfl ?_
    obtain ⟨j8, hj8, H⟩ := H
    have qj8 : ∀ (M9 : Mem), j8 M9 → G h M9 → TG E miX12_doorTold 4 h (RV Q) 51 [(2, 66), (3, 0), (0, a5)] [] M9 := by
      intro M9 H hG10
      replace H := hj8 _ H
      refine T_aload_n (i := 0) (pc' := 52) dX12_doorTold_51 rfl rfl rfl ?_
      refine U_gf (v := (0, (M9 66 5))) (k := 5) (kI := 5) (pc' := 55) dX12_doorTold_52 rfl cl12 (by decide) rfl (by decide) flX12_201 rfl rfl (by decide) rfl rfl ?_
      refine T_if_eq (pc' := 59) dX12_doorTold_55 (by decide) (pf := 58) rfl (fun c11 => ?_) (fun c11 => ?_)
      · skip
        replace H := H.1 c11
        refine T_aload_n (i := 0) (pc' := 60) dX12_doorTold_59 rfl rfl rfl ?_
        refine U_gr (q := 90) (k := 33) (kI := 33) (pc' := 63) dX12_doorTold_60 rfl cl12 (by decide) rfl (by decide) flX12_86 rfl rfl rfl (G_at hG10 90 rfl) (by decide) rfl ?_
        refine T_aload_n (i := 0) (pc' := 64) dX12_doorTold_63 rfl rfl rfl ?_
        refine U_gr (q := 85) (k := 28) (kI := 28) (pc' := 67) dX12_doorTold_64 rfl cl12 (by decide) rfl (by decide) flX12_69 rfl rfl rfl (G_at hG10 85 rfl) (by decide) rfl ?_
        refine T_iconst (pc' := 68) dX12_doorTold_67 (by decide) rfl ?_
        refine T_iald (pc' := 69) dX12_doorTold_68 (by decide) rfl (by decide) (by decide) rfl ?_
        refine T_iload_n (i := 2) (pc' := 70) dX12_doorTold_69 rfl rfl rfl ?_
        obtain ⟨z1, z2, H⟩ := H
        refine T_iast (pc' := 71) dX12_doorTold_70 (by decide) rfl z1 z2 rfl ?_
        have hG12 := (G_arr (x := 90) (i := (M9 85 2)) (y := a5) rfl (by decide) hG10)
        obtain ⟨M13, eM13⟩ : ∃ m : Mem, m = (mset M9 90 (M9 85 2) a5) := ⟨_, rfl⟩
        rw [← eM13] at hG12 ⊢
        replace H := H M13 eM13
        refine T_aload_n (i := 0) (pc' := 72) dX12_doorTold_71 rfl rfl rfl ?_
        refine U_gr (q := 85) (k := 28) (kI := 28) (pc' := 75) dX12_doorTold_72 rfl cl12 (by decide) rfl (by decide) flX12_69 rfl rfl rfl (G_at hG12 85 rfl) (by decide) rfl ?_
        refine T_iconst (pc' := 76) dX12_doorTold_75 (by decide) rfl ?_
        refine T_dup2 (pc' := 77) dX12_doorTold_76 (Nat.ne_of_beq_eq_false rfl) (Nat.ne_of_beq_eq_false rfl) rfl ?_
        refine T_iald (pc' := 78) dX12_doorTold_77 (by decide) rfl (by decide) (by decide) rfl ?_
        refine T_iconst (pc' := 79) dX12_doorTold_78 (by decide) rfl ?_
        refine T_iadd (pc' := 80) dX12_doorTold_79 rfl ?_
        refine T_iast (pc' := 81) dX12_doorTold_80 (by decide) rfl (by decide) (by decide) rfl ?_
        have hG14 := (G_arr (x := 85) (i := 2) (y := (wr32 ((M13 85 2) + 1))) rfl (by decide) hG12)
        obtain ⟨M15, eM15⟩ : ∃ m : Mem, m = (mset M13 85 2 (wr32 ((M13 85 2) + 1))) := ⟨_, rfl⟩
        rw [← eM15] at hG14 ⊢
        replace H := H M15 eM15
        exact T_vret dX12_doorTold_81 rfl ⟨rfl, hG14, rfl, H⟩
      · skip
        replace H := H.2 c11
        exact T_vret dX12_doorTold_58 rfl ⟨rfl, hG10, rfl, H⟩
    refine T_if_ne (pc' := 51) dX12_doorTold_21 (by decide) (pf := 24) rfl (fun c16 => ?_) (fun c16 => ?_)
    · skip
      replace H := H.2 c16
      exact T_wk (L' := [(2, 66), (3, 0), (0, a5)]) (qj8 _ H hG7) ⟨Or.inr rfl, Or.inl rfl, Or.inr rfl, trivial⟩
    · skip
      replace H := H.1 c16
      refine T_aload_n (i := 0) (pc' := 25) dX12_doorTold_24 rfl rfl rfl ?_
      refine U_gr (q := 87) (k := 30) (kI := 30) (pc' := 28) dX12_doorTold_25 rfl cl12 (by decide) rfl (by decide) flX12_76 rfl rfl rfl (G_at hG7 87 rfl) (by decide) rfl ?_
      refine T_iload_n (i := 2) (pc' := 29) dX12_doorTold_28 rfl rfl rfl ?_
      obtain ⟨z1, z2, H⟩ := H
      refine T_zald (pc' := 30) dX12_doorTold_29 (by decide) rfl z1 z2 rfl ?_
      refine T_zrng (x := 87) (i := a5) (n := 108) rfl (by decide) z1 (fun zb17 => ?_)
      refine T_if_ne (pc' := 42) dX12_doorTold_30 (by decide) (pf := 33) rfl (fun c18 => ?_) (fun c18 => ?_)
      · skip
        replace H := H.2 c18
        refine T_aload_n (i := 0) (pc' := 43) dX12_doorTold_42 rfl rfl rfl ?_
        refine T_iconst (pc' := 44) dX12_doorTold_43 (by decide) rfl ?_
        refine T_aload_n (i := 0) (pc' := 45) dX12_doorTold_44 rfl rfl rfl ?_
        refine U_gf (v := (0, (M6 66 9))) (k := 9) (kI := 9) (pc' := 48) dX12_doorTold_45 rfl cl12 (by decide) rfl (by decide) flX12_241 rfl rfl (by decide) rfl rfl ?_
        refine T_callV (av := [(0, 2), (0, (M6 66 9))]) (st := []) (d2 := 1) (nc2 := 0) (ns2 := 0) (pc' := 51) dX12_doorTold_48 rfl mtX12_fail mvX12_fail mlX12_231 cl12 rfl rfl rfl (Nat.le_of_ble_eq_true rfl) (by decide) ⟨by decide, by decide⟩ rfl (pX12_fail (E := E) (h := h) (M := M6) (v1 := 2) (v2 := (M6 66 9)) hG7) (kF (st2 := []) rfl (fun hG19 => ?_))
        obtain ⟨M20, eM20⟩ : ∃ m : Mem, m = (fmX12_fail M6 2 (M6 66 9)) := ⟨_, rfl⟩
        rw [← eM20] at hG19 ⊢
        replace H := H M20 eM20
        exact T_wk (L' := [(2, 66), (3, 0), (0, a5)]) (qj8 _ H hG19) ⟨Or.inr rfl, Or.inl rfl, Or.inr rfl, trivial⟩
      · skip
        replace H := H.1 c18
        refine T_aload_n (i := 0) (pc' := 34) dX12_doorTold_33 rfl rfl rfl ?_
        refine T_iload_n (i := 2) (pc' := 35) dX12_doorTold_34 rfl rfl rfl ?_
        obtain ⟨z21, H⟩ := H
        refine T_callV (av := [(0, a5)]) (st := []) (d2 := 1) (nc2 := 0) (ns2 := 0) (pc' := 38) dX12_doorTold_35 rfl mtX12_doorAt mvX12_doorAt mlX12_279 cl12 rfl rfl rfl (Nat.le_of_ble_eq_true rfl) (by decide) ⟨by decide, by decide⟩ rfl (pX12_doorAt (E := E) (h := h) (M := M6) (v1 := a5) z21 hG7) (kF (st2 := [(0, (fX12_doorAt M6 a5))]) rfl (fun hG22 => ?_))
        obtain ⟨a23, ea23⟩ : ∃ z : Int, z = (fX12_doorAt M6 a5) := ⟨_, rfl⟩
        rw [← ea23]
        replace H := H a23 ea23
        refine T_iconst (pc' := 39) dX12_doorTold_38 (by decide) rfl ?_
        refine T_icmp_eq (pc' := 51) dX12_doorTold_39 (by decide) (pf := 42) rfl (fun c24 => ?_) (fun c24 => ?_)
        · skip
          replace H := H.1 c24
          exact T_wk (L' := [(2, 66), (3, 0), (0, a5)]) (qj8 _ H hG7) ⟨Or.inr rfl, Or.inl rfl, Or.inr rfl, trivial⟩
        · skip
          replace H := H.2 c24
          refine T_aload_n (i := 0) (pc' := 43) dX12_doorTold_42 rfl rfl rfl ?_
          refine T_iconst (pc' := 44) dX12_doorTold_43 (by decide) rfl ?_
          refine T_aload_n (i := 0) (pc' := 45) dX12_doorTold_44 rfl rfl rfl ?_
          refine U_gf (v := (0, (M6 66 9))) (k := 9) (kI := 9) (pc' := 48) dX12_doorTold_45 rfl cl12 (by decide) rfl (by decide) flX12_241 rfl rfl (by decide) rfl rfl ?_
          refine T_callV (av := [(0, 2), (0, (M6 66 9))]) (st := []) (d2 := 1) (nc2 := 0) (ns2 := 0) (pc' := 51) dX12_doorTold_48 rfl mtX12_fail mvX12_fail mlX12_231 cl12 rfl rfl rfl (Nat.le_of_ble_eq_true rfl) (by decide) ⟨by decide, by decide⟩ rfl (pX12_fail (E := E) (h := h) (M := M6) (v1 := 2) (v2 := (M6 66 9)) hG7) (kF (st2 := []) rfl (fun hG25 => ?_))
          obtain ⟨M26, eM26⟩ : ∃ m : Mem, m = (fmX12_fail M6 2 (M6 66 9)) := ⟨_, rfl⟩
          rw [← eM26] at hG25 ⊢
          replace H := H M26 eM26
          exact T_wk (L' := [(2, 66), (3, 0), (0, a5)]) (qj8 _ H hG25) ⟨Or.inr rfl, Or.inl rfl, Or.inr rfl, trivial⟩
  · skip
    replace H := H.2 c4
    exact T_vret dX12_doorTold_11 rfl ⟨rfl, hG2, rfl, H⟩
def PX12_stepsTold_48 (v1 : Int) (v2 : Int) (K : Int → Mem → Prop) (Q : Int → Mem → Prop) : Nat → Int → Mem → Prop
  | 0 => fun _ _ => False
  | k + 1 => fun v3 M => (((M 66 3) ≤ (M 66 2) → K v3 M) ∧ (¬ ((M 66 3) ≤ (M 66 2)) → 0 ≤ (M 66 2) ∧ (M 66 2) < 1600 ∧ (((fX12_isLetter (M 67 (M 66 2))) = 0 → K v3 M) ∧ (¬ ((fX12_isLetter (M 67 (M 66 2))) = 0) → ((v3 = 12 → (∀ M6 : Mem, M6 = (fmX12_fail M 1 v2) → Q 0 M6)) ∧ (¬ (v3 = 12) → 0 ≤ (M 66 2) ∧ (M 66 2) < 1600 ∧ (((fX12_stepOf (M 67 (M 66 2))) = (-1) → (∀ M15 : Mem, M15 = (fmX12_fail M 1 v2) → Q 0 M15)) ∧ (¬ ((fX12_stepOf (M 67 (M 66 2))) = (-1)) → 0 ≤ (M 66 2) ∧ (M 66 2) < 1600 ∧ 0 ≤ (wr32 (v1 + v3)) ∧ (wr32 (v1 + v3)) < 324 ∧ (∀ M11 : Mem, M11 = (mset M 88 (wr32 (v1 + v3)) (fX12_stepOf (M 67 (M 66 2)))) → (∀ M13 : Mem, M13 = (mset M11 66 2 (wr32 ((M11 66 2) + 1))) → PX12_stepsTold_48 v1 v2 K Q k (wr32 (v3 + 1)) M13))))))))))
def PX12_stepsTold (v1 : Int) (M : Mem) (Q : Int → Mem → Prop) : Prop :=
  (((M 66 5) = 0 → PX12_look M (fun a2 M3 => (((fX12_isLetter a2) = 0 → (∀ M8 : Mem, M8 = (fmX12_fail M3 1 (M3 66 2)) → Q 0 M8)) ∧ (¬ ((fX12_isLetter a2) = 0) → (((M3 66 2) = (M3 66 4) → (∀ M17 : Mem, M17 = (fmX12_fail M3 1 (M3 66 2)) → Q 0 M17)) ∧ (¬ ((M3 66 2) = (M3 66 4)) → (∃ k10 : Nat, PX12_stepsTold_48 v1 (M3 66 2) (fun u11 M12 => (∀ M15 : Mem, M15 = (mset M12 66 4 (M12 66 2)) → Q u11 M15)) Q k10 0 M3))))))) ∧ (¬ ((M 66 5) = 0) → Q 0 M))
set_option maxRecDepth 100000 in
set_option maxHeartbeats 2000000 in
theorem qX12_stepsTold_48 {E : EV} {h : Int} {v1 : Int} {v2 : Int}  {K : Int → Mem → Prop} {Q : Int → Mem → Prop} (hK : ∀ (v3 : Int) (M : Mem), K v3 M → G h M → TG E miX12_stepsTold 2 h (RI 0 Q) 140 [(2, 66), (3, 0), (3, 0), (0, v3)] [] M) : ∀ (k : Nat) (v3 : Int) (M : Mem), PX12_stepsTold_48 v1 v2 K Q k v3 M → G h M → TG E miX12_stepsTold 2 h (RI 0 Q) 48 [(2, 66), (0, v1), (0, v2), (0, v3)] [] M := by
  intro k
  induction k with
  | zero =>
    intro v3 M H
    exact False.elim H
  | succ k ih =>
    intro v3 M H hG
    refine T_aload_n (i := 0) (pc' := 49) dX12_stepsTold_48 rfl rfl rfl ?_
    refine U_gf (v := (0, (M 66 2))) (k := 2) (kI := 2) (pc' := 52) dX12_stepsTold_49 rfl cl12 (by decide) rfl (by decide) flX12_207 rfl rfl (by decide) rfl rfl ?_
    refine T_aload_n (i := 0) (pc' := 53) dX12_stepsTold_52 rfl rfl rfl ?_
    refine U_gf (v := (0, (M 66 3))) (k := 3) (kI := 3) (pc' := 56) dX12_stepsTold_53 rfl cl12 (by decide) rfl (by decide) flX12_210 rfl rfl (by decide) rfl rfl ?_
    refine T_icmp_ge (pc' := 140) dX12_stepsTold_56 (by decide) (pf := 59) rfl (fun c1 => ?_) (fun c1 => ?_)
    · skip
      replace H := H.1 c1
      exact T_wk (L' := [(2, 66), (3, 0), (3, 0), (0, v3)]) (hK _ _ H hG) ⟨Or.inr rfl, Or.inl rfl, Or.inl rfl, Or.inr rfl, trivial⟩
    · skip
      replace H := H.2 c1
      refine T_aload_n (i := 0) (pc' := 60) dX12_stepsTold_59 rfl rfl rfl ?_
      refine U_gr (q := 67) (k := 0) (kI := 0) (pc' := 63) dX12_stepsTold_60 rfl cl12 (by decide) rfl (by decide) flX12_7 rfl rfl rfl (G_at hG 67 rfl) (by decide) rfl ?_
      refine T_aload_n (i := 0) (pc' := 64) dX12_stepsTold_63 rfl rfl rfl ?_
      refine U_gf (v := (0, (M 66 2))) (k := 2) (kI := 2) (pc' := 67) dX12_stepsTold_64 rfl cl12 (by decide) rfl (by decide) flX12_207 rfl rfl (by decide) rfl rfl ?_
      obtain ⟨z1, z2, H⟩ := H
      refine T_iald (pc' := 68) dX12_stepsTold_67 (by decide) rfl z1 z2 rfl ?_
      refine T_callS (av := [(0, (M 67 (M 66 2)))]) (st := []) (d2 := 1) (nc2 := 0) (ns2 := 0) (pc' := 71) dX12_stepsTold_68 rfl mtX12_isLetter mvX12_isLetter mlX12_217 rfl rfl (Nat.le_of_ble_eq_true rfl) (by decide) ⟨by decide, by decide⟩ rfl (pX12_isLetter (E := E) (h := h) (M := M) (v0 := (M 67 (M 66 2))) hG) (kF (st2 := [(0, (fX12_isLetter (M 67 (M 66 2))))]) rfl (fun hG2 => ?_))
      refine T_if_eq (pc' := 140) dX12_stepsTold_71 (by decide) (pf := 74) rfl (fun c3 => ?_) (fun c3 => ?_)
      · skip
        replace H := H.1 c3
        exact T_wk (L' := [(2, 66), (3, 0), (3, 0), (0, v3)]) (hK _ _ H hG) ⟨Or.inr rfl, Or.inl rfl, Or.inl rfl, Or.inr rfl, trivial⟩
      · skip
        replace H := H.2 c3
        refine T_iload_n (i := 3) (pc' := 75) dX12_stepsTold_74 rfl rfl rfl ?_
        refine T_bipush (pc' := 77) dX12_stepsTold_75 rfl (by decide) rfl ?_
        refine T_icmp_eq (pc' := 96) dX12_stepsTold_77 (by decide) (pf := 80) rfl (fun c4 => ?_) (fun c4 => ?_)
        · skip
          replace H := H.1 c4
          refine T_aload_n (i := 0) (pc' := 97) dX12_stepsTold_96 rfl rfl rfl ?_
          refine T_iconst (pc' := 98) dX12_stepsTold_97 (by decide) rfl ?_
          refine T_iload_n (i := 2) (pc' := 99) dX12_stepsTold_98 rfl rfl rfl ?_
          refine T_callV (av := [(0, 1), (0, v2)]) (st := []) (d2 := 1) (nc2 := 0) (ns2 := 0) (pc' := 102) dX12_stepsTold_99 rfl mtX12_fail mvX12_fail mlX12_231 cl12 rfl rfl rfl (Nat.le_of_ble_eq_true rfl) (by decide) ⟨by decide, by decide⟩ rfl (pX12_fail (E := E) (h := h) (M := M) (v1 := 1) (v2 := v2) hG) (kF (st2 := []) rfl (fun hG5 => ?_))
          obtain ⟨M6, eM6⟩ : ∃ m : Mem, m = (fmX12_fail M 1 v2) := ⟨_, rfl⟩
          rw [← eM6] at hG5 ⊢
          replace H := H M6 eM6
          refine T_iconst (pc' := 103) dX12_stepsTold_102 (by decide) rfl ?_
          exact T_iret dX12_stepsTold_103 rfl ⟨rfl, hG5, _, rfl, H⟩
        · skip
          replace H := H.2 c4
          refine T_aload_n (i := 0) (pc' := 81) dX12_stepsTold_80 rfl rfl rfl ?_
          refine U_gr (q := 67) (k := 0) (kI := 0) (pc' := 84) dX12_stepsTold_81 rfl cl12 (by decide) rfl (by decide) flX12_7 rfl rfl rfl (G_at hG 67 rfl) (by decide) rfl ?_
          refine T_aload_n (i := 0) (pc' := 85) dX12_stepsTold_84 rfl rfl rfl ?_
          refine U_gf (v := (0, (M 66 2))) (k := 2) (kI := 2) (pc' := 88) dX12_stepsTold_85 rfl cl12 (by decide) rfl (by decide) flX12_207 rfl rfl (by decide) rfl rfl ?_
          obtain ⟨z1, z2, H⟩ := H
          refine T_iald (pc' := 89) dX12_stepsTold_88 (by decide) rfl z1 z2 rfl ?_
          refine T_callS (av := [(0, (M 67 (M 66 2)))]) (st := []) (d2 := 1) (nc2 := 0) (ns2 := 0) (pc' := 92) dX12_stepsTold_89 rfl mtX12_stepOf mvX12_stepOf mlX12_290 rfl rfl (Nat.le_of_ble_eq_true rfl) (by decide) ⟨by decide, by decide⟩ rfl (pX12_stepOf (E := E) (h := h) (M := M) (v0 := (M 67 (M 66 2))) hG) (kF (st2 := [(0, (fX12_stepOf (M 67 (M 66 2))))]) rfl (fun hG7 => ?_))
          refine T_iconst (pc' := 93) dX12_stepsTold_92 (by decide) rfl ?_
          refine T_icmp_ne (pc' := 104) dX12_stepsTold_93 (by decide) (pf := 96) rfl (fun c8 => ?_) (fun c8 => ?_)
          · skip
            replace H := H.2 c8
            refine T_aload_n (i := 0) (pc' := 105) dX12_stepsTold_104 rfl rfl rfl ?_
            refine U_gr (q := 88) (k := 31) (kI := 31) (pc' := 108) dX12_stepsTold_105 rfl cl12 (by decide) rfl (by decide) flX12_80 rfl rfl rfl (G_at hG 88 rfl) (by decide) rfl ?_
            refine T_iload_n (i := 1) (pc' := 109) dX12_stepsTold_108 rfl rfl rfl ?_
            refine T_iload_n (i := 3) (pc' := 110) dX12_stepsTold_109 rfl rfl rfl ?_
            refine T_iadd (pc' := 111) dX12_stepsTold_110 rfl ?_
            refine T_aload_n (i := 0) (pc' := 112) dX12_stepsTold_111 rfl rfl rfl ?_
            refine U_gr (q := 67) (k := 0) (kI := 0) (pc' := 115) dX12_stepsTold_112 rfl cl12 (by decide) rfl (by decide) flX12_7 rfl rfl rfl (G_at hG 67 rfl) (by decide) rfl ?_
            refine T_aload_n (i := 0) (pc' := 116) dX12_stepsTold_115 rfl rfl rfl ?_
            refine U_gf (v := (0, (M 66 2))) (k := 2) (kI := 2) (pc' := 119) dX12_stepsTold_116 rfl cl12 (by decide) rfl (by decide) flX12_207 rfl rfl (by decide) rfl rfl ?_
            obtain ⟨z1, z2, H⟩ := H
            refine T_iald (pc' := 120) dX12_stepsTold_119 (by decide) rfl z1 z2 rfl ?_
            refine T_callS (av := [(0, (M 67 (M 66 2)))]) (st := [(0, (wr32 (v1 + v3))), (2, 88)]) (d2 := 1) (nc2 := 0) (ns2 := 0) (pc' := 123) dX12_stepsTold_120 rfl mtX12_stepOf mvX12_stepOf mlX12_290 rfl rfl (Nat.le_of_ble_eq_true rfl) (by decide) ⟨by decide, by decide⟩ rfl (pX12_stepOf (E := E) (h := h) (M := M) (v0 := (M 67 (M 66 2))) hG) (kF (st2 := [(0, (fX12_stepOf (M 67 (M 66 2)))), (0, (wr32 (v1 + v3))), (2, 88)]) rfl (fun hG9 => ?_))
            obtain ⟨z1, z2, H⟩ := H
            refine T_iast (pc' := 124) dX12_stepsTold_123 (by decide) rfl z1 z2 rfl ?_
            have hG10 := (G_arr (x := 88) (i := (wr32 (v1 + v3))) (y := (fX12_stepOf (M 67 (M 66 2)))) rfl (by decide) hG)
            obtain ⟨M11, eM11⟩ : ∃ m : Mem, m = (mset M 88 (wr32 (v1 + v3)) (fX12_stepOf (M 67 (M 66 2)))) := ⟨_, rfl⟩
            rw [← eM11] at hG10 ⊢
            replace H := H M11 eM11
            refine T_iinc (L' := [(2, 66), (0, v1), (0, v2), (0, (wr32 (v3 + 1)))]) (pc' := 127) dX12_stepsTold_124 rfl (by decide) rfl rfl ?_
            refine T_aload_n (i := 0) (pc' := 128) dX12_stepsTold_127 rfl rfl rfl ?_
            refine T_dup (pc' := 129) dX12_stepsTold_128 (Nat.ne_of_beq_eq_false rfl) rfl ?_
            refine U_gf (v := (0, (M11 66 2))) (k := 2) (kI := 2) (pc' := 132) dX12_stepsTold_129 rfl cl12 (by decide) rfl (by decide) flX12_207 rfl rfl (by decide) rfl rfl ?_
            refine T_iconst (pc' := 133) dX12_stepsTold_132 (by decide) rfl ?_
            refine T_iadd (pc' := 134) dX12_stepsTold_133 rfl ?_
            refine U_pf (y := (wr32 ((M11 66 2) + 1))) (k := 2) (kI := 2) (pc' := 137) dX12_stepsTold_134 rfl cl12 (by decide) rfl (by decide) flX12_207 rfl rfl rfl rfl rfl (by decide) (fun z => z) rfl ?_
            have hG12 := (G_fld (x := 66) (i := 2) (y := (wr32 ((M11 66 2) + 1))) rfl (by decide) (by decide) (by decide) hG10)
            obtain ⟨M13, eM13⟩ : ∃ m : Mem, m = (mset M11 66 2 (wr32 ((M11 66 2) + 1))) := ⟨_, rfl⟩
            rw [← eM13] at hG12 ⊢
            replace H := H M13 eM13
            refine T_goto (pc' := 48) dX12_stepsTold_137 (by decide) ?_
            exact T_wk (L' := [(2, 66), (0, v1), (0, v2), (0, (wr32 (v3 + 1)))]) (ih _ _ H hG12) ⟨Or.inr rfl, Or.inr rfl, Or.inr rfl, Or.inr rfl, trivial⟩
          · skip
            replace H := H.1 c8
            refine T_aload_n (i := 0) (pc' := 97) dX12_stepsTold_96 rfl rfl rfl ?_
            refine T_iconst (pc' := 98) dX12_stepsTold_97 (by decide) rfl ?_
            refine T_iload_n (i := 2) (pc' := 99) dX12_stepsTold_98 rfl rfl rfl ?_
            refine T_callV (av := [(0, 1), (0, v2)]) (st := []) (d2 := 1) (nc2 := 0) (ns2 := 0) (pc' := 102) dX12_stepsTold_99 rfl mtX12_fail mvX12_fail mlX12_231 cl12 rfl rfl rfl (Nat.le_of_ble_eq_true rfl) (by decide) ⟨by decide, by decide⟩ rfl (pX12_fail (E := E) (h := h) (M := M) (v1 := 1) (v2 := v2) hG) (kF (st2 := []) rfl (fun hG14 => ?_))
            obtain ⟨M15, eM15⟩ : ∃ m : Mem, m = (fmX12_fail M 1 v2) := ⟨_, rfl⟩
            rw [← eM15] at hG14 ⊢
            replace H := H M15 eM15
            refine T_iconst (pc' := 103) dX12_stepsTold_102 (by decide) rfl ?_
            exact T_iret dX12_stepsTold_103 rfl ⟨rfl, hG14, _, rfl, H⟩
set_option maxRecDepth 100000 in
set_option maxHeartbeats 2000000 in
theorem pX12_stepsTold {E : EV} {h : Int} {M : Mem} {v1 : Int}  {Q : Int → Mem → Prop} (H : PX12_stepsTold v1 M Q) : C2 E miX12_stepsTold 2 h [(2, 66), (0, v1)] M (RI 0 Q) := by
  refine C2_of (L := [(2, 66), (0, v1), (3, 0), (3, 0)]) (by decide +kernel) (Nat.le_of_ble_eq_true rfl) rfl (fun hG => ?_)
  refine T_aload_n (i := 0) (pc' := 1) dX12_stepsTold_0 rfl rfl rfl ?_
  refine U_gf (v := (0, (M 66 5))) (k := 5) (kI := 5) (pc' := 4) dX12_stepsTold_1 rfl cl12 (by decide) rfl (by decide) flX12_201 rfl rfl (by decide) rfl rfl ?_
  refine T_if_eq (pc' := 9) dX12_stepsTold_4 (by decide) (pf := 7) rfl (fun c1 => ?_) (fun c1 => ?_)
  · skip
    replace H := H.1 c1
    refine T_aload_n (i := 0) (pc' := 10) dX12_stepsTold_9 rfl rfl rfl ?_
    refine T_callV (av := []) (st := []) (d2 := 1) (nc2 := 0) (ns2 := 0) (pc' := 13) dX12_stepsTold_10 rfl mtX12_look mvX12_look mlX12_213 cl12 rfl rfl rfl (Nat.le_of_ble_eq_true rfl) (by decide) ⟨by decide, by decide⟩ rfl (pX12_look (E := E) (h := h) (M := M) H hG) ?_
    rintro _ _ M3 ⟨rfl, hG4, a2, rfl, H⟩ _
    refine T_callS (av := [(0, a2)]) (st := []) (d2 := 1) (nc2 := 0) (ns2 := 0) (pc' := 16) dX12_stepsTold_13 rfl mtX12_isLetter mvX12_isLetter mlX12_217 rfl rfl (Nat.le_of_ble_eq_true rfl) (by decide) ⟨by decide, by decide⟩ rfl (pX12_isLetter (E := E) (h := h) (M := M3) (v0 := a2) hG4) (kF (st2 := [(0, (fX12_isLetter a2))]) rfl (fun hG5 => ?_))
    refine T_if_eq (pc' := 30) dX12_stepsTold_16 (by decide) (pf := 19) rfl (fun c6 => ?_) (fun c6 => ?_)
    · skip
      replace H := H.1 c6
      refine T_aload_n (i := 0) (pc' := 31) dX12_stepsTold_30 rfl rfl rfl ?_
      refine T_iconst (pc' := 32) dX12_stepsTold_31 (by decide) rfl ?_
      refine T_aload_n (i := 0) (pc' := 33) dX12_stepsTold_32 rfl rfl rfl ?_
      refine U_gf (v := (0, (M3 66 2))) (k := 2) (kI := 2) (pc' := 36) dX12_stepsTold_33 rfl cl12 (by decide) rfl (by decide) flX12_207 rfl rfl (by decide) rfl rfl ?_
      refine T_callV (av := [(0, 1), (0, (M3 66 2))]) (st := []) (d2 := 1) (nc2 := 0) (ns2 := 0) (pc' := 39) dX12_stepsTold_36 rfl mtX12_fail mvX12_fail mlX12_231 cl12 rfl rfl rfl (Nat.le_of_ble_eq_true rfl) (by decide) ⟨by decide, by decide⟩ rfl (pX12_fail (E := E) (h := h) (M := M3) (v1 := 1) (v2 := (M3 66 2)) hG4) (kF (st2 := []) rfl (fun hG7 => ?_))
      obtain ⟨M8, eM8⟩ : ∃ m : Mem, m = (fmX12_fail M3 1 (M3 66 2)) := ⟨_, rfl⟩
      rw [← eM8] at hG7 ⊢
      replace H := H M8 eM8
      refine T_iconst (pc' := 40) dX12_stepsTold_39 (by decide) rfl ?_
      exact T_iret dX12_stepsTold_40 rfl ⟨rfl, hG7, _, rfl, H⟩
    · skip
      replace H := H.2 c6
      refine T_aload_n (i := 0) (pc' := 20) dX12_stepsTold_19 rfl rfl rfl ?_
      refine U_gf (v := (0, (M3 66 2))) (k := 2) (kI := 2) (pc' := 23) dX12_stepsTold_20 rfl cl12 (by decide) rfl (by decide) flX12_207 rfl rfl (by decide) rfl rfl ?_
      refine T_aload_n (i := 0) (pc' := 24) dX12_stepsTold_23 rfl rfl rfl ?_
      refine U_gf (v := (0, (M3 66 4))) (k := 4) (kI := 4) (pc' := 27) dX12_stepsTold_24 rfl cl12 (by decide) rfl (by decide) flX12_221 rfl rfl (by decide) rfl rfl ?_
      refine T_icmp_ne (pc' := 41) dX12_stepsTold_27 (by decide) (pf := 30) rfl (fun c9 => ?_) (fun c9 => ?_)
      · skip
        replace H := H.2 c9
        refine T_aload_n (i := 0) (pc' := 42) dX12_stepsTold_41 rfl rfl rfl ?_
        refine U_gf (v := (0, (M3 66 2))) (k := 2) (kI := 2) (pc' := 45) dX12_stepsTold_42 rfl cl12 (by decide) rfl (by decide) flX12_207 rfl rfl (by decide) rfl rfl ?_
        refine T_istore_n (i := 2) (L' := [(2, 66), (0, v1), (0, (M3 66 2)), (3, 0)]) (pc' := 46) dX12_stepsTold_45 rfl (by decide) rfl rfl ?_
        refine T_iconst (pc' := 47) dX12_stepsTold_46 (by decide) rfl ?_
        refine T_istore_n (i := 3) (L' := [(2, 66), (0, v1), (0, (M3 66 2)), (0, 0)]) (pc' := 48) dX12_stepsTold_47 rfl (by decide) rfl rfl ?_
        obtain ⟨k10, H⟩ := H
        refine T_wk (L' := [(2, 66), (0, v1), (0, (M3 66 2)), (0, 0)]) (qX12_stepsTold_48 (v1 := v1) (v2 := (M3 66 2)) (fun u11 M12 H hG13 => ?_) _ _ _ H hG4) ⟨Or.inr rfl, Or.inr rfl, Or.inr rfl, Or.inr rfl, trivial⟩
        refine T_aload_n (i := 0) (pc' := 141) dX12_stepsTold_140 rfl rfl rfl ?_
        refine T_aload_n (i := 0) (pc' := 142) dX12_stepsTold_141 rfl rfl rfl ?_
        refine U_gf (v := (0, (M12 66 2))) (k := 2) (kI := 2) (pc' := 145) dX12_stepsTold_142 rfl cl12 (by decide) rfl (by decide) flX12_207 rfl rfl (by decide) rfl rfl ?_
        refine U_pf (y := (M12 66 2)) (k := 4) (kI := 4) (pc' := 148) dX12_stepsTold_145 rfl cl12 (by decide) rfl (by decide) flX12_221 rfl rfl rfl rfl rfl (by decide) (fun z => z) rfl ?_
        have hG14 := (G_fld (x := 66) (i := 4) (y := (M12 66 2)) rfl (by decide) (by decide) (by decide) hG13)
        obtain ⟨M15, eM15⟩ : ∃ m : Mem, m = (mset M12 66 4 (M12 66 2)) := ⟨_, rfl⟩
        rw [← eM15] at hG14 ⊢
        replace H := H M15 eM15
        refine T_iload_n (i := 3) (pc' := 149) dX12_stepsTold_148 rfl rfl rfl ?_
        exact T_iret dX12_stepsTold_149 rfl ⟨rfl, hG14, _, rfl, H⟩
      · skip
        replace H := H.1 c9
        refine T_aload_n (i := 0) (pc' := 31) dX12_stepsTold_30 rfl rfl rfl ?_
        refine T_iconst (pc' := 32) dX12_stepsTold_31 (by decide) rfl ?_
        refine T_aload_n (i := 0) (pc' := 33) dX12_stepsTold_32 rfl rfl rfl ?_
        refine U_gf (v := (0, (M3 66 2))) (k := 2) (kI := 2) (pc' := 36) dX12_stepsTold_33 rfl cl12 (by decide) rfl (by decide) flX12_207 rfl rfl (by decide) rfl rfl ?_
        refine T_callV (av := [(0, 1), (0, (M3 66 2))]) (st := []) (d2 := 1) (nc2 := 0) (ns2 := 0) (pc' := 39) dX12_stepsTold_36 rfl mtX12_fail mvX12_fail mlX12_231 cl12 rfl rfl rfl (Nat.le_of_ble_eq_true rfl) (by decide) ⟨by decide, by decide⟩ rfl (pX12_fail (E := E) (h := h) (M := M3) (v1 := 1) (v2 := (M3 66 2)) hG4) (kF (st2 := []) rfl (fun hG16 => ?_))
        obtain ⟨M17, eM17⟩ : ∃ m : Mem, m = (fmX12_fail M3 1 (M3 66 2)) := ⟨_, rfl⟩
        rw [← eM17] at hG16 ⊢
        replace H := H M17 eM17
        refine T_iconst (pc' := 40) dX12_stepsTold_39 (by decide) rfl ?_
        exact T_iret dX12_stepsTold_40 rfl ⟨rfl, hG16, _, rfl, H⟩
  · skip
    replace H := H.2 c1
    refine T_iconst (pc' := 8) dX12_stepsTold_7 (by decide) rfl ?_
    exact T_iret dX12_stepsTold_8 rfl ⟨rfl, hG, _, rfl, H⟩
def PX12_personTold (v1 : Int) (M : Mem) (Q : Int → Mem → Prop) : Prop :=
  (nX12_isFull M 0) ∧ (∀ M3 : Mem, M3 = (fmX12_isFull M 0 9 v1) → (((fX12_isFull M 0 9 v1) = 0 → PX12_newName M3 (fun a5 M6 => PX12_asks 72 2 M6 (fun _ M9 => PX12_cellTold M9 (fun a11 M12 => (∃ j14 : Mem → Prop, (∀ (M15 : Mem), j14 M15 → PX12_asks 73 4 M15 (fun _ M18 => PX12_signed 60 M18 (fun a20 M21 => PX12_asks 74 5 M21 (fun _ M24 => PX12_number 0 9 M24 (fun a26 M27 => PX12_asks 75 5 M27 (fun _ M30 => PX12_number 0 4 M30 (fun a32 M33 => PX12_asks 76 5 M33 (fun _ M36 => PX12_stepsTold (wr32 ((wr32 (18 * (M3 85 0))) + 6)) M36 (fun a38 M39 => PX12_takes 77 6 M39 (fun a41 M42 => (((M42 66 5) = 0 → 0 ≤ (M42 85 0) ∧ (M42 85 0) < 40 ∧ (∀ M47 : Mem, M47 = (mset M42 86 (M42 85 0) a5) → 0 ≤ (wr32 ((wr32 (18 * (M3 85 0))) + 0)) ∧ (wr32 ((wr32 (18 * (M3 85 0))) + 0)) < 324 ∧ (∀ M49 : Mem, M49 = (mset M47 88 (wr32 ((wr32 (18 * (M3 85 0))) + 0)) a11) → 0 ≤ (wr32 ((wr32 (18 * (M3 85 0))) + 1)) ∧ (wr32 ((wr32 (18 * (M3 85 0))) + 1)) < 324 ∧ (∀ M51 : Mem, M51 = (mset M49 88 (wr32 ((wr32 (18 * (M3 85 0))) + 1)) a20) → 0 ≤ (wr32 ((wr32 (18 * (M3 85 0))) + 2)) ∧ (wr32 ((wr32 (18 * (M3 85 0))) + 2)) < 324 ∧ (∀ M53 : Mem, M53 = (mset M51 88 (wr32 ((wr32 (18 * (M3 85 0))) + 2)) a26) → 0 ≤ (wr32 ((wr32 (18 * (M3 85 0))) + 3)) ∧ (wr32 ((wr32 (18 * (M3 85 0))) + 3)) < 324 ∧ (∀ M55 : Mem, M55 = (mset M53 88 (wr32 ((wr32 (18 * (M3 85 0))) + 3)) a32) → 0 ≤ (wr32 ((wr32 (18 * (M3 85 0))) + 4)) ∧ (wr32 ((wr32 (18 * (M3 85 0))) + 4)) < 324 ∧ (∀ M57 : Mem, M57 = (mset M55 88 (wr32 ((wr32 (18 * (M3 85 0))) + 4)) (if a41 = 0 then (0 : Int) else 1)) → 0 ≤ (wr32 ((wr32 (18 * (M3 85 0))) + 5)) ∧ (wr32 ((wr32 (18 * (M3 85 0))) + 5)) < 324 ∧ (∀ M59 : Mem, M59 = (mset M57 88 (wr32 ((wr32 (18 * (M3 85 0))) + 5)) a38) → (∀ M61 : Mem, M61 = (mset M59 85 0 (wr32 ((M59 85 0) + 1))) → Q 0 M61))))))))) ∧ (¬ ((M42 66 5) = 0) → Q 0 M42)))))))))))) ∧ (((M12 66 5) = 0 → 0 ≤ a11 ∧ a11 < 108 ∧ (((M12 87 a11) = 0 → j14 M12) ∧ (¬ ((M12 87 a11) = 0) → (∀ M67 : Mem, M67 = (fmX12_fail M12 2 (M12 66 9)) → j14 M67)))) ∧ (¬ ((M12 66 5) = 0) → j14 M12))))))) ∧ (¬ ((fX12_isFull M 0 9 v1) = 0) → Q 0 M3)))
set_option maxRecDepth 100000 in
set_option maxHeartbeats 2000000 in
theorem pX12_personTold {E : EV} {h : Int} {M : Mem} {v1 : Int}  {Q : Int → Mem → Prop} (H : PX12_personTold v1 M Q) : C2 E miX12_personTold 6 h [(2, 66), (0, v1)] M (RV Q) := by
  refine C2_of (L := [(2, 66), (0, v1), (3, 0), (3, 0), (3, 0), (3, 0), (3, 0), (3, 0), (3, 0), (3, 0), (3, 0)]) (by decide +kernel) (Nat.le_of_ble_eq_true rfl) rfl (fun hG => ?_)
  refine T_aload_n (i := 0) (pc' := 1) dX12_personTold_0 rfl rfl rfl ?_
  refine T_iconst (pc' := 2) dX12_personTold_1 (by decide) rfl ?_
  refine T_bipush (pc' := 4) dX12_personTold_2 rfl (by decide) rfl ?_
  refine T_iload_n (i := 1) (pc' := 5) dX12_personTold_4 rfl rfl rfl ?_
  obtain ⟨z1, H⟩ := H
  refine T_callV (av := [(0, 0), (0, 9), (0, v1)]) (st := []) (d2 := 2) (nc2 := 0) (ns2 := 0) (pc' := 8) dX12_personTold_5 rfl mtX12_isFull mvX12_isFull mlX12_286 cl12 rfl rfl rfl (Nat.le_of_ble_eq_true rfl) (by decide) ⟨by decide, by decide⟩ rfl (pX12_isFull (E := E) (h := h) (M := M) (v1 := 0) (v2 := 9) (v3 := v1) z1 hG) (kF (st2 := [(0, (fX12_isFull M 0 9 v1))]) rfl (fun hG2 => ?_))
  obtain ⟨M3, eM3⟩ : ∃ m : Mem, m = (fmX12_isFull M 0 9 v1) := ⟨_, rfl⟩
  rw [← eM3] at hG2 ⊢
  replace H := H M3 eM3
  refine T_if_eq (pc' := 12) dX12_personTold_8 (by decide) (pf := 11) rfl (fun c4 => ?_) (fun c4 => ?_)
  · skip
    replace H := H.1 c4
    refine T_bipush (pc' := 14) dX12_personTold_12 rfl (by decide) rfl ?_
    refine T_aload_n (i := 0) (pc' := 15) dX12_personTold_14 rfl rfl rfl ?_
    refine U_gr (q := 85) (k := 28) (kI := 28) (pc' := 18) dX12_personTold_15 rfl cl12 (by decide) rfl (by decide) flX12_69 rfl rfl rfl (G_at hG2 85 rfl) (by decide) rfl ?_
    refine T_iconst (pc' := 19) dX12_personTold_18 (by decide) rfl ?_
    refine T_iald (pc' := 20) dX12_personTold_19 (by decide) rfl (by decide) (by decide) rfl ?_
    refine T_imul (pc' := 21) dX12_personTold_20 rfl ?_
    refine T_istore_n (i := 2) (L' := [(2, 66), (0, v1), (0, (wr32 (18 * (M3 85 0)))), (3, 0), (3, 0), (3, 0), (3, 0), (3, 0), (3, 0), (3, 0), (3, 0)]) (pc' := 22) dX12_personTold_21 rfl (by decide) rfl rfl ?_
    refine T_aload_n (i := 0) (pc' := 23) dX12_personTold_22 rfl rfl rfl ?_
    refine T_callV (av := []) (st := []) (d2 := 5) (nc2 := 0) (ns2 := 0) (pc' := 26) dX12_personTold_23 rfl mtX12_newName mvX12_newName mlX12_293 cl12 rfl rfl rfl (Nat.le_of_ble_eq_true rfl) (by decide) ⟨by decide, by decide⟩ rfl (pX12_newName (E := E) (h := h) (M := M3) H hG2) ?_
    rintro _ _ M6 ⟨rfl, hG7, a5, rfl, H⟩ _
    refine T_lstore_n (i := 3) (L' := [(2, 66), (0, v1), (0, (wr32 (18 * (M3 85 0)))), (1, a5), (3, 0), (3, 0), (3, 0), (3, 0), (3, 0), (3, 0), (3, 0)]) (pc' := 27) dX12_personTold_26 rfl (by decide) rfl rfl ?_
    refine T_aload_n (i := 0) (pc' := 28) dX12_personTold_27 rfl rfl rfl ?_
    refine T_aload_n (i := 0) (pc' := 29) dX12_personTold_28 rfl rfl rfl ?_
    refine U_gr (q := 72) (k := 14) (kI := 14) (pc' := 32) dX12_personTold_29 rfl cl12 (by decide) rfl (by decide) flX12_30 rfl rfl rfl (G_at hG7 72 rfl) (by decide) rfl ?_
    refine T_callV (av := [(2, 72)]) (st := []) (d2 := 4) (nc2 := 0) (ns2 := 0) (pc' := 35) dX12_personTold_32 rfl mtX12_asks mvX12_asks mlX12_296 cl12 rfl rfl rfl (Nat.le_of_ble_eq_true rfl) (by decide) ⟨by decide, by decide⟩ rfl (pX12_asks (E := E) (h := h) (M := M6) (p1 := 72) (np1 := 2) (by decide) rfl (by decide) H hG7) ?_
    rintro _ _ M9 ⟨rfl, hG10, rfl, H⟩ _
    refine T_aload_n (i := 0) (pc' := 36) dX12_personTold_35 rfl rfl rfl ?_
    refine T_callV (av := []) (st := []) (d2 := 3) (nc2 := 0) (ns2 := 0) (pc' := 39) dX12_personTold_36 rfl mtX12_cellTold mvX12_cellTold mlX12_276 cl12 rfl rfl rfl (Nat.le_of_ble_eq_true rfl) (by decide) ⟨by decide, by decide⟩ rfl (pX12_cellTold (E := E) (h := h) (M := M9) H hG10) ?_
    rintro _ _ M12 ⟨rfl, hG13, a11, rfl, H⟩ _
    refine T_istore (i := 5) (L' := [(2, 66), (0, v1), (0, (wr32 (18 * (M3 85 0)))), (1, a5), (3, 0), (0, a11), (3, 0), (3, 0), (3, 0), (3, 0), (3, 0)]) (pc' := 41) dX12_personTold_39 (by decide) rfl rfl ?_
    refine T_aload_n (i := 0) (pc' := 42) dX12_personTold_41 rfl rfl rfl ?_
    refine U_gf (v := (0, (M12 66 5))) (k := 5) (kI := 5) (pc' := 45) dX12_personTold_42 rfl cl12 (by decide) rfl (by decide) flX12_201 rfl rfl (by decide) rfl rfl ?_
    obtain ⟨j14, hj14, H⟩ := H
    have qj14 : ∀ (M15 : Mem), j14 M15 → G h M15 → TG E miX12_personTold 6 h (RV Q) 67 [(2, 66), (3, 0), (0, (wr32 (18 * (M3 85 0)))), (1, a5), (3, 0), (0, a11), (3, 0), (3, 0), (3, 0), (3, 0), (3, 0)] [] M15 := by
      intro M15 H hG16
      replace H := hj14 _ H
      refine T_aload_n (i := 0) (pc' := 68) dX12_personTold_67 rfl rfl rfl ?_
      refine T_aload_n (i := 0) (pc' := 69) dX12_personTold_68 rfl rfl rfl ?_
      refine U_gr (q := 73) (k := 15) (kI := 15) (pc' := 72) dX12_personTold_69 rfl cl12 (by decide) rfl (by decide) flX12_33 rfl rfl rfl (G_at hG16 73 rfl) (by decide) rfl ?_
      refine T_callV (av := [(2, 73)]) (st := []) (d2 := 4) (nc2 := 0) (ns2 := 0) (pc' := 75) dX12_personTold_72 rfl mtX12_asks mvX12_asks mlX12_296 cl12 rfl rfl rfl (Nat.le_of_ble_eq_true rfl) (by decide) ⟨by decide, by decide⟩ rfl (pX12_asks (E := E) (h := h) (M := M15) (p1 := 73) (np1 := 4) (by decide) rfl (by decide) H hG16) ?_
      rintro _ _ M18 ⟨rfl, hG19, rfl, H⟩ _
      refine T_aload_n (i := 0) (pc' := 76) dX12_personTold_75 rfl rfl rfl ?_
      refine T_bipush (pc' := 78) dX12_personTold_76 rfl (by decide) rfl ?_
      refine T_callV (av := [(0, 60)]) (st := []) (d2 := 3) (nc2 := 0) (ns2 := 0) (pc' := 81) dX12_personTold_78 rfl mtX12_signed mvX12_signed mlX12_300 cl12 rfl rfl rfl (Nat.le_of_ble_eq_true rfl) (by decide) ⟨by decide, by decide⟩ rfl (pX12_signed (E := E) (h := h) (M := M18) (v1 := 60) H hG19) ?_
      rintro _ _ M21 ⟨rfl, hG22, a20, rfl, H⟩ _
      refine T_istore (i := 6) (L' := [(2, 66), (3, 0), (0, (wr32 (18 * (M3 85 0)))), (1, a5), (3, 0), (0, a11), (0, a20), (3, 0), (3, 0), (3, 0), (3, 0)]) (pc' := 83) dX12_personTold_81 (by decide) rfl rfl ?_
      refine T_aload_n (i := 0) (pc' := 84) dX12_personTold_83 rfl rfl rfl ?_
      refine T_aload_n (i := 0) (pc' := 85) dX12_personTold_84 rfl rfl rfl ?_
      refine U_gr (q := 74) (k := 16) (kI := 16) (pc' := 88) dX12_personTold_85 rfl cl12 (by decide) rfl (by decide) flX12_36 rfl rfl rfl (G_at hG22 74 rfl) (by decide) rfl ?_
      refine T_callV (av := [(2, 74)]) (st := []) (d2 := 4) (nc2 := 0) (ns2 := 0) (pc' := 91) dX12_personTold_88 rfl mtX12_asks mvX12_asks mlX12_296 cl12 rfl rfl rfl (Nat.le_of_ble_eq_true rfl) (by decide) ⟨by decide, by decide⟩ rfl (pX12_asks (E := E) (h := h) (M := M21) (p1 := 74) (np1 := 5) (by decide) rfl (by decide) H hG22) ?_
      rintro _ _ M24 ⟨rfl, hG25, rfl, H⟩ _
      refine T_aload_n (i := 0) (pc' := 92) dX12_personTold_91 rfl rfl rfl ?_
      refine T_iconst (pc' := 93) dX12_personTold_92 (by decide) rfl ?_
      refine T_bipush (pc' := 95) dX12_personTold_93 rfl (by decide) rfl ?_
      refine T_callV (av := [(0, 0), (0, 9)]) (st := []) (d2 := 2) (nc2 := 0) (ns2 := 0) (pc' := 98) dX12_personTold_95 rfl mtX12_number mvX12_number mlX12_248 cl12 rfl rfl rfl (Nat.le_of_ble_eq_true rfl) (by decide) ⟨by decide, by decide⟩ rfl (pX12_number (E := E) (h := h) (M := M24) (v1 := 0) (v2 := 9) H hG25) ?_
      rintro _ _ M27 ⟨rfl, hG28, a26, rfl, H⟩ _
      refine T_istore (i := 7) (L' := [(2, 66), (3, 0), (0, (wr32 (18 * (M3 85 0)))), (1, a5), (3, 0), (0, a11), (0, a20), (0, a26), (3, 0), (3, 0), (3, 0)]) (pc' := 100) dX12_personTold_98 (by decide) rfl rfl ?_
      refine T_aload_n (i := 0) (pc' := 101) dX12_personTold_100 rfl rfl rfl ?_
      refine T_aload_n (i := 0) (pc' := 102) dX12_personTold_101 rfl rfl rfl ?_
      refine U_gr (q := 75) (k := 17) (kI := 17) (pc' := 105) dX12_personTold_102 rfl cl12 (by decide) rfl (by decide) flX12_39 rfl rfl rfl (G_at hG28 75 rfl) (by decide) rfl ?_
      refine T_callV (av := [(2, 75)]) (st := []) (d2 := 4) (nc2 := 0) (ns2 := 0) (pc' := 108) dX12_personTold_105 rfl mtX12_asks mvX12_asks mlX12_296 cl12 rfl rfl rfl (Nat.le_of_ble_eq_true rfl) (by decide) ⟨by decide, by decide⟩ rfl (pX12_asks (E := E) (h := h) (M := M27) (p1 := 75) (np1 := 5) (by decide) rfl (by decide) H hG28) ?_
      rintro _ _ M30 ⟨rfl, hG31, rfl, H⟩ _
      refine T_aload_n (i := 0) (pc' := 109) dX12_personTold_108 rfl rfl rfl ?_
      refine T_iconst (pc' := 110) dX12_personTold_109 (by decide) rfl ?_
      refine T_iconst (pc' := 111) dX12_personTold_110 (by decide) rfl ?_
      refine T_callV (av := [(0, 0), (0, 4)]) (st := []) (d2 := 2) (nc2 := 0) (ns2 := 0) (pc' := 114) dX12_personTold_111 rfl mtX12_number mvX12_number mlX12_248 cl12 rfl rfl rfl (Nat.le_of_ble_eq_true rfl) (by decide) ⟨by decide, by decide⟩ rfl (pX12_number (E := E) (h := h) (M := M30) (v1 := 0) (v2 := 4) H hG31) ?_
      rintro _ _ M33 ⟨rfl, hG34, a32, rfl, H⟩ _
      refine T_istore (i := 8) (L' := [(2, 66), (3, 0), (0, (wr32 (18 * (M3 85 0)))), (1, a5), (3, 0), (0, a11), (0, a20), (0, a26), (0, a32), (3, 0), (3, 0)]) (pc' := 116) dX12_personTold_114 (by decide) rfl rfl ?_
      refine T_aload_n (i := 0) (pc' := 117) dX12_personTold_116 rfl rfl rfl ?_
      refine T_aload_n (i := 0) (pc' := 118) dX12_personTold_117 rfl rfl rfl ?_
      refine U_gr (q := 76) (k := 18) (kI := 18) (pc' := 121) dX12_personTold_118 rfl cl12 (by decide) rfl (by decide) flX12_42 rfl rfl rfl (G_at hG34 76 rfl) (by decide) rfl ?_
      refine T_callV (av := [(2, 76)]) (st := []) (d2 := 4) (nc2 := 0) (ns2 := 0) (pc' := 124) dX12_personTold_121 rfl mtX12_asks mvX12_asks mlX12_296 cl12 rfl rfl rfl (Nat.le_of_ble_eq_true rfl) (by decide) ⟨by decide, by decide⟩ rfl (pX12_asks (E := E) (h := h) (M := M33) (p1 := 76) (np1 := 5) (by decide) rfl (by decide) H hG34) ?_
      rintro _ _ M36 ⟨rfl, hG37, rfl, H⟩ _
      refine T_aload_n (i := 0) (pc' := 125) dX12_personTold_124 rfl rfl rfl ?_
      refine T_iload_n (i := 2) (pc' := 126) dX12_personTold_125 rfl rfl rfl ?_
      refine T_bipush (pc' := 128) dX12_personTold_126 rfl (by decide) rfl ?_
      refine T_iadd (pc' := 129) dX12_personTold_128 rfl ?_
      refine T_callV (av := [(0, (wr32 ((wr32 (18 * (M3 85 0))) + 6)))]) (st := []) (d2 := 2) (nc2 := 0) (ns2 := 0) (pc' := 132) dX12_personTold_129 rfl mtX12_stepsTold mvX12_stepsTold mlX12_303 cl12 rfl rfl rfl (Nat.le_of_ble_eq_true rfl) (by decide) ⟨by decide, by decide⟩ rfl (pX12_stepsTold (E := E) (h := h) (M := M36) (v1 := (wr32 ((wr32 (18 * (M3 85 0))) + 6))) H hG37) ?_
      rintro _ _ M39 ⟨rfl, hG40, a38, rfl, H⟩ _
      refine T_istore (i := 9) (L' := [(2, 66), (3, 0), (0, (wr32 (18 * (M3 85 0)))), (1, a5), (3, 0), (0, a11), (0, a20), (0, a26), (0, a32), (0, a38), (3, 0)]) (pc' := 134) dX12_personTold_132 (by decide) rfl rfl ?_
      refine T_aload_n (i := 0) (pc' := 135) dX12_personTold_134 rfl rfl rfl ?_
      refine T_aload_n (i := 0) (pc' := 136) dX12_personTold_135 rfl rfl rfl ?_
      refine U_gr (q := 77) (k := 19) (kI := 19) (pc' := 139) dX12_personTold_136 rfl cl12 (by decide) rfl (by decide) flX12_45 rfl rfl rfl (G_at hG40 77 rfl) (by decide) rfl ?_
      refine T_callV (av := [(2, 77)]) (st := []) (d2 := 3) (nc2 := 0) (ns2 := 0) (pc' := 142) dX12_personTold_139 rfl mtX12_takes mvX12_takes mlX12_228 cl12 rfl rfl rfl (Nat.le_of_ble_eq_true rfl) (by decide) ⟨by decide, by decide⟩ rfl (pX12_takes (E := E) (h := h) (M := M39) (p1 := 77) (np1 := 6) (by decide) rfl (by decide) H hG40) ?_
      rintro _ _ M42 ⟨rfl, hG43, a41, rfl, H⟩ _
      have HJ44 : T E miX12_personTold 6 126 0 0 (fun r S M' => S = S0 ∧ G h M' ∧ RV Q r M') 150 [(2, 66), (3, 0), (0, (wr32 (18 * (M3 85 0)))), (1, a5), (3, 0), (0, a11), (0, a20), (0, a26), (0, a32), (0, a38), (3, 0)] [(0, (if a41 = 0 then (0 : Int) else 1))] S0 M42 0 0 := by
        refine T_istore (i := 10) (L' := [(2, 66), (3, 0), (0, (wr32 (18 * (M3 85 0)))), (1, a5), (3, 0), (0, a11), (0, a20), (0, a26), (0, a32), (0, a38), (0, (if a41 = 0 then (0 : Int) else 1))]) (pc' := 152) dX12_personTold_150 (by decide) rfl rfl ?_
        refine T_aload_n (i := 0) (pc' := 153) dX12_personTold_152 rfl rfl rfl ?_
        refine U_gf (v := (0, (M42 66 5))) (k := 5) (kI := 5) (pc' := 156) dX12_personTold_153 rfl cl12 (by decide) rfl (by decide) flX12_201 rfl rfl (by decide) rfl rfl ?_
        refine T_if_eq (pc' := 160) dX12_personTold_156 (by decide) (pf := 159) rfl (fun c45 => ?_) (fun c45 => ?_)
        · skip
          replace H := H.1 c45
          refine T_aload_n (i := 0) (pc' := 161) dX12_personTold_160 rfl rfl rfl ?_
          refine U_gr (q := 86) (k := 29) (kI := 29) (pc' := 164) dX12_personTold_161 rfl cl12 (by decide) rfl (by decide) flX12_72 rfl rfl rfl (G_at hG43 86 rfl) (by decide) rfl ?_
          refine T_aload_n (i := 0) (pc' := 165) dX12_personTold_164 rfl rfl rfl ?_
          refine U_gr (q := 85) (k := 28) (kI := 28) (pc' := 168) dX12_personTold_165 rfl cl12 (by decide) rfl (by decide) flX12_69 rfl rfl rfl (G_at hG43 85 rfl) (by decide) rfl ?_
          refine T_iconst (pc' := 169) dX12_personTold_168 (by decide) rfl ?_
          refine T_iald (pc' := 170) dX12_personTold_169 (by decide) rfl (by decide) (by decide) rfl ?_
          refine T_lload_n (i := 3) (pc' := 171) dX12_personTold_170 rfl rfl rfl ?_
          obtain ⟨z1, z2, H⟩ := H
          refine T_last (pc' := 172) dX12_personTold_171 (by decide) rfl z1 z2 rfl ?_
          have hG46 := (G_arr (x := 86) (i := (M42 85 0)) (y := a5) rfl (by decide) hG43)
          obtain ⟨M47, eM47⟩ : ∃ m : Mem, m = (mset M42 86 (M42 85 0) a5) := ⟨_, rfl⟩
          rw [← eM47] at hG46 ⊢
          replace H := H M47 eM47
          refine T_aload_n (i := 0) (pc' := 173) dX12_personTold_172 rfl rfl rfl ?_
          refine U_gr (q := 88) (k := 31) (kI := 31) (pc' := 176) dX12_personTold_173 rfl cl12 (by decide) rfl (by decide) flX12_80 rfl rfl rfl (G_at hG46 88 rfl) (by decide) rfl ?_
          refine T_iload_n (i := 2) (pc' := 177) dX12_personTold_176 rfl rfl rfl ?_
          refine T_iconst (pc' := 178) dX12_personTold_177 (by decide) rfl ?_
          refine T_iadd (pc' := 179) dX12_personTold_178 rfl ?_
          refine T_iload (i := 5) (pc' := 181) dX12_personTold_179 rfl rfl ?_
          obtain ⟨z1, z2, H⟩ := H
          refine T_iast (pc' := 182) dX12_personTold_181 (by decide) rfl z1 z2 rfl ?_
          have hG48 := (G_arr (x := 88) (i := (wr32 ((wr32 (18 * (M3 85 0))) + 0))) (y := a11) rfl (by decide) hG46)
          obtain ⟨M49, eM49⟩ : ∃ m : Mem, m = (mset M47 88 (wr32 ((wr32 (18 * (M3 85 0))) + 0)) a11) := ⟨_, rfl⟩
          rw [← eM49] at hG48 ⊢
          replace H := H M49 eM49
          refine T_aload_n (i := 0) (pc' := 183) dX12_personTold_182 rfl rfl rfl ?_
          refine U_gr (q := 88) (k := 31) (kI := 31) (pc' := 186) dX12_personTold_183 rfl cl12 (by decide) rfl (by decide) flX12_80 rfl rfl rfl (G_at hG48 88 rfl) (by decide) rfl ?_
          refine T_iload_n (i := 2) (pc' := 187) dX12_personTold_186 rfl rfl rfl ?_
          refine T_iconst (pc' := 188) dX12_personTold_187 (by decide) rfl ?_
          refine T_iadd (pc' := 189) dX12_personTold_188 rfl ?_
          refine T_iload (i := 6) (pc' := 191) dX12_personTold_189 rfl rfl ?_
          obtain ⟨z1, z2, H⟩ := H
          refine T_iast (pc' := 192) dX12_personTold_191 (by decide) rfl z1 z2 rfl ?_
          have hG50 := (G_arr (x := 88) (i := (wr32 ((wr32 (18 * (M3 85 0))) + 1))) (y := a20) rfl (by decide) hG48)
          obtain ⟨M51, eM51⟩ : ∃ m : Mem, m = (mset M49 88 (wr32 ((wr32 (18 * (M3 85 0))) + 1)) a20) := ⟨_, rfl⟩
          rw [← eM51] at hG50 ⊢
          replace H := H M51 eM51
          refine T_aload_n (i := 0) (pc' := 193) dX12_personTold_192 rfl rfl rfl ?_
          refine U_gr (q := 88) (k := 31) (kI := 31) (pc' := 196) dX12_personTold_193 rfl cl12 (by decide) rfl (by decide) flX12_80 rfl rfl rfl (G_at hG50 88 rfl) (by decide) rfl ?_
          refine T_iload_n (i := 2) (pc' := 197) dX12_personTold_196 rfl rfl rfl ?_
          refine T_iconst (pc' := 198) dX12_personTold_197 (by decide) rfl ?_
          refine T_iadd (pc' := 199) dX12_personTold_198 rfl ?_
          refine T_iload (i := 7) (pc' := 201) dX12_personTold_199 rfl rfl ?_
          obtain ⟨z1, z2, H⟩ := H
          refine T_iast (pc' := 202) dX12_personTold_201 (by decide) rfl z1 z2 rfl ?_
          have hG52 := (G_arr (x := 88) (i := (wr32 ((wr32 (18 * (M3 85 0))) + 2))) (y := a26) rfl (by decide) hG50)
          obtain ⟨M53, eM53⟩ : ∃ m : Mem, m = (mset M51 88 (wr32 ((wr32 (18 * (M3 85 0))) + 2)) a26) := ⟨_, rfl⟩
          rw [← eM53] at hG52 ⊢
          replace H := H M53 eM53
          refine T_aload_n (i := 0) (pc' := 203) dX12_personTold_202 rfl rfl rfl ?_
          refine U_gr (q := 88) (k := 31) (kI := 31) (pc' := 206) dX12_personTold_203 rfl cl12 (by decide) rfl (by decide) flX12_80 rfl rfl rfl (G_at hG52 88 rfl) (by decide) rfl ?_
          refine T_iload_n (i := 2) (pc' := 207) dX12_personTold_206 rfl rfl rfl ?_
          refine T_iconst (pc' := 208) dX12_personTold_207 (by decide) rfl ?_
          refine T_iadd (pc' := 209) dX12_personTold_208 rfl ?_
          refine T_iload (i := 8) (pc' := 211) dX12_personTold_209 rfl rfl ?_
          obtain ⟨z1, z2, H⟩ := H
          refine T_iast (pc' := 212) dX12_personTold_211 (by decide) rfl z1 z2 rfl ?_
          have hG54 := (G_arr (x := 88) (i := (wr32 ((wr32 (18 * (M3 85 0))) + 3))) (y := a32) rfl (by decide) hG52)
          obtain ⟨M55, eM55⟩ : ∃ m : Mem, m = (mset M53 88 (wr32 ((wr32 (18 * (M3 85 0))) + 3)) a32) := ⟨_, rfl⟩
          rw [← eM55] at hG54 ⊢
          replace H := H M55 eM55
          refine T_aload_n (i := 0) (pc' := 213) dX12_personTold_212 rfl rfl rfl ?_
          refine U_gr (q := 88) (k := 31) (kI := 31) (pc' := 216) dX12_personTold_213 rfl cl12 (by decide) rfl (by decide) flX12_80 rfl rfl rfl (G_at hG54 88 rfl) (by decide) rfl ?_
          refine T_iload_n (i := 2) (pc' := 217) dX12_personTold_216 rfl rfl rfl ?_
          refine T_iconst (pc' := 218) dX12_personTold_217 (by decide) rfl ?_
          refine T_iadd (pc' := 219) dX12_personTold_218 rfl ?_
          refine T_iload (i := 10) (pc' := 221) dX12_personTold_219 rfl rfl ?_
          obtain ⟨z1, z2, H⟩ := H
          refine T_iast (pc' := 222) dX12_personTold_221 (by decide) rfl z1 z2 rfl ?_
          have hG56 := (G_arr (x := 88) (i := (wr32 ((wr32 (18 * (M3 85 0))) + 4))) (y := (if a41 = 0 then (0 : Int) else 1)) rfl (by decide) hG54)
          obtain ⟨M57, eM57⟩ : ∃ m : Mem, m = (mset M55 88 (wr32 ((wr32 (18 * (M3 85 0))) + 4)) (if a41 = 0 then (0 : Int) else 1)) := ⟨_, rfl⟩
          rw [← eM57] at hG56 ⊢
          replace H := H M57 eM57
          refine T_aload_n (i := 0) (pc' := 223) dX12_personTold_222 rfl rfl rfl ?_
          refine U_gr (q := 88) (k := 31) (kI := 31) (pc' := 226) dX12_personTold_223 rfl cl12 (by decide) rfl (by decide) flX12_80 rfl rfl rfl (G_at hG56 88 rfl) (by decide) rfl ?_
          refine T_iload_n (i := 2) (pc' := 227) dX12_personTold_226 rfl rfl rfl ?_
          refine T_iconst (pc' := 228) dX12_personTold_227 (by decide) rfl ?_
          refine T_iadd (pc' := 229) dX12_personTold_228 rfl ?_
          refine T_iload (i := 9) (pc' := 231) dX12_personTold_229 rfl rfl ?_
          obtain ⟨z1, z2, H⟩ := H
          refine T_iast (pc' := 232) dX12_personTold_231 (by decide) rfl z1 z2 rfl ?_
          have hG58 := (G_arr (x := 88) (i := (wr32 ((wr32 (18 * (M3 85 0))) + 5))) (y := a38) rfl (by decide) hG56)
          obtain ⟨M59, eM59⟩ : ∃ m : Mem, m = (mset M57 88 (wr32 ((wr32 (18 * (M3 85 0))) + 5)) a38) := ⟨_, rfl⟩
          rw [← eM59] at hG58 ⊢
          replace H := H M59 eM59
          refine T_aload_n (i := 0) (pc' := 233) dX12_personTold_232 rfl rfl rfl ?_
          refine U_gr (q := 85) (k := 28) (kI := 28) (pc' := 236) dX12_personTold_233 rfl cl12 (by decide) rfl (by decide) flX12_69 rfl rfl rfl (G_at hG58 85 rfl) (by decide) rfl ?_
          refine T_iconst (pc' := 237) dX12_personTold_236 (by decide) rfl ?_
          refine T_dup2 (pc' := 238) dX12_personTold_237 (Nat.ne_of_beq_eq_false rfl) (Nat.ne_of_beq_eq_false rfl) rfl ?_
          refine T_iald (pc' := 239) dX12_personTold_238 (by decide) rfl (by decide) (by decide) rfl ?_
          refine T_iconst (pc' := 240) dX12_personTold_239 (by decide) rfl ?_
          refine T_iadd (pc' := 241) dX12_personTold_240 rfl ?_
          refine T_iast (pc' := 242) dX12_personTold_241 (by decide) rfl (by decide) (by decide) rfl ?_
          have hG60 := (G_arr (x := 85) (i := 0) (y := (wr32 ((M59 85 0) + 1))) rfl (by decide) hG58)
          obtain ⟨M61, eM61⟩ : ∃ m : Mem, m = (mset M59 85 0 (wr32 ((M59 85 0) + 1))) := ⟨_, rfl⟩
          rw [← eM61] at hG60 ⊢
          replace H := H M61 eM61
          exact T_vret dX12_personTold_242 rfl ⟨rfl, hG60, rfl, H⟩
        · skip
          replace H := H.2 c45
          exact T_vret dX12_personTold_159 rfl ⟨rfl, hG43, rfl, H⟩
      refine T_if_eq (pc' := 149) dX12_personTold_142 (by decide) (pf := 145) rfl (fun c62 => ?_) (fun c62 => ?_)
      · skip
        refine T_iconst (pc' := 150) dX12_personTold_149 (by decide) rfl ?_
        exact T_wk (L' := [(2, 66), (3, 0), (0, (wr32 (18 * (M3 85 0)))), (1, a5), (3, 0), (0, a11), (0, a20), (0, a26), (0, a32), (0, a38), (3, 0)]) (by have q := HJ44; try simp only [if_pos c62] at q ⊢; exact q) ⟨Or.inr rfl, Or.inl rfl, Or.inr rfl, Or.inr rfl, Or.inl rfl, Or.inr rfl, Or.inr rfl, Or.inr rfl, Or.inr rfl, Or.inr rfl, Or.inl rfl, trivial⟩
      · skip
        refine T_iconst (pc' := 146) dX12_personTold_145 (by decide) rfl ?_
        refine T_goto (pc' := 150) dX12_personTold_146 (by decide) ?_
        exact T_wk (L' := [(2, 66), (3, 0), (0, (wr32 (18 * (M3 85 0)))), (1, a5), (3, 0), (0, a11), (0, a20), (0, a26), (0, a32), (0, a38), (3, 0)]) (by have q := HJ44; try simp only [if_neg c62] at q ⊢; exact q) ⟨Or.inr rfl, Or.inl rfl, Or.inr rfl, Or.inr rfl, Or.inl rfl, Or.inr rfl, Or.inr rfl, Or.inr rfl, Or.inr rfl, Or.inr rfl, Or.inl rfl, trivial⟩
    refine T_if_ne (pc' := 67) dX12_personTold_45 (by decide) (pf := 48) rfl (fun c63 => ?_) (fun c63 => ?_)
    · skip
      replace H := H.2 c63
      exact T_wk (L' := [(2, 66), (3, 0), (0, (wr32 (18 * (M3 85 0)))), (1, a5), (3, 0), (0, a11), (3, 0), (3, 0), (3, 0), (3, 0), (3, 0)]) (qj14 _ H hG13) ⟨Or.inr rfl, Or.inl rfl, Or.inr rfl, Or.inr rfl, Or.inl rfl, Or.inr rfl, Or.inl rfl, Or.inl rfl, Or.inl rfl, Or.inl rfl, Or.inl rfl, trivial⟩
    · skip
      replace H := H.1 c63
      refine T_aload_n (i := 0) (pc' := 49) dX12_personTold_48 rfl rfl rfl ?_
      refine U_gr (q := 87) (k := 30) (kI := 30) (pc' := 52) dX12_personTold_49 rfl cl12 (by decide) rfl (by decide) flX12_76 rfl rfl rfl (G_at hG13 87 rfl) (by decide) rfl ?_
      refine T_iload (i := 5) (pc' := 54) dX12_personTold_52 rfl rfl ?_
      obtain ⟨z1, z2, H⟩ := H
      refine T_zald (pc' := 55) dX12_personTold_54 (by decide) rfl z1 z2 rfl ?_
      refine T_zrng (x := 87) (i := a11) (n := 108) rfl (by decide) z1 (fun zb64 => ?_)
      refine T_if_eq (pc' := 67) dX12_personTold_55 (by decide) (pf := 58) rfl (fun c65 => ?_) (fun c65 => ?_)
      · skip
        replace H := H.1 c65
        exact T_wk (L' := [(2, 66), (3, 0), (0, (wr32 (18 * (M3 85 0)))), (1, a5), (3, 0), (0, a11), (3, 0), (3, 0), (3, 0), (3, 0), (3, 0)]) (qj14 _ H hG13) ⟨Or.inr rfl, Or.inl rfl, Or.inr rfl, Or.inr rfl, Or.inl rfl, Or.inr rfl, Or.inl rfl, Or.inl rfl, Or.inl rfl, Or.inl rfl, Or.inl rfl, trivial⟩
      · skip
        replace H := H.2 c65
        refine T_aload_n (i := 0) (pc' := 59) dX12_personTold_58 rfl rfl rfl ?_
        refine T_iconst (pc' := 60) dX12_personTold_59 (by decide) rfl ?_
        refine T_aload_n (i := 0) (pc' := 61) dX12_personTold_60 rfl rfl rfl ?_
        refine U_gf (v := (0, (M12 66 9))) (k := 9) (kI := 9) (pc' := 64) dX12_personTold_61 rfl cl12 (by decide) rfl (by decide) flX12_241 rfl rfl (by decide) rfl rfl ?_
        refine T_callV (av := [(0, 2), (0, (M12 66 9))]) (st := []) (d2 := 1) (nc2 := 0) (ns2 := 0) (pc' := 67) dX12_personTold_64 rfl mtX12_fail mvX12_fail mlX12_231 cl12 rfl rfl rfl (Nat.le_of_ble_eq_true rfl) (by decide) ⟨by decide, by decide⟩ rfl (pX12_fail (E := E) (h := h) (M := M12) (v1 := 2) (v2 := (M12 66 9)) hG13) (kF (st2 := []) rfl (fun hG66 => ?_))
        obtain ⟨M67, eM67⟩ : ∃ m : Mem, m = (fmX12_fail M12 2 (M12 66 9)) := ⟨_, rfl⟩
        rw [← eM67] at hG66 ⊢
        replace H := H M67 eM67
        exact T_wk (L' := [(2, 66), (3, 0), (0, (wr32 (18 * (M3 85 0)))), (1, a5), (3, 0), (0, a11), (3, 0), (3, 0), (3, 0), (3, 0), (3, 0)]) (qj14 _ H hG66) ⟨Or.inr rfl, Or.inl rfl, Or.inr rfl, Or.inr rfl, Or.inl rfl, Or.inr rfl, Or.inl rfl, Or.inl rfl, Or.inl rfl, Or.inl rfl, Or.inl rfl, trivial⟩
  · skip
    replace H := H.2 c4
    exact T_vret dX12_personTold_11 rfl ⟨rfl, hG2, rfl, H⟩
def PX12_guardTold (v1 : Int) (M : Mem) (Q : Int → Mem → Prop) : Prop :=
  (nX12_isFull M 1) ∧ (∀ M3 : Mem, M3 = (fmX12_isFull M 1 4 v1) → (((fX12_isFull M 1 4 v1) = 0 → PX12_newName M3 (fun a5 M6 => PX12_asks 72 2 M6 (fun _ M9 => PX12_cellTold M9 (fun a11 M12 => (∃ j14 : Mem → Prop, (∀ (M15 : Mem), j14 M15 → PX12_asks 79 4 M15 (fun _ M18 => PX12_number 1 9 M18 (fun a20 M21 => PX12_asks 80 5 M21 (fun _ M24 => PX12_number 1 20 M24 (fun a26 M27 => (((M27 66 5) = 0 → 0 ≤ (wr32 (10 + (M3 85 1))) ∧ (wr32 (10 + (M3 85 1))) < 40 ∧ (∀ M31 : Mem, M31 = (mset M27 86 (wr32 (10 + (M3 85 1))) a5) → 0 ≤ (wr32 (3 * (M3 85 1))) ∧ (wr32 (3 * (M3 85 1))) < 24 ∧ (∀ M33 : Mem, M33 = (mset M31 89 (wr32 (3 * (M3 85 1))) a11) → 0 ≤ (wr32 ((wr32 (3 * (M3 85 1))) + 1)) ∧ (wr32 ((wr32 (3 * (M3 85 1))) + 1)) < 24 ∧ (∀ M35 : Mem, M35 = (mset M33 89 (wr32 ((wr32 (3 * (M3 85 1))) + 1)) a20) → 0 ≤ (wr32 ((wr32 (3 * (M3 85 1))) + 2)) ∧ (wr32 ((wr32 (3 * (M3 85 1))) + 2)) < 24 ∧ (∀ M37 : Mem, M37 = (mset M35 89 (wr32 ((wr32 (3 * (M3 85 1))) + 2)) a26) → (∀ M39 : Mem, M39 = (mset M37 85 1 (wr32 ((M37 85 1) + 1))) → Q 0 M39)))))) ∧ (¬ ((M27 66 5) = 0) → Q 0 M27))))))) ∧ (((M12 66 5) = 0 → 0 ≤ a11 ∧ a11 < 108 ∧ (((M12 87 a11) = 0 → j14 M12) ∧ (¬ ((M12 87 a11) = 0) → (∀ M44 : Mem, M44 = (fmX12_fail M12 2 (M12 66 9)) → j14 M44)))) ∧ (¬ ((M12 66 5) = 0) → j14 M12))))))) ∧ (¬ ((fX12_isFull M 1 4 v1) = 0) → Q 0 M3)))
set_option maxRecDepth 100000 in
set_option maxHeartbeats 2000000 in
theorem pX12_guardTold {E : EV} {h : Int} {M : Mem} {v1 : Int}  {Q : Int → Mem → Prop} (H : PX12_guardTold v1 M Q) : C2 E miX12_guardTold 6 h [(2, 66), (0, v1)] M (RV Q) := by
  refine C2_of (L := [(2, 66), (0, v1), (3, 0), (3, 0), (3, 0), (3, 0), (3, 0), (3, 0)]) (by decide +kernel) (Nat.le_of_ble_eq_true rfl) rfl (fun hG => ?_)
  refine T_aload_n (i := 0) (pc' := 1) dX12_guardTold_0 rfl rfl rfl ?_
  refine T_iconst (pc' := 2) dX12_guardTold_1 (by decide) rfl ?_
  refine T_iconst (pc' := 3) dX12_guardTold_2 (by decide) rfl ?_
  refine T_iload_n (i := 1) (pc' := 4) dX12_guardTold_3 rfl rfl rfl ?_
  obtain ⟨z1, H⟩ := H
  refine T_callV (av := [(0, 1), (0, 4), (0, v1)]) (st := []) (d2 := 2) (nc2 := 0) (ns2 := 0) (pc' := 7) dX12_guardTold_4 rfl mtX12_isFull mvX12_isFull mlX12_286 cl12 rfl rfl rfl (Nat.le_of_ble_eq_true rfl) (by decide) ⟨by decide, by decide⟩ rfl (pX12_isFull (E := E) (h := h) (M := M) (v1 := 1) (v2 := 4) (v3 := v1) z1 hG) (kF (st2 := [(0, (fX12_isFull M 1 4 v1))]) rfl (fun hG2 => ?_))
  obtain ⟨M3, eM3⟩ : ∃ m : Mem, m = (fmX12_isFull M 1 4 v1) := ⟨_, rfl⟩
  rw [← eM3] at hG2 ⊢
  replace H := H M3 eM3
  refine T_if_eq (pc' := 11) dX12_guardTold_7 (by decide) (pf := 10) rfl (fun c4 => ?_) (fun c4 => ?_)
  · skip
    replace H := H.1 c4
    refine T_aload_n (i := 0) (pc' := 12) dX12_guardTold_11 rfl rfl rfl ?_
    refine U_gr (q := 85) (k := 28) (kI := 28) (pc' := 15) dX12_guardTold_12 rfl cl12 (by decide) rfl (by decide) flX12_69 rfl rfl rfl (G_at hG2 85 rfl) (by decide) rfl ?_
    refine T_iconst (pc' := 16) dX12_guardTold_15 (by decide) rfl ?_
    refine T_iald (pc' := 17) dX12_guardTold_16 (by decide) rfl (by decide) (by decide) rfl ?_
    refine T_istore_n (i := 2) (L' := [(2, 66), (0, v1), (0, (M3 85 1)), (3, 0), (3, 0), (3, 0), (3, 0), (3, 0)]) (pc' := 18) dX12_guardTold_17 rfl (by decide) rfl rfl ?_
    refine T_aload_n (i := 0) (pc' := 19) dX12_guardTold_18 rfl rfl rfl ?_
    refine T_callV (av := []) (st := []) (d2 := 5) (nc2 := 0) (ns2 := 0) (pc' := 22) dX12_guardTold_19 rfl mtX12_newName mvX12_newName mlX12_293 cl12 rfl rfl rfl (Nat.le_of_ble_eq_true rfl) (by decide) ⟨by decide, by decide⟩ rfl (pX12_newName (E := E) (h := h) (M := M3) H hG2) ?_
    rintro _ _ M6 ⟨rfl, hG7, a5, rfl, H⟩ _
    refine T_lstore_n (i := 3) (L' := [(2, 66), (0, v1), (0, (M3 85 1)), (1, a5), (3, 0), (3, 0), (3, 0), (3, 0)]) (pc' := 23) dX12_guardTold_22 rfl (by decide) rfl rfl ?_
    refine T_aload_n (i := 0) (pc' := 24) dX12_guardTold_23 rfl rfl rfl ?_
    refine T_aload_n (i := 0) (pc' := 25) dX12_guardTold_24 rfl rfl rfl ?_
    refine U_gr (q := 72) (k := 14) (kI := 14) (pc' := 28) dX12_guardTold_25 rfl cl12 (by decide) rfl (by decide) flX12_30 rfl rfl rfl (G_at hG7 72 rfl) (by decide) rfl ?_
    refine T_callV (av := [(2, 72)]) (st := []) (d2 := 4) (nc2 := 0) (ns2 := 0) (pc' := 31) dX12_guardTold_28 rfl mtX12_asks mvX12_asks mlX12_296 cl12 rfl rfl rfl (Nat.le_of_ble_eq_true rfl) (by decide) ⟨by decide, by decide⟩ rfl (pX12_asks (E := E) (h := h) (M := M6) (p1 := 72) (np1 := 2) (by decide) rfl (by decide) H hG7) ?_
    rintro _ _ M9 ⟨rfl, hG10, rfl, H⟩ _
    refine T_aload_n (i := 0) (pc' := 32) dX12_guardTold_31 rfl rfl rfl ?_
    refine T_callV (av := []) (st := []) (d2 := 3) (nc2 := 0) (ns2 := 0) (pc' := 35) dX12_guardTold_32 rfl mtX12_cellTold mvX12_cellTold mlX12_276 cl12 rfl rfl rfl (Nat.le_of_ble_eq_true rfl) (by decide) ⟨by decide, by decide⟩ rfl (pX12_cellTold (E := E) (h := h) (M := M9) H hG10) ?_
    rintro _ _ M12 ⟨rfl, hG13, a11, rfl, H⟩ _
    refine T_istore (i := 5) (L' := [(2, 66), (0, v1), (0, (M3 85 1)), (1, a5), (3, 0), (0, a11), (3, 0), (3, 0)]) (pc' := 37) dX12_guardTold_35 (by decide) rfl rfl ?_
    refine T_aload_n (i := 0) (pc' := 38) dX12_guardTold_37 rfl rfl rfl ?_
    refine U_gf (v := (0, (M12 66 5))) (k := 5) (kI := 5) (pc' := 41) dX12_guardTold_38 rfl cl12 (by decide) rfl (by decide) flX12_201 rfl rfl (by decide) rfl rfl ?_
    obtain ⟨j14, hj14, H⟩ := H
    have qj14 : ∀ (M15 : Mem), j14 M15 → G h M15 → TG E miX12_guardTold 6 h (RV Q) 63 [(2, 66), (3, 0), (0, (M3 85 1)), (1, a5), (3, 0), (0, a11), (3, 0), (3, 0)] [] M15 := by
      intro M15 H hG16
      replace H := hj14 _ H
      refine T_aload_n (i := 0) (pc' := 64) dX12_guardTold_63 rfl rfl rfl ?_
      refine T_aload_n (i := 0) (pc' := 65) dX12_guardTold_64 rfl rfl rfl ?_
      refine U_gr (q := 79) (k := 21) (kI := 21) (pc' := 68) dX12_guardTold_65 rfl cl12 (by decide) rfl (by decide) flX12_51 rfl rfl rfl (G_at hG16 79 rfl) (by decide) rfl ?_
      refine T_callV (av := [(2, 79)]) (st := []) (d2 := 4) (nc2 := 0) (ns2 := 0) (pc' := 71) dX12_guardTold_68 rfl mtX12_asks mvX12_asks mlX12_296 cl12 rfl rfl rfl (Nat.le_of_ble_eq_true rfl) (by decide) ⟨by decide, by decide⟩ rfl (pX12_asks (E := E) (h := h) (M := M15) (p1 := 79) (np1 := 4) (by decide) rfl (by decide) H hG16) ?_
      rintro _ _ M18 ⟨rfl, hG19, rfl, H⟩ _
      refine T_aload_n (i := 0) (pc' := 72) dX12_guardTold_71 rfl rfl rfl ?_
      refine T_iconst (pc' := 73) dX12_guardTold_72 (by decide) rfl ?_
      refine T_bipush (pc' := 75) dX12_guardTold_73 rfl (by decide) rfl ?_
      refine T_callV (av := [(0, 1), (0, 9)]) (st := []) (d2 := 2) (nc2 := 0) (ns2 := 0) (pc' := 78) dX12_guardTold_75 rfl mtX12_number mvX12_number mlX12_248 cl12 rfl rfl rfl (Nat.le_of_ble_eq_true rfl) (by decide) ⟨by decide, by decide⟩ rfl (pX12_number (E := E) (h := h) (M := M18) (v1 := 1) (v2 := 9) H hG19) ?_
      rintro _ _ M21 ⟨rfl, hG22, a20, rfl, H⟩ _
      refine T_istore (i := 6) (L' := [(2, 66), (3, 0), (0, (M3 85 1)), (1, a5), (3, 0), (0, a11), (0, a20), (3, 0)]) (pc' := 80) dX12_guardTold_78 (by decide) rfl rfl ?_
      refine T_aload_n (i := 0) (pc' := 81) dX12_guardTold_80 rfl rfl rfl ?_
      refine T_aload_n (i := 0) (pc' := 82) dX12_guardTold_81 rfl rfl rfl ?_
      refine U_gr (q := 80) (k := 22) (kI := 22) (pc' := 85) dX12_guardTold_82 rfl cl12 (by decide) rfl (by decide) flX12_54 rfl rfl rfl (G_at hG22 80 rfl) (by decide) rfl ?_
      refine T_callV (av := [(2, 80)]) (st := []) (d2 := 4) (nc2 := 0) (ns2 := 0) (pc' := 88) dX12_guardTold_85 rfl mtX12_asks mvX12_asks mlX12_296 cl12 rfl rfl rfl (Nat.le_of_ble_eq_true rfl) (by decide) ⟨by decide, by decide⟩ rfl (pX12_asks (E := E) (h := h) (M := M21) (p1 := 80) (np1 := 5) (by decide) rfl (by decide) H hG22) ?_
      rintro _ _ M24 ⟨rfl, hG25, rfl, H⟩ _
      refine T_aload_n (i := 0) (pc' := 89) dX12_guardTold_88 rfl rfl rfl ?_
      refine T_iconst (pc' := 90) dX12_guardTold_89 (by decide) rfl ?_
      refine T_bipush (pc' := 92) dX12_guardTold_90 rfl (by decide) rfl ?_
      refine T_callV (av := [(0, 1), (0, 20)]) (st := []) (d2 := 2) (nc2 := 0) (ns2 := 0) (pc' := 95) dX12_guardTold_92 rfl mtX12_number mvX12_number mlX12_248 cl12 rfl rfl rfl (Nat.le_of_ble_eq_true rfl) (by decide) ⟨by decide, by decide⟩ rfl (pX12_number (E := E) (h := h) (M := M24) (v1 := 1) (v2 := 20) H hG25) ?_
      rintro _ _ M27 ⟨rfl, hG28, a26, rfl, H⟩ _
      refine T_istore (i := 7) (L' := [(2, 66), (3, 0), (0, (M3 85 1)), (1, a5), (3, 0), (0, a11), (0, a20), (0, a26)]) (pc' := 97) dX12_guardTold_95 (by decide) rfl rfl ?_
      refine T_aload_n (i := 0) (pc' := 98) dX12_guardTold_97 rfl rfl rfl ?_
      refine U_gf (v := (0, (M27 66 5))) (k := 5) (kI := 5) (pc' := 101) dX12_guardTold_98 rfl cl12 (by decide) rfl (by decide) flX12_201 rfl rfl (by decide) rfl rfl ?_
      refine T_if_eq (pc' := 105) dX12_guardTold_101 (by decide) (pf := 104) rfl (fun c29 => ?_) (fun c29 => ?_)
      · skip
        replace H := H.1 c29
        refine T_aload_n (i := 0) (pc' := 106) dX12_guardTold_105 rfl rfl rfl ?_
        refine U_gr (q := 86) (k := 29) (kI := 29) (pc' := 109) dX12_guardTold_106 rfl cl12 (by decide) rfl (by decide) flX12_72 rfl rfl rfl (G_at hG28 86 rfl) (by decide) rfl ?_
        refine T_bipush (pc' := 111) dX12_guardTold_109 rfl (by decide) rfl ?_
        refine T_iload_n (i := 2) (pc' := 112) dX12_guardTold_111 rfl rfl rfl ?_
        refine T_iadd (pc' := 113) dX12_guardTold_112 rfl ?_
        refine T_lload_n (i := 3) (pc' := 114) dX12_guardTold_113 rfl rfl rfl ?_
        obtain ⟨z1, z2, H⟩ := H
        refine T_last (pc' := 115) dX12_guardTold_114 (by decide) rfl z1 z2 rfl ?_
        have hG30 := (G_arr (x := 86) (i := (wr32 (10 + (M3 85 1)))) (y := a5) rfl (by decide) hG28)
        obtain ⟨M31, eM31⟩ : ∃ m : Mem, m = (mset M27 86 (wr32 (10 + (M3 85 1))) a5) := ⟨_, rfl⟩
        rw [← eM31] at hG30 ⊢
        replace H := H M31 eM31
        refine T_aload_n (i := 0) (pc' := 116) dX12_guardTold_115 rfl rfl rfl ?_
        refine U_gr (q := 89) (k := 32) (kI := 32) (pc' := 119) dX12_guardTold_116 rfl cl12 (by decide) rfl (by decide) flX12_83 rfl rfl rfl (G_at hG30 89 rfl) (by decide) rfl ?_
        refine T_iconst (pc' := 120) dX12_guardTold_119 (by decide) rfl ?_
        refine T_iload_n (i := 2) (pc' := 121) dX12_guardTold_120 rfl rfl rfl ?_
        refine T_imul (pc' := 122) dX12_guardTold_121 rfl ?_
        refine T_iload (i := 5) (pc' := 124) dX12_guardTold_122 rfl rfl ?_
        obtain ⟨z1, z2, H⟩ := H
        refine T_iast (pc' := 125) dX12_guardTold_124 (by decide) rfl z1 z2 rfl ?_
        have hG32 := (G_arr (x := 89) (i := (wr32 (3 * (M3 85 1)))) (y := a11) rfl (by decide) hG30)
        obtain ⟨M33, eM33⟩ : ∃ m : Mem, m = (mset M31 89 (wr32 (3 * (M3 85 1))) a11) := ⟨_, rfl⟩
        rw [← eM33] at hG32 ⊢
        replace H := H M33 eM33
        refine T_aload_n (i := 0) (pc' := 126) dX12_guardTold_125 rfl rfl rfl ?_
        refine U_gr (q := 89) (k := 32) (kI := 32) (pc' := 129) dX12_guardTold_126 rfl cl12 (by decide) rfl (by decide) flX12_83 rfl rfl rfl (G_at hG32 89 rfl) (by decide) rfl ?_
        refine T_iconst (pc' := 130) dX12_guardTold_129 (by decide) rfl ?_
        refine T_iload_n (i := 2) (pc' := 131) dX12_guardTold_130 rfl rfl rfl ?_
        refine T_imul (pc' := 132) dX12_guardTold_131 rfl ?_
        refine T_iconst (pc' := 133) dX12_guardTold_132 (by decide) rfl ?_
        refine T_iadd (pc' := 134) dX12_guardTold_133 rfl ?_
        refine T_iload (i := 6) (pc' := 136) dX12_guardTold_134 rfl rfl ?_
        obtain ⟨z1, z2, H⟩ := H
        refine T_iast (pc' := 137) dX12_guardTold_136 (by decide) rfl z1 z2 rfl ?_
        have hG34 := (G_arr (x := 89) (i := (wr32 ((wr32 (3 * (M3 85 1))) + 1))) (y := a20) rfl (by decide) hG32)
        obtain ⟨M35, eM35⟩ : ∃ m : Mem, m = (mset M33 89 (wr32 ((wr32 (3 * (M3 85 1))) + 1)) a20) := ⟨_, rfl⟩
        rw [← eM35] at hG34 ⊢
        replace H := H M35 eM35
        refine T_aload_n (i := 0) (pc' := 138) dX12_guardTold_137 rfl rfl rfl ?_
        refine U_gr (q := 89) (k := 32) (kI := 32) (pc' := 141) dX12_guardTold_138 rfl cl12 (by decide) rfl (by decide) flX12_83 rfl rfl rfl (G_at hG34 89 rfl) (by decide) rfl ?_
        refine T_iconst (pc' := 142) dX12_guardTold_141 (by decide) rfl ?_
        refine T_iload_n (i := 2) (pc' := 143) dX12_guardTold_142 rfl rfl rfl ?_
        refine T_imul (pc' := 144) dX12_guardTold_143 rfl ?_
        refine T_iconst (pc' := 145) dX12_guardTold_144 (by decide) rfl ?_
        refine T_iadd (pc' := 146) dX12_guardTold_145 rfl ?_
        refine T_iload (i := 7) (pc' := 148) dX12_guardTold_146 rfl rfl ?_
        obtain ⟨z1, z2, H⟩ := H
        refine T_iast (pc' := 149) dX12_guardTold_148 (by decide) rfl z1 z2 rfl ?_
        have hG36 := (G_arr (x := 89) (i := (wr32 ((wr32 (3 * (M3 85 1))) + 2))) (y := a26) rfl (by decide) hG34)
        obtain ⟨M37, eM37⟩ : ∃ m : Mem, m = (mset M35 89 (wr32 ((wr32 (3 * (M3 85 1))) + 2)) a26) := ⟨_, rfl⟩
        rw [← eM37] at hG36 ⊢
        replace H := H M37 eM37
        refine T_aload_n (i := 0) (pc' := 150) dX12_guardTold_149 rfl rfl rfl ?_
        refine U_gr (q := 85) (k := 28) (kI := 28) (pc' := 153) dX12_guardTold_150 rfl cl12 (by decide) rfl (by decide) flX12_69 rfl rfl rfl (G_at hG36 85 rfl) (by decide) rfl ?_
        refine T_iconst (pc' := 154) dX12_guardTold_153 (by decide) rfl ?_
        refine T_dup2 (pc' := 155) dX12_guardTold_154 (Nat.ne_of_beq_eq_false rfl) (Nat.ne_of_beq_eq_false rfl) rfl ?_
        refine T_iald (pc' := 156) dX12_guardTold_155 (by decide) rfl (by decide) (by decide) rfl ?_
        refine T_iconst (pc' := 157) dX12_guardTold_156 (by decide) rfl ?_
        refine T_iadd (pc' := 158) dX12_guardTold_157 rfl ?_
        refine T_iast (pc' := 159) dX12_guardTold_158 (by decide) rfl (by decide) (by decide) rfl ?_
        have hG38 := (G_arr (x := 85) (i := 1) (y := (wr32 ((M37 85 1) + 1))) rfl (by decide) hG36)
        obtain ⟨M39, eM39⟩ : ∃ m : Mem, m = (mset M37 85 1 (wr32 ((M37 85 1) + 1))) := ⟨_, rfl⟩
        rw [← eM39] at hG38 ⊢
        replace H := H M39 eM39
        exact T_vret dX12_guardTold_159 rfl ⟨rfl, hG38, rfl, H⟩
      · skip
        replace H := H.2 c29
        exact T_vret dX12_guardTold_104 rfl ⟨rfl, hG28, rfl, H⟩
    refine T_if_ne (pc' := 63) dX12_guardTold_41 (by decide) (pf := 44) rfl (fun c40 => ?_) (fun c40 => ?_)
    · skip
      replace H := H.2 c40
      exact T_wk (L' := [(2, 66), (3, 0), (0, (M3 85 1)), (1, a5), (3, 0), (0, a11), (3, 0), (3, 0)]) (qj14 _ H hG13) ⟨Or.inr rfl, Or.inl rfl, Or.inr rfl, Or.inr rfl, Or.inl rfl, Or.inr rfl, Or.inl rfl, Or.inl rfl, trivial⟩
    · skip
      replace H := H.1 c40
      refine T_aload_n (i := 0) (pc' := 45) dX12_guardTold_44 rfl rfl rfl ?_
      refine U_gr (q := 87) (k := 30) (kI := 30) (pc' := 48) dX12_guardTold_45 rfl cl12 (by decide) rfl (by decide) flX12_76 rfl rfl rfl (G_at hG13 87 rfl) (by decide) rfl ?_
      refine T_iload (i := 5) (pc' := 50) dX12_guardTold_48 rfl rfl ?_
      obtain ⟨z1, z2, H⟩ := H
      refine T_zald (pc' := 51) dX12_guardTold_50 (by decide) rfl z1 z2 rfl ?_
      refine T_zrng (x := 87) (i := a11) (n := 108) rfl (by decide) z1 (fun zb41 => ?_)
      refine T_if_eq (pc' := 63) dX12_guardTold_51 (by decide) (pf := 54) rfl (fun c42 => ?_) (fun c42 => ?_)
      · skip
        replace H := H.1 c42
        exact T_wk (L' := [(2, 66), (3, 0), (0, (M3 85 1)), (1, a5), (3, 0), (0, a11), (3, 0), (3, 0)]) (qj14 _ H hG13) ⟨Or.inr rfl, Or.inl rfl, Or.inr rfl, Or.inr rfl, Or.inl rfl, Or.inr rfl, Or.inl rfl, Or.inl rfl, trivial⟩
      · skip
        replace H := H.2 c42
        refine T_aload_n (i := 0) (pc' := 55) dX12_guardTold_54 rfl rfl rfl ?_
        refine T_iconst (pc' := 56) dX12_guardTold_55 (by decide) rfl ?_
        refine T_aload_n (i := 0) (pc' := 57) dX12_guardTold_56 rfl rfl rfl ?_
        refine U_gf (v := (0, (M12 66 9))) (k := 9) (kI := 9) (pc' := 60) dX12_guardTold_57 rfl cl12 (by decide) rfl (by decide) flX12_241 rfl rfl (by decide) rfl rfl ?_
        refine T_callV (av := [(0, 2), (0, (M12 66 9))]) (st := []) (d2 := 1) (nc2 := 0) (ns2 := 0) (pc' := 63) dX12_guardTold_60 rfl mtX12_fail mvX12_fail mlX12_231 cl12 rfl rfl rfl (Nat.le_of_ble_eq_true rfl) (by decide) ⟨by decide, by decide⟩ rfl (pX12_fail (E := E) (h := h) (M := M12) (v1 := 2) (v2 := (M12 66 9)) hG13) (kF (st2 := []) rfl (fun hG43 => ?_))
        obtain ⟨M44, eM44⟩ : ∃ m : Mem, m = (fmX12_fail M12 2 (M12 66 9)) := ⟨_, rfl⟩
        rw [← eM44] at hG43 ⊢
        replace H := H M44 eM44
        exact T_wk (L' := [(2, 66), (3, 0), (0, (M3 85 1)), (1, a5), (3, 0), (0, a11), (3, 0), (3, 0)]) (qj14 _ H hG43) ⟨Or.inr rfl, Or.inl rfl, Or.inr rfl, Or.inr rfl, Or.inl rfl, Or.inr rfl, Or.inl rfl, Or.inl rfl, trivial⟩
  · skip
    replace H := H.2 c4
    exact T_vret dX12_guardTold_10 rfl ⟨rfl, hG2, rfl, H⟩
def PX12_statementTold  (M : Mem) (Q : Int → Mem → Prop) : Prop :=
  (((M 66 40) = 70 → (∀ M74 : Mem, M74 = (fmX12_fail M 5 (M 66 2)) → Q 0 M74)) ∧ (¬ ((M 66 40) = 70) → PX12_takes 69 4 M (fun a2 M3 => (∃ j5 : Mem → Prop, (∀ (M6 : Mem), j5 M6 → PX12_asksSign 59 M6 (fun _ M9 => (∀ M12 : Mem, M12 = (mset M9 66 40 (wr32 ((M9 66 40) + 1))) → Q 0 M12))) ∧ ((a2 = 0 → PX12_takes 70 4 M3 (fun a14 M15 => ((a14 = 0 → PX12_takes 71 6 M15 (fun a18 M19 => ((a18 = 0 → PX12_takes 78 5 M19 (fun a22 M23 => ((a22 = 0 → PX12_takes 81 6 M23 (fun a26 M27 => ((a26 = 0 → PX12_takes 82 4 M27 (fun a30 M31 => ((a30 = 0 → PX12_takes 83 4 M31 (fun a34 M35 => ((a34 = 0 → PX12_asks 84 6 M35 (fun _ M39 => PX12_number 1 9 M39 (fun a41 M42 => (∀ M45 : Mem, M45 = (mset M42 91 3 a41) → j5 M45)))) ∧ (¬ (a34 = 0) → PX12_number 1 5 M35 (fun a46 M47 => (∀ M50 : Mem, M50 = (mset M47 91 2 a46) → j5 M50)))))) ∧ (¬ (a30 = 0) → PX12_number 1 30 M31 (fun a51 M52 => (∀ M55 : Mem, M55 = (mset M52 91 1 a51) → j5 M55)))))) ∧ (¬ (a26 = 0) → PX12_number 1 99 M27 (fun a56 M57 => (∀ M60 : Mem, M60 = (mset M57 91 0 a56) → j5 M60)))))) ∧ (¬ (a22 = 0) → PX12_guardTold (M 66 2) M23 (fun _ M62 => j5 M62))))) ∧ (¬ (a18 = 0) → PX12_personTold (M 66 2) M19 (fun _ M65 => j5 M65))))) ∧ (¬ (a14 = 0) → PX12_doorTold (M 66 2) M15 (fun _ M68 => j5 M68))))) ∧ (¬ (a2 = 0) → PX12_wallTold (M 66 2) M3 (fun _ M71 => j5 M71)))))))
set_option maxRecDepth 100000 in
set_option maxHeartbeats 2000000 in
theorem pX12_statementTold {E : EV} {h : Int} {M : Mem}   {Q : Int → Mem → Prop} (H : PX12_statementTold  M Q) : C2 E miX12_statementTold 7 h [(2, 66)] M (RV Q) := by
  refine C2_of (L := [(2, 66), (3, 0)]) (by decide +kernel) (Nat.le_of_ble_eq_true rfl) rfl (fun hG => ?_)
  refine T_aload_n (i := 0) (pc' := 1) dX12_statementTold_0 rfl rfl rfl ?_
  refine U_gf (v := (0, (M 66 2))) (k := 2) (kI := 2) (pc' := 4) dX12_statementTold_1 rfl cl12 (by decide) rfl (by decide) flX12_207 rfl rfl (by decide) rfl rfl ?_
  refine T_istore_n (i := 1) (L' := [(2, 66), (0, (M 66 2))]) (pc' := 5) dX12_statementTold_4 rfl (by decide) rfl rfl ?_
  refine T_aload_n (i := 0) (pc' := 6) dX12_statementTold_5 rfl rfl rfl ?_
  refine U_gf (v := (0, (M 66 40))) (k := 40) (kI := 40) (pc' := 9) dX12_statementTold_6 rfl cl12 (by decide) rfl (by decide) flX12_306 rfl rfl (by decide) rfl rfl ?_
  refine T_bipush (pc' := 11) dX12_statementTold_9 rfl (by decide) rfl ?_
  refine T_icmp_ne (pc' := 21) dX12_statementTold_11 (by decide) (pf := 14) rfl (fun c1 => ?_) (fun c1 => ?_)
  · skip
    replace H := H.2 c1
    refine T_aload_n (i := 0) (pc' := 22) dX12_statementTold_21 rfl rfl rfl ?_
    refine T_aload_n (i := 0) (pc' := 23) dX12_statementTold_22 rfl rfl rfl ?_
    refine U_gr (q := 69) (k := 11) (kI := 11) (pc' := 26) dX12_statementTold_23 rfl cl12 (by decide) rfl (by decide) flX12_21 rfl rfl rfl (G_at hG 69 rfl) (by decide) rfl ?_
    refine T_callV (av := [(2, 69)]) (st := []) (d2 := 3) (nc2 := 0) (ns2 := 0) (pc' := 29) dX12_statementTold_26 rfl mtX12_takes mvX12_takes mlX12_228 cl12 rfl rfl rfl (Nat.le_of_ble_eq_true rfl) (by decide) ⟨by decide, by decide⟩ rfl (pX12_takes (E := E) (h := h) (M := M) (p1 := 69) (np1 := 4) (by decide) rfl (by decide) H hG) ?_
    rintro _ _ M3 ⟨rfl, hG4, a2, rfl, H⟩ _
    obtain ⟨j5, hj5, H⟩ := H
    have qj5 : ∀ (M6 : Mem), j5 M6 → G h M6 → TG E miX12_statementTold 7 h (RV Q) 198 [(2, 66), (3, 0)] [] M6 := by
      intro M6 H hG7
      replace H := hj5 _ H
      refine T_aload_n (i := 0) (pc' := 199) dX12_statementTold_198 rfl rfl rfl ?_
      refine T_bipush (pc' := 201) dX12_statementTold_199 rfl (by decide) rfl ?_
      refine T_callV (av := [(0, 59)]) (st := []) (d2 := 3) (nc2 := 0) (ns2 := 0) (pc' := 204) dX12_statementTold_201 rfl mtX12_asksSign mvX12_asksSign mlX12_322 cl12 rfl rfl rfl (Nat.le_of_ble_eq_true rfl) (by decide) ⟨by decide, by decide⟩ rfl (pX12_asksSign (E := E) (h := h) (M := M6) (v1 := 59) H hG7) ?_
      rintro _ _ M9 ⟨rfl, hG10, rfl, H⟩ _
      refine T_aload_n (i := 0) (pc' := 205) dX12_statementTold_204 rfl rfl rfl ?_
      refine T_dup (pc' := 206) dX12_statementTold_205 (Nat.ne_of_beq_eq_false rfl) rfl ?_
      refine U_gf (v := (0, (M9 66 40))) (k := 40) (kI := 40) (pc' := 209) dX12_statementTold_206 rfl cl12 (by decide) rfl (by decide) flX12_306 rfl rfl (by decide) rfl rfl ?_
      refine T_iconst (pc' := 210) dX12_statementTold_209 (by decide) rfl ?_
      refine T_iadd (pc' := 211) dX12_statementTold_210 rfl ?_
      refine U_pf (y := (wr32 ((M9 66 40) + 1))) (k := 40) (kI := 40) (pc' := 214) dX12_statementTold_211 rfl cl12 (by decide) rfl (by decide) flX12_306 rfl rfl rfl rfl rfl (by decide) (fun z => z) rfl ?_
      have hG11 := (G_fld (x := 66) (i := 40) (y := (wr32 ((M9 66 40) + 1))) rfl (by decide) (by decide) (by decide) hG10)
      obtain ⟨M12, eM12⟩ : ∃ m : Mem, m = (mset M9 66 40 (wr32 ((M9 66 40) + 1))) := ⟨_, rfl⟩
      rw [← eM12] at hG11 ⊢
      replace H := H M12 eM12
      exact T_vret dX12_statementTold_214 rfl ⟨rfl, hG11, rfl, H⟩
    refine T_if_eq (pc' := 40) dX12_statementTold_29 (by decide) (pf := 32) rfl (fun c13 => ?_) (fun c13 => ?_)
    · skip
      replace H := H.1 c13
      refine T_aload_n (i := 0) (pc' := 41) dX12_statementTold_40 rfl rfl rfl ?_
      refine T_aload_n (i := 0) (pc' := 42) dX12_statementTold_41 rfl rfl rfl ?_
      refine U_gr (q := 70) (k := 12) (kI := 12) (pc' := 45) dX12_statementTold_42 rfl cl12 (by decide) rfl (by decide) flX12_24 rfl rfl rfl (G_at hG4 70 rfl) (by decide) rfl ?_
      refine T_callV (av := [(2, 70)]) (st := []) (d2 := 3) (nc2 := 0) (ns2 := 0) (pc' := 48) dX12_statementTold_45 rfl mtX12_takes mvX12_takes mlX12_228 cl12 rfl rfl rfl (Nat.le_of_ble_eq_true rfl) (by decide) ⟨by decide, by decide⟩ rfl (pX12_takes (E := E) (h := h) (M := M3) (p1 := 70) (np1 := 4) (by decide) rfl (by decide) H hG4) ?_
      rintro _ _ M15 ⟨rfl, hG16, a14, rfl, H⟩ _
      refine T_if_eq (pc' := 59) dX12_statementTold_48 (by decide) (pf := 51) rfl (fun c17 => ?_) (fun c17 => ?_)
      · skip
        replace H := H.1 c17
        refine T_aload_n (i := 0) (pc' := 60) dX12_statementTold_59 rfl rfl rfl ?_
        refine T_aload_n (i := 0) (pc' := 61) dX12_statementTold_60 rfl rfl rfl ?_
        refine U_gr (q := 71) (k := 13) (kI := 13) (pc' := 64) dX12_statementTold_61 rfl cl12 (by decide) rfl (by decide) flX12_27 rfl rfl rfl (G_at hG16 71 rfl) (by decide) rfl ?_
        refine T_callV (av := [(2, 71)]) (st := []) (d2 := 3) (nc2 := 0) (ns2 := 0) (pc' := 67) dX12_statementTold_64 rfl mtX12_takes mvX12_takes mlX12_228 cl12 rfl rfl rfl (Nat.le_of_ble_eq_true rfl) (by decide) ⟨by decide, by decide⟩ rfl (pX12_takes (E := E) (h := h) (M := M15) (p1 := 71) (np1 := 6) (by decide) rfl (by decide) H hG16) ?_
        rintro _ _ M19 ⟨rfl, hG20, a18, rfl, H⟩ _
        refine T_if_eq (pc' := 78) dX12_statementTold_67 (by decide) (pf := 70) rfl (fun c21 => ?_) (fun c21 => ?_)
        · skip
          replace H := H.1 c21
          refine T_aload_n (i := 0) (pc' := 79) dX12_statementTold_78 rfl rfl rfl ?_
          refine T_aload_n (i := 0) (pc' := 80) dX12_statementTold_79 rfl rfl rfl ?_
          refine U_gr (q := 78) (k := 20) (kI := 20) (pc' := 83) dX12_statementTold_80 rfl cl12 (by decide) rfl (by decide) flX12_48 rfl rfl rfl (G_at hG20 78 rfl) (by decide) rfl ?_
          refine T_callV (av := [(2, 78)]) (st := []) (d2 := 3) (nc2 := 0) (ns2 := 0) (pc' := 86) dX12_statementTold_83 rfl mtX12_takes mvX12_takes mlX12_228 cl12 rfl rfl rfl (Nat.le_of_ble_eq_true rfl) (by decide) ⟨by decide, by decide⟩ rfl (pX12_takes (E := E) (h := h) (M := M19) (p1 := 78) (np1 := 5) (by decide) rfl (by decide) H hG20) ?_
          rintro _ _ M23 ⟨rfl, hG24, a22, rfl, H⟩ _
          refine T_if_eq (pc' := 97) dX12_statementTold_86 (by decide) (pf := 89) rfl (fun c25 => ?_) (fun c25 => ?_)
          · skip
            replace H := H.1 c25
            refine T_aload_n (i := 0) (pc' := 98) dX12_statementTold_97 rfl rfl rfl ?_
            refine T_aload_n (i := 0) (pc' := 99) dX12_statementTold_98 rfl rfl rfl ?_
            refine U_gr (q := 81) (k := 23) (kI := 23) (pc' := 102) dX12_statementTold_99 rfl cl12 (by decide) rfl (by decide) flX12_57 rfl rfl rfl (G_at hG24 81 rfl) (by decide) rfl ?_
            refine T_callV (av := [(2, 81)]) (st := []) (d2 := 3) (nc2 := 0) (ns2 := 0) (pc' := 105) dX12_statementTold_102 rfl mtX12_takes mvX12_takes mlX12_228 cl12 rfl rfl rfl (Nat.le_of_ble_eq_true rfl) (by decide) ⟨by decide, by decide⟩ rfl (pX12_takes (E := E) (h := h) (M := M23) (p1 := 81) (np1 := 6) (by decide) rfl (by decide) H hG24) ?_
            rintro _ _ M27 ⟨rfl, hG28, a26, rfl, H⟩ _
            refine T_if_eq (pc' := 124) dX12_statementTold_105 (by decide) (pf := 108) rfl (fun c29 => ?_) (fun c29 => ?_)
            · skip
              replace H := H.1 c29
              refine T_aload_n (i := 0) (pc' := 125) dX12_statementTold_124 rfl rfl rfl ?_
              refine T_aload_n (i := 0) (pc' := 126) dX12_statementTold_125 rfl rfl rfl ?_
              refine U_gr (q := 82) (k := 24) (kI := 24) (pc' := 129) dX12_statementTold_126 rfl cl12 (by decide) rfl (by decide) flX12_60 rfl rfl rfl (G_at hG28 82 rfl) (by decide) rfl ?_
              refine T_callV (av := [(2, 82)]) (st := []) (d2 := 3) (nc2 := 0) (ns2 := 0) (pc' := 132) dX12_statementTold_129 rfl mtX12_takes mvX12_takes mlX12_228 cl12 rfl rfl rfl (Nat.le_of_ble_eq_true rfl) (by decide) ⟨by decide, by decide⟩ rfl (pX12_takes (E := E) (h := h) (M := M27) (p1 := 82) (np1 := 4) (by decide) rfl (by decide) H hG28) ?_
              rintro _ _ M31 ⟨rfl, hG32, a30, rfl, H⟩ _
              refine T_if_eq (pc' := 151) dX12_statementTold_132 (by decide) (pf := 135) rfl (fun c33 => ?_) (fun c33 => ?_)
              · skip
                replace H := H.1 c33
                refine T_aload_n (i := 0) (pc' := 152) dX12_statementTold_151 rfl rfl rfl ?_
                refine T_aload_n (i := 0) (pc' := 153) dX12_statementTold_152 rfl rfl rfl ?_
                refine U_gr (q := 83) (k := 25) (kI := 25) (pc' := 156) dX12_statementTold_153 rfl cl12 (by decide) rfl (by decide) flX12_63 rfl rfl rfl (G_at hG32 83 rfl) (by decide) rfl ?_
                refine T_callV (av := [(2, 83)]) (st := []) (d2 := 3) (nc2 := 0) (ns2 := 0) (pc' := 159) dX12_statementTold_156 rfl mtX12_takes mvX12_takes mlX12_228 cl12 rfl rfl rfl (Nat.le_of_ble_eq_true rfl) (by decide) ⟨by decide, by decide⟩ rfl (pX12_takes (E := E) (h := h) (M := M31) (p1 := 83) (np1 := 4) (by decide) rfl (by decide) H hG32) ?_
                rintro _ _ M35 ⟨rfl, hG36, a34, rfl, H⟩ _
                refine T_if_eq (pc' := 177) dX12_statementTold_159 (by decide) (pf := 162) rfl (fun c37 => ?_) (fun c37 => ?_)
                · skip
                  replace H := H.1 c37
                  refine T_aload_n (i := 0) (pc' := 178) dX12_statementTold_177 rfl rfl rfl ?_
                  refine T_aload_n (i := 0) (pc' := 179) dX12_statementTold_178 rfl rfl rfl ?_
                  refine U_gr (q := 84) (k := 26) (kI := 26) (pc' := 182) dX12_statementTold_179 rfl cl12 (by decide) rfl (by decide) flX12_66 rfl rfl rfl (G_at hG36 84 rfl) (by decide) rfl ?_
                  refine T_callV (av := [(2, 84)]) (st := []) (d2 := 4) (nc2 := 0) (ns2 := 0) (pc' := 185) dX12_statementTold_182 rfl mtX12_asks mvX12_asks mlX12_296 cl12 rfl rfl rfl (Nat.le_of_ble_eq_true rfl) (by decide) ⟨by decide, by decide⟩ rfl (pX12_asks (E := E) (h := h) (M := M35) (p1 := 84) (np1 := 6) (by decide) rfl (by decide) H hG36) ?_
                  rintro _ _ M39 ⟨rfl, hG40, rfl, H⟩ _
                  refine T_aload_n (i := 0) (pc' := 186) dX12_statementTold_185 rfl rfl rfl ?_
                  refine U_gr (q := 91) (k := 34) (kI := 34) (pc' := 189) dX12_statementTold_186 rfl cl12 (by decide) rfl (by decide) flX12_89 rfl rfl rfl (G_at hG40 91 rfl) (by decide) rfl ?_
                  refine T_iconst (pc' := 190) dX12_statementTold_189 (by decide) rfl ?_
                  refine T_aload_n (i := 0) (pc' := 191) dX12_statementTold_190 rfl rfl rfl ?_
                  refine T_iconst (pc' := 192) dX12_statementTold_191 (by decide) rfl ?_
                  refine T_bipush (pc' := 194) dX12_statementTold_192 rfl (by decide) rfl ?_
                  refine T_callV (av := [(0, 1), (0, 9)]) (st := [(0, 3), (2, 91)]) (d2 := 2) (nc2 := 0) (ns2 := 0) (pc' := 197) dX12_statementTold_194 rfl mtX12_number mvX12_number mlX12_248 cl12 rfl rfl rfl (Nat.le_of_ble_eq_true rfl) (by decide) ⟨by decide, by decide⟩ rfl (pX12_number (E := E) (h := h) (M := M39) (v1 := 1) (v2 := 9) H hG40) ?_
                  rintro _ _ M42 ⟨rfl, hG43, a41, rfl, H⟩ _
                  refine T_iast (pc' := 198) dX12_statementTold_197 (by decide) rfl (by decide) (by decide) rfl ?_
                  have hG44 := (G_arr (x := 91) (i := 3) (y := a41) rfl (by decide) hG43)
                  obtain ⟨M45, eM45⟩ : ∃ m : Mem, m = (mset M42 91 3 a41) := ⟨_, rfl⟩
                  rw [← eM45] at hG44 ⊢
                  replace H := H M45 eM45
                  exact T_wk (L' := [(2, 66), (3, 0)]) (qj5 _ H hG44) ⟨Or.inr rfl, Or.inl rfl, trivial⟩
                · skip
                  replace H := H.2 c37
                  refine T_aload_n (i := 0) (pc' := 163) dX12_statementTold_162 rfl rfl rfl ?_
                  refine U_gr (q := 91) (k := 34) (kI := 34) (pc' := 166) dX12_statementTold_163 rfl cl12 (by decide) rfl (by decide) flX12_89 rfl rfl rfl (G_at hG36 91 rfl) (by decide) rfl ?_
                  refine T_iconst (pc' := 167) dX12_statementTold_166 (by decide) rfl ?_
                  refine T_aload_n (i := 0) (pc' := 168) dX12_statementTold_167 rfl rfl rfl ?_
                  refine T_iconst (pc' := 169) dX12_statementTold_168 (by decide) rfl ?_
                  refine T_iconst (pc' := 170) dX12_statementTold_169 (by decide) rfl ?_
                  refine T_callV (av := [(0, 1), (0, 5)]) (st := [(0, 2), (2, 91)]) (d2 := 2) (nc2 := 0) (ns2 := 0) (pc' := 173) dX12_statementTold_170 rfl mtX12_number mvX12_number mlX12_248 cl12 rfl rfl rfl (Nat.le_of_ble_eq_true rfl) (by decide) ⟨by decide, by decide⟩ rfl (pX12_number (E := E) (h := h) (M := M35) (v1 := 1) (v2 := 5) H hG36) ?_
                  rintro _ _ M47 ⟨rfl, hG48, a46, rfl, H⟩ _
                  refine T_iast (pc' := 174) dX12_statementTold_173 (by decide) rfl (by decide) (by decide) rfl ?_
                  have hG49 := (G_arr (x := 91) (i := 2) (y := a46) rfl (by decide) hG48)
                  obtain ⟨M50, eM50⟩ : ∃ m : Mem, m = (mset M47 91 2 a46) := ⟨_, rfl⟩
                  rw [← eM50] at hG49 ⊢
                  replace H := H M50 eM50
                  refine T_goto (pc' := 198) dX12_statementTold_174 (by decide) ?_
                  exact T_wk (L' := [(2, 66), (3, 0)]) (qj5 _ H hG49) ⟨Or.inr rfl, Or.inl rfl, trivial⟩
              · skip
                replace H := H.2 c33
                refine T_aload_n (i := 0) (pc' := 136) dX12_statementTold_135 rfl rfl rfl ?_
                refine U_gr (q := 91) (k := 34) (kI := 34) (pc' := 139) dX12_statementTold_136 rfl cl12 (by decide) rfl (by decide) flX12_89 rfl rfl rfl (G_at hG32 91 rfl) (by decide) rfl ?_
                refine T_iconst (pc' := 140) dX12_statementTold_139 (by decide) rfl ?_
                refine T_aload_n (i := 0) (pc' := 141) dX12_statementTold_140 rfl rfl rfl ?_
                refine T_iconst (pc' := 142) dX12_statementTold_141 (by decide) rfl ?_
                refine T_bipush (pc' := 144) dX12_statementTold_142 rfl (by decide) rfl ?_
                refine T_callV (av := [(0, 1), (0, 30)]) (st := [(0, 1), (2, 91)]) (d2 := 2) (nc2 := 0) (ns2 := 0) (pc' := 147) dX12_statementTold_144 rfl mtX12_number mvX12_number mlX12_248 cl12 rfl rfl rfl (Nat.le_of_ble_eq_true rfl) (by decide) ⟨by decide, by decide⟩ rfl (pX12_number (E := E) (h := h) (M := M31) (v1 := 1) (v2 := 30) H hG32) ?_
                rintro _ _ M52 ⟨rfl, hG53, a51, rfl, H⟩ _
                refine T_iast (pc' := 148) dX12_statementTold_147 (by decide) rfl (by decide) (by decide) rfl ?_
                have hG54 := (G_arr (x := 91) (i := 1) (y := a51) rfl (by decide) hG53)
                obtain ⟨M55, eM55⟩ : ∃ m : Mem, m = (mset M52 91 1 a51) := ⟨_, rfl⟩
                rw [← eM55] at hG54 ⊢
                replace H := H M55 eM55
                refine T_goto (pc' := 198) dX12_statementTold_148 (by decide) ?_
                exact T_wk (L' := [(2, 66), (3, 0)]) (qj5 _ H hG54) ⟨Or.inr rfl, Or.inl rfl, trivial⟩
            · skip
              replace H := H.2 c29
              refine T_aload_n (i := 0) (pc' := 109) dX12_statementTold_108 rfl rfl rfl ?_
              refine U_gr (q := 91) (k := 34) (kI := 34) (pc' := 112) dX12_statementTold_109 rfl cl12 (by decide) rfl (by decide) flX12_89 rfl rfl rfl (G_at hG28 91 rfl) (by decide) rfl ?_
              refine T_iconst (pc' := 113) dX12_statementTold_112 (by decide) rfl ?_
              refine T_aload_n (i := 0) (pc' := 114) dX12_statementTold_113 rfl rfl rfl ?_
              refine T_iconst (pc' := 115) dX12_statementTold_114 (by decide) rfl ?_
              refine T_bipush (pc' := 117) dX12_statementTold_115 rfl (by decide) rfl ?_
              refine T_callV (av := [(0, 1), (0, 99)]) (st := [(0, 0), (2, 91)]) (d2 := 2) (nc2 := 0) (ns2 := 0) (pc' := 120) dX12_statementTold_117 rfl mtX12_number mvX12_number mlX12_248 cl12 rfl rfl rfl (Nat.le_of_ble_eq_true rfl) (by decide) ⟨by decide, by decide⟩ rfl (pX12_number (E := E) (h := h) (M := M27) (v1 := 1) (v2 := 99) H hG28) ?_
              rintro _ _ M57 ⟨rfl, hG58, a56, rfl, H⟩ _
              refine T_iast (pc' := 121) dX12_statementTold_120 (by decide) rfl (by decide) (by decide) rfl ?_
              have hG59 := (G_arr (x := 91) (i := 0) (y := a56) rfl (by decide) hG58)
              obtain ⟨M60, eM60⟩ : ∃ m : Mem, m = (mset M57 91 0 a56) := ⟨_, rfl⟩
              rw [← eM60] at hG59 ⊢
              replace H := H M60 eM60
              refine T_goto (pc' := 198) dX12_statementTold_121 (by decide) ?_
              exact T_wk (L' := [(2, 66), (3, 0)]) (qj5 _ H hG59) ⟨Or.inr rfl, Or.inl rfl, trivial⟩
          · skip
            replace H := H.2 c25
            refine T_aload_n (i := 0) (pc' := 90) dX12_statementTold_89 rfl rfl rfl ?_
            refine T_iload_n (i := 1) (pc' := 91) dX12_statementTold_90 rfl rfl rfl ?_
            refine T_callV (av := [(0, (M 66 2))]) (st := []) (d2 := 6) (nc2 := 0) (ns2 := 0) (pc' := 94) dX12_statementTold_91 rfl mtX12_guardTold mvX12_guardTold mlX12_319 cl12 rfl rfl rfl (Nat.le_of_ble_eq_true rfl) (by decide) ⟨by decide, by decide⟩ rfl (pX12_guardTold (E := E) (h := h) (M := M23) (v1 := (M 66 2)) H hG24) ?_
            rintro _ _ M62 ⟨rfl, hG63, rfl, H⟩ _
            refine T_goto (pc' := 198) dX12_statementTold_94 (by decide) ?_
            exact T_wk (L' := [(2, 66), (3, 0)]) (qj5 _ H hG63) ⟨Or.inr rfl, Or.inl rfl, trivial⟩
        · skip
          replace H := H.2 c21
          refine T_aload_n (i := 0) (pc' := 71) dX12_statementTold_70 rfl rfl rfl ?_
          refine T_iload_n (i := 1) (pc' := 72) dX12_statementTold_71 rfl rfl rfl ?_
          refine T_callV (av := [(0, (M 66 2))]) (st := []) (d2 := 6) (nc2 := 0) (ns2 := 0) (pc' := 75) dX12_statementTold_72 rfl mtX12_personTold mvX12_personTold mlX12_316 cl12 rfl rfl rfl (Nat.le_of_ble_eq_true rfl) (by decide) ⟨by decide, by decide⟩ rfl (pX12_personTold (E := E) (h := h) (M := M19) (v1 := (M 66 2)) H hG20) ?_
          rintro _ _ M65 ⟨rfl, hG66, rfl, H⟩ _
          refine T_goto (pc' := 198) dX12_statementTold_75 (by decide) ?_
          exact T_wk (L' := [(2, 66), (3, 0)]) (qj5 _ H hG66) ⟨Or.inr rfl, Or.inl rfl, trivial⟩
      · skip
        replace H := H.2 c17
        refine T_aload_n (i := 0) (pc' := 52) dX12_statementTold_51 rfl rfl rfl ?_
        refine T_iload_n (i := 1) (pc' := 53) dX12_statementTold_52 rfl rfl rfl ?_
        refine T_callV (av := [(0, (M 66 2))]) (st := []) (d2 := 4) (nc2 := 0) (ns2 := 0) (pc' := 56) dX12_statementTold_53 rfl mtX12_doorTold mvX12_doorTold mlX12_313 cl12 rfl rfl rfl (Nat.le_of_ble_eq_true rfl) (by decide) ⟨by decide, by decide⟩ rfl (pX12_doorTold (E := E) (h := h) (M := M15) (v1 := (M 66 2)) H hG16) ?_
        rintro _ _ M68 ⟨rfl, hG69, rfl, H⟩ _
        refine T_goto (pc' := 198) dX12_statementTold_56 (by decide) ?_
        exact T_wk (L' := [(2, 66), (3, 0)]) (qj5 _ H hG69) ⟨Or.inr rfl, Or.inl rfl, trivial⟩
    · skip
      replace H := H.2 c13
      refine T_aload_n (i := 0) (pc' := 33) dX12_statementTold_32 rfl rfl rfl ?_
      refine T_iload_n (i := 1) (pc' := 34) dX12_statementTold_33 rfl rfl rfl ?_
      refine T_callV (av := [(0, (M 66 2))]) (st := []) (d2 := 4) (nc2 := 0) (ns2 := 0) (pc' := 37) dX12_statementTold_34 rfl mtX12_wallTold mvX12_wallTold mlX12_309 cl12 rfl rfl rfl (Nat.le_of_ble_eq_true rfl) (by decide) ⟨by decide, by decide⟩ rfl (pX12_wallTold (E := E) (h := h) (M := M3) (v1 := (M 66 2)) H hG4) ?_
      rintro _ _ M71 ⟨rfl, hG72, rfl, H⟩ _
      refine T_goto (pc' := 198) dX12_statementTold_37 (by decide) ?_
      exact T_wk (L' := [(2, 66), (3, 0)]) (qj5 _ H hG72) ⟨Or.inr rfl, Or.inl rfl, trivial⟩
  · skip
    replace H := H.1 c1
    refine T_aload_n (i := 0) (pc' := 15) dX12_statementTold_14 rfl rfl rfl ?_
    refine T_iconst (pc' := 16) dX12_statementTold_15 (by decide) rfl ?_
    refine T_iload_n (i := 1) (pc' := 17) dX12_statementTold_16 rfl rfl rfl ?_
    refine T_callV (av := [(0, 5), (0, (M 66 2))]) (st := []) (d2 := 1) (nc2 := 0) (ns2 := 0) (pc' := 20) dX12_statementTold_17 rfl mtX12_fail mvX12_fail mlX12_231 cl12 rfl rfl rfl (Nat.le_of_ble_eq_true rfl) (by decide) ⟨by decide, by decide⟩ rfl (pX12_fail (E := E) (h := h) (M := M) (v1 := 5) (v2 := (M 66 2)) hG) (kF (st2 := []) rfl (fun hG73 => ?_))
    obtain ⟨M74, eM74⟩ : ∃ m : Mem, m = (fmX12_fail M 5 (M 66 2)) := ⟨_, rfl⟩
    rw [← eM74] at hG73 ⊢
    replace H := H M74 eM74
    exact T_vret dX12_statementTold_20 rfl ⟨rfl, hG73, rfl, H⟩
