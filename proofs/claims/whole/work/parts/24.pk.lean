/-! methods as propositions, 11 -/
def PX12_qSums_15  (K : Mem → Prop) (Q : Int → Mem → Prop) : Nat → Int → Mem → Prop
  | 0 => fun _ _ => False
  | k + 1 => fun v2 M => ((v2 = 0 → K M) ∧ (¬ (v2 = 0) → (((M 66 5) = 0 → PX12_qPartTold M (fun _ M4 => (((M4 66 5) = 0 → PX12_qGoesOn M4 (fun a7 M8 => PX12_qSums_15  K Q k (if a7 = 0 then (0 : Int) else 1) M8)) ∧ (¬ ((M4 66 5) = 0) → PX12_qSums_15  K Q k 0 M4)))) ∧ (¬ ((M 66 5) = 0) → K M))))
def PX12_qSums_53  (K : Mem → Prop) (Q : Int → Mem → Prop) : Nat → Mem → Prop
  | 0 => fun _ => False
  | k + 1 => fun M => (((M 66 5) = 0 → (((M 66 81) ≤ (M 66 83) → K M) ∧ (¬ ((M 66 81) ≤ (M 66 83)) → (nX12_qDrops M) ∧ (∀ M5 : Mem, M5 = (fmX12_qDrops M) → PX12_qSums_53  K Q k M5)))) ∧ (¬ ((M 66 5) = 0) → K M))
def PX12_qSums  (M : Mem) (Q : Int → Mem → Prop) : Prop :=
  (∀ M2 : Mem, M2 = (mset M 66 83 (M 66 81)) → (∃ k3 : Nat, PX12_qSums_15 (fun M4 => (∃ k6 : Nat, PX12_qSums_53 (fun M7 => (∀ M10 : Mem, M10 = (mset M7 66 83 (M 66 83)) → Q 0 M10)) Q k6 M4)) Q k3 1 M2))
set_option maxRecDepth 100000 in
set_option maxHeartbeats 2000000 in
theorem qX12_qSums_15 {E : EV} {h : Int} {v1 : Int}  {K : Mem → Prop} {Q : Int → Mem → Prop} (hK : ∀ (M : Mem), K M → G h M → TG E miX12_qSums 7 h (RV Q) 53 [(2, 66), (0, v1), (3, 0)] [] M) : ∀ (k : Nat) (v2 : Int) (M : Mem), PX12_qSums_15  K Q k v2 M → G h M → TG E miX12_qSums 7 h (RV Q) 15 [(2, 66), (0, v1), (0, v2)] [] M := by
  intro k
  induction k with
  | zero =>
    intro v2 M H
    exact False.elim H
  | succ k ih =>
    intro v2 M H hG
    refine T_iload_n (i := 2) (pc' := 16) dX12_qSums_15 rfl rfl rfl ?_
    refine T_if_eq (pc' := 53) dX12_qSums_16 (by decide) (pf := 19) rfl (fun c1 => ?_) (fun c1 => ?_)
    · skip
      replace H := H.1 c1
      exact T_wk (L' := [(2, 66), (0, v1), (3, 0)]) (hK _ H hG) ⟨Or.inr rfl, Or.inr rfl, Or.inl rfl, trivial⟩
    · skip
      replace H := H.2 c1
      refine T_aload_n (i := 0) (pc' := 20) dX12_qSums_19 rfl rfl rfl ?_
      refine U_gf (v := (0, (M 66 5))) (k := 5) (kI := 5) (pc' := 23) dX12_qSums_20 rfl cl12 (by decide) rfl (by decide) flX12_201 rfl rfl (by decide) rfl rfl ?_
      refine T_if_ne (pc' := 53) dX12_qSums_23 (by decide) (pf := 26) rfl (fun c2 => ?_) (fun c2 => ?_)
      · skip
        replace H := H.2 c2
        exact T_wk (L' := [(2, 66), (0, v1), (3, 0)]) (hK _ H hG) ⟨Or.inr rfl, Or.inr rfl, Or.inl rfl, trivial⟩
      · skip
        replace H := H.1 c2
        refine T_aload_n (i := 0) (pc' := 27) dX12_qSums_26 rfl rfl rfl ?_
        refine T_callV (av := []) (st := []) (d2 := 6) (nc2 := 0) (ns2 := 0) (pc' := 30) dX12_qSums_27 rfl mtX12_qPartTold mvX12_qPartTold mlX12_562 cl12 rfl rfl rfl (Nat.le_of_ble_eq_true rfl) (by decide) ⟨by decide, by decide⟩ rfl (pX12_qPartTold (E := E) (h := h) (M := M) H hG) ?_
        rintro _ _ M4 ⟨rfl, hG5, rfl, H⟩ _
        refine T_aload_n (i := 0) (pc' := 31) dX12_qSums_30 rfl rfl rfl ?_
        refine U_gf (v := (0, (M4 66 5))) (k := 5) (kI := 5) (pc' := 34) dX12_qSums_31 rfl cl12 (by decide) rfl (by decide) flX12_201 rfl rfl (by decide) rfl rfl ?_
        refine T_if_ne (pc' := 48) dX12_qSums_34 (by decide) (pf := 37) rfl (fun c6 => ?_) (fun c6 => ?_)
        · skip
          replace H := H.2 c6
          refine T_iconst (pc' := 49) dX12_qSums_48 (by decide) rfl ?_
          refine T_istore_n (i := 2) (L' := [(2, 66), (0, v1), (0, 0)]) (pc' := 50) dX12_qSums_49 rfl (by decide) rfl rfl ?_
          refine T_goto (pc' := 15) dX12_qSums_50 (by decide) ?_
          exact T_wk (L' := [(2, 66), (0, v1), (0, 0)]) (ih _ _ H hG5) ⟨Or.inr rfl, Or.inr rfl, Or.inr rfl, trivial⟩
        · skip
          replace H := H.1 c6
          refine T_aload_n (i := 0) (pc' := 38) dX12_qSums_37 rfl rfl rfl ?_
          refine T_callV (av := []) (st := []) (d2 := 4) (nc2 := 0) (ns2 := 0) (pc' := 41) dX12_qSums_38 rfl mtX12_qGoesOn mvX12_qGoesOn mlX12_565 cl12 rfl rfl rfl (Nat.le_of_ble_eq_true rfl) (by decide) ⟨by decide, by decide⟩ rfl (pX12_qGoesOn (E := E) (h := h) (M := M4) H hG5) ?_
          rintro _ _ M8 ⟨rfl, hG9, a7, rfl, H⟩ _
          have HJ10 : T E miX12_qSums 7 126 0 0 (fun r S M' => S = S0 ∧ G h M' ∧ RV Q r M') 49 [(2, 66), (0, v1), (3, 0)] [(0, (if a7 = 0 then (0 : Int) else 1))] S0 M8 0 0 := by
            refine T_istore_n (i := 2) (L' := [(2, 66), (0, v1), (0, (if a7 = 0 then (0 : Int) else 1))]) (pc' := 50) dX12_qSums_49 rfl (by decide) rfl rfl ?_
            refine T_goto (pc' := 15) dX12_qSums_50 (by decide) ?_
            exact T_wk (L' := [(2, 66), (0, v1), (0, (if a7 = 0 then (0 : Int) else 1))]) (ih _ _ H hG9) ⟨Or.inr rfl, Or.inr rfl, Or.inr rfl, trivial⟩
          refine T_if_eq (pc' := 48) dX12_qSums_41 (by decide) (pf := 44) rfl (fun c11 => ?_) (fun c11 => ?_)
          · skip
            refine T_iconst (pc' := 49) dX12_qSums_48 (by decide) rfl ?_
            exact T_wk (L' := [(2, 66), (0, v1), (3, 0)]) (by have q := HJ10; try simp only [if_pos c11] at q ⊢; exact q) ⟨Or.inr rfl, Or.inr rfl, Or.inl rfl, trivial⟩
          · skip
            refine T_iconst (pc' := 45) dX12_qSums_44 (by decide) rfl ?_
            refine T_goto (pc' := 49) dX12_qSums_45 (by decide) ?_
            exact T_wk (L' := [(2, 66), (0, v1), (3, 0)]) (by have q := HJ10; try simp only [if_neg c11] at q ⊢; exact q) ⟨Or.inr rfl, Or.inr rfl, Or.inl rfl, trivial⟩
set_option maxRecDepth 100000 in
set_option maxHeartbeats 2000000 in
theorem qX12_qSums_53 {E : EV} {h : Int} {v1 : Int}  {K : Mem → Prop} {Q : Int → Mem → Prop} (hK : ∀ (M : Mem), K M → G h M → TG E miX12_qSums 7 h (RV Q) 78 [(2, 66), (0, v1), (3, 0)] [] M) : ∀ (k : Nat) (M : Mem), PX12_qSums_53  K Q k M → G h M → TG E miX12_qSums 7 h (RV Q) 53 [(2, 66), (0, v1), (3, 0)] [] M := by
  intro k
  induction k with
  | zero =>
    intro M H
    exact False.elim H
  | succ k ih =>
    intro M H hG
    refine T_aload_n (i := 0) (pc' := 54) dX12_qSums_53 rfl rfl rfl ?_
    refine U_gf (v := (0, (M 66 5))) (k := 5) (kI := 5) (pc' := 57) dX12_qSums_54 rfl cl12 (by decide) rfl (by decide) flX12_201 rfl rfl (by decide) rfl rfl ?_
    refine T_if_ne (pc' := 78) dX12_qSums_57 (by decide) (pf := 60) rfl (fun c1 => ?_) (fun c1 => ?_)
    · skip
      replace H := H.2 c1
      exact T_wk (L' := [(2, 66), (0, v1), (3, 0)]) (hK _ H hG) ⟨Or.inr rfl, Or.inr rfl, Or.inl rfl, trivial⟩
    · skip
      replace H := H.1 c1
      refine T_aload_n (i := 0) (pc' := 61) dX12_qSums_60 rfl rfl rfl ?_
      refine U_gf (v := (0, (M 66 81))) (k := 81) (kI := 81) (pc' := 64) dX12_qSums_61 rfl cl12 (by decide) rfl (by decide) flX12_523 rfl rfl (by decide) rfl rfl ?_
      refine T_aload_n (i := 0) (pc' := 65) dX12_qSums_64 rfl rfl rfl ?_
      refine U_gf (v := (0, (M 66 83))) (k := 83) (kI := 83) (pc' := 68) dX12_qSums_65 rfl cl12 (by decide) rfl (by decide) flX12_529 rfl rfl (by decide) rfl rfl ?_
      refine T_icmp_le (pc' := 78) dX12_qSums_68 (by decide) (pf := 71) rfl (fun c2 => ?_) (fun c2 => ?_)
      · skip
        replace H := H.1 c2
        exact T_wk (L' := [(2, 66), (0, v1), (3, 0)]) (hK _ H hG) ⟨Or.inr rfl, Or.inr rfl, Or.inl rfl, trivial⟩
      · skip
        replace H := H.2 c2
        refine T_aload_n (i := 0) (pc' := 72) dX12_qSums_71 rfl rfl rfl ?_
        obtain ⟨z3, H⟩ := H
        refine T_callV (av := []) (st := []) (d2 := 2) (nc2 := 0) (ns2 := 0) (pc' := 75) dX12_qSums_72 rfl mtX12_qDrops mvX12_qDrops mlX12_535 cl12 rfl rfl rfl (Nat.le_of_ble_eq_true rfl) (by decide) ⟨by decide, by decide⟩ rfl (pX12_qDrops (E := E) (h := h) (M := M) z3 hG) (kF (st2 := []) rfl (fun hG4 => ?_))
        obtain ⟨M5, eM5⟩ : ∃ m : Mem, m = (fmX12_qDrops M) := ⟨_, rfl⟩
        rw [← eM5] at hG4 ⊢
        replace H := H M5 eM5
        refine T_goto (pc' := 53) dX12_qSums_75 (by decide) ?_
        exact T_wk (L' := [(2, 66), (0, v1), (3, 0)]) (ih _ H hG4) ⟨Or.inr rfl, Or.inr rfl, Or.inl rfl, trivial⟩
set_option maxRecDepth 100000 in
set_option maxHeartbeats 2000000 in
theorem pX12_qSums {E : EV} {h : Int} {M : Mem}   {Q : Int → Mem → Prop} (H : PX12_qSums  M Q) : C2 E miX12_qSums 7 h [(2, 66)] M (RV Q) := by
  refine C2_of (L := [(2, 66), (3, 0), (3, 0)]) (by decide +kernel) (Nat.le_of_ble_eq_true rfl) rfl (fun hG => ?_)
  refine T_aload_n (i := 0) (pc' := 1) dX12_qSums_0 rfl rfl rfl ?_
  refine U_gf (v := (0, (M 66 83))) (k := 83) (kI := 83) (pc' := 4) dX12_qSums_1 rfl cl12 (by decide) rfl (by decide) flX12_529 rfl rfl (by decide) rfl rfl ?_
  refine T_istore_n (i := 1) (L' := [(2, 66), (0, (M 66 83)), (3, 0)]) (pc' := 5) dX12_qSums_4 rfl (by decide) rfl rfl ?_
  refine T_aload_n (i := 0) (pc' := 6) dX12_qSums_5 rfl rfl rfl ?_
  refine T_aload_n (i := 0) (pc' := 7) dX12_qSums_6 rfl rfl rfl ?_
  refine U_gf (v := (0, (M 66 81))) (k := 81) (kI := 81) (pc' := 10) dX12_qSums_7 rfl cl12 (by decide) rfl (by decide) flX12_523 rfl rfl (by decide) rfl rfl ?_
  refine U_pf (y := (M 66 81)) (k := 83) (kI := 83) (pc' := 13) dX12_qSums_10 rfl cl12 (by decide) rfl (by decide) flX12_529 rfl rfl rfl rfl rfl (by decide) (fun z => z) rfl ?_
  have hG1 := (G_fld (x := 66) (i := 83) (y := (M 66 81)) rfl (by decide) (by decide) (by decide) hG)
  obtain ⟨M2, eM2⟩ : ∃ m : Mem, m = (mset M 66 83 (M 66 81)) := ⟨_, rfl⟩
  rw [← eM2] at hG1 ⊢
  replace H := H M2 eM2
  refine T_iconst (pc' := 14) dX12_qSums_13 (by decide) rfl ?_
  refine T_istore_n (i := 2) (L' := [(2, 66), (0, (M 66 83)), (0, 1)]) (pc' := 15) dX12_qSums_14 rfl (by decide) rfl rfl ?_
  obtain ⟨k3, H⟩ := H
  refine T_wk (L' := [(2, 66), (0, (M 66 83)), (0, 1)]) (qX12_qSums_15 (v1 := (M 66 83)) (fun M4 H hG5 => ?_) _ _ _ H hG1) ⟨Or.inr rfl, Or.inr rfl, Or.inr rfl, trivial⟩
  obtain ⟨k6, H⟩ := H
  refine T_wk (L' := [(2, 66), (0, (M 66 83)), (3, 0)]) (qX12_qSums_53 (v1 := (M 66 83)) (fun M7 H hG8 => ?_) _ _ H hG5) ⟨Or.inr rfl, Or.inr rfl, Or.inl rfl, trivial⟩
  refine T_aload_n (i := 0) (pc' := 79) dX12_qSums_78 rfl rfl rfl ?_
  refine T_iload_n (i := 1) (pc' := 80) dX12_qSums_79 rfl rfl rfl ?_
  refine U_pf (y := (M 66 83)) (k := 83) (kI := 83) (pc' := 83) dX12_qSums_80 rfl cl12 (by decide) rfl (by decide) flX12_529 rfl rfl rfl rfl rfl (by decide) (fun z => z) rfl ?_
  have hG9 := (G_fld (x := 66) (i := 83) (y := (M 66 83)) rfl (by decide) (by decide) (by decide) hG8)
  obtain ⟨M10, eM10⟩ : ∃ m : Mem, m = (mset M7 66 83 (M 66 83)) := ⟨_, rfl⟩
  rw [← eM10] at hG9 ⊢
  replace H := H M10 eM10
  exact T_vret dX12_qSums_83 rfl ⟨rfl, hG9, rfl, H⟩
def PX12_qFact  (M : Mem) (Q : Int → Mem → Prop) : Prop :=
  PX12_takes 111 3 M (fun a1 M2 => ((a1 = 0 → PX12_qSums M2 (fun _ M6 => (((M6 66 5) = 0 → PX12_look M6 (fun a9 M10 => ((a9 = 60 → (∀ M14 : Mem, M14 = (mset M10 66 2 (wr32 ((M10 66 2) + 1))) → PX12_qSums M14 (fun _ M16 => (nX12_qCode M16) ∧ (∀ M21 : Mem, M21 = (fmX12_qCode M16 (if a9 = 60 then (7 : Int) else (if a9 = 62 then (8 : Int) else 9))) → Q 0 M21)))) ∧ (¬ (a9 = 60) → ((a9 = 62 → (∀ M26 : Mem, M26 = (mset M10 66 2 (wr32 ((M10 66 2) + 1))) → PX12_qSums M26 (fun _ M28 => (nX12_qCode M28) ∧ (∀ M33 : Mem, M33 = (fmX12_qCode M28 (if a9 = 60 then (7 : Int) else (if a9 = 62 then (8 : Int) else 9))) → Q 0 M33)))) ∧ (¬ (a9 = 62) → ((a9 = 61 → (∀ M38 : Mem, M38 = (mset M10 66 2 (wr32 ((M10 66 2) + 1))) → PX12_qSums M38 (fun _ M40 => (nX12_qCode M40) ∧ (∀ M45 : Mem, M45 = (fmX12_qCode M40 (if a9 = 60 then (7 : Int) else (if a9 = 62 then (8 : Int) else 9))) → Q 0 M45)))) ∧ (¬ (a9 = 61) → (∀ M49 : Mem, M49 = (fmX12_fail M10 1 (M10 66 2)) → Q 0 M49))))))))) ∧ (¬ ((M6 66 5) = 0) → Q 0 M6)))) ∧ (¬ (a1 = 0) → (nX12_qCode M2) ∧ (∀ M52 : Mem, M52 = (fmX12_qCode M2 13) → Q 0 M52))))
set_option maxRecDepth 100000 in
set_option maxHeartbeats 2000000 in
theorem pX12_qFact {E : EV} {h : Int} {M : Mem}   {Q : Int → Mem → Prop} (H : PX12_qFact  M Q) : C2 E miX12_qFact 8 h [(2, 66)] M (RV Q) := by
  refine C2_of (L := [(2, 66), (3, 0)]) (by decide +kernel) (Nat.le_of_ble_eq_true rfl) rfl (fun hG => ?_)
  refine T_aload_n (i := 0) (pc' := 1) dX12_qFact_0 rfl rfl rfl ?_
  refine T_aload_n (i := 0) (pc' := 2) dX12_qFact_1 rfl rfl rfl ?_
  refine U_gr (q := 111) (k := 67) (kI := 67) (pc' := 5) dX12_qFact_2 rfl cl12 (by decide) rfl (by decide) flX12_153 rfl rfl rfl (G_at hG 111 rfl) (by decide) rfl ?_
  refine T_callV (av := [(2, 111)]) (st := []) (d2 := 3) (nc2 := 0) (ns2 := 0) (pc' := 8) dX12_qFact_5 rfl mtX12_takes mvX12_takes mlX12_228 cl12 rfl rfl rfl (Nat.le_of_ble_eq_true rfl) (by decide) ⟨by decide, by decide⟩ rfl (pX12_takes (E := E) (h := h) (M := M) (p1 := 111) (np1 := 3) (by decide) rfl (by decide) H hG) ?_
  rintro _ _ M2 ⟨rfl, hG3, a1, rfl, H⟩ _
  refine T_if_eq (pc' := 18) dX12_qFact_8 (by decide) (pf := 11) rfl (fun c4 => ?_) (fun c4 => ?_)
  · skip
    replace H := H.1 c4
    refine T_aload_n (i := 0) (pc' := 19) dX12_qFact_18 rfl rfl rfl ?_
    refine T_callV (av := []) (st := []) (d2 := 7) (nc2 := 0) (ns2 := 0) (pc' := 22) dX12_qFact_19 rfl mtX12_qSums mvX12_qSums mlX12_568 cl12 rfl rfl rfl (Nat.le_of_ble_eq_true rfl) (by decide) ⟨by decide, by decide⟩ rfl (pX12_qSums (E := E) (h := h) (M := M2) H hG3) ?_
    rintro _ _ M6 ⟨rfl, hG7, rfl, H⟩ _
    refine T_aload_n (i := 0) (pc' := 23) dX12_qFact_22 rfl rfl rfl ?_
    refine U_gf (v := (0, (M6 66 5))) (k := 5) (kI := 5) (pc' := 26) dX12_qFact_23 rfl cl12 (by decide) rfl (by decide) flX12_201 rfl rfl (by decide) rfl rfl ?_
    refine T_if_eq (pc' := 30) dX12_qFact_26 (by decide) (pf := 29) rfl (fun c8 => ?_) (fun c8 => ?_)
    · skip
      replace H := H.1 c8
      refine T_aload_n (i := 0) (pc' := 31) dX12_qFact_30 rfl rfl rfl ?_
      refine T_callV (av := []) (st := []) (d2 := 1) (nc2 := 0) (ns2 := 0) (pc' := 34) dX12_qFact_31 rfl mtX12_look mvX12_look mlX12_213 cl12 rfl rfl rfl (Nat.le_of_ble_eq_true rfl) (by decide) ⟨by decide, by decide⟩ rfl (pX12_look (E := E) (h := h) (M := M6) H hG7) ?_
      rintro _ _ M10 ⟨rfl, hG11, a9, rfl, H⟩ _
      refine T_istore_n (i := 1) (L' := [(2, 66), (0, a9)]) (pc' := 35) dX12_qFact_34 rfl (by decide) rfl rfl ?_
      refine T_iload_n (i := 1) (pc' := 36) dX12_qFact_35 rfl rfl rfl ?_
      refine T_bipush (pc' := 38) dX12_qFact_36 rfl (by decide) rfl ?_
      refine T_icmp_eq (pc' := 63) dX12_qFact_38 (by decide) (pf := 41) rfl (fun c12 => ?_) (fun c12 => ?_)
      · skip
        replace H := H.1 c12
        refine T_aload_n (i := 0) (pc' := 64) dX12_qFact_63 rfl rfl rfl ?_
        refine T_dup (pc' := 65) dX12_qFact_64 (Nat.ne_of_beq_eq_false rfl) rfl ?_
        refine U_gf (v := (0, (M10 66 2))) (k := 2) (kI := 2) (pc' := 68) dX12_qFact_65 rfl cl12 (by decide) rfl (by decide) flX12_207 rfl rfl (by decide) rfl rfl ?_
        refine T_iconst (pc' := 69) dX12_qFact_68 (by decide) rfl ?_
        refine T_iadd (pc' := 70) dX12_qFact_69 rfl ?_
        refine U_pf (y := (wr32 ((M10 66 2) + 1))) (k := 2) (kI := 2) (pc' := 73) dX12_qFact_70 rfl cl12 (by decide) rfl (by decide) flX12_207 rfl rfl rfl rfl rfl (by decide) (fun z => z) rfl ?_
        have hG13 := (G_fld (x := 66) (i := 2) (y := (wr32 ((M10 66 2) + 1))) rfl (by decide) (by decide) (by decide) hG11)
        obtain ⟨M14, eM14⟩ : ∃ m : Mem, m = (mset M10 66 2 (wr32 ((M10 66 2) + 1))) := ⟨_, rfl⟩
        rw [← eM14] at hG13 ⊢
        replace H := H M14 eM14
        refine T_aload_n (i := 0) (pc' := 74) dX12_qFact_73 rfl rfl rfl ?_
        refine T_callV (av := []) (st := []) (d2 := 7) (nc2 := 0) (ns2 := 0) (pc' := 77) dX12_qFact_74 rfl mtX12_qSums mvX12_qSums mlX12_568 cl12 rfl rfl rfl (Nat.le_of_ble_eq_true rfl) (by decide) ⟨by decide, by decide⟩ rfl (pX12_qSums (E := E) (h := h) (M := M14) H hG13) ?_
        rintro _ _ M16 ⟨rfl, hG17, rfl, H⟩ _
        refine T_aload_n (i := 0) (pc' := 78) dX12_qFact_77 rfl rfl rfl ?_
        refine T_iload_n (i := 1) (pc' := 79) dX12_qFact_78 rfl rfl rfl ?_
        refine T_bipush (pc' := 81) dX12_qFact_79 rfl (by decide) rfl ?_
        have HJ18 : T E miX12_qFact 8 126 0 0 (fun r S M' => S = S0 ∧ G h M' ∧ RV Q r M') 102 [(3, 0), (3, 0)] [(0, (if a9 = 60 then (7 : Int) else (if a9 = 62 then (8 : Int) else 9))), (2, 66)] S0 M16 0 0 := by
          obtain ⟨z19, H⟩ := H
          refine T_callV (av := [(0, (if a9 = 60 then (7 : Int) else (if a9 = 62 then (8 : Int) else 9)))]) (st := []) (d2 := 1) (nc2 := 0) (ns2 := 0) (pc' := 105) dX12_qFact_102 rfl mtX12_qCode mvX12_qCode mlX12_526 cl12 rfl rfl rfl (Nat.le_of_ble_eq_true rfl) (by decide) ⟨by decide, by decide⟩ rfl (pX12_qCode (E := E) (h := h) (M := M16) (v1 := (if a9 = 60 then (7 : Int) else (if a9 = 62 then (8 : Int) else 9))) z19 hG17) (kF (st2 := []) rfl (fun hG20 => ?_))
          obtain ⟨M21, eM21⟩ : ∃ m : Mem, m = (fmX12_qCode M16 (if a9 = 60 then (7 : Int) else (if a9 = 62 then (8 : Int) else 9))) := ⟨_, rfl⟩
          rw [← eM21] at hG20 ⊢
          replace H := H M21 eM21
          exact T_vret dX12_qFact_105 rfl ⟨rfl, hG20, rfl, H⟩
        refine T_icmp_ne (pc' := 89) dX12_qFact_81 (by decide) (pf := 84) rfl (fun c22 => ?_) (fun c22 => ?_)
        · skip
          refine T_iload_n (i := 1) (pc' := 90) dX12_qFact_89 rfl rfl rfl ?_
          refine T_bipush (pc' := 92) dX12_qFact_90 rfl (by decide) rfl ?_
          refine T_icmp_ne (pc' := 100) dX12_qFact_92 (by decide) (pf := 95) rfl (fun c23 => ?_) (fun c23 => ?_)
          · skip
            refine T_bipush (pc' := 102) dX12_qFact_100 rfl (by decide) rfl ?_
            exact T_wk (L' := [(3, 0), (3, 0)]) (by have q := HJ18; try simp only [if_neg c22] at q ⊢; try simp only [if_neg c23] at q ⊢; exact q) ⟨Or.inl rfl, Or.inl rfl, trivial⟩
          · skip
            refine T_bipush (pc' := 97) dX12_qFact_95 rfl (by decide) rfl ?_
            refine T_goto (pc' := 102) dX12_qFact_97 (by decide) ?_
            exact T_wk (L' := [(3, 0), (3, 0)]) (by have q := HJ18; try simp only [if_neg c22] at q ⊢; try simp only [if_pos c23] at q ⊢; exact q) ⟨Or.inl rfl, Or.inl rfl, trivial⟩
        · skip
          refine T_bipush (pc' := 86) dX12_qFact_84 rfl (by decide) rfl ?_
          refine T_goto (pc' := 102) dX12_qFact_86 (by decide) ?_
          exact T_wk (L' := [(3, 0), (3, 0)]) (by have q := HJ18; try simp only [if_pos c22] at q ⊢; exact q) ⟨Or.inl rfl, Or.inl rfl, trivial⟩
      · skip
        replace H := H.2 c12
        refine T_iload_n (i := 1) (pc' := 42) dX12_qFact_41 rfl rfl rfl ?_
        refine T_bipush (pc' := 44) dX12_qFact_42 rfl (by decide) rfl ?_
        refine T_icmp_eq (pc' := 63) dX12_qFact_44 (by decide) (pf := 47) rfl (fun c24 => ?_) (fun c24 => ?_)
        · skip
          replace H := H.1 c24
          refine T_aload_n (i := 0) (pc' := 64) dX12_qFact_63 rfl rfl rfl ?_
          refine T_dup (pc' := 65) dX12_qFact_64 (Nat.ne_of_beq_eq_false rfl) rfl ?_
          refine U_gf (v := (0, (M10 66 2))) (k := 2) (kI := 2) (pc' := 68) dX12_qFact_65 rfl cl12 (by decide) rfl (by decide) flX12_207 rfl rfl (by decide) rfl rfl ?_
          refine T_iconst (pc' := 69) dX12_qFact_68 (by decide) rfl ?_
          refine T_iadd (pc' := 70) dX12_qFact_69 rfl ?_
          refine U_pf (y := (wr32 ((M10 66 2) + 1))) (k := 2) (kI := 2) (pc' := 73) dX12_qFact_70 rfl cl12 (by decide) rfl (by decide) flX12_207 rfl rfl rfl rfl rfl (by decide) (fun z => z) rfl ?_
          have hG25 := (G_fld (x := 66) (i := 2) (y := (wr32 ((M10 66 2) + 1))) rfl (by decide) (by decide) (by decide) hG11)
          obtain ⟨M26, eM26⟩ : ∃ m : Mem, m = (mset M10 66 2 (wr32 ((M10 66 2) + 1))) := ⟨_, rfl⟩
          rw [← eM26] at hG25 ⊢
          replace H := H M26 eM26
          refine T_aload_n (i := 0) (pc' := 74) dX12_qFact_73 rfl rfl rfl ?_
          refine T_callV (av := []) (st := []) (d2 := 7) (nc2 := 0) (ns2 := 0) (pc' := 77) dX12_qFact_74 rfl mtX12_qSums mvX12_qSums mlX12_568 cl12 rfl rfl rfl (Nat.le_of_ble_eq_true rfl) (by decide) ⟨by decide, by decide⟩ rfl (pX12_qSums (E := E) (h := h) (M := M26) H hG25) ?_
          rintro _ _ M28 ⟨rfl, hG29, rfl, H⟩ _
          refine T_aload_n (i := 0) (pc' := 78) dX12_qFact_77 rfl rfl rfl ?_
          refine T_iload_n (i := 1) (pc' := 79) dX12_qFact_78 rfl rfl rfl ?_
          refine T_bipush (pc' := 81) dX12_qFact_79 rfl (by decide) rfl ?_
          have HJ30 : T E miX12_qFact 8 126 0 0 (fun r S M' => S = S0 ∧ G h M' ∧ RV Q r M') 102 [(3, 0), (3, 0)] [(0, (if a9 = 60 then (7 : Int) else (if a9 = 62 then (8 : Int) else 9))), (2, 66)] S0 M28 0 0 := by
            obtain ⟨z31, H⟩ := H
            refine T_callV (av := [(0, (if a9 = 60 then (7 : Int) else (if a9 = 62 then (8 : Int) else 9)))]) (st := []) (d2 := 1) (nc2 := 0) (ns2 := 0) (pc' := 105) dX12_qFact_102 rfl mtX12_qCode mvX12_qCode mlX12_526 cl12 rfl rfl rfl (Nat.le_of_ble_eq_true rfl) (by decide) ⟨by decide, by decide⟩ rfl (pX12_qCode (E := E) (h := h) (M := M28) (v1 := (if a9 = 60 then (7 : Int) else (if a9 = 62 then (8 : Int) else 9))) z31 hG29) (kF (st2 := []) rfl (fun hG32 => ?_))
            obtain ⟨M33, eM33⟩ : ∃ m : Mem, m = (fmX12_qCode M28 (if a9 = 60 then (7 : Int) else (if a9 = 62 then (8 : Int) else 9))) := ⟨_, rfl⟩
            rw [← eM33] at hG32 ⊢
            replace H := H M33 eM33
            exact T_vret dX12_qFact_105 rfl ⟨rfl, hG32, rfl, H⟩
          refine T_icmp_ne (pc' := 89) dX12_qFact_81 (by decide) (pf := 84) rfl (fun c34 => ?_) (fun c34 => ?_)
          · skip
            refine T_iload_n (i := 1) (pc' := 90) dX12_qFact_89 rfl rfl rfl ?_
            refine T_bipush (pc' := 92) dX12_qFact_90 rfl (by decide) rfl ?_
            refine T_icmp_ne (pc' := 100) dX12_qFact_92 (by decide) (pf := 95) rfl (fun c35 => ?_) (fun c35 => ?_)
            · skip
              refine T_bipush (pc' := 102) dX12_qFact_100 rfl (by decide) rfl ?_
              exact T_wk (L' := [(3, 0), (3, 0)]) (by have q := HJ30; try simp only [if_neg c34] at q ⊢; try simp only [if_neg c35] at q ⊢; exact q) ⟨Or.inl rfl, Or.inl rfl, trivial⟩
            · skip
              refine T_bipush (pc' := 97) dX12_qFact_95 rfl (by decide) rfl ?_
              refine T_goto (pc' := 102) dX12_qFact_97 (by decide) ?_
              exact T_wk (L' := [(3, 0), (3, 0)]) (by have q := HJ30; try simp only [if_neg c34] at q ⊢; try simp only [if_pos c35] at q ⊢; exact q) ⟨Or.inl rfl, Or.inl rfl, trivial⟩
          · skip
            refine T_bipush (pc' := 86) dX12_qFact_84 rfl (by decide) rfl ?_
            refine T_goto (pc' := 102) dX12_qFact_86 (by decide) ?_
            exact T_wk (L' := [(3, 0), (3, 0)]) (by have q := HJ30; try simp only [if_pos c34] at q ⊢; exact q) ⟨Or.inl rfl, Or.inl rfl, trivial⟩
        · skip
          replace H := H.2 c24
          refine T_iload_n (i := 1) (pc' := 48) dX12_qFact_47 rfl rfl rfl ?_
          refine T_bipush (pc' := 50) dX12_qFact_48 rfl (by decide) rfl ?_
          refine T_icmp_eq (pc' := 63) dX12_qFact_50 (by decide) (pf := 53) rfl (fun c36 => ?_) (fun c36 => ?_)
          · skip
            replace H := H.1 c36
            refine T_aload_n (i := 0) (pc' := 64) dX12_qFact_63 rfl rfl rfl ?_
            refine T_dup (pc' := 65) dX12_qFact_64 (Nat.ne_of_beq_eq_false rfl) rfl ?_
            refine U_gf (v := (0, (M10 66 2))) (k := 2) (kI := 2) (pc' := 68) dX12_qFact_65 rfl cl12 (by decide) rfl (by decide) flX12_207 rfl rfl (by decide) rfl rfl ?_
            refine T_iconst (pc' := 69) dX12_qFact_68 (by decide) rfl ?_
            refine T_iadd (pc' := 70) dX12_qFact_69 rfl ?_
            refine U_pf (y := (wr32 ((M10 66 2) + 1))) (k := 2) (kI := 2) (pc' := 73) dX12_qFact_70 rfl cl12 (by decide) rfl (by decide) flX12_207 rfl rfl rfl rfl rfl (by decide) (fun z => z) rfl ?_
            have hG37 := (G_fld (x := 66) (i := 2) (y := (wr32 ((M10 66 2) + 1))) rfl (by decide) (by decide) (by decide) hG11)
            obtain ⟨M38, eM38⟩ : ∃ m : Mem, m = (mset M10 66 2 (wr32 ((M10 66 2) + 1))) := ⟨_, rfl⟩
            rw [← eM38] at hG37 ⊢
            replace H := H M38 eM38
            refine T_aload_n (i := 0) (pc' := 74) dX12_qFact_73 rfl rfl rfl ?_
            refine T_callV (av := []) (st := []) (d2 := 7) (nc2 := 0) (ns2 := 0) (pc' := 77) dX12_qFact_74 rfl mtX12_qSums mvX12_qSums mlX12_568 cl12 rfl rfl rfl (Nat.le_of_ble_eq_true rfl) (by decide) ⟨by decide, by decide⟩ rfl (pX12_qSums (E := E) (h := h) (M := M38) H hG37) ?_
            rintro _ _ M40 ⟨rfl, hG41, rfl, H⟩ _
            refine T_aload_n (i := 0) (pc' := 78) dX12_qFact_77 rfl rfl rfl ?_
            refine T_iload_n (i := 1) (pc' := 79) dX12_qFact_78 rfl rfl rfl ?_
            refine T_bipush (pc' := 81) dX12_qFact_79 rfl (by decide) rfl ?_
            have HJ42 : T E miX12_qFact 8 126 0 0 (fun r S M' => S = S0 ∧ G h M' ∧ RV Q r M') 102 [(3, 0), (3, 0)] [(0, (if a9 = 60 then (7 : Int) else (if a9 = 62 then (8 : Int) else 9))), (2, 66)] S0 M40 0 0 := by
              obtain ⟨z43, H⟩ := H
              refine T_callV (av := [(0, (if a9 = 60 then (7 : Int) else (if a9 = 62 then (8 : Int) else 9)))]) (st := []) (d2 := 1) (nc2 := 0) (ns2 := 0) (pc' := 105) dX12_qFact_102 rfl mtX12_qCode mvX12_qCode mlX12_526 cl12 rfl rfl rfl (Nat.le_of_ble_eq_true rfl) (by decide) ⟨by decide, by decide⟩ rfl (pX12_qCode (E := E) (h := h) (M := M40) (v1 := (if a9 = 60 then (7 : Int) else (if a9 = 62 then (8 : Int) else 9))) z43 hG41) (kF (st2 := []) rfl (fun hG44 => ?_))
              obtain ⟨M45, eM45⟩ : ∃ m : Mem, m = (fmX12_qCode M40 (if a9 = 60 then (7 : Int) else (if a9 = 62 then (8 : Int) else 9))) := ⟨_, rfl⟩
              rw [← eM45] at hG44 ⊢
              replace H := H M45 eM45
              exact T_vret dX12_qFact_105 rfl ⟨rfl, hG44, rfl, H⟩
            refine T_icmp_ne (pc' := 89) dX12_qFact_81 (by decide) (pf := 84) rfl (fun c46 => ?_) (fun c46 => ?_)
            · skip
              refine T_iload_n (i := 1) (pc' := 90) dX12_qFact_89 rfl rfl rfl ?_
              refine T_bipush (pc' := 92) dX12_qFact_90 rfl (by decide) rfl ?_
              refine T_icmp_ne (pc' := 100) dX12_qFact_92 (by decide) (pf := 95) rfl (fun c47 => ?_) (fun c47 => ?_)
              · skip
                refine T_bipush (pc' := 102) dX12_qFact_100 rfl (by decide) rfl ?_
                exact T_wk (L' := [(3, 0), (3, 0)]) (by have q := HJ42; try simp only [if_neg c46] at q ⊢; try simp only [if_neg c47] at q ⊢; exact q) ⟨Or.inl rfl, Or.inl rfl, trivial⟩
              · skip
                refine T_bipush (pc' := 97) dX12_qFact_95 rfl (by decide) rfl ?_
                refine T_goto (pc' := 102) dX12_qFact_97 (by decide) ?_
                exact T_wk (L' := [(3, 0), (3, 0)]) (by have q := HJ42; try simp only [if_neg c46] at q ⊢; try simp only [if_pos c47] at q ⊢; exact q) ⟨Or.inl rfl, Or.inl rfl, trivial⟩
            · skip
              refine T_bipush (pc' := 86) dX12_qFact_84 rfl (by decide) rfl ?_
              refine T_goto (pc' := 102) dX12_qFact_86 (by decide) ?_
              exact T_wk (L' := [(3, 0), (3, 0)]) (by have q := HJ42; try simp only [if_pos c46] at q ⊢; exact q) ⟨Or.inl rfl, Or.inl rfl, trivial⟩
          · skip
            replace H := H.2 c36
            refine T_aload_n (i := 0) (pc' := 54) dX12_qFact_53 rfl rfl rfl ?_
            refine T_iconst (pc' := 55) dX12_qFact_54 (by decide) rfl ?_
            refine T_aload_n (i := 0) (pc' := 56) dX12_qFact_55 rfl rfl rfl ?_
            refine U_gf (v := (0, (M10 66 2))) (k := 2) (kI := 2) (pc' := 59) dX12_qFact_56 rfl cl12 (by decide) rfl (by decide) flX12_207 rfl rfl (by decide) rfl rfl ?_
            refine T_callV (av := [(0, 1), (0, (M10 66 2))]) (st := []) (d2 := 1) (nc2 := 0) (ns2 := 0) (pc' := 62) dX12_qFact_59 rfl mtX12_fail mvX12_fail mlX12_231 cl12 rfl rfl rfl (Nat.le_of_ble_eq_true rfl) (by decide) ⟨by decide, by decide⟩ rfl (pX12_fail (E := E) (h := h) (M := M10) (v1 := 1) (v2 := (M10 66 2)) hG11) (kF (st2 := []) rfl (fun hG48 => ?_))
            obtain ⟨M49, eM49⟩ : ∃ m : Mem, m = (fmX12_fail M10 1 (M10 66 2)) := ⟨_, rfl⟩
            rw [← eM49] at hG48 ⊢
            replace H := H M49 eM49
            exact T_vret dX12_qFact_62 rfl ⟨rfl, hG48, rfl, H⟩
    · skip
      replace H := H.2 c8
      exact T_vret dX12_qFact_29 rfl ⟨rfl, hG7, rfl, H⟩
  · skip
    replace H := H.2 c4
    refine T_aload_n (i := 0) (pc' := 12) dX12_qFact_11 rfl rfl rfl ?_
    refine T_bipush (pc' := 14) dX12_qFact_12 rfl (by decide) rfl ?_
    obtain ⟨z50, H⟩ := H
    refine T_callV (av := [(0, 13)]) (st := []) (d2 := 1) (nc2 := 0) (ns2 := 0) (pc' := 17) dX12_qFact_14 rfl mtX12_qCode mvX12_qCode mlX12_526 cl12 rfl rfl rfl (Nat.le_of_ble_eq_true rfl) (by decide) ⟨by decide, by decide⟩ rfl (pX12_qCode (E := E) (h := h) (M := M2) (v1 := 13) z50 hG3) (kF (st2 := []) rfl (fun hG51 => ?_))
    obtain ⟨M52, eM52⟩ : ∃ m : Mem, m = (fmX12_qCode M2 13) := ⟨_, rfl⟩
    rw [← eM52] at hG51 ⊢
    replace H := H M52 eM52
    exact T_vret dX12_qFact_17 rfl ⟨rfl, hG51, rfl, H⟩
def PX12_qDropsNots_0  (K : Mem → Prop) (Q : Int → Mem → Prop) : Nat → Mem → Prop
  | 0 => fun _ => False
  | k + 1 => fun M => (((M 66 5) = 0 → (nX12_qIsOn M) ∧ (((fX12_qIsOn M 12) = 0 → K M) ∧ (¬ ((fX12_qIsOn M 12) = 0) → (∀ M6 : Mem, M6 = (mset M 66 82 (wr32 ((M 66 82) - 1))) → (nX12_qDrops M6) ∧ (∀ M9 : Mem, M9 = (fmX12_qDrops M6) → PX12_qDropsNots_0  K Q k M9))))) ∧ (¬ ((M 66 5) = 0) → K M))
def PX12_qDropsNots  (M : Mem) (Q : Int → Mem → Prop) : Prop :=
  (∃ k1 : Nat, PX12_qDropsNots_0 (fun M2 => Q 0 M2) Q k1 M)
set_option maxRecDepth 100000 in
set_option maxHeartbeats 2000000 in
theorem qX12_qDropsNots_0 {E : EV} {h : Int}   {K : Mem → Prop} {Q : Int → Mem → Prop} (hK : ∀ (M : Mem), K M → G h M → TG E miX12_qDropsNots 3 h (RV Q) 33 [(2, 66)] [] M) : ∀ (k : Nat) (M : Mem), PX12_qDropsNots_0  K Q k M → G h M → TG E miX12_qDropsNots 3 h (RV Q) 0 [(2, 66)] [] M := by
  intro k
  induction k with
  | zero =>
    intro M H
    exact False.elim H
  | succ k ih =>
    intro M H hG
    refine T_aload_n (i := 0) (pc' := 1) dX12_qDropsNots_0 rfl rfl rfl ?_
    refine U_gf (v := (0, (M 66 5))) (k := 5) (kI := 5) (pc' := 4) dX12_qDropsNots_1 rfl cl12 (by decide) rfl (by decide) flX12_201 rfl rfl (by decide) rfl rfl ?_
    refine T_if_ne (pc' := 33) dX12_qDropsNots_4 (by decide) (pf := 7) rfl (fun c1 => ?_) (fun c1 => ?_)
    · skip
      replace H := H.2 c1
      exact T_wk (L' := [(2, 66)]) (hK _ H hG) ⟨Or.inr rfl, trivial⟩
    · skip
      replace H := H.1 c1
      refine T_aload_n (i := 0) (pc' := 8) dX12_qDropsNots_7 rfl rfl rfl ?_
      refine T_bipush (pc' := 10) dX12_qDropsNots_8 rfl (by decide) rfl ?_
      obtain ⟨z2, H⟩ := H
      refine T_callV (av := [(0, 12)]) (st := []) (d2 := 1) (nc2 := 0) (ns2 := 0) (pc' := 13) dX12_qDropsNots_10 rfl mtX12_qIsOn mvX12_qIsOn mlX12_559 cl12 rfl rfl rfl (Nat.le_of_ble_eq_true rfl) (by decide) ⟨by decide, by decide⟩ rfl (pX12_qIsOn (E := E) (h := h) (M := M) (v1 := 12) z2 hG) (kF (st2 := [(0, (fX12_qIsOn M 12))]) rfl (fun hG3 => ?_))
      refine T_if_eq (pc' := 33) dX12_qDropsNots_13 (by decide) (pf := 16) rfl (fun c4 => ?_) (fun c4 => ?_)
      · skip
        replace H := H.1 c4
        exact T_wk (L' := [(2, 66)]) (hK _ H hG) ⟨Or.inr rfl, trivial⟩
      · skip
        replace H := H.2 c4
        refine T_aload_n (i := 0) (pc' := 17) dX12_qDropsNots_16 rfl rfl rfl ?_
        refine T_dup (pc' := 18) dX12_qDropsNots_17 (Nat.ne_of_beq_eq_false rfl) rfl ?_
        refine U_gf (v := (0, (M 66 82))) (k := 82) (kI := 82) (pc' := 21) dX12_qDropsNots_18 rfl cl12 (by decide) rfl (by decide) flX12_520 rfl rfl (by decide) rfl rfl ?_
        refine T_iconst (pc' := 22) dX12_qDropsNots_21 (by decide) rfl ?_
        refine T_isub (pc' := 23) dX12_qDropsNots_22 rfl ?_
        refine U_pf (y := (wr32 ((M 66 82) - 1))) (k := 82) (kI := 82) (pc' := 26) dX12_qDropsNots_23 rfl cl12 (by decide) rfl (by decide) flX12_520 rfl rfl rfl rfl rfl (by decide) (fun z => z) rfl ?_
        have hG5 := (G_fld (x := 66) (i := 82) (y := (wr32 ((M 66 82) - 1))) rfl (by decide) (by decide) (by decide) hG)
        obtain ⟨M6, eM6⟩ : ∃ m : Mem, m = (mset M 66 82 (wr32 ((M 66 82) - 1))) := ⟨_, rfl⟩
        rw [← eM6] at hG5 ⊢
        replace H := H M6 eM6
        refine T_aload_n (i := 0) (pc' := 27) dX12_qDropsNots_26 rfl rfl rfl ?_
        obtain ⟨z7, H⟩ := H
        refine T_callV (av := []) (st := []) (d2 := 2) (nc2 := 0) (ns2 := 0) (pc' := 30) dX12_qDropsNots_27 rfl mtX12_qDrops mvX12_qDrops mlX12_535 cl12 rfl rfl rfl (Nat.le_of_ble_eq_true rfl) (by decide) ⟨by decide, by decide⟩ rfl (pX12_qDrops (E := E) (h := h) (M := M6) z7 hG5) (kF (st2 := []) rfl (fun hG8 => ?_))
        obtain ⟨M9, eM9⟩ : ∃ m : Mem, m = (fmX12_qDrops M6) := ⟨_, rfl⟩
        rw [← eM9] at hG8 ⊢
        replace H := H M9 eM9
        refine T_goto (pc' := 0) dX12_qDropsNots_30 (by decide) ?_
        exact T_wk (L' := [(2, 66)]) (ih _ H hG8) ⟨Or.inr rfl, trivial⟩
set_option maxRecDepth 100000 in
set_option maxHeartbeats 2000000 in
theorem pX12_qDropsNots {E : EV} {h : Int} {M : Mem}   {Q : Int → Mem → Prop} (H : PX12_qDropsNots  M Q) : C2 E miX12_qDropsNots 3 h [(2, 66)] M (RV Q) := by
  refine C2_of (L := [(2, 66)]) (by decide +kernel) (Nat.le_of_ble_eq_true rfl) rfl (fun hG => ?_)
  obtain ⟨k1, H⟩ := H
  refine T_wk (L' := [(2, 66)]) (qX12_qDropsNots_0  (fun M2 H hG3 => ?_) _ _ H hG) ⟨Or.inr rfl, trivial⟩
  exact T_vret dX12_qDropsNots_33 rfl ⟨rfl, hG3, rfl, H⟩
def PX12_qGoesOnTest_33  (K : Mem → Prop) (Q : Int → Mem → Prop) : Nat → Mem → Prop
  | 0 => fun _ => False
  | k + 1 => fun M => (nX12_qIsOn M) ∧ (((fX12_qIsOn M 25) = 0 → (nX12_qDrops M) ∧ (∀ M6 : Mem, M6 = (fmX12_qDrops M) → PX12_qGoesOnTest_33  K Q k M6)) ∧ (¬ ((fX12_qIsOn M 25) = 0) → K M))
def PX12_qGoesOnTest_0  (K : Mem → Prop) (Q : Int → Mem → Prop) : Nat → Mem → Prop
  | 0 => fun _ => False
  | k + 1 => fun M => (((M 66 5) = 0 → PX12_look M (fun a2 M3 => ((a2 = 93 → (nX12_qHasSquare M3) ∧ (∀ a8 : Int, a8 = (fX12_qHasSquare M3) → ((a8 = 0 → K M3) ∧ (¬ (a8 = 0) → (∀ M11 : Mem, M11 = (mset M3 66 2 (wr32 ((M3 66 2) + 1))) → (∃ k12 : Nat, PX12_qGoesOnTest_33 (fun M13 => (∀ M16 : Mem, M16 = (mset M13 66 81 (wr32 ((M13 66 81) - 1))) → (∀ M18 : Mem, M18 = (mset M16 66 82 (wr32 ((M16 66 82) - 1))) → PX12_qDropsNots M18 (fun _ M20 => PX12_qGoesOnTest_0  K Q k M20)))) Q k12 M11)))))) ∧ (¬ (a2 = 93) → K M3)))) ∧ (¬ ((M 66 5) = 0) → K M))
def PX12_qGoesOnTest_137  (K : Mem → Prop) (Q : Int → Mem → Prop) : Nat → Mem → Prop
  | 0 => fun _ => False
  | k + 1 => fun M => (nX12_qIsOn M) ∧ (∃ j3 : Prop, (j3 → (nX12_qIsOn M) ∧ (((fX12_qIsOn M 11) = 0 → K M) ∧ (¬ ((fX12_qIsOn M 11) = 0) → (nX12_qDrops M) ∧ (∀ M10 : Mem, M10 = (fmX12_qDrops M) → PX12_qGoesOnTest_137  K Q k M10)))) ∧ (((fX12_qIsOn M 10) = 0 → j3) ∧ (¬ ((fX12_qIsOn M 10) = 0) → (nX12_qDrops M) ∧ (∀ M14 : Mem, M14 = (fmX12_qDrops M) → PX12_qGoesOnTest_137  K Q k M14))))
def PX12_qGoesOnTest_87  (K : Mem → Prop) (Q : Int → Mem → Prop) : Nat → Mem → Prop
  | 0 => fun _ => False
  | k + 1 => fun M => (nX12_qIsOn M) ∧ (((fX12_qIsOn M 10) = 0 → K M) ∧ (¬ ((fX12_qIsOn M 10) = 0) → (nX12_qDrops M) ∧ (∀ M6 : Mem, M6 = (fmX12_qDrops M) → PX12_qGoesOnTest_87  K Q k M6)))
def PX12_qGoesOnTest  (M : Mem) (Q : Int → Mem → Prop) : Prop :=
  (∃ k1 : Nat, PX12_qGoesOnTest_0 (fun M2 => PX12_takes 109 3 M2 (fun a4 M5 => ((a4 = 0 → PX12_takes 110 2 M5 (fun a8 M9 => ((a8 = 0 → (((M9 66 5) = 0 → (nX12_qHasSquare M9) ∧ (∀ a15 : Int, a15 = (fX12_qHasSquare M9) → ((a15 = 0 → Q 0 M9) ∧ (¬ (a15 = 0) → (∀ M18 : Mem, M18 = (fmX12_fail M9 1 (M9 66 2)) → Q 0 M18))))) ∧ (¬ ((M9 66 5) = 0) → Q 0 M9))) ∧ (¬ (a8 = 0) → (∃ k19 : Nat, PX12_qGoesOnTest_137 (fun M20 => 0 ≤ (M20 66 81) ∧ (M20 66 81) < 1700 ∧ (∀ M23 : Mem, M23 = (mset M20 123 (M20 66 81) 11) → (∀ M25 : Mem, M25 = (mset M23 66 81 (wr32 ((M23 66 81) + 1))) → Q 1 M25))) Q k19 M9))))) ∧ (¬ (a4 = 0) → (∃ k26 : Nat, PX12_qGoesOnTest_87 (fun M27 => 0 ≤ (M27 66 81) ∧ (M27 66 81) < 1700 ∧ (∀ M30 : Mem, M30 = (mset M27 123 (M27 66 81) 10) → (∀ M32 : Mem, M32 = (mset M30 66 81 (wr32 ((M30 66 81) + 1))) → Q 1 M32))) Q k26 M5))))) Q k1 M)
set_option maxRecDepth 100000 in
set_option maxHeartbeats 2000000 in
theorem qX12_qGoesOnTest_33 {E : EV} {h : Int}   {K : Mem → Prop} {Q : Int → Mem → Prop} (hK : ∀ (M : Mem), K M → G h M → TG E miX12_qGoesOnTest 4 h (RI 0 Q) 49 [(2, 66)] [] M) : ∀ (k : Nat) (M : Mem), PX12_qGoesOnTest_33  K Q k M → G h M → TG E miX12_qGoesOnTest 4 h (RI 0 Q) 33 [(2, 66)] [] M := by
  intro k
  induction k with
  | zero =>
    intro M H
    exact False.elim H
  | succ k ih =>
    intro M H hG
    refine T_aload_n (i := 0) (pc' := 34) dX12_qGoesOnTest_33 rfl rfl rfl ?_
    refine T_bipush (pc' := 36) dX12_qGoesOnTest_34 rfl (by decide) rfl ?_
    obtain ⟨z1, H⟩ := H
    refine T_callV (av := [(0, 25)]) (st := []) (d2 := 1) (nc2 := 0) (ns2 := 0) (pc' := 39) dX12_qGoesOnTest_36 rfl mtX12_qIsOn mvX12_qIsOn mlX12_559 cl12 rfl rfl rfl (Nat.le_of_ble_eq_true rfl) (by decide) ⟨by decide, by decide⟩ rfl (pX12_qIsOn (E := E) (h := h) (M := M) (v1 := 25) z1 hG) (kF (st2 := [(0, (fX12_qIsOn M 25))]) rfl (fun hG2 => ?_))
    refine T_if_ne (pc' := 49) dX12_qGoesOnTest_39 (by decide) (pf := 42) rfl (fun c3 => ?_) (fun c3 => ?_)
    · skip
      replace H := H.2 c3
      exact T_wk (L' := [(2, 66)]) (hK _ H hG) ⟨Or.inr rfl, trivial⟩
    · skip
      replace H := H.1 c3
      refine T_aload_n (i := 0) (pc' := 43) dX12_qGoesOnTest_42 rfl rfl rfl ?_
      obtain ⟨z4, H⟩ := H
      refine T_callV (av := []) (st := []) (d2 := 2) (nc2 := 0) (ns2 := 0) (pc' := 46) dX12_qGoesOnTest_43 rfl mtX12_qDrops mvX12_qDrops mlX12_535 cl12 rfl rfl rfl (Nat.le_of_ble_eq_true rfl) (by decide) ⟨by decide, by decide⟩ rfl (pX12_qDrops (E := E) (h := h) (M := M) z4 hG) (kF (st2 := []) rfl (fun hG5 => ?_))
      obtain ⟨M6, eM6⟩ : ∃ m : Mem, m = (fmX12_qDrops M) := ⟨_, rfl⟩
      rw [← eM6] at hG5 ⊢
      replace H := H M6 eM6
      refine T_goto (pc' := 33) dX12_qGoesOnTest_46 (by decide) ?_
      exact T_wk (L' := [(2, 66)]) (ih _ H hG5) ⟨Or.inr rfl, trivial⟩
set_option maxRecDepth 100000 in
set_option maxHeartbeats 2000000 in
theorem qX12_qGoesOnTest_0 {E : EV} {h : Int}   {K : Mem → Prop} {Q : Int → Mem → Prop} (hK : ∀ (M : Mem), K M → G h M → TG E miX12_qGoesOnTest 4 h (RI 0 Q) 76 [(2, 66)] [] M) : ∀ (k : Nat) (M : Mem), PX12_qGoesOnTest_0  K Q k M → G h M → TG E miX12_qGoesOnTest 4 h (RI 0 Q) 0 [(2, 66)] [] M := by
  intro k
  induction k with
  | zero =>
    intro M H
    exact False.elim H
  | succ k ih =>
    intro M H hG
    refine T_aload_n (i := 0) (pc' := 1) dX12_qGoesOnTest_0 rfl rfl rfl ?_
    refine U_gf (v := (0, (M 66 5))) (k := 5) (kI := 5) (pc' := 4) dX12_qGoesOnTest_1 rfl cl12 (by decide) rfl (by decide) flX12_201 rfl rfl (by decide) rfl rfl ?_
    refine T_if_ne (pc' := 76) dX12_qGoesOnTest_4 (by decide) (pf := 7) rfl (fun c1 => ?_) (fun c1 => ?_)
    · skip
      replace H := H.2 c1
      exact T_wk (L' := [(2, 66)]) (hK _ H hG) ⟨Or.inr rfl, trivial⟩
    · skip
      replace H := H.1 c1
      refine T_aload_n (i := 0) (pc' := 8) dX12_qGoesOnTest_7 rfl rfl rfl ?_
      refine T_callV (av := []) (st := []) (d2 := 1) (nc2 := 0) (ns2 := 0) (pc' := 11) dX12_qGoesOnTest_8 rfl mtX12_look mvX12_look mlX12_213 cl12 rfl rfl rfl (Nat.le_of_ble_eq_true rfl) (by decide) ⟨by decide, by decide⟩ rfl (pX12_look (E := E) (h := h) (M := M) H hG) ?_
      rintro _ _ M3 ⟨rfl, hG4, a2, rfl, H⟩ _
      refine T_bipush (pc' := 13) dX12_qGoesOnTest_11 rfl (by decide) rfl ?_
      refine T_icmp_ne (pc' := 76) dX12_qGoesOnTest_13 (by decide) (pf := 16) rfl (fun c5 => ?_) (fun c5 => ?_)
      · skip
        replace H := H.2 c5
        exact T_wk (L' := [(2, 66)]) (hK _ H hG4) ⟨Or.inr rfl, trivial⟩
      · skip
        replace H := H.1 c5
        refine T_aload_n (i := 0) (pc' := 17) dX12_qGoesOnTest_16 rfl rfl rfl ?_
        obtain ⟨z6, H⟩ := H
        refine T_callV (av := []) (st := []) (d2 := 1) (nc2 := 0) (ns2 := 0) (pc' := 20) dX12_qGoesOnTest_17 rfl mtX12_qHasSquare mvX12_qHasSquare mlX12_580 cl12 rfl rfl rfl (Nat.le_of_ble_eq_true rfl) (by decide) ⟨by decide, by decide⟩ rfl (pX12_qHasSquare (E := E) (h := h) (M := M3) z6 hG4) (kF (st2 := [(0, (fX12_qHasSquare M3))]) rfl (fun hG7 => ?_))
        obtain ⟨a8, ea8⟩ : ∃ z : Int, z = (fX12_qHasSquare M3) := ⟨_, rfl⟩
        rw [← ea8]
        replace H := H a8 ea8
        refine T_if_eq (pc' := 76) dX12_qGoesOnTest_20 (by decide) (pf := 23) rfl (fun c9 => ?_) (fun c9 => ?_)
        · skip
          replace H := H.1 c9
          exact T_wk (L' := [(2, 66)]) (hK _ H hG4) ⟨Or.inr rfl, trivial⟩
        · skip
          replace H := H.2 c9
          refine T_aload_n (i := 0) (pc' := 24) dX12_qGoesOnTest_23 rfl rfl rfl ?_
          refine T_dup (pc' := 25) dX12_qGoesOnTest_24 (Nat.ne_of_beq_eq_false rfl) rfl ?_
          refine U_gf (v := (0, (M3 66 2))) (k := 2) (kI := 2) (pc' := 28) dX12_qGoesOnTest_25 rfl cl12 (by decide) rfl (by decide) flX12_207 rfl rfl (by decide) rfl rfl ?_
          refine T_iconst (pc' := 29) dX12_qGoesOnTest_28 (by decide) rfl ?_
          refine T_iadd (pc' := 30) dX12_qGoesOnTest_29 rfl ?_
          refine U_pf (y := (wr32 ((M3 66 2) + 1))) (k := 2) (kI := 2) (pc' := 33) dX12_qGoesOnTest_30 rfl cl12 (by decide) rfl (by decide) flX12_207 rfl rfl rfl rfl rfl (by decide) (fun z => z) rfl ?_
          have hG10 := (G_fld (x := 66) (i := 2) (y := (wr32 ((M3 66 2) + 1))) rfl (by decide) (by decide) (by decide) hG4)
          obtain ⟨M11, eM11⟩ : ∃ m : Mem, m = (mset M3 66 2 (wr32 ((M3 66 2) + 1))) := ⟨_, rfl⟩
          rw [← eM11] at hG10 ⊢
          replace H := H M11 eM11
          obtain ⟨k12, H⟩ := H
          refine T_wk (L' := [(2, 66)]) (qX12_qGoesOnTest_33  (fun M13 H hG14 => ?_) _ _ H hG10) ⟨Or.inr rfl, trivial⟩
          refine T_aload_n (i := 0) (pc' := 50) dX12_qGoesOnTest_49 rfl rfl rfl ?_
          refine T_dup (pc' := 51) dX12_qGoesOnTest_50 (Nat.ne_of_beq_eq_false rfl) rfl ?_
          refine U_gf (v := (0, (M13 66 81))) (k := 81) (kI := 81) (pc' := 54) dX12_qGoesOnTest_51 rfl cl12 (by decide) rfl (by decide) flX12_523 rfl rfl (by decide) rfl rfl ?_
          refine T_iconst (pc' := 55) dX12_qGoesOnTest_54 (by decide) rfl ?_
          refine T_isub (pc' := 56) dX12_qGoesOnTest_55 rfl ?_
          refine U_pf (y := (wr32 ((M13 66 81) - 1))) (k := 81) (kI := 81) (pc' := 59) dX12_qGoesOnTest_56 rfl cl12 (by decide) rfl (by decide) flX12_523 rfl rfl rfl rfl rfl (by decide) (fun z => z) rfl ?_
          have hG15 := (G_fld (x := 66) (i := 81) (y := (wr32 ((M13 66 81) - 1))) rfl (by decide) (by decide) (by decide) hG14)
          obtain ⟨M16, eM16⟩ : ∃ m : Mem, m = (mset M13 66 81 (wr32 ((M13 66 81) - 1))) := ⟨_, rfl⟩
          rw [← eM16] at hG15 ⊢
          replace H := H M16 eM16
          refine T_aload_n (i := 0) (pc' := 60) dX12_qGoesOnTest_59 rfl rfl rfl ?_
          refine T_dup (pc' := 61) dX12_qGoesOnTest_60 (Nat.ne_of_beq_eq_false rfl) rfl ?_
          refine U_gf (v := (0, (M16 66 82))) (k := 82) (kI := 82) (pc' := 64) dX12_qGoesOnTest_61 rfl cl12 (by decide) rfl (by decide) flX12_520 rfl rfl (by decide) rfl rfl ?_
          refine T_iconst (pc' := 65) dX12_qGoesOnTest_64 (by decide) rfl ?_
          refine T_isub (pc' := 66) dX12_qGoesOnTest_65 rfl ?_
          refine U_pf (y := (wr32 ((M16 66 82) - 1))) (k := 82) (kI := 82) (pc' := 69) dX12_qGoesOnTest_66 rfl cl12 (by decide) rfl (by decide) flX12_520 rfl rfl rfl rfl rfl (by decide) (fun z => z) rfl ?_
          have hG17 := (G_fld (x := 66) (i := 82) (y := (wr32 ((M16 66 82) - 1))) rfl (by decide) (by decide) (by decide) hG15)
          obtain ⟨M18, eM18⟩ : ∃ m : Mem, m = (mset M16 66 82 (wr32 ((M16 66 82) - 1))) := ⟨_, rfl⟩
          rw [← eM18] at hG17 ⊢
          replace H := H M18 eM18
          refine T_aload_n (i := 0) (pc' := 70) dX12_qGoesOnTest_69 rfl rfl rfl ?_
          refine T_callV (av := []) (st := []) (d2 := 3) (nc2 := 0) (ns2 := 0) (pc' := 73) dX12_qGoesOnTest_70 rfl mtX12_qDropsNots mvX12_qDropsNots mlX12_574 cl12 rfl rfl rfl (Nat.le_of_ble_eq_true rfl) (by decide) ⟨by decide, by decide⟩ rfl (pX12_qDropsNots (E := E) (h := h) (M := M18) H hG17) ?_
          rintro _ _ M20 ⟨rfl, hG21, rfl, H⟩ _
          refine T_goto (pc' := 0) dX12_qGoesOnTest_73 (by decide) ?_
          exact T_wk (L' := [(2, 66)]) (ih _ H hG21) ⟨Or.inr rfl, trivial⟩
set_option maxRecDepth 100000 in
set_option maxHeartbeats 2000000 in
theorem qX12_qGoesOnTest_137 {E : EV} {h : Int}   {K : Mem → Prop} {Q : Int → Mem → Prop} (hK : ∀ (M : Mem), K M → G h M → TG E miX12_qGoesOnTest 4 h (RI 0 Q) 162 [(2, 66)] [] M) : ∀ (k : Nat) (M : Mem), PX12_qGoesOnTest_137  K Q k M → G h M → TG E miX12_qGoesOnTest 4 h (RI 0 Q) 137 [(2, 66)] [] M := by
  intro k
  induction k with
  | zero =>
    intro M H
    exact False.elim H
  | succ k ih =>
    intro M H hG
    refine T_aload_n (i := 0) (pc' := 138) dX12_qGoesOnTest_137 rfl rfl rfl ?_
    refine T_bipush (pc' := 140) dX12_qGoesOnTest_138 rfl (by decide) rfl ?_
    obtain ⟨z1, H⟩ := H
    refine T_callV (av := [(0, 10)]) (st := []) (d2 := 1) (nc2 := 0) (ns2 := 0) (pc' := 143) dX12_qGoesOnTest_140 rfl mtX12_qIsOn mvX12_qIsOn mlX12_559 cl12 rfl rfl rfl (Nat.le_of_ble_eq_true rfl) (by decide) ⟨by decide, by decide⟩ rfl (pX12_qIsOn (E := E) (h := h) (M := M) (v1 := 10) z1 hG) (kF (st2 := [(0, (fX12_qIsOn M 10))]) rfl (fun hG2 => ?_))
    obtain ⟨j3, hj3, H⟩ := H
    have qj3 : j3 → G h M → TG E miX12_qGoesOnTest 4 h (RI 0 Q) 146 [(2, 66)] [] M := by
      intro  H hG4
      replace H := hj3 H
      refine T_aload_n (i := 0) (pc' := 147) dX12_qGoesOnTest_146 rfl rfl rfl ?_
      refine T_bipush (pc' := 149) dX12_qGoesOnTest_147 rfl (by decide) rfl ?_
      obtain ⟨z5, H⟩ := H
      refine T_callV (av := [(0, 11)]) (st := []) (d2 := 1) (nc2 := 0) (ns2 := 0) (pc' := 152) dX12_qGoesOnTest_149 rfl mtX12_qIsOn mvX12_qIsOn mlX12_559 cl12 rfl rfl rfl (Nat.le_of_ble_eq_true rfl) (by decide) ⟨by decide, by decide⟩ rfl (pX12_qIsOn (E := E) (h := h) (M := M) (v1 := 11) z5 hG4) (kF (st2 := [(0, (fX12_qIsOn M 11))]) rfl (fun hG6 => ?_))
      refine T_if_eq (pc' := 162) dX12_qGoesOnTest_152 (by decide) (pf := 155) rfl (fun c7 => ?_) (fun c7 => ?_)
      · skip
        replace H := H.1 c7
        exact T_wk (L' := [(2, 66)]) (hK _ H hG4) ⟨Or.inr rfl, trivial⟩
      · skip
        replace H := H.2 c7
        refine T_aload_n (i := 0) (pc' := 156) dX12_qGoesOnTest_155 rfl rfl rfl ?_
        obtain ⟨z8, H⟩ := H
        refine T_callV (av := []) (st := []) (d2 := 2) (nc2 := 0) (ns2 := 0) (pc' := 159) dX12_qGoesOnTest_156 rfl mtX12_qDrops mvX12_qDrops mlX12_535 cl12 rfl rfl rfl (Nat.le_of_ble_eq_true rfl) (by decide) ⟨by decide, by decide⟩ rfl (pX12_qDrops (E := E) (h := h) (M := M) z8 hG4) (kF (st2 := []) rfl (fun hG9 => ?_))
        obtain ⟨M10, eM10⟩ : ∃ m : Mem, m = (fmX12_qDrops M) := ⟨_, rfl⟩
        rw [← eM10] at hG9 ⊢
        replace H := H M10 eM10
        refine T_goto (pc' := 137) dX12_qGoesOnTest_159 (by decide) ?_
        exact T_wk (L' := [(2, 66)]) (ih _ H hG9) ⟨Or.inr rfl, trivial⟩
    refine T_if_ne (pc' := 155) dX12_qGoesOnTest_143 (by decide) (pf := 146) rfl (fun c11 => ?_) (fun c11 => ?_)
    · skip
      replace H := H.2 c11
      refine T_aload_n (i := 0) (pc' := 156) dX12_qGoesOnTest_155 rfl rfl rfl ?_
      obtain ⟨z12, H⟩ := H
      refine T_callV (av := []) (st := []) (d2 := 2) (nc2 := 0) (ns2 := 0) (pc' := 159) dX12_qGoesOnTest_156 rfl mtX12_qDrops mvX12_qDrops mlX12_535 cl12 rfl rfl rfl (Nat.le_of_ble_eq_true rfl) (by decide) ⟨by decide, by decide⟩ rfl (pX12_qDrops (E := E) (h := h) (M := M) z12 hG) (kF (st2 := []) rfl (fun hG13 => ?_))
      obtain ⟨M14, eM14⟩ : ∃ m : Mem, m = (fmX12_qDrops M) := ⟨_, rfl⟩
      rw [← eM14] at hG13 ⊢
      replace H := H M14 eM14
      refine T_goto (pc' := 137) dX12_qGoesOnTest_159 (by decide) ?_
      exact T_wk (L' := [(2, 66)]) (ih _ H hG13) ⟨Or.inr rfl, trivial⟩
    · skip
      replace H := H.1 c11
      exact T_wk (L' := [(2, 66)]) (qj3 H hG) ⟨Or.inr rfl, trivial⟩
set_option maxRecDepth 100000 in
set_option maxHeartbeats 2000000 in
theorem qX12_qGoesOnTest_87 {E : EV} {h : Int}   {K : Mem → Prop} {Q : Int → Mem → Prop} (hK : ∀ (M : Mem), K M → G h M → TG E miX12_qGoesOnTest 4 h (RI 0 Q) 103 [(2, 66)] [] M) : ∀ (k : Nat) (M : Mem), PX12_qGoesOnTest_87  K Q k M → G h M → TG E miX12_qGoesOnTest 4 h (RI 0 Q) 87 [(2, 66)] [] M := by
  intro k
  induction k with
  | zero =>
    intro M H
    exact False.elim H
  | succ k ih =>
    intro M H hG
    refine T_aload_n (i := 0) (pc' := 88) dX12_qGoesOnTest_87 rfl rfl rfl ?_
    refine T_bipush (pc' := 90) dX12_qGoesOnTest_88 rfl (by decide) rfl ?_
    obtain ⟨z1, H⟩ := H
    refine T_callV (av := [(0, 10)]) (st := []) (d2 := 1) (nc2 := 0) (ns2 := 0) (pc' := 93) dX12_qGoesOnTest_90 rfl mtX12_qIsOn mvX12_qIsOn mlX12_559 cl12 rfl rfl rfl (Nat.le_of_ble_eq_true rfl) (by decide) ⟨by decide, by decide⟩ rfl (pX12_qIsOn (E := E) (h := h) (M := M) (v1 := 10) z1 hG) (kF (st2 := [(0, (fX12_qIsOn M 10))]) rfl (fun hG2 => ?_))
    refine T_if_eq (pc' := 103) dX12_qGoesOnTest_93 (by decide) (pf := 96) rfl (fun c3 => ?_) (fun c3 => ?_)
    · skip
      replace H := H.1 c3
      exact T_wk (L' := [(2, 66)]) (hK _ H hG) ⟨Or.inr rfl, trivial⟩
    · skip
      replace H := H.2 c3
      refine T_aload_n (i := 0) (pc' := 97) dX12_qGoesOnTest_96 rfl rfl rfl ?_
      obtain ⟨z4, H⟩ := H
      refine T_callV (av := []) (st := []) (d2 := 2) (nc2 := 0) (ns2 := 0) (pc' := 100) dX12_qGoesOnTest_97 rfl mtX12_qDrops mvX12_qDrops mlX12_535 cl12 rfl rfl rfl (Nat.le_of_ble_eq_true rfl) (by decide) ⟨by decide, by decide⟩ rfl (pX12_qDrops (E := E) (h := h) (M := M) z4 hG) (kF (st2 := []) rfl (fun hG5 => ?_))
      obtain ⟨M6, eM6⟩ : ∃ m : Mem, m = (fmX12_qDrops M) := ⟨_, rfl⟩
      rw [← eM6] at hG5 ⊢
      replace H := H M6 eM6
      refine T_goto (pc' := 87) dX12_qGoesOnTest_100 (by decide) ?_
      exact T_wk (L' := [(2, 66)]) (ih _ H hG5) ⟨Or.inr rfl, trivial⟩
set_option maxRecDepth 100000 in
set_option maxHeartbeats 2000000 in
theorem pX12_qGoesOnTest {E : EV} {h : Int} {M : Mem}   {Q : Int → Mem → Prop} (H : PX12_qGoesOnTest  M Q) : C2 E miX12_qGoesOnTest 4 h [(2, 66)] M (RI 0 Q) := by
  refine C2_of (L := [(2, 66)]) (by decide +kernel) (Nat.le_of_ble_eq_true rfl) rfl (fun hG => ?_)
  obtain ⟨k1, H⟩ := H
  refine T_wk (L' := [(2, 66)]) (qX12_qGoesOnTest_0  (fun M2 H hG3 => ?_) _ _ H hG) ⟨Or.inr rfl, trivial⟩
  refine T_aload_n (i := 0) (pc' := 77) dX12_qGoesOnTest_76 rfl rfl rfl ?_
  refine T_aload_n (i := 0) (pc' := 78) dX12_qGoesOnTest_77 rfl rfl rfl ?_
  refine U_gr (q := 109) (k := 65) (kI := 65) (pc' := 81) dX12_qGoesOnTest_78 rfl cl12 (by decide) rfl (by decide) flX12_147 rfl rfl rfl (G_at hG3 109 rfl) (by decide) rfl ?_
  refine T_callV (av := [(2, 109)]) (st := []) (d2 := 3) (nc2 := 0) (ns2 := 0) (pc' := 84) dX12_qGoesOnTest_81 rfl mtX12_takes mvX12_takes mlX12_228 cl12 rfl rfl rfl (Nat.le_of_ble_eq_true rfl) (by decide) ⟨by decide, by decide⟩ rfl (pX12_takes (E := E) (h := h) (M := M2) (p1 := 109) (np1 := 3) (by decide) rfl (by decide) H hG3) ?_
  rintro _ _ M5 ⟨rfl, hG6, a4, rfl, H⟩ _
  refine T_if_eq (pc' := 126) dX12_qGoesOnTest_84 (by decide) (pf := 87) rfl (fun c7 => ?_) (fun c7 => ?_)
  · skip
    replace H := H.1 c7
    refine T_aload_n (i := 0) (pc' := 127) dX12_qGoesOnTest_126 rfl rfl rfl ?_
    refine T_aload_n (i := 0) (pc' := 128) dX12_qGoesOnTest_127 rfl rfl rfl ?_
    refine U_gr (q := 110) (k := 66) (kI := 66) (pc' := 131) dX12_qGoesOnTest_128 rfl cl12 (by decide) rfl (by decide) flX12_150 rfl rfl rfl (G_at hG6 110 rfl) (by decide) rfl ?_
    refine T_callV (av := [(2, 110)]) (st := []) (d2 := 3) (nc2 := 0) (ns2 := 0) (pc' := 134) dX12_qGoesOnTest_131 rfl mtX12_takes mvX12_takes mlX12_228 cl12 rfl rfl rfl (Nat.le_of_ble_eq_true rfl) (by decide) ⟨by decide, by decide⟩ rfl (pX12_takes (E := E) (h := h) (M := M5) (p1 := 110) (np1 := 2) (by decide) rfl (by decide) H hG6) ?_
    rintro _ _ M9 ⟨rfl, hG10, a8, rfl, H⟩ _
    refine T_if_eq (pc' := 185) dX12_qGoesOnTest_134 (by decide) (pf := 137) rfl (fun c11 => ?_) (fun c11 => ?_)
    · skip
      replace H := H.1 c11
      refine T_aload_n (i := 0) (pc' := 186) dX12_qGoesOnTest_185 rfl rfl rfl ?_
      refine U_gf (v := (0, (M9 66 5))) (k := 5) (kI := 5) (pc' := 189) dX12_qGoesOnTest_186 rfl cl12 (by decide) rfl (by decide) flX12_201 rfl rfl (by decide) rfl rfl ?_
      refine T_if_ne (pc' := 208) dX12_qGoesOnTest_189 (by decide) (pf := 192) rfl (fun c12 => ?_) (fun c12 => ?_)
      · skip
        replace H := H.2 c12
        refine T_iconst (pc' := 209) dX12_qGoesOnTest_208 (by decide) rfl ?_
        exact T_zret dX12_qGoesOnTest_209 rfl (by decide) ⟨rfl, hG10, _, rfl, H⟩
      · skip
        replace H := H.1 c12
        refine T_aload_n (i := 0) (pc' := 193) dX12_qGoesOnTest_192 rfl rfl rfl ?_
        obtain ⟨z13, H⟩ := H
        refine T_callV (av := []) (st := []) (d2 := 1) (nc2 := 0) (ns2 := 0) (pc' := 196) dX12_qGoesOnTest_193 rfl mtX12_qHasSquare mvX12_qHasSquare mlX12_580 cl12 rfl rfl rfl (Nat.le_of_ble_eq_true rfl) (by decide) ⟨by decide, by decide⟩ rfl (pX12_qHasSquare (E := E) (h := h) (M := M9) z13 hG10) (kF (st2 := [(0, (fX12_qHasSquare M9))]) rfl (fun hG14 => ?_))
        obtain ⟨a15, ea15⟩ : ∃ z : Int, z = (fX12_qHasSquare M9) := ⟨_, rfl⟩
        rw [← ea15]
        replace H := H a15 ea15
        refine T_if_eq (pc' := 208) dX12_qGoesOnTest_196 (by decide) (pf := 199) rfl (fun c16 => ?_) (fun c16 => ?_)
        · skip
          replace H := H.1 c16
          refine T_iconst (pc' := 209) dX12_qGoesOnTest_208 (by decide) rfl ?_
          exact T_zret dX12_qGoesOnTest_209 rfl (by decide) ⟨rfl, hG10, _, rfl, H⟩
        · skip
          replace H := H.2 c16
          refine T_aload_n (i := 0) (pc' := 200) dX12_qGoesOnTest_199 rfl rfl rfl ?_
          refine T_iconst (pc' := 201) dX12_qGoesOnTest_200 (by decide) rfl ?_
          refine T_aload_n (i := 0) (pc' := 202) dX12_qGoesOnTest_201 rfl rfl rfl ?_
          refine U_gf (v := (0, (M9 66 2))) (k := 2) (kI := 2) (pc' := 205) dX12_qGoesOnTest_202 rfl cl12 (by decide) rfl (by decide) flX12_207 rfl rfl (by decide) rfl rfl ?_
          refine T_callV (av := [(0, 1), (0, (M9 66 2))]) (st := []) (d2 := 1) (nc2 := 0) (ns2 := 0) (pc' := 208) dX12_qGoesOnTest_205 rfl mtX12_fail mvX12_fail mlX12_231 cl12 rfl rfl rfl (Nat.le_of_ble_eq_true rfl) (by decide) ⟨by decide, by decide⟩ rfl (pX12_fail (E := E) (h := h) (M := M9) (v1 := 1) (v2 := (M9 66 2)) hG10) (kF (st2 := []) rfl (fun hG17 => ?_))
          obtain ⟨M18, eM18⟩ : ∃ m : Mem, m = (fmX12_fail M9 1 (M9 66 2)) := ⟨_, rfl⟩
          rw [← eM18] at hG17 ⊢
          replace H := H M18 eM18
          refine T_iconst (pc' := 209) dX12_qGoesOnTest_208 (by decide) rfl ?_
          exact T_zret dX12_qGoesOnTest_209 rfl (by decide) ⟨rfl, hG17, _, rfl, H⟩
    · skip
      replace H := H.2 c11
      obtain ⟨k19, H⟩ := H
      refine T_wk (L' := [(2, 66)]) (qX12_qGoesOnTest_137  (fun M20 H hG21 => ?_) _ _ H hG10) ⟨Or.inr rfl, trivial⟩
      refine T_aload_n (i := 0) (pc' := 163) dX12_qGoesOnTest_162 rfl rfl rfl ?_
      refine U_gr (q := 123) (k := 80) (kI := 80) (pc' := 166) dX12_qGoesOnTest_163 rfl cl12 (by decide) rfl (by decide) flX12_189 rfl rfl rfl (G_at hG21 123 rfl) (by decide) rfl ?_
      refine T_aload_n (i := 0) (pc' := 167) dX12_qGoesOnTest_166 rfl rfl rfl ?_
      refine U_gf (v := (0, (M20 66 81))) (k := 81) (kI := 81) (pc' := 170) dX12_qGoesOnTest_167 rfl cl12 (by decide) rfl (by decide) flX12_523 rfl rfl (by decide) rfl rfl ?_
      refine T_bipush (pc' := 172) dX12_qGoesOnTest_170 rfl (by decide) rfl ?_
      obtain ⟨z1, z2, H⟩ := H
      refine T_iast (pc' := 173) dX12_qGoesOnTest_172 (by decide) rfl z1 z2 rfl ?_
      have hG22 := (G_arr (x := 123) (i := (M20 66 81)) (y := 11) rfl (by decide) hG21)
      obtain ⟨M23, eM23⟩ : ∃ m : Mem, m = (mset M20 123 (M20 66 81) 11) := ⟨_, rfl⟩
      rw [← eM23] at hG22 ⊢
      replace H := H M23 eM23
      refine T_aload_n (i := 0) (pc' := 174) dX12_qGoesOnTest_173 rfl rfl rfl ?_
      refine T_dup (pc' := 175) dX12_qGoesOnTest_174 (Nat.ne_of_beq_eq_false rfl) rfl ?_
      refine U_gf (v := (0, (M23 66 81))) (k := 81) (kI := 81) (pc' := 178) dX12_qGoesOnTest_175 rfl cl12 (by decide) rfl (by decide) flX12_523 rfl rfl (by decide) rfl rfl ?_
      refine T_iconst (pc' := 179) dX12_qGoesOnTest_178 (by decide) rfl ?_
      refine T_iadd (pc' := 180) dX12_qGoesOnTest_179 rfl ?_
      refine U_pf (y := (wr32 ((M23 66 81) + 1))) (k := 81) (kI := 81) (pc' := 183) dX12_qGoesOnTest_180 rfl cl12 (by decide) rfl (by decide) flX12_523 rfl rfl rfl rfl rfl (by decide) (fun z => z) rfl ?_
      have hG24 := (G_fld (x := 66) (i := 81) (y := (wr32 ((M23 66 81) + 1))) rfl (by decide) (by decide) (by decide) hG22)
      obtain ⟨M25, eM25⟩ : ∃ m : Mem, m = (mset M23 66 81 (wr32 ((M23 66 81) + 1))) := ⟨_, rfl⟩
      rw [← eM25] at hG24 ⊢
      replace H := H M25 eM25
      refine T_iconst (pc' := 184) dX12_qGoesOnTest_183 (by decide) rfl ?_
      exact T_zret dX12_qGoesOnTest_184 rfl (by decide) ⟨rfl, hG24, _, rfl, H⟩
  · skip
    replace H := H.2 c7
    obtain ⟨k26, H⟩ := H
    refine T_wk (L' := [(2, 66)]) (qX12_qGoesOnTest_87  (fun M27 H hG28 => ?_) _ _ H hG6) ⟨Or.inr rfl, trivial⟩
    refine T_aload_n (i := 0) (pc' := 104) dX12_qGoesOnTest_103 rfl rfl rfl ?_
    refine U_gr (q := 123) (k := 80) (kI := 80) (pc' := 107) dX12_qGoesOnTest_104 rfl cl12 (by decide) rfl (by decide) flX12_189 rfl rfl rfl (G_at hG28 123 rfl) (by decide) rfl ?_
    refine T_aload_n (i := 0) (pc' := 108) dX12_qGoesOnTest_107 rfl rfl rfl ?_
    refine U_gf (v := (0, (M27 66 81))) (k := 81) (kI := 81) (pc' := 111) dX12_qGoesOnTest_108 rfl cl12 (by decide) rfl (by decide) flX12_523 rfl rfl (by decide) rfl rfl ?_
    refine T_bipush (pc' := 113) dX12_qGoesOnTest_111 rfl (by decide) rfl ?_
    obtain ⟨z1, z2, H⟩ := H
    refine T_iast (pc' := 114) dX12_qGoesOnTest_113 (by decide) rfl z1 z2 rfl ?_
    have hG29 := (G_arr (x := 123) (i := (M27 66 81)) (y := 10) rfl (by decide) hG28)
    obtain ⟨M30, eM30⟩ : ∃ m : Mem, m = (mset M27 123 (M27 66 81) 10) := ⟨_, rfl⟩
    rw [← eM30] at hG29 ⊢
    replace H := H M30 eM30
    refine T_aload_n (i := 0) (pc' := 115) dX12_qGoesOnTest_114 rfl rfl rfl ?_
    refine T_dup (pc' := 116) dX12_qGoesOnTest_115 (Nat.ne_of_beq_eq_false rfl) rfl ?_
    refine U_gf (v := (0, (M30 66 81))) (k := 81) (kI := 81) (pc' := 119) dX12_qGoesOnTest_116 rfl cl12 (by decide) rfl (by decide) flX12_523 rfl rfl (by decide) rfl rfl ?_
    refine T_iconst (pc' := 120) dX12_qGoesOnTest_119 (by decide) rfl ?_
    refine T_iadd (pc' := 121) dX12_qGoesOnTest_120 rfl ?_
    refine U_pf (y := (wr32 ((M30 66 81) + 1))) (k := 81) (kI := 81) (pc' := 124) dX12_qGoesOnTest_121 rfl cl12 (by decide) rfl (by decide) flX12_523 rfl rfl rfl rfl rfl (by decide) (fun z => z) rfl ?_
    have hG31 := (G_fld (x := 66) (i := 81) (y := (wr32 ((M30 66 81) + 1))) rfl (by decide) (by decide) (by decide) hG29)
    obtain ⟨M32, eM32⟩ : ∃ m : Mem, m = (mset M30 66 81 (wr32 ((M30 66 81) + 1))) := ⟨_, rfl⟩
    rw [← eM32] at hG31 ⊢
    replace H := H M32 eM32
    refine T_iconst (pc' := 125) dX12_qGoesOnTest_124 (by decide) rfl ?_
    exact T_zret dX12_qGoesOnTest_125 rfl (by decide) ⟨rfl, hG31, _, rfl, H⟩
def PX12_qTest_2  (K : Mem → Prop) (Q : Int → Mem → Prop) : Nat → Int → Mem → Prop
  | 0 => fun _ _ => False
  | k + 1 => fun v1 M => ((v1 = 0 → K M) ∧ (¬ (v1 = 0) → (((M 66 5) = 0 → PX12_look M (fun a3 M4 => ((a3 = 91 → (nX12_qOpens M4) ∧ (∀ M31 : Mem, M31 = (fmX12_qOpens M4 25 (M4 66 2)) → (∀ M33 : Mem, M33 = (mset M31 66 2 (wr32 ((M31 66 2) + 1))) → PX12_qTest_2  K Q k v1 M33))) ∧ (¬ (a3 = 91) → PX12_isHere 108 3 M4 (fun a7 M8 => ((a7 = 0 → PX12_qFact M8 (fun _ M12 => PX12_qDropsNots M12 (fun _ M15 => (((M15 66 5) = 0 → PX12_qGoesOnTest M15 (fun a18 M19 => PX12_qTest_2  K Q k (if a18 = 0 then (0 : Int) else 1) M19)) ∧ (¬ ((M15 66 5) = 0) → PX12_qTest_2  K Q k 0 M15))))) ∧ (¬ (a7 = 0) → (nX12_qOpens M8) ∧ (∀ M25 : Mem, M25 = (fmX12_qOpens M8 12 (M8 66 2)) → PX12_asks 108 3 M25 (fun _ M27 => PX12_qTest_2  K Q k v1 M27))))))))) ∧ (¬ ((M 66 5) = 0) → K M))))
def PX12_qTest_110  (K : Mem → Prop) (Q : Int → Mem → Prop) : Nat → Mem → Prop
  | 0 => fun _ => False
  | k + 1 => fun M => (((M 66 5) = 0 → (((M 66 81) ≤ 0 → K M) ∧ (¬ ((M 66 81) ≤ 0) → (nX12_qDrops M) ∧ (∀ M5 : Mem, M5 = (fmX12_qDrops M) → PX12_qTest_110  K Q k M5)))) ∧ (¬ ((M 66 5) = 0) → K M))
def PX12_qTest  (M : Mem) (Q : Int → Mem → Prop) : Prop :=
  (∃ k1 : Nat, PX12_qTest_2 (fun M2 => (∃ k4 : Nat, PX12_qTest_110 (fun M5 => Q 0 M5) Q k4 M2)) Q k1 1 M)
set_option maxRecDepth 100000 in
set_option maxHeartbeats 2000000 in
theorem qX12_qTest_2 {E : EV} {h : Int}   {K : Mem → Prop} {Q : Int → Mem → Prop} (hK : ∀ (M : Mem), K M → G h M → TG E miX12_qTest 9 h (RV Q) 110 [(2, 66), (3, 0), (3, 0)] [] M) : ∀ (k : Nat) (v1 : Int) (M : Mem), PX12_qTest_2  K Q k v1 M → G h M → TG E miX12_qTest 9 h (RV Q) 2 [(2, 66), (0, v1), (3, 0)] [] M := by
  intro k
  induction k with
  | zero =>
    intro v1 M H
    exact False.elim H
  | succ k ih =>
    intro v1 M H hG
    refine T_iload_n (i := 1) (pc' := 3) dX12_qTest_2 rfl rfl rfl ?_
    refine T_if_eq (pc' := 110) dX12_qTest_3 (by decide) (pf := 6) rfl (fun c1 => ?_) (fun c1 => ?_)
    · skip
      replace H := H.1 c1
      exact T_wk (L' := [(2, 66), (3, 0), (3, 0)]) (hK _ H hG) ⟨Or.inr rfl, Or.inl rfl, Or.inl rfl, trivial⟩
    · skip
      replace H := H.2 c1
      refine T_aload_n (i := 0) (pc' := 7) dX12_qTest_6 rfl rfl rfl ?_
      refine U_gf (v := (0, (M 66 5))) (k := 5) (kI := 5) (pc' := 10) dX12_qTest_7 rfl cl12 (by decide) rfl (by decide) flX12_201 rfl rfl (by decide) rfl rfl ?_
      refine T_if_ne (pc' := 110) dX12_qTest_10 (by decide) (pf := 13) rfl (fun c2 => ?_) (fun c2 => ?_)
      · skip
        replace H := H.2 c2
        exact T_wk (L' := [(2, 66), (3, 0), (3, 0)]) (hK _ H hG) ⟨Or.inr rfl, Or.inl rfl, Or.inl rfl, trivial⟩
      · skip
        replace H := H.1 c2
        refine T_aload_n (i := 0) (pc' := 14) dX12_qTest_13 rfl rfl rfl ?_
        refine T_callV (av := []) (st := []) (d2 := 1) (nc2 := 0) (ns2 := 0) (pc' := 17) dX12_qTest_14 rfl mtX12_look mvX12_look mlX12_213 cl12 rfl rfl rfl (Nat.le_of_ble_eq_true rfl) (by decide) ⟨by decide, by decide⟩ rfl (pX12_look (E := E) (h := h) (M := M) H hG) ?_
        rintro _ _ M4 ⟨rfl, hG5, a3, rfl, H⟩ _
        refine T_istore_n (i := 2) (L' := [(2, 66), (0, v1), (0, a3)]) (pc' := 18) dX12_qTest_17 rfl (by decide) rfl rfl ?_
        refine T_iload_n (i := 2) (pc' := 19) dX12_qTest_18 rfl rfl rfl ?_
        refine T_bipush (pc' := 21) dX12_qTest_19 rfl (by decide) rfl ?_
        refine T_icmp_ne (pc' := 47) dX12_qTest_21 (by decide) (pf := 24) rfl (fun c6 => ?_) (fun c6 => ?_)
        · skip
          replace H := H.2 c6
          refine T_aload_n (i := 0) (pc' := 48) dX12_qTest_47 rfl rfl rfl ?_
          refine T_aload_n (i := 0) (pc' := 49) dX12_qTest_48 rfl rfl rfl ?_
          refine U_gr (q := 108) (k := 64) (kI := 64) (pc' := 52) dX12_qTest_49 rfl cl12 (by decide) rfl (by decide) flX12_144 rfl rfl rfl (G_at hG5 108 rfl) (by decide) rfl ?_
          refine T_callV (av := [(2, 108)]) (st := []) (d2 := 2) (nc2 := 0) (ns2 := 0) (pc' := 55) dX12_qTest_52 rfl mtX12_isHere mvX12_isHere mlX12_224 cl12 rfl rfl rfl (Nat.le_of_ble_eq_true rfl) (by decide) ⟨by decide, by decide⟩ rfl (pX12_isHere (E := E) (h := h) (M := M4) (p1 := 108) (np1 := 3) (by decide) rfl (by decide) H hG5) ?_
          rintro _ _ M8 ⟨rfl, hG9, a7, rfl, H⟩ _
          refine T_if_eq (pc' := 79) dX12_qTest_55 (by decide) (pf := 58) rfl (fun c10 => ?_) (fun c10 => ?_)
          · skip
            replace H := H.1 c10
            refine T_aload_n (i := 0) (pc' := 80) dX12_qTest_79 rfl rfl rfl ?_
            refine T_callV (av := []) (st := []) (d2 := 8) (nc2 := 0) (ns2 := 0) (pc' := 83) dX12_qTest_80 rfl mtX12_qFact mvX12_qFact mlX12_571 cl12 rfl rfl rfl (Nat.le_of_ble_eq_true rfl) (by decide) ⟨by decide, by decide⟩ rfl (pX12_qFact (E := E) (h := h) (M := M8) H hG9) ?_
            rintro _ _ M12 ⟨rfl, hG13, rfl, H⟩ _
            refine T_aload_n (i := 0) (pc' := 84) dX12_qTest_83 rfl rfl rfl ?_
            refine T_callV (av := []) (st := []) (d2 := 3) (nc2 := 0) (ns2 := 0) (pc' := 87) dX12_qTest_84 rfl mtX12_qDropsNots mvX12_qDropsNots mlX12_574 cl12 rfl rfl rfl (Nat.le_of_ble_eq_true rfl) (by decide) ⟨by decide, by decide⟩ rfl (pX12_qDropsNots (E := E) (h := h) (M := M12) H hG13) ?_
            rintro _ _ M15 ⟨rfl, hG16, rfl, H⟩ _
            refine T_aload_n (i := 0) (pc' := 88) dX12_qTest_87 rfl rfl rfl ?_
            refine U_gf (v := (0, (M15 66 5))) (k := 5) (kI := 5) (pc' := 91) dX12_qTest_88 rfl cl12 (by decide) rfl (by decide) flX12_201 rfl rfl (by decide) rfl rfl ?_
            refine T_if_ne (pc' := 105) dX12_qTest_91 (by decide) (pf := 94) rfl (fun c17 => ?_) (fun c17 => ?_)
            · skip
              replace H := H.2 c17
              refine T_iconst (pc' := 106) dX12_qTest_105 (by decide) rfl ?_
              refine T_istore_n (i := 1) (L' := [(2, 66), (0, 0), (0, a3)]) (pc' := 107) dX12_qTest_106 rfl (by decide) rfl rfl ?_
              refine T_goto (pc' := 2) dX12_qTest_107 (by decide) ?_
              exact T_wk (L' := [(2, 66), (0, 0), (3, 0)]) (ih _ _ H hG16) ⟨Or.inr rfl, Or.inr rfl, Or.inl rfl, trivial⟩
            · skip
              replace H := H.1 c17
              refine T_aload_n (i := 0) (pc' := 95) dX12_qTest_94 rfl rfl rfl ?_
              refine T_callV (av := []) (st := []) (d2 := 4) (nc2 := 0) (ns2 := 0) (pc' := 98) dX12_qTest_95 rfl mtX12_qGoesOnTest mvX12_qGoesOnTest mlX12_577 cl12 rfl rfl rfl (Nat.le_of_ble_eq_true rfl) (by decide) ⟨by decide, by decide⟩ rfl (pX12_qGoesOnTest (E := E) (h := h) (M := M15) H hG16) ?_
              rintro _ _ M19 ⟨rfl, hG20, a18, rfl, H⟩ _
              have HJ21 : T E miX12_qTest 9 126 0 0 (fun r S M' => S = S0 ∧ G h M' ∧ RV Q r M') 106 [(2, 66), (3, 0), (3, 0)] [(0, (if a18 = 0 then (0 : Int) else 1))] S0 M19 0 0 := by
                refine T_istore_n (i := 1) (L' := [(2, 66), (0, (if a18 = 0 then (0 : Int) else 1)), (3, 0)]) (pc' := 107) dX12_qTest_106 rfl (by decide) rfl rfl ?_
                refine T_goto (pc' := 2) dX12_qTest_107 (by decide) ?_
                exact T_wk (L' := [(2, 66), (0, (if a18 = 0 then (0 : Int) else 1)), (3, 0)]) (ih _ _ H hG20) ⟨Or.inr rfl, Or.inr rfl, Or.inl rfl, trivial⟩
              refine T_if_eq (pc' := 105) dX12_qTest_98 (by decide) (pf := 101) rfl (fun c22 => ?_) (fun c22 => ?_)
              · skip
                refine T_iconst (pc' := 106) dX12_qTest_105 (by decide) rfl ?_
                exact T_wk (L' := [(2, 66), (3, 0), (3, 0)]) (by have q := HJ21; try simp only [if_pos c22] at q ⊢; exact q) ⟨Or.inr rfl, Or.inl rfl, Or.inl rfl, trivial⟩
              · skip
                refine T_iconst (pc' := 102) dX12_qTest_101 (by decide) rfl ?_
                refine T_goto (pc' := 106) dX12_qTest_102 (by decide) ?_
                exact T_wk (L' := [(2, 66), (3, 0), (3, 0)]) (by have q := HJ21; try simp only [if_neg c22] at q ⊢; exact q) ⟨Or.inr rfl, Or.inl rfl, Or.inl rfl, trivial⟩
          · skip
            replace H := H.2 c10
            refine T_aload_n (i := 0) (pc' := 59) dX12_qTest_58 rfl rfl rfl ?_
            refine T_bipush (pc' := 61) dX12_qTest_59 rfl (by decide) rfl ?_
            refine T_aload_n (i := 0) (pc' := 62) dX12_qTest_61 rfl rfl rfl ?_
            refine U_gf (v := (0, (M8 66 2))) (k := 2) (kI := 2) (pc' := 65) dX12_qTest_62 rfl cl12 (by decide) rfl (by decide) flX12_207 rfl rfl (by decide) rfl rfl ?_
            obtain ⟨z23, H⟩ := H
            refine T_callV (av := [(0, 12), (0, (M8 66 2))]) (st := []) (d2 := 2) (nc2 := 0) (ns2 := 0) (pc' := 68) dX12_qTest_65 rfl mtX12_qOpens mvX12_qOpens mlX12_544 cl12 rfl rfl rfl (Nat.le_of_ble_eq_true rfl) (by decide) ⟨by decide, by decide⟩ rfl (pX12_qOpens (E := E) (h := h) (M := M8) (v1 := 12) (v2 := (M8 66 2)) z23 hG9) (kF (st2 := []) rfl (fun hG24 => ?_))
            obtain ⟨M25, eM25⟩ : ∃ m : Mem, m = (fmX12_qOpens M8 12 (M8 66 2)) := ⟨_, rfl⟩
            rw [← eM25] at hG24 ⊢
            replace H := H M25 eM25
            refine T_aload_n (i := 0) (pc' := 69) dX12_qTest_68 rfl rfl rfl ?_
            refine T_aload_n (i := 0) (pc' := 70) dX12_qTest_69 rfl rfl rfl ?_
            refine U_gr (q := 108) (k := 64) (kI := 64) (pc' := 73) dX12_qTest_70 rfl cl12 (by decide) rfl (by decide) flX12_144 rfl rfl rfl (G_at hG24 108 rfl) (by decide) rfl ?_
            refine T_callV (av := [(2, 108)]) (st := []) (d2 := 4) (nc2 := 0) (ns2 := 0) (pc' := 76) dX12_qTest_73 rfl mtX12_asks mvX12_asks mlX12_296 cl12 rfl rfl rfl (Nat.le_of_ble_eq_true rfl) (by decide) ⟨by decide, by decide⟩ rfl (pX12_asks (E := E) (h := h) (M := M25) (p1 := 108) (np1 := 3) (by decide) rfl (by decide) H hG24) ?_
            rintro _ _ M27 ⟨rfl, hG28, rfl, H⟩ _
            refine T_goto (pc' := 2) dX12_qTest_76 (by decide) ?_
            exact T_wk (L' := [(2, 66), (0, v1), (3, 0)]) (ih _ _ H hG28) ⟨Or.inr rfl, Or.inr rfl, Or.inl rfl, trivial⟩
        · skip
          replace H := H.1 c6
          refine T_aload_n (i := 0) (pc' := 25) dX12_qTest_24 rfl rfl rfl ?_
          refine T_bipush (pc' := 27) dX12_qTest_25 rfl (by decide) rfl ?_
          refine T_aload_n (i := 0) (pc' := 28) dX12_qTest_27 rfl rfl rfl ?_
          refine U_gf (v := (0, (M4 66 2))) (k := 2) (kI := 2) (pc' := 31) dX12_qTest_28 rfl cl12 (by decide) rfl (by decide) flX12_207 rfl rfl (by decide) rfl rfl ?_
          obtain ⟨z29, H⟩ := H
          refine T_callV (av := [(0, 25), (0, (M4 66 2))]) (st := []) (d2 := 2) (nc2 := 0) (ns2 := 0) (pc' := 34) dX12_qTest_31 rfl mtX12_qOpens mvX12_qOpens mlX12_544 cl12 rfl rfl rfl (Nat.le_of_ble_eq_true rfl) (by decide) ⟨by decide, by decide⟩ rfl (pX12_qOpens (E := E) (h := h) (M := M4) (v1 := 25) (v2 := (M4 66 2)) z29 hG5) (kF (st2 := []) rfl (fun hG30 => ?_))
          obtain ⟨M31, eM31⟩ : ∃ m : Mem, m = (fmX12_qOpens M4 25 (M4 66 2)) := ⟨_, rfl⟩
          rw [← eM31] at hG30 ⊢
          replace H := H M31 eM31
          refine T_aload_n (i := 0) (pc' := 35) dX12_qTest_34 rfl rfl rfl ?_
          refine T_dup (pc' := 36) dX12_qTest_35 (Nat.ne_of_beq_eq_false rfl) rfl ?_
          refine U_gf (v := (0, (M31 66 2))) (k := 2) (kI := 2) (pc' := 39) dX12_qTest_36 rfl cl12 (by decide) rfl (by decide) flX12_207 rfl rfl (by decide) rfl rfl ?_
          refine T_iconst (pc' := 40) dX12_qTest_39 (by decide) rfl ?_
          refine T_iadd (pc' := 41) dX12_qTest_40 rfl ?_
          refine U_pf (y := (wr32 ((M31 66 2) + 1))) (k := 2) (kI := 2) (pc' := 44) dX12_qTest_41 rfl cl12 (by decide) rfl (by decide) flX12_207 rfl rfl rfl rfl rfl (by decide) (fun z => z) rfl ?_
          have hG32 := (G_fld (x := 66) (i := 2) (y := (wr32 ((M31 66 2) + 1))) rfl (by decide) (by decide) (by decide) hG30)
          obtain ⟨M33, eM33⟩ : ∃ m : Mem, m = (mset M31 66 2 (wr32 ((M31 66 2) + 1))) := ⟨_, rfl⟩
          rw [← eM33] at hG32 ⊢
          replace H := H M33 eM33
          refine T_goto (pc' := 2) dX12_qTest_44 (by decide) ?_
          exact T_wk (L' := [(2, 66), (0, v1), (3, 0)]) (ih _ _ H hG32) ⟨Or.inr rfl, Or.inr rfl, Or.inl rfl, trivial⟩
set_option maxRecDepth 100000 in
set_option maxHeartbeats 2000000 in
theorem qX12_qTest_110 {E : EV} {h : Int}   {K : Mem → Prop} {Q : Int → Mem → Prop} (hK : ∀ (M : Mem), K M → G h M → TG E miX12_qTest 9 h (RV Q) 131 [(2, 66), (3, 0), (3, 0)] [] M) : ∀ (k : Nat) (M : Mem), PX12_qTest_110  K Q k M → G h M → TG E miX12_qTest 9 h (RV Q) 110 [(2, 66), (3, 0), (3, 0)] [] M := by
  intro k
  induction k with
  | zero =>
    intro M H
    exact False.elim H
  | succ k ih =>
    intro M H hG
    refine T_aload_n (i := 0) (pc' := 111) dX12_qTest_110 rfl rfl rfl ?_
    refine U_gf (v := (0, (M 66 5))) (k := 5) (kI := 5) (pc' := 114) dX12_qTest_111 rfl cl12 (by decide) rfl (by decide) flX12_201 rfl rfl (by decide) rfl rfl ?_
    refine T_if_ne (pc' := 131) dX12_qTest_114 (by decide) (pf := 117) rfl (fun c1 => ?_) (fun c1 => ?_)
    · skip
      replace H := H.2 c1
      exact T_wk (L' := [(2, 66), (3, 0), (3, 0)]) (hK _ H hG) ⟨Or.inr rfl, Or.inl rfl, Or.inl rfl, trivial⟩
    · skip
      replace H := H.1 c1
      refine T_aload_n (i := 0) (pc' := 118) dX12_qTest_117 rfl rfl rfl ?_
      refine U_gf (v := (0, (M 66 81))) (k := 81) (kI := 81) (pc' := 121) dX12_qTest_118 rfl cl12 (by decide) rfl (by decide) flX12_523 rfl rfl (by decide) rfl rfl ?_
      refine T_if_le (pc' := 131) dX12_qTest_121 (by decide) (pf := 124) rfl (fun c2 => ?_) (fun c2 => ?_)
      · skip
        replace H := H.1 c2
        exact T_wk (L' := [(2, 66), (3, 0), (3, 0)]) (hK _ H hG) ⟨Or.inr rfl, Or.inl rfl, Or.inl rfl, trivial⟩
      · skip
        replace H := H.2 c2
        refine T_aload_n (i := 0) (pc' := 125) dX12_qTest_124 rfl rfl rfl ?_
        obtain ⟨z3, H⟩ := H
        refine T_callV (av := []) (st := []) (d2 := 2) (nc2 := 0) (ns2 := 0) (pc' := 128) dX12_qTest_125 rfl mtX12_qDrops mvX12_qDrops mlX12_535 cl12 rfl rfl rfl (Nat.le_of_ble_eq_true rfl) (by decide) ⟨by decide, by decide⟩ rfl (pX12_qDrops (E := E) (h := h) (M := M) z3 hG) (kF (st2 := []) rfl (fun hG4 => ?_))
        obtain ⟨M5, eM5⟩ : ∃ m : Mem, m = (fmX12_qDrops M) := ⟨_, rfl⟩
        rw [← eM5] at hG4 ⊢
        replace H := H M5 eM5
        refine T_goto (pc' := 110) dX12_qTest_128 (by decide) ?_
        exact T_wk (L' := [(2, 66), (3, 0), (3, 0)]) (ih _ H hG4) ⟨Or.inr rfl, Or.inl rfl, Or.inl rfl, trivial⟩
set_option maxRecDepth 100000 in
set_option maxHeartbeats 2000000 in
theorem pX12_qTest {E : EV} {h : Int} {M : Mem}   {Q : Int → Mem → Prop} (H : PX12_qTest  M Q) : C2 E miX12_qTest 9 h [(2, 66)] M (RV Q) := by
  refine C2_of (L := [(2, 66), (3, 0), (3, 0)]) (by decide +kernel) (Nat.le_of_ble_eq_true rfl) rfl (fun hG => ?_)
  refine T_iconst (pc' := 1) dX12_qTest_0 (by decide) rfl ?_
  refine T_istore_n (i := 1) (L' := [(2, 66), (0, 1), (3, 0)]) (pc' := 2) dX12_qTest_1 rfl (by decide) rfl rfl ?_
  obtain ⟨k1, H⟩ := H
  refine T_wk (L' := [(2, 66), (0, 1), (3, 0)]) (qX12_qTest_2  (fun M2 H hG3 => ?_) _ _ _ H hG) ⟨Or.inr rfl, Or.inr rfl, Or.inl rfl, trivial⟩
  obtain ⟨k4, H⟩ := H
  refine T_wk (L' := [(2, 66), (3, 0), (3, 0)]) (qX12_qTest_110  (fun M5 H hG6 => ?_) _ _ H hG3) ⟨Or.inr rfl, Or.inl rfl, Or.inl rfl, trivial⟩
  exact T_vret dX12_qTest_131 rfl ⟨rfl, hG6, rfl, H⟩
