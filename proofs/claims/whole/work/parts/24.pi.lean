/-! methods as propositions, 9 -/
def PX12_keeps_25 (v1 : Int) (K : Mem → Prop) (Q : Int → Mem → Prop) : Nat → Int → Mem → Prop
  | 0 => fun _ _ => False
  | k + 1 => fun v2 M => ((3 ≤ v2 → K M) ∧ (¬ (3 ≤ v2) → (nX12_personOf v1 v2) ∧ 0 ≤ (wr32 ((wr32 ((wr32 (33 * (M 66 55))) + (wr32 (3 * v1)))) + v2)) ∧ (wr32 ((wr32 ((wr32 (33 * (M 66 55))) + (wr32 (3 * v1)))) + v2)) < 660 ∧ (∀ M5 : Mem, M5 = (mset M 100 (wr32 ((wr32 ((wr32 (33 * (M 66 55))) + (wr32 (3 * v1)))) + v2)) (fX12_personOf M v1 v2)) → PX12_keeps_25 v1 K Q k (wr32 (v2 + 1)) M5)))
def PX12_keeps_15  (K : Mem → Prop) (Q : Int → Mem → Prop) : Nat → Int → Mem → Prop
  | 0 => fun _ _ => False
  | k + 1 => fun v1 M => (((fX12_peopleMany M) ≤ v1 → K M) ∧ (¬ ((fX12_peopleMany M) ≤ v1) → (∃ k3 : Nat, PX12_keeps_25 v1 (fun M4 => PX12_keeps_15  K Q k (wr32 (v1 + 1)) M4) Q k3 0 M)))
def PX12_keeps_68  (K : Mem → Prop) (Q : Int → Mem → Prop) : Nat → Int → Mem → Prop
  | 0 => fun _ _ => False
  | k + 1 => fun v1 M => ((6 ≤ v1 → K M) ∧ (¬ (6 ≤ v1) → 0 ≤ v1 ∧ v1 < 6 ∧ 0 ≤ (wr32 ((wr32 ((wr32 (33 * (M 66 55))) + 27)) + v1)) ∧ (wr32 ((wr32 ((wr32 (33 * (M 66 55))) + 27)) + v1)) < 660 ∧ (∀ M3 : Mem, M3 = (mset M 100 (wr32 ((wr32 ((wr32 (33 * (M 66 55))) + 27)) + v1)) (M 92 v1)) → PX12_keeps_68  K Q k (wr32 (v1 + 1)) M3)))
def PX12_keeps  (M : Mem) (Q : Int → Mem → Prop) : Prop :=
  (∀ M2 : Mem, M2 = (mset M 66 55 (Int.tmod (wr32 ((M 66 55) + 1)) 20)) → (∃ k3 : Nat, PX12_keeps_15 (fun M4 => (∃ k6 : Nat, PX12_keeps_68 (fun M7 => ((20 ≤ (M7 66 54) → Q 0 M7) ∧ (¬ (20 ≤ (M7 66 54)) → (∀ M11 : Mem, M11 = (mset M7 66 54 (wr32 ((M7 66 54) + 1))) → Q 0 M11)))) Q k6 0 M4)) Q k3 0 M2))
set_option maxRecDepth 100000 in
set_option maxHeartbeats 2000000 in
theorem qX12_keeps_25 {E : EV} {h : Int} {v1 : Int}  {K : Mem → Prop} {Q : Int → Mem → Prop} (hK : ∀ (M : Mem), K M → G h M → TG E miX12_keeps 2 h (RV Q) 60 [(2, 66), (0, v1), (3, 0)] [] M) : ∀ (k : Nat) (v2 : Int) (M : Mem), PX12_keeps_25 v1 K Q k v2 M → G h M → TG E miX12_keeps 2 h (RV Q) 25 [(2, 66), (0, v1), (0, v2)] [] M := by
  intro k
  induction k with
  | zero =>
    intro v2 M H
    exact False.elim H
  | succ k ih =>
    intro v2 M H hG
    refine T_iload_n (i := 2) (pc' := 26) dX12_keeps_25 rfl rfl rfl ?_
    refine T_iconst (pc' := 27) dX12_keeps_26 (by decide) rfl ?_
    refine T_icmp_ge (pc' := 60) dX12_keeps_27 (by decide) (pf := 30) rfl (fun c1 => ?_) (fun c1 => ?_)
    · skip
      replace H := H.1 c1
      exact T_wk (L' := [(2, 66), (0, v1), (3, 0)]) (hK _ H hG) ⟨Or.inr rfl, Or.inr rfl, Or.inl rfl, trivial⟩
    · skip
      replace H := H.2 c1
      refine T_aload_n (i := 0) (pc' := 31) dX12_keeps_30 rfl rfl rfl ?_
      refine U_gr (q := 100) (k := 53) (kI := 53) (pc' := 34) dX12_keeps_31 rfl cl12 (by decide) rfl (by decide) flX12_116 rfl rfl rfl (G_at hG 100 rfl) (by decide) rfl ?_
      refine T_bipush (pc' := 36) dX12_keeps_34 rfl (by decide) rfl ?_
      refine T_aload_n (i := 0) (pc' := 37) dX12_keeps_36 rfl rfl rfl ?_
      refine U_gf (v := (0, (M 66 55))) (k := 55) (kI := 55) (pc' := 40) dX12_keeps_37 rfl cl12 (by decide) rfl (by decide) flX12_470 rfl rfl (by decide) rfl rfl ?_
      refine T_imul (pc' := 41) dX12_keeps_40 rfl ?_
      refine T_iconst (pc' := 42) dX12_keeps_41 (by decide) rfl ?_
      refine T_iload_n (i := 1) (pc' := 43) dX12_keeps_42 rfl rfl rfl ?_
      refine T_imul (pc' := 44) dX12_keeps_43 rfl ?_
      refine T_iadd (pc' := 45) dX12_keeps_44 rfl ?_
      refine T_iload_n (i := 2) (pc' := 46) dX12_keeps_45 rfl rfl rfl ?_
      refine T_iadd (pc' := 47) dX12_keeps_46 rfl ?_
      refine T_aload_n (i := 0) (pc' := 48) dX12_keeps_47 rfl rfl rfl ?_
      refine T_iload_n (i := 1) (pc' := 49) dX12_keeps_48 rfl rfl rfl ?_
      refine T_iload_n (i := 2) (pc' := 50) dX12_keeps_49 rfl rfl rfl ?_
      obtain ⟨z2, H⟩ := H
      refine T_callV (av := [(0, v1), (0, v2)]) (st := [(0, (wr32 ((wr32 ((wr32 (33 * (M 66 55))) + (wr32 (3 * v1)))) + v2))), (2, 100)]) (d2 := 1) (nc2 := 0) (ns2 := 0) (pc' := 53) dX12_keeps_50 rfl mtX12_personOf mvX12_personOf mlX12_373 cl12 rfl rfl rfl (Nat.le_of_ble_eq_true rfl) (by decide) ⟨by decide, by decide⟩ rfl (pX12_personOf (E := E) (h := h) (M := M) (v1 := v1) (v2 := v2) z2 hG) (kF (st2 := [(0, (fX12_personOf M v1 v2)), (0, (wr32 ((wr32 ((wr32 (33 * (M 66 55))) + (wr32 (3 * v1)))) + v2))), (2, 100)]) rfl (fun hG3 => ?_))
      obtain ⟨z1, z2, H⟩ := H
      refine T_iast (pc' := 54) dX12_keeps_53 (by decide) rfl z1 z2 rfl ?_
      have hG4 := (G_arr (x := 100) (i := (wr32 ((wr32 ((wr32 (33 * (M 66 55))) + (wr32 (3 * v1)))) + v2))) (y := (fX12_personOf M v1 v2)) rfl (by decide) hG)
      obtain ⟨M5, eM5⟩ : ∃ m : Mem, m = (mset M 100 (wr32 ((wr32 ((wr32 (33 * (M 66 55))) + (wr32 (3 * v1)))) + v2)) (fX12_personOf M v1 v2)) := ⟨_, rfl⟩
      rw [← eM5] at hG4 ⊢
      replace H := H M5 eM5
      refine T_iinc (L' := [(2, 66), (0, v1), (0, (wr32 (v2 + 1)))]) (pc' := 57) dX12_keeps_54 rfl (by decide) rfl rfl ?_
      refine T_goto (pc' := 25) dX12_keeps_57 (by decide) ?_
      exact T_wk (L' := [(2, 66), (0, v1), (0, (wr32 (v2 + 1)))]) (ih _ _ H hG4) ⟨Or.inr rfl, Or.inr rfl, Or.inr rfl, trivial⟩
set_option maxRecDepth 100000 in
set_option maxHeartbeats 2000000 in
theorem qX12_keeps_15 {E : EV} {h : Int}   {K : Mem → Prop} {Q : Int → Mem → Prop} (hK : ∀ (M : Mem), K M → G h M → TG E miX12_keeps 2 h (RV Q) 66 [(2, 66), (3, 0), (3, 0)] [] M) : ∀ (k : Nat) (v1 : Int) (M : Mem), PX12_keeps_15  K Q k v1 M → G h M → TG E miX12_keeps 2 h (RV Q) 15 [(2, 66), (0, v1), (3, 0)] [] M := by
  intro k
  induction k with
  | zero =>
    intro v1 M H
    exact False.elim H
  | succ k ih =>
    intro v1 M H hG
    refine T_iload_n (i := 1) (pc' := 16) dX12_keeps_15 rfl rfl rfl ?_
    refine T_aload_n (i := 0) (pc' := 17) dX12_keeps_16 rfl rfl rfl ?_
    refine T_callV (av := []) (st := [(0, v1)]) (d2 := 1) (nc2 := 0) (ns2 := 0) (pc' := 20) dX12_keeps_17 rfl mtX12_peopleMany mvX12_peopleMany mlX12_349 cl12 rfl rfl rfl (Nat.le_of_ble_eq_true rfl) (by decide) ⟨by decide, by decide⟩ rfl (pX12_peopleMany (E := E) (h := h) (M := M) hG) (kF (st2 := [(0, (fX12_peopleMany M)), (0, v1)]) rfl (fun hG1 => ?_))
    refine T_icmp_ge (pc' := 66) dX12_keeps_20 (by decide) (pf := 23) rfl (fun c2 => ?_) (fun c2 => ?_)
    · skip
      replace H := H.1 c2
      exact T_wk (L' := [(2, 66), (3, 0), (3, 0)]) (hK _ H hG) ⟨Or.inr rfl, Or.inl rfl, Or.inl rfl, trivial⟩
    · skip
      replace H := H.2 c2
      refine T_iconst (pc' := 24) dX12_keeps_23 (by decide) rfl ?_
      refine T_istore_n (i := 2) (L' := [(2, 66), (0, v1), (0, 0)]) (pc' := 25) dX12_keeps_24 rfl (by decide) rfl rfl ?_
      obtain ⟨k3, H⟩ := H
      refine T_wk (L' := [(2, 66), (0, v1), (0, 0)]) (qX12_keeps_25 (v1 := v1) (fun M4 H hG5 => ?_) _ _ _ H hG) ⟨Or.inr rfl, Or.inr rfl, Or.inr rfl, trivial⟩
      refine T_iinc (L' := [(2, 66), (0, (wr32 (v1 + 1))), (3, 0)]) (pc' := 63) dX12_keeps_60 rfl (by decide) rfl rfl ?_
      refine T_goto (pc' := 15) dX12_keeps_63 (by decide) ?_
      exact T_wk (L' := [(2, 66), (0, (wr32 (v1 + 1))), (3, 0)]) (ih _ _ H hG5) ⟨Or.inr rfl, Or.inr rfl, Or.inl rfl, trivial⟩
set_option maxRecDepth 100000 in
set_option maxHeartbeats 2000000 in
theorem qX12_keeps_68 {E : EV} {h : Int}   {K : Mem → Prop} {Q : Int → Mem → Prop} (hK : ∀ (M : Mem), K M → G h M → TG E miX12_keeps 2 h (RV Q) 103 [(2, 66), (3, 0), (3, 0)] [] M) : ∀ (k : Nat) (v1 : Int) (M : Mem), PX12_keeps_68  K Q k v1 M → G h M → TG E miX12_keeps 2 h (RV Q) 68 [(2, 66), (0, v1), (3, 0)] [] M := by
  intro k
  induction k with
  | zero =>
    intro v1 M H
    exact False.elim H
  | succ k ih =>
    intro v1 M H hG
    refine T_iload_n (i := 1) (pc' := 69) dX12_keeps_68 rfl rfl rfl ?_
    refine T_bipush (pc' := 71) dX12_keeps_69 rfl (by decide) rfl ?_
    refine T_icmp_ge (pc' := 103) dX12_keeps_71 (by decide) (pf := 74) rfl (fun c1 => ?_) (fun c1 => ?_)
    · skip
      replace H := H.1 c1
      exact T_wk (L' := [(2, 66), (3, 0), (3, 0)]) (hK _ H hG) ⟨Or.inr rfl, Or.inl rfl, Or.inl rfl, trivial⟩
    · skip
      replace H := H.2 c1
      refine T_aload_n (i := 0) (pc' := 75) dX12_keeps_74 rfl rfl rfl ?_
      refine U_gr (q := 100) (k := 53) (kI := 53) (pc' := 78) dX12_keeps_75 rfl cl12 (by decide) rfl (by decide) flX12_116 rfl rfl rfl (G_at hG 100 rfl) (by decide) rfl ?_
      refine T_bipush (pc' := 80) dX12_keeps_78 rfl (by decide) rfl ?_
      refine T_aload_n (i := 0) (pc' := 81) dX12_keeps_80 rfl rfl rfl ?_
      refine U_gf (v := (0, (M 66 55))) (k := 55) (kI := 55) (pc' := 84) dX12_keeps_81 rfl cl12 (by decide) rfl (by decide) flX12_470 rfl rfl (by decide) rfl rfl ?_
      refine T_imul (pc' := 85) dX12_keeps_84 rfl ?_
      refine T_bipush (pc' := 87) dX12_keeps_85 rfl (by decide) rfl ?_
      refine T_iadd (pc' := 88) dX12_keeps_87 rfl ?_
      refine T_iload_n (i := 1) (pc' := 89) dX12_keeps_88 rfl rfl rfl ?_
      refine T_iadd (pc' := 90) dX12_keeps_89 rfl ?_
      refine T_aload_n (i := 0) (pc' := 91) dX12_keeps_90 rfl rfl rfl ?_
      refine U_gr (q := 92) (k := 41) (kI := 41) (pc' := 94) dX12_keeps_91 rfl cl12 (by decide) rfl (by decide) flX12_92 rfl rfl rfl (G_at hG 92 rfl) (by decide) rfl ?_
      refine T_iload_n (i := 1) (pc' := 95) dX12_keeps_94 rfl rfl rfl ?_
      obtain ⟨z1, z2, H⟩ := H
      refine T_iald (pc' := 96) dX12_keeps_95 (by decide) rfl z1 z2 rfl ?_
      obtain ⟨z1, z2, H⟩ := H
      refine T_iast (pc' := 97) dX12_keeps_96 (by decide) rfl z1 z2 rfl ?_
      have hG2 := (G_arr (x := 100) (i := (wr32 ((wr32 ((wr32 (33 * (M 66 55))) + 27)) + v1))) (y := (M 92 v1)) rfl (by decide) hG)
      obtain ⟨M3, eM3⟩ : ∃ m : Mem, m = (mset M 100 (wr32 ((wr32 ((wr32 (33 * (M 66 55))) + 27)) + v1)) (M 92 v1)) := ⟨_, rfl⟩
      rw [← eM3] at hG2 ⊢
      replace H := H M3 eM3
      refine T_iinc (L' := [(2, 66), (0, (wr32 (v1 + 1))), (3, 0)]) (pc' := 100) dX12_keeps_97 rfl (by decide) rfl rfl ?_
      refine T_goto (pc' := 68) dX12_keeps_100 (by decide) ?_
      exact T_wk (L' := [(2, 66), (0, (wr32 (v1 + 1))), (3, 0)]) (ih _ _ H hG2) ⟨Or.inr rfl, Or.inr rfl, Or.inl rfl, trivial⟩
set_option maxRecDepth 100000 in
set_option maxHeartbeats 2000000 in
theorem pX12_keeps {E : EV} {h : Int} {M : Mem}   {Q : Int → Mem → Prop} (H : PX12_keeps  M Q) : C2 E miX12_keeps 2 h [(2, 66)] M (RV Q) := by
  refine C2_of (L := [(2, 66), (3, 0), (3, 0)]) (by decide +kernel) (Nat.le_of_ble_eq_true rfl) rfl (fun hG => ?_)
  refine T_aload_n (i := 0) (pc' := 1) dX12_keeps_0 rfl rfl rfl ?_
  refine T_aload_n (i := 0) (pc' := 2) dX12_keeps_1 rfl rfl rfl ?_
  refine U_gf (v := (0, (M 66 55))) (k := 55) (kI := 55) (pc' := 5) dX12_keeps_2 rfl cl12 (by decide) rfl (by decide) flX12_470 rfl rfl (by decide) rfl rfl ?_
  refine T_iconst (pc' := 6) dX12_keeps_5 (by decide) rfl ?_
  refine T_iadd (pc' := 7) dX12_keeps_6 rfl ?_
  refine T_bipush (pc' := 9) dX12_keeps_7 rfl (by decide) rfl ?_
  refine T_irem (pc' := 10) dX12_keeps_9 (by decide) rfl ?_
  refine U_pf (y := (Int.tmod (wr32 ((M 66 55) + 1)) 20)) (k := 55) (kI := 55) (pc' := 13) dX12_keeps_10 rfl cl12 (by decide) rfl (by decide) flX12_470 rfl rfl rfl rfl rfl (by decide) (fun z => z) rfl ?_
  have hG1 := (G_fld (x := 66) (i := 55) (y := (Int.tmod (wr32 ((M 66 55) + 1)) 20)) rfl (by decide) (by decide) (by decide) hG)
  obtain ⟨M2, eM2⟩ : ∃ m : Mem, m = (mset M 66 55 (Int.tmod (wr32 ((M 66 55) + 1)) 20)) := ⟨_, rfl⟩
  rw [← eM2] at hG1 ⊢
  replace H := H M2 eM2
  refine T_iconst (pc' := 14) dX12_keeps_13 (by decide) rfl ?_
  refine T_istore_n (i := 1) (L' := [(2, 66), (0, 0), (3, 0)]) (pc' := 15) dX12_keeps_14 rfl (by decide) rfl rfl ?_
  obtain ⟨k3, H⟩ := H
  refine T_wk (L' := [(2, 66), (0, 0), (3, 0)]) (qX12_keeps_15  (fun M4 H hG5 => ?_) _ _ _ H hG1) ⟨Or.inr rfl, Or.inr rfl, Or.inl rfl, trivial⟩
  refine T_iconst (pc' := 67) dX12_keeps_66 (by decide) rfl ?_
  refine T_istore_n (i := 1) (L' := [(2, 66), (0, 0), (3, 0)]) (pc' := 68) dX12_keeps_67 rfl (by decide) rfl rfl ?_
  obtain ⟨k6, H⟩ := H
  refine T_wk (L' := [(2, 66), (0, 0), (3, 0)]) (qX12_keeps_68  (fun M7 H hG8 => ?_) _ _ _ H hG5) ⟨Or.inr rfl, Or.inr rfl, Or.inl rfl, trivial⟩
  refine T_aload_n (i := 0) (pc' := 104) dX12_keeps_103 rfl rfl rfl ?_
  refine U_gf (v := (0, (M7 66 54))) (k := 54) (kI := 54) (pc' := 107) dX12_keeps_104 rfl cl12 (by decide) rfl (by decide) flX12_343 rfl rfl (by decide) rfl rfl ?_
  refine T_bipush (pc' := 109) dX12_keeps_107 rfl (by decide) rfl ?_
  refine T_icmp_ge (pc' := 122) dX12_keeps_109 (by decide) (pf := 112) rfl (fun c9 => ?_) (fun c9 => ?_)
  · skip
    replace H := H.1 c9
    exact T_vret dX12_keeps_122 rfl ⟨rfl, hG8, rfl, H⟩
  · skip
    replace H := H.2 c9
    refine T_aload_n (i := 0) (pc' := 113) dX12_keeps_112 rfl rfl rfl ?_
    refine T_dup (pc' := 114) dX12_keeps_113 (Nat.ne_of_beq_eq_false rfl) rfl ?_
    refine U_gf (v := (0, (M7 66 54))) (k := 54) (kI := 54) (pc' := 117) dX12_keeps_114 rfl cl12 (by decide) rfl (by decide) flX12_343 rfl rfl (by decide) rfl rfl ?_
    refine T_iconst (pc' := 118) dX12_keeps_117 (by decide) rfl ?_
    refine T_iadd (pc' := 119) dX12_keeps_118 rfl ?_
    refine U_pf (y := (wr32 ((M7 66 54) + 1))) (k := 54) (kI := 54) (pc' := 122) dX12_keeps_119 rfl cl12 (by decide) rfl (by decide) flX12_343 rfl rfl rfl rfl rfl (by decide) (fun z => z) rfl ?_
    have hG10 := (G_fld (x := 66) (i := 54) (y := (wr32 ((M7 66 54) + 1))) rfl (by decide) (by decide) (by decide) hG8)
    obtain ⟨M11, eM11⟩ : ∃ m : Mem, m = (mset M7 66 54 (wr32 ((M7 66 54) + 1))) := ⟨_, rfl⟩
    rw [← eM11] at hG10 ⊢
    replace H := H M11 eM11
    exact T_vret dX12_keeps_122 rfl ⟨rfl, hG10, rfl, H⟩
def PX12_undo_21 (v1 : Int) (K : Mem → Prop) (Q : Int → Mem → Prop) : Nat → Int → Mem → Prop
  | 0 => fun _ _ => False
  | k + 1 => fun v2 M => ((3 ≤ v2 → K M) ∧ (¬ (3 ≤ v2) → 0 ≤ (wr32 ((wr32 ((wr32 (33 * (M 66 55))) + (wr32 (3 * v1)))) + v2)) ∧ (wr32 ((wr32 ((wr32 (33 * (M 66 55))) + (wr32 (3 * v1)))) + v2)) < 660 ∧ (nX12_makes v1 v2) ∧ (∀ M4 : Mem, M4 = (fmX12_makes M v1 v2 (M 100 (wr32 ((wr32 ((wr32 (33 * (M 66 55))) + (wr32 (3 * v1)))) + v2)))) → PX12_undo_21 v1 K Q k (wr32 (v2 + 1)) M4)))
def PX12_undo_11  (K : Mem → Prop) (Q : Int → Mem → Prop) : Nat → Int → Mem → Prop
  | 0 => fun _ _ => False
  | k + 1 => fun v1 M => (((fX12_peopleMany M) ≤ v1 → K M) ∧ (¬ ((fX12_peopleMany M) ≤ v1) → (∃ k3 : Nat, PX12_undo_21 v1 (fun M4 => PX12_undo_11  K Q k (wr32 (v1 + 1)) M4) Q k3 0 M)))
def PX12_undo_64  (K : Mem → Prop) (Q : Int → Mem → Prop) : Nat → Int → Mem → Prop
  | 0 => fun _ _ => False
  | k + 1 => fun v1 M => ((6 ≤ v1 → K M) ∧ (¬ (6 ≤ v1) → 0 ≤ (wr32 ((wr32 ((wr32 (33 * (M 66 55))) + 27)) + v1)) ∧ (wr32 ((wr32 ((wr32 (33 * (M 66 55))) + 27)) + v1)) < 660 ∧ 0 ≤ v1 ∧ v1 < 6 ∧ (∀ M3 : Mem, M3 = (mset M 92 v1 (M 100 (wr32 ((wr32 ((wr32 (33 * (M 66 55))) + 27)) + v1)))) → PX12_undo_64  K Q k (wr32 (v1 + 1)) M3)))
def PX12_undo  (M : Mem) (Q : Int → Mem → Prop) : Prop :=
  (((M 66 54) = 0 → Q 0 M) ∧ (¬ ((M 66 54) = 0) → (∃ k2 : Nat, PX12_undo_11 (fun M3 => (∃ k5 : Nat, PX12_undo_64 (fun M6 => (∀ M9 : Mem, M9 = (mset M6 66 55 (Int.tmod (wr32 ((wr32 ((M6 66 55) + 20)) - 1)) 20)) → (∀ M11 : Mem, M11 = (mset M9 66 54 (wr32 ((M9 66 54) - 1))) → Q 1 M11))) Q k5 0 M3)) Q k2 0 M)))
set_option maxRecDepth 100000 in
set_option maxHeartbeats 2000000 in
theorem qX12_undo_21 {E : EV} {h : Int} {v1 : Int}  {K : Mem → Prop} {Q : Int → Mem → Prop} (hK : ∀ (M : Mem), K M → G h M → TG E miX12_undo 2 h (RI 0 Q) 56 [(2, 66), (0, v1), (3, 0)] [] M) : ∀ (k : Nat) (v2 : Int) (M : Mem), PX12_undo_21 v1 K Q k v2 M → G h M → TG E miX12_undo 2 h (RI 0 Q) 21 [(2, 66), (0, v1), (0, v2)] [] M := by
  intro k
  induction k with
  | zero =>
    intro v2 M H
    exact False.elim H
  | succ k ih =>
    intro v2 M H hG
    refine T_iload_n (i := 2) (pc' := 22) dX12_undo_21 rfl rfl rfl ?_
    refine T_iconst (pc' := 23) dX12_undo_22 (by decide) rfl ?_
    refine T_icmp_ge (pc' := 56) dX12_undo_23 (by decide) (pf := 26) rfl (fun c1 => ?_) (fun c1 => ?_)
    · skip
      replace H := H.1 c1
      exact T_wk (L' := [(2, 66), (0, v1), (3, 0)]) (hK _ H hG) ⟨Or.inr rfl, Or.inr rfl, Or.inl rfl, trivial⟩
    · skip
      replace H := H.2 c1
      refine T_aload_n (i := 0) (pc' := 27) dX12_undo_26 rfl rfl rfl ?_
      refine T_iload_n (i := 1) (pc' := 28) dX12_undo_27 rfl rfl rfl ?_
      refine T_iload_n (i := 2) (pc' := 29) dX12_undo_28 rfl rfl rfl ?_
      refine T_aload_n (i := 0) (pc' := 30) dX12_undo_29 rfl rfl rfl ?_
      refine U_gr (q := 100) (k := 53) (kI := 53) (pc' := 33) dX12_undo_30 rfl cl12 (by decide) rfl (by decide) flX12_116 rfl rfl rfl (G_at hG 100 rfl) (by decide) rfl ?_
      refine T_bipush (pc' := 35) dX12_undo_33 rfl (by decide) rfl ?_
      refine T_aload_n (i := 0) (pc' := 36) dX12_undo_35 rfl rfl rfl ?_
      refine U_gf (v := (0, (M 66 55))) (k := 55) (kI := 55) (pc' := 39) dX12_undo_36 rfl cl12 (by decide) rfl (by decide) flX12_470 rfl rfl (by decide) rfl rfl ?_
      refine T_imul (pc' := 40) dX12_undo_39 rfl ?_
      refine T_iconst (pc' := 41) dX12_undo_40 (by decide) rfl ?_
      refine T_iload_n (i := 1) (pc' := 42) dX12_undo_41 rfl rfl rfl ?_
      refine T_imul (pc' := 43) dX12_undo_42 rfl ?_
      refine T_iadd (pc' := 44) dX12_undo_43 rfl ?_
      refine T_iload_n (i := 2) (pc' := 45) dX12_undo_44 rfl rfl rfl ?_
      refine T_iadd (pc' := 46) dX12_undo_45 rfl ?_
      obtain ⟨z1, z2, H⟩ := H
      refine T_iald (pc' := 47) dX12_undo_46 (by decide) rfl z1 z2 rfl ?_
      obtain ⟨z2, H⟩ := H
      refine T_callV (av := [(0, v1), (0, v2), (0, (M 100 (wr32 ((wr32 ((wr32 (33 * (M 66 55))) + (wr32 (3 * v1)))) + v2))))]) (st := []) (d2 := 1) (nc2 := 0) (ns2 := 0) (pc' := 50) dX12_undo_47 rfl mtX12_makes mvX12_makes mlX12_473 cl12 rfl rfl rfl (Nat.le_of_ble_eq_true rfl) (by decide) ⟨by decide, by decide⟩ rfl (pX12_makes (E := E) (h := h) (M := M) (v1 := v1) (v2 := v2) (v3 := (M 100 (wr32 ((wr32 ((wr32 (33 * (M 66 55))) + (wr32 (3 * v1)))) + v2)))) z2 hG) (kF (st2 := []) rfl (fun hG3 => ?_))
      obtain ⟨M4, eM4⟩ : ∃ m : Mem, m = (fmX12_makes M v1 v2 (M 100 (wr32 ((wr32 ((wr32 (33 * (M 66 55))) + (wr32 (3 * v1)))) + v2)))) := ⟨_, rfl⟩
      rw [← eM4] at hG3 ⊢
      replace H := H M4 eM4
      refine T_iinc (L' := [(2, 66), (0, v1), (0, (wr32 (v2 + 1)))]) (pc' := 53) dX12_undo_50 rfl (by decide) rfl rfl ?_
      refine T_goto (pc' := 21) dX12_undo_53 (by decide) ?_
      exact T_wk (L' := [(2, 66), (0, v1), (0, (wr32 (v2 + 1)))]) (ih _ _ H hG3) ⟨Or.inr rfl, Or.inr rfl, Or.inr rfl, trivial⟩
set_option maxRecDepth 100000 in
set_option maxHeartbeats 2000000 in
theorem qX12_undo_11 {E : EV} {h : Int}   {K : Mem → Prop} {Q : Int → Mem → Prop} (hK : ∀ (M : Mem), K M → G h M → TG E miX12_undo 2 h (RI 0 Q) 62 [(2, 66), (3, 0), (3, 0)] [] M) : ∀ (k : Nat) (v1 : Int) (M : Mem), PX12_undo_11  K Q k v1 M → G h M → TG E miX12_undo 2 h (RI 0 Q) 11 [(2, 66), (0, v1), (3, 0)] [] M := by
  intro k
  induction k with
  | zero =>
    intro v1 M H
    exact False.elim H
  | succ k ih =>
    intro v1 M H hG
    refine T_iload_n (i := 1) (pc' := 12) dX12_undo_11 rfl rfl rfl ?_
    refine T_aload_n (i := 0) (pc' := 13) dX12_undo_12 rfl rfl rfl ?_
    refine T_callV (av := []) (st := [(0, v1)]) (d2 := 1) (nc2 := 0) (ns2 := 0) (pc' := 16) dX12_undo_13 rfl mtX12_peopleMany mvX12_peopleMany mlX12_349 cl12 rfl rfl rfl (Nat.le_of_ble_eq_true rfl) (by decide) ⟨by decide, by decide⟩ rfl (pX12_peopleMany (E := E) (h := h) (M := M) hG) (kF (st2 := [(0, (fX12_peopleMany M)), (0, v1)]) rfl (fun hG1 => ?_))
    refine T_icmp_ge (pc' := 62) dX12_undo_16 (by decide) (pf := 19) rfl (fun c2 => ?_) (fun c2 => ?_)
    · skip
      replace H := H.1 c2
      exact T_wk (L' := [(2, 66), (3, 0), (3, 0)]) (hK _ H hG) ⟨Or.inr rfl, Or.inl rfl, Or.inl rfl, trivial⟩
    · skip
      replace H := H.2 c2
      refine T_iconst (pc' := 20) dX12_undo_19 (by decide) rfl ?_
      refine T_istore_n (i := 2) (L' := [(2, 66), (0, v1), (0, 0)]) (pc' := 21) dX12_undo_20 rfl (by decide) rfl rfl ?_
      obtain ⟨k3, H⟩ := H
      refine T_wk (L' := [(2, 66), (0, v1), (0, 0)]) (qX12_undo_21 (v1 := v1) (fun M4 H hG5 => ?_) _ _ _ H hG) ⟨Or.inr rfl, Or.inr rfl, Or.inr rfl, trivial⟩
      refine T_iinc (L' := [(2, 66), (0, (wr32 (v1 + 1))), (3, 0)]) (pc' := 59) dX12_undo_56 rfl (by decide) rfl rfl ?_
      refine T_goto (pc' := 11) dX12_undo_59 (by decide) ?_
      exact T_wk (L' := [(2, 66), (0, (wr32 (v1 + 1))), (3, 0)]) (ih _ _ H hG5) ⟨Or.inr rfl, Or.inr rfl, Or.inl rfl, trivial⟩
set_option maxRecDepth 100000 in
set_option maxHeartbeats 2000000 in
theorem qX12_undo_64 {E : EV} {h : Int}   {K : Mem → Prop} {Q : Int → Mem → Prop} (hK : ∀ (M : Mem), K M → G h M → TG E miX12_undo 2 h (RI 0 Q) 99 [(2, 66), (3, 0), (3, 0)] [] M) : ∀ (k : Nat) (v1 : Int) (M : Mem), PX12_undo_64  K Q k v1 M → G h M → TG E miX12_undo 2 h (RI 0 Q) 64 [(2, 66), (0, v1), (3, 0)] [] M := by
  intro k
  induction k with
  | zero =>
    intro v1 M H
    exact False.elim H
  | succ k ih =>
    intro v1 M H hG
    refine T_iload_n (i := 1) (pc' := 65) dX12_undo_64 rfl rfl rfl ?_
    refine T_bipush (pc' := 67) dX12_undo_65 rfl (by decide) rfl ?_
    refine T_icmp_ge (pc' := 99) dX12_undo_67 (by decide) (pf := 70) rfl (fun c1 => ?_) (fun c1 => ?_)
    · skip
      replace H := H.1 c1
      exact T_wk (L' := [(2, 66), (3, 0), (3, 0)]) (hK _ H hG) ⟨Or.inr rfl, Or.inl rfl, Or.inl rfl, trivial⟩
    · skip
      replace H := H.2 c1
      refine T_aload_n (i := 0) (pc' := 71) dX12_undo_70 rfl rfl rfl ?_
      refine U_gr (q := 92) (k := 41) (kI := 41) (pc' := 74) dX12_undo_71 rfl cl12 (by decide) rfl (by decide) flX12_92 rfl rfl rfl (G_at hG 92 rfl) (by decide) rfl ?_
      refine T_iload_n (i := 1) (pc' := 75) dX12_undo_74 rfl rfl rfl ?_
      refine T_aload_n (i := 0) (pc' := 76) dX12_undo_75 rfl rfl rfl ?_
      refine U_gr (q := 100) (k := 53) (kI := 53) (pc' := 79) dX12_undo_76 rfl cl12 (by decide) rfl (by decide) flX12_116 rfl rfl rfl (G_at hG 100 rfl) (by decide) rfl ?_
      refine T_bipush (pc' := 81) dX12_undo_79 rfl (by decide) rfl ?_
      refine T_aload_n (i := 0) (pc' := 82) dX12_undo_81 rfl rfl rfl ?_
      refine U_gf (v := (0, (M 66 55))) (k := 55) (kI := 55) (pc' := 85) dX12_undo_82 rfl cl12 (by decide) rfl (by decide) flX12_470 rfl rfl (by decide) rfl rfl ?_
      refine T_imul (pc' := 86) dX12_undo_85 rfl ?_
      refine T_bipush (pc' := 88) dX12_undo_86 rfl (by decide) rfl ?_
      refine T_iadd (pc' := 89) dX12_undo_88 rfl ?_
      refine T_iload_n (i := 1) (pc' := 90) dX12_undo_89 rfl rfl rfl ?_
      refine T_iadd (pc' := 91) dX12_undo_90 rfl ?_
      obtain ⟨z1, z2, H⟩ := H
      refine T_iald (pc' := 92) dX12_undo_91 (by decide) rfl z1 z2 rfl ?_
      obtain ⟨z1, z2, H⟩ := H
      refine T_iast (pc' := 93) dX12_undo_92 (by decide) rfl z1 z2 rfl ?_
      have hG2 := (G_arr (x := 92) (i := v1) (y := (M 100 (wr32 ((wr32 ((wr32 (33 * (M 66 55))) + 27)) + v1)))) rfl (by decide) hG)
      obtain ⟨M3, eM3⟩ : ∃ m : Mem, m = (mset M 92 v1 (M 100 (wr32 ((wr32 ((wr32 (33 * (M 66 55))) + 27)) + v1)))) := ⟨_, rfl⟩
      rw [← eM3] at hG2 ⊢
      replace H := H M3 eM3
      refine T_iinc (L' := [(2, 66), (0, (wr32 (v1 + 1))), (3, 0)]) (pc' := 96) dX12_undo_93 rfl (by decide) rfl rfl ?_
      refine T_goto (pc' := 64) dX12_undo_96 (by decide) ?_
      exact T_wk (L' := [(2, 66), (0, (wr32 (v1 + 1))), (3, 0)]) (ih _ _ H hG2) ⟨Or.inr rfl, Or.inr rfl, Or.inl rfl, trivial⟩
set_option maxRecDepth 100000 in
set_option maxHeartbeats 2000000 in
theorem pX12_undo {E : EV} {h : Int} {M : Mem}   {Q : Int → Mem → Prop} (H : PX12_undo  M Q) : C2 E miX12_undo 2 h [(2, 66)] M (RI 0 Q) := by
  refine C2_of (L := [(2, 66), (3, 0), (3, 0)]) (by decide +kernel) (Nat.le_of_ble_eq_true rfl) rfl (fun hG => ?_)
  refine T_aload_n (i := 0) (pc' := 1) dX12_undo_0 rfl rfl rfl ?_
  refine U_gf (v := (0, (M 66 54))) (k := 54) (kI := 54) (pc' := 4) dX12_undo_1 rfl cl12 (by decide) rfl (by decide) flX12_343 rfl rfl (by decide) rfl rfl ?_
  refine T_if_ne (pc' := 9) dX12_undo_4 (by decide) (pf := 7) rfl (fun c1 => ?_) (fun c1 => ?_)
  · skip
    replace H := H.2 c1
    refine T_iconst (pc' := 10) dX12_undo_9 (by decide) rfl ?_
    refine T_istore_n (i := 1) (L' := [(2, 66), (0, 0), (3, 0)]) (pc' := 11) dX12_undo_10 rfl (by decide) rfl rfl ?_
    obtain ⟨k2, H⟩ := H
    refine T_wk (L' := [(2, 66), (0, 0), (3, 0)]) (qX12_undo_11  (fun M3 H hG4 => ?_) _ _ _ H hG) ⟨Or.inr rfl, Or.inr rfl, Or.inl rfl, trivial⟩
    refine T_iconst (pc' := 63) dX12_undo_62 (by decide) rfl ?_
    refine T_istore_n (i := 1) (L' := [(2, 66), (0, 0), (3, 0)]) (pc' := 64) dX12_undo_63 rfl (by decide) rfl rfl ?_
    obtain ⟨k5, H⟩ := H
    refine T_wk (L' := [(2, 66), (0, 0), (3, 0)]) (qX12_undo_64  (fun M6 H hG7 => ?_) _ _ _ H hG4) ⟨Or.inr rfl, Or.inr rfl, Or.inl rfl, trivial⟩
    refine T_aload_n (i := 0) (pc' := 100) dX12_undo_99 rfl rfl rfl ?_
    refine T_aload_n (i := 0) (pc' := 101) dX12_undo_100 rfl rfl rfl ?_
    refine U_gf (v := (0, (M6 66 55))) (k := 55) (kI := 55) (pc' := 104) dX12_undo_101 rfl cl12 (by decide) rfl (by decide) flX12_470 rfl rfl (by decide) rfl rfl ?_
    refine T_bipush (pc' := 106) dX12_undo_104 rfl (by decide) rfl ?_
    refine T_iadd (pc' := 107) dX12_undo_106 rfl ?_
    refine T_iconst (pc' := 108) dX12_undo_107 (by decide) rfl ?_
    refine T_isub (pc' := 109) dX12_undo_108 rfl ?_
    refine T_bipush (pc' := 111) dX12_undo_109 rfl (by decide) rfl ?_
    refine T_irem (pc' := 112) dX12_undo_111 (by decide) rfl ?_
    refine U_pf (y := (Int.tmod (wr32 ((wr32 ((M6 66 55) + 20)) - 1)) 20)) (k := 55) (kI := 55) (pc' := 115) dX12_undo_112 rfl cl12 (by decide) rfl (by decide) flX12_470 rfl rfl rfl rfl rfl (by decide) (fun z => z) rfl ?_
    have hG8 := (G_fld (x := 66) (i := 55) (y := (Int.tmod (wr32 ((wr32 ((M6 66 55) + 20)) - 1)) 20)) rfl (by decide) (by decide) (by decide) hG7)
    obtain ⟨M9, eM9⟩ : ∃ m : Mem, m = (mset M6 66 55 (Int.tmod (wr32 ((wr32 ((M6 66 55) + 20)) - 1)) 20)) := ⟨_, rfl⟩
    rw [← eM9] at hG8 ⊢
    replace H := H M9 eM9
    refine T_aload_n (i := 0) (pc' := 116) dX12_undo_115 rfl rfl rfl ?_
    refine T_dup (pc' := 117) dX12_undo_116 (Nat.ne_of_beq_eq_false rfl) rfl ?_
    refine U_gf (v := (0, (M9 66 54))) (k := 54) (kI := 54) (pc' := 120) dX12_undo_117 rfl cl12 (by decide) rfl (by decide) flX12_343 rfl rfl (by decide) rfl rfl ?_
    refine T_iconst (pc' := 121) dX12_undo_120 (by decide) rfl ?_
    refine T_isub (pc' := 122) dX12_undo_121 rfl ?_
    refine U_pf (y := (wr32 ((M9 66 54) - 1))) (k := 54) (kI := 54) (pc' := 125) dX12_undo_122 rfl cl12 (by decide) rfl (by decide) flX12_343 rfl rfl rfl rfl rfl (by decide) (fun z => z) rfl ?_
    have hG10 := (G_fld (x := 66) (i := 54) (y := (wr32 ((M9 66 54) - 1))) rfl (by decide) (by decide) (by decide) hG8)
    obtain ⟨M11, eM11⟩ : ∃ m : Mem, m = (mset M9 66 54 (wr32 ((M9 66 54) - 1))) := ⟨_, rfl⟩
    rw [← eM11] at hG10 ⊢
    replace H := H M11 eM11
    refine T_iconst (pc' := 126) dX12_undo_125 (by decide) rfl ?_
    exact T_zret dX12_undo_126 rfl (by decide) ⟨rfl, hG10, _, rfl, H⟩
  · skip
    replace H := H.1 c1
    refine T_iconst (pc' := 8) dX12_undo_7 (by decide) rfl ?_
    exact T_zret dX12_undo_8 rfl (by decide) ⟨rfl, hG, _, rfl, H⟩
def PX12_set (v1 : Int) (v2 : Int) (v3 : Int) (M : Mem) (Q : Int → Mem → Prop) : Prop :=
  (((fX12_isPerson M v1) = 0 → Q (-1) M) ∧ (¬ ((fX12_isPerson M v1) = 0) → (((fX12_isIn v2 0 2) = 0 → Q (-1) M) ∧ (¬ ((fX12_isIn v2 0 2) = 0) → (∃ j5 : Int → Prop, (∀ (u6 : Int), j5 u6 → ((u6 = 0 → Q (-1) M) ∧ (¬ (u6 = 0) → PX12_keeps M (fun _ M10 => (nX12_personOf v1 (if v2 = 0 then (1 : Int) else (if v2 = 1 then (2 : Int) else 0))) ∧ (nX12_makes v1 (if v2 = 0 then (1 : Int) else (if v2 = 1 then (2 : Int) else 0))) ∧ (∀ M18 : Mem, M18 = (fmX12_makes M10 v1 (if v2 = 0 then (1 : Int) else (if v2 = 1 then (2 : Int) else 0)) (if v2 = 0 then (wr32 (v3 - 60)) else v3)) → Q (if v2 = 0 then (wr32 ((fX12_personOf M10 v1 (if v2 = 0 then (1 : Int) else (if v2 = 1 then (2 : Int) else 0))) + 60)) else (fX12_personOf M10 v1 (if v2 = 0 then (1 : Int) else (if v2 = 1 then (2 : Int) else 0)))) M18))))) ∧ ((v2 = 0 → j5 (fX12_isIn v3 0 120)) ∧ (¬ (v2 = 0) → ((v2 = 1 → j5 (fX12_isIn v3 0 9)) ∧ (¬ (v2 = 1) → (((fX12_isCell M v3) = 0 → j5 0) ∧ (¬ ((fX12_isCell M v3) = 0) → (nX12_isWallNow v3) ∧ (((fX12_isWallNow M v3) = 0 → j5 1) ∧ (¬ ((fX12_isWallNow M v3) = 0) → j5 0)))))))))))))
set_option maxRecDepth 100000 in
set_option maxHeartbeats 2000000 in
theorem pX12_set {E : EV} {h : Int} {M : Mem} {v1 : Int} {v2 : Int} {v3 : Int}  {Q : Int → Mem → Prop} (H : PX12_set v1 v2 v3 M Q) : C2 E miX12_set 3 h [(2, 66), (0, v1), (0, v2), (0, v3)] M (RI 0 Q) := by
  refine C2_of (L := [(2, 66), (0, v1), (0, v2), (0, v3), (3, 0), (3, 0), (3, 0)]) (by decide +kernel) (Nat.le_of_ble_eq_true rfl) rfl (fun hG => ?_)
  refine T_aload_n (i := 0) (pc' := 1) dX12_set_0 rfl rfl rfl ?_
  refine T_iload_n (i := 1) (pc' := 2) dX12_set_1 rfl rfl rfl ?_
  refine T_callV (av := [(0, v1)]) (st := []) (d2 := 2) (nc2 := 0) (ns2 := 0) (pc' := 5) dX12_set_2 rfl mtX12_isPerson mvX12_isPerson mlX12_352 cl12 rfl rfl rfl (Nat.le_of_ble_eq_true rfl) (by decide) ⟨by decide, by decide⟩ rfl (pX12_isPerson (E := E) (h := h) (M := M) (v1 := v1) hG) (kF (st2 := [(0, (fX12_isPerson M v1))]) rfl (fun hG1 => ?_))
  refine T_if_eq (pc' := 20) dX12_set_5 (by decide) (pf := 8) rfl (fun c2 => ?_) (fun c2 => ?_)
  · skip
    replace H := H.1 c2
    refine T_iconst (pc' := 21) dX12_set_20 (by decide) rfl ?_
    exact T_iret dX12_set_21 rfl ⟨rfl, hG, _, rfl, H⟩
  · skip
    replace H := H.2 c2
    refine T_iload_n (i := 2) (pc' := 9) dX12_set_8 rfl rfl rfl ?_
    refine T_i2l (pc' := 10) dX12_set_9 rfl ?_
    refine T_lconst (v := 0) (pc' := 11) dX12_set_10 rfl (by decide) rfl ?_
    refine T_ldc2 (n := 2) (pc' := 14) dX12_set_11 rfl kjX12_437 rfl (by decide) rfl ?_
    refine T_callS (av := [(1, v2), (1, 0), (1, 2)]) (st := []) (d2 := 1) (nc2 := 0) (ns2 := 0) (pc' := 17) dX12_set_14 rfl mtX12_isIn mvX12_isIn mlX12_244 rfl rfl (Nat.le_of_ble_eq_true rfl) (by decide) ⟨by decide, by decide⟩ rfl (pX12_isIn (E := E) (h := h) (M := M) (v0 := v2) (v2 := 0) (v4 := 2) hG) (kF (st2 := [(0, (fX12_isIn v2 0 2))]) rfl (fun hG3 => ?_))
    refine T_if_ne (pc' := 22) dX12_set_17 (by decide) (pf := 20) rfl (fun c4 => ?_) (fun c4 => ?_)
    · skip
      replace H := H.2 c4
      refine T_iload_n (i := 2) (pc' := 23) dX12_set_22 rfl rfl rfl ?_
      obtain ⟨j5, hj5, H⟩ := H
      have qj5 : ∀ (u6 : Int), j5 u6 → G h M → TG E miX12_set 3 h (RI 0 Q) 76 [(2, 66), (0, v1), (0, v2), (0, v3), (3, 0), (3, 0), (3, 0)] [(0, u6)] M := by
        intro u6 H hG7
        replace H := hj5 _ H
        refine T_istore (i := 4) (L' := [(2, 66), (0, v1), (0, v2), (0, v3), (0, u6), (3, 0), (3, 0)]) (pc' := 78) dX12_set_76 (by decide) rfl rfl ?_
        refine T_iload (i := 4) (pc' := 80) dX12_set_78 rfl rfl ?_
        refine T_if_ne (pc' := 85) dX12_set_80 (by decide) (pf := 83) rfl (fun c8 => ?_) (fun c8 => ?_)
        · skip
          replace H := H.2 c8
          refine T_aload_n (i := 0) (pc' := 86) dX12_set_85 rfl rfl rfl ?_
          refine T_callV (av := []) (st := []) (d2 := 2) (nc2 := 0) (ns2 := 0) (pc' := 89) dX12_set_86 rfl mtX12_keeps mvX12_keeps mlX12_484 cl12 rfl rfl rfl (Nat.le_of_ble_eq_true rfl) (by decide) ⟨by decide, by decide⟩ rfl (pX12_keeps (E := E) (h := h) (M := M) H hG7) ?_
          rintro _ _ M10 ⟨rfl, hG11, rfl, H⟩ _
          refine T_iload_n (i := 2) (pc' := 90) dX12_set_89 rfl rfl rfl ?_
          have HJ12 : T E miX12_set 3 126 0 0 (fun r S M' => S = S0 ∧ G h M' ∧ RI 0 Q r M') 107 [(2, 66), (0, v1), (0, v2), (0, v3), (3, 0), (3, 0), (3, 0)] [(0, (if v2 = 0 then (1 : Int) else (if v2 = 1 then (2 : Int) else 0)))] S0 M10 0 0 := by
            refine T_istore (i := 5) (L' := [(2, 66), (0, v1), (0, v2), (0, v3), (3, 0), (0, (if v2 = 0 then (1 : Int) else (if v2 = 1 then (2 : Int) else 0))), (3, 0)]) (pc' := 109) dX12_set_107 (by decide) rfl rfl ?_
            refine T_aload_n (i := 0) (pc' := 110) dX12_set_109 rfl rfl rfl ?_
            refine T_iload_n (i := 1) (pc' := 111) dX12_set_110 rfl rfl rfl ?_
            refine T_iload (i := 5) (pc' := 113) dX12_set_111 rfl rfl ?_
            obtain ⟨z13, H⟩ := H
            refine T_callV (av := [(0, v1), (0, (if v2 = 0 then (1 : Int) else (if v2 = 1 then (2 : Int) else 0)))]) (st := []) (d2 := 1) (nc2 := 0) (ns2 := 0) (pc' := 116) dX12_set_113 rfl mtX12_personOf mvX12_personOf mlX12_373 cl12 rfl rfl rfl (Nat.le_of_ble_eq_true rfl) (by decide) ⟨by decide, by decide⟩ rfl (pX12_personOf (E := E) (h := h) (M := M10) (v1 := v1) (v2 := (if v2 = 0 then (1 : Int) else (if v2 = 1 then (2 : Int) else 0))) z13 hG11) (kF (st2 := [(0, (fX12_personOf M10 v1 (if v2 = 0 then (1 : Int) else (if v2 = 1 then (2 : Int) else 0))))]) rfl (fun hG14 => ?_))
            refine T_istore (i := 6) (L' := [(2, 66), (0, v1), (0, v2), (0, v3), (3, 0), (0, (if v2 = 0 then (1 : Int) else (if v2 = 1 then (2 : Int) else 0))), (0, (fX12_personOf M10 v1 (if v2 = 0 then (1 : Int) else (if v2 = 1 then (2 : Int) else 0))))]) (pc' := 118) dX12_set_116 (by decide) rfl rfl ?_
            refine T_aload_n (i := 0) (pc' := 119) dX12_set_118 rfl rfl rfl ?_
            refine T_iload_n (i := 1) (pc' := 120) dX12_set_119 rfl rfl rfl ?_
            refine T_iload (i := 5) (pc' := 122) dX12_set_120 rfl rfl ?_
            refine T_iload_n (i := 2) (pc' := 123) dX12_set_122 rfl rfl rfl ?_
            have HJ15 : T E miX12_set 3 126 0 0 (fun r S M' => S = S0 ∧ G h M' ∧ RI 0 Q r M') 134 [(3, 0), (3, 0), (0, v2), (3, 0), (3, 0), (3, 0), (0, (fX12_personOf M10 v1 (if v2 = 0 then (1 : Int) else (if v2 = 1 then (2 : Int) else 0))))] [(0, (if v2 = 0 then (wr32 (v3 - 60)) else v3)), (0, (if v2 = 0 then (1 : Int) else (if v2 = 1 then (2 : Int) else 0))), (0, v1), (2, 66)] S0 M10 0 0 := by
              obtain ⟨z16, H⟩ := H
              refine T_callV (av := [(0, v1), (0, (if v2 = 0 then (1 : Int) else (if v2 = 1 then (2 : Int) else 0))), (0, (if v2 = 0 then (wr32 (v3 - 60)) else v3))]) (st := []) (d2 := 1) (nc2 := 0) (ns2 := 0) (pc' := 137) dX12_set_134 rfl mtX12_makes mvX12_makes mlX12_473 cl12 rfl rfl rfl (Nat.le_of_ble_eq_true rfl) (by decide) ⟨by decide, by decide⟩ rfl (pX12_makes (E := E) (h := h) (M := M10) (v1 := v1) (v2 := (if v2 = 0 then (1 : Int) else (if v2 = 1 then (2 : Int) else 0))) (v3 := (if v2 = 0 then (wr32 (v3 - 60)) else v3)) z16 hG11) (kF (st2 := []) rfl (fun hG17 => ?_))
              obtain ⟨M18, eM18⟩ : ∃ m : Mem, m = (fmX12_makes M10 v1 (if v2 = 0 then (1 : Int) else (if v2 = 1 then (2 : Int) else 0)) (if v2 = 0 then (wr32 (v3 - 60)) else v3)) := ⟨_, rfl⟩
              rw [← eM18] at hG17 ⊢
              replace H := H M18 eM18
              refine T_iload_n (i := 2) (pc' := 138) dX12_set_137 rfl rfl rfl ?_
              have HJ19 : T E miX12_set 3 126 0 0 (fun r S M' => S = S0 ∧ G h M' ∧ RI 0 Q r M') 151 [(3, 0), (3, 0), (3, 0), (3, 0), (3, 0), (3, 0), (3, 0)] [(0, (if v2 = 0 then (wr32 ((fX12_personOf M10 v1 (if v2 = 0 then (1 : Int) else (if v2 = 1 then (2 : Int) else 0))) + 60)) else (fX12_personOf M10 v1 (if v2 = 0 then (1 : Int) else (if v2 = 1 then (2 : Int) else 0)))))] S0 M18 0 0 := by
                exact T_iret dX12_set_151 rfl ⟨rfl, hG17, _, rfl, H⟩
              refine T_if_ne (pc' := 149) dX12_set_138 (by decide) (pf := 141) rfl (fun c20 => ?_) (fun c20 => ?_)
              · skip
                refine T_iload (i := 6) (pc' := 151) dX12_set_149 rfl rfl ?_
                exact T_wk (L' := [(3, 0), (3, 0), (3, 0), (3, 0), (3, 0), (3, 0), (3, 0)]) (by have q := HJ19; try simp only [if_neg c20] at q ⊢; exact q) ⟨Or.inl rfl, Or.inl rfl, Or.inl rfl, Or.inl rfl, Or.inl rfl, Or.inl rfl, Or.inl rfl, trivial⟩
              · skip
                refine T_iload (i := 6) (pc' := 143) dX12_set_141 rfl rfl ?_
                refine T_bipush (pc' := 145) dX12_set_143 rfl (by decide) rfl ?_
                refine T_iadd (pc' := 146) dX12_set_145 rfl ?_
                refine T_goto (pc' := 151) dX12_set_146 (by decide) ?_
                exact T_wk (L' := [(3, 0), (3, 0), (3, 0), (3, 0), (3, 0), (3, 0), (3, 0)]) (by have q := HJ19; try simp only [if_pos c20] at q ⊢; exact q) ⟨Or.inl rfl, Or.inl rfl, Or.inl rfl, Or.inl rfl, Or.inl rfl, Or.inl rfl, Or.inl rfl, trivial⟩
            refine T_if_ne (pc' := 133) dX12_set_123 (by decide) (pf := 126) rfl (fun c21 => ?_) (fun c21 => ?_)
            · skip
              refine T_iload_n (i := 3) (pc' := 134) dX12_set_133 rfl rfl rfl ?_
              exact T_wk (L' := [(3, 0), (3, 0), (0, v2), (3, 0), (3, 0), (3, 0), (0, (fX12_personOf M10 v1 (if v2 = 0 then (1 : Int) else (if v2 = 1 then (2 : Int) else 0))))]) (by have q := HJ15; try simp only [if_neg c21] at q ⊢; exact q) ⟨Or.inl rfl, Or.inl rfl, Or.inr rfl, Or.inl rfl, Or.inl rfl, Or.inl rfl, Or.inr rfl, trivial⟩
            · skip
              refine T_iload_n (i := 3) (pc' := 127) dX12_set_126 rfl rfl rfl ?_
              refine T_bipush (pc' := 129) dX12_set_127 rfl (by decide) rfl ?_
              refine T_isub (pc' := 130) dX12_set_129 rfl ?_
              refine T_goto (pc' := 134) dX12_set_130 (by decide) ?_
              exact T_wk (L' := [(3, 0), (3, 0), (0, v2), (3, 0), (3, 0), (3, 0), (0, (fX12_personOf M10 v1 (if v2 = 0 then (1 : Int) else (if v2 = 1 then (2 : Int) else 0))))]) (by have q := HJ15; try simp only [if_pos c21] at q ⊢; exact q) ⟨Or.inl rfl, Or.inl rfl, Or.inr rfl, Or.inl rfl, Or.inl rfl, Or.inl rfl, Or.inr rfl, trivial⟩
          refine T_if_ne (pc' := 97) dX12_set_90 (by decide) (pf := 93) rfl (fun c22 => ?_) (fun c22 => ?_)
          · skip
            refine T_iload_n (i := 2) (pc' := 98) dX12_set_97 rfl rfl rfl ?_
            refine T_iconst (pc' := 99) dX12_set_98 (by decide) rfl ?_
            refine T_icmp_ne (pc' := 106) dX12_set_99 (by decide) (pf := 102) rfl (fun c23 => ?_) (fun c23 => ?_)
            · skip
              refine T_iconst (pc' := 107) dX12_set_106 (by decide) rfl ?_
              exact T_wk (L' := [(2, 66), (0, v1), (0, v2), (0, v3), (3, 0), (3, 0), (3, 0)]) (by have q := HJ12; try simp only [if_neg c22] at q ⊢; try simp only [if_neg c23] at q ⊢; exact q) ⟨Or.inr rfl, Or.inr rfl, Or.inr rfl, Or.inr rfl, Or.inl rfl, Or.inl rfl, Or.inl rfl, trivial⟩
            · skip
              refine T_iconst (pc' := 103) dX12_set_102 (by decide) rfl ?_
              refine T_goto (pc' := 107) dX12_set_103 (by decide) ?_
              exact T_wk (L' := [(2, 66), (0, v1), (0, v2), (0, v3), (3, 0), (3, 0), (3, 0)]) (by have q := HJ12; try simp only [if_neg c22] at q ⊢; try simp only [if_pos c23] at q ⊢; exact q) ⟨Or.inr rfl, Or.inr rfl, Or.inr rfl, Or.inr rfl, Or.inl rfl, Or.inl rfl, Or.inl rfl, trivial⟩
          · skip
            refine T_iconst (pc' := 94) dX12_set_93 (by decide) rfl ?_
            refine T_goto (pc' := 107) dX12_set_94 (by decide) ?_
            exact T_wk (L' := [(2, 66), (0, v1), (0, v2), (0, v3), (3, 0), (3, 0), (3, 0)]) (by have q := HJ12; try simp only [if_pos c22] at q ⊢; exact q) ⟨Or.inr rfl, Or.inr rfl, Or.inr rfl, Or.inr rfl, Or.inl rfl, Or.inl rfl, Or.inl rfl, trivial⟩
        · skip
          replace H := H.1 c8
          refine T_iconst (pc' := 84) dX12_set_83 (by decide) rfl ?_
          exact T_iret dX12_set_84 rfl ⟨rfl, hG7, _, rfl, H⟩
      refine T_if_ne (pc' := 38) dX12_set_23 (by decide) (pf := 26) rfl (fun c24 => ?_) (fun c24 => ?_)
      · skip
        replace H := H.2 c24
        refine T_iload_n (i := 2) (pc' := 39) dX12_set_38 rfl rfl rfl ?_
        refine T_iconst (pc' := 40) dX12_set_39 (by decide) rfl ?_
        refine T_icmp_ne (pc' := 55) dX12_set_40 (by decide) (pf := 43) rfl (fun c25 => ?_) (fun c25 => ?_)
        · skip
          replace H := H.2 c25
          refine T_aload_n (i := 0) (pc' := 56) dX12_set_55 rfl rfl rfl ?_
          refine T_iload_n (i := 3) (pc' := 57) dX12_set_56 rfl rfl rfl ?_
          refine T_callV (av := [(0, v3)]) (st := []) (d2 := 2) (nc2 := 0) (ns2 := 0) (pc' := 60) dX12_set_57 rfl mtX12_isCell mvX12_isCell mlX12_481 cl12 rfl rfl rfl (Nat.le_of_ble_eq_true rfl) (by decide) ⟨by decide, by decide⟩ rfl (pX12_isCell (E := E) (h := h) (M := M) (v1 := v3) hG) (kF (st2 := [(0, (fX12_isCell M v3))]) rfl (fun hG26 => ?_))
          refine T_if_eq (pc' := 75) dX12_set_60 (by decide) (pf := 63) rfl (fun c27 => ?_) (fun c27 => ?_)
          · skip
            replace H := H.1 c27
            refine T_iconst (pc' := 76) dX12_set_75 (by decide) rfl ?_
            exact T_wk (L' := [(2, 66), (0, v1), (0, v2), (0, v3), (3, 0), (3, 0), (3, 0)]) (qj5 _ H hG) ⟨Or.inr rfl, Or.inr rfl, Or.inr rfl, Or.inr rfl, Or.inl rfl, Or.inl rfl, Or.inl rfl, trivial⟩
          · skip
            replace H := H.2 c27
            refine T_aload_n (i := 0) (pc' := 64) dX12_set_63 rfl rfl rfl ?_
            refine T_iload_n (i := 3) (pc' := 65) dX12_set_64 rfl rfl rfl ?_
            obtain ⟨z28, H⟩ := H
            refine T_callV (av := [(0, v3)]) (st := []) (d2 := 1) (nc2 := 0) (ns2 := 0) (pc' := 68) dX12_set_65 rfl mtX12_isWallNow mvX12_isWallNow mlX12_355 cl12 rfl rfl rfl (Nat.le_of_ble_eq_true rfl) (by decide) ⟨by decide, by decide⟩ rfl (pX12_isWallNow (E := E) (h := h) (M := M) (v1 := v3) z28 hG) (kF (st2 := [(0, (fX12_isWallNow M v3))]) rfl (fun hG29 => ?_))
            refine T_if_ne (pc' := 75) dX12_set_68 (by decide) (pf := 71) rfl (fun c30 => ?_) (fun c30 => ?_)
            · skip
              replace H := H.2 c30
              refine T_iconst (pc' := 76) dX12_set_75 (by decide) rfl ?_
              exact T_wk (L' := [(2, 66), (0, v1), (0, v2), (0, v3), (3, 0), (3, 0), (3, 0)]) (qj5 _ H hG) ⟨Or.inr rfl, Or.inr rfl, Or.inr rfl, Or.inr rfl, Or.inl rfl, Or.inl rfl, Or.inl rfl, trivial⟩
            · skip
              replace H := H.1 c30
              refine T_iconst (pc' := 72) dX12_set_71 (by decide) rfl ?_
              refine T_goto (pc' := 76) dX12_set_72 (by decide) ?_
              exact T_wk (L' := [(2, 66), (0, v1), (0, v2), (0, v3), (3, 0), (3, 0), (3, 0)]) (qj5 _ H hG) ⟨Or.inr rfl, Or.inr rfl, Or.inr rfl, Or.inr rfl, Or.inl rfl, Or.inl rfl, Or.inl rfl, trivial⟩
        · skip
          replace H := H.1 c25
          refine T_iload_n (i := 3) (pc' := 44) dX12_set_43 rfl rfl rfl ?_
          refine T_i2l (pc' := 45) dX12_set_44 rfl ?_
          refine T_lconst (v := 0) (pc' := 46) dX12_set_45 rfl (by decide) rfl ?_
          refine T_ldc2 (n := 9) (pc' := 49) dX12_set_46 rfl kjX12_479 rfl (by decide) rfl ?_
          refine T_callS (av := [(1, v3), (1, 0), (1, 9)]) (st := []) (d2 := 1) (nc2 := 0) (ns2 := 0) (pc' := 52) dX12_set_49 rfl mtX12_isIn mvX12_isIn mlX12_244 rfl rfl (Nat.le_of_ble_eq_true rfl) (by decide) ⟨by decide, by decide⟩ rfl (pX12_isIn (E := E) (h := h) (M := M) (v0 := v3) (v2 := 0) (v4 := 9) hG) (kF (st2 := [(0, (fX12_isIn v3 0 9))]) rfl (fun hG31 => ?_))
          refine T_goto (pc' := 76) dX12_set_52 (by decide) ?_
          exact T_wk (L' := [(2, 66), (0, v1), (0, v2), (0, v3), (3, 0), (3, 0), (3, 0)]) (qj5 _ H hG) ⟨Or.inr rfl, Or.inr rfl, Or.inr rfl, Or.inr rfl, Or.inl rfl, Or.inl rfl, Or.inl rfl, trivial⟩
      · skip
        replace H := H.1 c24
        refine T_iload_n (i := 3) (pc' := 27) dX12_set_26 rfl rfl rfl ?_
        refine T_i2l (pc' := 28) dX12_set_27 rfl ?_
        refine T_lconst (v := 0) (pc' := 29) dX12_set_28 rfl (by decide) rfl ?_
        refine T_ldc2 (n := 120) (pc' := 32) dX12_set_29 rfl kjX12_477 rfl (by decide) rfl ?_
        refine T_callS (av := [(1, v3), (1, 0), (1, 120)]) (st := []) (d2 := 1) (nc2 := 0) (ns2 := 0) (pc' := 35) dX12_set_32 rfl mtX12_isIn mvX12_isIn mlX12_244 rfl rfl (Nat.le_of_ble_eq_true rfl) (by decide) ⟨by decide, by decide⟩ rfl (pX12_isIn (E := E) (h := h) (M := M) (v0 := v3) (v2 := 0) (v4 := 120) hG) (kF (st2 := [(0, (fX12_isIn v3 0 120))]) rfl (fun hG32 => ?_))
        refine T_goto (pc' := 76) dX12_set_35 (by decide) ?_
        exact T_wk (L' := [(2, 66), (0, v1), (0, v2), (0, v3), (3, 0), (3, 0), (3, 0)]) (qj5 _ H hG) ⟨Or.inr rfl, Or.inr rfl, Or.inr rfl, Or.inr rfl, Or.inl rfl, Or.inl rfl, Or.inl rfl, trivial⟩
    · skip
      replace H := H.1 c4
      refine T_iconst (pc' := 21) dX12_set_20 (by decide) rfl ?_
      exact T_iret dX12_set_21 rfl ⟨rfl, hG, _, rfl, H⟩
def PX12_close (v1 : Int) (v2 : Int) (M : Mem) (Q : Int → Mem → Prop) : Prop :=
  (((fX12_isIn v1 0 (wr32 ((fX12_doorMany M) - 1))) = 0 → Q 0 M) ∧ (¬ ((fX12_isIn v1 0 (wr32 ((fX12_doorMany M) - 1))) = 0) → 0 ≤ v1 ∧ v1 < 6 ∧ (((if (M 92 v1) = 1 then (1 : Int) else 0) = v2 → Q 0 M) ∧ (¬ ((if (M 92 v1) = 1 then (1 : Int) else 0) = v2) → PX12_keeps M (fun _ M7 => 0 ≤ v1 ∧ v1 < 6 ∧ (∀ M11 : Mem, M11 = (mset M7 92 v1 (if v2 = 0 then (0 : Int) else 1)) → Q 1 M11))))))
set_option maxRecDepth 100000 in
set_option maxHeartbeats 2000000 in
theorem pX12_close {E : EV} {h : Int} {M : Mem} {v1 : Int} {v2 : Int}  {Q : Int → Mem → Prop} (H : PX12_close v1 v2 M Q) : C2 E miX12_close 3 h [(2, 66), (0, v1), (0, v2)] M (RI 0 Q) := by
  refine C2_of (L := [(2, 66), (0, v1), (0, v2)]) (by decide +kernel) (Nat.le_of_ble_eq_true rfl) rfl (fun hG => ?_)
  refine T_iload_n (i := 1) (pc' := 1) dX12_close_0 rfl rfl rfl ?_
  refine T_i2l (pc' := 2) dX12_close_1 rfl ?_
  refine T_lconst (v := 0) (pc' := 3) dX12_close_2 rfl (by decide) rfl ?_
  refine T_aload_n (i := 0) (pc' := 4) dX12_close_3 rfl rfl rfl ?_
  refine T_callV (av := []) (st := [(1, 0), (1, v1)]) (d2 := 1) (nc2 := 0) (ns2 := 0) (pc' := 7) dX12_close_4 rfl mtX12_doorMany mvX12_doorMany mlX12_361 cl12 rfl rfl rfl (Nat.le_of_ble_eq_true rfl) (by decide) ⟨by decide, by decide⟩ rfl (pX12_doorMany (E := E) (h := h) (M := M) hG) (kF (st2 := [(0, (fX12_doorMany M)), (1, 0), (1, v1)]) rfl (fun hG1 => ?_))
  refine T_iconst (pc' := 8) dX12_close_7 (by decide) rfl ?_
  refine T_isub (pc' := 9) dX12_close_8 rfl ?_
  refine T_i2l (pc' := 10) dX12_close_9 rfl ?_
  refine T_callS (av := [(1, v1), (1, 0), (1, (wr32 ((fX12_doorMany M) - 1)))]) (st := []) (d2 := 1) (nc2 := 0) (ns2 := 0) (pc' := 13) dX12_close_10 rfl mtX12_isIn mvX12_isIn mlX12_244 rfl rfl (Nat.le_of_ble_eq_true rfl) (by decide) ⟨by decide, by decide⟩ rfl (pX12_isIn (E := E) (h := h) (M := M) (v0 := v1) (v2 := 0) (v4 := (wr32 ((fX12_doorMany M) - 1))) hG) (kF (st2 := [(0, (fX12_isIn v1 0 (wr32 ((fX12_doorMany M) - 1))))]) rfl (fun hG2 => ?_))
  refine T_if_eq (pc' := 35) dX12_close_13 (by decide) (pf := 16) rfl (fun c3 => ?_) (fun c3 => ?_)
  · skip
    replace H := H.1 c3
    refine T_iconst (pc' := 36) dX12_close_35 (by decide) rfl ?_
    exact T_zret dX12_close_36 rfl (by decide) ⟨rfl, hG, _, rfl, H⟩
  · skip
    replace H := H.2 c3
    refine T_aload_n (i := 0) (pc' := 17) dX12_close_16 rfl rfl rfl ?_
    refine U_gr (q := 92) (k := 41) (kI := 41) (pc' := 20) dX12_close_17 rfl cl12 (by decide) rfl (by decide) flX12_92 rfl rfl rfl (G_at hG 92 rfl) (by decide) rfl ?_
    refine T_iload_n (i := 1) (pc' := 21) dX12_close_20 rfl rfl rfl ?_
    obtain ⟨z1, z2, H⟩ := H
    refine T_iald (pc' := 22) dX12_close_21 (by decide) rfl z1 z2 rfl ?_
    refine T_iconst (pc' := 23) dX12_close_22 (by decide) rfl ?_
    have HJ4 : T E miX12_close 3 126 0 0 (fun r S M' => S = S0 ∧ G h M' ∧ RI 0 Q r M') 31 [(2, 66), (0, v1), (0, v2)] [(0, (if (M 92 v1) = 1 then (1 : Int) else 0))] S0 M 0 0 := by
      refine T_iload_n (i := 2) (pc' := 32) dX12_close_31 rfl rfl rfl ?_
      refine T_icmp_ne (pc' := 37) dX12_close_32 (by decide) (pf := 35) rfl (fun c5 => ?_) (fun c5 => ?_)
      · skip
        replace H := H.2 c5
        refine T_aload_n (i := 0) (pc' := 38) dX12_close_37 rfl rfl rfl ?_
        refine T_callV (av := []) (st := []) (d2 := 2) (nc2 := 0) (ns2 := 0) (pc' := 41) dX12_close_38 rfl mtX12_keeps mvX12_keeps mlX12_484 cl12 rfl rfl rfl (Nat.le_of_ble_eq_true rfl) (by decide) ⟨by decide, by decide⟩ rfl (pX12_keeps (E := E) (h := h) (M := M) H hG) ?_
        rintro _ _ M7 ⟨rfl, hG8, rfl, H⟩ _
        refine T_aload_n (i := 0) (pc' := 42) dX12_close_41 rfl rfl rfl ?_
        refine U_gr (q := 92) (k := 41) (kI := 41) (pc' := 45) dX12_close_42 rfl cl12 (by decide) rfl (by decide) flX12_92 rfl rfl rfl (G_at hG8 92 rfl) (by decide) rfl ?_
        refine T_iload_n (i := 1) (pc' := 46) dX12_close_45 rfl rfl rfl ?_
        refine T_iload_n (i := 2) (pc' := 47) dX12_close_46 rfl rfl rfl ?_
        have HJ9 : T E miX12_close 3 126 0 0 (fun r S M' => S = S0 ∧ G h M' ∧ RI 0 Q r M') 55 [(3, 0), (3, 0), (3, 0)] [(0, (if v2 = 0 then (0 : Int) else 1)), (0, v1), (2, 92)] S0 M7 0 0 := by
          obtain ⟨z1, z2, H⟩ := H
          refine T_iast (pc' := 56) dX12_close_55 (by decide) rfl z1 z2 rfl ?_
          have hG10 := (G_arr (x := 92) (i := v1) (y := (if v2 = 0 then (0 : Int) else 1)) rfl (by decide) hG8)
          obtain ⟨M11, eM11⟩ : ∃ m : Mem, m = (mset M7 92 v1 (if v2 = 0 then (0 : Int) else 1)) := ⟨_, rfl⟩
          rw [← eM11] at hG10 ⊢
          replace H := H M11 eM11
          refine T_iconst (pc' := 57) dX12_close_56 (by decide) rfl ?_
          exact T_zret dX12_close_57 rfl (by decide) ⟨rfl, hG10, _, rfl, H⟩
        refine T_if_eq (pc' := 54) dX12_close_47 (by decide) (pf := 50) rfl (fun c12 => ?_) (fun c12 => ?_)
        · skip
          refine T_iconst (pc' := 55) dX12_close_54 (by decide) rfl ?_
          exact T_wk (L' := [(3, 0), (3, 0), (3, 0)]) (by have q := HJ9; try simp only [if_pos c12] at q ⊢; exact q) ⟨Or.inl rfl, Or.inl rfl, Or.inl rfl, trivial⟩
        · skip
          refine T_iconst (pc' := 51) dX12_close_50 (by decide) rfl ?_
          refine T_goto (pc' := 55) dX12_close_51 (by decide) ?_
          exact T_wk (L' := [(3, 0), (3, 0), (3, 0)]) (by have q := HJ9; try simp only [if_neg c12] at q ⊢; exact q) ⟨Or.inl rfl, Or.inl rfl, Or.inl rfl, trivial⟩
      · skip
        replace H := H.1 c5
        refine T_iconst (pc' := 36) dX12_close_35 (by decide) rfl ?_
        exact T_zret dX12_close_36 rfl (by decide) ⟨rfl, hG, _, rfl, H⟩
    refine T_icmp_ne (pc' := 30) dX12_close_23 (by decide) (pf := 26) rfl (fun c13 => ?_) (fun c13 => ?_)
    · skip
      refine T_iconst (pc' := 31) dX12_close_30 (by decide) rfl ?_
      exact T_wk (L' := [(2, 66), (0, v1), (0, v2)]) (by have q := HJ4; try simp only [if_neg c13] at q ⊢; exact q) ⟨Or.inr rfl, Or.inr rfl, Or.inr rfl, trivial⟩
    · skip
      refine T_iconst (pc' := 27) dX12_close_26 (by decide) rfl ?_
      refine T_goto (pc' := 31) dX12_close_27 (by decide) ?_
      exact T_wk (L' := [(2, 66), (0, v1), (0, v2)]) (by have q := HJ4; try simp only [if_pos c13] at q ⊢; exact q) ⟨Or.inr rfl, Or.inr rfl, Or.inr rfl, trivial⟩
def PX12_doesComeOff  (M : Mem) (Q : Int → Mem → Prop) : Prop :=
  PX12_plays M (fun _ M2 => (nX12_offIn M2) ∧ (∀ a6 : Int, a6 = (fX12_offIn M2) → (((if a6 = (-1) then (0 : Int) else 1) : Int) = 0 ∨ ((if a6 = (-1) then (0 : Int) else 1) : Int) = 1) ∧ Q (if a6 = (-1) then (0 : Int) else 1) M2))
set_option maxRecDepth 100000 in
set_option maxHeartbeats 2000000 in
theorem pX12_doesComeOff {E : EV} {h : Int} {M : Mem}   {Q : Int → Mem → Prop} (H : PX12_doesComeOff  M Q) : C2 E miX12_doesComeOff 7 h [(2, 66)] M (RI 0 Q) := by
  refine C2_of (L := [(2, 66)]) (by decide +kernel) (Nat.le_of_ble_eq_true rfl) rfl (fun hG => ?_)
  refine T_aload_n (i := 0) (pc' := 1) dX12_doesComeOff_0 rfl rfl rfl ?_
  refine T_callV (av := []) (st := []) (d2 := 6) (nc2 := 0) (ns2 := 0) (pc' := 4) dX12_doesComeOff_1 rfl mtX12_plays mvX12_plays mlX12_441 cl12 rfl rfl rfl (Nat.le_of_ble_eq_true rfl) (by decide) ⟨by decide, by decide⟩ rfl (pX12_plays (E := E) (h := h) (M := M) H hG) ?_
  rintro _ _ M2 ⟨rfl, hG3, rfl, H⟩ _
  refine T_aload_n (i := 0) (pc' := 5) dX12_doesComeOff_4 rfl rfl rfl ?_
  obtain ⟨z4, H⟩ := H
  refine T_callV (av := []) (st := []) (d2 := 5) (nc2 := 0) (ns2 := 0) (pc' := 8) dX12_doesComeOff_5 rfl mtX12_offIn mvX12_offIn mlX12_458 cl12 rfl rfl rfl (Nat.le_of_ble_eq_true rfl) (by decide) ⟨by decide, by decide⟩ rfl (pX12_offIn (E := E) (h := h) (M := M2) z4 hG3) (kF (st2 := [(0, (fX12_offIn M2))]) rfl (fun hG5 => ?_))
  obtain ⟨a6, ea6⟩ : ∃ z : Int, z = (fX12_offIn M2) := ⟨_, rfl⟩
  rw [← ea6]
  replace H := H a6 ea6
  refine T_iconst (pc' := 9) dX12_doesComeOff_8 (by decide) rfl ?_
  have HJ7 : T E miX12_doesComeOff 7 126 0 0 (fun r S M' => S = S0 ∧ G h M' ∧ RI 0 Q r M') 17 [(3, 0)] [(0, (if a6 = (-1) then (0 : Int) else 1))] S0 M2 0 0 := by
    obtain ⟨z1, H⟩ := H
    exact T_zret dX12_doesComeOff_17 rfl z1 ⟨rfl, hG3, _, rfl, H⟩
  refine T_icmp_eq (pc' := 16) dX12_doesComeOff_9 (by decide) (pf := 12) rfl (fun c8 => ?_) (fun c8 => ?_)
  · skip
    refine T_iconst (pc' := 17) dX12_doesComeOff_16 (by decide) rfl ?_
    exact T_wk (L' := [(3, 0)]) (by have q := HJ7; try simp only [if_pos c8] at q ⊢; exact q) ⟨Or.inl rfl, trivial⟩
  · skip
    refine T_iconst (pc' := 13) dX12_doesComeOff_12 (by decide) rfl ?_
    refine T_goto (pc' := 17) dX12_doesComeOff_13 (by decide) ?_
    exact T_wk (L' := [(3, 0)]) (by have q := HJ7; try simp only [if_neg c8] at q ⊢; exact q) ⟨Or.inl rfl, trivial⟩
def PX12_odds_22  (K : Int → Mem → Prop) (Q : Int → Mem → Prop) : Nat → Int → Int → Mem → Prop
  | 0 => fun _ _ _ => False
  | k + 1 => fun v4 v6 M => (((fX12_peopleMany M) ≤ v6 → K v4 M) ∧ (¬ ((fX12_peopleMany M) ≤ v6) → PX12_odds_22  K Q k (wr64 (v4 * 4)) (wr32 (v6 + 1)) M))
def PX12_odds_65 (v6 : Int) (K : Int → Mem → Prop) (Q : Int → Mem → Prop) : Nat → Int → Int → Mem → Prop
  | 0 => fun _ _ _ => False
  | k + 1 => fun v7 v9 M => (((fX12_peopleMany M) ≤ v9 → K v7 M) ∧ (¬ ((fX12_peopleMany M) ≤ v9) → (((m_and (m_shr v6 v9) 1) = 1 → (nX12_personOf v9 3) ∧ PX12_odds_65 v6 K Q k (wr64 (v7 * (fX12_personOf M v9 3))) (wr32 (v9 + 1)) M) ∧ (¬ ((m_and (m_shr v6 v9) 1) = 1) → (nX12_personOf v9 3) ∧ PX12_odds_65 v6 K Q k (wr64 (v7 * (wr32 (4 - (fX12_personOf M v9 3))))) (wr32 (v9 + 1)) M))))
def PX12_odds_48  (K : Int → Mem → Prop) (Q : Int → Mem → Prop) : Nat → Int → Int → Mem → Prop
  | 0 => fun _ _ _ => False
  | k + 1 => fun v2 v6 M => (((m_shl 1 (fX12_peopleMany M)) ≤ v6 → K v2 M) ∧ (¬ ((m_shl 1 (fX12_peopleMany M)) ≤ v6) → (∃ k3 : Nat, PX12_odds_65 v6 (fun u4 M5 => (∀ M8 : Mem, M8 = (mset M5 66 42 v6) → (((m_cmp u4 0) ≤ 0 → PX12_odds_48  K Q k v2 (wr32 (v6 + 1)) M8) ∧ (¬ ((m_cmp u4 0) ≤ 0) → PX12_doesComeOff M8 (fun a10 M11 => PX12_odds_48  K Q k (if a10 = 0 then v2 else (wr64 (v2 + u4))) (wr32 (v6 + 1)) M11))))) Q k3 1 0 M)))
def PX12_odds  (M : Mem) (Q : Int → Mem → Prop) : Prop :=
  (((M 66 38) = 0 → Q (-1) M) ∧ (¬ ((M 66 38) = 0) → (∃ k2 : Nat, PX12_odds_22 (fun u3 M4 => (∃ k6 : Nat, PX12_odds_48 (fun u7 M8 => (∀ M11 : Mem, M11 = (mset M8 66 42 (M 66 42)) → ¬ u3 = 0 ∧ Q (wr32 (wr64 (Int.tdiv (wr64 (1000 * u7)) u3))) M11)) Q k6 0 0 M4)) Q k2 1 0 M)))
set_option maxRecDepth 100000 in
set_option maxHeartbeats 2000000 in
theorem qX12_odds_22 {E : EV} {h : Int} {v1 : Int}  {K : Int → Mem → Prop} {Q : Int → Mem → Prop} (hK : ∀ (v4 : Int) (M : Mem), K v4 M → G h M → TG E miX12_odds 8 h (RI 0 Q) 45 [(2, 66), (0, v1), (1, 0), (3, 0), (1, v4), (3, 0), (3, 0), (3, 0), (3, 0), (3, 0)] [] M) : ∀ (k : Nat) (v4 v6 : Int) (M : Mem), PX12_odds_22  K Q k v4 v6 M → G h M → TG E miX12_odds 8 h (RI 0 Q) 22 [(2, 66), (0, v1), (1, 0), (3, 0), (1, v4), (3, 0), (0, v6), (3, 0), (3, 0), (3, 0)] [] M := by
  intro k
  induction k with
  | zero =>
    intro v4 v6 M H
    exact False.elim H
  | succ k ih =>
    intro v4 v6 M H hG
    refine T_iload (i := 6) (pc' := 24) dX12_odds_22 rfl rfl ?_
    refine T_aload_n (i := 0) (pc' := 25) dX12_odds_24 rfl rfl rfl ?_
    refine T_callV (av := []) (st := [(0, v6)]) (d2 := 1) (nc2 := 0) (ns2 := 0) (pc' := 28) dX12_odds_25 rfl mtX12_peopleMany mvX12_peopleMany mlX12_349 cl12 rfl rfl rfl (Nat.le_of_ble_eq_true rfl) (by decide) ⟨by decide, by decide⟩ rfl (pX12_peopleMany (E := E) (h := h) (M := M) hG) (kF (st2 := [(0, (fX12_peopleMany M)), (0, v6)]) rfl (fun hG1 => ?_))
    refine T_icmp_ge (pc' := 45) dX12_odds_28 (by decide) (pf := 31) rfl (fun c2 => ?_) (fun c2 => ?_)
    · skip
      replace H := H.1 c2
      exact T_wk (L' := [(2, 66), (0, v1), (1, 0), (3, 0), (1, v4), (3, 0), (3, 0), (3, 0), (3, 0), (3, 0)]) (hK _ _ H hG) ⟨Or.inr rfl, Or.inr rfl, Or.inr rfl, Or.inl rfl, Or.inr rfl, Or.inl rfl, Or.inl rfl, Or.inl rfl, Or.inl rfl, Or.inl rfl, trivial⟩
    · skip
      replace H := H.2 c2
      refine T_lload (i := 4) (pc' := 33) dX12_odds_31 rfl rfl ?_
      refine T_ldc2 (n := 4) (pc' := 36) dX12_odds_33 rfl kjX12_498 rfl (by decide) rfl ?_
      refine T_lmul (pc' := 37) dX12_odds_36 rfl ?_
      refine T_lstore (i := 4) (L' := [(2, 66), (0, v1), (1, 0), (3, 0), (1, (wr64 (v4 * 4))), (3, 0), (0, v6), (3, 0), (3, 0), (3, 0)]) (pc' := 39) dX12_odds_37 (by decide) rfl rfl ?_
      refine T_iinc (L' := [(2, 66), (0, v1), (1, 0), (3, 0), (1, (wr64 (v4 * 4))), (3, 0), (0, (wr32 (v6 + 1))), (3, 0), (3, 0), (3, 0)]) (pc' := 42) dX12_odds_39 rfl (by decide) rfl rfl ?_
      refine T_goto (pc' := 22) dX12_odds_42 (by decide) ?_
      exact T_wk (L' := [(2, 66), (0, v1), (1, 0), (3, 0), (1, (wr64 (v4 * 4))), (3, 0), (0, (wr32 (v6 + 1))), (3, 0), (3, 0), (3, 0)]) (ih _ _ _ H hG) ⟨Or.inr rfl, Or.inr rfl, Or.inr rfl, Or.inl rfl, Or.inr rfl, Or.inl rfl, Or.inr rfl, Or.inl rfl, Or.inl rfl, Or.inl rfl, trivial⟩
set_option maxRecDepth 100000 in
set_option maxHeartbeats 2000000 in
theorem qX12_odds_65 {E : EV} {h : Int} {v1 : Int} {v2 : Int} {v4 : Int} {v6 : Int}  {K : Int → Mem → Prop} {Q : Int → Mem → Prop} (hK : ∀ (v7 : Int) (M : Mem), K v7 M → G h M → TG E miX12_odds 8 h (RI 0 Q) 117 [(2, 66), (0, v1), (1, v2), (3, 0), (1, v4), (3, 0), (0, v6), (1, v7), (3, 0), (3, 0)] [] M) : ∀ (k : Nat) (v7 v9 : Int) (M : Mem), PX12_odds_65 v6 K Q k v7 v9 M → G h M → TG E miX12_odds 8 h (RI 0 Q) 65 [(2, 66), (0, v1), (1, v2), (3, 0), (1, v4), (3, 0), (0, v6), (1, v7), (3, 0), (0, v9)] [] M := by
  intro k
  induction k with
  | zero =>
    intro v7 v9 M H
    exact False.elim H
  | succ k ih =>
    intro v7 v9 M H hG
    refine T_iload (i := 9) (pc' := 67) dX12_odds_65 rfl rfl ?_
    refine T_aload_n (i := 0) (pc' := 68) dX12_odds_67 rfl rfl rfl ?_
    refine T_callV (av := []) (st := [(0, v9)]) (d2 := 1) (nc2 := 0) (ns2 := 0) (pc' := 71) dX12_odds_68 rfl mtX12_peopleMany mvX12_peopleMany mlX12_349 cl12 rfl rfl rfl (Nat.le_of_ble_eq_true rfl) (by decide) ⟨by decide, by decide⟩ rfl (pX12_peopleMany (E := E) (h := h) (M := M) hG) (kF (st2 := [(0, (fX12_peopleMany M)), (0, v9)]) rfl (fun hG1 => ?_))
    refine T_icmp_ge (pc' := 117) dX12_odds_71 (by decide) (pf := 74) rfl (fun c2 => ?_) (fun c2 => ?_)
    · skip
      replace H := H.1 c2
      exact T_wk (L' := [(2, 66), (0, v1), (1, v2), (3, 0), (1, v4), (3, 0), (0, v6), (1, v7), (3, 0), (3, 0)]) (hK _ _ H hG) ⟨Or.inr rfl, Or.inr rfl, Or.inr rfl, Or.inl rfl, Or.inr rfl, Or.inl rfl, Or.inr rfl, Or.inr rfl, Or.inl rfl, Or.inl rfl, trivial⟩
    · skip
      replace H := H.2 c2
      refine T_lload (i := 7) (pc' := 76) dX12_odds_74 rfl rfl ?_
      refine T_iload (i := 6) (pc' := 78) dX12_odds_76 rfl rfl ?_
      refine T_iload (i := 9) (pc' := 80) dX12_odds_78 rfl rfl ?_
      refine T_ishr (pc' := 81) dX12_odds_80 rfl ?_
      refine T_iconst (pc' := 82) dX12_odds_81 (by decide) rfl ?_
      refine T_iand (pc' := 83) dX12_odds_82 rfl ?_
      refine T_iconst (pc' := 84) dX12_odds_83 (by decide) rfl ?_
      refine T_icmp_ne (pc' := 98) dX12_odds_84 (by decide) (pf := 87) rfl (fun c3 => ?_) (fun c3 => ?_)
      · skip
        replace H := H.2 c3
        refine T_iconst (pc' := 99) dX12_odds_98 (by decide) rfl ?_
        refine T_aload_n (i := 0) (pc' := 100) dX12_odds_99 rfl rfl rfl ?_
        refine T_iload (i := 9) (pc' := 102) dX12_odds_100 rfl rfl ?_
        refine T_iconst (pc' := 103) dX12_odds_102 (by decide) rfl ?_
        obtain ⟨z4, H⟩ := H
        refine T_callV (av := [(0, v9), (0, 3)]) (st := [(0, 4), (1, v7)]) (d2 := 1) (nc2 := 0) (ns2 := 0) (pc' := 106) dX12_odds_103 rfl mtX12_personOf mvX12_personOf mlX12_373 cl12 rfl rfl rfl (Nat.le_of_ble_eq_true rfl) (by decide) ⟨by decide, by decide⟩ rfl (pX12_personOf (E := E) (h := h) (M := M) (v1 := v9) (v2 := 3) z4 hG) (kF (st2 := [(0, (fX12_personOf M v9 3)), (0, 4), (1, v7)]) rfl (fun hG5 => ?_))
        refine T_isub (pc' := 107) dX12_odds_106 rfl ?_
        refine T_i2l (pc' := 108) dX12_odds_107 rfl ?_
        refine T_lmul (pc' := 109) dX12_odds_108 rfl ?_
        refine T_lstore (i := 7) (L' := [(2, 66), (0, v1), (1, v2), (3, 0), (1, v4), (3, 0), (0, v6), (1, (wr64 (v7 * (wr32 (4 - (fX12_personOf M v9 3)))))), (3, 0), (0, v9)]) (pc' := 111) dX12_odds_109 (by decide) rfl rfl ?_
        refine T_iinc (L' := [(2, 66), (0, v1), (1, v2), (3, 0), (1, v4), (3, 0), (0, v6), (1, (wr64 (v7 * (wr32 (4 - (fX12_personOf M v9 3)))))), (3, 0), (0, (wr32 (v9 + 1)))]) (pc' := 114) dX12_odds_111 rfl (by decide) rfl rfl ?_
        refine T_goto (pc' := 65) dX12_odds_114 (by decide) ?_
        exact T_wk (L' := [(2, 66), (0, v1), (1, v2), (3, 0), (1, v4), (3, 0), (0, v6), (1, (wr64 (v7 * (wr32 (4 - (fX12_personOf M v9 3)))))), (3, 0), (0, (wr32 (v9 + 1)))]) (ih _ _ _ H hG) ⟨Or.inr rfl, Or.inr rfl, Or.inr rfl, Or.inl rfl, Or.inr rfl, Or.inl rfl, Or.inr rfl, Or.inr rfl, Or.inl rfl, Or.inr rfl, trivial⟩
      · skip
        replace H := H.1 c3
        refine T_aload_n (i := 0) (pc' := 88) dX12_odds_87 rfl rfl rfl ?_
        refine T_iload (i := 9) (pc' := 90) dX12_odds_88 rfl rfl ?_
        refine T_iconst (pc' := 91) dX12_odds_90 (by decide) rfl ?_
        obtain ⟨z6, H⟩ := H
        refine T_callV (av := [(0, v9), (0, 3)]) (st := [(1, v7)]) (d2 := 1) (nc2 := 0) (ns2 := 0) (pc' := 94) dX12_odds_91 rfl mtX12_personOf mvX12_personOf mlX12_373 cl12 rfl rfl rfl (Nat.le_of_ble_eq_true rfl) (by decide) ⟨by decide, by decide⟩ rfl (pX12_personOf (E := E) (h := h) (M := M) (v1 := v9) (v2 := 3) z6 hG) (kF (st2 := [(0, (fX12_personOf M v9 3)), (1, v7)]) rfl (fun hG7 => ?_))
        refine T_i2l (pc' := 95) dX12_odds_94 rfl ?_
        refine T_goto (pc' := 108) dX12_odds_95 (by decide) ?_
        refine T_lmul (pc' := 109) dX12_odds_108 rfl ?_
        refine T_lstore (i := 7) (L' := [(2, 66), (0, v1), (1, v2), (3, 0), (1, v4), (3, 0), (0, v6), (1, (wr64 (v7 * (fX12_personOf M v9 3)))), (3, 0), (0, v9)]) (pc' := 111) dX12_odds_109 (by decide) rfl rfl ?_
        refine T_iinc (L' := [(2, 66), (0, v1), (1, v2), (3, 0), (1, v4), (3, 0), (0, v6), (1, (wr64 (v7 * (fX12_personOf M v9 3)))), (3, 0), (0, (wr32 (v9 + 1)))]) (pc' := 114) dX12_odds_111 rfl (by decide) rfl rfl ?_
        refine T_goto (pc' := 65) dX12_odds_114 (by decide) ?_
        exact T_wk (L' := [(2, 66), (0, v1), (1, v2), (3, 0), (1, v4), (3, 0), (0, v6), (1, (wr64 (v7 * (fX12_personOf M v9 3)))), (3, 0), (0, (wr32 (v9 + 1)))]) (ih _ _ _ H hG) ⟨Or.inr rfl, Or.inr rfl, Or.inr rfl, Or.inl rfl, Or.inr rfl, Or.inl rfl, Or.inr rfl, Or.inr rfl, Or.inl rfl, Or.inr rfl, trivial⟩
set_option maxRecDepth 100000 in
set_option maxHeartbeats 2000000 in
theorem qX12_odds_48 {E : EV} {h : Int} {v1 : Int} {v4 : Int}  {K : Int → Mem → Prop} {Q : Int → Mem → Prop} (hK : ∀ (v2 : Int) (M : Mem), K v2 M → G h M → TG E miX12_odds 8 h (RI 0 Q) 148 [(2, 66), (0, v1), (1, v2), (3, 0), (1, v4), (3, 0), (3, 0), (3, 0), (3, 0), (3, 0)] [] M) : ∀ (k : Nat) (v2 v6 : Int) (M : Mem), PX12_odds_48  K Q k v2 v6 M → G h M → TG E miX12_odds 8 h (RI 0 Q) 48 [(2, 66), (0, v1), (1, v2), (3, 0), (1, v4), (3, 0), (0, v6), (3, 0), (3, 0), (3, 0)] [] M := by
  intro k
  induction k with
  | zero =>
    intro v2 v6 M H
    exact False.elim H
  | succ k ih =>
    intro v2 v6 M H hG
    refine T_iload (i := 6) (pc' := 50) dX12_odds_48 rfl rfl ?_
    refine T_iconst (pc' := 51) dX12_odds_50 (by decide) rfl ?_
    refine T_aload_n (i := 0) (pc' := 52) dX12_odds_51 rfl rfl rfl ?_
    refine T_callV (av := []) (st := [(0, 1), (0, v6)]) (d2 := 1) (nc2 := 0) (ns2 := 0) (pc' := 55) dX12_odds_52 rfl mtX12_peopleMany mvX12_peopleMany mlX12_349 cl12 rfl rfl rfl (Nat.le_of_ble_eq_true rfl) (by decide) ⟨by decide, by decide⟩ rfl (pX12_peopleMany (E := E) (h := h) (M := M) hG) (kF (st2 := [(0, (fX12_peopleMany M)), (0, 1), (0, v6)]) rfl (fun hG1 => ?_))
    refine T_ishl (pc' := 56) dX12_odds_55 rfl ?_
    refine T_icmp_ge (pc' := 148) dX12_odds_56 (by decide) (pf := 59) rfl (fun c2 => ?_) (fun c2 => ?_)
    · skip
      replace H := H.1 c2
      exact T_wk (L' := [(2, 66), (0, v1), (1, v2), (3, 0), (1, v4), (3, 0), (3, 0), (3, 0), (3, 0), (3, 0)]) (hK _ _ H hG) ⟨Or.inr rfl, Or.inr rfl, Or.inr rfl, Or.inl rfl, Or.inr rfl, Or.inl rfl, Or.inl rfl, Or.inl rfl, Or.inl rfl, Or.inl rfl, trivial⟩
    · skip
      replace H := H.2 c2
      refine T_lconst (v := 1) (pc' := 60) dX12_odds_59 rfl (by decide) rfl ?_
      refine T_lstore (i := 7) (L' := [(2, 66), (0, v1), (1, v2), (3, 0), (1, v4), (3, 0), (0, v6), (1, 1), (3, 0), (3, 0)]) (pc' := 62) dX12_odds_60 (by decide) rfl rfl ?_
      refine T_iconst (pc' := 63) dX12_odds_62 (by decide) rfl ?_
      refine T_istore (i := 9) (L' := [(2, 66), (0, v1), (1, v2), (3, 0), (1, v4), (3, 0), (0, v6), (1, 1), (3, 0), (0, 0)]) (pc' := 65) dX12_odds_63 (by decide) rfl rfl ?_
      obtain ⟨k3, H⟩ := H
      refine T_wk (L' := [(2, 66), (0, v1), (1, v2), (3, 0), (1, v4), (3, 0), (0, v6), (1, 1), (3, 0), (0, 0)]) (qX12_odds_65 (v1 := v1) (v2 := v2) (v4 := v4) (v6 := v6) (fun u4 M5 H hG6 => ?_) _ _ _ _ H hG) ⟨Or.inr rfl, Or.inr rfl, Or.inr rfl, Or.inl rfl, Or.inr rfl, Or.inl rfl, Or.inr rfl, Or.inr rfl, Or.inl rfl, Or.inr rfl, trivial⟩
      refine T_aload_n (i := 0) (pc' := 118) dX12_odds_117 rfl rfl rfl ?_
      refine T_iload (i := 6) (pc' := 120) dX12_odds_118 rfl rfl ?_
      refine U_pf (y := v6) (k := 42) (kI := 42) (pc' := 123) dX12_odds_120 rfl cl12 (by decide) rfl (by decide) flX12_340 rfl rfl rfl rfl rfl (by decide) (fun z => z) rfl ?_
      have hG7 := (G_fld (x := 66) (i := 42) (y := v6) rfl (by decide) (by decide) (by decide) hG6)
      obtain ⟨M8, eM8⟩ : ∃ m : Mem, m = (mset M5 66 42 v6) := ⟨_, rfl⟩
      rw [← eM8] at hG7 ⊢
      replace H := H M8 eM8
      refine T_lload (i := 7) (pc' := 125) dX12_odds_123 rfl rfl ?_
      refine T_lconst (v := 0) (pc' := 126) dX12_odds_125 rfl (by decide) rfl ?_
      refine T_lcmp (pc' := 127) dX12_odds_126 rfl ?_
      refine T_if_le (pc' := 142) dX12_odds_127 (by decide) (pf := 130) rfl (fun c9 => ?_) (fun c9 => ?_)
      · skip
        replace H := H.1 c9
        refine T_iinc (L' := [(2, 66), (0, v1), (1, v2), (3, 0), (1, v4), (3, 0), (0, (wr32 (v6 + 1))), (1, u4), (3, 0), (3, 0)]) (pc' := 145) dX12_odds_142 rfl (by decide) rfl rfl ?_
        refine T_goto (pc' := 48) dX12_odds_145 (by decide) ?_
        exact T_wk (L' := [(2, 66), (0, v1), (1, v2), (3, 0), (1, v4), (3, 0), (0, (wr32 (v6 + 1))), (3, 0), (3, 0), (3, 0)]) (ih _ _ _ H hG7) ⟨Or.inr rfl, Or.inr rfl, Or.inr rfl, Or.inl rfl, Or.inr rfl, Or.inl rfl, Or.inr rfl, Or.inl rfl, Or.inl rfl, Or.inl rfl, trivial⟩
      · skip
        replace H := H.2 c9
        refine T_aload_n (i := 0) (pc' := 131) dX12_odds_130 rfl rfl rfl ?_
        refine T_callV (av := []) (st := []) (d2 := 7) (nc2 := 0) (ns2 := 0) (pc' := 134) dX12_odds_131 rfl mtX12_doesComeOff mvX12_doesComeOff mlX12_500 cl12 rfl rfl rfl (Nat.le_of_ble_eq_true rfl) (by decide) ⟨by decide, by decide⟩ rfl (pX12_doesComeOff (E := E) (h := h) (M := M8) H hG7) ?_
        rintro _ _ M11 ⟨rfl, hG12, a10, rfl, H⟩ _
        have HJ13 : T E miX12_odds 8 126 0 0 (fun r S M' => S = S0 ∧ G h M' ∧ RI 0 Q r M') 142 [(2, 66), (0, v1), (1, (if a10 = 0 then v2 else (wr64 (v2 + u4)))), (3, 0), (1, v4), (3, 0), (0, v6), (3, 0), (3, 0), (3, 0)] [] S0 M11 0 0 := by
          refine T_iinc (L' := [(2, 66), (0, v1), (1, (if a10 = 0 then v2 else (wr64 (v2 + u4)))), (3, 0), (1, v4), (3, 0), (0, (wr32 (v6 + 1))), (3, 0), (3, 0), (3, 0)]) (pc' := 145) dX12_odds_142 rfl (by decide) rfl rfl ?_
          refine T_goto (pc' := 48) dX12_odds_145 (by decide) ?_
          exact T_wk (L' := [(2, 66), (0, v1), (1, (if a10 = 0 then v2 else (wr64 (v2 + u4)))), (3, 0), (1, v4), (3, 0), (0, (wr32 (v6 + 1))), (3, 0), (3, 0), (3, 0)]) (ih _ _ _ H hG12) ⟨Or.inr rfl, Or.inr rfl, Or.inr rfl, Or.inl rfl, Or.inr rfl, Or.inl rfl, Or.inr rfl, Or.inl rfl, Or.inl rfl, Or.inl rfl, trivial⟩
        refine T_if_eq (pc' := 142) dX12_odds_134 (by decide) (pf := 137) rfl (fun c14 => ?_) (fun c14 => ?_)
        · skip
          exact T_wk (L' := [(2, 66), (0, v1), (1, v2), (3, 0), (1, v4), (3, 0), (0, v6), (3, 0), (3, 0), (3, 0)]) (by have q := HJ13; try simp only [if_pos c14] at q ⊢; exact q) ⟨Or.inr rfl, Or.inr rfl, Or.inr rfl, Or.inl rfl, Or.inr rfl, Or.inl rfl, Or.inr rfl, Or.inl rfl, Or.inl rfl, Or.inl rfl, trivial⟩
        · skip
          refine T_lload_n (i := 2) (pc' := 138) dX12_odds_137 rfl rfl rfl ?_
          refine T_lload (i := 7) (pc' := 140) dX12_odds_138 rfl rfl ?_
          refine T_ladd (pc' := 141) dX12_odds_140 rfl ?_
          refine T_lstore_n (i := 2) (L' := [(2, 66), (0, v1), (1, (wr64 (v2 + u4))), (3, 0), (1, v4), (3, 0), (0, v6), (1, u4), (3, 0), (3, 0)]) (pc' := 142) dX12_odds_141 rfl (by decide) rfl rfl ?_
          exact T_wk (L' := [(2, 66), (0, v1), (1, (wr64 (v2 + u4))), (3, 0), (1, v4), (3, 0), (0, v6), (3, 0), (3, 0), (3, 0)]) (by have q := HJ13; try simp only [if_neg c14] at q ⊢; exact q) ⟨Or.inr rfl, Or.inr rfl, Or.inr rfl, Or.inl rfl, Or.inr rfl, Or.inl rfl, Or.inr rfl, Or.inl rfl, Or.inl rfl, Or.inl rfl, trivial⟩
set_option maxRecDepth 100000 in
set_option maxHeartbeats 2000000 in
theorem pX12_odds {E : EV} {h : Int} {M : Mem}   {Q : Int → Mem → Prop} (H : PX12_odds  M Q) : C2 E miX12_odds 8 h [(2, 66)] M (RI 0 Q) := by
  refine C2_of (L := [(2, 66), (3, 0), (3, 0), (3, 0), (3, 0), (3, 0), (3, 0), (3, 0), (3, 0), (3, 0)]) (by decide +kernel) (Nat.le_of_ble_eq_true rfl) rfl (fun hG => ?_)
  refine T_aload_n (i := 0) (pc' := 1) dX12_odds_0 rfl rfl rfl ?_
  refine U_gf (v := (0, (M 66 38))) (k := 38) (kI := 38) (pc' := 4) dX12_odds_1 rfl cl12 (by decide) rfl (by decide) flX12_334 rfl rfl (by decide) rfl rfl ?_
  refine T_if_ne (pc' := 9) dX12_odds_4 (by decide) (pf := 7) rfl (fun c1 => ?_) (fun c1 => ?_)
  · skip
    replace H := H.2 c1
    refine T_aload_n (i := 0) (pc' := 10) dX12_odds_9 rfl rfl rfl ?_
    refine U_gf (v := (0, (M 66 42))) (k := 42) (kI := 42) (pc' := 13) dX12_odds_10 rfl cl12 (by decide) rfl (by decide) flX12_340 rfl rfl (by decide) rfl rfl ?_
    refine T_istore_n (i := 1) (L' := [(2, 66), (0, (M 66 42)), (3, 0), (3, 0), (3, 0), (3, 0), (3, 0), (3, 0), (3, 0), (3, 0)]) (pc' := 14) dX12_odds_13 rfl (by decide) rfl rfl ?_
    refine T_lconst (v := 0) (pc' := 15) dX12_odds_14 rfl (by decide) rfl ?_
    refine T_lstore_n (i := 2) (L' := [(2, 66), (0, (M 66 42)), (1, 0), (3, 0), (3, 0), (3, 0), (3, 0), (3, 0), (3, 0), (3, 0)]) (pc' := 16) dX12_odds_15 rfl (by decide) rfl rfl ?_
    refine T_lconst (v := 1) (pc' := 17) dX12_odds_16 rfl (by decide) rfl ?_
    refine T_lstore (i := 4) (L' := [(2, 66), (0, (M 66 42)), (1, 0), (3, 0), (1, 1), (3, 0), (3, 0), (3, 0), (3, 0), (3, 0)]) (pc' := 19) dX12_odds_17 (by decide) rfl rfl ?_
    refine T_iconst (pc' := 20) dX12_odds_19 (by decide) rfl ?_
    refine T_istore (i := 6) (L' := [(2, 66), (0, (M 66 42)), (1, 0), (3, 0), (1, 1), (3, 0), (0, 0), (3, 0), (3, 0), (3, 0)]) (pc' := 22) dX12_odds_20 (by decide) rfl rfl ?_
    obtain ⟨k2, H⟩ := H
    refine T_wk (L' := [(2, 66), (0, (M 66 42)), (1, 0), (3, 0), (1, 1), (3, 0), (0, 0), (3, 0), (3, 0), (3, 0)]) (qX12_odds_22 (v1 := (M 66 42)) (fun u3 M4 H hG5 => ?_) _ _ _ _ H hG) ⟨Or.inr rfl, Or.inr rfl, Or.inr rfl, Or.inl rfl, Or.inr rfl, Or.inl rfl, Or.inr rfl, Or.inl rfl, Or.inl rfl, Or.inl rfl, trivial⟩
    refine T_iconst (pc' := 46) dX12_odds_45 (by decide) rfl ?_
    refine T_istore (i := 6) (L' := [(2, 66), (0, (M 66 42)), (1, 0), (3, 0), (1, u3), (3, 0), (0, 0), (3, 0), (3, 0), (3, 0)]) (pc' := 48) dX12_odds_46 (by decide) rfl rfl ?_
    obtain ⟨k6, H⟩ := H
    refine T_wk (L' := [(2, 66), (0, (M 66 42)), (1, 0), (3, 0), (1, u3), (3, 0), (0, 0), (3, 0), (3, 0), (3, 0)]) (qX12_odds_48 (v1 := (M 66 42)) (v4 := u3) (fun u7 M8 H hG9 => ?_) _ _ _ _ H hG5) ⟨Or.inr rfl, Or.inr rfl, Or.inr rfl, Or.inl rfl, Or.inr rfl, Or.inl rfl, Or.inr rfl, Or.inl rfl, Or.inl rfl, Or.inl rfl, trivial⟩
    refine T_aload_n (i := 0) (pc' := 149) dX12_odds_148 rfl rfl rfl ?_
    refine T_iload_n (i := 1) (pc' := 150) dX12_odds_149 rfl rfl rfl ?_
    refine U_pf (y := (M 66 42)) (k := 42) (kI := 42) (pc' := 153) dX12_odds_150 rfl cl12 (by decide) rfl (by decide) flX12_340 rfl rfl rfl rfl rfl (by decide) (fun z => z) rfl ?_
    have hG10 := (G_fld (x := 66) (i := 42) (y := (M 66 42)) rfl (by decide) (by decide) (by decide) hG9)
    obtain ⟨M11, eM11⟩ : ∃ m : Mem, m = (mset M8 66 42 (M 66 42)) := ⟨_, rfl⟩
    rw [← eM11] at hG10 ⊢
    replace H := H M11 eM11
    refine T_ldc2 (n := 1000) (pc' := 156) dX12_odds_153 rfl kjX12_503 rfl (by decide) rfl ?_
    refine T_lload_n (i := 2) (pc' := 157) dX12_odds_156 rfl rfl rfl ?_
    refine T_lmul (pc' := 158) dX12_odds_157 rfl ?_
    refine T_lload (i := 4) (pc' := 160) dX12_odds_158 rfl rfl ?_
    obtain ⟨z1, H⟩ := H
    refine T_ldiv (pc' := 161) dX12_odds_160 z1 rfl ?_
    refine T_l2i (pc' := 162) dX12_odds_161 rfl ?_
    exact T_iret dX12_odds_162 rfl ⟨rfl, hG10, _, rfl, H⟩
  · skip
    replace H := H.1 c1
    refine T_iconst (pc' := 8) dX12_odds_7 (by decide) rfl ?_
    exact T_iret dX12_odds_8 rfl ⟨rfl, hG, _, rfl, H⟩
def PX12_spark (v1 : Int) (M : Mem) (Q : Int → Mem → Prop) : Prop :=
  (((fX12_isComing M v1) = 0 → Q (-1) M) ∧ (¬ ((fX12_isComing M v1) = 0) → (nX12_personOf v1 4) ∧ (((fX12_personOf M v1 4) = 1 → Q (-1) M) ∧ (¬ ((fX12_personOf M v1 4) = 1) → (nX12_personOf v1 1) ∧ (nX12_makes v1 1) ∧ (∀ M10 : Mem, M10 = (fmX12_makes M v1 1 (-60)) → PX12_plays M10 (fun _ M12 => (nX12_openAhead M12) ∧ (∀ a16 : Int, a16 = (fX12_openAhead M12) → (nX12_makes v1 1) ∧ (∀ M19 : Mem, M19 = (fmX12_makes M12 v1 1 (fX12_personOf M v1 1)) → Q a16 M19))))))))
set_option maxRecDepth 100000 in
set_option maxHeartbeats 2000000 in
theorem pX12_spark {E : EV} {h : Int} {M : Mem} {v1 : Int}  {Q : Int → Mem → Prop} (H : PX12_spark v1 M Q) : C2 E miX12_spark 7 h [(2, 66), (0, v1)] M (RI 0 Q) := by
  refine C2_of (L := [(2, 66), (0, v1), (3, 0), (3, 0)]) (by decide +kernel) (Nat.le_of_ble_eq_true rfl) rfl (fun hG => ?_)
  refine T_aload_n (i := 0) (pc' := 1) dX12_spark_0 rfl rfl rfl ?_
  refine T_iload_n (i := 1) (pc' := 2) dX12_spark_1 rfl rfl rfl ?_
  refine T_callV (av := [(0, v1)]) (st := []) (d2 := 3) (nc2 := 0) (ns2 := 0) (pc' := 5) dX12_spark_2 rfl mtX12_isComing mvX12_isComing mlX12_376 cl12 rfl rfl rfl (Nat.le_of_ble_eq_true rfl) (by decide) ⟨by decide, by decide⟩ rfl (pX12_isComing (E := E) (h := h) (M := M) (v1 := v1) hG) (kF (st2 := [(0, (fX12_isComing M v1))]) rfl (fun hG1 => ?_))
  refine T_if_eq (pc' := 18) dX12_spark_5 (by decide) (pf := 8) rfl (fun c2 => ?_) (fun c2 => ?_)
  · skip
    replace H := H.1 c2
    refine T_iconst (pc' := 19) dX12_spark_18 (by decide) rfl ?_
    exact T_iret dX12_spark_19 rfl ⟨rfl, hG, _, rfl, H⟩
  · skip
    replace H := H.2 c2
    refine T_aload_n (i := 0) (pc' := 9) dX12_spark_8 rfl rfl rfl ?_
    refine T_iload_n (i := 1) (pc' := 10) dX12_spark_9 rfl rfl rfl ?_
    refine T_iconst (pc' := 11) dX12_spark_10 (by decide) rfl ?_
    obtain ⟨z3, H⟩ := H
    refine T_callV (av := [(0, v1), (0, 4)]) (st := []) (d2 := 1) (nc2 := 0) (ns2 := 0) (pc' := 14) dX12_spark_11 rfl mtX12_personOf mvX12_personOf mlX12_373 cl12 rfl rfl rfl (Nat.le_of_ble_eq_true rfl) (by decide) ⟨by decide, by decide⟩ rfl (pX12_personOf (E := E) (h := h) (M := M) (v1 := v1) (v2 := 4) z3 hG) (kF (st2 := [(0, (fX12_personOf M v1 4))]) rfl (fun hG4 => ?_))
    refine T_iconst (pc' := 15) dX12_spark_14 (by decide) rfl ?_
    refine T_icmp_ne (pc' := 20) dX12_spark_15 (by decide) (pf := 18) rfl (fun c5 => ?_) (fun c5 => ?_)
    · skip
      replace H := H.2 c5
      refine T_aload_n (i := 0) (pc' := 21) dX12_spark_20 rfl rfl rfl ?_
      refine T_iload_n (i := 1) (pc' := 22) dX12_spark_21 rfl rfl rfl ?_
      refine T_iconst (pc' := 23) dX12_spark_22 (by decide) rfl ?_
      obtain ⟨z6, H⟩ := H
      refine T_callV (av := [(0, v1), (0, 1)]) (st := []) (d2 := 1) (nc2 := 0) (ns2 := 0) (pc' := 26) dX12_spark_23 rfl mtX12_personOf mvX12_personOf mlX12_373 cl12 rfl rfl rfl (Nat.le_of_ble_eq_true rfl) (by decide) ⟨by decide, by decide⟩ rfl (pX12_personOf (E := E) (h := h) (M := M) (v1 := v1) (v2 := 1) z6 hG) (kF (st2 := [(0, (fX12_personOf M v1 1))]) rfl (fun hG7 => ?_))
      refine T_istore_n (i := 2) (L' := [(2, 66), (0, v1), (0, (fX12_personOf M v1 1)), (3, 0)]) (pc' := 27) dX12_spark_26 rfl (by decide) rfl rfl ?_
      refine T_aload_n (i := 0) (pc' := 28) dX12_spark_27 rfl rfl rfl ?_
      refine T_iload_n (i := 1) (pc' := 29) dX12_spark_28 rfl rfl rfl ?_
      refine T_iconst (pc' := 30) dX12_spark_29 (by decide) rfl ?_
      refine T_bipush (pc' := 32) dX12_spark_30 rfl (by decide) rfl ?_
      obtain ⟨z8, H⟩ := H
      refine T_callV (av := [(0, v1), (0, 1), (0, (-60))]) (st := []) (d2 := 1) (nc2 := 0) (ns2 := 0) (pc' := 35) dX12_spark_32 rfl mtX12_makes mvX12_makes mlX12_473 cl12 rfl rfl rfl (Nat.le_of_ble_eq_true rfl) (by decide) ⟨by decide, by decide⟩ rfl (pX12_makes (E := E) (h := h) (M := M) (v1 := v1) (v2 := 1) (v3 := (-60)) z8 hG) (kF (st2 := []) rfl (fun hG9 => ?_))
      obtain ⟨M10, eM10⟩ : ∃ m : Mem, m = (fmX12_makes M v1 1 (-60)) := ⟨_, rfl⟩
      rw [← eM10] at hG9 ⊢
      replace H := H M10 eM10
      refine T_aload_n (i := 0) (pc' := 36) dX12_spark_35 rfl rfl rfl ?_
      refine T_callV (av := []) (st := []) (d2 := 6) (nc2 := 0) (ns2 := 0) (pc' := 39) dX12_spark_36 rfl mtX12_plays mvX12_plays mlX12_441 cl12 rfl rfl rfl (Nat.le_of_ble_eq_true rfl) (by decide) ⟨by decide, by decide⟩ rfl (pX12_plays (E := E) (h := h) (M := M10) H hG9) ?_
      rintro _ _ M12 ⟨rfl, hG13, rfl, H⟩ _
      refine T_aload_n (i := 0) (pc' := 40) dX12_spark_39 rfl rfl rfl ?_
      obtain ⟨z14, H⟩ := H
      refine T_callV (av := []) (st := []) (d2 := 4) (nc2 := 0) (ns2 := 0) (pc' := 43) dX12_spark_40 rfl mtX12_openAhead mvX12_openAhead mlX12_467 cl12 rfl rfl rfl (Nat.le_of_ble_eq_true rfl) (by decide) ⟨by decide, by decide⟩ rfl (pX12_openAhead (E := E) (h := h) (M := M12) z14 hG13) (kF (st2 := [(0, (fX12_openAhead M12))]) rfl (fun hG15 => ?_))
      obtain ⟨a16, ea16⟩ : ∃ z : Int, z = (fX12_openAhead M12) := ⟨_, rfl⟩
      rw [← ea16]
      replace H := H a16 ea16
      refine T_istore_n (i := 3) (L' := [(2, 66), (0, v1), (0, (fX12_personOf M v1 1)), (0, a16)]) (pc' := 44) dX12_spark_43 rfl (by decide) rfl rfl ?_
      refine T_aload_n (i := 0) (pc' := 45) dX12_spark_44 rfl rfl rfl ?_
      refine T_iload_n (i := 1) (pc' := 46) dX12_spark_45 rfl rfl rfl ?_
      refine T_iconst (pc' := 47) dX12_spark_46 (by decide) rfl ?_
      refine T_iload_n (i := 2) (pc' := 48) dX12_spark_47 rfl rfl rfl ?_
      obtain ⟨z17, H⟩ := H
      refine T_callV (av := [(0, v1), (0, 1), (0, (fX12_personOf M v1 1))]) (st := []) (d2 := 1) (nc2 := 0) (ns2 := 0) (pc' := 51) dX12_spark_48 rfl mtX12_makes mvX12_makes mlX12_473 cl12 rfl rfl rfl (Nat.le_of_ble_eq_true rfl) (by decide) ⟨by decide, by decide⟩ rfl (pX12_makes (E := E) (h := h) (M := M12) (v1 := v1) (v2 := 1) (v3 := (fX12_personOf M v1 1)) z17 hG13) (kF (st2 := []) rfl (fun hG18 => ?_))
      obtain ⟨M19, eM19⟩ : ∃ m : Mem, m = (fmX12_makes M12 v1 1 (fX12_personOf M v1 1)) := ⟨_, rfl⟩
      rw [← eM19] at hG18 ⊢
      replace H := H M19 eM19
      refine T_iload_n (i := 3) (pc' := 52) dX12_spark_51 rfl rfl rfl ?_
      exact T_iret dX12_spark_52 rfl ⟨rfl, hG18, _, rfl, H⟩
    · skip
      replace H := H.1 c5
      refine T_iconst (pc' := 19) dX12_spark_18 (by decide) rfl ?_
      exact T_iret dX12_spark_19 rfl ⟨rfl, hG, _, rfl, H⟩
def PX12_bits_4  (K : Int → Mem → Prop) (Q : Int → Mem → Prop) : Nat → Int → Int → Mem → Prop
  | 0 => fun _ _ _ => False
  | k + 1 => fun v1 v2 M => ((v2 = 0 → K v1 M) ∧ (¬ (v2 = 0) → PX12_bits_4  K Q k (wr32 (v1 + 1)) (m_and v2 (wr32 (v2 - 1))) M))
def PX12_bits (v0 : Int) (M : Mem) (Q : Int → Mem → Prop) : Prop :=
  (∃ k1 : Nat, PX12_bits_4 (fun u2 M3 => Q u2 M3) Q k1 0 v0 M)
set_option maxRecDepth 100000 in
set_option maxHeartbeats 2000000 in
theorem qX12_bits_4 {E : EV} {h : Int}   {K : Int → Mem → Prop} {Q : Int → Mem → Prop} (hK : ∀ (v1 : Int) (M : Mem), K v1 M → G h M → TG E miX12_bits 1 h (RI 0 Q) 20 [(3, 0), (0, v1), (3, 0)] [] M) : ∀ (k : Nat) (v1 v2 : Int) (M : Mem), PX12_bits_4  K Q k v1 v2 M → G h M → TG E miX12_bits 1 h (RI 0 Q) 4 [(3, 0), (0, v1), (0, v2)] [] M := by
  intro k
  induction k with
  | zero =>
    intro v1 v2 M H
    exact False.elim H
  | succ k ih =>
    intro v1 v2 M H hG
    refine T_iload_n (i := 2) (pc' := 5) dX12_bits_4 rfl rfl rfl ?_
    refine T_if_eq (pc' := 20) dX12_bits_5 (by decide) (pf := 8) rfl (fun c1 => ?_) (fun c1 => ?_)
    · skip
      replace H := H.1 c1
      exact T_wk (L' := [(3, 0), (0, v1), (3, 0)]) (hK _ _ H hG) ⟨Or.inl rfl, Or.inr rfl, Or.inl rfl, trivial⟩
    · skip
      replace H := H.2 c1
      refine T_iinc (L' := [(3, 0), (0, (wr32 (v1 + 1))), (0, v2)]) (pc' := 11) dX12_bits_8 rfl (by decide) rfl rfl ?_
      refine T_iload_n (i := 2) (pc' := 12) dX12_bits_11 rfl rfl rfl ?_
      refine T_iload_n (i := 2) (pc' := 13) dX12_bits_12 rfl rfl rfl ?_
      refine T_iconst (pc' := 14) dX12_bits_13 (by decide) rfl ?_
      refine T_isub (pc' := 15) dX12_bits_14 rfl ?_
      refine T_iand (pc' := 16) dX12_bits_15 rfl ?_
      refine T_istore_n (i := 2) (L' := [(3, 0), (0, (wr32 (v1 + 1))), (0, (m_and v2 (wr32 (v2 - 1))))]) (pc' := 17) dX12_bits_16 rfl (by decide) rfl rfl ?_
      refine T_goto (pc' := 4) dX12_bits_17 (by decide) ?_
      exact T_wk (L' := [(3, 0), (0, (wr32 (v1 + 1))), (0, (m_and v2 (wr32 (v2 - 1))))]) (ih _ _ _ H hG) ⟨Or.inl rfl, Or.inr rfl, Or.inr rfl, trivial⟩
set_option maxRecDepth 100000 in
set_option maxHeartbeats 2000000 in
theorem pX12_bits {E : EV} {h : Int} {M : Mem} {v0 : Int}  {Q : Int → Mem → Prop} (H : PX12_bits v0 M Q) : C2 E miX12_bits 1 h [(0, v0)] M (RI 0 Q) := by
  refine C2_of (L := [(0, v0), (3, 0), (3, 0)]) (by decide +kernel) (Nat.le_of_ble_eq_true rfl) rfl (fun hG => ?_)
  refine T_iconst (pc' := 1) dX12_bits_0 (by decide) rfl ?_
  refine T_istore_n (i := 1) (L' := [(0, v0), (0, 0), (3, 0)]) (pc' := 2) dX12_bits_1 rfl (by decide) rfl rfl ?_
  refine T_iload_n (i := 0) (pc' := 3) dX12_bits_2 rfl rfl rfl ?_
  refine T_istore_n (i := 2) (L' := [(0, v0), (0, 0), (0, v0)]) (pc' := 4) dX12_bits_3 rfl (by decide) rfl rfl ?_
  obtain ⟨k1, H⟩ := H
  refine T_wk (L' := [(3, 0), (0, 0), (0, v0)]) (qX12_bits_4  (fun u2 M3 H hG4 => ?_) _ _ _ _ H hG) ⟨Or.inl rfl, Or.inr rfl, Or.inr rfl, trivial⟩
  refine T_iload_n (i := 1) (pc' := 21) dX12_bits_20 rfl rfl rfl ?_
  exact T_iret dX12_bits_21 rfl ⟨rfl, hG4, _, rfl, H⟩
def PX12_daring_21  (K : Mem → Prop) (Q : Int → Mem → Prop) : Nat → Int → Mem → Prop
  | 0 => fun _ _ => False
  | k + 1 => fun v2 M => (((fX12_peopleMany M) ≤ v2 → K M) ∧ (¬ ((fX12_peopleMany M) ≤ v2) → (nX12_personOf v2 2) ∧ 0 ≤ v2 ∧ v2 < 9 ∧ (∀ M6 : Mem, M6 = (mset M 101 v2 (fX12_personOf M v2 2)) → PX12_daring_21  K Q k (wr32 (v2 + 1)) M6)))
def PX12_daring_51  (K : Int → Mem → Prop) (Q : Int → Mem → Prop) : Nat → Int → Int → Mem → Prop
  | 0 => fun _ _ _ => False
  | k + 1 => fun v2 v3 M => (((m_shl 1 (fX12_peopleMany M)) ≤ v3 → K v2 M) ∧ (¬ ((m_shl 1 (fX12_peopleMany M)) ≤ v3) → (((m_and v3 (m_xor (M 66 42) (-1))) = 0 → ((v2 = (-1) → (nX12_dares M v3) ∧ (∀ M7 : Mem, M7 = (fmX12_dares M v3) → PX12_doesComeOff M7 (fun a8 M9 => PX12_daring_51  K Q k (if a8 = 0 then v2 else v3) (wr32 (v3 + 1)) M9))) ∧ (¬ (v2 = (-1)) → PX12_bits v3 M (fun a13 M14 => PX12_bits v2 M14 (fun a16 M17 => ((a13 < a16 → (nX12_dares M17 v3) ∧ (∀ M22 : Mem, M22 = (fmX12_dares M17 v3) → PX12_doesComeOff M22 (fun a23 M24 => PX12_daring_51  K Q k (if a23 = 0 then v2 else v3) (wr32 (v3 + 1)) M24))) ∧ (¬ (a13 < a16) → PX12_daring_51  K Q k v2 (wr32 (v3 + 1)) M17))))))) ∧ (¬ ((m_and v3 (m_xor (M 66 42) (-1))) = 0) → PX12_daring_51  K Q k v2 (wr32 (v3 + 1)) M))))
def PX12_daring (v1 : Int) (M : Mem) (Q : Int → Mem → Prop) : Prop :=
  (((fX12_isIn v1 0 1) = 0 → Q (-1) M) ∧ (¬ ((fX12_isIn v1 0 1) = 0) → (((M 66 38) = 0 → Q (-1) M) ∧ (¬ ((M 66 38) = 0) → (∃ k4 : Nat, PX12_daring_21 (fun M5 => (∃ k7 : Nat, PX12_daring_51 (fun u8 M9 => (nX12_dares M9 0) ∧ (∀ M13 : Mem, M13 = (fmX12_dares M9 0) → ((u8 = (-1) → Q (-1) M13) ∧ (¬ (u8 = (-1)) → ((v1 = 0 → PX12_bits u8 M13 (fun a16 M17 => Q a16 M17)) ∧ (¬ (v1 = 0) → Q u8 M13)))))) Q k7 (-1) 0 M5)) Q k4 0 M)))))
set_option maxRecDepth 100000 in
set_option maxHeartbeats 2000000 in
theorem qX12_daring_21 {E : EV} {h : Int} {v1 : Int}  {K : Mem → Prop} {Q : Int → Mem → Prop} (hK : ∀ (M : Mem), K M → G h M → TG E miX12_daring 8 h (RI 0 Q) 47 [(2, 66), (0, v1), (3, 0), (3, 0)] [] M) : ∀ (k : Nat) (v2 : Int) (M : Mem), PX12_daring_21  K Q k v2 M → G h M → TG E miX12_daring 8 h (RI 0 Q) 21 [(2, 66), (0, v1), (0, v2), (3, 0)] [] M := by
  intro k
  induction k with
  | zero =>
    intro v2 M H
    exact False.elim H
  | succ k ih =>
    intro v2 M H hG
    refine T_iload_n (i := 2) (pc' := 22) dX12_daring_21 rfl rfl rfl ?_
    refine T_aload_n (i := 0) (pc' := 23) dX12_daring_22 rfl rfl rfl ?_
    refine T_callV (av := []) (st := [(0, v2)]) (d2 := 1) (nc2 := 0) (ns2 := 0) (pc' := 26) dX12_daring_23 rfl mtX12_peopleMany mvX12_peopleMany mlX12_349 cl12 rfl rfl rfl (Nat.le_of_ble_eq_true rfl) (by decide) ⟨by decide, by decide⟩ rfl (pX12_peopleMany (E := E) (h := h) (M := M) hG) (kF (st2 := [(0, (fX12_peopleMany M)), (0, v2)]) rfl (fun hG1 => ?_))
    refine T_icmp_ge (pc' := 47) dX12_daring_26 (by decide) (pf := 29) rfl (fun c2 => ?_) (fun c2 => ?_)
    · skip
      replace H := H.1 c2
      exact T_wk (L' := [(2, 66), (0, v1), (3, 0), (3, 0)]) (hK _ H hG) ⟨Or.inr rfl, Or.inr rfl, Or.inl rfl, Or.inl rfl, trivial⟩
    · skip
      replace H := H.2 c2
      refine T_aload_n (i := 0) (pc' := 30) dX12_daring_29 rfl rfl rfl ?_
      refine U_gr (q := 101) (k := 57) (kI := 57) (pc' := 33) dX12_daring_30 rfl cl12 (by decide) rfl (by decide) flX12_123 rfl rfl rfl (G_at hG 101 rfl) (by decide) rfl ?_
      refine T_iload_n (i := 2) (pc' := 34) dX12_daring_33 rfl rfl rfl ?_
      refine T_aload_n (i := 0) (pc' := 35) dX12_daring_34 rfl rfl rfl ?_
      refine T_iload_n (i := 2) (pc' := 36) dX12_daring_35 rfl rfl rfl ?_
      refine T_iconst (pc' := 37) dX12_daring_36 (by decide) rfl ?_
      obtain ⟨z3, H⟩ := H
      refine T_callV (av := [(0, v2), (0, 2)]) (st := [(0, v2), (2, 101)]) (d2 := 1) (nc2 := 0) (ns2 := 0) (pc' := 40) dX12_daring_37 rfl mtX12_personOf mvX12_personOf mlX12_373 cl12 rfl rfl rfl (Nat.le_of_ble_eq_true rfl) (by decide) ⟨by decide, by decide⟩ rfl (pX12_personOf (E := E) (h := h) (M := M) (v1 := v2) (v2 := 2) z3 hG) (kF (st2 := [(0, (fX12_personOf M v2 2)), (0, v2), (2, 101)]) rfl (fun hG4 => ?_))
      obtain ⟨z1, z2, H⟩ := H
      refine T_iast (pc' := 41) dX12_daring_40 (by decide) rfl z1 z2 rfl ?_
      have hG5 := (G_arr (x := 101) (i := v2) (y := (fX12_personOf M v2 2)) rfl (by decide) hG)
      obtain ⟨M6, eM6⟩ : ∃ m : Mem, m = (mset M 101 v2 (fX12_personOf M v2 2)) := ⟨_, rfl⟩
      rw [← eM6] at hG5 ⊢
      replace H := H M6 eM6
      refine T_iinc (L' := [(2, 66), (0, v1), (0, (wr32 (v2 + 1))), (3, 0)]) (pc' := 44) dX12_daring_41 rfl (by decide) rfl rfl ?_
      refine T_goto (pc' := 21) dX12_daring_44 (by decide) ?_
      exact T_wk (L' := [(2, 66), (0, v1), (0, (wr32 (v2 + 1))), (3, 0)]) (ih _ _ H hG5) ⟨Or.inr rfl, Or.inr rfl, Or.inr rfl, Or.inl rfl, trivial⟩
set_option maxRecDepth 100000 in
set_option maxHeartbeats 2000000 in
theorem qX12_daring_51 {E : EV} {h : Int} {v1 : Int}  {K : Int → Mem → Prop} {Q : Int → Mem → Prop} (hK : ∀ (v2 : Int) (M : Mem), K v2 M → G h M → TG E miX12_daring 8 h (RI 0 Q) 111 [(2, 66), (0, v1), (0, v2), (3, 0)] [] M) : ∀ (k : Nat) (v2 v3 : Int) (M : Mem), PX12_daring_51  K Q k v2 v3 M → G h M → TG E miX12_daring 8 h (RI 0 Q) 51 [(2, 66), (0, v1), (0, v2), (0, v3)] [] M := by
  intro k
  induction k with
  | zero =>
    intro v2 v3 M H
    exact False.elim H
  | succ k ih =>
    intro v2 v3 M H hG
    refine T_iload_n (i := 3) (pc' := 52) dX12_daring_51 rfl rfl rfl ?_
    refine T_iconst (pc' := 53) dX12_daring_52 (by decide) rfl ?_
    refine T_aload_n (i := 0) (pc' := 54) dX12_daring_53 rfl rfl rfl ?_
    refine T_callV (av := []) (st := [(0, 1), (0, v3)]) (d2 := 1) (nc2 := 0) (ns2 := 0) (pc' := 57) dX12_daring_54 rfl mtX12_peopleMany mvX12_peopleMany mlX12_349 cl12 rfl rfl rfl (Nat.le_of_ble_eq_true rfl) (by decide) ⟨by decide, by decide⟩ rfl (pX12_peopleMany (E := E) (h := h) (M := M) hG) (kF (st2 := [(0, (fX12_peopleMany M)), (0, 1), (0, v3)]) rfl (fun hG1 => ?_))
    refine T_ishl (pc' := 58) dX12_daring_57 rfl ?_
    refine T_icmp_ge (pc' := 111) dX12_daring_58 (by decide) (pf := 61) rfl (fun c2 => ?_) (fun c2 => ?_)
    · skip
      replace H := H.1 c2
      exact T_wk (L' := [(2, 66), (0, v1), (0, v2), (3, 0)]) (hK _ _ H hG) ⟨Or.inr rfl, Or.inr rfl, Or.inr rfl, Or.inl rfl, trivial⟩
    · skip
      replace H := H.2 c2
      refine T_iload_n (i := 3) (pc' := 62) dX12_daring_61 rfl rfl rfl ?_
      refine T_aload_n (i := 0) (pc' := 63) dX12_daring_62 rfl rfl rfl ?_
      refine U_gf (v := (0, (M 66 42))) (k := 42) (kI := 42) (pc' := 66) dX12_daring_63 rfl cl12 (by decide) rfl (by decide) flX12_340 rfl rfl (by decide) rfl rfl ?_
      refine T_iconst (pc' := 67) dX12_daring_66 (by decide) rfl ?_
      refine T_ixor (pc' := 68) dX12_daring_67 rfl ?_
      refine T_iand (pc' := 69) dX12_daring_68 rfl ?_
      refine T_if_ne (pc' := 105) dX12_daring_69 (by decide) (pf := 72) rfl (fun c3 => ?_) (fun c3 => ?_)
      · skip
        replace H := H.2 c3
        refine T_iinc (L' := [(2, 66), (0, v1), (0, v2), (0, (wr32 (v3 + 1)))]) (pc' := 108) dX12_daring_105 rfl (by decide) rfl rfl ?_
        refine T_goto (pc' := 51) dX12_daring_108 (by decide) ?_
        exact T_wk (L' := [(2, 66), (0, v1), (0, v2), (0, (wr32 (v3 + 1)))]) (ih _ _ _ H hG) ⟨Or.inr rfl, Or.inr rfl, Or.inr rfl, Or.inr rfl, trivial⟩
      · skip
        replace H := H.1 c3
        refine T_iload_n (i := 2) (pc' := 73) dX12_daring_72 rfl rfl rfl ?_
        refine T_iconst (pc' := 74) dX12_daring_73 (by decide) rfl ?_
        refine T_icmp_eq (pc' := 91) dX12_daring_74 (by decide) (pf := 77) rfl (fun c4 => ?_) (fun c4 => ?_)
        · skip
          replace H := H.1 c4
          refine T_aload_n (i := 0) (pc' := 92) dX12_daring_91 rfl rfl rfl ?_
          refine T_iload_n (i := 3) (pc' := 93) dX12_daring_92 rfl rfl rfl ?_
          obtain ⟨z5, H⟩ := H
          refine T_callV (av := [(0, v3)]) (st := []) (d2 := 2) (nc2 := 0) (ns2 := 0) (pc' := 96) dX12_daring_93 rfl mtX12_dares mvX12_dares mlX12_508 cl12 rfl rfl rfl (Nat.le_of_ble_eq_true rfl) (by decide) ⟨by decide, by decide⟩ rfl (pX12_dares (E := E) (h := h) (M := M) (v1 := v3) z5 hG) (kF (st2 := []) rfl (fun hG6 => ?_))
          obtain ⟨M7, eM7⟩ : ∃ m : Mem, m = (fmX12_dares M v3) := ⟨_, rfl⟩
          rw [← eM7] at hG6 ⊢
          replace H := H M7 eM7
          refine T_aload_n (i := 0) (pc' := 97) dX12_daring_96 rfl rfl rfl ?_
          refine T_callV (av := []) (st := []) (d2 := 7) (nc2 := 0) (ns2 := 0) (pc' := 100) dX12_daring_97 rfl mtX12_doesComeOff mvX12_doesComeOff mlX12_500 cl12 rfl rfl rfl (Nat.le_of_ble_eq_true rfl) (by decide) ⟨by decide, by decide⟩ rfl (pX12_doesComeOff (E := E) (h := h) (M := M7) H hG6) ?_
          rintro _ _ M9 ⟨rfl, hG10, a8, rfl, H⟩ _
          have HJ11 : T E miX12_daring 8 126 0 0 (fun r S M' => S = S0 ∧ G h M' ∧ RI 0 Q r M') 105 [(2, 66), (0, v1), (0, (if a8 = 0 then v2 else v3)), (0, v3)] [] S0 M9 0 0 := by
            refine T_iinc (L' := [(2, 66), (0, v1), (0, (if a8 = 0 then v2 else v3)), (0, (wr32 (v3 + 1)))]) (pc' := 108) dX12_daring_105 rfl (by decide) rfl rfl ?_
            refine T_goto (pc' := 51) dX12_daring_108 (by decide) ?_
            exact T_wk (L' := [(2, 66), (0, v1), (0, (if a8 = 0 then v2 else v3)), (0, (wr32 (v3 + 1)))]) (ih _ _ _ H hG10) ⟨Or.inr rfl, Or.inr rfl, Or.inr rfl, Or.inr rfl, trivial⟩
          refine T_if_eq (pc' := 105) dX12_daring_100 (by decide) (pf := 103) rfl (fun c12 => ?_) (fun c12 => ?_)
          · skip
            exact T_wk (L' := [(2, 66), (0, v1), (0, v2), (0, v3)]) (by have q := HJ11; try simp only [if_pos c12] at q ⊢; exact q) ⟨Or.inr rfl, Or.inr rfl, Or.inr rfl, Or.inr rfl, trivial⟩
          · skip
            refine T_iload_n (i := 3) (pc' := 104) dX12_daring_103 rfl rfl rfl ?_
            refine T_istore_n (i := 2) (L' := [(2, 66), (0, v1), (0, v3), (0, v3)]) (pc' := 105) dX12_daring_104 rfl (by decide) rfl rfl ?_
            exact T_wk (L' := [(2, 66), (0, v1), (0, v3), (0, v3)]) (by have q := HJ11; try simp only [if_neg c12] at q ⊢; exact q) ⟨Or.inr rfl, Or.inr rfl, Or.inr rfl, Or.inr rfl, trivial⟩
        · skip
          replace H := H.2 c4
          refine T_iload_n (i := 3) (pc' := 78) dX12_daring_77 rfl rfl rfl ?_
          refine T_callS (av := [(0, v3)]) (st := []) (d2 := 1) (nc2 := 0) (ns2 := 0) (pc' := 81) dX12_daring_78 rfl mtX12_bits mvX12_bits mlX12_505 rfl rfl (Nat.le_of_ble_eq_true rfl) (by decide) ⟨by decide, by decide⟩ rfl (pX12_bits (E := E) (h := h) (M := M) (v0 := v3) H hG) ?_
          rintro _ _ M14 ⟨rfl, hG15, a13, rfl, H⟩ _
          refine T_iload_n (i := 2) (pc' := 82) dX12_daring_81 rfl rfl rfl ?_
          refine T_callS (av := [(0, v2)]) (st := [(0, a13)]) (d2 := 1) (nc2 := 0) (ns2 := 0) (pc' := 85) dX12_daring_82 rfl mtX12_bits mvX12_bits mlX12_505 rfl rfl (Nat.le_of_ble_eq_true rfl) (by decide) ⟨by decide, by decide⟩ rfl (pX12_bits (E := E) (h := h) (M := M14) (v0 := v2) H hG15) ?_
          rintro _ _ M17 ⟨rfl, hG18, a16, rfl, H⟩ _
          refine T_icmp_lt (pc' := 91) dX12_daring_85 (by decide) (pf := 88) rfl (fun c19 => ?_) (fun c19 => ?_)
          · skip
            replace H := H.1 c19
            refine T_aload_n (i := 0) (pc' := 92) dX12_daring_91 rfl rfl rfl ?_
            refine T_iload_n (i := 3) (pc' := 93) dX12_daring_92 rfl rfl rfl ?_
            obtain ⟨z20, H⟩ := H
            refine T_callV (av := [(0, v3)]) (st := []) (d2 := 2) (nc2 := 0) (ns2 := 0) (pc' := 96) dX12_daring_93 rfl mtX12_dares mvX12_dares mlX12_508 cl12 rfl rfl rfl (Nat.le_of_ble_eq_true rfl) (by decide) ⟨by decide, by decide⟩ rfl (pX12_dares (E := E) (h := h) (M := M17) (v1 := v3) z20 hG18) (kF (st2 := []) rfl (fun hG21 => ?_))
            obtain ⟨M22, eM22⟩ : ∃ m : Mem, m = (fmX12_dares M17 v3) := ⟨_, rfl⟩
            rw [← eM22] at hG21 ⊢
            replace H := H M22 eM22
            refine T_aload_n (i := 0) (pc' := 97) dX12_daring_96 rfl rfl rfl ?_
            refine T_callV (av := []) (st := []) (d2 := 7) (nc2 := 0) (ns2 := 0) (pc' := 100) dX12_daring_97 rfl mtX12_doesComeOff mvX12_doesComeOff mlX12_500 cl12 rfl rfl rfl (Nat.le_of_ble_eq_true rfl) (by decide) ⟨by decide, by decide⟩ rfl (pX12_doesComeOff (E := E) (h := h) (M := M22) H hG21) ?_
            rintro _ _ M24 ⟨rfl, hG25, a23, rfl, H⟩ _
            have HJ26 : T E miX12_daring 8 126 0 0 (fun r S M' => S = S0 ∧ G h M' ∧ RI 0 Q r M') 105 [(2, 66), (0, v1), (0, (if a23 = 0 then v2 else v3)), (0, v3)] [] S0 M24 0 0 := by
              refine T_iinc (L' := [(2, 66), (0, v1), (0, (if a23 = 0 then v2 else v3)), (0, (wr32 (v3 + 1)))]) (pc' := 108) dX12_daring_105 rfl (by decide) rfl rfl ?_
              refine T_goto (pc' := 51) dX12_daring_108 (by decide) ?_
              exact T_wk (L' := [(2, 66), (0, v1), (0, (if a23 = 0 then v2 else v3)), (0, (wr32 (v3 + 1)))]) (ih _ _ _ H hG25) ⟨Or.inr rfl, Or.inr rfl, Or.inr rfl, Or.inr rfl, trivial⟩
            refine T_if_eq (pc' := 105) dX12_daring_100 (by decide) (pf := 103) rfl (fun c27 => ?_) (fun c27 => ?_)
            · skip
              exact T_wk (L' := [(2, 66), (0, v1), (0, v2), (0, v3)]) (by have q := HJ26; try simp only [if_pos c27] at q ⊢; exact q) ⟨Or.inr rfl, Or.inr rfl, Or.inr rfl, Or.inr rfl, trivial⟩
            · skip
              refine T_iload_n (i := 3) (pc' := 104) dX12_daring_103 rfl rfl rfl ?_
              refine T_istore_n (i := 2) (L' := [(2, 66), (0, v1), (0, v3), (0, v3)]) (pc' := 105) dX12_daring_104 rfl (by decide) rfl rfl ?_
              exact T_wk (L' := [(2, 66), (0, v1), (0, v3), (0, v3)]) (by have q := HJ26; try simp only [if_neg c27] at q ⊢; exact q) ⟨Or.inr rfl, Or.inr rfl, Or.inr rfl, Or.inr rfl, trivial⟩
          · skip
            replace H := H.2 c19
            refine T_goto (pc' := 105) dX12_daring_88 (by decide) ?_
            refine T_iinc (L' := [(2, 66), (0, v1), (0, v2), (0, (wr32 (v3 + 1)))]) (pc' := 108) dX12_daring_105 rfl (by decide) rfl rfl ?_
            refine T_goto (pc' := 51) dX12_daring_108 (by decide) ?_
            exact T_wk (L' := [(2, 66), (0, v1), (0, v2), (0, (wr32 (v3 + 1)))]) (ih _ _ _ H hG18) ⟨Or.inr rfl, Or.inr rfl, Or.inr rfl, Or.inr rfl, trivial⟩
set_option maxRecDepth 100000 in
set_option maxHeartbeats 2000000 in
theorem pX12_daring {E : EV} {h : Int} {M : Mem} {v1 : Int}  {Q : Int → Mem → Prop} (H : PX12_daring v1 M Q) : C2 E miX12_daring 8 h [(2, 66), (0, v1)] M (RI 0 Q) := by
  refine C2_of (L := [(2, 66), (0, v1), (3, 0), (3, 0)]) (by decide +kernel) (Nat.le_of_ble_eq_true rfl) rfl (fun hG => ?_)
  refine T_iload_n (i := 1) (pc' := 1) dX12_daring_0 rfl rfl rfl ?_
  refine T_i2l (pc' := 2) dX12_daring_1 rfl ?_
  refine T_lconst (v := 0) (pc' := 3) dX12_daring_2 rfl (by decide) rfl ?_
  refine T_lconst (v := 1) (pc' := 4) dX12_daring_3 rfl (by decide) rfl ?_
  refine T_callS (av := [(1, v1), (1, 0), (1, 1)]) (st := []) (d2 := 1) (nc2 := 0) (ns2 := 0) (pc' := 7) dX12_daring_4 rfl mtX12_isIn mvX12_isIn mlX12_244 rfl rfl (Nat.le_of_ble_eq_true rfl) (by decide) ⟨by decide, by decide⟩ rfl (pX12_isIn (E := E) (h := h) (M := M) (v0 := v1) (v2 := 0) (v4 := 1) hG) (kF (st2 := [(0, (fX12_isIn v1 0 1))]) rfl (fun hG1 => ?_))
  refine T_if_eq (pc' := 17) dX12_daring_7 (by decide) (pf := 10) rfl (fun c2 => ?_) (fun c2 => ?_)
  · skip
    replace H := H.1 c2
    refine T_iconst (pc' := 18) dX12_daring_17 (by decide) rfl ?_
    exact T_iret dX12_daring_18 rfl ⟨rfl, hG, _, rfl, H⟩
  · skip
    replace H := H.2 c2
    refine T_aload_n (i := 0) (pc' := 11) dX12_daring_10 rfl rfl rfl ?_
    refine U_gf (v := (0, (M 66 38))) (k := 38) (kI := 38) (pc' := 14) dX12_daring_11 rfl cl12 (by decide) rfl (by decide) flX12_334 rfl rfl (by decide) rfl rfl ?_
    refine T_if_ne (pc' := 19) dX12_daring_14 (by decide) (pf := 17) rfl (fun c3 => ?_) (fun c3 => ?_)
    · skip
      replace H := H.2 c3
      refine T_iconst (pc' := 20) dX12_daring_19 (by decide) rfl ?_
      refine T_istore_n (i := 2) (L' := [(2, 66), (0, v1), (0, 0), (3, 0)]) (pc' := 21) dX12_daring_20 rfl (by decide) rfl rfl ?_
      obtain ⟨k4, H⟩ := H
      refine T_wk (L' := [(2, 66), (0, v1), (0, 0), (3, 0)]) (qX12_daring_21 (v1 := v1) (fun M5 H hG6 => ?_) _ _ _ H hG) ⟨Or.inr rfl, Or.inr rfl, Or.inr rfl, Or.inl rfl, trivial⟩
      refine T_iconst (pc' := 48) dX12_daring_47 (by decide) rfl ?_
      refine T_istore_n (i := 2) (L' := [(2, 66), (0, v1), (0, (-1)), (3, 0)]) (pc' := 49) dX12_daring_48 rfl (by decide) rfl rfl ?_
      refine T_iconst (pc' := 50) dX12_daring_49 (by decide) rfl ?_
      refine T_istore_n (i := 3) (L' := [(2, 66), (0, v1), (0, (-1)), (0, 0)]) (pc' := 51) dX12_daring_50 rfl (by decide) rfl rfl ?_
      obtain ⟨k7, H⟩ := H
      refine T_wk (L' := [(2, 66), (0, v1), (0, (-1)), (0, 0)]) (qX12_daring_51 (v1 := v1) (fun u8 M9 H hG10 => ?_) _ _ _ _ H hG6) ⟨Or.inr rfl, Or.inr rfl, Or.inr rfl, Or.inr rfl, trivial⟩
      refine T_aload_n (i := 0) (pc' := 112) dX12_daring_111 rfl rfl rfl ?_
      refine T_iconst (pc' := 113) dX12_daring_112 (by decide) rfl ?_
      obtain ⟨z11, H⟩ := H
      refine T_callV (av := [(0, 0)]) (st := []) (d2 := 2) (nc2 := 0) (ns2 := 0) (pc' := 116) dX12_daring_113 rfl mtX12_dares mvX12_dares mlX12_508 cl12 rfl rfl rfl (Nat.le_of_ble_eq_true rfl) (by decide) ⟨by decide, by decide⟩ rfl (pX12_dares (E := E) (h := h) (M := M9) (v1 := 0) z11 hG10) (kF (st2 := []) rfl (fun hG12 => ?_))
      obtain ⟨M13, eM13⟩ : ∃ m : Mem, m = (fmX12_dares M9 0) := ⟨_, rfl⟩
      rw [← eM13] at hG12 ⊢
      replace H := H M13 eM13
      refine T_iload_n (i := 2) (pc' := 117) dX12_daring_116 rfl rfl rfl ?_
      refine T_iconst (pc' := 118) dX12_daring_117 (by decide) rfl ?_
      refine T_icmp_ne (pc' := 125) dX12_daring_118 (by decide) (pf := 121) rfl (fun c14 => ?_) (fun c14 => ?_)
      · skip
        replace H := H.2 c14
        refine T_iload_n (i := 1) (pc' := 126) dX12_daring_125 rfl rfl rfl ?_
        refine T_if_ne (pc' := 136) dX12_daring_126 (by decide) (pf := 129) rfl (fun c15 => ?_) (fun c15 => ?_)
        · skip
          replace H := H.2 c15
          refine T_iload_n (i := 2) (pc' := 137) dX12_daring_136 rfl rfl rfl ?_
          exact T_iret dX12_daring_137 rfl ⟨rfl, hG12, _, rfl, H⟩
        · skip
          replace H := H.1 c15
          refine T_iload_n (i := 2) (pc' := 130) dX12_daring_129 rfl rfl rfl ?_
          refine T_callS (av := [(0, u8)]) (st := []) (d2 := 1) (nc2 := 0) (ns2 := 0) (pc' := 133) dX12_daring_130 rfl mtX12_bits mvX12_bits mlX12_505 rfl rfl (Nat.le_of_ble_eq_true rfl) (by decide) ⟨by decide, by decide⟩ rfl (pX12_bits (E := E) (h := h) (M := M13) (v0 := u8) H hG12) ?_
          rintro _ _ M17 ⟨rfl, hG18, a16, rfl, H⟩ _
          refine T_goto (pc' := 137) dX12_daring_133 (by decide) ?_
          exact T_iret dX12_daring_137 rfl ⟨rfl, hG18, _, rfl, H⟩
      · skip
        replace H := H.1 c14
        refine T_iconst (pc' := 122) dX12_daring_121 (by decide) rfl ?_
        refine T_goto (pc' := 137) dX12_daring_122 (by decide) ?_
        exact T_iret dX12_daring_137 rfl ⟨rfl, hG12, _, rfl, H⟩
    · skip
      replace H := H.1 c3
      refine T_iconst (pc' := 18) dX12_daring_17 (by decide) rfl ?_
      exact T_iret dX12_daring_18 rfl ⟨rfl, hG, _, rfl, H⟩
def PX12_isOpenThen_6 (v1 : Int) (K : Mem → Prop) (Q : Int → Mem → Prop) : Nat → Int → Mem → Prop
  | 0 => fun _ _ => False
  | k + 1 => fun v2 M => ((200 < v2 → K M) ∧ (¬ (200 < v2) → (nX12_isOpen M v1 v2) ∧ (((fX12_isOpen M v1 v2) = 0 → PX12_isOpenThen_6 v1 K Q k (wr32 (v2 + 1)) M) ∧ (¬ ((fX12_isOpen M v1 v2) = 0) → (nX12_openMany M v2) ∧ (∀ a7 : Int, a7 = (fX12_openMany M v2) → ((a7 < (M 91 7) → PX12_isOpenThen_6 v1 K Q k (wr32 (v2 + 1)) M) ∧ (¬ (a7 < (M 91 7)) → Q 1 M)))))))
def PX12_isOpenThen (v1 : Int) (M : Mem) (Q : Int → Mem → Prop) : Prop :=
  PX12_plays M (fun _ M2 => (∃ k4 : Nat, PX12_isOpenThen_6 v1 (fun M5 => Q 0 M5) Q k4 0 M2))
set_option maxRecDepth 100000 in
set_option maxHeartbeats 2000000 in
theorem qX12_isOpenThen_6 {E : EV} {h : Int} {v1 : Int}  {K : Mem → Prop} {Q : Int → Mem → Prop} (hK : ∀ (M : Mem), K M → G h M → TG E miX12_isOpenThen 7 h (RI 0 Q) 45 [(2, 66), (3, 0), (3, 0)] [] M) : ∀ (k : Nat) (v2 : Int) (M : Mem), PX12_isOpenThen_6 v1 K Q k v2 M → G h M → TG E miX12_isOpenThen 7 h (RI 0 Q) 6 [(2, 66), (0, v1), (0, v2)] [] M := by
  intro k
  induction k with
  | zero =>
    intro v2 M H
    exact False.elim H
  | succ k ih =>
    intro v2 M H hG
    refine T_iload_n (i := 2) (pc' := 7) dX12_isOpenThen_6 rfl rfl rfl ?_
    refine T_sipush (pc' := 10) dX12_isOpenThen_7 rfl (by decide) rfl ?_
    refine T_icmp_gt (pc' := 45) dX12_isOpenThen_10 (by decide) (pf := 13) rfl (fun c1 => ?_) (fun c1 => ?_)
    · skip
      replace H := H.1 c1
      exact T_wk (L' := [(2, 66), (3, 0), (3, 0)]) (hK _ H hG) ⟨Or.inr rfl, Or.inl rfl, Or.inl rfl, trivial⟩
    · skip
      replace H := H.2 c1
      refine T_aload_n (i := 0) (pc' := 14) dX12_isOpenThen_13 rfl rfl rfl ?_
      refine T_iload_n (i := 1) (pc' := 15) dX12_isOpenThen_14 rfl rfl rfl ?_
      refine T_iload_n (i := 2) (pc' := 16) dX12_isOpenThen_15 rfl rfl rfl ?_
      obtain ⟨z2, H⟩ := H
      refine T_callV (av := [(0, v1), (0, v2)]) (st := []) (d2 := 2) (nc2 := 0) (ns2 := 0) (pc' := 19) dX12_isOpenThen_16 rfl mtX12_isOpen mvX12_isOpen mlX12_379 cl12 rfl rfl rfl (Nat.le_of_ble_eq_true rfl) (by decide) ⟨by decide, by decide⟩ rfl (pX12_isOpen (E := E) (h := h) (M := M) (v1 := v1) (v2 := v2) z2 hG) (kF (st2 := [(0, (fX12_isOpen M v1 v2))]) rfl (fun hG3 => ?_))
      refine T_if_eq (pc' := 39) dX12_isOpenThen_19 (by decide) (pf := 22) rfl (fun c4 => ?_) (fun c4 => ?_)
      · skip
        replace H := H.1 c4
        refine T_iinc (L' := [(2, 66), (0, v1), (0, (wr32 (v2 + 1)))]) (pc' := 42) dX12_isOpenThen_39 rfl (by decide) rfl rfl ?_
        refine T_goto (pc' := 6) dX12_isOpenThen_42 (by decide) ?_
        exact T_wk (L' := [(2, 66), (0, v1), (0, (wr32 (v2 + 1)))]) (ih _ _ H hG) ⟨Or.inr rfl, Or.inr rfl, Or.inr rfl, trivial⟩
      · skip
        replace H := H.2 c4
        refine T_aload_n (i := 0) (pc' := 23) dX12_isOpenThen_22 rfl rfl rfl ?_
        refine T_iload_n (i := 2) (pc' := 24) dX12_isOpenThen_23 rfl rfl rfl ?_
        obtain ⟨z5, H⟩ := H
        refine T_callV (av := [(0, v2)]) (st := []) (d2 := 4) (nc2 := 0) (ns2 := 0) (pc' := 27) dX12_isOpenThen_24 rfl mtX12_openMany mvX12_openMany mlX12_426 cl12 rfl rfl rfl (Nat.le_of_ble_eq_true rfl) (by decide) ⟨by decide, by decide⟩ rfl (pX12_openMany (E := E) (h := h) (M := M) (v1 := v2) z5 hG) (kF (st2 := [(0, (fX12_openMany M v2))]) rfl (fun hG6 => ?_))
        obtain ⟨a7, ea7⟩ : ∃ z : Int, z = (fX12_openMany M v2) := ⟨_, rfl⟩
        rw [← ea7]
        replace H := H a7 ea7
        refine T_aload_n (i := 0) (pc' := 28) dX12_isOpenThen_27 rfl rfl rfl ?_
        refine U_gr (q := 91) (k := 34) (kI := 34) (pc' := 31) dX12_isOpenThen_28 rfl cl12 (by decide) rfl (by decide) flX12_89 rfl rfl rfl (G_at hG 91 rfl) (by decide) rfl ?_
        refine T_bipush (pc' := 33) dX12_isOpenThen_31 rfl (by decide) rfl ?_
        refine T_iald (pc' := 34) dX12_isOpenThen_33 (by decide) rfl (by decide) (by decide) rfl ?_
        refine T_icmp_lt (pc' := 39) dX12_isOpenThen_34 (by decide) (pf := 37) rfl (fun c8 => ?_) (fun c8 => ?_)
        · skip
          replace H := H.1 c8
          refine T_iinc (L' := [(2, 66), (0, v1), (0, (wr32 (v2 + 1)))]) (pc' := 42) dX12_isOpenThen_39 rfl (by decide) rfl rfl ?_
          refine T_goto (pc' := 6) dX12_isOpenThen_42 (by decide) ?_
          exact T_wk (L' := [(2, 66), (0, v1), (0, (wr32 (v2 + 1)))]) (ih _ _ H hG) ⟨Or.inr rfl, Or.inr rfl, Or.inr rfl, trivial⟩
        · skip
          replace H := H.2 c8
          refine T_iconst (pc' := 38) dX12_isOpenThen_37 (by decide) rfl ?_
          exact T_zret dX12_isOpenThen_38 rfl (by decide) ⟨rfl, hG, _, rfl, H⟩
set_option maxRecDepth 100000 in
set_option maxHeartbeats 2000000 in
theorem pX12_isOpenThen {E : EV} {h : Int} {M : Mem} {v1 : Int}  {Q : Int → Mem → Prop} (H : PX12_isOpenThen v1 M Q) : C2 E miX12_isOpenThen 7 h [(2, 66), (0, v1)] M (RI 0 Q) := by
  refine C2_of (L := [(2, 66), (0, v1), (3, 0)]) (by decide +kernel) (Nat.le_of_ble_eq_true rfl) rfl (fun hG => ?_)
  refine T_aload_n (i := 0) (pc' := 1) dX12_isOpenThen_0 rfl rfl rfl ?_
  refine T_callV (av := []) (st := []) (d2 := 6) (nc2 := 0) (ns2 := 0) (pc' := 4) dX12_isOpenThen_1 rfl mtX12_plays mvX12_plays mlX12_441 cl12 rfl rfl rfl (Nat.le_of_ble_eq_true rfl) (by decide) ⟨by decide, by decide⟩ rfl (pX12_plays (E := E) (h := h) (M := M) H hG) ?_
  rintro _ _ M2 ⟨rfl, hG3, rfl, H⟩ _
  refine T_iconst (pc' := 5) dX12_isOpenThen_4 (by decide) rfl ?_
  refine T_istore_n (i := 2) (L' := [(2, 66), (0, v1), (0, 0)]) (pc' := 6) dX12_isOpenThen_5 rfl (by decide) rfl rfl ?_
  obtain ⟨k4, H⟩ := H
  refine T_wk (L' := [(2, 66), (0, v1), (0, 0)]) (qX12_isOpenThen_6 (v1 := v1) (fun M5 H hG6 => ?_) _ _ _ H hG3) ⟨Or.inr rfl, Or.inr rfl, Or.inr rfl, trivial⟩
  refine T_iconst (pc' := 46) dX12_isOpenThen_45 (by decide) rfl ?_
  exact T_zret dX12_isOpenThen_46 rfl (by decide) ⟨rfl, hG6, _, rfl, H⟩
def PX12_late_33 (v1 : Int) (K : Int → Mem → Prop) (Q : Int → Mem → Prop) : Nat → Int → Int → Mem → Prop
  | 0 => fun _ _ _ => False
  | k + 1 => fun v3 v4 M => ((v4 < (-60) → K v3 M) ∧ (¬ (v4 < (-60)) → ((v3 = (-1) → (nX12_makes v1 1) ∧ (∀ M5 : Mem, M5 = (fmX12_makes M v1 1 v4) → PX12_isOpenThen v1 M5 (fun a6 M7 => PX12_late_33 v1 K Q k (if a6 = 0 then v3 else (wr32 (60 + v4))) (wr32 (v4 + (-1))) M7))) ∧ (¬ (v3 = (-1)) → K v3 M))))
def PX12_late (v1 : Int) (M : Mem) (Q : Int → Mem → Prop) : Prop :=
  (((fX12_isComing M v1) = 0 → Q (-1) M) ∧ (¬ ((fX12_isComing M v1) = 0) → (nX12_personOf v1 4) ∧ (((fX12_personOf M v1 4) = 1 → Q (-1) M) ∧ (¬ ((fX12_personOf M v1 4) = 1) → (nX12_personOf v1 1) ∧ (∃ k8 : Nat, PX12_late_33 v1 (fun u9 M10 => (nX12_makes v1 1) ∧ (∀ M14 : Mem, M14 = (fmX12_makes M10 v1 1 (fX12_personOf M v1 1)) → Q u9 M14)) Q k8 (-1) 60 M)))))
set_option maxRecDepth 100000 in
set_option maxHeartbeats 2000000 in
theorem qX12_late_33 {E : EV} {h : Int} {v1 : Int} {v2 : Int}  {K : Int → Mem → Prop} {Q : Int → Mem → Prop} (hK : ∀ (v3 : Int) (M : Mem), K v3 M → G h M → TG E miX12_late 8 h (RI 0 Q) 73 [(2, 66), (0, v1), (0, v2), (0, v3), (3, 0)] [] M) : ∀ (k : Nat) (v3 v4 : Int) (M : Mem), PX12_late_33 v1 K Q k v3 v4 M → G h M → TG E miX12_late 8 h (RI 0 Q) 33 [(2, 66), (0, v1), (0, v2), (0, v3), (0, v4)] [] M := by
  intro k
  induction k with
  | zero =>
    intro v3 v4 M H
    exact False.elim H
  | succ k ih =>
    intro v3 v4 M H hG
    refine T_iload (i := 4) (pc' := 35) dX12_late_33 rfl rfl ?_
    refine T_bipush (pc' := 37) dX12_late_35 rfl (by decide) rfl ?_
    refine T_icmp_lt (pc' := 73) dX12_late_37 (by decide) (pf := 40) rfl (fun c1 => ?_) (fun c1 => ?_)
    · skip
      replace H := H.1 c1
      exact T_wk (L' := [(2, 66), (0, v1), (0, v2), (0, v3), (3, 0)]) (hK _ _ H hG) ⟨Or.inr rfl, Or.inr rfl, Or.inr rfl, Or.inr rfl, Or.inl rfl, trivial⟩
    · skip
      replace H := H.2 c1
      refine T_iload_n (i := 3) (pc' := 41) dX12_late_40 rfl rfl rfl ?_
      refine T_iconst (pc' := 42) dX12_late_41 (by decide) rfl ?_
      refine T_icmp_ne (pc' := 73) dX12_late_42 (by decide) (pf := 45) rfl (fun c2 => ?_) (fun c2 => ?_)
      · skip
        replace H := H.2 c2
        exact T_wk (L' := [(2, 66), (0, v1), (0, v2), (0, v3), (3, 0)]) (hK _ _ H hG) ⟨Or.inr rfl, Or.inr rfl, Or.inr rfl, Or.inr rfl, Or.inl rfl, trivial⟩
      · skip
        replace H := H.1 c2
        refine T_aload_n (i := 0) (pc' := 46) dX12_late_45 rfl rfl rfl ?_
        refine T_iload_n (i := 1) (pc' := 47) dX12_late_46 rfl rfl rfl ?_
        refine T_iconst (pc' := 48) dX12_late_47 (by decide) rfl ?_
        refine T_iload (i := 4) (pc' := 50) dX12_late_48 rfl rfl ?_
        obtain ⟨z3, H⟩ := H
        refine T_callV (av := [(0, v1), (0, 1), (0, v4)]) (st := []) (d2 := 1) (nc2 := 0) (ns2 := 0) (pc' := 53) dX12_late_50 rfl mtX12_makes mvX12_makes mlX12_473 cl12 rfl rfl rfl (Nat.le_of_ble_eq_true rfl) (by decide) ⟨by decide, by decide⟩ rfl (pX12_makes (E := E) (h := h) (M := M) (v1 := v1) (v2 := 1) (v3 := v4) z3 hG) (kF (st2 := []) rfl (fun hG4 => ?_))
        obtain ⟨M5, eM5⟩ : ∃ m : Mem, m = (fmX12_makes M v1 1 v4) := ⟨_, rfl⟩
        rw [← eM5] at hG4 ⊢
        replace H := H M5 eM5
        refine T_aload_n (i := 0) (pc' := 54) dX12_late_53 rfl rfl rfl ?_
        refine T_iload_n (i := 1) (pc' := 55) dX12_late_54 rfl rfl rfl ?_
        refine T_callV (av := [(0, v1)]) (st := []) (d2 := 7) (nc2 := 0) (ns2 := 0) (pc' := 58) dX12_late_55 rfl mtX12_isOpenThen mvX12_isOpenThen mlX12_511 cl12 rfl rfl rfl (Nat.le_of_ble_eq_true rfl) (by decide) ⟨by decide, by decide⟩ rfl (pX12_isOpenThen (E := E) (h := h) (M := M5) (v1 := v1) H hG4) ?_
        rintro _ _ M7 ⟨rfl, hG8, a6, rfl, H⟩ _
        have HJ9 : T E miX12_late 8 126 0 0 (fun r S M' => S = S0 ∧ G h M' ∧ RI 0 Q r M') 67 [(2, 66), (0, v1), (0, v2), (0, (if a6 = 0 then v3 else (wr32 (60 + v4)))), (0, v4)] [] S0 M7 0 0 := by
          refine T_iinc (L' := [(2, 66), (0, v1), (0, v2), (0, (if a6 = 0 then v3 else (wr32 (60 + v4)))), (0, (wr32 (v4 + (-1))))]) (pc' := 70) dX12_late_67 rfl (by decide) rfl rfl ?_
          refine T_goto (pc' := 33) dX12_late_70 (by decide) ?_
          exact T_wk (L' := [(2, 66), (0, v1), (0, v2), (0, (if a6 = 0 then v3 else (wr32 (60 + v4)))), (0, (wr32 (v4 + (-1))))]) (ih _ _ _ H hG8) ⟨Or.inr rfl, Or.inr rfl, Or.inr rfl, Or.inr rfl, Or.inr rfl, trivial⟩
        refine T_if_eq (pc' := 67) dX12_late_58 (by decide) (pf := 61) rfl (fun c10 => ?_) (fun c10 => ?_)
        · skip
          exact T_wk (L' := [(2, 66), (0, v1), (0, v2), (0, v3), (0, v4)]) (by have q := HJ9; try simp only [if_pos c10] at q ⊢; exact q) ⟨Or.inr rfl, Or.inr rfl, Or.inr rfl, Or.inr rfl, Or.inr rfl, trivial⟩
        · skip
          refine T_bipush (pc' := 63) dX12_late_61 rfl (by decide) rfl ?_
          refine T_iload (i := 4) (pc' := 65) dX12_late_63 rfl rfl ?_
          refine T_iadd (pc' := 66) dX12_late_65 rfl ?_
          refine T_istore_n (i := 3) (L' := [(2, 66), (0, v1), (0, v2), (0, (wr32 (60 + v4))), (0, v4)]) (pc' := 67) dX12_late_66 rfl (by decide) rfl rfl ?_
          exact T_wk (L' := [(2, 66), (0, v1), (0, v2), (0, (wr32 (60 + v4))), (0, v4)]) (by have q := HJ9; try simp only [if_neg c10] at q ⊢; exact q) ⟨Or.inr rfl, Or.inr rfl, Or.inr rfl, Or.inr rfl, Or.inr rfl, trivial⟩
set_option maxRecDepth 100000 in
set_option maxHeartbeats 2000000 in
theorem pX12_late {E : EV} {h : Int} {M : Mem} {v1 : Int}  {Q : Int → Mem → Prop} (H : PX12_late v1 M Q) : C2 E miX12_late 8 h [(2, 66), (0, v1)] M (RI 0 Q) := by
  refine C2_of (L := [(2, 66), (0, v1), (3, 0), (3, 0), (3, 0)]) (by decide +kernel) (Nat.le_of_ble_eq_true rfl) rfl (fun hG => ?_)
  refine T_aload_n (i := 0) (pc' := 1) dX12_late_0 rfl rfl rfl ?_
  refine T_iload_n (i := 1) (pc' := 2) dX12_late_1 rfl rfl rfl ?_
  refine T_callV (av := [(0, v1)]) (st := []) (d2 := 3) (nc2 := 0) (ns2 := 0) (pc' := 5) dX12_late_2 rfl mtX12_isComing mvX12_isComing mlX12_376 cl12 rfl rfl rfl (Nat.le_of_ble_eq_true rfl) (by decide) ⟨by decide, by decide⟩ rfl (pX12_isComing (E := E) (h := h) (M := M) (v1 := v1) hG) (kF (st2 := [(0, (fX12_isComing M v1))]) rfl (fun hG1 => ?_))
  refine T_if_eq (pc' := 18) dX12_late_5 (by decide) (pf := 8) rfl (fun c2 => ?_) (fun c2 => ?_)
  · skip
    replace H := H.1 c2
    refine T_iconst (pc' := 19) dX12_late_18 (by decide) rfl ?_
    exact T_iret dX12_late_19 rfl ⟨rfl, hG, _, rfl, H⟩
  · skip
    replace H := H.2 c2
    refine T_aload_n (i := 0) (pc' := 9) dX12_late_8 rfl rfl rfl ?_
    refine T_iload_n (i := 1) (pc' := 10) dX12_late_9 rfl rfl rfl ?_
    refine T_iconst (pc' := 11) dX12_late_10 (by decide) rfl ?_
    obtain ⟨z3, H⟩ := H
    refine T_callV (av := [(0, v1), (0, 4)]) (st := []) (d2 := 1) (nc2 := 0) (ns2 := 0) (pc' := 14) dX12_late_11 rfl mtX12_personOf mvX12_personOf mlX12_373 cl12 rfl rfl rfl (Nat.le_of_ble_eq_true rfl) (by decide) ⟨by decide, by decide⟩ rfl (pX12_personOf (E := E) (h := h) (M := M) (v1 := v1) (v2 := 4) z3 hG) (kF (st2 := [(0, (fX12_personOf M v1 4))]) rfl (fun hG4 => ?_))
    refine T_iconst (pc' := 15) dX12_late_14 (by decide) rfl ?_
    refine T_icmp_ne (pc' := 20) dX12_late_15 (by decide) (pf := 18) rfl (fun c5 => ?_) (fun c5 => ?_)
    · skip
      replace H := H.2 c5
      refine T_aload_n (i := 0) (pc' := 21) dX12_late_20 rfl rfl rfl ?_
      refine T_iload_n (i := 1) (pc' := 22) dX12_late_21 rfl rfl rfl ?_
      refine T_iconst (pc' := 23) dX12_late_22 (by decide) rfl ?_
      obtain ⟨z6, H⟩ := H
      refine T_callV (av := [(0, v1), (0, 1)]) (st := []) (d2 := 1) (nc2 := 0) (ns2 := 0) (pc' := 26) dX12_late_23 rfl mtX12_personOf mvX12_personOf mlX12_373 cl12 rfl rfl rfl (Nat.le_of_ble_eq_true rfl) (by decide) ⟨by decide, by decide⟩ rfl (pX12_personOf (E := E) (h := h) (M := M) (v1 := v1) (v2 := 1) z6 hG) (kF (st2 := [(0, (fX12_personOf M v1 1))]) rfl (fun hG7 => ?_))
      refine T_istore_n (i := 2) (L' := [(2, 66), (0, v1), (0, (fX12_personOf M v1 1)), (3, 0), (3, 0)]) (pc' := 27) dX12_late_26 rfl (by decide) rfl rfl ?_
      refine T_iconst (pc' := 28) dX12_late_27 (by decide) rfl ?_
      refine T_istore_n (i := 3) (L' := [(2, 66), (0, v1), (0, (fX12_personOf M v1 1)), (0, (-1)), (3, 0)]) (pc' := 29) dX12_late_28 rfl (by decide) rfl rfl ?_
      refine T_bipush (pc' := 31) dX12_late_29 rfl (by decide) rfl ?_
      refine T_istore (i := 4) (L' := [(2, 66), (0, v1), (0, (fX12_personOf M v1 1)), (0, (-1)), (0, 60)]) (pc' := 33) dX12_late_31 (by decide) rfl rfl ?_
      obtain ⟨k8, H⟩ := H
      refine T_wk (L' := [(2, 66), (0, v1), (0, (fX12_personOf M v1 1)), (0, (-1)), (0, 60)]) (qX12_late_33 (v1 := v1) (v2 := (fX12_personOf M v1 1)) (fun u9 M10 H hG11 => ?_) _ _ _ _ H hG) ⟨Or.inr rfl, Or.inr rfl, Or.inr rfl, Or.inr rfl, Or.inr rfl, trivial⟩
      refine T_aload_n (i := 0) (pc' := 74) dX12_late_73 rfl rfl rfl ?_
      refine T_iload_n (i := 1) (pc' := 75) dX12_late_74 rfl rfl rfl ?_
      refine T_iconst (pc' := 76) dX12_late_75 (by decide) rfl ?_
      refine T_iload_n (i := 2) (pc' := 77) dX12_late_76 rfl rfl rfl ?_
      obtain ⟨z12, H⟩ := H
      refine T_callV (av := [(0, v1), (0, 1), (0, (fX12_personOf M v1 1))]) (st := []) (d2 := 1) (nc2 := 0) (ns2 := 0) (pc' := 80) dX12_late_77 rfl mtX12_makes mvX12_makes mlX12_473 cl12 rfl rfl rfl (Nat.le_of_ble_eq_true rfl) (by decide) ⟨by decide, by decide⟩ rfl (pX12_makes (E := E) (h := h) (M := M10) (v1 := v1) (v2 := 1) (v3 := (fX12_personOf M v1 1)) z12 hG11) (kF (st2 := []) rfl (fun hG13 => ?_))
      obtain ⟨M14, eM14⟩ : ∃ m : Mem, m = (fmX12_makes M10 v1 1 (fX12_personOf M v1 1)) := ⟨_, rfl⟩
      rw [← eM14] at hG13 ⊢
      replace H := H M14 eM14
      refine T_iload_n (i := 3) (pc' := 81) dX12_late_80 rfl rfl rfl ?_
      exact T_iret dX12_late_81 rfl ⟨rfl, hG13, _, rfl, H⟩
    · skip
      replace H := H.1 c5
      refine T_iconst (pc' := 19) dX12_late_18 (by decide) rfl ?_
      exact T_iret dX12_late_19 rfl ⟨rfl, hG, _, rfl, H⟩
