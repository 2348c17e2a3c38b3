/-! methods as propositions, by program: what must hold that a run comes to its end with Q -/
abbrev RI (t : Nat) (Q : Int → Mem → Prop) : Option MV → Mem → Prop := fun r M => ∃ v : Int, r = some (t, v) ∧ Q v M
abbrev RV (Q : Int → Mem → Prop) : Option MV → Mem → Prop := fun r M => r = none ∧ Q 0 M
abbrev RR (x : Int) (Q : Int → Mem → Prop) : Option MV → Mem → Prop := fun r M => r = some (2, x) ∧ Q 0 M
def PX9_next_15  (K : Mem → Prop) (Q : Int → Mem → Prop) : Nat → Mem → Prop
  | 0 => fun _ => False
  | k + 1 => fun M => (((M 1 1) ≤ (M 3 2) → K M) ∧ (¬ ((M 1 1) ≤ (M 3 2)) → (((fX9_isBlank (fX8_byteAt M (M 3 2))) = 0 → K M) ∧ (¬ ((fX9_isBlank (fX8_byteAt M (M 3 2))) = 0) → (∀ M6 : Mem, M6 = (mset M 3 2 (wr32 ((M 3 2) + 1))) → PX9_next_15  K Q k M6)))))
def PX9_next_117  (K : Mem → Prop) (Q : Int → Mem → Prop) : Nat → Mem → Prop
  | 0 => fun _ => False
  | k + 1 => fun M => (((M 1 1) ≤ (M 3 3) → K M) ∧ (¬ ((M 1 1) ≤ (M 3 3)) → (((fX9_kindOf (fX8_byteAt M (M 3 3))) = (M 3 1) → (∀ M6 : Mem, M6 = (mset M 3 3 (wr32 ((M 3 3) + 1))) → PX9_next_117  K Q k M6)) ∧ (¬ ((fX9_kindOf (fX8_byteAt M (M 3 3))) = (M 3 1)) → K M))))
def PX9_next  (M : Mem) (Q : Int → Mem → Prop) : Prop :=
  (∀ M2 : Mem, M2 = (mset M 3 2 (M 3 3)) → (∃ k3 : Nat, PX9_next_15 (fun M4 => (∀ M9 : Mem, M9 = (mset M4 3 1 (fX9_kindOf (fX8_byteAt M4 (M4 3 2)))) → (∀ M12 : Mem, M12 = (mset M9 3 3 (if (M9 3 1) = 0 then (M9 3 2) else (wr32 ((M9 3 2) + 1)))) → (∃ j13 : Mem → Prop, (∀ (M14 : Mem), j13 M14 → (((M14 3 2) = (M 3 3) → (((M 3 1) = 1 → (((M14 3 1) = 2 → (∀ M24 : Mem, M24 = (mset M14 3 1 4) → Q 0 M24)) ∧ (¬ ((M14 3 1) = 2) → (((M 3 1) = 2 → (((M14 3 1) = 1 → (∀ M28 : Mem, M28 = (mset M14 3 1 4) → Q 0 M28)) ∧ (¬ ((M14 3 1) = 1) → Q 0 M14))) ∧ (¬ ((M 3 1) = 2) → Q 0 M14))))) ∧ (¬ ((M 3 1) = 1) → (((M 3 1) = 2 → (((M14 3 1) = 1 → (∀ M21 : Mem, M21 = (mset M14 3 1 4) → Q 0 M21)) ∧ (¬ ((M14 3 1) = 1) → Q 0 M14))) ∧ (¬ ((M 3 1) = 2) → Q 0 M14))))) ∧ (¬ ((M14 3 2) = (M 3 3)) → Q 0 M14))) ∧ (((M12 3 1) = 1 → (∃ k30 : Nat, PX9_next_117 (fun M31 => j13 M31) Q k30 M12)) ∧ (¬ ((M12 3 1) = 1) → (((M12 3 1) = 2 → (∃ k34 : Nat, PX9_next_117 (fun M35 => j13 M35) Q k34 M12)) ∧ (¬ ((M12 3 1) = 2) → j13 M12)))))))) Q k3 M2))
set_option maxRecDepth 100000 in
set_option maxHeartbeats 2000000 in
theorem qX9_next_15 {E : EV} {h : Int} {v1 : Int} {v2 : Int}  {K : Mem → Prop} {Q : Int → Mem → Prop} (hK : ∀ (M : Mem), K M → G h M → TG E miX9_next 2 h (RV Q) 59 [(2, 3), (0, v1), (0, v2)] [] M) : ∀ (k : Nat) (M : Mem), PX9_next_15  K Q k M → G h M → TG E miX9_next 2 h (RV Q) 15 [(2, 3), (0, v1), (0, v2)] [] M := by
  intro k
  induction k with
  | zero =>
    intro M H
    exact False.elim H
  | succ k ih =>
    intro M H hG
    refine T_aload_n (i := 0) (pc' := 16) dX9_next_15 rfl rfl rfl ?_
    refine U_gf (v := (0, (M 3 2))) (k := 2) (kI := 2) (pc' := 19) dX9_next_16 rfl cl9 (by decide) rfl (by decide) flX9_19 rfl rfl (by decide) rfl rfl ?_
    refine T_aload_n (i := 0) (pc' := 20) dX9_next_19 rfl rfl rfl ?_
    refine U_gr (q := 1) (k := 0) (kI := 0) (pc' := 23) dX9_next_20 rfl cl9 (by decide) rfl (by decide) flX9_9 rfl rfl rfl (G_at hG 10 rfl) (by decide) rfl ?_
    refine U_gfN (v := (0, (M 1 1))) (k := 1) (kI := 1) (pc' := 26) dX9_next_23 rfl cl8 (by decide) rfl (by decide) flX9_34 rfl rfl (by decide) rfl rfl ?_
    refine T_icmp_ge (pc' := 59) dX9_next_26 (by decide) (pf := 29) rfl (fun c1 => ?_) (fun c1 => ?_)
    · skip
      replace H := H.1 c1
      exact T_wk (L' := [(2, 3), (0, v1), (0, v2)]) (hK _ H hG) ⟨Or.inr rfl, Or.inr rfl, Or.inr rfl, trivial⟩
    · skip
      replace H := H.2 c1
      refine T_aload_n (i := 0) (pc' := 30) dX9_next_29 rfl rfl rfl ?_
      refine U_gr (q := 1) (k := 0) (kI := 0) (pc' := 33) dX9_next_30 rfl cl9 (by decide) rfl (by decide) flX9_9 rfl rfl rfl (G_at hG 10 rfl) (by decide) rfl ?_
      refine T_aload_n (i := 0) (pc' := 34) dX9_next_33 rfl rfl rfl ?_
      refine U_gf (v := (0, (M 3 2))) (k := 2) (kI := 2) (pc' := 37) dX9_next_34 rfl cl9 (by decide) rfl (by decide) flX9_19 rfl rfl (by decide) rfl rfl ?_
      refine T_callV (av := [(0, (M 3 2))]) (st := []) (d2 := 1) (nc2 := 0) (ns2 := 0) (pc' := 40) dX9_next_37 rfl mtX8_byteAt mvX8_byteAt mlX9_39 cl8 rfl rfl rfl (Nat.le_of_ble_eq_true rfl) (by decide) ⟨by decide, by decide⟩ rfl (pX8_byteAt (E := E) (h := h) (M := M) (v1 := (M 3 2)) hG) (kF (st2 := [(0, (fX8_byteAt M (M 3 2)))]) rfl (fun hG2 => ?_))
      refine T_callS (av := [(0, (fX8_byteAt M (M 3 2)))]) (st := []) (d2 := 1) (nc2 := 0) (ns2 := 0) (pc' := 43) dX9_next_40 rfl mtX9_isBlank mvX9_isBlank mlX9_43 rfl rfl (Nat.le_of_ble_eq_true rfl) (by decide) ⟨by decide, by decide⟩ rfl (pX9_isBlank (E := E) (h := h) (M := M) (v0 := (fX8_byteAt M (M 3 2))) hG) (kF (st2 := [(0, (fX9_isBlank (fX8_byteAt M (M 3 2))))]) rfl (fun hG3 => ?_))
      refine T_if_eq (pc' := 59) dX9_next_43 (by decide) (pf := 46) rfl (fun c4 => ?_) (fun c4 => ?_)
      · skip
        replace H := H.1 c4
        exact T_wk (L' := [(2, 3), (0, v1), (0, v2)]) (hK _ H hG) ⟨Or.inr rfl, Or.inr rfl, Or.inr rfl, trivial⟩
      · skip
        replace H := H.2 c4
        refine T_aload_n (i := 0) (pc' := 47) dX9_next_46 rfl rfl rfl ?_
        refine T_dup (pc' := 48) dX9_next_47 (Nat.ne_of_beq_eq_false rfl) rfl ?_
        refine U_gf (v := (0, (M 3 2))) (k := 2) (kI := 2) (pc' := 51) dX9_next_48 rfl cl9 (by decide) rfl (by decide) flX9_19 rfl rfl (by decide) rfl rfl ?_
        refine T_iconst (pc' := 52) dX9_next_51 (by decide) rfl ?_
        refine T_iadd (pc' := 53) dX9_next_52 rfl ?_
        refine U_pf (y := (wr32 ((M 3 2) + 1))) (k := 2) (kI := 2) (pc' := 56) dX9_next_53 rfl cl9 (by decide) rfl (by decide) flX9_19 rfl rfl rfl rfl rfl (by decide) (fun z => z) rfl ?_
        have hG5 := (G_fld (x := 3) (i := 2) (y := (wr32 ((M 3 2) + 1))) rfl (by decide) (by decide) (by decide) hG)
        obtain ⟨M6, eM6⟩ : ∃ m : Mem, m = (mset M 3 2 (wr32 ((M 3 2) + 1))) := ⟨_, rfl⟩
        rw [← eM6] at hG5 ⊢
        replace H := H M6 eM6
        refine T_goto (pc' := 15) dX9_next_56 (by decide) ?_
        exact T_wk (L' := [(2, 3), (0, v1), (0, v2)]) (ih _ H hG5) ⟨Or.inr rfl, Or.inr rfl, Or.inr rfl, trivial⟩
set_option maxRecDepth 100000 in
set_option maxHeartbeats 2000000 in
theorem qX9_next_117 {E : EV} {h : Int} {v1 : Int} {v2 : Int}  {K : Mem → Prop} {Q : Int → Mem → Prop} (hK : ∀ (M : Mem), K M → G h M → TG E miX9_next 2 h (RV Q) 165 [(2, 3), (0, v1), (0, v2)] [] M) : ∀ (k : Nat) (M : Mem), PX9_next_117  K Q k M → G h M → TG E miX9_next 2 h (RV Q) 117 [(2, 3), (0, v1), (0, v2)] [] M := by
  intro k
  induction k with
  | zero =>
    intro M H
    exact False.elim H
  | succ k ih =>
    intro M H hG
    refine T_aload_n (i := 0) (pc' := 118) dX9_next_117 rfl rfl rfl ?_
    refine U_gf (v := (0, (M 3 3))) (k := 3) (kI := 3) (pc' := 121) dX9_next_118 rfl cl9 (by decide) rfl (by decide) flX9_22 rfl rfl (by decide) rfl rfl ?_
    refine T_aload_n (i := 0) (pc' := 122) dX9_next_121 rfl rfl rfl ?_
    refine U_gr (q := 1) (k := 0) (kI := 0) (pc' := 125) dX9_next_122 rfl cl9 (by decide) rfl (by decide) flX9_9 rfl rfl rfl (G_at hG 10 rfl) (by decide) rfl ?_
    refine U_gfN (v := (0, (M 1 1))) (k := 1) (kI := 1) (pc' := 128) dX9_next_125 rfl cl8 (by decide) rfl (by decide) flX9_34 rfl rfl (by decide) rfl rfl ?_
    refine T_icmp_ge (pc' := 165) dX9_next_128 (by decide) (pf := 131) rfl (fun c1 => ?_) (fun c1 => ?_)
    · skip
      replace H := H.1 c1
      exact T_wk (L' := [(2, 3), (0, v1), (0, v2)]) (hK _ H hG) ⟨Or.inr rfl, Or.inr rfl, Or.inr rfl, trivial⟩
    · skip
      replace H := H.2 c1
      refine T_aload_n (i := 0) (pc' := 132) dX9_next_131 rfl rfl rfl ?_
      refine U_gr (q := 1) (k := 0) (kI := 0) (pc' := 135) dX9_next_132 rfl cl9 (by decide) rfl (by decide) flX9_9 rfl rfl rfl (G_at hG 10 rfl) (by decide) rfl ?_
      refine T_aload_n (i := 0) (pc' := 136) dX9_next_135 rfl rfl rfl ?_
      refine U_gf (v := (0, (M 3 3))) (k := 3) (kI := 3) (pc' := 139) dX9_next_136 rfl cl9 (by decide) rfl (by decide) flX9_22 rfl rfl (by decide) rfl rfl ?_
      refine T_callV (av := [(0, (M 3 3))]) (st := []) (d2 := 1) (nc2 := 0) (ns2 := 0) (pc' := 142) dX9_next_139 rfl mtX8_byteAt mvX8_byteAt mlX9_39 cl8 rfl rfl rfl (Nat.le_of_ble_eq_true rfl) (by decide) ⟨by decide, by decide⟩ rfl (pX8_byteAt (E := E) (h := h) (M := M) (v1 := (M 3 3)) hG) (kF (st2 := [(0, (fX8_byteAt M (M 3 3)))]) rfl (fun hG2 => ?_))
      refine T_callS (av := [(0, (fX8_byteAt M (M 3 3)))]) (st := []) (d2 := 1) (nc2 := 0) (ns2 := 0) (pc' := 145) dX9_next_142 rfl mtX9_kindOf mvX9_kindOf mlX9_47 rfl rfl (Nat.le_of_ble_eq_true rfl) (by decide) ⟨by decide, by decide⟩ rfl (pX9_kindOf (E := E) (h := h) (M := M) (v0 := (fX8_byteAt M (M 3 3))) hG) (kF (st2 := [(0, (fX9_kindOf (fX8_byteAt M (M 3 3))))]) rfl (fun hG3 => ?_))
      refine T_aload_n (i := 0) (pc' := 146) dX9_next_145 rfl rfl rfl ?_
      refine U_gf (v := (0, (M 3 1))) (k := 1) (kI := 1) (pc' := 149) dX9_next_146 rfl cl9 (by decide) rfl (by decide) flX9_15 rfl rfl (by decide) rfl rfl ?_
      refine T_icmp_ne (pc' := 165) dX9_next_149 (by decide) (pf := 152) rfl (fun c4 => ?_) (fun c4 => ?_)
      · skip
        replace H := H.2 c4
        exact T_wk (L' := [(2, 3), (0, v1), (0, v2)]) (hK _ H hG) ⟨Or.inr rfl, Or.inr rfl, Or.inr rfl, trivial⟩
      · skip
        replace H := H.1 c4
        refine T_aload_n (i := 0) (pc' := 153) dX9_next_152 rfl rfl rfl ?_
        refine T_dup (pc' := 154) dX9_next_153 (Nat.ne_of_beq_eq_false rfl) rfl ?_
        refine U_gf (v := (0, (M 3 3))) (k := 3) (kI := 3) (pc' := 157) dX9_next_154 rfl cl9 (by decide) rfl (by decide) flX9_22 rfl rfl (by decide) rfl rfl ?_
        refine T_iconst (pc' := 158) dX9_next_157 (by decide) rfl ?_
        refine T_iadd (pc' := 159) dX9_next_158 rfl ?_
        refine U_pf (y := (wr32 ((M 3 3) + 1))) (k := 3) (kI := 3) (pc' := 162) dX9_next_159 rfl cl9 (by decide) rfl (by decide) flX9_22 rfl rfl rfl rfl rfl (by decide) (fun z => z) rfl ?_
        have hG5 := (G_fld (x := 3) (i := 3) (y := (wr32 ((M 3 3) + 1))) rfl (by decide) (by decide) (by decide) hG)
        obtain ⟨M6, eM6⟩ : ∃ m : Mem, m = (mset M 3 3 (wr32 ((M 3 3) + 1))) := ⟨_, rfl⟩
        rw [← eM6] at hG5 ⊢
        replace H := H M6 eM6
        refine T_goto (pc' := 117) dX9_next_162 (by decide) ?_
        exact T_wk (L' := [(2, 3), (0, v1), (0, v2)]) (ih _ H hG5) ⟨Or.inr rfl, Or.inr rfl, Or.inr rfl, trivial⟩
set_option maxRecDepth 100000 in
set_option maxHeartbeats 2000000 in
theorem pX9_next {E : EV} {h : Int} {M : Mem}   {Q : Int → Mem → Prop} (H : PX9_next  M Q) : C2 E miX9_next 2 h [(2, 3)] M (RV Q) := by
  refine C2_of (L := [(2, 3), (3, 0), (3, 0)]) (by decide +kernel) (Nat.le_of_ble_eq_true rfl) rfl (fun hG => ?_)
  refine T_aload_n (i := 0) (pc' := 1) dX9_next_0 rfl rfl rfl ?_
  refine U_gf (v := (0, (M 3 1))) (k := 1) (kI := 1) (pc' := 4) dX9_next_1 rfl cl9 (by decide) rfl (by decide) flX9_15 rfl rfl (by decide) rfl rfl ?_
  refine T_istore_n (i := 1) (L' := [(2, 3), (0, (M 3 1)), (3, 0)]) (pc' := 5) dX9_next_4 rfl (by decide) rfl rfl ?_
  refine T_aload_n (i := 0) (pc' := 6) dX9_next_5 rfl rfl rfl ?_
  refine U_gf (v := (0, (M 3 3))) (k := 3) (kI := 3) (pc' := 9) dX9_next_6 rfl cl9 (by decide) rfl (by decide) flX9_22 rfl rfl (by decide) rfl rfl ?_
  refine T_istore_n (i := 2) (L' := [(2, 3), (0, (M 3 1)), (0, (M 3 3))]) (pc' := 10) dX9_next_9 rfl (by decide) rfl rfl ?_
  refine T_aload_n (i := 0) (pc' := 11) dX9_next_10 rfl rfl rfl ?_
  refine T_iload_n (i := 2) (pc' := 12) dX9_next_11 rfl rfl rfl ?_
  refine U_pf (y := (M 3 3)) (k := 2) (kI := 2) (pc' := 15) dX9_next_12 rfl cl9 (by decide) rfl (by decide) flX9_19 rfl rfl rfl rfl rfl (by decide) (fun z => z) rfl ?_
  have hG1 := (G_fld (x := 3) (i := 2) (y := (M 3 3)) rfl (by decide) (by decide) (by decide) hG)
  obtain ⟨M2, eM2⟩ : ∃ m : Mem, m = (mset M 3 2 (M 3 3)) := ⟨_, rfl⟩
  rw [← eM2] at hG1 ⊢
  replace H := H M2 eM2
  obtain ⟨k3, H⟩ := H
  refine T_wk (L' := [(2, 3), (0, (M 3 1)), (0, (M 3 3))]) (qX9_next_15 (v1 := (M 3 1)) (v2 := (M 3 3)) (fun M4 H hG5 => ?_) _ _ H hG1) ⟨Or.inr rfl, Or.inr rfl, Or.inr rfl, trivial⟩
  refine T_aload_n (i := 0) (pc' := 60) dX9_next_59 rfl rfl rfl ?_
  refine T_aload_n (i := 0) (pc' := 61) dX9_next_60 rfl rfl rfl ?_
  refine U_gr (q := 1) (k := 0) (kI := 0) (pc' := 64) dX9_next_61 rfl cl9 (by decide) rfl (by decide) flX9_9 rfl rfl rfl (G_at hG5 10 rfl) (by decide) rfl ?_
  refine T_aload_n (i := 0) (pc' := 65) dX9_next_64 rfl rfl rfl ?_
  refine U_gf (v := (0, (M4 3 2))) (k := 2) (kI := 2) (pc' := 68) dX9_next_65 rfl cl9 (by decide) rfl (by decide) flX9_19 rfl rfl (by decide) rfl rfl ?_
  refine T_callV (av := [(0, (M4 3 2))]) (st := [(2, 3)]) (d2 := 1) (nc2 := 0) (ns2 := 0) (pc' := 71) dX9_next_68 rfl mtX8_byteAt mvX8_byteAt mlX9_39 cl8 rfl rfl rfl (Nat.le_of_ble_eq_true rfl) (by decide) ⟨by decide, by decide⟩ rfl (pX8_byteAt (E := E) (h := h) (M := M4) (v1 := (M4 3 2)) hG5) (kF (st2 := [(0, (fX8_byteAt M4 (M4 3 2))), (2, 3)]) rfl (fun hG6 => ?_))
  refine T_callS (av := [(0, (fX8_byteAt M4 (M4 3 2)))]) (st := [(2, 3)]) (d2 := 1) (nc2 := 0) (ns2 := 0) (pc' := 74) dX9_next_71 rfl mtX9_kindOf mvX9_kindOf mlX9_47 rfl rfl (Nat.le_of_ble_eq_true rfl) (by decide) ⟨by decide, by decide⟩ rfl (pX9_kindOf (E := E) (h := h) (M := M4) (v0 := (fX8_byteAt M4 (M4 3 2))) hG5) (kF (st2 := [(0, (fX9_kindOf (fX8_byteAt M4 (M4 3 2)))), (2, 3)]) rfl (fun hG7 => ?_))
  refine U_pf (y := (fX9_kindOf (fX8_byteAt M4 (M4 3 2)))) (k := 1) (kI := 1) (pc' := 77) dX9_next_74 rfl cl9 (by decide) rfl (by decide) flX9_15 rfl rfl rfl rfl rfl (by decide) (fun z => z) rfl ?_
  have hG8 := (G_fld (x := 3) (i := 1) (y := (fX9_kindOf (fX8_byteAt M4 (M4 3 2)))) rfl (by decide) (by decide) (by decide) hG5)
  obtain ⟨M9, eM9⟩ : ∃ m : Mem, m = (mset M4 3 1 (fX9_kindOf (fX8_byteAt M4 (M4 3 2)))) := ⟨_, rfl⟩
  rw [← eM9] at hG8 ⊢
  replace H := H M9 eM9
  refine T_aload_n (i := 0) (pc' := 78) dX9_next_77 rfl rfl rfl ?_
  refine T_aload_n (i := 0) (pc' := 79) dX9_next_78 rfl rfl rfl ?_
  refine U_gf (v := (0, (M9 3 1))) (k := 1) (kI := 1) (pc' := 82) dX9_next_79 rfl cl9 (by decide) rfl (by decide) flX9_15 rfl rfl (by decide) rfl rfl ?_
  have HJ10 : T E miX9_next 2 126 0 0 (fun r S M' => S = S0 ∧ G h M' ∧ RV Q r M') 98 [(2, 3), (0, (M 3 1)), (0, (M 3 3))] [(0, (if (M9 3 1) = 0 then (M9 3 2) else (wr32 ((M9 3 2) + 1)))), (2, 3)] S0 M9 0 0 := by
    refine U_pf (y := (if (M9 3 1) = 0 then (M9 3 2) else (wr32 ((M9 3 2) + 1)))) (k := 3) (kI := 3) (pc' := 101) dX9_next_98 rfl cl9 (by decide) rfl (by decide) flX9_22 rfl rfl rfl rfl rfl (by decide) (fun z => z) rfl ?_
    have hG11 := (G_fld (x := 3) (i := 3) (y := (if (M9 3 1) = 0 then (M9 3 2) else (wr32 ((M9 3 2) + 1)))) rfl (by decide) (by decide) (by decide) hG8)
    obtain ⟨M12, eM12⟩ : ∃ m : Mem, m = (mset M9 3 3 (if (M9 3 1) = 0 then (M9 3 2) else (wr32 ((M9 3 2) + 1)))) := ⟨_, rfl⟩
    rw [← eM12] at hG11 ⊢
    replace H := H M12 eM12
    refine T_aload_n (i := 0) (pc' := 102) dX9_next_101 rfl rfl rfl ?_
    refine U_gf (v := (0, (M12 3 1))) (k := 1) (kI := 1) (pc' := 105) dX9_next_102 rfl cl9 (by decide) rfl (by decide) flX9_15 rfl rfl (by decide) rfl rfl ?_
    refine T_iconst (pc' := 106) dX9_next_105 (by decide) rfl ?_
    obtain ⟨j13, hj13, H⟩ := H
    have qj13 : ∀ (M14 : Mem), j13 M14 → G h M14 → TG E miX9_next 2 h (RV Q) 165 [(2, 3), (0, (M 3 1)), (0, (M 3 3))] [] M14 := by
      intro M14 H hG15
      replace H := hj13 _ H
      refine T_aload_n (i := 0) (pc' := 166) dX9_next_165 rfl rfl rfl ?_
      refine U_gf (v := (0, (M14 3 2))) (k := 2) (kI := 2) (pc' := 169) dX9_next_166 rfl cl9 (by decide) rfl (by decide) flX9_19 rfl rfl (by decide) rfl rfl ?_
      refine T_iload_n (i := 2) (pc' := 170) dX9_next_169 rfl rfl rfl ?_
      refine T_icmp_ne (pc' := 204) dX9_next_170 (by decide) (pf := 173) rfl (fun c16 => ?_) (fun c16 => ?_)
      · skip
        replace H := H.2 c16
        exact T_vret dX9_next_204 rfl ⟨rfl, hG15, rfl, H⟩
      · skip
        replace H := H.1 c16
        refine T_iload_n (i := 1) (pc' := 174) dX9_next_173 rfl rfl rfl ?_
        refine T_iconst (pc' := 175) dX9_next_174 (by decide) rfl ?_
        refine T_icmp_ne (pc' := 186) dX9_next_175 (by decide) (pf := 178) rfl (fun c17 => ?_) (fun c17 => ?_)
        · skip
          replace H := H.2 c17
          refine T_iload_n (i := 1) (pc' := 187) dX9_next_186 rfl rfl rfl ?_
          refine T_iconst (pc' := 188) dX9_next_187 (by decide) rfl ?_
          refine T_icmp_ne (pc' := 204) dX9_next_188 (by decide) (pf := 191) rfl (fun c18 => ?_) (fun c18 => ?_)
          · skip
            replace H := H.2 c18
            exact T_vret dX9_next_204 rfl ⟨rfl, hG15, rfl, H⟩
          · skip
            replace H := H.1 c18
            refine T_aload_n (i := 0) (pc' := 192) dX9_next_191 rfl rfl rfl ?_
            refine U_gf (v := (0, (M14 3 1))) (k := 1) (kI := 1) (pc' := 195) dX9_next_192 rfl cl9 (by decide) rfl (by decide) flX9_15 rfl rfl (by decide) rfl rfl ?_
            refine T_iconst (pc' := 196) dX9_next_195 (by decide) rfl ?_
            refine T_icmp_ne (pc' := 204) dX9_next_196 (by decide) (pf := 199) rfl (fun c19 => ?_) (fun c19 => ?_)
            · skip
              replace H := H.2 c19
              exact T_vret dX9_next_204 rfl ⟨rfl, hG15, rfl, H⟩
            · skip
              replace H := H.1 c19
              refine T_aload_n (i := 0) (pc' := 200) dX9_next_199 rfl rfl rfl ?_
              refine T_iconst (pc' := 201) dX9_next_200 (by decide) rfl ?_
              refine U_pf (y := 4) (k := 1) (kI := 1) (pc' := 204) dX9_next_201 rfl cl9 (by decide) rfl (by decide) flX9_15 rfl rfl rfl rfl rfl (by decide) (fun z => z) rfl ?_
              have hG20 := (G_fld (x := 3) (i := 1) (y := 4) rfl (by decide) (by decide) (by decide) hG15)
              obtain ⟨M21, eM21⟩ : ∃ m : Mem, m = (mset M14 3 1 4) := ⟨_, rfl⟩
              rw [← eM21] at hG20 ⊢
              replace H := H M21 eM21
              exact T_vret dX9_next_204 rfl ⟨rfl, hG20, rfl, H⟩
        · skip
          replace H := H.1 c17
          refine T_aload_n (i := 0) (pc' := 179) dX9_next_178 rfl rfl rfl ?_
          refine U_gf (v := (0, (M14 3 1))) (k := 1) (kI := 1) (pc' := 182) dX9_next_179 rfl cl9 (by decide) rfl (by decide) flX9_15 rfl rfl (by decide) rfl rfl ?_
          refine T_iconst (pc' := 183) dX9_next_182 (by decide) rfl ?_
          refine T_icmp_eq (pc' := 199) dX9_next_183 (by decide) (pf := 186) rfl (fun c22 => ?_) (fun c22 => ?_)
          · skip
            replace H := H.1 c22
            refine T_aload_n (i := 0) (pc' := 200) dX9_next_199 rfl rfl rfl ?_
            refine T_iconst (pc' := 201) dX9_next_200 (by decide) rfl ?_
            refine U_pf (y := 4) (k := 1) (kI := 1) (pc' := 204) dX9_next_201 rfl cl9 (by decide) rfl (by decide) flX9_15 rfl rfl rfl rfl rfl (by decide) (fun z => z) rfl ?_
            have hG23 := (G_fld (x := 3) (i := 1) (y := 4) rfl (by decide) (by decide) (by decide) hG15)
            obtain ⟨M24, eM24⟩ : ∃ m : Mem, m = (mset M14 3 1 4) := ⟨_, rfl⟩
            rw [← eM24] at hG23 ⊢
            replace H := H M24 eM24
            exact T_vret dX9_next_204 rfl ⟨rfl, hG23, rfl, H⟩
          · skip
            replace H := H.2 c22
            refine T_iload_n (i := 1) (pc' := 187) dX9_next_186 rfl rfl rfl ?_
            refine T_iconst (pc' := 188) dX9_next_187 (by decide) rfl ?_
            refine T_icmp_ne (pc' := 204) dX9_next_188 (by decide) (pf := 191) rfl (fun c25 => ?_) (fun c25 => ?_)
            · skip
              replace H := H.2 c25
              exact T_vret dX9_next_204 rfl ⟨rfl, hG15, rfl, H⟩
            · skip
              replace H := H.1 c25
              refine T_aload_n (i := 0) (pc' := 192) dX9_next_191 rfl rfl rfl ?_
              refine U_gf (v := (0, (M14 3 1))) (k := 1) (kI := 1) (pc' := 195) dX9_next_192 rfl cl9 (by decide) rfl (by decide) flX9_15 rfl rfl (by decide) rfl rfl ?_
              refine T_iconst (pc' := 196) dX9_next_195 (by decide) rfl ?_
              refine T_icmp_ne (pc' := 204) dX9_next_196 (by decide) (pf := 199) rfl (fun c26 => ?_) (fun c26 => ?_)
              · skip
                replace H := H.2 c26
                exact T_vret dX9_next_204 rfl ⟨rfl, hG15, rfl, H⟩
              · skip
                replace H := H.1 c26
                refine T_aload_n (i := 0) (pc' := 200) dX9_next_199 rfl rfl rfl ?_
                refine T_iconst (pc' := 201) dX9_next_200 (by decide) rfl ?_
                refine U_pf (y := 4) (k := 1) (kI := 1) (pc' := 204) dX9_next_201 rfl cl9 (by decide) rfl (by decide) flX9_15 rfl rfl rfl rfl rfl (by decide) (fun z => z) rfl ?_
                have hG27 := (G_fld (x := 3) (i := 1) (y := 4) rfl (by decide) (by decide) (by decide) hG15)
                obtain ⟨M28, eM28⟩ : ∃ m : Mem, m = (mset M14 3 1 4) := ⟨_, rfl⟩
                rw [← eM28] at hG27 ⊢
                replace H := H M28 eM28
                exact T_vret dX9_next_204 rfl ⟨rfl, hG27, rfl, H⟩
    refine T_icmp_eq (pc' := 117) dX9_next_106 (by decide) (pf := 109) rfl (fun c29 => ?_) (fun c29 => ?_)
    · skip
      replace H := H.1 c29
      obtain ⟨k30, H⟩ := H
      refine T_wk (L' := [(2, 3), (0, (M 3 1)), (0, (M 3 3))]) (qX9_next_117 (v1 := (M 3 1)) (v2 := (M 3 3)) (fun M31 H hG32 => ?_) _ _ H hG11) ⟨Or.inr rfl, Or.inr rfl, Or.inr rfl, trivial⟩
      exact T_wk (L' := [(2, 3), (0, (M 3 1)), (0, (M 3 3))]) (qj13 _ H hG32) ⟨Or.inr rfl, Or.inr rfl, Or.inr rfl, trivial⟩
    · skip
      replace H := H.2 c29
      refine T_aload_n (i := 0) (pc' := 110) dX9_next_109 rfl rfl rfl ?_
      refine U_gf (v := (0, (M12 3 1))) (k := 1) (kI := 1) (pc' := 113) dX9_next_110 rfl cl9 (by decide) rfl (by decide) flX9_15 rfl rfl (by decide) rfl rfl ?_
      refine T_iconst (pc' := 114) dX9_next_113 (by decide) rfl ?_
      refine T_icmp_ne (pc' := 165) dX9_next_114 (by decide) (pf := 117) rfl (fun c33 => ?_) (fun c33 => ?_)
      · skip
        replace H := H.2 c33
        exact T_wk (L' := [(2, 3), (0, (M 3 1)), (0, (M 3 3))]) (qj13 _ H hG11) ⟨Or.inr rfl, Or.inr rfl, Or.inr rfl, trivial⟩
      · skip
        replace H := H.1 c33
        obtain ⟨k34, H⟩ := H
        refine T_wk (L' := [(2, 3), (0, (M 3 1)), (0, (M 3 3))]) (qX9_next_117 (v1 := (M 3 1)) (v2 := (M 3 3)) (fun M35 H hG36 => ?_) _ _ H hG11) ⟨Or.inr rfl, Or.inr rfl, Or.inr rfl, trivial⟩
        exact T_wk (L' := [(2, 3), (0, (M 3 1)), (0, (M 3 3))]) (qj13 _ H hG36) ⟨Or.inr rfl, Or.inr rfl, Or.inr rfl, trivial⟩
  refine T_if_ne (pc' := 92) dX9_next_82 (by decide) (pf := 85) rfl (fun c37 => ?_) (fun c37 => ?_)
  · skip
    refine T_aload_n (i := 0) (pc' := 93) dX9_next_92 rfl rfl rfl ?_
    refine U_gf (v := (0, (M9 3 2))) (k := 2) (kI := 2) (pc' := 96) dX9_next_93 rfl cl9 (by decide) rfl (by decide) flX9_19 rfl rfl (by decide) rfl rfl ?_
    refine T_iconst (pc' := 97) dX9_next_96 (by decide) rfl ?_
    refine T_iadd (pc' := 98) dX9_next_97 rfl ?_
    exact T_wk (L' := [(2, 3), (0, (M 3 1)), (0, (M 3 3))]) (by have q := HJ10; try simp only [if_neg c37] at q ⊢; exact q) ⟨Or.inr rfl, Or.inr rfl, Or.inr rfl, trivial⟩
  · skip
    refine T_aload_n (i := 0) (pc' := 86) dX9_next_85 rfl rfl rfl ?_
    refine U_gf (v := (0, (M9 3 2))) (k := 2) (kI := 2) (pc' := 89) dX9_next_86 rfl cl9 (by decide) rfl (by decide) flX9_19 rfl rfl (by decide) rfl rfl ?_
    refine T_goto (pc' := 98) dX9_next_89 (by decide) ?_
    exact T_wk (L' := [(2, 3), (0, (M 3 1)), (0, (M 3 3))]) (by have q := HJ10; try simp only [if_pos c37] at q ⊢; exact q) ⟨Or.inr rfl, Or.inr rfl, Or.inr rfl, trivial⟩
def PX9_takeNumber_43  (K : Int → Mem → Prop) (Q : Int → Mem → Prop) : Nat → Int → Int → Mem → Prop
  | 0 => fun _ _ _ => False
  | k + 1 => fun v4 v5 M => (((fX9_letters M) ≤ v5 → K v4 M) ∧ (¬ ((fX9_letters M) ≤ v5) → PX9_takeNumber_43  K Q k (wr32 ((wr32 ((wr32 (10 * v4)) + (fX8_byteAt M (wr32 ((M 3 2) + v5))))) - 48)) (wr32 (v5 + 1)) M))
def PX9_takeNumber (v1 : Int) (v2 : Int) (v3 : Int) (M : Mem) (Q : Int → Mem → Prop) : Prop :=
  (((M 3 1) = 2 → (((fX9_letters M) ≤ 4 → (∃ k4 : Nat, PX9_takeNumber_43 (fun u5 M6 => ((u5 < v1 → (∀ M10 : Mem, M10 = (fmX9_fail M6 2 v3) → Q (-1) M10)) ∧ (¬ (u5 < v1) → ((u5 ≤ v2 → PX9_next M6 (fun _ M13 => Q u5 M13)) ∧ (¬ (u5 ≤ v2) → (∀ M16 : Mem, M16 = (fmX9_fail M6 2 v3) → Q (-1) M16)))))) Q k4 0 0 M)) ∧ (¬ ((fX9_letters M) ≤ 4) → (∀ M18 : Mem, M18 = (fmX9_fail M 1 (wr32 ((M 3 2) + 4))) → Q (-1) M18)))) ∧ (¬ ((M 3 1) = 2) → (∀ M20 : Mem, M20 = (fmX9_unasked M) → Q (-1) M20)))
set_option maxRecDepth 100000 in
set_option maxHeartbeats 2000000 in
theorem qX9_takeNumber_43 {E : EV} {h : Int} {v1 : Int} {v2 : Int} {v3 : Int}  {K : Int → Mem → Prop} {Q : Int → Mem → Prop} (hK : ∀ (v4 : Int) (M : Mem), K v4 M → G h M → TG E miX9_takeNumber 3 h (RI 0 Q) 83 [(2, 3), (0, v1), (0, v2), (0, v3), (0, v4), (3, 0)] [] M) : ∀ (k : Nat) (v4 v5 : Int) (M : Mem), PX9_takeNumber_43  K Q k v4 v5 M → G h M → TG E miX9_takeNumber 3 h (RI 0 Q) 43 [(2, 3), (0, v1), (0, v2), (0, v3), (0, v4), (0, v5)] [] M := by
  intro k
  induction k with
  | zero =>
    intro v4 v5 M H
    exact False.elim H
  | succ k ih =>
    intro v4 v5 M H hG
    refine T_iload (i := 5) (pc' := 45) dX9_takeNumber_43 rfl rfl ?_
    refine T_aload_n (i := 0) (pc' := 46) dX9_takeNumber_45 rfl rfl rfl ?_
    refine T_callV (av := []) (st := [(0, v5)]) (d2 := 1) (nc2 := 0) (ns2 := 0) (pc' := 49) dX9_takeNumber_46 rfl mtX9_letters mvX9_letters mlX9_63 cl9 rfl rfl rfl (Nat.le_of_ble_eq_true rfl) (by decide) ⟨by decide, by decide⟩ rfl (pX9_letters (E := E) (h := h) (M := M) hG) (kF (st2 := [(0, (fX9_letters M)), (0, v5)]) rfl (fun hG1 => ?_))
    refine T_icmp_ge (pc' := 83) dX9_takeNumber_49 (by decide) (pf := 52) rfl (fun c2 => ?_) (fun c2 => ?_)
    · skip
      replace H := H.1 c2
      exact T_wk (L' := [(2, 3), (0, v1), (0, v2), (0, v3), (0, v4), (3, 0)]) (hK _ _ H hG) ⟨Or.inr rfl, Or.inr rfl, Or.inr rfl, Or.inr rfl, Or.inr rfl, Or.inl rfl, trivial⟩
    · skip
      replace H := H.2 c2
      refine T_bipush (pc' := 54) dX9_takeNumber_52 rfl (by decide) rfl ?_
      refine T_iload (i := 4) (pc' := 56) dX9_takeNumber_54 rfl rfl ?_
      refine T_imul (pc' := 57) dX9_takeNumber_56 rfl ?_
      refine T_aload_n (i := 0) (pc' := 58) dX9_takeNumber_57 rfl rfl rfl ?_
      refine U_gr (q := 1) (k := 0) (kI := 0) (pc' := 61) dX9_takeNumber_58 rfl cl9 (by decide) rfl (by decide) flX9_9 rfl rfl rfl (G_at hG 10 rfl) (by decide) rfl ?_
      refine T_aload_n (i := 0) (pc' := 62) dX9_takeNumber_61 rfl rfl rfl ?_
      refine U_gf (v := (0, (M 3 2))) (k := 2) (kI := 2) (pc' := 65) dX9_takeNumber_62 rfl cl9 (by decide) rfl (by decide) flX9_19 rfl rfl (by decide) rfl rfl ?_
      refine T_iload (i := 5) (pc' := 67) dX9_takeNumber_65 rfl rfl ?_
      refine T_iadd (pc' := 68) dX9_takeNumber_67 rfl ?_
      refine T_callV (av := [(0, (wr32 ((M 3 2) + v5)))]) (st := [(0, (wr32 (10 * v4)))]) (d2 := 1) (nc2 := 0) (ns2 := 0) (pc' := 71) dX9_takeNumber_68 rfl mtX8_byteAt mvX8_byteAt mlX9_39 cl8 rfl rfl rfl (Nat.le_of_ble_eq_true rfl) (by decide) ⟨by decide, by decide⟩ rfl (pX8_byteAt (E := E) (h := h) (M := M) (v1 := (wr32 ((M 3 2) + v5))) hG) (kF (st2 := [(0, (fX8_byteAt M (wr32 ((M 3 2) + v5)))), (0, (wr32 (10 * v4)))]) rfl (fun hG3 => ?_))
      refine T_iadd (pc' := 72) dX9_takeNumber_71 rfl ?_
      refine T_bipush (pc' := 74) dX9_takeNumber_72 rfl (by decide) rfl ?_
      refine T_isub (pc' := 75) dX9_takeNumber_74 rfl ?_
      refine T_istore (i := 4) (L' := [(2, 3), (0, v1), (0, v2), (0, v3), (0, (wr32 ((wr32 ((wr32 (10 * v4)) + (fX8_byteAt M (wr32 ((M 3 2) + v5))))) - 48))), (0, v5)]) (pc' := 77) dX9_takeNumber_75 (by decide) rfl rfl ?_
      refine T_iinc (L' := [(2, 3), (0, v1), (0, v2), (0, v3), (0, (wr32 ((wr32 ((wr32 (10 * v4)) + (fX8_byteAt M (wr32 ((M 3 2) + v5))))) - 48))), (0, (wr32 (v5 + 1)))]) (pc' := 80) dX9_takeNumber_77 rfl (by decide) rfl rfl ?_
      refine T_goto (pc' := 43) dX9_takeNumber_80 (by decide) ?_
      exact T_wk (L' := [(2, 3), (0, v1), (0, v2), (0, v3), (0, (wr32 ((wr32 ((wr32 (10 * v4)) + (fX8_byteAt M (wr32 ((M 3 2) + v5))))) - 48))), (0, (wr32 (v5 + 1)))]) (ih _ _ _ H hG) ⟨Or.inr rfl, Or.inr rfl, Or.inr rfl, Or.inr rfl, Or.inr rfl, Or.inr rfl, trivial⟩
set_option maxRecDepth 100000 in
set_option maxHeartbeats 2000000 in
theorem pX9_takeNumber {E : EV} {h : Int} {M : Mem} {v1 : Int} {v2 : Int} {v3 : Int}  {Q : Int → Mem → Prop} (H : PX9_takeNumber v1 v2 v3 M Q) : C2 E miX9_takeNumber 3 h [(2, 3), (0, v1), (0, v2), (0, v3)] M (RI 0 Q) := by
  refine C2_of (L := [(2, 3), (0, v1), (0, v2), (0, v3), (3, 0), (3, 0)]) (by decide +kernel) (Nat.le_of_ble_eq_true rfl) rfl (fun hG => ?_)
  refine T_aload_n (i := 0) (pc' := 1) dX9_takeNumber_0 rfl rfl rfl ?_
  refine U_gf (v := (0, (M 3 1))) (k := 1) (kI := 1) (pc' := 4) dX9_takeNumber_1 rfl cl9 (by decide) rfl (by decide) flX9_15 rfl rfl (by decide) rfl rfl ?_
  refine T_iconst (pc' := 5) dX9_takeNumber_4 (by decide) rfl ?_
  refine T_icmp_eq (pc' := 15) dX9_takeNumber_5 (by decide) (pf := 8) rfl (fun c1 => ?_) (fun c1 => ?_)
  · skip
    replace H := H.1 c1
    refine T_aload_n (i := 0) (pc' := 16) dX9_takeNumber_15 rfl rfl rfl ?_
    refine T_callV (av := []) (st := []) (d2 := 1) (nc2 := 0) (ns2 := 0) (pc' := 19) dX9_takeNumber_16 rfl mtX9_letters mvX9_letters mlX9_63 cl9 rfl rfl rfl (Nat.le_of_ble_eq_true rfl) (by decide) ⟨by decide, by decide⟩ rfl (pX9_letters (E := E) (h := h) (M := M) hG) (kF (st2 := [(0, (fX9_letters M))]) rfl (fun hG2 => ?_))
    refine T_iconst (pc' := 20) dX9_takeNumber_19 (by decide) rfl ?_
    refine T_icmp_le (pc' := 37) dX9_takeNumber_20 (by decide) (pf := 23) rfl (fun c3 => ?_) (fun c3 => ?_)
    · skip
      replace H := H.1 c3
      refine T_iconst (pc' := 38) dX9_takeNumber_37 (by decide) rfl ?_
      refine T_istore (i := 4) (L' := [(2, 3), (0, v1), (0, v2), (0, v3), (0, 0), (3, 0)]) (pc' := 40) dX9_takeNumber_38 (by decide) rfl rfl ?_
      refine T_iconst (pc' := 41) dX9_takeNumber_40 (by decide) rfl ?_
      refine T_istore (i := 5) (L' := [(2, 3), (0, v1), (0, v2), (0, v3), (0, 0), (0, 0)]) (pc' := 43) dX9_takeNumber_41 (by decide) rfl rfl ?_
      obtain ⟨k4, H⟩ := H
      refine T_wk (L' := [(2, 3), (0, v1), (0, v2), (0, v3), (0, 0), (0, 0)]) (qX9_takeNumber_43 (v1 := v1) (v2 := v2) (v3 := v3) (fun u5 M6 H hG7 => ?_) _ _ _ _ H hG) ⟨Or.inr rfl, Or.inr rfl, Or.inr rfl, Or.inr rfl, Or.inr rfl, Or.inr rfl, trivial⟩
      refine T_iload (i := 4) (pc' := 85) dX9_takeNumber_83 rfl rfl ?_
      refine T_iload_n (i := 1) (pc' := 86) dX9_takeNumber_85 rfl rfl rfl ?_
      refine T_icmp_lt (pc' := 95) dX9_takeNumber_86 (by decide) (pf := 89) rfl (fun c8 => ?_) (fun c8 => ?_)
      · skip
        replace H := H.1 c8
        refine T_aload_n (i := 0) (pc' := 96) dX9_takeNumber_95 rfl rfl rfl ?_
        refine T_iconst (pc' := 97) dX9_takeNumber_96 (by decide) rfl ?_
        refine T_iload_n (i := 3) (pc' := 98) dX9_takeNumber_97 rfl rfl rfl ?_
        refine T_callV (av := [(0, 2), (0, v3)]) (st := []) (d2 := 1) (nc2 := 0) (ns2 := 0) (pc' := 101) dX9_takeNumber_98 rfl mtX9_fail mvX9_fail mlX9_50 cl9 rfl rfl rfl (Nat.le_of_ble_eq_true rfl) (by decide) ⟨by decide, by decide⟩ rfl (pX9_fail (E := E) (h := h) (M := M6) (v1 := 2) (v2 := v3) hG7) (kF (st2 := [(0, fX9_fail)]) rfl (fun hG9 => ?_))
        obtain ⟨M10, eM10⟩ : ∃ m : Mem, m = (fmX9_fail M6 2 v3) := ⟨_, rfl⟩
        rw [← eM10] at hG9 ⊢
        replace H := H M10 eM10
        refine T_pop (pc' := 102) dX9_takeNumber_101 (Nat.ne_of_beq_eq_false rfl) rfl ?_
        refine T_iconst (pc' := 103) dX9_takeNumber_102 (by decide) rfl ?_
        exact T_iret dX9_takeNumber_103 rfl ⟨rfl, hG9, _, rfl, H⟩
      · skip
        replace H := H.2 c8
        refine T_iload (i := 4) (pc' := 91) dX9_takeNumber_89 rfl rfl ?_
        refine T_iload_n (i := 2) (pc' := 92) dX9_takeNumber_91 rfl rfl rfl ?_
        refine T_icmp_le (pc' := 104) dX9_takeNumber_92 (by decide) (pf := 95) rfl (fun c11 => ?_) (fun c11 => ?_)
        · skip
          replace H := H.1 c11
          refine T_aload_n (i := 0) (pc' := 105) dX9_takeNumber_104 rfl rfl rfl ?_
          refine T_callV (av := []) (st := []) (d2 := 2) (nc2 := 0) (ns2 := 0) (pc' := 108) dX9_takeNumber_105 rfl mtX9_next mvX9_next mlX9_31 cl9 rfl rfl rfl (Nat.le_of_ble_eq_true rfl) (by decide) ⟨by decide, by decide⟩ rfl (pX9_next (E := E) (h := h) (M := M6) H hG7) ?_
          rintro _ _ M13 ⟨rfl, hG14, rfl, H⟩ _
          refine T_iload (i := 4) (pc' := 110) dX9_takeNumber_108 rfl rfl ?_
          exact T_iret dX9_takeNumber_110 rfl ⟨rfl, hG14, _, rfl, H⟩
        · skip
          replace H := H.2 c11
          refine T_aload_n (i := 0) (pc' := 96) dX9_takeNumber_95 rfl rfl rfl ?_
          refine T_iconst (pc' := 97) dX9_takeNumber_96 (by decide) rfl ?_
          refine T_iload_n (i := 3) (pc' := 98) dX9_takeNumber_97 rfl rfl rfl ?_
          refine T_callV (av := [(0, 2), (0, v3)]) (st := []) (d2 := 1) (nc2 := 0) (ns2 := 0) (pc' := 101) dX9_takeNumber_98 rfl mtX9_fail mvX9_fail mlX9_50 cl9 rfl rfl rfl (Nat.le_of_ble_eq_true rfl) (by decide) ⟨by decide, by decide⟩ rfl (pX9_fail (E := E) (h := h) (M := M6) (v1 := 2) (v2 := v3) hG7) (kF (st2 := [(0, fX9_fail)]) rfl (fun hG15 => ?_))
          obtain ⟨M16, eM16⟩ : ∃ m : Mem, m = (fmX9_fail M6 2 v3) := ⟨_, rfl⟩
          rw [← eM16] at hG15 ⊢
          replace H := H M16 eM16
          refine T_pop (pc' := 102) dX9_takeNumber_101 (Nat.ne_of_beq_eq_false rfl) rfl ?_
          refine T_iconst (pc' := 103) dX9_takeNumber_102 (by decide) rfl ?_
          exact T_iret dX9_takeNumber_103 rfl ⟨rfl, hG15, _, rfl, H⟩
    · skip
      replace H := H.2 c3
      refine T_aload_n (i := 0) (pc' := 24) dX9_takeNumber_23 rfl rfl rfl ?_
      refine T_iconst (pc' := 25) dX9_takeNumber_24 (by decide) rfl ?_
      refine T_aload_n (i := 0) (pc' := 26) dX9_takeNumber_25 rfl rfl rfl ?_
      refine U_gf (v := (0, (M 3 2))) (k := 2) (kI := 2) (pc' := 29) dX9_takeNumber_26 rfl cl9 (by decide) rfl (by decide) flX9_19 rfl rfl (by decide) rfl rfl ?_
      refine T_iconst (pc' := 30) dX9_takeNumber_29 (by decide) rfl ?_
      refine T_iadd (pc' := 31) dX9_takeNumber_30 rfl ?_
      refine T_callV (av := [(0, 1), (0, (wr32 ((M 3 2) + 4)))]) (st := []) (d2 := 1) (nc2 := 0) (ns2 := 0) (pc' := 34) dX9_takeNumber_31 rfl mtX9_fail mvX9_fail mlX9_50 cl9 rfl rfl rfl (Nat.le_of_ble_eq_true rfl) (by decide) ⟨by decide, by decide⟩ rfl (pX9_fail (E := E) (h := h) (M := M) (v1 := 1) (v2 := (wr32 ((M 3 2) + 4))) hG) (kF (st2 := [(0, fX9_fail)]) rfl (fun hG17 => ?_))
      obtain ⟨M18, eM18⟩ : ∃ m : Mem, m = (fmX9_fail M 1 (wr32 ((M 3 2) + 4))) := ⟨_, rfl⟩
      rw [← eM18] at hG17 ⊢
      replace H := H M18 eM18
      refine T_pop (pc' := 35) dX9_takeNumber_34 (Nat.ne_of_beq_eq_false rfl) rfl ?_
      refine T_iconst (pc' := 36) dX9_takeNumber_35 (by decide) rfl ?_
      exact T_iret dX9_takeNumber_36 rfl ⟨rfl, hG17, _, rfl, H⟩
  · skip
    replace H := H.2 c1
    refine T_aload_n (i := 0) (pc' := 9) dX9_takeNumber_8 rfl rfl rfl ?_
    refine T_callV (av := []) (st := []) (d2 := 2) (nc2 := 0) (ns2 := 0) (pc' := 12) dX9_takeNumber_9 rfl mtX9_unasked mvX9_unasked mlX9_70 cl9 rfl rfl rfl (Nat.le_of_ble_eq_true rfl) (by decide) ⟨by decide, by decide⟩ rfl (pX9_unasked (E := E) (h := h) (M := M) hG) (kF (st2 := [(0, fX9_unasked)]) rfl (fun hG19 => ?_))
    obtain ⟨M20, eM20⟩ : ∃ m : Mem, m = (fmX9_unasked M) := ⟨_, rfl⟩
    rw [← eM20] at hG19 ⊢
    replace H := H M20 eM20
    refine T_pop (pc' := 13) dX9_takeNumber_12 (Nat.ne_of_beq_eq_false rfl) rfl ?_
    refine T_iconst (pc' := 14) dX9_takeNumber_13 (by decide) rfl ?_
    exact T_iret dX9_takeNumber_14 rfl ⟨rfl, hG19, _, rfl, H⟩
def PX2_takeCell (g : Int) (v2 : Int) (M : Mem) (Q : Int → Mem → Prop) : Prop :=
  PX9_takeNumber 0 (wr32 ((M g 9) - 1)) (M 3 2) M (fun a1 M2 => ((a1 = (-1) → Q (-1) M2) ∧ (¬ (a1 = (-1)) → PX9_takeNumber 0 (wr32 ((M2 g 10) - 1)) (M2 3 2) M2 (fun a5 M6 => ((a5 = (-1) → Q (-1) M6) ∧ (¬ (a5 = (-1)) → (((fX2_mayStand M6 g v2 (wr32 ((wr32 (a5 * (M6 g 9))) + a1))) = 0 → (∀ M12 : Mem, M12 = (fmX9_fail M6 2 (M2 3 2)) → Q (-1) M12)) ∧ (¬ ((fX2_mayStand M6 g v2 (wr32 ((wr32 (a5 * (M6 g 9))) + a1))) = 0) → Q (wr32 ((wr32 (a5 * (M6 g 9))) + a1)) M6))))))))
set_option maxRecDepth 100000 in
set_option maxHeartbeats 2000000 in
theorem pX2_takeCell {E : EV} {h : Int} {M : Mem} {g : Int} {v2 : Int} (hg : isG g) {Q : Int → Mem → Prop} (H : PX2_takeCell g v2 M Q) : C2 E miX2_takeCell 4 h [(2, 4), (2, g), (0, v2)] M (RI 0 Q) := by
  refine C2_of (L := [(2, 4), (2, g), (0, v2), (3, 0), (3, 0), (3, 0), (3, 0)]) (by decide +kernel) (Nat.le_of_ble_eq_true rfl) rfl (fun hG => ?_)
  refine T_aload_n (i := 0) (pc' := 1) dX2_takeCell_0 rfl rfl rfl ?_
  refine U_gr (q := 3) (k := 0) (kI := 0) (pc' := 4) dX2_takeCell_1 rfl cl2 (by decide) rfl (by decide) flX2_9 rfl rfl rfl (G_at hG 11 rfl) (by decide) rfl ?_
  refine T_iconst (pc' := 5) dX2_takeCell_4 (by decide) rfl ?_
  refine T_aload_n (i := 1) (pc' := 6) dX2_takeCell_5 rfl rfl rfl ?_
  refine U_gfN (v := (0, (M g 9))) (k := 9) (kI := 9) (pc' := 9) dX2_takeCell_6 rfl cl1 (pog0 hg) (shg0 hg) (by decide) flX2_111 rfl rfl (by decide) rfl rfl ?_
  refine T_iconst (pc' := 10) dX2_takeCell_9 (by decide) rfl ?_
  refine T_isub (pc' := 11) dX2_takeCell_10 rfl ?_
  refine T_aload_n (i := 0) (pc' := 12) dX2_takeCell_11 rfl rfl rfl ?_
  refine U_gr (q := 3) (k := 0) (kI := 0) (pc' := 15) dX2_takeCell_12 rfl cl2 (by decide) rfl (by decide) flX2_9 rfl rfl rfl (G_at hG 11 rfl) (by decide) rfl ?_
  refine U_gfN (v := (0, (M 3 2))) (k := 2) (kI := 2) (pc' := 18) dX2_takeCell_15 rfl cl9 (by decide) rfl (by decide) flX2_36 rfl rfl (by decide) rfl rfl ?_
  refine T_callV (av := [(0, 0), (0, (wr32 ((M g 9) - 1))), (0, (M 3 2))]) (st := []) (d2 := 3) (nc2 := 0) (ns2 := 0) (pc' := 21) dX2_takeCell_18 rfl mtX9_takeNumber mvX9_takeNumber mlX2_107 cl9 rfl rfl rfl (Nat.le_of_ble_eq_true rfl) (by decide) ⟨by decide, by decide⟩ rfl (pX9_takeNumber (E := E) (h := h) (M := M) (v1 := 0) (v2 := (wr32 ((M g 9) - 1))) (v3 := (M 3 2)) H hG) ?_
  rintro _ _ M2 ⟨rfl, hG3, a1, rfl, H⟩ _
  refine T_istore_n (i := 3) (L' := [(2, 4), (2, g), (0, v2), (0, a1), (3, 0), (3, 0), (3, 0)]) (pc' := 22) dX2_takeCell_21 rfl (by decide) rfl rfl ?_
  refine T_iload_n (i := 3) (pc' := 23) dX2_takeCell_22 rfl rfl rfl ?_
  refine T_iconst (pc' := 24) dX2_takeCell_23 (by decide) rfl ?_
  refine T_icmp_ne (pc' := 29) dX2_takeCell_24 (by decide) (pf := 27) rfl (fun c4 => ?_) (fun c4 => ?_)
  · skip
    replace H := H.2 c4
    refine T_aload_n (i := 0) (pc' := 30) dX2_takeCell_29 rfl rfl rfl ?_
    refine U_gr (q := 3) (k := 0) (kI := 0) (pc' := 33) dX2_takeCell_30 rfl cl2 (by decide) rfl (by decide) flX2_9 rfl rfl rfl (G_at hG3 11 rfl) (by decide) rfl ?_
    refine U_gfN (v := (0, (M2 3 2))) (k := 2) (kI := 2) (pc' := 36) dX2_takeCell_33 rfl cl9 (by decide) rfl (by decide) flX2_36 rfl rfl (by decide) rfl rfl ?_
    refine T_istore (i := 4) (L' := [(2, 4), (2, g), (0, v2), (0, a1), (0, (M2 3 2)), (3, 0), (3, 0)]) (pc' := 38) dX2_takeCell_36 (by decide) rfl rfl ?_
    refine T_aload_n (i := 0) (pc' := 39) dX2_takeCell_38 rfl rfl rfl ?_
    refine U_gr (q := 3) (k := 0) (kI := 0) (pc' := 42) dX2_takeCell_39 rfl cl2 (by decide) rfl (by decide) flX2_9 rfl rfl rfl (G_at hG3 11 rfl) (by decide) rfl ?_
    refine T_iconst (pc' := 43) dX2_takeCell_42 (by decide) rfl ?_
    refine T_aload_n (i := 1) (pc' := 44) dX2_takeCell_43 rfl rfl rfl ?_
    refine U_gfN (v := (0, (M2 g 10))) (k := 10) (kI := 10) (pc' := 47) dX2_takeCell_44 rfl cl1 (pog0 hg) (shg0 hg) (by decide) flX2_114 rfl rfl (by decide) rfl rfl ?_
    refine T_iconst (pc' := 48) dX2_takeCell_47 (by decide) rfl ?_
    refine T_isub (pc' := 49) dX2_takeCell_48 rfl ?_
    refine T_iload (i := 4) (pc' := 51) dX2_takeCell_49 rfl rfl ?_
    refine T_callV (av := [(0, 0), (0, (wr32 ((M2 g 10) - 1))), (0, (M2 3 2))]) (st := []) (d2 := 3) (nc2 := 0) (ns2 := 0) (pc' := 54) dX2_takeCell_51 rfl mtX9_takeNumber mvX9_takeNumber mlX2_107 cl9 rfl rfl rfl (Nat.le_of_ble_eq_true rfl) (by decide) ⟨by decide, by decide⟩ rfl (pX9_takeNumber (E := E) (h := h) (M := M2) (v1 := 0) (v2 := (wr32 ((M2 g 10) - 1))) (v3 := (M2 3 2)) H hG3) ?_
    rintro _ _ M6 ⟨rfl, hG7, a5, rfl, H⟩ _
    refine T_istore (i := 5) (L' := [(2, 4), (2, g), (0, v2), (0, a1), (0, (M2 3 2)), (0, a5), (3, 0)]) (pc' := 56) dX2_takeCell_54 (by decide) rfl rfl ?_
    refine T_iload (i := 5) (pc' := 58) dX2_takeCell_56 rfl rfl ?_
    refine T_iconst (pc' := 59) dX2_takeCell_58 (by decide) rfl ?_
    refine T_icmp_ne (pc' := 64) dX2_takeCell_59 (by decide) (pf := 62) rfl (fun c8 => ?_) (fun c8 => ?_)
    · skip
      replace H := H.2 c8
      refine T_iload (i := 5) (pc' := 66) dX2_takeCell_64 rfl rfl ?_
      refine T_aload_n (i := 1) (pc' := 67) dX2_takeCell_66 rfl rfl rfl ?_
      refine U_gfN (v := (0, (M6 g 9))) (k := 9) (kI := 9) (pc' := 70) dX2_takeCell_67 rfl cl1 (pog0 hg) (shg0 hg) (by decide) flX2_111 rfl rfl (by decide) rfl rfl ?_
      refine T_imul (pc' := 71) dX2_takeCell_70 rfl ?_
      refine T_iload_n (i := 3) (pc' := 72) dX2_takeCell_71 rfl rfl rfl ?_
      refine T_iadd (pc' := 73) dX2_takeCell_72 rfl ?_
      refine T_istore (i := 6) (L' := [(2, 4), (2, g), (0, v2), (0, a1), (0, (M2 3 2)), (0, a5), (0, (wr32 ((wr32 (a5 * (M6 g 9))) + a1)))]) (pc' := 75) dX2_takeCell_73 (by decide) rfl rfl ?_
      refine T_aload_n (i := 1) (pc' := 76) dX2_takeCell_75 rfl rfl rfl ?_
      refine T_iload_n (i := 2) (pc' := 77) dX2_takeCell_76 rfl rfl rfl ?_
      refine T_iload (i := 6) (pc' := 79) dX2_takeCell_77 rfl rfl ?_
      refine T_callS (av := [(2, g), (0, v2), (0, (wr32 ((wr32 (a5 * (M6 g 9))) + a1)))]) (st := []) (d2 := 3) (nc2 := 0) (ns2 := 0) (pc' := 82) dX2_takeCell_79 rfl mtX2_mayStand mvX2_mayStand mlX2_129 rfl rfl (Nat.le_of_ble_eq_true rfl) (by decide) ⟨by decide, by decide⟩ rfl (pX2_mayStand (E := E) (h := h) (M := M6) (g := g) (v1 := v2) (v2 := (wr32 ((wr32 (a5 * (M6 g 9))) + a1))) hg hG7) (kF (st2 := [(0, (fX2_mayStand M6 g v2 (wr32 ((wr32 (a5 * (M6 g 9))) + a1))))]) rfl (fun hG9 => ?_))
      refine T_if_ne (pc' := 98) dX2_takeCell_82 (by decide) (pf := 85) rfl (fun c10 => ?_) (fun c10 => ?_)
      · skip
        replace H := H.2 c10
        refine T_iload (i := 6) (pc' := 100) dX2_takeCell_98 rfl rfl ?_
        exact T_iret dX2_takeCell_100 rfl ⟨rfl, hG7, _, rfl, H⟩
      · skip
        replace H := H.1 c10
        refine T_aload_n (i := 0) (pc' := 86) dX2_takeCell_85 rfl rfl rfl ?_
        refine U_gr (q := 3) (k := 0) (kI := 0) (pc' := 89) dX2_takeCell_86 rfl cl2 (by decide) rfl (by decide) flX2_9 rfl rfl rfl (G_at hG7 11 rfl) (by decide) rfl ?_
        refine T_iconst (pc' := 90) dX2_takeCell_89 (by decide) rfl ?_
        refine T_iload (i := 4) (pc' := 92) dX2_takeCell_90 rfl rfl ?_
        refine T_callV (av := [(0, 2), (0, (M2 3 2))]) (st := []) (d2 := 1) (nc2 := 0) (ns2 := 0) (pc' := 95) dX2_takeCell_92 rfl mtX9_fail mvX9_fail mlX2_39 cl9 rfl rfl rfl (Nat.le_of_ble_eq_true rfl) (by decide) ⟨by decide, by decide⟩ rfl (pX9_fail (E := E) (h := h) (M := M6) (v1 := 2) (v2 := (M2 3 2)) hG7) (kF (st2 := [(0, fX9_fail)]) rfl (fun hG11 => ?_))
        obtain ⟨M12, eM12⟩ : ∃ m : Mem, m = (fmX9_fail M6 2 (M2 3 2)) := ⟨_, rfl⟩
        rw [← eM12] at hG11 ⊢
        replace H := H M12 eM12
        refine T_pop (pc' := 96) dX2_takeCell_95 (Nat.ne_of_beq_eq_false rfl) rfl ?_
        refine T_iconst (pc' := 97) dX2_takeCell_96 (by decide) rfl ?_
        exact T_iret dX2_takeCell_97 rfl ⟨rfl, hG11, _, rfl, H⟩
    · skip
      replace H := H.1 c8
      refine T_iconst (pc' := 63) dX2_takeCell_62 (by decide) rfl ?_
      exact T_iret dX2_takeCell_63 rfl ⟨rfl, hG7, _, rfl, H⟩
  · skip
    replace H := H.1 c4
    refine T_iconst (pc' := 28) dX2_takeCell_27 (by decide) rfl ?_
    exact T_iret dX2_takeCell_28 rfl ⟨rfl, hG3, _, rfl, H⟩
def PX2_takeDoor (g : Int) (M : Mem) (Q : Int → Mem → Prop) : Prop :=
  PX2_takeCell g 2 M (fun a1 M2 => ((a1 = (-1) → Q 0 M2) ∧ (¬ (a1 = (-1)) → (∀ M6 : Mem, M6 = (fmX11_put M2 (g + 10) 6 (M2 g 12) a1) → (∀ M8 : Mem, M8 = (fmX11_put M6 (g + 11) 6 (M6 g 12) 0) → (∀ M10 : Mem, M10 = (mset M8 g 12 (wr32 ((M8 g 12) + 1))) → Q 1 M10))))))
set_option maxRecDepth 100000 in
set_option maxHeartbeats 2000000 in
theorem pX2_takeDoor {E : EV} {h : Int} {M : Mem} {g : Int} (hg : isG g) {Q : Int → Mem → Prop} (H : PX2_takeDoor g M Q) : C2 E miX2_takeDoor 5 h [(2, 4), (2, g)] M (RI 0 Q) := by
  refine C2_of (L := [(2, 4), (2, g), (3, 0)]) (by decide +kernel) (Nat.le_of_ble_eq_true rfl) rfl (fun hG => ?_)
  refine T_aload_n (i := 0) (pc' := 1) dX2_takeDoor_0 rfl rfl rfl ?_
  refine T_aload_n (i := 1) (pc' := 2) dX2_takeDoor_1 rfl rfl rfl ?_
  refine T_iconst (pc' := 3) dX2_takeDoor_2 (by decide) rfl ?_
  refine T_callV (av := [(2, g), (0, 2)]) (st := []) (d2 := 4) (nc2 := 0) (ns2 := 0) (pc' := 6) dX2_takeDoor_3 rfl mtX2_takeCell mvX2_takeCell mlX2_144 cl2 rfl rfl rfl (Nat.le_of_ble_eq_true rfl) (by decide) ⟨by decide, by decide⟩ rfl (pX2_takeCell (E := E) (h := h) (M := M) (g := g) (v2 := 2) hg H hG) ?_
  rintro _ _ M2 ⟨rfl, hG3, a1, rfl, H⟩ _
  refine T_istore_n (i := 2) (L' := [(2, 4), (2, g), (0, a1)]) (pc' := 7) dX2_takeDoor_6 rfl (by decide) rfl rfl ?_
  refine T_iload_n (i := 2) (pc' := 8) dX2_takeDoor_7 rfl rfl rfl ?_
  refine T_iconst (pc' := 9) dX2_takeDoor_8 (by decide) rfl ?_
  refine T_icmp_ne (pc' := 14) dX2_takeDoor_9 (by decide) (pf := 12) rfl (fun c4 => ?_) (fun c4 => ?_)
  · skip
    replace H := H.2 c4
    refine T_aload_n (i := 1) (pc' := 15) dX2_takeDoor_14 rfl rfl rfl ?_
    refine U_grN (q := (g + 10)) (k := 2) (kI := 2) (pc' := 18) dX2_takeDoor_15 rfl cl1 (pog0 hg) (shg0 hg) (by decide) flX2_156 rfl rfl rfl (grg0_2 hg hG3) (pog10 hg) rfl ?_
    refine T_aload_n (i := 1) (pc' := 19) dX2_takeDoor_18 rfl rfl rfl ?_
    refine U_gfN (v := (0, (M2 g 12))) (k := 12) (kI := 12) (pc' := 22) dX2_takeDoor_19 rfl cl1 (pog0 hg) (shg0 hg) (by decide) flX2_88 rfl rfl (by decide) rfl rfl ?_
    refine T_iload_n (i := 2) (pc' := 23) dX2_takeDoor_22 rfl rfl rfl ?_
    refine T_callSN (av := [(2, (g + 10)), (0, (M2 g 12)), (0, a1)]) (st := []) (d2 := 1) (nc2 := 0) (ns2 := 0) (pc' := 26) dX2_takeDoor_23 rfl mtX11_put mvX11_put mlX2_152 rfl rfl (Nat.le_of_ble_eq_true rfl) (by decide) ⟨by decide, by decide⟩ rfl (pX11_put (E := E) (h := h) (M := M2) (p0 := (g + 10)) (np0 := 6) (v1 := (M2 g 12)) (v2 := a1) (pog10 hg) (shg10 hg) (by decide) hG3) (kF (st2 := []) rfl (fun hG5 => ?_))
    obtain ⟨M6, eM6⟩ : ∃ m : Mem, m = (fmX11_put M2 (g + 10) 6 (M2 g 12) a1) := ⟨_, rfl⟩
    rw [← eM6] at hG5 ⊢
    replace H := H M6 eM6
    refine T_aload_n (i := 1) (pc' := 27) dX2_takeDoor_26 rfl rfl rfl ?_
    refine U_grN (q := (g + 11)) (k := 3) (kI := 3) (pc' := 30) dX2_takeDoor_27 rfl cl1 (pog0 hg) (shg0 hg) (by decide) flX2_159 rfl rfl rfl (grg0_3 hg hG5) (pog11 hg) rfl ?_
    refine T_aload_n (i := 1) (pc' := 31) dX2_takeDoor_30 rfl rfl rfl ?_
    refine U_gfN (v := (0, (M6 g 12))) (k := 12) (kI := 12) (pc' := 34) dX2_takeDoor_31 rfl cl1 (pog0 hg) (shg0 hg) (by decide) flX2_88 rfl rfl (by decide) rfl rfl ?_
    refine T_iconst (pc' := 35) dX2_takeDoor_34 (by decide) rfl ?_
    refine T_callSN (av := [(2, (g + 11)), (0, (M6 g 12)), (0, 0)]) (st := []) (d2 := 1) (nc2 := 0) (ns2 := 0) (pc' := 38) dX2_takeDoor_35 rfl mtX11_put mvX11_put mlX2_152 rfl rfl (Nat.le_of_ble_eq_true rfl) (by decide) ⟨by decide, by decide⟩ rfl (pX11_put (E := E) (h := h) (M := M6) (p0 := (g + 11)) (np0 := 6) (v1 := (M6 g 12)) (v2 := 0) (pog11 hg) (shg11 hg) (by decide) hG5) (kF (st2 := []) rfl (fun hG7 => ?_))
    obtain ⟨M8, eM8⟩ : ∃ m : Mem, m = (fmX11_put M6 (g + 11) 6 (M6 g 12) 0) := ⟨_, rfl⟩
    rw [← eM8] at hG7 ⊢
    replace H := H M8 eM8
    refine T_aload_n (i := 1) (pc' := 39) dX2_takeDoor_38 rfl rfl rfl ?_
    refine T_dup (pc' := 40) dX2_takeDoor_39 (Nat.ne_of_beq_eq_false rfl) rfl ?_
    refine U_gfN (v := (0, (M8 g 12))) (k := 12) (kI := 12) (pc' := 43) dX2_takeDoor_40 rfl cl1 (pog0 hg) (shg0 hg) (by decide) flX2_88 rfl rfl (by decide) rfl rfl ?_
    refine T_iconst (pc' := 44) dX2_takeDoor_43 (by decide) rfl ?_
    refine T_iadd (pc' := 45) dX2_takeDoor_44 rfl ?_
    refine U_pfN (y := (wr32 ((M8 g 12) + 1))) (k := 12) (kI := 12) (pc' := 48) dX2_takeDoor_45 rfl cl1 (pog0 hg) (shg0 hg) (by decide) flX2_88 rfl rfl rfl rfl rfl (by decide) (fun z => z) rfl ?_
    have hG9 := (G_fld (x := g) (i := 12) (y := (wr32 ((M8 g 12) + 1))) (shg0 hg) (by decide) (by decide) (pog0 hg) hG7)
    obtain ⟨M10, eM10⟩ : ∃ m : Mem, m = (mset M8 g 12 (wr32 ((M8 g 12) + 1))) := ⟨_, rfl⟩
    rw [← eM10] at hG9 ⊢
    replace H := H M10 eM10
    refine T_iconst (pc' := 49) dX2_takeDoor_48 (by decide) rfl ?_
    exact T_zret dX2_takeDoor_49 rfl (by decide) ⟨rfl, hG9, _, rfl, H⟩
  · skip
    replace H := H.1 c4
    refine T_iconst (pc' := 13) dX2_takeDoor_12 (by decide) rfl ?_
    exact T_zret dX2_takeDoor_13 rfl (by decide) ⟨rfl, hG3, _, rfl, H⟩
def PX9_takeWord (p1 : Int) (s1 : Nat) (M : Mem) (Q : Int → Mem → Prop) : Prop :=
  (∀ a2 : Int, a2 = (fX9_find M p1 s1) → ((a2 = 0 → PX9_next M (fun _ M5 => Q 1 M5)) ∧ (¬ (a2 = 0) → (∀ M8 : Mem, M8 = (fmX9_unasked M) → ((fX9_unasked : Int) = 0 ∨ (fX9_unasked : Int) = 1) ∧ Q fX9_unasked M8))))
set_option maxRecDepth 100000 in
set_option maxHeartbeats 2000000 in
theorem pX9_takeWord {E : EV} {h : Int} {M : Mem} {p1 : Int} {s1 : Nat} (hss1 : s1 < 15) (hps1 : p1.toNat = 1000 + s1) {Q : Int → Mem → Prop} (H : PX9_takeWord p1 s1 M Q) : C2 E miX9_takeWord 7 h [(2, 3), (2, p1)] M (RI 0 Q) := by
  refine C2_of (L := [(2, 3), (2, p1)]) (by decide +kernel) (Nat.le_of_ble_eq_true rfl) rfl (fun hG => ?_)
  refine T_aload_n (i := 0) (pc' := 1) dX9_takeWord_0 rfl rfl rfl ?_
  refine T_aload_n (i := 1) (pc' := 2) dX9_takeWord_1 rfl rfl rfl ?_
  refine T_callV (av := [(2, p1)]) (st := []) (d2 := 6) (nc2 := 0) (ns2 := 0) (pc' := 5) dX9_takeWord_2 rfl mtX9_find mvX9_find mlX9_74 cl9 rfl rfl rfl (Nat.le_of_ble_eq_true rfl) (by decide) ⟨by decide, by decide⟩ rfl (pX9_find (E := E) (h := h) (M := M) (p1 := p1) (s1 := s1) hss1 hps1 hG) (kF (st2 := [(0, (fX9_find M p1 s1))]) rfl (fun hG1 => ?_))
  obtain ⟨a2, ea2⟩ : ∃ z : Int, z = (fX9_find M p1 s1) := ⟨_, rfl⟩
  rw [← ea2]
  replace H := H a2 ea2
  refine T_if_eq (pc' := 13) dX9_takeWord_5 (by decide) (pf := 8) rfl (fun c3 => ?_) (fun c3 => ?_)
  · skip
    replace H := H.1 c3
    refine T_aload_n (i := 0) (pc' := 14) dX9_takeWord_13 rfl rfl rfl ?_
    refine T_callV (av := []) (st := []) (d2 := 2) (nc2 := 0) (ns2 := 0) (pc' := 17) dX9_takeWord_14 rfl mtX9_next mvX9_next mlX9_31 cl9 rfl rfl rfl (Nat.le_of_ble_eq_true rfl) (by decide) ⟨by decide, by decide⟩ rfl (pX9_next (E := E) (h := h) (M := M) H hG) ?_
    rintro _ _ M5 ⟨rfl, hG6, rfl, H⟩ _
    refine T_iconst (pc' := 18) dX9_takeWord_17 (by decide) rfl ?_
    exact T_zret dX9_takeWord_18 rfl (by decide) ⟨rfl, hG6, _, rfl, H⟩
  · skip
    replace H := H.2 c3
    refine T_aload_n (i := 0) (pc' := 9) dX9_takeWord_8 rfl rfl rfl ?_
    refine T_callV (av := []) (st := []) (d2 := 2) (nc2 := 0) (ns2 := 0) (pc' := 12) dX9_takeWord_9 rfl mtX9_unasked mvX9_unasked mlX9_70 cl9 rfl rfl rfl (Nat.le_of_ble_eq_true rfl) (by decide) ⟨by decide, by decide⟩ rfl (pX9_unasked (E := E) (h := h) (M := M) hG) (kF (st2 := [(0, fX9_unasked)]) rfl (fun hG7 => ?_))
    obtain ⟨M8, eM8⟩ : ∃ m : Mem, m = (fmX9_unasked M) := ⟨_, rfl⟩
    rw [← eM8] at hG7 ⊢
    replace H := H M8 eM8
    obtain ⟨z1, H⟩ := H
    exact T_zret dX9_takeWord_12 rfl z1 ⟨rfl, hG7, _, rfl, H⟩
def PX2_numberBehind (p1 : Int) (s1 : Nat) (v2 : Int) (v3 : Int) (M : Mem) (Q : Int → Mem → Prop) : Prop :=
  PX9_takeWord p1 s1 M (fun a1 M2 => ((a1 = 0 → Q (-1) M2) ∧ (¬ (a1 = 0) → PX9_takeNumber v2 v3 (M2 3 2) M2 (fun a5 M6 => Q a5 M6))))
set_option maxRecDepth 100000 in
set_option maxHeartbeats 2000000 in
theorem pX2_numberBehind {E : EV} {h : Int} {M : Mem} {p1 : Int} {s1 : Nat} {v2 : Int} {v3 : Int} (hss1 : s1 < 15) (hps1 : p1.toNat = 1000 + s1) {Q : Int → Mem → Prop} (H : PX2_numberBehind p1 s1 v2 v3 M Q) : C2 E miX2_numberBehind 8 h [(2, 4), (2, p1), (0, v2), (0, v3)] M (RI 0 Q) := by
  refine C2_of (L := [(2, 4), (2, p1), (0, v2), (0, v3)]) (by decide +kernel) (Nat.le_of_ble_eq_true rfl) rfl (fun hG => ?_)
  refine T_aload_n (i := 0) (pc' := 1) dX2_numberBehind_0 rfl rfl rfl ?_
  refine U_gr (q := 3) (k := 0) (kI := 0) (pc' := 4) dX2_numberBehind_1 rfl cl2 (by decide) rfl (by decide) flX2_9 rfl rfl rfl (G_at hG 11 rfl) (by decide) rfl ?_
  refine T_aload_n (i := 1) (pc' := 5) dX2_numberBehind_4 rfl rfl rfl ?_
  refine T_callV (av := [(2, p1)]) (st := []) (d2 := 7) (nc2 := 0) (ns2 := 0) (pc' := 8) dX2_numberBehind_5 rfl mtX9_takeWord mvX9_takeWord mlX2_103 cl9 rfl rfl rfl (Nat.le_of_ble_eq_true rfl) (by decide) ⟨by decide, by decide⟩ rfl (pX9_takeWord (E := E) (h := h) (M := M) (p1 := p1) (s1 := s1) hss1 hps1 H hG) ?_
  rintro _ _ M2 ⟨rfl, hG3, a1, rfl, H⟩ _
  refine T_if_eq (pc' := 30) dX2_numberBehind_8 (by decide) (pf := 11) rfl (fun c4 => ?_) (fun c4 => ?_)
  · skip
    replace H := H.1 c4
    refine T_iconst (pc' := 31) dX2_numberBehind_30 (by decide) rfl ?_
    exact T_iret dX2_numberBehind_31 rfl ⟨rfl, hG3, _, rfl, H⟩
  · skip
    replace H := H.2 c4
    refine T_aload_n (i := 0) (pc' := 12) dX2_numberBehind_11 rfl rfl rfl ?_
    refine U_gr (q := 3) (k := 0) (kI := 0) (pc' := 15) dX2_numberBehind_12 rfl cl2 (by decide) rfl (by decide) flX2_9 rfl rfl rfl (G_at hG3 11 rfl) (by decide) rfl ?_
    refine T_iload_n (i := 2) (pc' := 16) dX2_numberBehind_15 rfl rfl rfl ?_
    refine T_iload_n (i := 3) (pc' := 17) dX2_numberBehind_16 rfl rfl rfl ?_
    refine T_aload_n (i := 0) (pc' := 18) dX2_numberBehind_17 rfl rfl rfl ?_
    refine U_gr (q := 3) (k := 0) (kI := 0) (pc' := 21) dX2_numberBehind_18 rfl cl2 (by decide) rfl (by decide) flX2_9 rfl rfl rfl (G_at hG3 11 rfl) (by decide) rfl ?_
    refine U_gfN (v := (0, (M2 3 2))) (k := 2) (kI := 2) (pc' := 24) dX2_numberBehind_21 rfl cl9 (by decide) rfl (by decide) flX2_36 rfl rfl (by decide) rfl rfl ?_
    refine T_callV (av := [(0, v2), (0, v3), (0, (M2 3 2))]) (st := []) (d2 := 3) (nc2 := 0) (ns2 := 0) (pc' := 27) dX2_numberBehind_24 rfl mtX9_takeNumber mvX9_takeNumber mlX2_107 cl9 rfl rfl rfl (Nat.le_of_ble_eq_true rfl) (by decide) ⟨by decide, by decide⟩ rfl (pX9_takeNumber (E := E) (h := h) (M := M2) (v1 := v2) (v2 := v3) (v3 := (M2 3 2)) H hG3) ?_
    rintro _ _ M6 ⟨rfl, hG7, a5, rfl, H⟩ _
    refine T_goto (pc' := 31) dX2_numberBehind_27 (by decide) ?_
    exact T_iret dX2_numberBehind_31 rfl ⟨rfl, hG7, _, rfl, H⟩
def PX2_takeName_71  (K : Int → Mem → Prop) (Q : Int → Mem → Prop) : Nat → Int → Int → Mem → Prop
  | 0 => fun _ _ _ => False
  | k + 1 => fun v2 v3 M => ((6 ≤ v3 → K v2 M) ∧ (¬ (6 ≤ v3) → PX2_takeName_71  K Q k (wr32 ((wr32 (32 * v2)) + (if (fX9_letters M) ≤ v3 then (0 : Int) else (wr32 ((wr32 ((fX9_byteIn M v3) - 97)) + 1))))) (wr32 (v3 + 1)) M))
def PX2_takeName (g : Int) (M : Mem) (Q : Int → Mem → Prop) : Prop :=
  (((M 3 1) = 1 → (∀ a5 : Int, a5 = (fX9_find M 1000 0) → ((a5 = (-1) → (((fX9_letters M) ≤ 6 → (∃ k9 : Nat, PX2_takeName_71 (fun u10 M11 => (∀ a14 : Int, a14 = (fX1_hasName M11 g u10) → ((a14 = 0 → PX9_next M11 (fun _ M17 => Q u10 M17)) ∧ (¬ (a14 = 0) → (∀ M20 : Mem, M20 = (fmX9_fail M11 3 (M11 3 2)) → Q (-1) M20))))) Q k9 0 0 M)) ∧ (¬ ((fX9_letters M) ≤ 6) → (∀ M22 : Mem, M22 = (fmX9_fail M 1 (wr32 ((M 3 2) + 6))) → Q (-1) M22)))) ∧ (¬ (a5 = (-1)) → (∀ M24 : Mem, M24 = (fmX9_unasked M) → Q (-1) M24))))) ∧ (¬ ((M 3 1) = 1) → (∀ M3 : Mem, M3 = (fmX9_unasked M) → Q (-1) M3)))
set_option maxRecDepth 100000 in
set_option maxHeartbeats 2000000 in
theorem qX2_takeName_71 {E : EV} {h : Int} {g : Int} (hg : isG g) {K : Int → Mem → Prop} {Q : Int → Mem → Prop} (hK : ∀ (v2 : Int) (M : Mem), K v2 M → G h M → TG E miX2_takeName 7 h (RI 0 Q) 117 [(2, 4), (2, g), (0, v2), (3, 0)] [] M) : ∀ (k : Nat) (v2 v3 : Int) (M : Mem), PX2_takeName_71  K Q k v2 v3 M → G h M → TG E miX2_takeName 7 h (RI 0 Q) 71 [(2, 4), (2, g), (0, v2), (0, v3)] [] M := by
  intro k
  induction k with
  | zero =>
    intro v2 v3 M H
    exact False.elim H
  | succ k ih =>
    intro v2 v3 M H hG
    refine T_iload_n (i := 3) (pc' := 72) dX2_takeName_71 rfl rfl rfl ?_
    refine T_bipush (pc' := 74) dX2_takeName_72 rfl (by decide) rfl ?_
    refine T_icmp_ge (pc' := 117) dX2_takeName_74 (by decide) (pf := 77) rfl (fun c1 => ?_) (fun c1 => ?_)
    · skip
      replace H := H.1 c1
      exact T_wk (L' := [(2, 4), (2, g), (0, v2), (3, 0)]) (hK _ _ H hG) ⟨Or.inr rfl, Or.inr rfl, Or.inr rfl, Or.inl rfl, trivial⟩
    · skip
      replace H := H.2 c1
      refine T_bipush (pc' := 79) dX2_takeName_77 rfl (by decide) rfl ?_
      refine T_iload_n (i := 2) (pc' := 80) dX2_takeName_79 rfl rfl rfl ?_
      refine T_imul (pc' := 81) dX2_takeName_80 rfl ?_
      refine T_iload_n (i := 3) (pc' := 82) dX2_takeName_81 rfl rfl rfl ?_
      refine T_aload_n (i := 0) (pc' := 83) dX2_takeName_82 rfl rfl rfl ?_
      refine U_gr (q := 3) (k := 0) (kI := 0) (pc' := 86) dX2_takeName_83 rfl cl2 (by decide) rfl (by decide) flX2_9 rfl rfl rfl (G_at hG 11 rfl) (by decide) rfl ?_
      refine T_callV (av := []) (st := [(0, v3), (0, (wr32 (32 * v2)))]) (d2 := 1) (nc2 := 0) (ns2 := 0) (pc' := 89) dX2_takeName_86 rfl mtX9_letters mvX9_letters mlX2_162 cl9 rfl rfl rfl (Nat.le_of_ble_eq_true rfl) (by decide) ⟨by decide, by decide⟩ rfl (pX9_letters (E := E) (h := h) (M := M) hG) (kF (st2 := [(0, (fX9_letters M)), (0, v3), (0, (wr32 (32 * v2)))]) rfl (fun hG2 => ?_))
      have HJ3 : T E miX2_takeName 7 126 0 0 (fun r S M' => S = S0 ∧ G h M' ∧ RI 0 Q r M') 109 [(2, 4), (2, g), (3, 0), (0, v3)] [(0, (if (fX9_letters M) ≤ v3 then (0 : Int) else (wr32 ((wr32 ((fX9_byteIn M v3) - 97)) + 1)))), (0, (wr32 (32 * v2)))] S0 M 0 0 := by
        refine T_iadd (pc' := 110) dX2_takeName_109 rfl ?_
        refine T_istore_n (i := 2) (L' := [(2, 4), (2, g), (0, (wr32 ((wr32 (32 * v2)) + (if (fX9_letters M) ≤ v3 then (0 : Int) else (wr32 ((wr32 ((fX9_byteIn M v3) - 97)) + 1)))))), (0, v3)]) (pc' := 111) dX2_takeName_110 rfl (by decide) rfl rfl ?_
        refine T_iinc (L' := [(2, 4), (2, g), (0, (wr32 ((wr32 (32 * v2)) + (if (fX9_letters M) ≤ v3 then (0 : Int) else (wr32 ((wr32 ((fX9_byteIn M v3) - 97)) + 1)))))), (0, (wr32 (v3 + 1)))]) (pc' := 114) dX2_takeName_111 rfl (by decide) rfl rfl ?_
        refine T_goto (pc' := 71) dX2_takeName_114 (by decide) ?_
        exact T_wk (L' := [(2, 4), (2, g), (0, (wr32 ((wr32 (32 * v2)) + (if (fX9_letters M) ≤ v3 then (0 : Int) else (wr32 ((wr32 ((fX9_byteIn M v3) - 97)) + 1)))))), (0, (wr32 (v3 + 1)))]) (ih _ _ _ H hG) ⟨Or.inr rfl, Or.inr rfl, Or.inr rfl, Or.inr rfl, trivial⟩
      refine T_icmp_ge (pc' := 108) dX2_takeName_89 (by decide) (pf := 92) rfl (fun c4 => ?_) (fun c4 => ?_)
      · skip
        refine T_iconst (pc' := 109) dX2_takeName_108 (by decide) rfl ?_
        exact T_wk (L' := [(2, 4), (2, g), (3, 0), (0, v3)]) (by have q := HJ3; try simp only [if_pos c4] at q ⊢; exact q) ⟨Or.inr rfl, Or.inr rfl, Or.inl rfl, Or.inr rfl, trivial⟩
      · skip
        refine T_aload_n (i := 0) (pc' := 93) dX2_takeName_92 rfl rfl rfl ?_
        refine U_gr (q := 3) (k := 0) (kI := 0) (pc' := 96) dX2_takeName_93 rfl cl2 (by decide) rfl (by decide) flX2_9 rfl rfl rfl (G_at hG 11 rfl) (by decide) rfl ?_
        refine T_iload_n (i := 3) (pc' := 97) dX2_takeName_96 rfl rfl rfl ?_
        refine T_callV (av := [(0, v3)]) (st := [(0, (wr32 (32 * v2)))]) (d2 := 2) (nc2 := 0) (ns2 := 0) (pc' := 100) dX2_takeName_97 rfl mtX9_byteIn mvX9_byteIn mlX2_166 cl9 rfl rfl rfl (Nat.le_of_ble_eq_true rfl) (by decide) ⟨by decide, by decide⟩ rfl (pX9_byteIn (E := E) (h := h) (M := M) (v1 := v3) hG) (kF (st2 := [(0, (fX9_byteIn M v3)), (0, (wr32 (32 * v2)))]) rfl (fun hG5 => ?_))
        refine T_bipush (pc' := 102) dX2_takeName_100 rfl (by decide) rfl ?_
        refine T_isub (pc' := 103) dX2_takeName_102 rfl ?_
        refine T_iconst (pc' := 104) dX2_takeName_103 (by decide) rfl ?_
        refine T_iadd (pc' := 105) dX2_takeName_104 rfl ?_
        refine T_goto (pc' := 109) dX2_takeName_105 (by decide) ?_
        exact T_wk (L' := [(2, 4), (2, g), (3, 0), (0, v3)]) (by have q := HJ3; try simp only [if_neg c4] at q ⊢; exact q) ⟨Or.inr rfl, Or.inr rfl, Or.inl rfl, Or.inr rfl, trivial⟩
set_option maxRecDepth 100000 in
set_option maxHeartbeats 2000000 in
theorem pX2_takeName {E : EV} {h : Int} {M : Mem} {g : Int} (hg : isG g) {Q : Int → Mem → Prop} (H : PX2_takeName g M Q) : C2 E miX2_takeName 7 h [(2, 4), (2, g)] M (RI 0 Q) := by
  refine C2_of (L := [(2, 4), (2, g), (3, 0), (3, 0)]) (by decide +kernel) (Nat.le_of_ble_eq_true rfl) rfl (fun hG => ?_)
  refine T_aload_n (i := 0) (pc' := 1) dX2_takeName_0 rfl rfl rfl ?_
  refine U_gr (q := 3) (k := 0) (kI := 0) (pc' := 4) dX2_takeName_1 rfl cl2 (by decide) rfl (by decide) flX2_9 rfl rfl rfl (G_at hG 11 rfl) (by decide) rfl ?_
  refine U_gfN (v := (0, (M 3 1))) (k := 1) (kI := 1) (pc' := 7) dX2_takeName_4 rfl cl9 (by decide) rfl (by decide) flX2_29 rfl rfl (by decide) rfl rfl ?_
  refine T_iconst (pc' := 8) dX2_takeName_7 (by decide) rfl ?_
  refine T_icmp_ne (pc' := 24) dX2_takeName_8 (by decide) (pf := 11) rfl (fun c1 => ?_) (fun c1 => ?_)
  · skip
    replace H := H.2 c1
    refine T_aload_n (i := 0) (pc' := 25) dX2_takeName_24 rfl rfl rfl ?_
    refine U_gr (q := 3) (k := 0) (kI := 0) (pc' := 28) dX2_takeName_25 rfl cl2 (by decide) rfl (by decide) flX2_9 rfl rfl rfl (G_at hG 11 rfl) (by decide) rfl ?_
    refine T_callV (av := []) (st := []) (d2 := 2) (nc2 := 0) (ns2 := 0) (pc' := 31) dX2_takeName_28 rfl mtX9_unasked mvX9_unasked mlX2_43 cl9 rfl rfl rfl (Nat.le_of_ble_eq_true rfl) (by decide) ⟨by decide, by decide⟩ rfl (pX9_unasked (E := E) (h := h) (M := M) hG) (kF (st2 := [(0, fX9_unasked)]) rfl (fun hG2 => ?_))
    obtain ⟨M3, eM3⟩ : ∃ m : Mem, m = (fmX9_unasked M) := ⟨_, rfl⟩
    rw [← eM3] at hG2 ⊢
    replace H := H M3 eM3
    refine T_pop (pc' := 32) dX2_takeName_31 (Nat.ne_of_beq_eq_false rfl) rfl ?_
    refine T_iconst (pc' := 33) dX2_takeName_32 (by decide) rfl ?_
    exact T_iret dX2_takeName_33 rfl ⟨rfl, hG2, _, rfl, H⟩
  · skip
    replace H := H.1 c1
    refine T_aload_n (i := 0) (pc' := 12) dX2_takeName_11 rfl rfl rfl ?_
    refine U_gr (q := 3) (k := 0) (kI := 0) (pc' := 15) dX2_takeName_12 rfl cl2 (by decide) rfl (by decide) flX2_9 rfl rfl rfl (G_at hG 11 rfl) (by decide) rfl ?_
    refine T_ldcS (i := 0) (x := 1000) (pc' := 17) dX2_takeName_15 rfl rfl rfl rfl ?_
    refine T_callV (av := [(2, 1000)]) (st := []) (d2 := 6) (nc2 := 0) (ns2 := 0) (pc' := 20) dX2_takeName_17 rfl mtX9_find mvX9_find mlX2_52 cl9 rfl rfl rfl (Nat.le_of_ble_eq_true rfl) (by decide) ⟨by decide, by decide⟩ rfl (pX9_find (E := E) (h := h) (M := M) (p1 := 1000) (s1 := 0) (by decide) rfl hG) (kF (st2 := [(0, (fX9_find M 1000 0))]) rfl (fun hG4 => ?_))
    obtain ⟨a5, ea5⟩ : ∃ z : Int, z = (fX9_find M 1000 0) := ⟨_, rfl⟩
    rw [← ea5]
    replace H := H a5 ea5
    refine T_iconst (pc' := 21) dX2_takeName_20 (by decide) rfl ?_
    refine T_icmp_eq (pc' := 34) dX2_takeName_21 (by decide) (pf := 24) rfl (fun c6 => ?_) (fun c6 => ?_)
    · skip
      replace H := H.1 c6
      refine T_aload_n (i := 0) (pc' := 35) dX2_takeName_34 rfl rfl rfl ?_
      refine U_gr (q := 3) (k := 0) (kI := 0) (pc' := 38) dX2_takeName_35 rfl cl2 (by decide) rfl (by decide) flX2_9 rfl rfl rfl (G_at hG 11 rfl) (by decide) rfl ?_
      refine T_callV (av := []) (st := []) (d2 := 1) (nc2 := 0) (ns2 := 0) (pc' := 41) dX2_takeName_38 rfl mtX9_letters mvX9_letters mlX2_162 cl9 rfl rfl rfl (Nat.le_of_ble_eq_true rfl) (by decide) ⟨by decide, by decide⟩ rfl (pX9_letters (E := E) (h := h) (M := M) hG) (kF (st2 := [(0, (fX9_letters M))]) rfl (fun hG7 => ?_))
      refine T_bipush (pc' := 43) dX2_takeName_41 rfl (by decide) rfl ?_
      refine T_icmp_le (pc' := 67) dX2_takeName_43 (by decide) (pf := 46) rfl (fun c8 => ?_) (fun c8 => ?_)
      · skip
        replace H := H.1 c8
        refine T_iconst (pc' := 68) dX2_takeName_67 (by decide) rfl ?_
        refine T_istore_n (i := 2) (L' := [(2, 4), (2, g), (0, 0), (3, 0)]) (pc' := 69) dX2_takeName_68 rfl (by decide) rfl rfl ?_
        refine T_iconst (pc' := 70) dX2_takeName_69 (by decide) rfl ?_
        refine T_istore_n (i := 3) (L' := [(2, 4), (2, g), (0, 0), (0, 0)]) (pc' := 71) dX2_takeName_70 rfl (by decide) rfl rfl ?_
        obtain ⟨k9, H⟩ := H
        refine T_wk (L' := [(2, 4), (2, g), (0, 0), (0, 0)]) (qX2_takeName_71 hg (fun u10 M11 H hG12 => ?_) _ _ _ _ H hG) ⟨Or.inr rfl, Or.inr rfl, Or.inr rfl, Or.inr rfl, trivial⟩
        refine T_aload_n (i := 1) (pc' := 118) dX2_takeName_117 rfl rfl rfl ?_
        refine T_iload_n (i := 2) (pc' := 119) dX2_takeName_118 rfl rfl rfl ?_
        refine T_callV (av := [(0, u10)]) (st := []) (d2 := 2) (nc2 := 0) (ns2 := 0) (pc' := 122) dX2_takeName_119 rfl mtX1_hasName mvX1_hasName mlX2_169 cl1 (shg0 hg) rfl rfl (Nat.le_of_ble_eq_true rfl) (by decide) ⟨by decide, by decide⟩ rfl (pX1_hasName (E := E) (h := h) (M := M11) (g := g) (v1 := u10) hg hG12) (kF (st2 := [(0, (fX1_hasName M11 g u10))]) rfl (fun hG13 => ?_))
        obtain ⟨a14, ea14⟩ : ∃ z : Int, z = (fX1_hasName M11 g u10) := ⟨_, rfl⟩
        rw [← ea14]
        replace H := H a14 ea14
        refine T_if_eq (pc' := 143) dX2_takeName_122 (by decide) (pf := 125) rfl (fun c15 => ?_) (fun c15 => ?_)
        · skip
          replace H := H.1 c15
          refine T_aload_n (i := 0) (pc' := 144) dX2_takeName_143 rfl rfl rfl ?_
          refine U_gr (q := 3) (k := 0) (kI := 0) (pc' := 147) dX2_takeName_144 rfl cl2 (by decide) rfl (by decide) flX2_9 rfl rfl rfl (G_at hG12 11 rfl) (by decide) rfl ?_
          refine T_callV (av := []) (st := []) (d2 := 2) (nc2 := 0) (ns2 := 0) (pc' := 150) dX2_takeName_147 rfl mtX9_next mvX9_next mlX2_60 cl9 rfl rfl rfl (Nat.le_of_ble_eq_true rfl) (by decide) ⟨by decide, by decide⟩ rfl (pX9_next (E := E) (h := h) (M := M11) H hG12) ?_
          rintro _ _ M17 ⟨rfl, hG18, rfl, H⟩ _
          refine T_iload_n (i := 2) (pc' := 151) dX2_takeName_150 rfl rfl rfl ?_
          exact T_iret dX2_takeName_151 rfl ⟨rfl, hG18, _, rfl, H⟩
        · skip
          replace H := H.2 c15
          refine T_aload_n (i := 0) (pc' := 126) dX2_takeName_125 rfl rfl rfl ?_
          refine U_gr (q := 3) (k := 0) (kI := 0) (pc' := 129) dX2_takeName_126 rfl cl2 (by decide) rfl (by decide) flX2_9 rfl rfl rfl (G_at hG12 11 rfl) (by decide) rfl ?_
          refine T_iconst (pc' := 130) dX2_takeName_129 (by decide) rfl ?_
          refine T_aload_n (i := 0) (pc' := 131) dX2_takeName_130 rfl rfl rfl ?_
          refine U_gr (q := 3) (k := 0) (kI := 0) (pc' := 134) dX2_takeName_131 rfl cl2 (by decide) rfl (by decide) flX2_9 rfl rfl rfl (G_at hG12 11 rfl) (by decide) rfl ?_
          refine U_gfN (v := (0, (M11 3 2))) (k := 2) (kI := 2) (pc' := 137) dX2_takeName_134 rfl cl9 (by decide) rfl (by decide) flX2_36 rfl rfl (by decide) rfl rfl ?_
          refine T_callV (av := [(0, 3), (0, (M11 3 2))]) (st := []) (d2 := 1) (nc2 := 0) (ns2 := 0) (pc' := 140) dX2_takeName_137 rfl mtX9_fail mvX9_fail mlX2_39 cl9 rfl rfl rfl (Nat.le_of_ble_eq_true rfl) (by decide) ⟨by decide, by decide⟩ rfl (pX9_fail (E := E) (h := h) (M := M11) (v1 := 3) (v2 := (M11 3 2)) hG12) (kF (st2 := [(0, fX9_fail)]) rfl (fun hG19 => ?_))
          obtain ⟨M20, eM20⟩ : ∃ m : Mem, m = (fmX9_fail M11 3 (M11 3 2)) := ⟨_, rfl⟩
          rw [← eM20] at hG19 ⊢
          replace H := H M20 eM20
          refine T_pop (pc' := 141) dX2_takeName_140 (Nat.ne_of_beq_eq_false rfl) rfl ?_
          refine T_iconst (pc' := 142) dX2_takeName_141 (by decide) rfl ?_
          exact T_iret dX2_takeName_142 rfl ⟨rfl, hG19, _, rfl, H⟩
      · skip
        replace H := H.2 c8
        refine T_aload_n (i := 0) (pc' := 47) dX2_takeName_46 rfl rfl rfl ?_
        refine U_gr (q := 3) (k := 0) (kI := 0) (pc' := 50) dX2_takeName_47 rfl cl2 (by decide) rfl (by decide) flX2_9 rfl rfl rfl (G_at hG 11 rfl) (by decide) rfl ?_
        refine T_iconst (pc' := 51) dX2_takeName_50 (by decide) rfl ?_
        refine T_aload_n (i := 0) (pc' := 52) dX2_takeName_51 rfl rfl rfl ?_
        refine U_gr (q := 3) (k := 0) (kI := 0) (pc' := 55) dX2_takeName_52 rfl cl2 (by decide) rfl (by decide) flX2_9 rfl rfl rfl (G_at hG 11 rfl) (by decide) rfl ?_
        refine U_gfN (v := (0, (M 3 2))) (k := 2) (kI := 2) (pc' := 58) dX2_takeName_55 rfl cl9 (by decide) rfl (by decide) flX2_36 rfl rfl (by decide) rfl rfl ?_
        refine T_bipush (pc' := 60) dX2_takeName_58 rfl (by decide) rfl ?_
        refine T_iadd (pc' := 61) dX2_takeName_60 rfl ?_
        refine T_callV (av := [(0, 1), (0, (wr32 ((M 3 2) + 6)))]) (st := []) (d2 := 1) (nc2 := 0) (ns2 := 0) (pc' := 64) dX2_takeName_61 rfl mtX9_fail mvX9_fail mlX2_39 cl9 rfl rfl rfl (Nat.le_of_ble_eq_true rfl) (by decide) ⟨by decide, by decide⟩ rfl (pX9_fail (E := E) (h := h) (M := M) (v1 := 1) (v2 := (wr32 ((M 3 2) + 6))) hG) (kF (st2 := [(0, fX9_fail)]) rfl (fun hG21 => ?_))
        obtain ⟨M22, eM22⟩ : ∃ m : Mem, m = (fmX9_fail M 1 (wr32 ((M 3 2) + 6))) := ⟨_, rfl⟩
        rw [← eM22] at hG21 ⊢
        replace H := H M22 eM22
        refine T_pop (pc' := 65) dX2_takeName_64 (Nat.ne_of_beq_eq_false rfl) rfl ?_
        refine T_iconst (pc' := 66) dX2_takeName_65 (by decide) rfl ?_
        exact T_iret dX2_takeName_66 rfl ⟨rfl, hG21, _, rfl, H⟩
    · skip
      replace H := H.2 c6
      refine T_aload_n (i := 0) (pc' := 25) dX2_takeName_24 rfl rfl rfl ?_
      refine U_gr (q := 3) (k := 0) (kI := 0) (pc' := 28) dX2_takeName_25 rfl cl2 (by decide) rfl (by decide) flX2_9 rfl rfl rfl (G_at hG 11 rfl) (by decide) rfl ?_
      refine T_callV (av := []) (st := []) (d2 := 2) (nc2 := 0) (ns2 := 0) (pc' := 31) dX2_takeName_28 rfl mtX9_unasked mvX9_unasked mlX2_43 cl9 rfl rfl rfl (Nat.le_of_ble_eq_true rfl) (by decide) ⟨by decide, by decide⟩ rfl (pX9_unasked (E := E) (h := h) (M := M) hG) (kF (st2 := [(0, fX9_unasked)]) rfl (fun hG23 => ?_))
      obtain ⟨M24, eM24⟩ : ∃ m : Mem, m = (fmX9_unasked M) := ⟨_, rfl⟩
      rw [← eM24] at hG23 ⊢
      replace H := H M24 eM24
      refine T_pop (pc' := 32) dX2_takeName_31 (Nat.ne_of_beq_eq_false rfl) rfl ?_
      refine T_iconst (pc' := 33) dX2_takeName_32 (by decide) rfl ?_
      exact T_iret dX2_takeName_33 rfl ⟨rfl, hG23, _, rfl, H⟩
def PX2_takeGuard (g : Int) (M : Mem) (Q : Int → Mem → Prop) : Prop :=
  PX2_takeName g M (fun a1 M2 => ((a1 = (-1) → Q 0 M2) ∧ (¬ (a1 = (-1)) → PX9_takeWord 1001 1 M2 (fun a5 M6 => ((a5 = 0 → Q 0 M6) ∧ (¬ (a5 = 0) → PX2_takeCell g 4 M6 (fun a9 M10 => ((a9 = (-1) → Q 0 M10) ∧ (¬ (a9 = (-1)) → PX2_numberBehind 1007 7 1 9 M10 (fun a13 M14 => ((a13 = (-1) → Q 0 M14) ∧ (¬ (a13 = (-1)) → PX2_numberBehind 1008 8 1 20 M14 (fun a17 M18 => ((a17 = (-1) → Q 0 M18) ∧ (¬ (a17 = (-1)) → (∀ M22 : Mem, M22 = (fmX11_put M18 (g + 12) 4 (M18 g 13) a1) → (∀ M24 : Mem, M24 = (fmX11_put M22 (g + 13) 4 (M22 g 13) a9) → (∀ M26 : Mem, M26 = (fmX11_put M24 (g + 14) 4 (M24 g 13) a13) → (∀ M28 : Mem, M28 = (fmX11_put M26 (g + 15) 4 (M26 g 13) a17) → (∀ M30 : Mem, M30 = (mset M28 g 13 (wr32 ((M28 g 13) + 1))) → Q 1 M30))))))))))))))))))))
set_option maxRecDepth 100000 in
set_option maxHeartbeats 2000000 in
theorem pX2_takeGuard {E : EV} {h : Int} {M : Mem} {g : Int} (hg : isG g) {Q : Int → Mem → Prop} (H : PX2_takeGuard g M Q) : C2 E miX2_takeGuard 9 h [(2, 4), (2, g)] M (RI 0 Q) := by
  refine C2_of (L := [(2, 4), (2, g), (3, 0), (3, 0), (3, 0), (3, 0)]) (by decide +kernel) (Nat.le_of_ble_eq_true rfl) rfl (fun hG => ?_)
  refine T_aload_n (i := 0) (pc' := 1) dX2_takeGuard_0 rfl rfl rfl ?_
  refine T_aload_n (i := 1) (pc' := 2) dX2_takeGuard_1 rfl rfl rfl ?_
  refine T_callV (av := [(2, g)]) (st := []) (d2 := 7) (nc2 := 0) (ns2 := 0) (pc' := 5) dX2_takeGuard_2 rfl mtX2_takeName mvX2_takeName mlX2_172 cl2 rfl rfl rfl (Nat.le_of_ble_eq_true rfl) (by decide) ⟨by decide, by decide⟩ rfl (pX2_takeName (E := E) (h := h) (M := M) (g := g) hg H hG) ?_
  rintro _ _ M2 ⟨rfl, hG3, a1, rfl, H⟩ _
  refine T_istore_n (i := 2) (L' := [(2, 4), (2, g), (0, a1), (3, 0), (3, 0), (3, 0)]) (pc' := 6) dX2_takeGuard_5 rfl (by decide) rfl rfl ?_
  refine T_iload_n (i := 2) (pc' := 7) dX2_takeGuard_6 rfl rfl rfl ?_
  refine T_iconst (pc' := 8) dX2_takeGuard_7 (by decide) rfl ?_
  refine T_icmp_eq (pc' := 23) dX2_takeGuard_8 (by decide) (pf := 11) rfl (fun c4 => ?_) (fun c4 => ?_)
  · skip
    replace H := H.1 c4
    refine T_iconst (pc' := 24) dX2_takeGuard_23 (by decide) rfl ?_
    exact T_zret dX2_takeGuard_24 rfl (by decide) ⟨rfl, hG3, _, rfl, H⟩
  · skip
    replace H := H.2 c4
    refine T_aload_n (i := 0) (pc' := 12) dX2_takeGuard_11 rfl rfl rfl ?_
    refine U_gr (q := 3) (k := 0) (kI := 0) (pc' := 15) dX2_takeGuard_12 rfl cl2 (by decide) rfl (by decide) flX2_9 rfl rfl rfl (G_at hG3 11 rfl) (by decide) rfl ?_
    refine T_ldcS (i := 1) (x := 1001) (pc' := 17) dX2_takeGuard_15 rfl rfl rfl rfl ?_
    refine T_callV (av := [(2, 1001)]) (st := []) (d2 := 7) (nc2 := 0) (ns2 := 0) (pc' := 20) dX2_takeGuard_17 rfl mtX9_takeWord mvX9_takeWord mlX2_103 cl9 rfl rfl rfl (Nat.le_of_ble_eq_true rfl) (by decide) ⟨by decide, by decide⟩ rfl (pX9_takeWord (E := E) (h := h) (M := M2) (p1 := 1001) (s1 := 1) (by decide) rfl H hG3) ?_
    rintro _ _ M6 ⟨rfl, hG7, a5, rfl, H⟩ _
    refine T_if_ne (pc' := 25) dX2_takeGuard_20 (by decide) (pf := 23) rfl (fun c8 => ?_) (fun c8 => ?_)
    · skip
      replace H := H.2 c8
      refine T_aload_n (i := 0) (pc' := 26) dX2_takeGuard_25 rfl rfl rfl ?_
      refine T_aload_n (i := 1) (pc' := 27) dX2_takeGuard_26 rfl rfl rfl ?_
      refine T_iconst (pc' := 28) dX2_takeGuard_27 (by decide) rfl ?_
      refine T_callV (av := [(2, g), (0, 4)]) (st := []) (d2 := 4) (nc2 := 0) (ns2 := 0) (pc' := 31) dX2_takeGuard_28 rfl mtX2_takeCell mvX2_takeCell mlX2_144 cl2 rfl rfl rfl (Nat.le_of_ble_eq_true rfl) (by decide) ⟨by decide, by decide⟩ rfl (pX2_takeCell (E := E) (h := h) (M := M6) (g := g) (v2 := 4) hg H hG7) ?_
      rintro _ _ M10 ⟨rfl, hG11, a9, rfl, H⟩ _
      refine T_istore_n (i := 3) (L' := [(2, 4), (2, g), (0, a1), (0, a9), (3, 0), (3, 0)]) (pc' := 32) dX2_takeGuard_31 rfl (by decide) rfl rfl ?_
      refine T_iload_n (i := 3) (pc' := 33) dX2_takeGuard_32 rfl rfl rfl ?_
      refine T_iconst (pc' := 34) dX2_takeGuard_33 (by decide) rfl ?_
      refine T_icmp_ne (pc' := 39) dX2_takeGuard_34 (by decide) (pf := 37) rfl (fun c12 => ?_) (fun c12 => ?_)
      · skip
        replace H := H.2 c12
        refine T_aload_n (i := 0) (pc' := 40) dX2_takeGuard_39 rfl rfl rfl ?_
        refine T_ldcS (i := 7) (x := 1007) (pc' := 42) dX2_takeGuard_40 rfl rfl rfl rfl ?_
        refine T_iconst (pc' := 43) dX2_takeGuard_42 (by decide) rfl ?_
        refine T_bipush (pc' := 45) dX2_takeGuard_43 rfl (by decide) rfl ?_
        refine T_callV (av := [(2, 1007), (0, 1), (0, 9)]) (st := []) (d2 := 8) (nc2 := 0) (ns2 := 0) (pc' := 48) dX2_takeGuard_45 rfl mtX2_numberBehind mvX2_numberBehind mlX2_184 cl2 rfl rfl rfl (Nat.le_of_ble_eq_true rfl) (by decide) ⟨by decide, by decide⟩ rfl (pX2_numberBehind (E := E) (h := h) (M := M10) (p1 := 1007) (s1 := 7) (v2 := 1) (v3 := 9) (by decide) rfl H hG11) ?_
        rintro _ _ M14 ⟨rfl, hG15, a13, rfl, H⟩ _
        refine T_istore (i := 4) (L' := [(2, 4), (2, g), (0, a1), (0, a9), (0, a13), (3, 0)]) (pc' := 50) dX2_takeGuard_48 (by decide) rfl rfl ?_
        refine T_iload (i := 4) (pc' := 52) dX2_takeGuard_50 rfl rfl ?_
        refine T_iconst (pc' := 53) dX2_takeGuard_52 (by decide) rfl ?_
        refine T_icmp_ne (pc' := 58) dX2_takeGuard_53 (by decide) (pf := 56) rfl (fun c16 => ?_) (fun c16 => ?_)
        · skip
          replace H := H.2 c16
          refine T_aload_n (i := 0) (pc' := 59) dX2_takeGuard_58 rfl rfl rfl ?_
          refine T_ldcS (i := 8) (x := 1008) (pc' := 61) dX2_takeGuard_59 rfl rfl rfl rfl ?_
          refine T_iconst (pc' := 62) dX2_takeGuard_61 (by decide) rfl ?_
          refine T_bipush (pc' := 64) dX2_takeGuard_62 rfl (by decide) rfl ?_
          refine T_callV (av := [(2, 1008), (0, 1), (0, 20)]) (st := []) (d2 := 8) (nc2 := 0) (ns2 := 0) (pc' := 67) dX2_takeGuard_64 rfl mtX2_numberBehind mvX2_numberBehind mlX2_184 cl2 rfl rfl rfl (Nat.le_of_ble_eq_true rfl) (by decide) ⟨by decide, by decide⟩ rfl (pX2_numberBehind (E := E) (h := h) (M := M14) (p1 := 1008) (s1 := 8) (v2 := 1) (v3 := 20) (by decide) rfl H hG15) ?_
          rintro _ _ M18 ⟨rfl, hG19, a17, rfl, H⟩ _
          refine T_istore (i := 5) (L' := [(2, 4), (2, g), (0, a1), (0, a9), (0, a13), (0, a17)]) (pc' := 69) dX2_takeGuard_67 (by decide) rfl rfl ?_
          refine T_iload (i := 5) (pc' := 71) dX2_takeGuard_69 rfl rfl ?_
          refine T_iconst (pc' := 72) dX2_takeGuard_71 (by decide) rfl ?_
          refine T_icmp_ne (pc' := 77) dX2_takeGuard_72 (by decide) (pf := 75) rfl (fun c20 => ?_) (fun c20 => ?_)
          · skip
            replace H := H.2 c20
            refine T_aload_n (i := 1) (pc' := 78) dX2_takeGuard_77 rfl rfl rfl ?_
            refine U_grN (q := (g + 12)) (k := 4) (kI := 4) (pc' := 81) dX2_takeGuard_78 rfl cl1 (pog0 hg) (shg0 hg) (by decide) flX2_233 rfl rfl rfl (grg0_4 hg hG19) (pog12 hg) rfl ?_
            refine T_aload_n (i := 1) (pc' := 82) dX2_takeGuard_81 rfl rfl rfl ?_
            refine U_gfN (v := (0, (M18 g 13))) (k := 13) (kI := 13) (pc' := 85) dX2_takeGuard_82 rfl cl1 (pog0 hg) (shg0 hg) (by decide) flX2_100 rfl rfl (by decide) rfl rfl ?_
            refine T_iload_n (i := 2) (pc' := 86) dX2_takeGuard_85 rfl rfl rfl ?_
            refine T_callSN (av := [(2, (g + 12)), (0, (M18 g 13)), (0, a1)]) (st := []) (d2 := 1) (nc2 := 0) (ns2 := 0) (pc' := 89) dX2_takeGuard_86 rfl mtX11_put mvX11_put mlX2_152 rfl rfl (Nat.le_of_ble_eq_true rfl) (by decide) ⟨by decide, by decide⟩ rfl (pX11_put (E := E) (h := h) (M := M18) (p0 := (g + 12)) (np0 := 4) (v1 := (M18 g 13)) (v2 := a1) (pog12 hg) (shg12 hg) (by decide) hG19) (kF (st2 := []) rfl (fun hG21 => ?_))
            obtain ⟨M22, eM22⟩ : ∃ m : Mem, m = (fmX11_put M18 (g + 12) 4 (M18 g 13) a1) := ⟨_, rfl⟩
            rw [← eM22] at hG21 ⊢
            replace H := H M22 eM22
            refine T_aload_n (i := 1) (pc' := 90) dX2_takeGuard_89 rfl rfl rfl ?_
            refine U_grN (q := (g + 13)) (k := 5) (kI := 5) (pc' := 93) dX2_takeGuard_90 rfl cl1 (pog0 hg) (shg0 hg) (by decide) flX2_236 rfl rfl rfl (grg0_5 hg hG21) (pog13 hg) rfl ?_
            refine T_aload_n (i := 1) (pc' := 94) dX2_takeGuard_93 rfl rfl rfl ?_
            refine U_gfN (v := (0, (M22 g 13))) (k := 13) (kI := 13) (pc' := 97) dX2_takeGuard_94 rfl cl1 (pog0 hg) (shg0 hg) (by decide) flX2_100 rfl rfl (by decide) rfl rfl ?_
            refine T_iload_n (i := 3) (pc' := 98) dX2_takeGuard_97 rfl rfl rfl ?_
            refine T_callSN (av := [(2, (g + 13)), (0, (M22 g 13)), (0, a9)]) (st := []) (d2 := 1) (nc2 := 0) (ns2 := 0) (pc' := 101) dX2_takeGuard_98 rfl mtX11_put mvX11_put mlX2_152 rfl rfl (Nat.le_of_ble_eq_true rfl) (by decide) ⟨by decide, by decide⟩ rfl (pX11_put (E := E) (h := h) (M := M22) (p0 := (g + 13)) (np0 := 4) (v1 := (M22 g 13)) (v2 := a9) (pog13 hg) (shg13 hg) (by decide) hG21) (kF (st2 := []) rfl (fun hG23 => ?_))
            obtain ⟨M24, eM24⟩ : ∃ m : Mem, m = (fmX11_put M22 (g + 13) 4 (M22 g 13) a9) := ⟨_, rfl⟩
            rw [← eM24] at hG23 ⊢
            replace H := H M24 eM24
            refine T_aload_n (i := 1) (pc' := 102) dX2_takeGuard_101 rfl rfl rfl ?_
            refine U_grN (q := (g + 14)) (k := 6) (kI := 6) (pc' := 105) dX2_takeGuard_102 rfl cl1 (pog0 hg) (shg0 hg) (by decide) flX2_239 rfl rfl rfl (grg0_6 hg hG23) (pog14 hg) rfl ?_
            refine T_aload_n (i := 1) (pc' := 106) dX2_takeGuard_105 rfl rfl rfl ?_
            refine U_gfN (v := (0, (M24 g 13))) (k := 13) (kI := 13) (pc' := 109) dX2_takeGuard_106 rfl cl1 (pog0 hg) (shg0 hg) (by decide) flX2_100 rfl rfl (by decide) rfl rfl ?_
            refine T_iload (i := 4) (pc' := 111) dX2_takeGuard_109 rfl rfl ?_
            refine T_callSN (av := [(2, (g + 14)), (0, (M24 g 13)), (0, a13)]) (st := []) (d2 := 1) (nc2 := 0) (ns2 := 0) (pc' := 114) dX2_takeGuard_111 rfl mtX11_put mvX11_put mlX2_152 rfl rfl (Nat.le_of_ble_eq_true rfl) (by decide) ⟨by decide, by decide⟩ rfl (pX11_put (E := E) (h := h) (M := M24) (p0 := (g + 14)) (np0 := 4) (v1 := (M24 g 13)) (v2 := a13) (pog14 hg) (shg14 hg) (by decide) hG23) (kF (st2 := []) rfl (fun hG25 => ?_))
            obtain ⟨M26, eM26⟩ : ∃ m : Mem, m = (fmX11_put M24 (g + 14) 4 (M24 g 13) a13) := ⟨_, rfl⟩
            rw [← eM26] at hG25 ⊢
            replace H := H M26 eM26
            refine T_aload_n (i := 1) (pc' := 115) dX2_takeGuard_114 rfl rfl rfl ?_
            refine U_grN (q := (g + 15)) (k := 7) (kI := 7) (pc' := 118) dX2_takeGuard_115 rfl cl1 (pog0 hg) (shg0 hg) (by decide) flX2_242 rfl rfl rfl (grg0_7 hg hG25) (pog15 hg) rfl ?_
            refine T_aload_n (i := 1) (pc' := 119) dX2_takeGuard_118 rfl rfl rfl ?_
            refine U_gfN (v := (0, (M26 g 13))) (k := 13) (kI := 13) (pc' := 122) dX2_takeGuard_119 rfl cl1 (pog0 hg) (shg0 hg) (by decide) flX2_100 rfl rfl (by decide) rfl rfl ?_
            refine T_iload (i := 5) (pc' := 124) dX2_takeGuard_122 rfl rfl ?_
            refine T_callSN (av := [(2, (g + 15)), (0, (M26 g 13)), (0, a17)]) (st := []) (d2 := 1) (nc2 := 0) (ns2 := 0) (pc' := 127) dX2_takeGuard_124 rfl mtX11_put mvX11_put mlX2_152 rfl rfl (Nat.le_of_ble_eq_true rfl) (by decide) ⟨by decide, by decide⟩ rfl (pX11_put (E := E) (h := h) (M := M26) (p0 := (g + 15)) (np0 := 4) (v1 := (M26 g 13)) (v2 := a17) (pog15 hg) (shg15 hg) (by decide) hG25) (kF (st2 := []) rfl (fun hG27 => ?_))
            obtain ⟨M28, eM28⟩ : ∃ m : Mem, m = (fmX11_put M26 (g + 15) 4 (M26 g 13) a17) := ⟨_, rfl⟩
            rw [← eM28] at hG27 ⊢
            replace H := H M28 eM28
            refine T_aload_n (i := 1) (pc' := 128) dX2_takeGuard_127 rfl rfl rfl ?_
            refine T_dup (pc' := 129) dX2_takeGuard_128 (Nat.ne_of_beq_eq_false rfl) rfl ?_
            refine U_gfN (v := (0, (M28 g 13))) (k := 13) (kI := 13) (pc' := 132) dX2_takeGuard_129 rfl cl1 (pog0 hg) (shg0 hg) (by decide) flX2_100 rfl rfl (by decide) rfl rfl ?_
            refine T_iconst (pc' := 133) dX2_takeGuard_132 (by decide) rfl ?_
            refine T_iadd (pc' := 134) dX2_takeGuard_133 rfl ?_
            refine U_pfN (y := (wr32 ((M28 g 13) + 1))) (k := 13) (kI := 13) (pc' := 137) dX2_takeGuard_134 rfl cl1 (pog0 hg) (shg0 hg) (by decide) flX2_100 rfl rfl rfl rfl rfl (by decide) (fun z => z) rfl ?_
            have hG29 := (G_fld (x := g) (i := 13) (y := (wr32 ((M28 g 13) + 1))) (shg0 hg) (by decide) (by decide) (pog0 hg) hG27)
            obtain ⟨M30, eM30⟩ : ∃ m : Mem, m = (mset M28 g 13 (wr32 ((M28 g 13) + 1))) := ⟨_, rfl⟩
            rw [← eM30] at hG29 ⊢
            replace H := H M30 eM30
            refine T_iconst (pc' := 138) dX2_takeGuard_137 (by decide) rfl ?_
            exact T_zret dX2_takeGuard_138 rfl (by decide) ⟨rfl, hG29, _, rfl, H⟩
          · skip
            replace H := H.1 c20
            refine T_iconst (pc' := 76) dX2_takeGuard_75 (by decide) rfl ?_
            exact T_zret dX2_takeGuard_76 rfl (by decide) ⟨rfl, hG19, _, rfl, H⟩
        · skip
          replace H := H.1 c16
          refine T_iconst (pc' := 57) dX2_takeGuard_56 (by decide) rfl ?_
          exact T_zret dX2_takeGuard_57 rfl (by decide) ⟨rfl, hG15, _, rfl, H⟩
      · skip
        replace H := H.1 c12
        refine T_iconst (pc' := 38) dX2_takeGuard_37 (by decide) rfl ?_
        exact T_zret dX2_takeGuard_38 rfl (by decide) ⟨rfl, hG11, _, rfl, H⟩
    · skip
      replace H := H.1 c8
      refine T_iconst (pc' := 24) dX2_takeGuard_23 (by decide) rfl ?_
      exact T_zret dX2_takeGuard_24 rfl (by decide) ⟨rfl, hG7, _, rfl, H⟩
def PX2_takeSlow (g : Int) (v2 : Int) (M : Mem) (Q : Int → Mem → Prop) : Prop :=
  PX9_takeWord 1002 2 M (fun a1 M2 => ((a1 = 0 → Q 0 M2) ∧ (¬ (a1 = 0) → (∃ j6 : Mem → Prop, (∀ (M7 : Mem), j6 M7 → PX9_takeNumber 0 60 (M2 3 2) M7 (fun a9 M10 => ((a9 = (-1) → Q 0 M10) ∧ (¬ (a9 = (-1)) → (∀ M15 : Mem, M15 = (fmX11_put M10 (g + 4) 9 v2 (if (fX9_isSign M2 45) = 0 then (wr32 (60 + a9)) else (wr32 (60 - a9)))) → Q 1 M15))))) ∧ (((fX9_isSign M2 45) = 0 → j6 M2) ∧ (¬ ((fX9_isSign M2 45) = 0) → PX9_next M2 (fun _ M19 => j6 M19)))))))
set_option maxRecDepth 100000 in
set_option maxHeartbeats 2000000 in
theorem pX2_takeSlow {E : EV} {h : Int} {M : Mem} {g : Int} {v2 : Int} (hg : isG g) {Q : Int → Mem → Prop} (H : PX2_takeSlow g v2 M Q) : C2 E miX2_takeSlow 8 h [(2, 4), (2, (g + 1)), (0, v2)] M (RI 0 Q) := by
  refine C2_of (L := [(2, 4), (2, (g + 1)), (0, v2), (3, 0), (3, 0), (3, 0)]) (by decide +kernel) (Nat.le_of_ble_eq_true rfl) rfl (fun hG => ?_)
  refine T_aload_n (i := 0) (pc' := 1) dX2_takeSlow_0 rfl rfl rfl ?_
  refine U_gr (q := 3) (k := 0) (kI := 0) (pc' := 4) dX2_takeSlow_1 rfl cl2 (by decide) rfl (by decide) flX2_9 rfl rfl rfl (G_at hG 11 rfl) (by decide) rfl ?_
  refine T_ldcS (i := 2) (x := 1002) (pc' := 6) dX2_takeSlow_4 rfl rfl rfl rfl ?_
  refine T_callV (av := [(2, 1002)]) (st := []) (d2 := 7) (nc2 := 0) (ns2 := 0) (pc' := 9) dX2_takeSlow_6 rfl mtX9_takeWord mvX9_takeWord mlX2_103 cl9 rfl rfl rfl (Nat.le_of_ble_eq_true rfl) (by decide) ⟨by decide, by decide⟩ rfl (pX9_takeWord (E := E) (h := h) (M := M) (p1 := 1002) (s1 := 2) (by decide) rfl H hG) ?_
  rintro _ _ M2 ⟨rfl, hG3, a1, rfl, H⟩ _
  refine T_if_ne (pc' := 14) dX2_takeSlow_9 (by decide) (pf := 12) rfl (fun c4 => ?_) (fun c4 => ?_)
  · skip
    replace H := H.2 c4
    refine T_aload_n (i := 0) (pc' := 15) dX2_takeSlow_14 rfl rfl rfl ?_
    refine U_gr (q := 3) (k := 0) (kI := 0) (pc' := 18) dX2_takeSlow_15 rfl cl2 (by decide) rfl (by decide) flX2_9 rfl rfl rfl (G_at hG3 11 rfl) (by decide) rfl ?_
    refine U_gfN (v := (0, (M2 3 2))) (k := 2) (kI := 2) (pc' := 21) dX2_takeSlow_18 rfl cl9 (by decide) rfl (by decide) flX2_36 rfl rfl (by decide) rfl rfl ?_
    refine T_istore_n (i := 3) (L' := [(2, 4), (2, (g + 1)), (0, v2), (0, (M2 3 2)), (3, 0), (3, 0)]) (pc' := 22) dX2_takeSlow_21 rfl (by decide) rfl rfl ?_
    refine T_aload_n (i := 0) (pc' := 23) dX2_takeSlow_22 rfl rfl rfl ?_
    refine U_gr (q := 3) (k := 0) (kI := 0) (pc' := 26) dX2_takeSlow_23 rfl cl2 (by decide) rfl (by decide) flX2_9 rfl rfl rfl (G_at hG3 11 rfl) (by decide) rfl ?_
    refine T_bipush (pc' := 28) dX2_takeSlow_26 rfl (by decide) rfl ?_
    refine T_callV (av := [(0, 45)]) (st := []) (d2 := 2) (nc2 := 0) (ns2 := 0) (pc' := 31) dX2_takeSlow_28 rfl mtX9_isSign mvX9_isSign mlX2_212 cl9 rfl rfl rfl (Nat.le_of_ble_eq_true rfl) (by decide) ⟨by decide, by decide⟩ rfl (pX9_isSign (E := E) (h := h) (M := M2) (v1 := 45) hG3) (kF (st2 := [(0, (fX9_isSign M2 45))]) rfl (fun hG5 => ?_))
    refine T_istore (i := 4) (L' := [(2, 4), (2, (g + 1)), (0, v2), (0, (M2 3 2)), (0, (fX9_isSign M2 45)), (3, 0)]) (pc' := 33) dX2_takeSlow_31 (by decide) rfl rfl ?_
    refine T_iload (i := 4) (pc' := 35) dX2_takeSlow_33 rfl rfl ?_
    obtain ⟨j6, hj6, H⟩ := H
    have qj6 : ∀ (M7 : Mem), j6 M7 → G h M7 → TG E miX2_takeSlow 8 h (RI 0 Q) 45 [(2, 4), (2, (g + 1)), (0, v2), (0, (M2 3 2)), (0, (fX9_isSign M2 45)), (3, 0)] [] M7 := by
      intro M7 H hG8
      replace H := hj6 _ H
      refine T_aload_n (i := 0) (pc' := 46) dX2_takeSlow_45 rfl rfl rfl ?_
      refine U_gr (q := 3) (k := 0) (kI := 0) (pc' := 49) dX2_takeSlow_46 rfl cl2 (by decide) rfl (by decide) flX2_9 rfl rfl rfl (G_at hG8 11 rfl) (by decide) rfl ?_
      refine T_iconst (pc' := 50) dX2_takeSlow_49 (by decide) rfl ?_
      refine T_bipush (pc' := 52) dX2_takeSlow_50 rfl (by decide) rfl ?_
      refine T_iload_n (i := 3) (pc' := 53) dX2_takeSlow_52 rfl rfl rfl ?_
      refine T_callV (av := [(0, 0), (0, 60), (0, (M2 3 2))]) (st := []) (d2 := 3) (nc2 := 0) (ns2 := 0) (pc' := 56) dX2_takeSlow_53 rfl mtX9_takeNumber mvX9_takeNumber mlX2_107 cl9 rfl rfl rfl (Nat.le_of_ble_eq_true rfl) (by decide) ⟨by decide, by decide⟩ rfl (pX9_takeNumber (E := E) (h := h) (M := M7) (v1 := 0) (v2 := 60) (v3 := (M2 3 2)) H hG8) ?_
      rintro _ _ M10 ⟨rfl, hG11, a9, rfl, H⟩ _
      refine T_istore (i := 5) (L' := [(2, 4), (2, (g + 1)), (0, v2), (0, (M2 3 2)), (0, (fX9_isSign M2 45)), (0, a9)]) (pc' := 58) dX2_takeSlow_56 (by decide) rfl rfl ?_
      refine T_iload (i := 5) (pc' := 60) dX2_takeSlow_58 rfl rfl ?_
      refine T_iconst (pc' := 61) dX2_takeSlow_60 (by decide) rfl ?_
      refine T_icmp_ne (pc' := 66) dX2_takeSlow_61 (by decide) (pf := 64) rfl (fun c12 => ?_) (fun c12 => ?_)
      · skip
        replace H := H.2 c12
        refine T_aload_n (i := 1) (pc' := 67) dX2_takeSlow_66 rfl rfl rfl ?_
        refine U_grN (q := (g + 4)) (k := 2) (kI := 2) (pc' := 70) dX2_takeSlow_67 rfl cl4 (pog1 hg) (shg1 hg) (by decide) flX2_215 rfl rfl rfl (grg1_2 hg hG11) (pog4 hg) rfl ?_
        refine T_iload_n (i := 2) (pc' := 71) dX2_takeSlow_70 rfl rfl rfl ?_
        refine T_iload (i := 4) (pc' := 73) dX2_takeSlow_71 rfl rfl ?_
        have HJ13 : T E miX2_takeSlow 8 126 0 0 (fun r S M' => S = S0 ∧ G h M' ∧ RI 0 Q r M') 89 [(3, 0), (3, 0), (3, 0), (3, 0), (3, 0), (3, 0)] [(0, (if (fX9_isSign M2 45) = 0 then (wr32 (60 + a9)) else (wr32 (60 - a9)))), (0, v2), (2, (g + 4))] S0 M10 0 0 := by
          refine T_callSN (av := [(2, (g + 4)), (0, v2), (0, (if (fX9_isSign M2 45) = 0 then (wr32 (60 + a9)) else (wr32 (60 - a9))))]) (st := []) (d2 := 1) (nc2 := 0) (ns2 := 0) (pc' := 92) dX2_takeSlow_89 rfl mtX11_put mvX11_put mlX2_152 rfl rfl (Nat.le_of_ble_eq_true rfl) (by decide) ⟨by decide, by decide⟩ rfl (pX11_put (E := E) (h := h) (M := M10) (p0 := (g + 4)) (np0 := 9) (v1 := v2) (v2 := (if (fX9_isSign M2 45) = 0 then (wr32 (60 + a9)) else (wr32 (60 - a9)))) (pog4 hg) (shg4 hg) (by decide) hG11) (kF (st2 := []) rfl (fun hG14 => ?_))
          obtain ⟨M15, eM15⟩ : ∃ m : Mem, m = (fmX11_put M10 (g + 4) 9 v2 (if (fX9_isSign M2 45) = 0 then (wr32 (60 + a9)) else (wr32 (60 - a9)))) := ⟨_, rfl⟩
          rw [← eM15] at hG14 ⊢
          replace H := H M15 eM15
          refine T_iconst (pc' := 93) dX2_takeSlow_92 (by decide) rfl ?_
          exact T_zret dX2_takeSlow_93 rfl (by decide) ⟨rfl, hG14, _, rfl, H⟩
        refine T_if_eq (pc' := 84) dX2_takeSlow_73 (by decide) (pf := 76) rfl (fun c16 => ?_) (fun c16 => ?_)
        · skip
          refine T_bipush (pc' := 86) dX2_takeSlow_84 rfl (by decide) rfl ?_
          refine T_iload (i := 5) (pc' := 88) dX2_takeSlow_86 rfl rfl ?_
          refine T_iadd (pc' := 89) dX2_takeSlow_88 rfl ?_
          exact T_wk (L' := [(3, 0), (3, 0), (3, 0), (3, 0), (3, 0), (3, 0)]) (by have q := HJ13; try simp only [if_pos c16] at q ⊢; exact q) ⟨Or.inl rfl, Or.inl rfl, Or.inl rfl, Or.inl rfl, Or.inl rfl, Or.inl rfl, trivial⟩
        · skip
          refine T_bipush (pc' := 78) dX2_takeSlow_76 rfl (by decide) rfl ?_
          refine T_iload (i := 5) (pc' := 80) dX2_takeSlow_78 rfl rfl ?_
          refine T_isub (pc' := 81) dX2_takeSlow_80 rfl ?_
          refine T_goto (pc' := 89) dX2_takeSlow_81 (by decide) ?_
          exact T_wk (L' := [(3, 0), (3, 0), (3, 0), (3, 0), (3, 0), (3, 0)]) (by have q := HJ13; try simp only [if_neg c16] at q ⊢; exact q) ⟨Or.inl rfl, Or.inl rfl, Or.inl rfl, Or.inl rfl, Or.inl rfl, Or.inl rfl, trivial⟩
      · skip
        replace H := H.1 c12
        refine T_iconst (pc' := 65) dX2_takeSlow_64 (by decide) rfl ?_
        exact T_zret dX2_takeSlow_65 rfl (by decide) ⟨rfl, hG11, _, rfl, H⟩
    refine T_if_eq (pc' := 45) dX2_takeSlow_35 (by decide) (pf := 38) rfl (fun c17 => ?_) (fun c17 => ?_)
    · skip
      replace H := H.1 c17
      exact T_wk (L' := [(2, 4), (2, (g + 1)), (0, v2), (0, (M2 3 2)), (0, (fX9_isSign M2 45)), (3, 0)]) (qj6 _ H hG3) ⟨Or.inr rfl, Or.inr rfl, Or.inr rfl, Or.inr rfl, Or.inr rfl, Or.inl rfl, trivial⟩
    · skip
      replace H := H.2 c17
      refine T_aload_n (i := 0) (pc' := 39) dX2_takeSlow_38 rfl rfl rfl ?_
      refine U_gr (q := 3) (k := 0) (kI := 0) (pc' := 42) dX2_takeSlow_39 rfl cl2 (by decide) rfl (by decide) flX2_9 rfl rfl rfl (G_at hG3 11 rfl) (by decide) rfl ?_
      refine T_callV (av := []) (st := []) (d2 := 2) (nc2 := 0) (ns2 := 0) (pc' := 45) dX2_takeSlow_42 rfl mtX9_next mvX9_next mlX2_60 cl9 rfl rfl rfl (Nat.le_of_ble_eq_true rfl) (by decide) ⟨by decide, by decide⟩ rfl (pX9_next (E := E) (h := h) (M := M2) H hG3) ?_
      rintro _ _ M19 ⟨rfl, hG20, rfl, H⟩ _
      exact T_wk (L' := [(2, 4), (2, (g + 1)), (0, v2), (0, (M2 3 2)), (0, (fX9_isSign M2 45)), (3, 0)]) (qj6 _ H hG20) ⟨Or.inr rfl, Or.inr rfl, Or.inr rfl, Or.inr rfl, Or.inr rfl, Or.inl rfl, trivial⟩
  · skip
    replace H := H.1 c4
    refine T_iconst (pc' := 13) dX2_takeSlow_12 (by decide) rfl ?_
    exact T_zret dX2_takeSlow_13 rfl (by decide) ⟨rfl, hG3, _, rfl, H⟩
def PX2_takeSteps_50 (g : Int) (v2 : Int) (v3 : Int) (K : Mem → Prop) (Q : Int → Mem → Prop) : Nat → Int → Mem → Prop
  | 0 => fun _ _ => False
  | k + 1 => fun v4 M => ((v3 ≤ v4 → K M) ∧ (¬ (v3 ≤ v4) → (((fX2_wayOf (fX9_byteIn M v4)) = (-1) → (∀ M8 : Mem, M8 = (fmX9_unasked M) → ((fX9_unasked : Int) = 0 ∨ (fX9_unasked : Int) = 1) ∧ Q fX9_unasked M8)) ∧ (¬ ((fX2_wayOf (fX9_byteIn M v4)) = (-1)) → (∀ M6 : Mem, M6 = (fmX11_put M (g + 8) 108 (wr32 ((wr32 (v2 * 12)) + v4)) (fX2_wayOf (fX9_byteIn M v4))) → PX2_takeSteps_50 g v2 v3 K Q k (wr32 (v4 + 1)) M6)))))
def PX2_takeSteps (g : Int) (v2 : Int) (M : Mem) (Q : Int → Mem → Prop) : Prop :=
  PX9_takeWord 1005 5 M (fun a1 M2 => ((a1 = 0 → Q 0 M2) ∧ (¬ (a1 = 0) → (((M2 3 1) = 1 → (((fX9_letters M2) ≤ 12 → (∃ k10 : Nat, PX2_takeSteps_50 g v2 (fX9_letters M2) (fun M11 => (∀ M14 : Mem, M14 = (fmX11_put M11 (g + 7) 9 v2 (fX9_letters M2)) → PX9_next M14 (fun _ M16 => Q 1 M16))) Q k10 0 M2)) ∧ (¬ ((fX9_letters M2) ≤ 12) → (∀ M19 : Mem, M19 = (fmX9_unasked M2) → ((fX9_unasked : Int) = 0 ∨ (fX9_unasked : Int) = 1) ∧ Q fX9_unasked M19)))) ∧ (¬ ((M2 3 1) = 1) → (∀ M8 : Mem, M8 = (fmX9_unasked M2) → ((fX9_unasked : Int) = 0 ∨ (fX9_unasked : Int) = 1) ∧ Q fX9_unasked M8))))))
set_option maxRecDepth 100000 in
set_option maxHeartbeats 2000000 in
theorem qX2_takeSteps_50 {E : EV} {h : Int} {g : Int} {v2 : Int} {v3 : Int} (hg : isG g) {K : Mem → Prop} {Q : Int → Mem → Prop} (hK : ∀ (M : Mem), K M → G h M → TG E miX2_takeSteps 8 h (RI 0 Q) 106 [(2, 4), (2, (g + 1)), (0, v2), (0, v3), (3, 0), (3, 0)] [] M) : ∀ (k : Nat) (v4 : Int) (M : Mem), PX2_takeSteps_50 g v2 v3 K Q k v4 M → G h M → TG E miX2_takeSteps 8 h (RI 0 Q) 50 [(2, 4), (2, (g + 1)), (0, v2), (0, v3), (0, v4), (3, 0)] [] M := by
  intro k
  induction k with
  | zero =>
    intro v4 M H
    exact False.elim H
  | succ k ih =>
    intro v4 M H hG
    refine T_iload (i := 4) (pc' := 52) dX2_takeSteps_50 rfl rfl ?_
    refine T_iload_n (i := 3) (pc' := 53) dX2_takeSteps_52 rfl rfl rfl ?_
    refine T_icmp_ge (pc' := 106) dX2_takeSteps_53 (by decide) (pf := 56) rfl (fun c1 => ?_) (fun c1 => ?_)
    · skip
      replace H := H.1 c1
      exact T_wk (L' := [(2, 4), (2, (g + 1)), (0, v2), (0, v3), (3, 0), (3, 0)]) (hK _ H hG) ⟨Or.inr rfl, Or.inr rfl, Or.inr rfl, Or.inr rfl, Or.inl rfl, Or.inl rfl, trivial⟩
    · skip
      replace H := H.2 c1
      refine T_aload_n (i := 0) (pc' := 57) dX2_takeSteps_56 rfl rfl rfl ?_
      refine U_gr (q := 3) (k := 0) (kI := 0) (pc' := 60) dX2_takeSteps_57 rfl cl2 (by decide) rfl (by decide) flX2_9 rfl rfl rfl (G_at hG 11 rfl) (by decide) rfl ?_
      refine T_iload (i := 4) (pc' := 62) dX2_takeSteps_60 rfl rfl ?_
      refine T_callV (av := [(0, v4)]) (st := []) (d2 := 2) (nc2 := 0) (ns2 := 0) (pc' := 65) dX2_takeSteps_62 rfl mtX9_byteIn mvX9_byteIn mlX2_166 cl9 rfl rfl rfl (Nat.le_of_ble_eq_true rfl) (by decide) ⟨by decide, by decide⟩ rfl (pX9_byteIn (E := E) (h := h) (M := M) (v1 := v4) hG) (kF (st2 := [(0, (fX9_byteIn M v4))]) rfl (fun hG2 => ?_))
      refine T_callS (av := [(0, (fX9_byteIn M v4))]) (st := []) (d2 := 1) (nc2 := 0) (ns2 := 0) (pc' := 68) dX2_takeSteps_65 rfl mtX2_wayOf mvX2_wayOf mlX2_220 rfl rfl (Nat.le_of_ble_eq_true rfl) (by decide) ⟨by decide, by decide⟩ rfl (pX2_wayOf (E := E) (h := h) (M := M) (v0 := (fX9_byteIn M v4)) hG) (kF (st2 := [(0, (fX2_wayOf (fX9_byteIn M v4)))]) rfl (fun hG3 => ?_))
      refine T_istore (i := 5) (L' := [(2, 4), (2, (g + 1)), (0, v2), (0, v3), (0, v4), (0, (fX2_wayOf (fX9_byteIn M v4)))]) (pc' := 70) dX2_takeSteps_68 (by decide) rfl rfl ?_
      refine T_iload (i := 5) (pc' := 72) dX2_takeSteps_70 rfl rfl ?_
      refine T_iconst (pc' := 73) dX2_takeSteps_72 (by decide) rfl ?_
      refine T_icmp_ne (pc' := 84) dX2_takeSteps_73 (by decide) (pf := 76) rfl (fun c4 => ?_) (fun c4 => ?_)
      · skip
        replace H := H.2 c4
        refine T_aload_n (i := 1) (pc' := 85) dX2_takeSteps_84 rfl rfl rfl ?_
        refine U_grN (q := (g + 8)) (k := 6) (kI := 6) (pc' := 88) dX2_takeSteps_85 rfl cl4 (pog1 hg) (shg1 hg) (by decide) flX2_223 rfl rfl rfl (grg1_6 hg hG) (pog8 hg) rfl ?_
        refine T_iload_n (i := 2) (pc' := 89) dX2_takeSteps_88 rfl rfl rfl ?_
        refine T_bipush (pc' := 91) dX2_takeSteps_89 rfl (by decide) rfl ?_
        refine T_imul (pc' := 92) dX2_takeSteps_91 rfl ?_
        refine T_iload (i := 4) (pc' := 94) dX2_takeSteps_92 rfl rfl ?_
        refine T_iadd (pc' := 95) dX2_takeSteps_94 rfl ?_
        refine T_iload (i := 5) (pc' := 97) dX2_takeSteps_95 rfl rfl ?_
        refine T_callSN (av := [(2, (g + 8)), (0, (wr32 ((wr32 (v2 * 12)) + v4))), (0, (fX2_wayOf (fX9_byteIn M v4)))]) (st := []) (d2 := 1) (nc2 := 0) (ns2 := 0) (pc' := 100) dX2_takeSteps_97 rfl mtX11_put mvX11_put mlX2_152 rfl rfl (Nat.le_of_ble_eq_true rfl) (by decide) ⟨by decide, by decide⟩ rfl (pX11_put (E := E) (h := h) (M := M) (p0 := (g + 8)) (np0 := 108) (v1 := (wr32 ((wr32 (v2 * 12)) + v4))) (v2 := (fX2_wayOf (fX9_byteIn M v4))) (pog8 hg) (shg8 hg) (by decide) hG) (kF (st2 := []) rfl (fun hG5 => ?_))
        obtain ⟨M6, eM6⟩ : ∃ m : Mem, m = (fmX11_put M (g + 8) 108 (wr32 ((wr32 (v2 * 12)) + v4)) (fX2_wayOf (fX9_byteIn M v4))) := ⟨_, rfl⟩
        rw [← eM6] at hG5 ⊢
        replace H := H M6 eM6
        refine T_iinc (L' := [(2, 4), (2, (g + 1)), (0, v2), (0, v3), (0, (wr32 (v4 + 1))), (0, (fX2_wayOf (fX9_byteIn M v4)))]) (pc' := 103) dX2_takeSteps_100 rfl (by decide) rfl rfl ?_
        refine T_goto (pc' := 50) dX2_takeSteps_103 (by decide) ?_
        exact T_wk (L' := [(2, 4), (2, (g + 1)), (0, v2), (0, v3), (0, (wr32 (v4 + 1))), (3, 0)]) (ih _ _ H hG5) ⟨Or.inr rfl, Or.inr rfl, Or.inr rfl, Or.inr rfl, Or.inr rfl, Or.inl rfl, trivial⟩
      · skip
        replace H := H.1 c4
        refine T_aload_n (i := 0) (pc' := 77) dX2_takeSteps_76 rfl rfl rfl ?_
        refine U_gr (q := 3) (k := 0) (kI := 0) (pc' := 80) dX2_takeSteps_77 rfl cl2 (by decide) rfl (by decide) flX2_9 rfl rfl rfl (G_at hG 11 rfl) (by decide) rfl ?_
        refine T_callV (av := []) (st := []) (d2 := 2) (nc2 := 0) (ns2 := 0) (pc' := 83) dX2_takeSteps_80 rfl mtX9_unasked mvX9_unasked mlX2_43 cl9 rfl rfl rfl (Nat.le_of_ble_eq_true rfl) (by decide) ⟨by decide, by decide⟩ rfl (pX9_unasked (E := E) (h := h) (M := M) hG) (kF (st2 := [(0, fX9_unasked)]) rfl (fun hG7 => ?_))
        obtain ⟨M8, eM8⟩ : ∃ m : Mem, m = (fmX9_unasked M) := ⟨_, rfl⟩
        rw [← eM8] at hG7 ⊢
        replace H := H M8 eM8
        obtain ⟨z1, H⟩ := H
        exact T_zret dX2_takeSteps_83 rfl z1 ⟨rfl, hG7, _, rfl, H⟩
set_option maxRecDepth 100000 in
set_option maxHeartbeats 2000000 in
theorem pX2_takeSteps {E : EV} {h : Int} {M : Mem} {g : Int} {v2 : Int} (hg : isG g) {Q : Int → Mem → Prop} (H : PX2_takeSteps g v2 M Q) : C2 E miX2_takeSteps 8 h [(2, 4), (2, (g + 1)), (0, v2)] M (RI 0 Q) := by
  refine C2_of (L := [(2, 4), (2, (g + 1)), (0, v2), (3, 0), (3, 0), (3, 0)]) (by decide +kernel) (Nat.le_of_ble_eq_true rfl) rfl (fun hG => ?_)
  refine T_aload_n (i := 0) (pc' := 1) dX2_takeSteps_0 rfl rfl rfl ?_
  refine U_gr (q := 3) (k := 0) (kI := 0) (pc' := 4) dX2_takeSteps_1 rfl cl2 (by decide) rfl (by decide) flX2_9 rfl rfl rfl (G_at hG 11 rfl) (by decide) rfl ?_
  refine T_ldcS (i := 5) (x := 1005) (pc' := 6) dX2_takeSteps_4 rfl rfl rfl rfl ?_
  refine T_callV (av := [(2, 1005)]) (st := []) (d2 := 7) (nc2 := 0) (ns2 := 0) (pc' := 9) dX2_takeSteps_6 rfl mtX9_takeWord mvX9_takeWord mlX2_103 cl9 rfl rfl rfl (Nat.le_of_ble_eq_true rfl) (by decide) ⟨by decide, by decide⟩ rfl (pX9_takeWord (E := E) (h := h) (M := M) (p1 := 1005) (s1 := 5) (by decide) rfl H hG) ?_
  rintro _ _ M2 ⟨rfl, hG3, a1, rfl, H⟩ _
  refine T_if_ne (pc' := 14) dX2_takeSteps_9 (by decide) (pf := 12) rfl (fun c4 => ?_) (fun c4 => ?_)
  · skip
    replace H := H.2 c4
    refine T_aload_n (i := 0) (pc' := 15) dX2_takeSteps_14 rfl rfl rfl ?_
    refine U_gr (q := 3) (k := 0) (kI := 0) (pc' := 18) dX2_takeSteps_15 rfl cl2 (by decide) rfl (by decide) flX2_9 rfl rfl rfl (G_at hG3 11 rfl) (by decide) rfl ?_
    refine T_callV (av := []) (st := []) (d2 := 1) (nc2 := 0) (ns2 := 0) (pc' := 21) dX2_takeSteps_18 rfl mtX9_letters mvX9_letters mlX2_162 cl9 rfl rfl rfl (Nat.le_of_ble_eq_true rfl) (by decide) ⟨by decide, by decide⟩ rfl (pX9_letters (E := E) (h := h) (M := M2) hG3) (kF (st2 := [(0, (fX9_letters M2))]) rfl (fun hG5 => ?_))
    refine T_istore_n (i := 3) (L' := [(2, 4), (2, (g + 1)), (0, v2), (0, (fX9_letters M2)), (3, 0), (3, 0)]) (pc' := 22) dX2_takeSteps_21 rfl (by decide) rfl rfl ?_
    refine T_aload_n (i := 0) (pc' := 23) dX2_takeSteps_22 rfl rfl rfl ?_
    refine U_gr (q := 3) (k := 0) (kI := 0) (pc' := 26) dX2_takeSteps_23 rfl cl2 (by decide) rfl (by decide) flX2_9 rfl rfl rfl (G_at hG3 11 rfl) (by decide) rfl ?_
    refine U_gfN (v := (0, (M2 3 1))) (k := 1) (kI := 1) (pc' := 29) dX2_takeSteps_26 rfl cl9 (by decide) rfl (by decide) flX2_29 rfl rfl (by decide) rfl rfl ?_
    refine T_iconst (pc' := 30) dX2_takeSteps_29 (by decide) rfl ?_
    refine T_icmp_ne (pc' := 39) dX2_takeSteps_30 (by decide) (pf := 33) rfl (fun c6 => ?_) (fun c6 => ?_)
    · skip
      replace H := H.2 c6
      refine T_aload_n (i := 0) (pc' := 40) dX2_takeSteps_39 rfl rfl rfl ?_
      refine U_gr (q := 3) (k := 0) (kI := 0) (pc' := 43) dX2_takeSteps_40 rfl cl2 (by decide) rfl (by decide) flX2_9 rfl rfl rfl (G_at hG3 11 rfl) (by decide) rfl ?_
      refine T_callV (av := []) (st := []) (d2 := 2) (nc2 := 0) (ns2 := 0) (pc' := 46) dX2_takeSteps_43 rfl mtX9_unasked mvX9_unasked mlX2_43 cl9 rfl rfl rfl (Nat.le_of_ble_eq_true rfl) (by decide) ⟨by decide, by decide⟩ rfl (pX9_unasked (E := E) (h := h) (M := M2) hG3) (kF (st2 := [(0, fX9_unasked)]) rfl (fun hG7 => ?_))
      obtain ⟨M8, eM8⟩ : ∃ m : Mem, m = (fmX9_unasked M2) := ⟨_, rfl⟩
      rw [← eM8] at hG7 ⊢
      replace H := H M8 eM8
      obtain ⟨z1, H⟩ := H
      exact T_zret dX2_takeSteps_46 rfl z1 ⟨rfl, hG7, _, rfl, H⟩
    · skip
      replace H := H.1 c6
      refine T_iload_n (i := 3) (pc' := 34) dX2_takeSteps_33 rfl rfl rfl ?_
      refine T_bipush (pc' := 36) dX2_takeSteps_34 rfl (by decide) rfl ?_
      refine T_icmp_le (pc' := 47) dX2_takeSteps_36 (by decide) (pf := 39) rfl (fun c9 => ?_) (fun c9 => ?_)
      · skip
        replace H := H.1 c9
        refine T_iconst (pc' := 48) dX2_takeSteps_47 (by decide) rfl ?_
        refine T_istore (i := 4) (L' := [(2, 4), (2, (g + 1)), (0, v2), (0, (fX9_letters M2)), (0, 0), (3, 0)]) (pc' := 50) dX2_takeSteps_48 (by decide) rfl rfl ?_
        obtain ⟨k10, H⟩ := H
        refine T_wk (L' := [(2, 4), (2, (g + 1)), (0, v2), (0, (fX9_letters M2)), (0, 0), (3, 0)]) (qX2_takeSteps_50 (v2 := v2) (v3 := (fX9_letters M2)) hg (fun M11 H hG12 => ?_) _ _ _ H hG3) ⟨Or.inr rfl, Or.inr rfl, Or.inr rfl, Or.inr rfl, Or.inr rfl, Or.inl rfl, trivial⟩
        refine T_aload_n (i := 1) (pc' := 107) dX2_takeSteps_106 rfl rfl rfl ?_
        refine U_grN (q := (g + 7)) (k := 5) (kI := 5) (pc' := 110) dX2_takeSteps_107 rfl cl4 (pog1 hg) (shg1 hg) (by decide) flX2_226 rfl rfl rfl (grg1_5 hg hG12) (pog7 hg) rfl ?_
        refine T_iload_n (i := 2) (pc' := 111) dX2_takeSteps_110 rfl rfl rfl ?_
        refine T_iload_n (i := 3) (pc' := 112) dX2_takeSteps_111 rfl rfl rfl ?_
        refine T_callSN (av := [(2, (g + 7)), (0, v2), (0, (fX9_letters M2))]) (st := []) (d2 := 1) (nc2 := 0) (ns2 := 0) (pc' := 115) dX2_takeSteps_112 rfl mtX11_put mvX11_put mlX2_152 rfl rfl (Nat.le_of_ble_eq_true rfl) (by decide) ⟨by decide, by decide⟩ rfl (pX11_put (E := E) (h := h) (M := M11) (p0 := (g + 7)) (np0 := 9) (v1 := v2) (v2 := (fX9_letters M2)) (pog7 hg) (shg7 hg) (by decide) hG12) (kF (st2 := []) rfl (fun hG13 => ?_))
        obtain ⟨M14, eM14⟩ : ∃ m : Mem, m = (fmX11_put M11 (g + 7) 9 v2 (fX9_letters M2)) := ⟨_, rfl⟩
        rw [← eM14] at hG13 ⊢
        replace H := H M14 eM14
        refine T_aload_n (i := 0) (pc' := 116) dX2_takeSteps_115 rfl rfl rfl ?_
        refine U_gr (q := 3) (k := 0) (kI := 0) (pc' := 119) dX2_takeSteps_116 rfl cl2 (by decide) rfl (by decide) flX2_9 rfl rfl rfl (G_at hG13 11 rfl) (by decide) rfl ?_
        refine T_callV (av := []) (st := []) (d2 := 2) (nc2 := 0) (ns2 := 0) (pc' := 122) dX2_takeSteps_119 rfl mtX9_next mvX9_next mlX2_60 cl9 rfl rfl rfl (Nat.le_of_ble_eq_true rfl) (by decide) ⟨by decide, by decide⟩ rfl (pX9_next (E := E) (h := h) (M := M14) H hG13) ?_
        rintro _ _ M16 ⟨rfl, hG17, rfl, H⟩ _
        refine T_iconst (pc' := 123) dX2_takeSteps_122 (by decide) rfl ?_
        exact T_zret dX2_takeSteps_123 rfl (by decide) ⟨rfl, hG17, _, rfl, H⟩
      · skip
        replace H := H.2 c9
        refine T_aload_n (i := 0) (pc' := 40) dX2_takeSteps_39 rfl rfl rfl ?_
        refine U_gr (q := 3) (k := 0) (kI := 0) (pc' := 43) dX2_takeSteps_40 rfl cl2 (by decide) rfl (by decide) flX2_9 rfl rfl rfl (G_at hG3 11 rfl) (by decide) rfl ?_
        refine T_callV (av := []) (st := []) (d2 := 2) (nc2 := 0) (ns2 := 0) (pc' := 46) dX2_takeSteps_43 rfl mtX9_unasked mvX9_unasked mlX2_43 cl9 rfl rfl rfl (Nat.le_of_ble_eq_true rfl) (by decide) ⟨by decide, by decide⟩ rfl (pX9_unasked (E := E) (h := h) (M := M2) hG3) (kF (st2 := [(0, fX9_unasked)]) rfl (fun hG18 => ?_))
        obtain ⟨M19, eM19⟩ : ∃ m : Mem, m = (fmX9_unasked M2) := ⟨_, rfl⟩
        rw [← eM19] at hG18 ⊢
        replace H := H M19 eM19
        obtain ⟨z1, H⟩ := H
        exact T_zret dX2_takeSteps_46 rfl z1 ⟨rfl, hG18, _, rfl, H⟩
  · skip
    replace H := H.1 c4
    refine T_iconst (pc' := 13) dX2_takeSteps_12 (by decide) rfl ?_
    exact T_zret dX2_takeSteps_13 rfl (by decide) ⟨rfl, hG3, _, rfl, H⟩
def PX2_takePerson (g : Int) (M : Mem) (Q : Int → Mem → Prop) : Prop :=
  PX2_takeName g M (fun a1 M2 => ((a1 = (-1) → Q 0 M2) ∧ (¬ (a1 = (-1)) → PX9_takeWord 1001 1 M2 (fun a5 M6 => ((a5 = 0 → Q 0 M6) ∧ (¬ (a5 = 0) → PX2_takeCell g 3 M6 (fun a9 M10 => ((a9 = (-1) → Q 0 M10) ∧ (¬ (a9 = (-1)) → PX2_takeSlow g (M (g + 1) 8) M10 (fun a13 M14 => ((a13 = 0 → Q 0 M14) ∧ (¬ (a13 = 0) → PX2_numberBehind 1003 3 0 9 M14 (fun a17 M18 => ((a17 = (-1) → Q 0 M18) ∧ (¬ (a17 = (-1)) → PX2_numberBehind 1004 4 0 4 M18 (fun a21 M22 => ((a21 = (-1) → Q 0 M22) ∧ (¬ (a21 = (-1)) → PX2_takeSteps g (M (g + 1) 8) M22 (fun a25 M26 => ((a25 = 0 → Q 0 M26) ∧ (¬ (a25 = 0) → (∀ M30 : Mem, M30 = (fmX11_put M26 (g + 2) 9 (M (g + 1) 8) a1) → (∀ M32 : Mem, M32 = (fmX11_put M30 (g + 3) 9 (M (g + 1) 8) a9) → (∀ M34 : Mem, M34 = (fmX11_put M32 (g + 5) 9 (M (g + 1) 8) a17) → (∀ M36 : Mem, M36 = (fmX11_put M34 (g + 6) 9 (M (g + 1) 8) a21) → (∀ a38 : Int, a38 = (fX9_find M36 1006 6) → ((a38 = 0 → (∀ M43 : Mem, M43 = (mset M36 (g + 1) 7 (m_or (M36 (g + 1) 7) (m_shl 1 (M (g + 1) 8)))) → PX9_next M43 (fun _ M45 => (∀ M48 : Mem, M48 = (mset M45 (g + 1) 8 (wr32 ((M45 (g + 1) 8) + 1))) → Q 1 M48)))) ∧ (¬ (a38 = 0) → (∀ M41 : Mem, M41 = (mset M36 (g + 1) 8 (wr32 ((M36 (g + 1) 8) + 1))) → Q 1 M41)))))))))))))))))))))))))))))
set_option maxRecDepth 100000 in
set_option maxHeartbeats 2000000 in
theorem pX2_takePerson {E : EV} {h : Int} {M : Mem} {g : Int} (hg : isG g) {Q : Int → Mem → Prop} (H : PX2_takePerson g M Q) : C2 E miX2_takePerson 9 h [(2, 4), (2, g)] M (RI 0 Q) := by
  refine C2_of (L := [(2, 4), (2, g), (3, 0), (3, 0), (3, 0), (3, 0), (3, 0), (3, 0)]) (by decide +kernel) (Nat.le_of_ble_eq_true rfl) rfl (fun hG => ?_)
  refine T_aload_n (i := 1) (pc' := 1) dX2_takePerson_0 rfl rfl rfl ?_
  refine U_grN (q := (g + 1)) (k := 0) (kI := 0) (pc' := 4) dX2_takePerson_1 rfl cl1 (pog0 hg) (shg0 hg) (by decide) flX2_91 rfl rfl rfl (grg0_0 hg hG) (pog1 hg) rfl ?_
  refine T_astore_n (i := 2) (L' := [(2, 4), (2, g), (2, (g + 1)), (3, 0), (3, 0), (3, 0), (3, 0), (3, 0)]) (pc' := 5) dX2_takePerson_4 rfl (by decide) rfl rfl ?_
  refine T_aload_n (i := 2) (pc' := 6) dX2_takePerson_5 rfl rfl rfl ?_
  refine U_gfN (v := (0, (M (g + 1) 8))) (k := 8) (kI := 8) (pc' := 9) dX2_takePerson_6 rfl cl4 (pog1 hg) (shg1 hg) (by decide) flX2_95 rfl rfl (by decide) rfl rfl ?_
  refine T_istore_n (i := 3) (L' := [(2, 4), (2, g), (2, (g + 1)), (0, (M (g + 1) 8)), (3, 0), (3, 0), (3, 0), (3, 0)]) (pc' := 10) dX2_takePerson_9 rfl (by decide) rfl rfl ?_
  refine T_aload_n (i := 0) (pc' := 11) dX2_takePerson_10 rfl rfl rfl ?_
  refine T_aload_n (i := 1) (pc' := 12) dX2_takePerson_11 rfl rfl rfl ?_
  refine T_callV (av := [(2, g)]) (st := []) (d2 := 7) (nc2 := 0) (ns2 := 0) (pc' := 15) dX2_takePerson_12 rfl mtX2_takeName mvX2_takeName mlX2_172 cl2 rfl rfl rfl (Nat.le_of_ble_eq_true rfl) (by decide) ⟨by decide, by decide⟩ rfl (pX2_takeName (E := E) (h := h) (M := M) (g := g) hg H hG) ?_
  rintro _ _ M2 ⟨rfl, hG3, a1, rfl, H⟩ _
  refine T_istore (i := 4) (L' := [(2, 4), (2, g), (2, (g + 1)), (0, (M (g + 1) 8)), (0, a1), (3, 0), (3, 0), (3, 0)]) (pc' := 17) dX2_takePerson_15 (by decide) rfl rfl ?_
  refine T_iload (i := 4) (pc' := 19) dX2_takePerson_17 rfl rfl ?_
  refine T_iconst (pc' := 20) dX2_takePerson_19 (by decide) rfl ?_
  refine T_icmp_eq (pc' := 35) dX2_takePerson_20 (by decide) (pf := 23) rfl (fun c4 => ?_) (fun c4 => ?_)
  · skip
    replace H := H.1 c4
    refine T_iconst (pc' := 36) dX2_takePerson_35 (by decide) rfl ?_
    exact T_zret dX2_takePerson_36 rfl (by decide) ⟨rfl, hG3, _, rfl, H⟩
  · skip
    replace H := H.2 c4
    refine T_aload_n (i := 0) (pc' := 24) dX2_takePerson_23 rfl rfl rfl ?_
    refine U_gr (q := 3) (k := 0) (kI := 0) (pc' := 27) dX2_takePerson_24 rfl cl2 (by decide) rfl (by decide) flX2_9 rfl rfl rfl (G_at hG3 11 rfl) (by decide) rfl ?_
    refine T_ldcS (i := 1) (x := 1001) (pc' := 29) dX2_takePerson_27 rfl rfl rfl rfl ?_
    refine T_callV (av := [(2, 1001)]) (st := []) (d2 := 7) (nc2 := 0) (ns2 := 0) (pc' := 32) dX2_takePerson_29 rfl mtX9_takeWord mvX9_takeWord mlX2_103 cl9 rfl rfl rfl (Nat.le_of_ble_eq_true rfl) (by decide) ⟨by decide, by decide⟩ rfl (pX9_takeWord (E := E) (h := h) (M := M2) (p1 := 1001) (s1 := 1) (by decide) rfl H hG3) ?_
    rintro _ _ M6 ⟨rfl, hG7, a5, rfl, H⟩ _
    refine T_if_ne (pc' := 37) dX2_takePerson_32 (by decide) (pf := 35) rfl (fun c8 => ?_) (fun c8 => ?_)
    · skip
      replace H := H.2 c8
      refine T_aload_n (i := 0) (pc' := 38) dX2_takePerson_37 rfl rfl rfl ?_
      refine T_aload_n (i := 1) (pc' := 39) dX2_takePerson_38 rfl rfl rfl ?_
      refine T_iconst (pc' := 40) dX2_takePerson_39 (by decide) rfl ?_
      refine T_callV (av := [(2, g), (0, 3)]) (st := []) (d2 := 4) (nc2 := 0) (ns2 := 0) (pc' := 43) dX2_takePerson_40 rfl mtX2_takeCell mvX2_takeCell mlX2_144 cl2 rfl rfl rfl (Nat.le_of_ble_eq_true rfl) (by decide) ⟨by decide, by decide⟩ rfl (pX2_takeCell (E := E) (h := h) (M := M6) (g := g) (v2 := 3) hg H hG7) ?_
      rintro _ _ M10 ⟨rfl, hG11, a9, rfl, H⟩ _
      refine T_istore (i := 5) (L' := [(2, 4), (2, g), (2, (g + 1)), (0, (M (g + 1) 8)), (0, a1), (0, a9), (3, 0), (3, 0)]) (pc' := 45) dX2_takePerson_43 (by decide) rfl rfl ?_
      refine T_iload (i := 5) (pc' := 47) dX2_takePerson_45 rfl rfl ?_
      refine T_iconst (pc' := 48) dX2_takePerson_47 (by decide) rfl ?_
      refine T_icmp_eq (pc' := 60) dX2_takePerson_48 (by decide) (pf := 51) rfl (fun c12 => ?_) (fun c12 => ?_)
      · skip
        replace H := H.1 c12
        refine T_iconst (pc' := 61) dX2_takePerson_60 (by decide) rfl ?_
        exact T_zret dX2_takePerson_61 rfl (by decide) ⟨rfl, hG11, _, rfl, H⟩
      · skip
        replace H := H.2 c12
        refine T_aload_n (i := 0) (pc' := 52) dX2_takePerson_51 rfl rfl rfl ?_
        refine T_aload_n (i := 2) (pc' := 53) dX2_takePerson_52 rfl rfl rfl ?_
        refine T_iload_n (i := 3) (pc' := 54) dX2_takePerson_53 rfl rfl rfl ?_
        refine T_callV (av := [(2, (g + 1)), (0, (M (g + 1) 8))]) (st := []) (d2 := 8) (nc2 := 0) (ns2 := 0) (pc' := 57) dX2_takePerson_54 rfl mtX2_takeSlow mvX2_takeSlow mlX2_178 cl2 rfl rfl rfl (Nat.le_of_ble_eq_true rfl) (by decide) ⟨by decide, by decide⟩ rfl (pX2_takeSlow (E := E) (h := h) (M := M10) (g := g) (v2 := (M (g + 1) 8)) hg H hG11) ?_
        rintro _ _ M14 ⟨rfl, hG15, a13, rfl, H⟩ _
        refine T_if_ne (pc' := 62) dX2_takePerson_57 (by decide) (pf := 60) rfl (fun c16 => ?_) (fun c16 => ?_)
        · skip
          replace H := H.2 c16
          refine T_aload_n (i := 0) (pc' := 63) dX2_takePerson_62 rfl rfl rfl ?_
          refine T_ldcS (i := 3) (x := 1003) (pc' := 65) dX2_takePerson_63 rfl rfl rfl rfl ?_
          refine T_iconst (pc' := 66) dX2_takePerson_65 (by decide) rfl ?_
          refine T_bipush (pc' := 68) dX2_takePerson_66 rfl (by decide) rfl ?_
          refine T_callV (av := [(2, 1003), (0, 0), (0, 9)]) (st := []) (d2 := 8) (nc2 := 0) (ns2 := 0) (pc' := 71) dX2_takePerson_68 rfl mtX2_numberBehind mvX2_numberBehind mlX2_184 cl2 rfl rfl rfl (Nat.le_of_ble_eq_true rfl) (by decide) ⟨by decide, by decide⟩ rfl (pX2_numberBehind (E := E) (h := h) (M := M14) (p1 := 1003) (s1 := 3) (v2 := 0) (v3 := 9) (by decide) rfl H hG15) ?_
          rintro _ _ M18 ⟨rfl, hG19, a17, rfl, H⟩ _
          refine T_istore (i := 6) (L' := [(2, 4), (2, g), (2, (g + 1)), (0, (M (g + 1) 8)), (0, a1), (0, a9), (0, a17), (3, 0)]) (pc' := 73) dX2_takePerson_71 (by decide) rfl rfl ?_
          refine T_iload (i := 6) (pc' := 75) dX2_takePerson_73 rfl rfl ?_
          refine T_iconst (pc' := 76) dX2_takePerson_75 (by decide) rfl ?_
          refine T_icmp_ne (pc' := 81) dX2_takePerson_76 (by decide) (pf := 79) rfl (fun c20 => ?_) (fun c20 => ?_)
          · skip
            replace H := H.2 c20
            refine T_aload_n (i := 0) (pc' := 82) dX2_takePerson_81 rfl rfl rfl ?_
            refine T_ldcS (i := 4) (x := 1004) (pc' := 84) dX2_takePerson_82 rfl rfl rfl rfl ?_
            refine T_iconst (pc' := 85) dX2_takePerson_84 (by decide) rfl ?_
            refine T_iconst (pc' := 86) dX2_takePerson_85 (by decide) rfl ?_
            refine T_callV (av := [(2, 1004), (0, 0), (0, 4)]) (st := []) (d2 := 8) (nc2 := 0) (ns2 := 0) (pc' := 89) dX2_takePerson_86 rfl mtX2_numberBehind mvX2_numberBehind mlX2_184 cl2 rfl rfl rfl (Nat.le_of_ble_eq_true rfl) (by decide) ⟨by decide, by decide⟩ rfl (pX2_numberBehind (E := E) (h := h) (M := M18) (p1 := 1004) (s1 := 4) (v2 := 0) (v3 := 4) (by decide) rfl H hG19) ?_
            rintro _ _ M22 ⟨rfl, hG23, a21, rfl, H⟩ _
            refine T_istore (i := 7) (L' := [(2, 4), (2, g), (2, (g + 1)), (0, (M (g + 1) 8)), (0, a1), (0, a9), (0, a17), (0, a21)]) (pc' := 91) dX2_takePerson_89 (by decide) rfl rfl ?_
            refine T_iload (i := 7) (pc' := 93) dX2_takePerson_91 rfl rfl ?_
            refine T_iconst (pc' := 94) dX2_takePerson_93 (by decide) rfl ?_
            refine T_icmp_eq (pc' := 106) dX2_takePerson_94 (by decide) (pf := 97) rfl (fun c24 => ?_) (fun c24 => ?_)
            · skip
              replace H := H.1 c24
              refine T_iconst (pc' := 107) dX2_takePerson_106 (by decide) rfl ?_
              exact T_zret dX2_takePerson_107 rfl (by decide) ⟨rfl, hG23, _, rfl, H⟩
            · skip
              replace H := H.2 c24
              refine T_aload_n (i := 0) (pc' := 98) dX2_takePerson_97 rfl rfl rfl ?_
              refine T_aload_n (i := 2) (pc' := 99) dX2_takePerson_98 rfl rfl rfl ?_
              refine T_iload_n (i := 3) (pc' := 100) dX2_takePerson_99 rfl rfl rfl ?_
              refine T_callV (av := [(2, (g + 1)), (0, (M (g + 1) 8))]) (st := []) (d2 := 8) (nc2 := 0) (ns2 := 0) (pc' := 103) dX2_takePerson_100 rfl mtX2_takeSteps mvX2_takeSteps mlX2_190 cl2 rfl rfl rfl (Nat.le_of_ble_eq_true rfl) (by decide) ⟨by decide, by decide⟩ rfl (pX2_takeSteps (E := E) (h := h) (M := M22) (g := g) (v2 := (M (g + 1) 8)) hg H hG23) ?_
              rintro _ _ M26 ⟨rfl, hG27, a25, rfl, H⟩ _
              refine T_if_ne (pc' := 108) dX2_takePerson_103 (by decide) (pf := 106) rfl (fun c28 => ?_) (fun c28 => ?_)
              · skip
                replace H := H.2 c28
                refine T_aload_n (i := 2) (pc' := 109) dX2_takePerson_108 rfl rfl rfl ?_
                refine U_grN (q := (g + 2)) (k := 0) (kI := 0) (pc' := 112) dX2_takePerson_109 rfl cl4 (pog1 hg) (shg1 hg) (by decide) flX2_193 rfl rfl rfl (grg1_0 hg hG27) (pog2 hg) rfl ?_
                refine T_iload_n (i := 3) (pc' := 113) dX2_takePerson_112 rfl rfl rfl ?_
                refine T_iload (i := 4) (pc' := 115) dX2_takePerson_113 rfl rfl ?_
                refine T_callSN (av := [(2, (g + 2)), (0, (M (g + 1) 8)), (0, a1)]) (st := []) (d2 := 1) (nc2 := 0) (ns2 := 0) (pc' := 118) dX2_takePerson_115 rfl mtX11_put mvX11_put mlX2_152 rfl rfl (Nat.le_of_ble_eq_true rfl) (by decide) ⟨by decide, by decide⟩ rfl (pX11_put (E := E) (h := h) (M := M26) (p0 := (g + 2)) (np0 := 9) (v1 := (M (g + 1) 8)) (v2 := a1) (pog2 hg) (shg2 hg) (by decide) hG27) (kF (st2 := []) rfl (fun hG29 => ?_))
                obtain ⟨M30, eM30⟩ : ∃ m : Mem, m = (fmX11_put M26 (g + 2) 9 (M (g + 1) 8) a1) := ⟨_, rfl⟩
                rw [← eM30] at hG29 ⊢
                replace H := H M30 eM30
                refine T_aload_n (i := 2) (pc' := 119) dX2_takePerson_118 rfl rfl rfl ?_
                refine U_grN (q := (g + 3)) (k := 1) (kI := 1) (pc' := 122) dX2_takePerson_119 rfl cl4 (pog1 hg) (shg1 hg) (by decide) flX2_196 rfl rfl rfl (grg1_1 hg hG29) (pog3 hg) rfl ?_
                refine T_iload_n (i := 3) (pc' := 123) dX2_takePerson_122 rfl rfl rfl ?_
                refine T_iload (i := 5) (pc' := 125) dX2_takePerson_123 rfl rfl ?_
                refine T_callSN (av := [(2, (g + 3)), (0, (M (g + 1) 8)), (0, a9)]) (st := []) (d2 := 1) (nc2 := 0) (ns2 := 0) (pc' := 128) dX2_takePerson_125 rfl mtX11_put mvX11_put mlX2_152 rfl rfl (Nat.le_of_ble_eq_true rfl) (by decide) ⟨by decide, by decide⟩ rfl (pX11_put (E := E) (h := h) (M := M30) (p0 := (g + 3)) (np0 := 9) (v1 := (M (g + 1) 8)) (v2 := a9) (pog3 hg) (shg3 hg) (by decide) hG29) (kF (st2 := []) rfl (fun hG31 => ?_))
                obtain ⟨M32, eM32⟩ : ∃ m : Mem, m = (fmX11_put M30 (g + 3) 9 (M (g + 1) 8) a9) := ⟨_, rfl⟩
                rw [← eM32] at hG31 ⊢
                replace H := H M32 eM32
                refine T_aload_n (i := 2) (pc' := 129) dX2_takePerson_128 rfl rfl rfl ?_
                refine U_grN (q := (g + 5)) (k := 3) (kI := 3) (pc' := 132) dX2_takePerson_129 rfl cl4 (pog1 hg) (shg1 hg) (by decide) flX2_199 rfl rfl rfl (grg1_3 hg hG31) (pog5 hg) rfl ?_
                refine T_iload_n (i := 3) (pc' := 133) dX2_takePerson_132 rfl rfl rfl ?_
                refine T_iload (i := 6) (pc' := 135) dX2_takePerson_133 rfl rfl ?_
                refine T_callSN (av := [(2, (g + 5)), (0, (M (g + 1) 8)), (0, a17)]) (st := []) (d2 := 1) (nc2 := 0) (ns2 := 0) (pc' := 138) dX2_takePerson_135 rfl mtX11_put mvX11_put mlX2_152 rfl rfl (Nat.le_of_ble_eq_true rfl) (by decide) ⟨by decide, by decide⟩ rfl (pX11_put (E := E) (h := h) (M := M32) (p0 := (g + 5)) (np0 := 9) (v1 := (M (g + 1) 8)) (v2 := a17) (pog5 hg) (shg5 hg) (by decide) hG31) (kF (st2 := []) rfl (fun hG33 => ?_))
                obtain ⟨M34, eM34⟩ : ∃ m : Mem, m = (fmX11_put M32 (g + 5) 9 (M (g + 1) 8) a17) := ⟨_, rfl⟩
                rw [← eM34] at hG33 ⊢
                replace H := H M34 eM34
                refine T_aload_n (i := 2) (pc' := 139) dX2_takePerson_138 rfl rfl rfl ?_
                refine U_grN (q := (g + 6)) (k := 4) (kI := 4) (pc' := 142) dX2_takePerson_139 rfl cl4 (pog1 hg) (shg1 hg) (by decide) flX2_202 rfl rfl rfl (grg1_4 hg hG33) (pog6 hg) rfl ?_
                refine T_iload_n (i := 3) (pc' := 143) dX2_takePerson_142 rfl rfl rfl ?_
                refine T_iload (i := 7) (pc' := 145) dX2_takePerson_143 rfl rfl ?_
                refine T_callSN (av := [(2, (g + 6)), (0, (M (g + 1) 8)), (0, a21)]) (st := []) (d2 := 1) (nc2 := 0) (ns2 := 0) (pc' := 148) dX2_takePerson_145 rfl mtX11_put mvX11_put mlX2_152 rfl rfl (Nat.le_of_ble_eq_true rfl) (by decide) ⟨by decide, by decide⟩ rfl (pX11_put (E := E) (h := h) (M := M34) (p0 := (g + 6)) (np0 := 9) (v1 := (M (g + 1) 8)) (v2 := a21) (pog6 hg) (shg6 hg) (by decide) hG33) (kF (st2 := []) rfl (fun hG35 => ?_))
                obtain ⟨M36, eM36⟩ : ∃ m : Mem, m = (fmX11_put M34 (g + 6) 9 (M (g + 1) 8) a21) := ⟨_, rfl⟩
                rw [← eM36] at hG35 ⊢
                replace H := H M36 eM36
                refine T_aload_n (i := 0) (pc' := 149) dX2_takePerson_148 rfl rfl rfl ?_
                refine U_gr (q := 3) (k := 0) (kI := 0) (pc' := 152) dX2_takePerson_149 rfl cl2 (by decide) rfl (by decide) flX2_9 rfl rfl rfl (G_at hG35 11 rfl) (by decide) rfl ?_
                refine T_ldcS (i := 6) (x := 1006) (pc' := 154) dX2_takePerson_152 rfl rfl rfl rfl ?_
                refine T_callV (av := [(2, 1006)]) (st := []) (d2 := 6) (nc2 := 0) (ns2 := 0) (pc' := 157) dX2_takePerson_154 rfl mtX9_find mvX9_find mlX2_52 cl9 rfl rfl rfl (Nat.le_of_ble_eq_true rfl) (by decide) ⟨by decide, by decide⟩ rfl (pX9_find (E := E) (h := h) (M := M36) (p1 := 1006) (s1 := 6) (by decide) rfl hG35) (kF (st2 := [(0, (fX9_find M36 1006 6))]) rfl (fun hG37 => ?_))
                obtain ⟨a38, ea38⟩ : ∃ z : Int, z = (fX9_find M36 1006 6) := ⟨_, rfl⟩
                rw [← ea38]
                replace H := H a38 ea38
                refine T_if_ne (pc' := 179) dX2_takePerson_157 (by decide) (pf := 160) rfl (fun c39 => ?_) (fun c39 => ?_)
                · skip
                  replace H := H.2 c39
                  refine T_aload_n (i := 2) (pc' := 180) dX2_takePerson_179 rfl rfl rfl ?_
                  refine T_dup (pc' := 181) dX2_takePerson_180 (Nat.ne_of_beq_eq_false rfl) rfl ?_
                  refine U_gfN (v := (0, (M36 (g + 1) 8))) (k := 8) (kI := 8) (pc' := 184) dX2_takePerson_181 rfl cl4 (pog1 hg) (shg1 hg) (by decide) flX2_95 rfl rfl (by decide) rfl rfl ?_
                  refine T_iconst (pc' := 185) dX2_takePerson_184 (by decide) rfl ?_
                  refine T_iadd (pc' := 186) dX2_takePerson_185 rfl ?_
                  refine U_pfN (y := (wr32 ((M36 (g + 1) 8) + 1))) (k := 8) (kI := 8) (pc' := 189) dX2_takePerson_186 rfl cl4 (pog1 hg) (shg1 hg) (by decide) flX2_95 rfl rfl rfl rfl rfl (by decide) (fun z => z) rfl ?_
                  have hG40 := (G_fld (x := (g + 1)) (i := 8) (y := (wr32 ((M36 (g + 1) 8) + 1))) (shg1 hg) (by decide) (by decide) (pog1 hg) hG35)
                  obtain ⟨M41, eM41⟩ : ∃ m : Mem, m = (mset M36 (g + 1) 8 (wr32 ((M36 (g + 1) 8) + 1))) := ⟨_, rfl⟩
                  rw [← eM41] at hG40 ⊢
                  replace H := H M41 eM41
                  refine T_iconst (pc' := 190) dX2_takePerson_189 (by decide) rfl ?_
                  exact T_zret dX2_takePerson_190 rfl (by decide) ⟨rfl, hG40, _, rfl, H⟩
                · skip
                  replace H := H.1 c39
                  refine T_aload_n (i := 2) (pc' := 161) dX2_takePerson_160 rfl rfl rfl ?_
                  refine T_dup (pc' := 162) dX2_takePerson_161 (Nat.ne_of_beq_eq_false rfl) rfl ?_
                  refine U_gfN (v := (0, (M36 (g + 1) 7))) (k := 7) (kI := 7) (pc' := 165) dX2_takePerson_162 rfl cl4 (pog1 hg) (shg1 hg) (by decide) flX2_207 rfl rfl (by decide) rfl rfl ?_
                  refine T_iconst (pc' := 166) dX2_takePerson_165 (by decide) rfl ?_
                  refine T_iload_n (i := 3) (pc' := 167) dX2_takePerson_166 rfl rfl rfl ?_
                  refine T_ishl (pc' := 168) dX2_takePerson_167 rfl ?_
                  refine T_ior (pc' := 169) dX2_takePerson_168 rfl ?_
                  refine U_pfN (y := (m_or (M36 (g + 1) 7) (m_shl 1 (M (g + 1) 8)))) (k := 7) (kI := 7) (pc' := 172) dX2_takePerson_169 rfl cl4 (pog1 hg) (shg1 hg) (by decide) flX2_207 rfl rfl rfl rfl rfl (by decide) (fun z => z) rfl ?_
                  have hG42 := (G_fld (x := (g + 1)) (i := 7) (y := (m_or (M36 (g + 1) 7) (m_shl 1 (M (g + 1) 8)))) (shg1 hg) (by decide) (by decide) (pog1 hg) hG35)
                  obtain ⟨M43, eM43⟩ : ∃ m : Mem, m = (mset M36 (g + 1) 7 (m_or (M36 (g + 1) 7) (m_shl 1 (M (g + 1) 8)))) := ⟨_, rfl⟩
                  rw [← eM43] at hG42 ⊢
                  replace H := H M43 eM43
                  refine T_aload_n (i := 0) (pc' := 173) dX2_takePerson_172 rfl rfl rfl ?_
                  refine U_gr (q := 3) (k := 0) (kI := 0) (pc' := 176) dX2_takePerson_173 rfl cl2 (by decide) rfl (by decide) flX2_9 rfl rfl rfl (G_at hG42 11 rfl) (by decide) rfl ?_
                  refine T_callV (av := []) (st := []) (d2 := 2) (nc2 := 0) (ns2 := 0) (pc' := 179) dX2_takePerson_176 rfl mtX9_next mvX9_next mlX2_60 cl9 rfl rfl rfl (Nat.le_of_ble_eq_true rfl) (by decide) ⟨by decide, by decide⟩ rfl (pX9_next (E := E) (h := h) (M := M43) H hG42) ?_
                  rintro _ _ M45 ⟨rfl, hG46, rfl, H⟩ _
                  refine T_aload_n (i := 2) (pc' := 180) dX2_takePerson_179 rfl rfl rfl ?_
                  refine T_dup (pc' := 181) dX2_takePerson_180 (Nat.ne_of_beq_eq_false rfl) rfl ?_
                  refine U_gfN (v := (0, (M45 (g + 1) 8))) (k := 8) (kI := 8) (pc' := 184) dX2_takePerson_181 rfl cl4 (pog1 hg) (shg1 hg) (by decide) flX2_95 rfl rfl (by decide) rfl rfl ?_
                  refine T_iconst (pc' := 185) dX2_takePerson_184 (by decide) rfl ?_
                  refine T_iadd (pc' := 186) dX2_takePerson_185 rfl ?_
                  refine U_pfN (y := (wr32 ((M45 (g + 1) 8) + 1))) (k := 8) (kI := 8) (pc' := 189) dX2_takePerson_186 rfl cl4 (pog1 hg) (shg1 hg) (by decide) flX2_95 rfl rfl rfl rfl rfl (by decide) (fun z => z) rfl ?_
                  have hG47 := (G_fld (x := (g + 1)) (i := 8) (y := (wr32 ((M45 (g + 1) 8) + 1))) (shg1 hg) (by decide) (by decide) (pog1 hg) hG46)
                  obtain ⟨M48, eM48⟩ : ∃ m : Mem, m = (mset M45 (g + 1) 8 (wr32 ((M45 (g + 1) 8) + 1))) := ⟨_, rfl⟩
                  rw [← eM48] at hG47 ⊢
                  replace H := H M48 eM48
                  refine T_iconst (pc' := 190) dX2_takePerson_189 (by decide) rfl ?_
                  exact T_zret dX2_takePerson_190 rfl (by decide) ⟨rfl, hG47, _, rfl, H⟩
              · skip
                replace H := H.1 c28
                refine T_iconst (pc' := 107) dX2_takePerson_106 (by decide) rfl ?_
                exact T_zret dX2_takePerson_107 rfl (by decide) ⟨rfl, hG27, _, rfl, H⟩
          · skip
            replace H := H.1 c20
            refine T_iconst (pc' := 80) dX2_takePerson_79 (by decide) rfl ?_
            exact T_zret dX2_takePerson_80 rfl (by decide) ⟨rfl, hG19, _, rfl, H⟩
        · skip
          replace H := H.1 c16
          refine T_iconst (pc' := 61) dX2_takePerson_60 (by decide) rfl ?_
          exact T_zret dX2_takePerson_61 rfl (by decide) ⟨rfl, hG15, _, rfl, H⟩
    · skip
      replace H := H.1 c8
      refine T_iconst (pc' := 36) dX2_takePerson_35 (by decide) rfl ?_
      exact T_zret dX2_takePerson_36 rfl (by decide) ⟨rfl, hG7, _, rfl, H⟩
