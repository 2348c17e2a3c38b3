/-! methods as propositions, 8 -/
def PX12_text_70  (K : Mem → Prop) (Q : Int → Mem → Prop) : Nat → Int → Mem → Prop
  | 0 => fun _ _ => False
  | k + 1 => fun v1 M => ((3 ≤ v1 → K M) ∧ (¬ (3 ≤ v1) → 0 ≤ v1 ∧ v1 < 6 ∧ (∀ M3 : Mem, M3 = (mset M 85 v1 0) → PX12_text_70  K Q k (wr32 (v1 + 1)) M3)))
def PX12_text_90  (K : Mem → Prop) (Q : Int → Mem → Prop) : Nat → Int → Mem → Prop
  | 0 => fun _ _ => False
  | k + 1 => fun v1 M => ((54 ≤ v1 → K M) ∧ (¬ (54 ≤ v1) → 0 ≤ v1 ∧ v1 < 108 ∧ (∀ M3 : Mem, M3 = (mset M 87 v1 0) → PX12_text_90  K Q k (wr32 (v1 + 1)) M3)))
def PX12_text_150  (K : Mem → Prop) (Q : Int → Mem → Prop) : Nat → Mem → Prop
  | 0 => fun _ => False
  | k + 1 => fun M => (((M 66 5) = 0 → PX12_look M (fun a2 M3 => ((a2 = (-1) → K M3) ∧ (¬ (a2 = (-1)) → PX12_statementTold M3 (fun _ M7 => PX12_text_150  K Q k M7))))) ∧ (¬ ((M 66 5) = 0) → K M))
def PX12_text  (M : Mem) (Q : Int → Mem → Prop) : Prop :=
  (∀ M2 : Mem, M2 = (mset M 66 3 (M 66 1)) → (∀ M4 : Mem, M4 = (mset M2 66 1 0) → (∀ M6 : Mem, M6 = (mset M4 66 2 0) → (∀ M8 : Mem, M8 = (mset M6 66 4 (-1)) → (∀ M10 : Mem, M10 = (mset M8 66 5 0) → (∀ M12 : Mem, M12 = (mset M10 66 6 (-1)) → (∀ M14 : Mem, M14 = (mset M12 66 37 0) → (∀ M16 : Mem, M16 = (mset M14 91 0 60) → (∀ M18 : Mem, M18 = (mset M16 91 1 20) → (∀ M20 : Mem, M20 = (mset M18 91 2 1) → (∀ M22 : Mem, M22 = (mset M20 91 3 3) → (∃ k23 : Nat, PX12_text_70 (fun M24 => (∃ k26 : Nat, PX12_text_90 (fun M27 => PX12_asks 68 4 M27 (fun _ M30 => PX12_number 2 9 M30 (fun a32 M33 => (∀ M36 : Mem, M36 = (mset M33 66 35 a32) → PX12_number 2 6 M36 (fun a37 M38 => (∀ M41 : Mem, M41 = (mset M38 66 36 a37) → PX12_asksSign 59 M41 (fun _ M43 => (∀ M46 : Mem, M46 = (mset M43 66 40 1) → (∃ k47 : Nat, PX12_text_150 (fun M48 => (∀ M51 : Mem, M51 = (mset M48 66 7 (M48 66 5)) → (∀ M53 : Mem, M53 = (mset M51 66 8 (M51 66 6)) → (((M53 66 5) = 0 → (nX12_stands M53) ∧ (∀ M57 : Mem, M57 = (fmX12_stands M53) → Q (M57 66 40) M57)) ∧ (¬ ((M53 66 5) = 0) → Q (-1) M53))))) Q k47 M46))))))))) Q k26 0 M24)) Q k23 0 M22))))))))))))
set_option maxRecDepth 100000 in
set_option maxHeartbeats 2000000 in
theorem qX12_text_70 {E : EV} {h : Int}   {K : Mem → Prop} {Q : Int → Mem → Prop} (hK : ∀ (M : Mem), K M → G h M → TG E miX12_text 8 h (RI 0 Q) 88 [(2, 66), (3, 0)] [] M) : ∀ (k : Nat) (v1 : Int) (M : Mem), PX12_text_70  K Q k v1 M → G h M → TG E miX12_text 8 h (RI 0 Q) 70 [(2, 66), (0, v1)] [] M := by
  intro k
  induction k with
  | zero =>
    intro v1 M H
    exact False.elim H
  | succ k ih =>
    intro v1 M H hG
    refine T_iload_n (i := 1) (pc' := 71) dX12_text_70 rfl rfl rfl ?_
    refine T_iconst (pc' := 72) dX12_text_71 (by decide) rfl ?_
    refine T_icmp_ge (pc' := 88) dX12_text_72 (by decide) (pf := 75) rfl (fun c1 => ?_) (fun c1 => ?_)
    · skip
      replace H := H.1 c1
      exact T_wk (L' := [(2, 66), (3, 0)]) (hK _ H hG) ⟨Or.inr rfl, Or.inl rfl, trivial⟩
    · skip
      replace H := H.2 c1
      refine T_aload_n (i := 0) (pc' := 76) dX12_text_75 rfl rfl rfl ?_
      refine U_gr (q := 85) (k := 28) (kI := 28) (pc' := 79) dX12_text_76 rfl cl12 (by decide) rfl (by decide) flX12_69 rfl rfl rfl (G_at hG 85 rfl) (by decide) rfl ?_
      refine T_iload_n (i := 1) (pc' := 80) dX12_text_79 rfl rfl rfl ?_
      refine T_iconst (pc' := 81) dX12_text_80 (by decide) rfl ?_
      obtain ⟨z1, z2, H⟩ := H
      refine T_iast (pc' := 82) dX12_text_81 (by decide) rfl z1 z2 rfl ?_
      have hG2 := (G_arr (x := 85) (i := v1) (y := 0) rfl (by decide) hG)
      obtain ⟨M3, eM3⟩ : ∃ m : Mem, m = (mset M 85 v1 0) := ⟨_, rfl⟩
      rw [← eM3] at hG2 ⊢
      replace H := H M3 eM3
      refine T_iinc (L' := [(2, 66), (0, (wr32 (v1 + 1)))]) (pc' := 85) dX12_text_82 rfl (by decide) rfl rfl ?_
      refine T_goto (pc' := 70) dX12_text_85 (by decide) ?_
      exact T_wk (L' := [(2, 66), (0, (wr32 (v1 + 1)))]) (ih _ _ H hG2) ⟨Or.inr rfl, Or.inr rfl, trivial⟩
set_option maxRecDepth 100000 in
set_option maxHeartbeats 2000000 in
theorem qX12_text_90 {E : EV} {h : Int}   {K : Mem → Prop} {Q : Int → Mem → Prop} (hK : ∀ (M : Mem), K M → G h M → TG E miX12_text 8 h (RI 0 Q) 109 [(2, 66), (3, 0)] [] M) : ∀ (k : Nat) (v1 : Int) (M : Mem), PX12_text_90  K Q k v1 M → G h M → TG E miX12_text 8 h (RI 0 Q) 90 [(2, 66), (0, v1)] [] M := by
  intro k
  induction k with
  | zero =>
    intro v1 M H
    exact False.elim H
  | succ k ih =>
    intro v1 M H hG
    refine T_iload_n (i := 1) (pc' := 91) dX12_text_90 rfl rfl rfl ?_
    refine T_bipush (pc' := 93) dX12_text_91 rfl (by decide) rfl ?_
    refine T_icmp_ge (pc' := 109) dX12_text_93 (by decide) (pf := 96) rfl (fun c1 => ?_) (fun c1 => ?_)
    · skip
      replace H := H.1 c1
      exact T_wk (L' := [(2, 66), (3, 0)]) (hK _ H hG) ⟨Or.inr rfl, Or.inl rfl, trivial⟩
    · skip
      replace H := H.2 c1
      refine T_aload_n (i := 0) (pc' := 97) dX12_text_96 rfl rfl rfl ?_
      refine U_gr (q := 87) (k := 30) (kI := 30) (pc' := 100) dX12_text_97 rfl cl12 (by decide) rfl (by decide) flX12_76 rfl rfl rfl (G_at hG 87 rfl) (by decide) rfl ?_
      refine T_iload_n (i := 1) (pc' := 101) dX12_text_100 rfl rfl rfl ?_
      refine T_iconst (pc' := 102) dX12_text_101 (by decide) rfl ?_
      obtain ⟨z1, z2, H⟩ := H
      refine T_zast (pc' := 103) dX12_text_102 (by decide) rfl z1 z2 (by decide) rfl ?_
      have hG2 := (G_arr (x := 87) (i := v1) (y := 0) rfl (by decide) hG)
      obtain ⟨M3, eM3⟩ : ∃ m : Mem, m = (mset M 87 v1 0) := ⟨_, rfl⟩
      rw [← eM3] at hG2 ⊢
      replace H := H M3 eM3
      refine T_iinc (L' := [(2, 66), (0, (wr32 (v1 + 1)))]) (pc' := 106) dX12_text_103 rfl (by decide) rfl rfl ?_
      refine T_goto (pc' := 90) dX12_text_106 (by decide) ?_
      exact T_wk (L' := [(2, 66), (0, (wr32 (v1 + 1)))]) (ih _ _ H hG2) ⟨Or.inr rfl, Or.inr rfl, trivial⟩
set_option maxRecDepth 100000 in
set_option maxHeartbeats 2000000 in
theorem qX12_text_150 {E : EV} {h : Int}   {K : Mem → Prop} {Q : Int → Mem → Prop} (hK : ∀ (M : Mem), K M → G h M → TG E miX12_text 8 h (RI 0 Q) 172 [(2, 66), (3, 0)] [] M) : ∀ (k : Nat) (M : Mem), PX12_text_150  K Q k M → G h M → TG E miX12_text 8 h (RI 0 Q) 150 [(2, 66), (3, 0)] [] M := by
  intro k
  induction k with
  | zero =>
    intro M H
    exact False.elim H
  | succ k ih =>
    intro M H hG
    refine T_aload_n (i := 0) (pc' := 151) dX12_text_150 rfl rfl rfl ?_
    refine U_gf (v := (0, (M 66 5))) (k := 5) (kI := 5) (pc' := 154) dX12_text_151 rfl cl12 (by decide) rfl (by decide) flX12_201 rfl rfl (by decide) rfl rfl ?_
    refine T_if_ne (pc' := 172) dX12_text_154 (by decide) (pf := 157) rfl (fun c1 => ?_) (fun c1 => ?_)
    · skip
      replace H := H.2 c1
      exact T_wk (L' := [(2, 66), (3, 0)]) (hK _ H hG) ⟨Or.inr rfl, Or.inl rfl, trivial⟩
    · skip
      replace H := H.1 c1
      refine T_aload_n (i := 0) (pc' := 158) dX12_text_157 rfl rfl rfl ?_
      refine T_callV (av := []) (st := []) (d2 := 1) (nc2 := 0) (ns2 := 0) (pc' := 161) dX12_text_158 rfl mtX12_look mvX12_look mlX12_213 cl12 rfl rfl rfl (Nat.le_of_ble_eq_true rfl) (by decide) ⟨by decide, by decide⟩ rfl (pX12_look (E := E) (h := h) (M := M) H hG) ?_
      rintro _ _ M3 ⟨rfl, hG4, a2, rfl, H⟩ _
      refine T_iconst (pc' := 162) dX12_text_161 (by decide) rfl ?_
      refine T_icmp_eq (pc' := 172) dX12_text_162 (by decide) (pf := 165) rfl (fun c5 => ?_) (fun c5 => ?_)
      · skip
        replace H := H.1 c5
        exact T_wk (L' := [(2, 66), (3, 0)]) (hK _ H hG4) ⟨Or.inr rfl, Or.inl rfl, trivial⟩
      · skip
        replace H := H.2 c5
        refine T_aload_n (i := 0) (pc' := 166) dX12_text_165 rfl rfl rfl ?_
        refine T_callV (av := []) (st := []) (d2 := 7) (nc2 := 0) (ns2 := 0) (pc' := 169) dX12_text_166 rfl mtX12_statementTold mvX12_statementTold mlX12_325 cl12 rfl rfl rfl (Nat.le_of_ble_eq_true rfl) (by decide) ⟨by decide, by decide⟩ rfl (pX12_statementTold (E := E) (h := h) (M := M3) H hG4) ?_
        rintro _ _ M7 ⟨rfl, hG8, rfl, H⟩ _
        refine T_goto (pc' := 150) dX12_text_169 (by decide) ?_
        exact T_wk (L' := [(2, 66), (3, 0)]) (ih _ H hG8) ⟨Or.inr rfl, Or.inl rfl, trivial⟩
set_option maxRecDepth 100000 in
set_option maxHeartbeats 2000000 in
theorem pX12_text {E : EV} {h : Int} {M : Mem}   {Q : Int → Mem → Prop} (H : PX12_text  M Q) : C2 E miX12_text 8 h [(2, 66)] M (RI 0 Q) := by
  refine C2_of (L := [(2, 66), (3, 0)]) (by decide +kernel) (Nat.le_of_ble_eq_true rfl) rfl (fun hG => ?_)
  refine T_aload_n (i := 0) (pc' := 1) dX12_text_0 rfl rfl rfl ?_
  refine T_aload_n (i := 0) (pc' := 2) dX12_text_1 rfl rfl rfl ?_
  refine U_gf (v := (0, (M 66 1))) (k := 1) (kI := 1) (pc' := 5) dX12_text_2 rfl cl12 (by decide) rfl (by decide) flX12_198 rfl rfl (by decide) rfl rfl ?_
  refine U_pf (y := (M 66 1)) (k := 3) (kI := 3) (pc' := 8) dX12_text_5 rfl cl12 (by decide) rfl (by decide) flX12_210 rfl rfl rfl rfl rfl (by decide) (fun z => z) rfl ?_
  have hG1 := (G_fld (x := 66) (i := 3) (y := (M 66 1)) rfl (by decide) (by decide) (by decide) hG)
  obtain ⟨M2, eM2⟩ : ∃ m : Mem, m = (mset M 66 3 (M 66 1)) := ⟨_, rfl⟩
  rw [← eM2] at hG1 ⊢
  replace H := H M2 eM2
  refine T_aload_n (i := 0) (pc' := 9) dX12_text_8 rfl rfl rfl ?_
  refine T_iconst (pc' := 10) dX12_text_9 (by decide) rfl ?_
  refine U_pf (y := 0) (k := 1) (kI := 1) (pc' := 13) dX12_text_10 rfl cl12 (by decide) rfl (by decide) flX12_198 rfl rfl rfl rfl rfl (by decide) (fun z => z) rfl ?_
  have hG3 := (G_fld (x := 66) (i := 1) (y := 0) rfl (by decide) (by decide) (by decide) hG1)
  obtain ⟨M4, eM4⟩ : ∃ m : Mem, m = (mset M2 66 1 0) := ⟨_, rfl⟩
  rw [← eM4] at hG3 ⊢
  replace H := H M4 eM4
  refine T_aload_n (i := 0) (pc' := 14) dX12_text_13 rfl rfl rfl ?_
  refine T_iconst (pc' := 15) dX12_text_14 (by decide) rfl ?_
  refine U_pf (y := 0) (k := 2) (kI := 2) (pc' := 18) dX12_text_15 rfl cl12 (by decide) rfl (by decide) flX12_207 rfl rfl rfl rfl rfl (by decide) (fun z => z) rfl ?_
  have hG5 := (G_fld (x := 66) (i := 2) (y := 0) rfl (by decide) (by decide) (by decide) hG3)
  obtain ⟨M6, eM6⟩ : ∃ m : Mem, m = (mset M4 66 2 0) := ⟨_, rfl⟩
  rw [← eM6] at hG5 ⊢
  replace H := H M6 eM6
  refine T_aload_n (i := 0) (pc' := 19) dX12_text_18 rfl rfl rfl ?_
  refine T_iconst (pc' := 20) dX12_text_19 (by decide) rfl ?_
  refine U_pf (y := (-1)) (k := 4) (kI := 4) (pc' := 23) dX12_text_20 rfl cl12 (by decide) rfl (by decide) flX12_221 rfl rfl rfl rfl rfl (by decide) (fun z => z) rfl ?_
  have hG7 := (G_fld (x := 66) (i := 4) (y := (-1)) rfl (by decide) (by decide) (by decide) hG5)
  obtain ⟨M8, eM8⟩ : ∃ m : Mem, m = (mset M6 66 4 (-1)) := ⟨_, rfl⟩
  rw [← eM8] at hG7 ⊢
  replace H := H M8 eM8
  refine T_aload_n (i := 0) (pc' := 24) dX12_text_23 rfl rfl rfl ?_
  refine T_iconst (pc' := 25) dX12_text_24 (by decide) rfl ?_
  refine U_pf (y := 0) (k := 5) (kI := 5) (pc' := 28) dX12_text_25 rfl cl12 (by decide) rfl (by decide) flX12_201 rfl rfl rfl rfl rfl (by decide) (fun z => z) rfl ?_
  have hG9 := (G_fld (x := 66) (i := 5) (y := 0) rfl (by decide) (by decide) (by decide) hG7)
  obtain ⟨M10, eM10⟩ : ∃ m : Mem, m = (mset M8 66 5 0) := ⟨_, rfl⟩
  rw [← eM10] at hG9 ⊢
  replace H := H M10 eM10
  refine T_aload_n (i := 0) (pc' := 29) dX12_text_28 rfl rfl rfl ?_
  refine T_iconst (pc' := 30) dX12_text_29 (by decide) rfl ?_
  refine U_pf (y := (-1)) (k := 6) (kI := 6) (pc' := 33) dX12_text_30 rfl cl12 (by decide) rfl (by decide) flX12_204 rfl rfl rfl rfl rfl (by decide) (fun z => z) rfl ?_
  have hG11 := (G_fld (x := 66) (i := 6) (y := (-1)) rfl (by decide) (by decide) (by decide) hG9)
  obtain ⟨M12, eM12⟩ : ∃ m : Mem, m = (mset M10 66 6 (-1)) := ⟨_, rfl⟩
  rw [← eM12] at hG11 ⊢
  replace H := H M12 eM12
  refine T_aload_n (i := 0) (pc' := 34) dX12_text_33 rfl rfl rfl ?_
  refine T_iconst (pc' := 35) dX12_text_34 (by decide) rfl ?_
  refine U_pf (y := 0) (k := 37) (kI := 37) (pc' := 38) dX12_text_35 rfl cl12 (by decide) rfl (by decide) flX12_273 rfl rfl rfl rfl rfl (by decide) (fun z => z) rfl ?_
  have hG13 := (G_fld (x := 66) (i := 37) (y := 0) rfl (by decide) (by decide) (by decide) hG11)
  obtain ⟨M14, eM14⟩ : ∃ m : Mem, m = (mset M12 66 37 0) := ⟨_, rfl⟩
  rw [← eM14] at hG13 ⊢
  replace H := H M14 eM14
  refine T_aload_n (i := 0) (pc' := 39) dX12_text_38 rfl rfl rfl ?_
  refine U_gr (q := 91) (k := 34) (kI := 34) (pc' := 42) dX12_text_39 rfl cl12 (by decide) rfl (by decide) flX12_89 rfl rfl rfl (G_at hG13 91 rfl) (by decide) rfl ?_
  refine T_iconst (pc' := 43) dX12_text_42 (by decide) rfl ?_
  refine T_bipush (pc' := 45) dX12_text_43 rfl (by decide) rfl ?_
  refine T_iast (pc' := 46) dX12_text_45 (by decide) rfl (by decide) (by decide) rfl ?_
  have hG15 := (G_arr (x := 91) (i := 0) (y := 60) rfl (by decide) hG13)
  obtain ⟨M16, eM16⟩ : ∃ m : Mem, m = (mset M14 91 0 60) := ⟨_, rfl⟩
  rw [← eM16] at hG15 ⊢
  replace H := H M16 eM16
  refine T_aload_n (i := 0) (pc' := 47) dX12_text_46 rfl rfl rfl ?_
  refine U_gr (q := 91) (k := 34) (kI := 34) (pc' := 50) dX12_text_47 rfl cl12 (by decide) rfl (by decide) flX12_89 rfl rfl rfl (G_at hG15 91 rfl) (by decide) rfl ?_
  refine T_iconst (pc' := 51) dX12_text_50 (by decide) rfl ?_
  refine T_bipush (pc' := 53) dX12_text_51 rfl (by decide) rfl ?_
  refine T_iast (pc' := 54) dX12_text_53 (by decide) rfl (by decide) (by decide) rfl ?_
  have hG17 := (G_arr (x := 91) (i := 1) (y := 20) rfl (by decide) hG15)
  obtain ⟨M18, eM18⟩ : ∃ m : Mem, m = (mset M16 91 1 20) := ⟨_, rfl⟩
  rw [← eM18] at hG17 ⊢
  replace H := H M18 eM18
  refine T_aload_n (i := 0) (pc' := 55) dX12_text_54 rfl rfl rfl ?_
  refine U_gr (q := 91) (k := 34) (kI := 34) (pc' := 58) dX12_text_55 rfl cl12 (by decide) rfl (by decide) flX12_89 rfl rfl rfl (G_at hG17 91 rfl) (by decide) rfl ?_
  refine T_iconst (pc' := 59) dX12_text_58 (by decide) rfl ?_
  refine T_iconst (pc' := 60) dX12_text_59 (by decide) rfl ?_
  refine T_iast (pc' := 61) dX12_text_60 (by decide) rfl (by decide) (by decide) rfl ?_
  have hG19 := (G_arr (x := 91) (i := 2) (y := 1) rfl (by decide) hG17)
  obtain ⟨M20, eM20⟩ : ∃ m : Mem, m = (mset M18 91 2 1) := ⟨_, rfl⟩
  rw [← eM20] at hG19 ⊢
  replace H := H M20 eM20
  refine T_aload_n (i := 0) (pc' := 62) dX12_text_61 rfl rfl rfl ?_
  refine U_gr (q := 91) (k := 34) (kI := 34) (pc' := 65) dX12_text_62 rfl cl12 (by decide) rfl (by decide) flX12_89 rfl rfl rfl (G_at hG19 91 rfl) (by decide) rfl ?_
  refine T_iconst (pc' := 66) dX12_text_65 (by decide) rfl ?_
  refine T_iconst (pc' := 67) dX12_text_66 (by decide) rfl ?_
  refine T_iast (pc' := 68) dX12_text_67 (by decide) rfl (by decide) (by decide) rfl ?_
  have hG21 := (G_arr (x := 91) (i := 3) (y := 3) rfl (by decide) hG19)
  obtain ⟨M22, eM22⟩ : ∃ m : Mem, m = (mset M20 91 3 3) := ⟨_, rfl⟩
  rw [← eM22] at hG21 ⊢
  replace H := H M22 eM22
  refine T_iconst (pc' := 69) dX12_text_68 (by decide) rfl ?_
  refine T_istore_n (i := 1) (L' := [(2, 66), (0, 0)]) (pc' := 70) dX12_text_69 rfl (by decide) rfl rfl ?_
  obtain ⟨k23, H⟩ := H
  refine T_wk (L' := [(2, 66), (0, 0)]) (qX12_text_70  (fun M24 H hG25 => ?_) _ _ _ H hG21) ⟨Or.inr rfl, Or.inr rfl, trivial⟩
  refine T_iconst (pc' := 89) dX12_text_88 (by decide) rfl ?_
  refine T_istore_n (i := 1) (L' := [(2, 66), (0, 0)]) (pc' := 90) dX12_text_89 rfl (by decide) rfl rfl ?_
  obtain ⟨k26, H⟩ := H
  refine T_wk (L' := [(2, 66), (0, 0)]) (qX12_text_90  (fun M27 H hG28 => ?_) _ _ _ H hG25) ⟨Or.inr rfl, Or.inr rfl, trivial⟩
  refine T_aload_n (i := 0) (pc' := 110) dX12_text_109 rfl rfl rfl ?_
  refine T_aload_n (i := 0) (pc' := 111) dX12_text_110 rfl rfl rfl ?_
  refine U_gr (q := 68) (k := 10) (kI := 10) (pc' := 114) dX12_text_111 rfl cl12 (by decide) rfl (by decide) flX12_17 rfl rfl rfl (G_at hG28 68 rfl) (by decide) rfl ?_
  refine T_callV (av := [(2, 68)]) (st := []) (d2 := 4) (nc2 := 0) (ns2 := 0) (pc' := 117) dX12_text_114 rfl mtX12_asks mvX12_asks mlX12_296 cl12 rfl rfl rfl (Nat.le_of_ble_eq_true rfl) (by decide) ⟨by decide, by decide⟩ rfl (pX12_asks (E := E) (h := h) (M := M27) (p1 := 68) (np1 := 4) (by decide) rfl (by decide) H hG28) ?_
  rintro _ _ M30 ⟨rfl, hG31, rfl, H⟩ _
  refine T_aload_n (i := 0) (pc' := 118) dX12_text_117 rfl rfl rfl ?_
  refine T_aload_n (i := 0) (pc' := 119) dX12_text_118 rfl rfl rfl ?_
  refine T_iconst (pc' := 120) dX12_text_119 (by decide) rfl ?_
  refine T_bipush (pc' := 122) dX12_text_120 rfl (by decide) rfl ?_
  refine T_callV (av := [(0, 2), (0, 9)]) (st := [(2, 66)]) (d2 := 2) (nc2 := 0) (ns2 := 0) (pc' := 125) dX12_text_122 rfl mtX12_number mvX12_number mlX12_248 cl12 rfl rfl rfl (Nat.le_of_ble_eq_true rfl) (by decide) ⟨by decide, by decide⟩ rfl (pX12_number (E := E) (h := h) (M := M30) (v1 := 2) (v2 := 9) H hG31) ?_
  rintro _ _ M33 ⟨rfl, hG34, a32, rfl, H⟩ _
  refine U_pf (y := a32) (k := 35) (kI := 35) (pc' := 128) dX12_text_125 rfl cl12 (by decide) rfl (by decide) flX12_267 rfl rfl rfl rfl rfl (by decide) (fun z => z) rfl ?_
  have hG35 := (G_fld (x := 66) (i := 35) (y := a32) rfl (by decide) (by decide) (by decide) hG34)
  obtain ⟨M36, eM36⟩ : ∃ m : Mem, m = (mset M33 66 35 a32) := ⟨_, rfl⟩
  rw [← eM36] at hG35 ⊢
  replace H := H M36 eM36
  refine T_aload_n (i := 0) (pc' := 129) dX12_text_128 rfl rfl rfl ?_
  refine T_aload_n (i := 0) (pc' := 130) dX12_text_129 rfl rfl rfl ?_
  refine T_iconst (pc' := 131) dX12_text_130 (by decide) rfl ?_
  refine T_bipush (pc' := 133) dX12_text_131 rfl (by decide) rfl ?_
  refine T_callV (av := [(0, 2), (0, 6)]) (st := [(2, 66)]) (d2 := 2) (nc2 := 0) (ns2 := 0) (pc' := 136) dX12_text_133 rfl mtX12_number mvX12_number mlX12_248 cl12 rfl rfl rfl (Nat.le_of_ble_eq_true rfl) (by decide) ⟨by decide, by decide⟩ rfl (pX12_number (E := E) (h := h) (M := M36) (v1 := 2) (v2 := 6) H hG35) ?_
  rintro _ _ M38 ⟨rfl, hG39, a37, rfl, H⟩ _
  refine U_pf (y := a37) (k := 36) (kI := 36) (pc' := 139) dX12_text_136 rfl cl12 (by decide) rfl (by decide) flX12_270 rfl rfl rfl rfl rfl (by decide) (fun z => z) rfl ?_
  have hG40 := (G_fld (x := 66) (i := 36) (y := a37) rfl (by decide) (by decide) (by decide) hG39)
  obtain ⟨M41, eM41⟩ : ∃ m : Mem, m = (mset M38 66 36 a37) := ⟨_, rfl⟩
  rw [← eM41] at hG40 ⊢
  replace H := H M41 eM41
  refine T_aload_n (i := 0) (pc' := 140) dX12_text_139 rfl rfl rfl ?_
  refine T_bipush (pc' := 142) dX12_text_140 rfl (by decide) rfl ?_
  refine T_callV (av := [(0, 59)]) (st := []) (d2 := 3) (nc2 := 0) (ns2 := 0) (pc' := 145) dX12_text_142 rfl mtX12_asksSign mvX12_asksSign mlX12_322 cl12 rfl rfl rfl (Nat.le_of_ble_eq_true rfl) (by decide) ⟨by decide, by decide⟩ rfl (pX12_asksSign (E := E) (h := h) (M := M41) (v1 := 59) H hG40) ?_
  rintro _ _ M43 ⟨rfl, hG44, rfl, H⟩ _
  refine T_aload_n (i := 0) (pc' := 146) dX12_text_145 rfl rfl rfl ?_
  refine T_iconst (pc' := 147) dX12_text_146 (by decide) rfl ?_
  refine U_pf (y := 1) (k := 40) (kI := 40) (pc' := 150) dX12_text_147 rfl cl12 (by decide) rfl (by decide) flX12_306 rfl rfl rfl rfl rfl (by decide) (fun z => z) rfl ?_
  have hG45 := (G_fld (x := 66) (i := 40) (y := 1) rfl (by decide) (by decide) (by decide) hG44)
  obtain ⟨M46, eM46⟩ : ∃ m : Mem, m = (mset M43 66 40 1) := ⟨_, rfl⟩
  rw [← eM46] at hG45 ⊢
  replace H := H M46 eM46
  obtain ⟨k47, H⟩ := H
  refine T_wk (L' := [(2, 66), (3, 0)]) (qX12_text_150  (fun M48 H hG49 => ?_) _ _ H hG45) ⟨Or.inr rfl, Or.inl rfl, trivial⟩
  refine T_aload_n (i := 0) (pc' := 173) dX12_text_172 rfl rfl rfl ?_
  refine T_aload_n (i := 0) (pc' := 174) dX12_text_173 rfl rfl rfl ?_
  refine U_gf (v := (0, (M48 66 5))) (k := 5) (kI := 5) (pc' := 177) dX12_text_174 rfl cl12 (by decide) rfl (by decide) flX12_201 rfl rfl (by decide) rfl rfl ?_
  refine U_pf (y := (M48 66 5)) (k := 7) (kI := 7) (pc' := 180) dX12_text_177 rfl cl12 (by decide) rfl (by decide) flX12_328 rfl rfl rfl rfl rfl (by decide) (fun z => z) rfl ?_
  have hG50 := (G_fld (x := 66) (i := 7) (y := (M48 66 5)) rfl (by decide) (by decide) (by decide) hG49)
  obtain ⟨M51, eM51⟩ : ∃ m : Mem, m = (mset M48 66 7 (M48 66 5)) := ⟨_, rfl⟩
  rw [← eM51] at hG50 ⊢
  replace H := H M51 eM51
  refine T_aload_n (i := 0) (pc' := 181) dX12_text_180 rfl rfl rfl ?_
  refine T_aload_n (i := 0) (pc' := 182) dX12_text_181 rfl rfl rfl ?_
  refine U_gf (v := (0, (M51 66 6))) (k := 6) (kI := 6) (pc' := 185) dX12_text_182 rfl cl12 (by decide) rfl (by decide) flX12_204 rfl rfl (by decide) rfl rfl ?_
  refine U_pf (y := (M51 66 6)) (k := 8) (kI := 8) (pc' := 188) dX12_text_185 rfl cl12 (by decide) rfl (by decide) flX12_13 rfl rfl rfl rfl rfl (by decide) (fun z => z) rfl ?_
  have hG52 := (G_fld (x := 66) (i := 8) (y := (M51 66 6)) rfl (by decide) (by decide) (by decide) hG50)
  obtain ⟨M53, eM53⟩ : ∃ m : Mem, m = (mset M51 66 8 (M51 66 6)) := ⟨_, rfl⟩
  rw [← eM53] at hG52 ⊢
  replace H := H M53 eM53
  refine T_aload_n (i := 0) (pc' := 189) dX12_text_188 rfl rfl rfl ?_
  refine U_gf (v := (0, (M53 66 5))) (k := 5) (kI := 5) (pc' := 192) dX12_text_189 rfl cl12 (by decide) rfl (by decide) flX12_201 rfl rfl (by decide) rfl rfl ?_
  refine T_if_eq (pc' := 197) dX12_text_192 (by decide) (pf := 195) rfl (fun c54 => ?_) (fun c54 => ?_)
  · skip
    replace H := H.1 c54
    refine T_aload_n (i := 0) (pc' := 198) dX12_text_197 rfl rfl rfl ?_
    obtain ⟨z55, H⟩ := H
    refine T_callV (av := []) (st := []) (d2 := 1) (nc2 := 0) (ns2 := 0) (pc' := 201) dX12_text_198 rfl mtX12_stands mvX12_stands mlX12_331 cl12 rfl rfl rfl (Nat.le_of_ble_eq_true rfl) (by decide) ⟨by decide, by decide⟩ rfl (pX12_stands (E := E) (h := h) (M := M53) z55 hG52) (kF (st2 := []) rfl (fun hG56 => ?_))
    obtain ⟨M57, eM57⟩ : ∃ m : Mem, m = (fmX12_stands M53) := ⟨_, rfl⟩
    rw [← eM57] at hG56 ⊢
    replace H := H M57 eM57
    refine T_aload_n (i := 0) (pc' := 202) dX12_text_201 rfl rfl rfl ?_
    refine U_gf (v := (0, (M57 66 40))) (k := 40) (kI := 40) (pc' := 205) dX12_text_202 rfl cl12 (by decide) rfl (by decide) flX12_306 rfl rfl (by decide) rfl rfl ?_
    exact T_iret dX12_text_205 rfl ⟨rfl, hG56, _, rfl, H⟩
  · skip
    replace H := H.2 c54
    refine T_iconst (pc' := 196) dX12_text_195 (by decide) rfl ?_
    exact T_iret dX12_text_196 rfl ⟨rfl, hG52, _, rfl, H⟩
def PX12_spreads_4  (K : Mem → Prop) (Q : Int → Mem → Prop) : Nat → Int → Mem → Prop
  | 0 => fun _ _ => False
  | k + 1 => fun v2 M => ((54 ≤ v2 → K M) ∧ (¬ (54 ≤ v2) → 0 ≤ v2 ∧ v2 < 54 ∧ (∀ M3 : Mem, M3 = (mset M 93 v2 1000) → PX12_spreads_4  K Q k (wr32 (v2 + 1)) M3)))
def PX12_spreads_27  (K : Int → Mem → Prop) (Q : Int → Mem → Prop) : Nat → Int → Int → Mem → Prop
  | 0 => fun _ _ _ => False
  | k + 1 => fun v1 v2 M => (((fX12_doorMany M) ≤ v2 → K v1 M) ∧ (¬ ((fX12_doorMany M) ≤ v2) → 0 ≤ v2 ∧ v2 < 6 ∧ (((M 92 v2) = 0 → 0 ≤ (wr32 (6 + v2)) ∧ (wr32 (6 + v2)) < 12 ∧ 0 ≤ (M 90 (wr32 (6 + v2))) ∧ (M 90 (wr32 (6 + v2))) < 54 ∧ (∀ M5 : Mem, M5 = (mset M 93 (M 90 (wr32 (6 + v2))) 0) → 0 ≤ (wr32 (6 + v2)) ∧ (wr32 (6 + v2)) < 12 ∧ 0 ≤ v1 ∧ v1 < 54 ∧ (∀ M7 : Mem, M7 = (mset M5 94 v1 (M5 90 (wr32 (6 + v2)))) → PX12_spreads_27  K Q k (wr32 (v1 + 1)) (wr32 (v2 + 1)) M7))) ∧ (¬ ((M 92 v2) = 0) → PX12_spreads_27  K Q k v1 (wr32 (v2 + 1)) M))))
def PX12_spreads_92 (v2 : Int) (K : Int → Mem → Prop) (Q : Int → Mem → Prop) : Nat → Int → Int → Mem → Prop
  | 0 => fun _ _ _ => False
  | k + 1 => fun v1 v3 M => ((4 ≤ v3 → K v1 M) ∧ (¬ (4 ≤ v3) → 0 ≤ v2 ∧ v2 < 54 ∧ (nX12_stepped M (M 94 v2) v3) ∧ (∀ a4 : Int, a4 = (fX12_stepped M (M 94 v2) v3) → 0 ≤ a4 ∧ a4 < 54 ∧ (((M 93 a4) = 1000 → 0 ≤ v2 ∧ v2 < 54 ∧ 0 ≤ (M 94 v2) ∧ (M 94 v2) < 54 ∧ 0 ≤ a4 ∧ a4 < 54 ∧ (∀ M7 : Mem, M7 = (mset M 93 a4 (wr32 ((M 93 (M 94 v2)) + 1))) → 0 ≤ v1 ∧ v1 < 54 ∧ (∀ M9 : Mem, M9 = (mset M7 94 v1 a4) → PX12_spreads_92 v2 K Q k (wr32 (v1 + 1)) (wr32 (v3 + 1)) M9))) ∧ (¬ ((M 93 a4) = 1000) → PX12_spreads_92 v2 K Q k v1 (wr32 (v3 + 1)) M)))))
def PX12_spreads_85  (K : Mem → Prop) (Q : Int → Mem → Prop) : Nat → Int → Int → Mem → Prop
  | 0 => fun _ _ _ => False
  | k + 1 => fun v1 v2 M => ((v1 ≤ v2 → K M) ∧ (¬ (v1 ≤ v2) → (∃ k2 : Nat, PX12_spreads_92 v2 (fun u3 M4 => PX12_spreads_85  K Q k u3 (wr32 (v2 + 1)) M4) Q k2 v1 0 M)))
def PX12_spreads  (M : Mem) (Q : Int → Mem → Prop) : Prop :=
  (∃ k1 : Nat, PX12_spreads_4 (fun M2 => (∃ k4 : Nat, PX12_spreads_27 (fun u5 M6 => (∃ k8 : Nat, PX12_spreads_85 (fun M9 => Q 0 M9) Q k8 u5 0 M6)) Q k4 0 0 M2)) Q k1 0 M)
set_option maxRecDepth 100000 in
set_option maxHeartbeats 2000000 in
theorem qX12_spreads_4 {E : EV} {h : Int}   {K : Mem → Prop} {Q : Int → Mem → Prop} (hK : ∀ (M : Mem), K M → G h M → TG E miX12_spreads 3 h (RV Q) 25 [(2, 66), (0, 0), (3, 0), (3, 0), (3, 0)] [] M) : ∀ (k : Nat) (v2 : Int) (M : Mem), PX12_spreads_4  K Q k v2 M → G h M → TG E miX12_spreads 3 h (RV Q) 4 [(2, 66), (0, 0), (0, v2), (3, 0), (3, 0)] [] M := by
  intro k
  induction k with
  | zero =>
    intro v2 M H
    exact False.elim H
  | succ k ih =>
    intro v2 M H hG
    refine T_iload_n (i := 2) (pc' := 5) dX12_spreads_4 rfl rfl rfl ?_
    refine T_bipush (pc' := 7) dX12_spreads_5 rfl (by decide) rfl ?_
    refine T_icmp_ge (pc' := 25) dX12_spreads_7 (by decide) (pf := 10) rfl (fun c1 => ?_) (fun c1 => ?_)
    · skip
      replace H := H.1 c1
      exact T_wk (L' := [(2, 66), (0, 0), (3, 0), (3, 0), (3, 0)]) (hK _ H hG) ⟨Or.inr rfl, Or.inr rfl, Or.inl rfl, Or.inl rfl, Or.inl rfl, trivial⟩
    · skip
      replace H := H.2 c1
      refine T_aload_n (i := 0) (pc' := 11) dX12_spreads_10 rfl rfl rfl ?_
      refine U_gr (q := 93) (k := 43) (kI := 43) (pc' := 14) dX12_spreads_11 rfl cl12 (by decide) rfl (by decide) flX12_95 rfl rfl rfl (G_at hG 93 rfl) (by decide) rfl ?_
      refine T_iload_n (i := 2) (pc' := 15) dX12_spreads_14 rfl rfl rfl ?_
      refine T_sipush (pc' := 18) dX12_spreads_15 rfl (by decide) rfl ?_
      obtain ⟨z1, z2, H⟩ := H
      refine T_iast (pc' := 19) dX12_spreads_18 (by decide) rfl z1 z2 rfl ?_
      have hG2 := (G_arr (x := 93) (i := v2) (y := 1000) rfl (by decide) hG)
      obtain ⟨M3, eM3⟩ : ∃ m : Mem, m = (mset M 93 v2 1000) := ⟨_, rfl⟩
      rw [← eM3] at hG2 ⊢
      replace H := H M3 eM3
      refine T_iinc (L' := [(2, 66), (0, 0), (0, (wr32 (v2 + 1))), (3, 0), (3, 0)]) (pc' := 22) dX12_spreads_19 rfl (by decide) rfl rfl ?_
      refine T_goto (pc' := 4) dX12_spreads_22 (by decide) ?_
      exact T_wk (L' := [(2, 66), (0, 0), (0, (wr32 (v2 + 1))), (3, 0), (3, 0)]) (ih _ _ H hG2) ⟨Or.inr rfl, Or.inr rfl, Or.inr rfl, Or.inl rfl, Or.inl rfl, trivial⟩
set_option maxRecDepth 100000 in
set_option maxHeartbeats 2000000 in
theorem qX12_spreads_27 {E : EV} {h : Int}   {K : Int → Mem → Prop} {Q : Int → Mem → Prop} (hK : ∀ (v1 : Int) (M : Mem), K v1 M → G h M → TG E miX12_spreads 3 h (RV Q) 83 [(2, 66), (0, v1), (3, 0), (3, 0), (3, 0)] [] M) : ∀ (k : Nat) (v1 v2 : Int) (M : Mem), PX12_spreads_27  K Q k v1 v2 M → G h M → TG E miX12_spreads 3 h (RV Q) 27 [(2, 66), (0, v1), (0, v2), (3, 0), (3, 0)] [] M := by
  intro k
  induction k with
  | zero =>
    intro v1 v2 M H
    exact False.elim H
  | succ k ih =>
    intro v1 v2 M H hG
    refine T_iload_n (i := 2) (pc' := 28) dX12_spreads_27 rfl rfl rfl ?_
    refine T_aload_n (i := 0) (pc' := 29) dX12_spreads_28 rfl rfl rfl ?_
    refine T_callV (av := []) (st := [(0, v2)]) (d2 := 1) (nc2 := 0) (ns2 := 0) (pc' := 32) dX12_spreads_29 rfl mtX12_doorMany mvX12_doorMany mlX12_361 cl12 rfl rfl rfl (Nat.le_of_ble_eq_true rfl) (by decide) ⟨by decide, by decide⟩ rfl (pX12_doorMany (E := E) (h := h) (M := M) hG) (kF (st2 := [(0, (fX12_doorMany M)), (0, v2)]) rfl (fun hG1 => ?_))
    refine T_icmp_ge (pc' := 83) dX12_spreads_32 (by decide) (pf := 35) rfl (fun c2 => ?_) (fun c2 => ?_)
    · skip
      replace H := H.1 c2
      exact T_wk (L' := [(2, 66), (0, v1), (3, 0), (3, 0), (3, 0)]) (hK _ _ H hG) ⟨Or.inr rfl, Or.inr rfl, Or.inl rfl, Or.inl rfl, Or.inl rfl, trivial⟩
    · skip
      replace H := H.2 c2
      refine T_aload_n (i := 0) (pc' := 36) dX12_spreads_35 rfl rfl rfl ?_
      refine U_gr (q := 92) (k := 41) (kI := 41) (pc' := 39) dX12_spreads_36 rfl cl12 (by decide) rfl (by decide) flX12_92 rfl rfl rfl (G_at hG 92 rfl) (by decide) rfl ?_
      refine T_iload_n (i := 2) (pc' := 40) dX12_spreads_39 rfl rfl rfl ?_
      obtain ⟨z1, z2, H⟩ := H
      refine T_iald (pc' := 41) dX12_spreads_40 (by decide) rfl z1 z2 rfl ?_
      refine T_if_ne (pc' := 77) dX12_spreads_41 (by decide) (pf := 44) rfl (fun c3 => ?_) (fun c3 => ?_)
      · skip
        replace H := H.2 c3
        refine T_iinc (L' := [(2, 66), (0, v1), (0, (wr32 (v2 + 1))), (3, 0), (3, 0)]) (pc' := 80) dX12_spreads_77 rfl (by decide) rfl rfl ?_
        refine T_goto (pc' := 27) dX12_spreads_80 (by decide) ?_
        exact T_wk (L' := [(2, 66), (0, v1), (0, (wr32 (v2 + 1))), (3, 0), (3, 0)]) (ih _ _ _ H hG) ⟨Or.inr rfl, Or.inr rfl, Or.inr rfl, Or.inl rfl, Or.inl rfl, trivial⟩
      · skip
        replace H := H.1 c3
        refine T_aload_n (i := 0) (pc' := 45) dX12_spreads_44 rfl rfl rfl ?_
        refine U_gr (q := 93) (k := 43) (kI := 43) (pc' := 48) dX12_spreads_45 rfl cl12 (by decide) rfl (by decide) flX12_95 rfl rfl rfl (G_at hG 93 rfl) (by decide) rfl ?_
        refine T_aload_n (i := 0) (pc' := 49) dX12_spreads_48 rfl rfl rfl ?_
        refine U_gr (q := 90) (k := 33) (kI := 33) (pc' := 52) dX12_spreads_49 rfl cl12 (by decide) rfl (by decide) flX12_86 rfl rfl rfl (G_at hG 90 rfl) (by decide) rfl ?_
        refine T_bipush (pc' := 54) dX12_spreads_52 rfl (by decide) rfl ?_
        refine T_iload_n (i := 2) (pc' := 55) dX12_spreads_54 rfl rfl rfl ?_
        refine T_iadd (pc' := 56) dX12_spreads_55 rfl ?_
        obtain ⟨z1, z2, H⟩ := H
        refine T_iald (pc' := 57) dX12_spreads_56 (by decide) rfl z1 z2 rfl ?_
        refine T_iconst (pc' := 58) dX12_spreads_57 (by decide) rfl ?_
        obtain ⟨z1, z2, H⟩ := H
        refine T_iast (pc' := 59) dX12_spreads_58 (by decide) rfl z1 z2 rfl ?_
        have hG4 := (G_arr (x := 93) (i := (M 90 (wr32 (6 + v2)))) (y := 0) rfl (by decide) hG)
        obtain ⟨M5, eM5⟩ : ∃ m : Mem, m = (mset M 93 (M 90 (wr32 (6 + v2))) 0) := ⟨_, rfl⟩
        rw [← eM5] at hG4 ⊢
        replace H := H M5 eM5
        refine T_aload_n (i := 0) (pc' := 60) dX12_spreads_59 rfl rfl rfl ?_
        refine U_gr (q := 94) (k := 44) (kI := 44) (pc' := 63) dX12_spreads_60 rfl cl12 (by decide) rfl (by decide) flX12_98 rfl rfl rfl (G_at hG4 94 rfl) (by decide) rfl ?_
        refine T_iload_n (i := 1) (pc' := 64) dX12_spreads_63 rfl rfl rfl ?_
        refine T_aload_n (i := 0) (pc' := 65) dX12_spreads_64 rfl rfl rfl ?_
        refine U_gr (q := 90) (k := 33) (kI := 33) (pc' := 68) dX12_spreads_65 rfl cl12 (by decide) rfl (by decide) flX12_86 rfl rfl rfl (G_at hG4 90 rfl) (by decide) rfl ?_
        refine T_bipush (pc' := 70) dX12_spreads_68 rfl (by decide) rfl ?_
        refine T_iload_n (i := 2) (pc' := 71) dX12_spreads_70 rfl rfl rfl ?_
        refine T_iadd (pc' := 72) dX12_spreads_71 rfl ?_
        obtain ⟨z1, z2, H⟩ := H
        refine T_iald (pc' := 73) dX12_spreads_72 (by decide) rfl z1 z2 rfl ?_
        obtain ⟨z1, z2, H⟩ := H
        refine T_iast (pc' := 74) dX12_spreads_73 (by decide) rfl z1 z2 rfl ?_
        have hG6 := (G_arr (x := 94) (i := v1) (y := (M5 90 (wr32 (6 + v2)))) rfl (by decide) hG4)
        obtain ⟨M7, eM7⟩ : ∃ m : Mem, m = (mset M5 94 v1 (M5 90 (wr32 (6 + v2)))) := ⟨_, rfl⟩
        rw [← eM7] at hG6 ⊢
        replace H := H M7 eM7
        refine T_iinc (L' := [(2, 66), (0, (wr32 (v1 + 1))), (0, v2), (3, 0), (3, 0)]) (pc' := 77) dX12_spreads_74 rfl (by decide) rfl rfl ?_
        refine T_iinc (L' := [(2, 66), (0, (wr32 (v1 + 1))), (0, (wr32 (v2 + 1))), (3, 0), (3, 0)]) (pc' := 80) dX12_spreads_77 rfl (by decide) rfl rfl ?_
        refine T_goto (pc' := 27) dX12_spreads_80 (by decide) ?_
        exact T_wk (L' := [(2, 66), (0, (wr32 (v1 + 1))), (0, (wr32 (v2 + 1))), (3, 0), (3, 0)]) (ih _ _ _ H hG6) ⟨Or.inr rfl, Or.inr rfl, Or.inr rfl, Or.inl rfl, Or.inl rfl, trivial⟩
set_option maxRecDepth 100000 in
set_option maxHeartbeats 2000000 in
theorem qX12_spreads_92 {E : EV} {h : Int} {v2 : Int}  {K : Int → Mem → Prop} {Q : Int → Mem → Prop} (hK : ∀ (v1 : Int) (M : Mem), K v1 M → G h M → TG E miX12_spreads 3 h (RV Q) 163 [(2, 66), (0, v1), (0, v2), (3, 0), (3, 0)] [] M) : ∀ (k : Nat) (v1 v3 : Int) (M : Mem), PX12_spreads_92 v2 K Q k v1 v3 M → G h M → TG E miX12_spreads 3 h (RV Q) 92 [(2, 66), (0, v1), (0, v2), (0, v3), (3, 0)] [] M := by
  intro k
  induction k with
  | zero =>
    intro v1 v3 M H
    exact False.elim H
  | succ k ih =>
    intro v1 v3 M H hG
    refine T_iload_n (i := 3) (pc' := 93) dX12_spreads_92 rfl rfl rfl ?_
    refine T_iconst (pc' := 94) dX12_spreads_93 (by decide) rfl ?_
    refine T_icmp_ge (pc' := 163) dX12_spreads_94 (by decide) (pf := 97) rfl (fun c1 => ?_) (fun c1 => ?_)
    · skip
      replace H := H.1 c1
      exact T_wk (L' := [(2, 66), (0, v1), (0, v2), (3, 0), (3, 0)]) (hK _ _ H hG) ⟨Or.inr rfl, Or.inr rfl, Or.inr rfl, Or.inl rfl, Or.inl rfl, trivial⟩
    · skip
      replace H := H.2 c1
      refine T_aload_n (i := 0) (pc' := 98) dX12_spreads_97 rfl rfl rfl ?_
      refine T_aload_n (i := 0) (pc' := 99) dX12_spreads_98 rfl rfl rfl ?_
      refine U_gr (q := 94) (k := 44) (kI := 44) (pc' := 102) dX12_spreads_99 rfl cl12 (by decide) rfl (by decide) flX12_98 rfl rfl rfl (G_at hG 94 rfl) (by decide) rfl ?_
      refine T_iload_n (i := 2) (pc' := 103) dX12_spreads_102 rfl rfl rfl ?_
      obtain ⟨z1, z2, H⟩ := H
      refine T_iald (pc' := 104) dX12_spreads_103 (by decide) rfl z1 z2 rfl ?_
      refine T_iload_n (i := 3) (pc' := 105) dX12_spreads_104 rfl rfl rfl ?_
      obtain ⟨z2, H⟩ := H
      refine T_callV (av := [(0, (M 94 v2)), (0, v3)]) (st := []) (d2 := 2) (nc2 := 0) (ns2 := 0) (pc' := 108) dX12_spreads_105 rfl mtX12_stepped mvX12_stepped mlX12_364 cl12 rfl rfl rfl (Nat.le_of_ble_eq_true rfl) (by decide) ⟨by decide, by decide⟩ rfl (pX12_stepped (E := E) (h := h) (M := M) (v1 := (M 94 v2)) (v2 := v3) z2 hG) (kF (st2 := [(0, (fX12_stepped M (M 94 v2) v3))]) rfl (fun hG3 => ?_))
      obtain ⟨a4, ea4⟩ : ∃ z : Int, z = (fX12_stepped M (M 94 v2) v3) := ⟨_, rfl⟩
      rw [← ea4]
      replace H := H a4 ea4
      refine T_istore (i := 4) (L' := [(2, 66), (0, v1), (0, v2), (0, v3), (0, a4)]) (pc' := 110) dX12_spreads_108 (by decide) rfl rfl ?_
      refine T_aload_n (i := 0) (pc' := 111) dX12_spreads_110 rfl rfl rfl ?_
      refine U_gr (q := 93) (k := 43) (kI := 43) (pc' := 114) dX12_spreads_111 rfl cl12 (by decide) rfl (by decide) flX12_95 rfl rfl rfl (G_at hG 93 rfl) (by decide) rfl ?_
      refine T_iload (i := 4) (pc' := 116) dX12_spreads_114 rfl rfl ?_
      obtain ⟨z1, z2, H⟩ := H
      refine T_iald (pc' := 117) dX12_spreads_116 (by decide) rfl z1 z2 rfl ?_
      refine T_sipush (pc' := 120) dX12_spreads_117 rfl (by decide) rfl ?_
      refine T_icmp_eq (pc' := 126) dX12_spreads_120 (by decide) (pf := 123) rfl (fun c5 => ?_) (fun c5 => ?_)
      · skip
        replace H := H.1 c5
        refine T_aload_n (i := 0) (pc' := 127) dX12_spreads_126 rfl rfl rfl ?_
        refine U_gr (q := 93) (k := 43) (kI := 43) (pc' := 130) dX12_spreads_127 rfl cl12 (by decide) rfl (by decide) flX12_95 rfl rfl rfl (G_at hG 93 rfl) (by decide) rfl ?_
        refine T_iload (i := 4) (pc' := 132) dX12_spreads_130 rfl rfl ?_
        refine T_aload_n (i := 0) (pc' := 133) dX12_spreads_132 rfl rfl rfl ?_
        refine U_gr (q := 93) (k := 43) (kI := 43) (pc' := 136) dX12_spreads_133 rfl cl12 (by decide) rfl (by decide) flX12_95 rfl rfl rfl (G_at hG 93 rfl) (by decide) rfl ?_
        refine T_aload_n (i := 0) (pc' := 137) dX12_spreads_136 rfl rfl rfl ?_
        refine U_gr (q := 94) (k := 44) (kI := 44) (pc' := 140) dX12_spreads_137 rfl cl12 (by decide) rfl (by decide) flX12_98 rfl rfl rfl (G_at hG 94 rfl) (by decide) rfl ?_
        refine T_iload_n (i := 2) (pc' := 141) dX12_spreads_140 rfl rfl rfl ?_
        obtain ⟨z1, z2, H⟩ := H
        refine T_iald (pc' := 142) dX12_spreads_141 (by decide) rfl z1 z2 rfl ?_
        obtain ⟨z1, z2, H⟩ := H
        refine T_iald (pc' := 143) dX12_spreads_142 (by decide) rfl z1 z2 rfl ?_
        refine T_iconst (pc' := 144) dX12_spreads_143 (by decide) rfl ?_
        refine T_iadd (pc' := 145) dX12_spreads_144 rfl ?_
        obtain ⟨z1, z2, H⟩ := H
        refine T_iast (pc' := 146) dX12_spreads_145 (by decide) rfl z1 z2 rfl ?_
        have hG6 := (G_arr (x := 93) (i := a4) (y := (wr32 ((M 93 (M 94 v2)) + 1))) rfl (by decide) hG)
        obtain ⟨M7, eM7⟩ : ∃ m : Mem, m = (mset M 93 a4 (wr32 ((M 93 (M 94 v2)) + 1))) := ⟨_, rfl⟩
        rw [← eM7] at hG6 ⊢
        replace H := H M7 eM7
        refine T_aload_n (i := 0) (pc' := 147) dX12_spreads_146 rfl rfl rfl ?_
        refine U_gr (q := 94) (k := 44) (kI := 44) (pc' := 150) dX12_spreads_147 rfl cl12 (by decide) rfl (by decide) flX12_98 rfl rfl rfl (G_at hG6 94 rfl) (by decide) rfl ?_
        refine T_iload_n (i := 1) (pc' := 151) dX12_spreads_150 rfl rfl rfl ?_
        refine T_iload (i := 4) (pc' := 153) dX12_spreads_151 rfl rfl ?_
        obtain ⟨z1, z2, H⟩ := H
        refine T_iast (pc' := 154) dX12_spreads_153 (by decide) rfl z1 z2 rfl ?_
        have hG8 := (G_arr (x := 94) (i := v1) (y := a4) rfl (by decide) hG6)
        obtain ⟨M9, eM9⟩ : ∃ m : Mem, m = (mset M7 94 v1 a4) := ⟨_, rfl⟩
        rw [← eM9] at hG8 ⊢
        replace H := H M9 eM9
        refine T_iinc (L' := [(2, 66), (0, (wr32 (v1 + 1))), (0, v2), (0, v3), (0, a4)]) (pc' := 157) dX12_spreads_154 rfl (by decide) rfl rfl ?_
        refine T_iinc (L' := [(2, 66), (0, (wr32 (v1 + 1))), (0, v2), (0, (wr32 (v3 + 1))), (0, a4)]) (pc' := 160) dX12_spreads_157 rfl (by decide) rfl rfl ?_
        refine T_goto (pc' := 92) dX12_spreads_160 (by decide) ?_
        exact T_wk (L' := [(2, 66), (0, (wr32 (v1 + 1))), (0, v2), (0, (wr32 (v3 + 1))), (3, 0)]) (ih _ _ _ H hG8) ⟨Or.inr rfl, Or.inr rfl, Or.inr rfl, Or.inr rfl, Or.inl rfl, trivial⟩
      · skip
        replace H := H.2 c5
        refine T_goto (pc' := 157) dX12_spreads_123 (by decide) ?_
        refine T_iinc (L' := [(2, 66), (0, v1), (0, v2), (0, (wr32 (v3 + 1))), (0, a4)]) (pc' := 160) dX12_spreads_157 rfl (by decide) rfl rfl ?_
        refine T_goto (pc' := 92) dX12_spreads_160 (by decide) ?_
        exact T_wk (L' := [(2, 66), (0, v1), (0, v2), (0, (wr32 (v3 + 1))), (3, 0)]) (ih _ _ _ H hG) ⟨Or.inr rfl, Or.inr rfl, Or.inr rfl, Or.inr rfl, Or.inl rfl, trivial⟩
set_option maxRecDepth 100000 in
set_option maxHeartbeats 2000000 in
theorem qX12_spreads_85 {E : EV} {h : Int}   {K : Mem → Prop} {Q : Int → Mem → Prop} (hK : ∀ (M : Mem), K M → G h M → TG E miX12_spreads 3 h (RV Q) 169 [(2, 66), (3, 0), (3, 0), (3, 0), (3, 0)] [] M) : ∀ (k : Nat) (v1 v2 : Int) (M : Mem), PX12_spreads_85  K Q k v1 v2 M → G h M → TG E miX12_spreads 3 h (RV Q) 85 [(2, 66), (0, v1), (0, v2), (3, 0), (3, 0)] [] M := by
  intro k
  induction k with
  | zero =>
    intro v1 v2 M H
    exact False.elim H
  | succ k ih =>
    intro v1 v2 M H hG
    refine T_iload_n (i := 2) (pc' := 86) dX12_spreads_85 rfl rfl rfl ?_
    refine T_iload_n (i := 1) (pc' := 87) dX12_spreads_86 rfl rfl rfl ?_
    refine T_icmp_ge (pc' := 169) dX12_spreads_87 (by decide) (pf := 90) rfl (fun c1 => ?_) (fun c1 => ?_)
    · skip
      replace H := H.1 c1
      exact T_wk (L' := [(2, 66), (3, 0), (3, 0), (3, 0), (3, 0)]) (hK _ H hG) ⟨Or.inr rfl, Or.inl rfl, Or.inl rfl, Or.inl rfl, Or.inl rfl, trivial⟩
    · skip
      replace H := H.2 c1
      refine T_iconst (pc' := 91) dX12_spreads_90 (by decide) rfl ?_
      refine T_istore_n (i := 3) (L' := [(2, 66), (0, v1), (0, v2), (0, 0), (3, 0)]) (pc' := 92) dX12_spreads_91 rfl (by decide) rfl rfl ?_
      obtain ⟨k2, H⟩ := H
      refine T_wk (L' := [(2, 66), (0, v1), (0, v2), (0, 0), (3, 0)]) (qX12_spreads_92 (v2 := v2) (fun u3 M4 H hG5 => ?_) _ _ _ _ H hG) ⟨Or.inr rfl, Or.inr rfl, Or.inr rfl, Or.inr rfl, Or.inl rfl, trivial⟩
      refine T_iinc (L' := [(2, 66), (0, u3), (0, (wr32 (v2 + 1))), (3, 0), (3, 0)]) (pc' := 166) dX12_spreads_163 rfl (by decide) rfl rfl ?_
      refine T_goto (pc' := 85) dX12_spreads_166 (by decide) ?_
      exact T_wk (L' := [(2, 66), (0, u3), (0, (wr32 (v2 + 1))), (3, 0), (3, 0)]) (ih _ _ _ H hG5) ⟨Or.inr rfl, Or.inr rfl, Or.inr rfl, Or.inl rfl, Or.inl rfl, trivial⟩
set_option maxRecDepth 100000 in
set_option maxHeartbeats 2000000 in
theorem pX12_spreads {E : EV} {h : Int} {M : Mem}   {Q : Int → Mem → Prop} (H : PX12_spreads  M Q) : C2 E miX12_spreads 3 h [(2, 66)] M (RV Q) := by
  refine C2_of (L := [(2, 66), (3, 0), (3, 0), (3, 0), (3, 0)]) (by decide +kernel) (Nat.le_of_ble_eq_true rfl) rfl (fun hG => ?_)
  refine T_iconst (pc' := 1) dX12_spreads_0 (by decide) rfl ?_
  refine T_istore_n (i := 1) (L' := [(2, 66), (0, 0), (3, 0), (3, 0), (3, 0)]) (pc' := 2) dX12_spreads_1 rfl (by decide) rfl rfl ?_
  refine T_iconst (pc' := 3) dX12_spreads_2 (by decide) rfl ?_
  refine T_istore_n (i := 2) (L' := [(2, 66), (0, 0), (0, 0), (3, 0), (3, 0)]) (pc' := 4) dX12_spreads_3 rfl (by decide) rfl rfl ?_
  obtain ⟨k1, H⟩ := H
  refine T_wk (L' := [(2, 66), (0, 0), (0, 0), (3, 0), (3, 0)]) (qX12_spreads_4  (fun M2 H hG3 => ?_) _ _ _ H hG) ⟨Or.inr rfl, Or.inr rfl, Or.inr rfl, Or.inl rfl, Or.inl rfl, trivial⟩
  refine T_iconst (pc' := 26) dX12_spreads_25 (by decide) rfl ?_
  refine T_istore_n (i := 2) (L' := [(2, 66), (0, 0), (0, 0), (3, 0), (3, 0)]) (pc' := 27) dX12_spreads_26 rfl (by decide) rfl rfl ?_
  obtain ⟨k4, H⟩ := H
  refine T_wk (L' := [(2, 66), (0, 0), (0, 0), (3, 0), (3, 0)]) (qX12_spreads_27  (fun u5 M6 H hG7 => ?_) _ _ _ _ H hG3) ⟨Or.inr rfl, Or.inr rfl, Or.inr rfl, Or.inl rfl, Or.inl rfl, trivial⟩
  refine T_iconst (pc' := 84) dX12_spreads_83 (by decide) rfl ?_
  refine T_istore_n (i := 2) (L' := [(2, 66), (0, u5), (0, 0), (3, 0), (3, 0)]) (pc' := 85) dX12_spreads_84 rfl (by decide) rfl rfl ?_
  obtain ⟨k8, H⟩ := H
  refine T_wk (L' := [(2, 66), (0, u5), (0, 0), (3, 0), (3, 0)]) (qX12_spreads_85  (fun M9 H hG10 => ?_) _ _ _ _ H hG7) ⟨Or.inr rfl, Or.inr rfl, Or.inr rfl, Or.inl rfl, Or.inl rfl, trivial⟩
  exact T_vret dX12_spreads_169 rfl ⟨rfl, hG10, rfl, H⟩
def PX12_plays_21  (K : Mem → Prop) (Q : Int → Mem → Prop) : Nat → Int → Mem → Prop
  | 0 => fun _ _ => False
  | k + 1 => fun v1 M => ((9 ≤ v1 → K M) ∧ (¬ (9 ≤ v1) → 0 ≤ v1 ∧ v1 < 9 ∧ (∀ M3 : Mem, M3 = (mset M 96 v1 (-1)) → 0 ≤ v1 ∧ v1 < 9 ∧ (∀ M5 : Mem, M5 = (mset M3 97 v1 0) → 0 ≤ v1 ∧ v1 < 9 ∧ (∀ M7 : Mem, M7 = (mset M5 98 v1 (-1)) → 0 ≤ v1 ∧ v1 < 9 ∧ (∀ M9 : Mem, M9 = (mset M7 99 v1 0) → (((fX12_peopleMany M9) ≤ v1 → 0 ≤ v1 ∧ v1 < 1809 ∧ (∀ M13 : Mem, M13 = (mset M9 95 v1 0) → PX12_plays_21  K Q k (wr32 (v1 + 1)) M13)) ∧ (¬ ((fX12_peopleMany M9) ≤ v1) → (nX12_personOf v1 0) ∧ 0 ≤ v1 ∧ v1 < 1809 ∧ (∀ M17 : Mem, M17 = (mset M9 95 v1 (fX12_personOf M9 v1 0)) → PX12_plays_21  K Q k (wr32 (v1 + 1)) M17)))))))))
def PX12_plays_101 (v1 : Int) (K : Mem → Prop) (Q : Int → Mem → Prop) : Nat → Int → Mem → Prop
  | 0 => fun _ _ => False
  | k + 1 => fun v2 M => (((fX12_peopleMany M) ≤ v2 → K M) ∧ (¬ ((fX12_peopleMany M) ≤ v2) → (((fX12_isComing M v2) = 0 → PX12_plays_101 v1 K Q k (wr32 (v2 + 1)) M) ∧ (¬ ((fX12_isComing M v2) = 0) → (nX12_moves M v2 v1) ∧ (∀ M7 : Mem, M7 = (fmX12_moves M v2 v1) → PX12_plays_101 v1 K Q k (wr32 (v2 + 1)) M7)))))
def PX12_plays_131 (v1 : Int) (K : Mem → Prop) (Q : Int → Mem → Prop) : Nat → Int → Mem → Prop
  | 0 => fun _ _ => False
  | k + 1 => fun v2 M => (((fX12_peopleMany M) ≤ v2 → K M) ∧ (¬ ((fX12_peopleMany M) ≤ v2) → (((fX12_isComing M v2) = 0 → PX12_plays_131 v1 K Q k (wr32 (v2 + 1)) M) ∧ (¬ ((fX12_isComing M v2) = 0) → 0 ≤ v2 ∧ v2 < 9 ∧ (((M 99 v2) = 0 → PX12_plays_131 v1 K Q k (wr32 (v2 + 1)) M) ∧ (¬ ((M 99 v2) = 0) → 0 ≤ v2 ∧ v2 < 9 ∧ (∀ M7 : Mem, M7 = (mset M 96 v2 v1) → 0 ≤ v2 ∧ v2 < 9 ∧ 0 ≤ v2 ∧ v2 < 9 ∧ (∀ M9 : Mem, M9 = (mset M7 97 v2 (M7 99 v2)) → (∀ M11 : Mem, M11 = (mset M9 66 50 1) → PX12_plays_131 v1 K Q k (wr32 (v2 + 1)) M11)))))))))
def PX12_plays_92  (K : Mem → Prop) (Q : Int → Mem → Prop) : Nat → Int → Mem → Prop
  | 0 => fun _ _ => False
  | k + 1 => fun v1 M => ((200 < v1 → K M) ∧ (¬ (200 < v1) → (∃ k2 : Nat, PX12_plays_101 v1 (fun M3 => (∃ k5 : Nat, PX12_plays_131 v1 (fun M6 => (nX12_looksUp M6 v1) ∧ (∀ M10 : Mem, M10 = (fmX12_looksUp M6 v1) → PX12_plays_92  K Q k (wr32 (v1 + 1)) M10)) Q k5 0 M3)) Q k2 0 M)))
def PX12_plays  (M : Mem) (Q : Int → Mem → Prop) : Prop :=
  PX12_spreads M (fun _ M2 => (∀ M5 : Mem, M5 = (mset M2 66 51 (-1)) → (∀ M7 : Mem, M7 = (mset M5 66 52 (-1)) → (∀ M9 : Mem, M9 = (mset M7 66 50 0) → (∃ k10 : Nat, PX12_plays_21 (fun M11 => (nX12_looksUp M11 0) ∧ (∀ M15 : Mem, M15 = (fmX12_looksUp M11 0) → (∃ k16 : Nat, PX12_plays_92 (fun M17 => Q 0 M17) Q k16 1 M15))) Q k10 0 M9)))))
set_option maxRecDepth 100000 in
set_option maxHeartbeats 2000000 in
theorem qX12_plays_21 {E : EV} {h : Int}   {K : Mem → Prop} {Q : Int → Mem → Prop} (hK : ∀ (M : Mem), K M → G h M → TG E miX12_plays 6 h (RV Q) 85 [(2, 66), (3, 0), (3, 0)] [] M) : ∀ (k : Nat) (v1 : Int) (M : Mem), PX12_plays_21  K Q k v1 M → G h M → TG E miX12_plays 6 h (RV Q) 21 [(2, 66), (0, v1), (3, 0)] [] M := by
  intro k
  induction k with
  | zero =>
    intro v1 M H
    exact False.elim H
  | succ k ih =>
    intro v1 M H hG
    refine T_iload_n (i := 1) (pc' := 22) dX12_plays_21 rfl rfl rfl ?_
    refine T_bipush (pc' := 24) dX12_plays_22 rfl (by decide) rfl ?_
    refine T_icmp_ge (pc' := 85) dX12_plays_24 (by decide) (pf := 27) rfl (fun c1 => ?_) (fun c1 => ?_)
    · skip
      replace H := H.1 c1
      exact T_wk (L' := [(2, 66), (3, 0), (3, 0)]) (hK _ H hG) ⟨Or.inr rfl, Or.inl rfl, Or.inl rfl, trivial⟩
    · skip
      replace H := H.2 c1
      refine T_aload_n (i := 0) (pc' := 28) dX12_plays_27 rfl rfl rfl ?_
      refine U_gr (q := 96) (k := 46) (kI := 46) (pc' := 31) dX12_plays_28 rfl cl12 (by decide) rfl (by decide) flX12_104 rfl rfl rfl (G_at hG 96 rfl) (by decide) rfl ?_
      refine T_iload_n (i := 1) (pc' := 32) dX12_plays_31 rfl rfl rfl ?_
      refine T_iconst (pc' := 33) dX12_plays_32 (by decide) rfl ?_
      obtain ⟨z1, z2, H⟩ := H
      refine T_iast (pc' := 34) dX12_plays_33 (by decide) rfl z1 z2 rfl ?_
      have hG2 := (G_arr (x := 96) (i := v1) (y := (-1)) rfl (by decide) hG)
      obtain ⟨M3, eM3⟩ : ∃ m : Mem, m = (mset M 96 v1 (-1)) := ⟨_, rfl⟩
      rw [← eM3] at hG2 ⊢
      replace H := H M3 eM3
      refine T_aload_n (i := 0) (pc' := 35) dX12_plays_34 rfl rfl rfl ?_
      refine U_gr (q := 97) (k := 47) (kI := 47) (pc' := 38) dX12_plays_35 rfl cl12 (by decide) rfl (by decide) flX12_107 rfl rfl rfl (G_at hG2 97 rfl) (by decide) rfl ?_
      refine T_iload_n (i := 1) (pc' := 39) dX12_plays_38 rfl rfl rfl ?_
      refine T_iconst (pc' := 40) dX12_plays_39 (by decide) rfl ?_
      obtain ⟨z1, z2, H⟩ := H
      refine T_iast (pc' := 41) dX12_plays_40 (by decide) rfl z1 z2 rfl ?_
      have hG4 := (G_arr (x := 97) (i := v1) (y := 0) rfl (by decide) hG2)
      obtain ⟨M5, eM5⟩ : ∃ m : Mem, m = (mset M3 97 v1 0) := ⟨_, rfl⟩
      rw [← eM5] at hG4 ⊢
      replace H := H M5 eM5
      refine T_aload_n (i := 0) (pc' := 42) dX12_plays_41 rfl rfl rfl ?_
      refine U_gr (q := 98) (k := 48) (kI := 48) (pc' := 45) dX12_plays_42 rfl cl12 (by decide) rfl (by decide) flX12_110 rfl rfl rfl (G_at hG4 98 rfl) (by decide) rfl ?_
      refine T_iload_n (i := 1) (pc' := 46) dX12_plays_45 rfl rfl rfl ?_
      refine T_iconst (pc' := 47) dX12_plays_46 (by decide) rfl ?_
      obtain ⟨z1, z2, H⟩ := H
      refine T_iast (pc' := 48) dX12_plays_47 (by decide) rfl z1 z2 rfl ?_
      have hG6 := (G_arr (x := 98) (i := v1) (y := (-1)) rfl (by decide) hG4)
      obtain ⟨M7, eM7⟩ : ∃ m : Mem, m = (mset M5 98 v1 (-1)) := ⟨_, rfl⟩
      rw [← eM7] at hG6 ⊢
      replace H := H M7 eM7
      refine T_aload_n (i := 0) (pc' := 49) dX12_plays_48 rfl rfl rfl ?_
      refine U_gr (q := 99) (k := 49) (kI := 49) (pc' := 52) dX12_plays_49 rfl cl12 (by decide) rfl (by decide) flX12_113 rfl rfl rfl (G_at hG6 99 rfl) (by decide) rfl ?_
      refine T_iload_n (i := 1) (pc' := 53) dX12_plays_52 rfl rfl rfl ?_
      refine T_iconst (pc' := 54) dX12_plays_53 (by decide) rfl ?_
      obtain ⟨z1, z2, H⟩ := H
      refine T_iast (pc' := 55) dX12_plays_54 (by decide) rfl z1 z2 rfl ?_
      have hG8 := (G_arr (x := 99) (i := v1) (y := 0) rfl (by decide) hG6)
      obtain ⟨M9, eM9⟩ : ∃ m : Mem, m = (mset M7 99 v1 0) := ⟨_, rfl⟩
      rw [← eM9] at hG8 ⊢
      replace H := H M9 eM9
      refine T_aload_n (i := 0) (pc' := 56) dX12_plays_55 rfl rfl rfl ?_
      refine U_gr (q := 95) (k := 45) (kI := 45) (pc' := 59) dX12_plays_56 rfl cl12 (by decide) rfl (by decide) flX12_101 rfl rfl rfl (G_at hG8 95 rfl) (by decide) rfl ?_
      refine T_iload_n (i := 1) (pc' := 60) dX12_plays_59 rfl rfl rfl ?_
      refine T_iload_n (i := 1) (pc' := 61) dX12_plays_60 rfl rfl rfl ?_
      refine T_aload_n (i := 0) (pc' := 62) dX12_plays_61 rfl rfl rfl ?_
      refine T_callV (av := []) (st := [(0, v1), (0, v1), (2, 95)]) (d2 := 1) (nc2 := 0) (ns2 := 0) (pc' := 65) dX12_plays_62 rfl mtX12_peopleMany mvX12_peopleMany mlX12_349 cl12 rfl rfl rfl (Nat.le_of_ble_eq_true rfl) (by decide) ⟨by decide, by decide⟩ rfl (pX12_peopleMany (E := E) (h := h) (M := M9) hG8) (kF (st2 := [(0, (fX12_peopleMany M9)), (0, v1), (0, v1), (2, 95)]) rfl (fun hG10 => ?_))
      refine T_icmp_ge (pc' := 77) dX12_plays_65 (by decide) (pf := 68) rfl (fun c11 => ?_) (fun c11 => ?_)
      · skip
        replace H := H.1 c11
        refine T_iconst (pc' := 78) dX12_plays_77 (by decide) rfl ?_
        obtain ⟨z1, z2, H⟩ := H
        refine T_iast (pc' := 79) dX12_plays_78 (by decide) rfl z1 z2 rfl ?_
        have hG12 := (G_arr (x := 95) (i := v1) (y := 0) rfl (by decide) hG8)
        obtain ⟨M13, eM13⟩ : ∃ m : Mem, m = (mset M9 95 v1 0) := ⟨_, rfl⟩
        rw [← eM13] at hG12 ⊢
        replace H := H M13 eM13
        refine T_iinc (L' := [(2, 66), (0, (wr32 (v1 + 1))), (3, 0)]) (pc' := 82) dX12_plays_79 rfl (by decide) rfl rfl ?_
        refine T_goto (pc' := 21) dX12_plays_82 (by decide) ?_
        exact T_wk (L' := [(2, 66), (0, (wr32 (v1 + 1))), (3, 0)]) (ih _ _ H hG12) ⟨Or.inr rfl, Or.inr rfl, Or.inl rfl, trivial⟩
      · skip
        replace H := H.2 c11
        refine T_aload_n (i := 0) (pc' := 69) dX12_plays_68 rfl rfl rfl ?_
        refine T_iload_n (i := 1) (pc' := 70) dX12_plays_69 rfl rfl rfl ?_
        refine T_iconst (pc' := 71) dX12_plays_70 (by decide) rfl ?_
        obtain ⟨z14, H⟩ := H
        refine T_callV (av := [(0, v1), (0, 0)]) (st := [(0, v1), (2, 95)]) (d2 := 1) (nc2 := 0) (ns2 := 0) (pc' := 74) dX12_plays_71 rfl mtX12_personOf mvX12_personOf mlX12_373 cl12 rfl rfl rfl (Nat.le_of_ble_eq_true rfl) (by decide) ⟨by decide, by decide⟩ rfl (pX12_personOf (E := E) (h := h) (M := M9) (v1 := v1) (v2 := 0) z14 hG8) (kF (st2 := [(0, (fX12_personOf M9 v1 0)), (0, v1), (2, 95)]) rfl (fun hG15 => ?_))
        refine T_goto (pc' := 78) dX12_plays_74 (by decide) ?_
        obtain ⟨z1, z2, H⟩ := H
        refine T_iast (pc' := 79) dX12_plays_78 (by decide) rfl z1 z2 rfl ?_
        have hG16 := (G_arr (x := 95) (i := v1) (y := (fX12_personOf M9 v1 0)) rfl (by decide) hG8)
        obtain ⟨M17, eM17⟩ : ∃ m : Mem, m = (mset M9 95 v1 (fX12_personOf M9 v1 0)) := ⟨_, rfl⟩
        rw [← eM17] at hG16 ⊢
        replace H := H M17 eM17
        refine T_iinc (L' := [(2, 66), (0, (wr32 (v1 + 1))), (3, 0)]) (pc' := 82) dX12_plays_79 rfl (by decide) rfl rfl ?_
        refine T_goto (pc' := 21) dX12_plays_82 (by decide) ?_
        exact T_wk (L' := [(2, 66), (0, (wr32 (v1 + 1))), (3, 0)]) (ih _ _ H hG16) ⟨Or.inr rfl, Or.inr rfl, Or.inl rfl, trivial⟩
set_option maxRecDepth 100000 in
set_option maxHeartbeats 2000000 in
theorem qX12_plays_101 {E : EV} {h : Int} {v1 : Int}  {K : Mem → Prop} {Q : Int → Mem → Prop} (hK : ∀ (M : Mem), K M → G h M → TG E miX12_plays 6 h (RV Q) 129 [(2, 66), (0, v1), (3, 0)] [] M) : ∀ (k : Nat) (v2 : Int) (M : Mem), PX12_plays_101 v1 K Q k v2 M → G h M → TG E miX12_plays 6 h (RV Q) 101 [(2, 66), (0, v1), (0, v2)] [] M := by
  intro k
  induction k with
  | zero =>
    intro v2 M H
    exact False.elim H
  | succ k ih =>
    intro v2 M H hG
    refine T_iload_n (i := 2) (pc' := 102) dX12_plays_101 rfl rfl rfl ?_
    refine T_aload_n (i := 0) (pc' := 103) dX12_plays_102 rfl rfl rfl ?_
    refine T_callV (av := []) (st := [(0, v2)]) (d2 := 1) (nc2 := 0) (ns2 := 0) (pc' := 106) dX12_plays_103 rfl mtX12_peopleMany mvX12_peopleMany mlX12_349 cl12 rfl rfl rfl (Nat.le_of_ble_eq_true rfl) (by decide) ⟨by decide, by decide⟩ rfl (pX12_peopleMany (E := E) (h := h) (M := M) hG) (kF (st2 := [(0, (fX12_peopleMany M)), (0, v2)]) rfl (fun hG1 => ?_))
    refine T_icmp_ge (pc' := 129) dX12_plays_106 (by decide) (pf := 109) rfl (fun c2 => ?_) (fun c2 => ?_)
    · skip
      replace H := H.1 c2
      exact T_wk (L' := [(2, 66), (0, v1), (3, 0)]) (hK _ H hG) ⟨Or.inr rfl, Or.inr rfl, Or.inl rfl, trivial⟩
    · skip
      replace H := H.2 c2
      refine T_aload_n (i := 0) (pc' := 110) dX12_plays_109 rfl rfl rfl ?_
      refine T_iload_n (i := 2) (pc' := 111) dX12_plays_110 rfl rfl rfl ?_
      refine T_callV (av := [(0, v2)]) (st := []) (d2 := 3) (nc2 := 0) (ns2 := 0) (pc' := 114) dX12_plays_111 rfl mtX12_isComing mvX12_isComing mlX12_376 cl12 rfl rfl rfl (Nat.le_of_ble_eq_true rfl) (by decide) ⟨by decide, by decide⟩ rfl (pX12_isComing (E := E) (h := h) (M := M) (v1 := v2) hG) (kF (st2 := [(0, (fX12_isComing M v2))]) rfl (fun hG3 => ?_))
      refine T_if_eq (pc' := 123) dX12_plays_114 (by decide) (pf := 117) rfl (fun c4 => ?_) (fun c4 => ?_)
      · skip
        replace H := H.1 c4
        refine T_iinc (L' := [(2, 66), (0, v1), (0, (wr32 (v2 + 1)))]) (pc' := 126) dX12_plays_123 rfl (by decide) rfl rfl ?_
        refine T_goto (pc' := 101) dX12_plays_126 (by decide) ?_
        exact T_wk (L' := [(2, 66), (0, v1), (0, (wr32 (v2 + 1)))]) (ih _ _ H hG) ⟨Or.inr rfl, Or.inr rfl, Or.inr rfl, trivial⟩
      · skip
        replace H := H.2 c4
        refine T_aload_n (i := 0) (pc' := 118) dX12_plays_117 rfl rfl rfl ?_
        refine T_iload_n (i := 2) (pc' := 119) dX12_plays_118 rfl rfl rfl ?_
        refine T_iload_n (i := 1) (pc' := 120) dX12_plays_119 rfl rfl rfl ?_
        obtain ⟨z5, H⟩ := H
        refine T_callV (av := [(0, v2), (0, v1)]) (st := []) (d2 := 5) (nc2 := 0) (ns2 := 0) (pc' := 123) dX12_plays_120 rfl mtX12_moves mvX12_moves mlX12_423 cl12 rfl rfl rfl (Nat.le_of_ble_eq_true rfl) (by decide) ⟨by decide, by decide⟩ rfl (pX12_moves (E := E) (h := h) (M := M) (v1 := v2) (v2 := v1) z5 hG) (kF (st2 := []) rfl (fun hG6 => ?_))
        obtain ⟨M7, eM7⟩ : ∃ m : Mem, m = (fmX12_moves M v2 v1) := ⟨_, rfl⟩
        rw [← eM7] at hG6 ⊢
        replace H := H M7 eM7
        refine T_iinc (L' := [(2, 66), (0, v1), (0, (wr32 (v2 + 1)))]) (pc' := 126) dX12_plays_123 rfl (by decide) rfl rfl ?_
        refine T_goto (pc' := 101) dX12_plays_126 (by decide) ?_
        exact T_wk (L' := [(2, 66), (0, v1), (0, (wr32 (v2 + 1)))]) (ih _ _ H hG6) ⟨Or.inr rfl, Or.inr rfl, Or.inr rfl, trivial⟩
set_option maxRecDepth 100000 in
set_option maxHeartbeats 2000000 in
theorem qX12_plays_131 {E : EV} {h : Int} {v1 : Int}  {K : Mem → Prop} {Q : Int → Mem → Prop} (hK : ∀ (M : Mem), K M → G h M → TG E miX12_plays 6 h (RV Q) 189 [(2, 66), (0, v1), (3, 0)] [] M) : ∀ (k : Nat) (v2 : Int) (M : Mem), PX12_plays_131 v1 K Q k v2 M → G h M → TG E miX12_plays 6 h (RV Q) 131 [(2, 66), (0, v1), (0, v2)] [] M := by
  intro k
  induction k with
  | zero =>
    intro v2 M H
    exact False.elim H
  | succ k ih =>
    intro v2 M H hG
    refine T_iload_n (i := 2) (pc' := 132) dX12_plays_131 rfl rfl rfl ?_
    refine T_aload_n (i := 0) (pc' := 133) dX12_plays_132 rfl rfl rfl ?_
    refine T_callV (av := []) (st := [(0, v2)]) (d2 := 1) (nc2 := 0) (ns2 := 0) (pc' := 136) dX12_plays_133 rfl mtX12_peopleMany mvX12_peopleMany mlX12_349 cl12 rfl rfl rfl (Nat.le_of_ble_eq_true rfl) (by decide) ⟨by decide, by decide⟩ rfl (pX12_peopleMany (E := E) (h := h) (M := M) hG) (kF (st2 := [(0, (fX12_peopleMany M)), (0, v2)]) rfl (fun hG1 => ?_))
    refine T_icmp_ge (pc' := 189) dX12_plays_136 (by decide) (pf := 139) rfl (fun c2 => ?_) (fun c2 => ?_)
    · skip
      replace H := H.1 c2
      exact T_wk (L' := [(2, 66), (0, v1), (3, 0)]) (hK _ H hG) ⟨Or.inr rfl, Or.inr rfl, Or.inl rfl, trivial⟩
    · skip
      replace H := H.2 c2
      refine T_aload_n (i := 0) (pc' := 140) dX12_plays_139 rfl rfl rfl ?_
      refine T_iload_n (i := 2) (pc' := 141) dX12_plays_140 rfl rfl rfl ?_
      refine T_callV (av := [(0, v2)]) (st := []) (d2 := 3) (nc2 := 0) (ns2 := 0) (pc' := 144) dX12_plays_141 rfl mtX12_isComing mvX12_isComing mlX12_376 cl12 rfl rfl rfl (Nat.le_of_ble_eq_true rfl) (by decide) ⟨by decide, by decide⟩ rfl (pX12_isComing (E := E) (h := h) (M := M) (v1 := v2) hG) (kF (st2 := [(0, (fX12_isComing M v2))]) rfl (fun hG3 => ?_))
      refine T_if_eq (pc' := 183) dX12_plays_144 (by decide) (pf := 147) rfl (fun c4 => ?_) (fun c4 => ?_)
      · skip
        replace H := H.1 c4
        refine T_iinc (L' := [(2, 66), (0, v1), (0, (wr32 (v2 + 1)))]) (pc' := 186) dX12_plays_183 rfl (by decide) rfl rfl ?_
        refine T_goto (pc' := 131) dX12_plays_186 (by decide) ?_
        exact T_wk (L' := [(2, 66), (0, v1), (0, (wr32 (v2 + 1)))]) (ih _ _ H hG) ⟨Or.inr rfl, Or.inr rfl, Or.inr rfl, trivial⟩
      · skip
        replace H := H.2 c4
        refine T_aload_n (i := 0) (pc' := 148) dX12_plays_147 rfl rfl rfl ?_
        refine U_gr (q := 99) (k := 49) (kI := 49) (pc' := 151) dX12_plays_148 rfl cl12 (by decide) rfl (by decide) flX12_113 rfl rfl rfl (G_at hG 99 rfl) (by decide) rfl ?_
        refine T_iload_n (i := 2) (pc' := 152) dX12_plays_151 rfl rfl rfl ?_
        obtain ⟨z1, z2, H⟩ := H
        refine T_iald (pc' := 153) dX12_plays_152 (by decide) rfl z1 z2 rfl ?_
        refine T_if_ne (pc' := 159) dX12_plays_153 (by decide) (pf := 156) rfl (fun c5 => ?_) (fun c5 => ?_)
        · skip
          replace H := H.2 c5
          refine T_aload_n (i := 0) (pc' := 160) dX12_plays_159 rfl rfl rfl ?_
          refine U_gr (q := 96) (k := 46) (kI := 46) (pc' := 163) dX12_plays_160 rfl cl12 (by decide) rfl (by decide) flX12_104 rfl rfl rfl (G_at hG 96 rfl) (by decide) rfl ?_
          refine T_iload_n (i := 2) (pc' := 164) dX12_plays_163 rfl rfl rfl ?_
          refine T_iload_n (i := 1) (pc' := 165) dX12_plays_164 rfl rfl rfl ?_
          obtain ⟨z1, z2, H⟩ := H
          refine T_iast (pc' := 166) dX12_plays_165 (by decide) rfl z1 z2 rfl ?_
          have hG6 := (G_arr (x := 96) (i := v2) (y := v1) rfl (by decide) hG)
          obtain ⟨M7, eM7⟩ : ∃ m : Mem, m = (mset M 96 v2 v1) := ⟨_, rfl⟩
          rw [← eM7] at hG6 ⊢
          replace H := H M7 eM7
          refine T_aload_n (i := 0) (pc' := 167) dX12_plays_166 rfl rfl rfl ?_
          refine U_gr (q := 97) (k := 47) (kI := 47) (pc' := 170) dX12_plays_167 rfl cl12 (by decide) rfl (by decide) flX12_107 rfl rfl rfl (G_at hG6 97 rfl) (by decide) rfl ?_
          refine T_iload_n (i := 2) (pc' := 171) dX12_plays_170 rfl rfl rfl ?_
          refine T_aload_n (i := 0) (pc' := 172) dX12_plays_171 rfl rfl rfl ?_
          refine U_gr (q := 99) (k := 49) (kI := 49) (pc' := 175) dX12_plays_172 rfl cl12 (by decide) rfl (by decide) flX12_113 rfl rfl rfl (G_at hG6 99 rfl) (by decide) rfl ?_
          refine T_iload_n (i := 2) (pc' := 176) dX12_plays_175 rfl rfl rfl ?_
          obtain ⟨z1, z2, H⟩ := H
          refine T_iald (pc' := 177) dX12_plays_176 (by decide) rfl z1 z2 rfl ?_
          obtain ⟨z1, z2, H⟩ := H
          refine T_iast (pc' := 178) dX12_plays_177 (by decide) rfl z1 z2 rfl ?_
          have hG8 := (G_arr (x := 97) (i := v2) (y := (M7 99 v2)) rfl (by decide) hG6)
          obtain ⟨M9, eM9⟩ : ∃ m : Mem, m = (mset M7 97 v2 (M7 99 v2)) := ⟨_, rfl⟩
          rw [← eM9] at hG8 ⊢
          replace H := H M9 eM9
          refine T_aload_n (i := 0) (pc' := 179) dX12_plays_178 rfl rfl rfl ?_
          refine T_iconst (pc' := 180) dX12_plays_179 (by decide) rfl ?_
          refine U_pf (y := 1) (k := 50) (kI := 50) (pc' := 183) dX12_plays_180 rfl cl12 (by decide) rfl (by decide) flX12_407 rfl rfl rfl rfl rfl (by decide) (fun _ => bool_ok (by decide)) rfl ?_
          have hG10 := (G_fld (x := 66) (i := 50) (y := 1) rfl (by decide) (by decide) (by decide) hG8)
          obtain ⟨M11, eM11⟩ : ∃ m : Mem, m = (mset M9 66 50 1) := ⟨_, rfl⟩
          rw [← eM11] at hG10 ⊢
          replace H := H M11 eM11
          refine T_iinc (L' := [(2, 66), (0, v1), (0, (wr32 (v2 + 1)))]) (pc' := 186) dX12_plays_183 rfl (by decide) rfl rfl ?_
          refine T_goto (pc' := 131) dX12_plays_186 (by decide) ?_
          exact T_wk (L' := [(2, 66), (0, v1), (0, (wr32 (v2 + 1)))]) (ih _ _ H hG10) ⟨Or.inr rfl, Or.inr rfl, Or.inr rfl, trivial⟩
        · skip
          replace H := H.1 c5
          refine T_goto (pc' := 183) dX12_plays_156 (by decide) ?_
          refine T_iinc (L' := [(2, 66), (0, v1), (0, (wr32 (v2 + 1)))]) (pc' := 186) dX12_plays_183 rfl (by decide) rfl rfl ?_
          refine T_goto (pc' := 131) dX12_plays_186 (by decide) ?_
          exact T_wk (L' := [(2, 66), (0, v1), (0, (wr32 (v2 + 1)))]) (ih _ _ H hG) ⟨Or.inr rfl, Or.inr rfl, Or.inr rfl, trivial⟩
set_option maxRecDepth 100000 in
set_option maxHeartbeats 2000000 in
theorem qX12_plays_92 {E : EV} {h : Int}   {K : Mem → Prop} {Q : Int → Mem → Prop} (hK : ∀ (M : Mem), K M → G h M → TG E miX12_plays 6 h (RV Q) 200 [(2, 66), (3, 0), (3, 0)] [] M) : ∀ (k : Nat) (v1 : Int) (M : Mem), PX12_plays_92  K Q k v1 M → G h M → TG E miX12_plays 6 h (RV Q) 92 [(2, 66), (0, v1), (3, 0)] [] M := by
  intro k
  induction k with
  | zero =>
    intro v1 M H
    exact False.elim H
  | succ k ih =>
    intro v1 M H hG
    refine T_iload_n (i := 1) (pc' := 93) dX12_plays_92 rfl rfl rfl ?_
    refine T_sipush (pc' := 96) dX12_plays_93 rfl (by decide) rfl ?_
    refine T_icmp_gt (pc' := 200) dX12_plays_96 (by decide) (pf := 99) rfl (fun c1 => ?_) (fun c1 => ?_)
    · skip
      replace H := H.1 c1
      exact T_wk (L' := [(2, 66), (3, 0), (3, 0)]) (hK _ H hG) ⟨Or.inr rfl, Or.inl rfl, Or.inl rfl, trivial⟩
    · skip
      replace H := H.2 c1
      refine T_iconst (pc' := 100) dX12_plays_99 (by decide) rfl ?_
      refine T_istore_n (i := 2) (L' := [(2, 66), (0, v1), (0, 0)]) (pc' := 101) dX12_plays_100 rfl (by decide) rfl rfl ?_
      obtain ⟨k2, H⟩ := H
      refine T_wk (L' := [(2, 66), (0, v1), (0, 0)]) (qX12_plays_101 (v1 := v1) (fun M3 H hG4 => ?_) _ _ _ H hG) ⟨Or.inr rfl, Or.inr rfl, Or.inr rfl, trivial⟩
      refine T_iconst (pc' := 130) dX12_plays_129 (by decide) rfl ?_
      refine T_istore_n (i := 2) (L' := [(2, 66), (0, v1), (0, 0)]) (pc' := 131) dX12_plays_130 rfl (by decide) rfl rfl ?_
      obtain ⟨k5, H⟩ := H
      refine T_wk (L' := [(2, 66), (0, v1), (0, 0)]) (qX12_plays_131 (v1 := v1) (fun M6 H hG7 => ?_) _ _ _ H hG4) ⟨Or.inr rfl, Or.inr rfl, Or.inr rfl, trivial⟩
      refine T_aload_n (i := 0) (pc' := 190) dX12_plays_189 rfl rfl rfl ?_
      refine T_iload_n (i := 1) (pc' := 191) dX12_plays_190 rfl rfl rfl ?_
      obtain ⟨z8, H⟩ := H
      refine T_callV (av := [(0, v1)]) (st := []) (d2 := 5) (nc2 := 0) (ns2 := 0) (pc' := 194) dX12_plays_191 rfl mtX12_looksUp mvX12_looksUp mlX12_420 cl12 rfl rfl rfl (Nat.le_of_ble_eq_true rfl) (by decide) ⟨by decide, by decide⟩ rfl (pX12_looksUp (E := E) (h := h) (M := M6) (v1 := v1) z8 hG7) (kF (st2 := []) rfl (fun hG9 => ?_))
      obtain ⟨M10, eM10⟩ : ∃ m : Mem, m = (fmX12_looksUp M6 v1) := ⟨_, rfl⟩
      rw [← eM10] at hG9 ⊢
      replace H := H M10 eM10
      refine T_iinc (L' := [(2, 66), (0, (wr32 (v1 + 1))), (3, 0)]) (pc' := 197) dX12_plays_194 rfl (by decide) rfl rfl ?_
      refine T_goto (pc' := 92) dX12_plays_197 (by decide) ?_
      exact T_wk (L' := [(2, 66), (0, (wr32 (v1 + 1))), (3, 0)]) (ih _ _ H hG9) ⟨Or.inr rfl, Or.inr rfl, Or.inl rfl, trivial⟩
set_option maxRecDepth 100000 in
set_option maxHeartbeats 2000000 in
theorem pX12_plays {E : EV} {h : Int} {M : Mem}   {Q : Int → Mem → Prop} (H : PX12_plays  M Q) : C2 E miX12_plays 6 h [(2, 66)] M (RV Q) := by
  refine C2_of (L := [(2, 66), (3, 0), (3, 0)]) (by decide +kernel) (Nat.le_of_ble_eq_true rfl) rfl (fun hG => ?_)
  refine T_aload_n (i := 0) (pc' := 1) dX12_plays_0 rfl rfl rfl ?_
  refine T_callV (av := []) (st := []) (d2 := 3) (nc2 := 0) (ns2 := 0) (pc' := 4) dX12_plays_1 rfl mtX12_spreads mvX12_spreads mlX12_417 cl12 rfl rfl rfl (Nat.le_of_ble_eq_true rfl) (by decide) ⟨by decide, by decide⟩ rfl (pX12_spreads (E := E) (h := h) (M := M) H hG) ?_
  rintro _ _ M2 ⟨rfl, hG3, rfl, H⟩ _
  refine T_aload_n (i := 0) (pc' := 5) dX12_plays_4 rfl rfl rfl ?_
  refine T_iconst (pc' := 6) dX12_plays_5 (by decide) rfl ?_
  refine U_pf (y := (-1)) (k := 51) (kI := 51) (pc' := 9) dX12_plays_6 rfl cl12 (by decide) rfl (by decide) flX12_370 rfl rfl rfl rfl rfl (by decide) (fun z => z) rfl ?_
  have hG4 := (G_fld (x := 66) (i := 51) (y := (-1)) rfl (by decide) (by decide) (by decide) hG3)
  obtain ⟨M5, eM5⟩ : ∃ m : Mem, m = (mset M2 66 51 (-1)) := ⟨_, rfl⟩
  rw [← eM5] at hG4 ⊢
  replace H := H M5 eM5
  refine T_aload_n (i := 0) (pc' := 10) dX12_plays_9 rfl rfl rfl ?_
  refine T_iconst (pc' := 11) dX12_plays_10 (by decide) rfl ?_
  refine U_pf (y := (-1)) (k := 52) (kI := 52) (pc' := 14) dX12_plays_11 rfl cl12 (by decide) rfl (by decide) flX12_414 rfl rfl rfl rfl rfl (by decide) (fun z => z) rfl ?_
  have hG6 := (G_fld (x := 66) (i := 52) (y := (-1)) rfl (by decide) (by decide) (by decide) hG4)
  obtain ⟨M7, eM7⟩ : ∃ m : Mem, m = (mset M5 66 52 (-1)) := ⟨_, rfl⟩
  rw [← eM7] at hG6 ⊢
  replace H := H M7 eM7
  refine T_aload_n (i := 0) (pc' := 15) dX12_plays_14 rfl rfl rfl ?_
  refine T_iconst (pc' := 16) dX12_plays_15 (by decide) rfl ?_
  refine U_pf (y := 0) (k := 50) (kI := 50) (pc' := 19) dX12_plays_16 rfl cl12 (by decide) rfl (by decide) flX12_407 rfl rfl rfl rfl rfl (by decide) (fun _ => bool_ok (by decide)) rfl ?_
  have hG8 := (G_fld (x := 66) (i := 50) (y := 0) rfl (by decide) (by decide) (by decide) hG6)
  obtain ⟨M9, eM9⟩ : ∃ m : Mem, m = (mset M7 66 50 0) := ⟨_, rfl⟩
  rw [← eM9] at hG8 ⊢
  replace H := H M9 eM9
  refine T_iconst (pc' := 20) dX12_plays_19 (by decide) rfl ?_
  refine T_istore_n (i := 1) (L' := [(2, 66), (0, 0), (3, 0)]) (pc' := 21) dX12_plays_20 rfl (by decide) rfl rfl ?_
  obtain ⟨k10, H⟩ := H
  refine T_wk (L' := [(2, 66), (0, 0), (3, 0)]) (qX12_plays_21  (fun M11 H hG12 => ?_) _ _ _ H hG8) ⟨Or.inr rfl, Or.inr rfl, Or.inl rfl, trivial⟩
  refine T_aload_n (i := 0) (pc' := 86) dX12_plays_85 rfl rfl rfl ?_
  refine T_iconst (pc' := 87) dX12_plays_86 (by decide) rfl ?_
  obtain ⟨z13, H⟩ := H
  refine T_callV (av := [(0, 0)]) (st := []) (d2 := 5) (nc2 := 0) (ns2 := 0) (pc' := 90) dX12_plays_87 rfl mtX12_looksUp mvX12_looksUp mlX12_420 cl12 rfl rfl rfl (Nat.le_of_ble_eq_true rfl) (by decide) ⟨by decide, by decide⟩ rfl (pX12_looksUp (E := E) (h := h) (M := M11) (v1 := 0) z13 hG12) (kF (st2 := []) rfl (fun hG14 => ?_))
  obtain ⟨M15, eM15⟩ : ∃ m : Mem, m = (fmX12_looksUp M11 0) := ⟨_, rfl⟩
  rw [← eM15] at hG14 ⊢
  replace H := H M15 eM15
  refine T_iconst (pc' := 91) dX12_plays_90 (by decide) rfl ?_
  refine T_istore_n (i := 1) (L' := [(2, 66), (0, 1), (3, 0)]) (pc' := 92) dX12_plays_91 rfl (by decide) rfl rfl ?_
  obtain ⟨k16, H⟩ := H
  refine T_wk (L' := [(2, 66), (0, 1), (3, 0)]) (qX12_plays_92  (fun M17 H hG18 => ?_) _ _ _ H hG14) ⟨Or.inr rfl, Or.inr rfl, Or.inl rfl, trivial⟩
  exact T_vret dX12_plays_200 rfl ⟨rfl, hG18, rfl, H⟩
def PX12_letter_67  (K : Int → Mem → Prop) (Q : Int → Mem → Prop) : Nat → Int → Int → Mem → Prop
  | 0 => fun _ _ _ => False
  | k + 1 => fun v6 v7 M => (((m_cmp v7 0) ≤ 0 → K v6 M) ∧ (¬ ((m_cmp v7 0) ≤ 0) → PX12_letter_67  K Q k (wr32 (v6 + 1)) (wr64 (Int.tdiv v7 27)) M))
def PX12_letter_102 (v3 : Int) (K : Int → Mem → Prop) (Q : Int → Mem → Prop) : Nat → Int → Int → Mem → Prop
  | 0 => fun _ _ _ => False
  | k + 1 => fun v4 v7 M => ((v7 ≤ v3 → K v4 M) ∧ (¬ (v7 ≤ v3) → PX12_letter_102 v3 K Q k (wr64 (Int.tdiv v4 27)) (wr32 (v7 + (-1))) M))
def PX12_letter (v1 : Int) (v2 : Int) (v3 : Int) (M : Mem) (Q : Int → Mem → Prop) : Prop :=
  (((fX12_isIn v1 0 1) = 0 → Q (-1) M) ∧ (¬ ((fX12_isIn v1 0 1) = 0) → 0 ≤ (wr32 (3 + v1)) ∧ (wr32 (3 + v1)) < 6 ∧ (((fX12_isIn v2 0 (wr32 ((M 85 (wr32 (3 + v1))) - 1))) = 0 → Q (-1) M) ∧ (¬ ((fX12_isIn v2 0 (wr32 ((M 85 (wr32 (3 + v1))) - 1))) = 0) → (((fX12_isIn v3 0 5) = 0 → Q (-1) M) ∧ (¬ ((fX12_isIn v3 0 5) = 0) → 0 ≤ (wr32 ((wr32 (20 + (wr32 (10 * v1)))) + v2)) ∧ (wr32 ((wr32 (20 + (wr32 (10 * v1)))) + v2)) < 40 ∧ (∃ k7 : Nat, PX12_letter_67 (fun u8 M9 => ((v3 < u8 → (∃ k12 : Nat, PX12_letter_102 v3 (fun u13 M14 => Q (wr32 (Int.tmod u13 27)) M14) Q k12 (M 86 (wr32 ((wr32 (20 + (wr32 (10 * v1)))) + v2))) (wr32 (u8 - 1)) M9)) ∧ (¬ (v3 < u8) → Q 0 M9))) Q k7 0 (M 86 (wr32 ((wr32 (20 + (wr32 (10 * v1)))) + v2))) M)))))))
set_option maxRecDepth 100000 in
set_option maxHeartbeats 2000000 in
theorem qX12_letter_67 {E : EV} {h : Int} {v3 : Int} {v4 : Int}  {K : Int → Mem → Prop} {Q : Int → Mem → Prop} (hK : ∀ (v6 : Int) (M : Mem), K v6 M → G h M → TG E miX12_letter 2 h (RI 0 Q) 88 [(2, 66), (3, 0), (3, 0), (0, v3), (1, v4), (3, 0), (0, v6), (3, 0), (3, 0)] [] M) : ∀ (k : Nat) (v6 v7 : Int) (M : Mem), PX12_letter_67  K Q k v6 v7 M → G h M → TG E miX12_letter 2 h (RI 0 Q) 67 [(2, 66), (3, 0), (3, 0), (0, v3), (1, v4), (3, 0), (0, v6), (1, v7), (3, 0)] [] M := by
  intro k
  induction k with
  | zero =>
    intro v6 v7 M H
    exact False.elim H
  | succ k ih =>
    intro v6 v7 M H hG
    refine T_lload (i := 7) (pc' := 69) dX12_letter_67 rfl rfl ?_
    refine T_lconst (v := 0) (pc' := 70) dX12_letter_69 rfl (by decide) rfl ?_
    refine T_lcmp (pc' := 71) dX12_letter_70 rfl ?_
    refine T_if_le (pc' := 88) dX12_letter_71 (by decide) (pf := 74) rfl (fun c1 => ?_) (fun c1 => ?_)
    · skip
      replace H := H.1 c1
      exact T_wk (L' := [(2, 66), (3, 0), (3, 0), (0, v3), (1, v4), (3, 0), (0, v6), (3, 0), (3, 0)]) (hK _ _ H hG) ⟨Or.inr rfl, Or.inl rfl, Or.inl rfl, Or.inr rfl, Or.inr rfl, Or.inl rfl, Or.inr rfl, Or.inl rfl, Or.inl rfl, trivial⟩
    · skip
      replace H := H.2 c1
      refine T_iinc (L' := [(2, 66), (3, 0), (3, 0), (0, v3), (1, v4), (3, 0), (0, (wr32 (v6 + 1))), (1, v7), (3, 0)]) (pc' := 77) dX12_letter_74 rfl (by decide) rfl rfl ?_
      refine T_lload (i := 7) (pc' := 79) dX12_letter_77 rfl rfl ?_
      refine T_ldc2 (n := 27) (pc' := 82) dX12_letter_79 rfl kjX12_259 rfl (by decide) rfl ?_
      refine T_ldiv (pc' := 83) dX12_letter_82 (by decide) rfl ?_
      refine T_lstore (i := 7) (L' := [(2, 66), (3, 0), (3, 0), (0, v3), (1, v4), (3, 0), (0, (wr32 (v6 + 1))), (1, (wr64 (Int.tdiv v7 27))), (3, 0)]) (pc' := 85) dX12_letter_83 (by decide) rfl rfl ?_
      refine T_goto (pc' := 67) dX12_letter_85 (by decide) ?_
      exact T_wk (L' := [(2, 66), (3, 0), (3, 0), (0, v3), (1, v4), (3, 0), (0, (wr32 (v6 + 1))), (1, (wr64 (Int.tdiv v7 27))), (3, 0)]) (ih _ _ _ H hG) ⟨Or.inr rfl, Or.inl rfl, Or.inl rfl, Or.inr rfl, Or.inr rfl, Or.inl rfl, Or.inr rfl, Or.inr rfl, Or.inl rfl, trivial⟩
set_option maxRecDepth 100000 in
set_option maxHeartbeats 2000000 in
theorem qX12_letter_102 {E : EV} {h : Int} {v3 : Int}  {K : Int → Mem → Prop} {Q : Int → Mem → Prop} (hK : ∀ (v4 : Int) (M : Mem), K v4 M → G h M → TG E miX12_letter 2 h (RI 0 Q) 122 [(2, 66), (3, 0), (3, 0), (3, 0), (1, v4), (3, 0), (3, 0), (3, 0), (3, 0)] [] M) : ∀ (k : Nat) (v4 v7 : Int) (M : Mem), PX12_letter_102 v3 K Q k v4 v7 M → G h M → TG E miX12_letter 2 h (RI 0 Q) 102 [(2, 66), (3, 0), (3, 0), (0, v3), (1, v4), (3, 0), (3, 0), (0, v7), (3, 0)] [] M := by
  intro k
  induction k with
  | zero =>
    intro v4 v7 M H
    exact False.elim H
  | succ k ih =>
    intro v4 v7 M H hG
    refine T_iload (i := 7) (pc' := 104) dX12_letter_102 rfl rfl ?_
    refine T_iload_n (i := 3) (pc' := 105) dX12_letter_104 rfl rfl rfl ?_
    refine T_icmp_le (pc' := 122) dX12_letter_105 (by decide) (pf := 108) rfl (fun c1 => ?_) (fun c1 => ?_)
    · skip
      replace H := H.1 c1
      exact T_wk (L' := [(2, 66), (3, 0), (3, 0), (3, 0), (1, v4), (3, 0), (3, 0), (3, 0), (3, 0)]) (hK _ _ H hG) ⟨Or.inr rfl, Or.inl rfl, Or.inl rfl, Or.inl rfl, Or.inr rfl, Or.inl rfl, Or.inl rfl, Or.inl rfl, Or.inl rfl, trivial⟩
    · skip
      replace H := H.2 c1
      refine T_lload (i := 4) (pc' := 110) dX12_letter_108 rfl rfl ?_
      refine T_ldc2 (n := 27) (pc' := 113) dX12_letter_110 rfl kjX12_259 rfl (by decide) rfl ?_
      refine T_ldiv (pc' := 114) dX12_letter_113 (by decide) rfl ?_
      refine T_lstore (i := 4) (L' := [(2, 66), (3, 0), (3, 0), (0, v3), (1, (wr64 (Int.tdiv v4 27))), (3, 0), (3, 0), (0, v7), (3, 0)]) (pc' := 116) dX12_letter_114 (by decide) rfl rfl ?_
      refine T_iinc (L' := [(2, 66), (3, 0), (3, 0), (0, v3), (1, (wr64 (Int.tdiv v4 27))), (3, 0), (3, 0), (0, (wr32 (v7 + (-1)))), (3, 0)]) (pc' := 119) dX12_letter_116 rfl (by decide) rfl rfl ?_
      refine T_goto (pc' := 102) dX12_letter_119 (by decide) ?_
      exact T_wk (L' := [(2, 66), (3, 0), (3, 0), (0, v3), (1, (wr64 (Int.tdiv v4 27))), (3, 0), (3, 0), (0, (wr32 (v7 + (-1)))), (3, 0)]) (ih _ _ _ H hG) ⟨Or.inr rfl, Or.inl rfl, Or.inl rfl, Or.inr rfl, Or.inr rfl, Or.inl rfl, Or.inl rfl, Or.inr rfl, Or.inl rfl, trivial⟩
set_option maxRecDepth 100000 in
set_option maxHeartbeats 2000000 in
theorem pX12_letter {E : EV} {h : Int} {M : Mem} {v1 : Int} {v2 : Int} {v3 : Int}  {Q : Int → Mem → Prop} (H : PX12_letter v1 v2 v3 M Q) : C2 E miX12_letter 2 h [(2, 66), (0, v1), (0, v2), (0, v3)] M (RI 0 Q) := by
  refine C2_of (L := [(2, 66), (0, v1), (0, v2), (0, v3), (3, 0), (3, 0), (3, 0), (3, 0), (3, 0)]) (by decide +kernel) (Nat.le_of_ble_eq_true rfl) rfl (fun hG => ?_)
  refine T_iload_n (i := 1) (pc' := 1) dX12_letter_0 rfl rfl rfl ?_
  refine T_i2l (pc' := 2) dX12_letter_1 rfl ?_
  refine T_lconst (v := 0) (pc' := 3) dX12_letter_2 rfl (by decide) rfl ?_
  refine T_lconst (v := 1) (pc' := 4) dX12_letter_3 rfl (by decide) rfl ?_
  refine T_callS (av := [(1, v1), (1, 0), (1, 1)]) (st := []) (d2 := 1) (nc2 := 0) (ns2 := 0) (pc' := 7) dX12_letter_4 rfl mtX12_isIn mvX12_isIn mlX12_244 rfl rfl (Nat.le_of_ble_eq_true rfl) (by decide) ⟨by decide, by decide⟩ rfl (pX12_isIn (E := E) (h := h) (M := M) (v0 := v1) (v2 := 0) (v4 := 1) hG) (kF (st2 := [(0, (fX12_isIn v1 0 1))]) rfl (fun hG1 => ?_))
  refine T_if_eq (pc' := 42) dX12_letter_7 (by decide) (pf := 10) rfl (fun c2 => ?_) (fun c2 => ?_)
  · skip
    replace H := H.1 c2
    refine T_iconst (pc' := 43) dX12_letter_42 (by decide) rfl ?_
    exact T_iret dX12_letter_43 rfl ⟨rfl, hG, _, rfl, H⟩
  · skip
    replace H := H.2 c2
    refine T_iload_n (i := 2) (pc' := 11) dX12_letter_10 rfl rfl rfl ?_
    refine T_i2l (pc' := 12) dX12_letter_11 rfl ?_
    refine T_lconst (v := 0) (pc' := 13) dX12_letter_12 rfl (by decide) rfl ?_
    refine T_aload_n (i := 0) (pc' := 14) dX12_letter_13 rfl rfl rfl ?_
    refine U_gr (q := 85) (k := 28) (kI := 28) (pc' := 17) dX12_letter_14 rfl cl12 (by decide) rfl (by decide) flX12_69 rfl rfl rfl (G_at hG 85 rfl) (by decide) rfl ?_
    refine T_iconst (pc' := 18) dX12_letter_17 (by decide) rfl ?_
    refine T_iload_n (i := 1) (pc' := 19) dX12_letter_18 rfl rfl rfl ?_
    refine T_iadd (pc' := 20) dX12_letter_19 rfl ?_
    obtain ⟨z1, z2, H⟩ := H
    refine T_iald (pc' := 21) dX12_letter_20 (by decide) rfl z1 z2 rfl ?_
    refine T_iconst (pc' := 22) dX12_letter_21 (by decide) rfl ?_
    refine T_isub (pc' := 23) dX12_letter_22 rfl ?_
    refine T_i2l (pc' := 24) dX12_letter_23 rfl ?_
    refine T_callS (av := [(1, v2), (1, 0), (1, (wr32 ((M 85 (wr32 (3 + v1))) - 1)))]) (st := []) (d2 := 1) (nc2 := 0) (ns2 := 0) (pc' := 27) dX12_letter_24 rfl mtX12_isIn mvX12_isIn mlX12_244 rfl rfl (Nat.le_of_ble_eq_true rfl) (by decide) ⟨by decide, by decide⟩ rfl (pX12_isIn (E := E) (h := h) (M := M) (v0 := v2) (v2 := 0) (v4 := (wr32 ((M 85 (wr32 (3 + v1))) - 1))) hG) (kF (st2 := [(0, (fX12_isIn v2 0 (wr32 ((M 85 (wr32 (3 + v1))) - 1))))]) rfl (fun hG3 => ?_))
    refine T_if_eq (pc' := 42) dX12_letter_27 (by decide) (pf := 30) rfl (fun c4 => ?_) (fun c4 => ?_)
    · skip
      replace H := H.1 c4
      refine T_iconst (pc' := 43) dX12_letter_42 (by decide) rfl ?_
      exact T_iret dX12_letter_43 rfl ⟨rfl, hG, _, rfl, H⟩
    · skip
      replace H := H.2 c4
      refine T_iload_n (i := 3) (pc' := 31) dX12_letter_30 rfl rfl rfl ?_
      refine T_i2l (pc' := 32) dX12_letter_31 rfl ?_
      refine T_lconst (v := 0) (pc' := 33) dX12_letter_32 rfl (by decide) rfl ?_
      refine T_ldc2 (n := 5) (pc' := 36) dX12_letter_33 rfl kjX12_435 rfl (by decide) rfl ?_
      refine T_callS (av := [(1, v3), (1, 0), (1, 5)]) (st := []) (d2 := 1) (nc2 := 0) (ns2 := 0) (pc' := 39) dX12_letter_36 rfl mtX12_isIn mvX12_isIn mlX12_244 rfl rfl (Nat.le_of_ble_eq_true rfl) (by decide) ⟨by decide, by decide⟩ rfl (pX12_isIn (E := E) (h := h) (M := M) (v0 := v3) (v2 := 0) (v4 := 5) hG) (kF (st2 := [(0, (fX12_isIn v3 0 5))]) rfl (fun hG5 => ?_))
      refine T_if_ne (pc' := 44) dX12_letter_39 (by decide) (pf := 42) rfl (fun c6 => ?_) (fun c6 => ?_)
      · skip
        replace H := H.2 c6
        refine T_aload_n (i := 0) (pc' := 45) dX12_letter_44 rfl rfl rfl ?_
        refine U_gr (q := 86) (k := 29) (kI := 29) (pc' := 48) dX12_letter_45 rfl cl12 (by decide) rfl (by decide) flX12_72 rfl rfl rfl (G_at hG 86 rfl) (by decide) rfl ?_
        refine T_bipush (pc' := 50) dX12_letter_48 rfl (by decide) rfl ?_
        refine T_bipush (pc' := 52) dX12_letter_50 rfl (by decide) rfl ?_
        refine T_iload_n (i := 1) (pc' := 53) dX12_letter_52 rfl rfl rfl ?_
        refine T_imul (pc' := 54) dX12_letter_53 rfl ?_
        refine T_iadd (pc' := 55) dX12_letter_54 rfl ?_
        refine T_iload_n (i := 2) (pc' := 56) dX12_letter_55 rfl rfl rfl ?_
        refine T_iadd (pc' := 57) dX12_letter_56 rfl ?_
        obtain ⟨z1, z2, H⟩ := H
        refine T_lald (pc' := 58) dX12_letter_57 (by decide) rfl z1 z2 rfl ?_
        refine T_lstore (i := 4) (L' := [(2, 66), (0, v1), (0, v2), (0, v3), (1, (M 86 (wr32 ((wr32 (20 + (wr32 (10 * v1)))) + v2)))), (3, 0), (3, 0), (3, 0), (3, 0)]) (pc' := 60) dX12_letter_58 (by decide) rfl rfl ?_
        refine T_iconst (pc' := 61) dX12_letter_60 (by decide) rfl ?_
        refine T_istore (i := 6) (L' := [(2, 66), (0, v1), (0, v2), (0, v3), (1, (M 86 (wr32 ((wr32 (20 + (wr32 (10 * v1)))) + v2)))), (3, 0), (0, 0), (3, 0), (3, 0)]) (pc' := 63) dX12_letter_61 (by decide) rfl rfl ?_
        refine T_lload (i := 4) (pc' := 65) dX12_letter_63 rfl rfl ?_
        refine T_lstore (i := 7) (L' := [(2, 66), (0, v1), (0, v2), (0, v3), (1, (M 86 (wr32 ((wr32 (20 + (wr32 (10 * v1)))) + v2)))), (3, 0), (0, 0), (1, (M 86 (wr32 ((wr32 (20 + (wr32 (10 * v1)))) + v2)))), (3, 0)]) (pc' := 67) dX12_letter_65 (by decide) rfl rfl ?_
        obtain ⟨k7, H⟩ := H
        refine T_wk (L' := [(2, 66), (3, 0), (3, 0), (0, v3), (1, (M 86 (wr32 ((wr32 (20 + (wr32 (10 * v1)))) + v2)))), (3, 0), (0, 0), (1, (M 86 (wr32 ((wr32 (20 + (wr32 (10 * v1)))) + v2)))), (3, 0)]) (qX12_letter_67 (v3 := v3) (v4 := (M 86 (wr32 ((wr32 (20 + (wr32 (10 * v1)))) + v2)))) (fun u8 M9 H hG10 => ?_) _ _ _ _ H hG) ⟨Or.inr rfl, Or.inl rfl, Or.inl rfl, Or.inr rfl, Or.inr rfl, Or.inl rfl, Or.inr rfl, Or.inr rfl, Or.inl rfl, trivial⟩
        refine T_iload_n (i := 3) (pc' := 89) dX12_letter_88 rfl rfl rfl ?_
        refine T_iload (i := 6) (pc' := 91) dX12_letter_89 rfl rfl ?_
        refine T_icmp_lt (pc' := 96) dX12_letter_91 (by decide) (pf := 94) rfl (fun c11 => ?_) (fun c11 => ?_)
        · skip
          replace H := H.1 c11
          refine T_iload (i := 6) (pc' := 98) dX12_letter_96 rfl rfl ?_
          refine T_iconst (pc' := 99) dX12_letter_98 (by decide) rfl ?_
          refine T_isub (pc' := 100) dX12_letter_99 rfl ?_
          refine T_istore (i := 7) (L' := [(2, 66), (3, 0), (3, 0), (0, v3), (1, (M 86 (wr32 ((wr32 (20 + (wr32 (10 * v1)))) + v2)))), (3, 0), (0, u8), (0, (wr32 (u8 - 1))), (3, 0)]) (pc' := 102) dX12_letter_100 (by decide) rfl rfl ?_
          obtain ⟨k12, H⟩ := H
          refine T_wk (L' := [(2, 66), (3, 0), (3, 0), (0, v3), (1, (M 86 (wr32 ((wr32 (20 + (wr32 (10 * v1)))) + v2)))), (3, 0), (3, 0), (0, (wr32 (u8 - 1))), (3, 0)]) (qX12_letter_102 (v3 := v3) (fun u13 M14 H hG15 => ?_) _ _ _ _ H hG10) ⟨Or.inr rfl, Or.inl rfl, Or.inl rfl, Or.inr rfl, Or.inr rfl, Or.inl rfl, Or.inl rfl, Or.inr rfl, Or.inl rfl, trivial⟩
          refine T_lload (i := 4) (pc' := 124) dX12_letter_122 rfl rfl ?_
          refine T_ldc2 (n := 27) (pc' := 127) dX12_letter_124 rfl kjX12_259 rfl (by decide) rfl ?_
          refine T_lrem (pc' := 128) dX12_letter_127 (by decide) rfl ?_
          refine T_l2i (pc' := 129) dX12_letter_128 rfl ?_
          exact T_iret dX12_letter_129 rfl ⟨rfl, hG15, _, rfl, H⟩
        · skip
          replace H := H.2 c11
          refine T_iconst (pc' := 95) dX12_letter_94 (by decide) rfl ?_
          exact T_iret dX12_letter_95 rfl ⟨rfl, hG10, _, rfl, H⟩
      · skip
        replace H := H.1 c6
        refine T_iconst (pc' := 43) dX12_letter_42 (by decide) rfl ?_
        exact T_iret dX12_letter_43 rfl ⟨rfl, hG, _, rfl, H⟩
def PX12_door (v1 : Int) (v2 : Int) (M : Mem) (Q : Int → Mem → Prop) : Prop :=
  (((fX12_isIn v1 0 (wr32 ((fX12_doorMany M) - 1))) = 0 → Q (-1) M) ∧ (¬ ((fX12_isIn v1 0 (wr32 ((fX12_doorMany M) - 1))) = 0) → (((fX12_isIn v2 0 3) = 0 → Q (-1) M) ∧ (¬ ((fX12_isIn v2 0 3) = 0) → PX12_plays M (fun _ M7 => ((v2 = 0 → 0 ≤ (wr32 (6 + v1)) ∧ (wr32 (6 + v1)) < 12 ∧ Q (M7 90 (wr32 (6 + v1))) M7) ∧ (¬ (v2 = 0) → ((v2 = 1 → 0 ≤ v1 ∧ v1 < 6 ∧ Q (M7 92 v1) M7) ∧ (¬ (v2 = 1) → (nX12_outBy M7 v1 (if v2 = 3 then (1 : Int) else 0)) ∧ (∀ a14 : Int, a14 = (fX12_outBy M7 v1 (if v2 = 3 then (1 : Int) else 0)) → Q a14 M7))))))))))
set_option maxRecDepth 100000 in
set_option maxHeartbeats 2000000 in
theorem pX12_door {E : EV} {h : Int} {M : Mem} {v1 : Int} {v2 : Int}  {Q : Int → Mem → Prop} (H : PX12_door v1 v2 M Q) : C2 E miX12_door 7 h [(2, 66), (0, v1), (0, v2)] M (RI 0 Q) := by
  refine C2_of (L := [(2, 66), (0, v1), (0, v2)]) (by decide +kernel) (Nat.le_of_ble_eq_true rfl) rfl (fun hG => ?_)
  refine T_iload_n (i := 1) (pc' := 1) dX12_door_0 rfl rfl rfl ?_
  refine T_i2l (pc' := 2) dX12_door_1 rfl ?_
  refine T_lconst (v := 0) (pc' := 3) dX12_door_2 rfl (by decide) rfl ?_
  refine T_aload_n (i := 0) (pc' := 4) dX12_door_3 rfl rfl rfl ?_
  refine T_callV (av := []) (st := [(1, 0), (1, v1)]) (d2 := 1) (nc2 := 0) (ns2 := 0) (pc' := 7) dX12_door_4 rfl mtX12_doorMany mvX12_doorMany mlX12_361 cl12 rfl rfl rfl (Nat.le_of_ble_eq_true rfl) (by decide) ⟨by decide, by decide⟩ rfl (pX12_doorMany (E := E) (h := h) (M := M) hG) (kF (st2 := [(0, (fX12_doorMany M)), (1, 0), (1, v1)]) rfl (fun hG1 => ?_))
  refine T_iconst (pc' := 8) dX12_door_7 (by decide) rfl ?_
  refine T_isub (pc' := 9) dX12_door_8 rfl ?_
  refine T_i2l (pc' := 10) dX12_door_9 rfl ?_
  refine T_callS (av := [(1, v1), (1, 0), (1, (wr32 ((fX12_doorMany M) - 1)))]) (st := []) (d2 := 1) (nc2 := 0) (ns2 := 0) (pc' := 13) dX12_door_10 rfl mtX12_isIn mvX12_isIn mlX12_244 rfl rfl (Nat.le_of_ble_eq_true rfl) (by decide) ⟨by decide, by decide⟩ rfl (pX12_isIn (E := E) (h := h) (M := M) (v0 := v1) (v2 := 0) (v4 := (wr32 ((fX12_doorMany M) - 1))) hG) (kF (st2 := [(0, (fX12_isIn v1 0 (wr32 ((fX12_doorMany M) - 1))))]) rfl (fun hG2 => ?_))
  refine T_if_eq (pc' := 28) dX12_door_13 (by decide) (pf := 16) rfl (fun c3 => ?_) (fun c3 => ?_)
  · skip
    replace H := H.1 c3
    refine T_iconst (pc' := 29) dX12_door_28 (by decide) rfl ?_
    exact T_iret dX12_door_29 rfl ⟨rfl, hG, _, rfl, H⟩
  · skip
    replace H := H.2 c3
    refine T_iload_n (i := 2) (pc' := 17) dX12_door_16 rfl rfl rfl ?_
    refine T_i2l (pc' := 18) dX12_door_17 rfl ?_
    refine T_lconst (v := 0) (pc' := 19) dX12_door_18 rfl (by decide) rfl ?_
    refine T_ldc2 (n := 3) (pc' := 22) dX12_door_19 rfl kjX12_439 rfl (by decide) rfl ?_
    refine T_callS (av := [(1, v2), (1, 0), (1, 3)]) (st := []) (d2 := 1) (nc2 := 0) (ns2 := 0) (pc' := 25) dX12_door_22 rfl mtX12_isIn mvX12_isIn mlX12_244 rfl rfl (Nat.le_of_ble_eq_true rfl) (by decide) ⟨by decide, by decide⟩ rfl (pX12_isIn (E := E) (h := h) (M := M) (v0 := v2) (v2 := 0) (v4 := 3) hG) (kF (st2 := [(0, (fX12_isIn v2 0 3))]) rfl (fun hG4 => ?_))
    refine T_if_ne (pc' := 30) dX12_door_25 (by decide) (pf := 28) rfl (fun c5 => ?_) (fun c5 => ?_)
    · skip
      replace H := H.2 c5
      refine T_aload_n (i := 0) (pc' := 31) dX12_door_30 rfl rfl rfl ?_
      refine T_callV (av := []) (st := []) (d2 := 6) (nc2 := 0) (ns2 := 0) (pc' := 34) dX12_door_31 rfl mtX12_plays mvX12_plays mlX12_441 cl12 rfl rfl rfl (Nat.le_of_ble_eq_true rfl) (by decide) ⟨by decide, by decide⟩ rfl (pX12_plays (E := E) (h := h) (M := M) H hG) ?_
      rintro _ _ M7 ⟨rfl, hG8, rfl, H⟩ _
      refine T_iload_n (i := 2) (pc' := 35) dX12_door_34 rfl rfl rfl ?_
      refine T_if_ne (pc' := 50) dX12_door_35 (by decide) (pf := 38) rfl (fun c9 => ?_) (fun c9 => ?_)
      · skip
        replace H := H.2 c9
        refine T_iload_n (i := 2) (pc' := 51) dX12_door_50 rfl rfl rfl ?_
        refine T_iconst (pc' := 52) dX12_door_51 (by decide) rfl ?_
        refine T_icmp_ne (pc' := 64) dX12_door_52 (by decide) (pf := 55) rfl (fun c10 => ?_) (fun c10 => ?_)
        · skip
          replace H := H.2 c10
          refine T_aload_n (i := 0) (pc' := 65) dX12_door_64 rfl rfl rfl ?_
          refine T_iload_n (i := 1) (pc' := 66) dX12_door_65 rfl rfl rfl ?_
          refine T_iload_n (i := 2) (pc' := 67) dX12_door_66 rfl rfl rfl ?_
          refine T_iconst (pc' := 68) dX12_door_67 (by decide) rfl ?_
          have HJ11 : T E miX12_door 7 126 0 0 (fun r S M' => S = S0 ∧ G h M' ∧ RI 0 Q r M') 76 [(3, 0), (3, 0), (3, 0)] [(0, (if v2 = 3 then (1 : Int) else 0)), (0, v1), (2, 66)] S0 M7 0 0 := by
            obtain ⟨z12, H⟩ := H
            refine T_callV (av := [(0, v1), (0, (if v2 = 3 then (1 : Int) else 0))]) (st := []) (d2 := 4) (nc2 := 0) (ns2 := 0) (pc' := 79) dX12_door_76 rfl mtX12_outBy mvX12_outBy mlX12_444 cl12 rfl rfl rfl (Nat.le_of_ble_eq_true rfl) (by decide) ⟨by decide, by decide⟩ rfl (pX12_outBy (E := E) (h := h) (M := M7) (v1 := v1) (v2 := (if v2 = 3 then (1 : Int) else 0)) z12 hG8) (kF (st2 := [(0, (fX12_outBy M7 v1 (if v2 = 3 then (1 : Int) else 0)))]) rfl (fun hG13 => ?_))
            obtain ⟨a14, ea14⟩ : ∃ z : Int, z = (fX12_outBy M7 v1 (if v2 = 3 then (1 : Int) else 0)) := ⟨_, rfl⟩
            rw [← ea14]
            replace H := H a14 ea14
            exact T_iret dX12_door_79 rfl ⟨rfl, hG8, _, rfl, H⟩
          refine T_icmp_ne (pc' := 75) dX12_door_68 (by decide) (pf := 71) rfl (fun c15 => ?_) (fun c15 => ?_)
          · skip
            refine T_iconst (pc' := 76) dX12_door_75 (by decide) rfl ?_
            exact T_wk (L' := [(3, 0), (3, 0), (3, 0)]) (by have q := HJ11; try simp only [if_neg c15] at q ⊢; exact q) ⟨Or.inl rfl, Or.inl rfl, Or.inl rfl, trivial⟩
          · skip
            refine T_iconst (pc' := 72) dX12_door_71 (by decide) rfl ?_
            refine T_goto (pc' := 76) dX12_door_72 (by decide) ?_
            exact T_wk (L' := [(3, 0), (3, 0), (3, 0)]) (by have q := HJ11; try simp only [if_pos c15] at q ⊢; exact q) ⟨Or.inl rfl, Or.inl rfl, Or.inl rfl, trivial⟩
        · skip
          replace H := H.1 c10
          refine T_aload_n (i := 0) (pc' := 56) dX12_door_55 rfl rfl rfl ?_
          refine U_gr (q := 92) (k := 41) (kI := 41) (pc' := 59) dX12_door_56 rfl cl12 (by decide) rfl (by decide) flX12_92 rfl rfl rfl (G_at hG8 92 rfl) (by decide) rfl ?_
          refine T_iload_n (i := 1) (pc' := 60) dX12_door_59 rfl rfl rfl ?_
          obtain ⟨z1, z2, H⟩ := H
          refine T_iald (pc' := 61) dX12_door_60 (by decide) rfl z1 z2 rfl ?_
          refine T_goto (pc' := 79) dX12_door_61 (by decide) ?_
          exact T_iret dX12_door_79 rfl ⟨rfl, hG8, _, rfl, H⟩
      · skip
        replace H := H.1 c9
        refine T_aload_n (i := 0) (pc' := 39) dX12_door_38 rfl rfl rfl ?_
        refine U_gr (q := 90) (k := 33) (kI := 33) (pc' := 42) dX12_door_39 rfl cl12 (by decide) rfl (by decide) flX12_86 rfl rfl rfl (G_at hG8 90 rfl) (by decide) rfl ?_
        refine T_bipush (pc' := 44) dX12_door_42 rfl (by decide) rfl ?_
        refine T_iload_n (i := 1) (pc' := 45) dX12_door_44 rfl rfl rfl ?_
        refine T_iadd (pc' := 46) dX12_door_45 rfl ?_
        obtain ⟨z1, z2, H⟩ := H
        refine T_iald (pc' := 47) dX12_door_46 (by decide) rfl z1 z2 rfl ?_
        refine T_goto (pc' := 79) dX12_door_47 (by decide) ?_
        exact T_iret dX12_door_79 rfl ⟨rfl, hG8, _, rfl, H⟩
    · skip
      replace H := H.1 c5
      refine T_iconst (pc' := 29) dX12_door_28 (by decide) rfl ?_
      exact T_iret dX12_door_29 rfl ⟨rfl, hG, _, rfl, H⟩
def PX12_where (v1 : Int) (v2 : Int) (M : Mem) (Q : Int → Mem → Prop) : Prop :=
  (((fX12_isComing M v1) = 0 → Q (-1) M) ∧ (¬ ((fX12_isComing M v1) = 0) → (((fX12_isSecond v2) = 0 → Q (-1) M) ∧ (¬ ((fX12_isSecond v2) = 0) → PX12_plays M (fun _ M6 => (nX12_isOut M6 v1) ∧ (((fX12_isOut M6 v1 v2) = 0 → (nX12_whereIn v1 v2) ∧ Q (fX12_whereIn M6 v1 v2) M6) ∧ (¬ ((fX12_isOut M6 v1 v2) = 0) → Q (-1) M6)))))))
set_option maxRecDepth 100000 in
set_option maxHeartbeats 2000000 in
theorem pX12_where {E : EV} {h : Int} {M : Mem} {v1 : Int} {v2 : Int}  {Q : Int → Mem → Prop} (H : PX12_where v1 v2 M Q) : C2 E miX12_where 7 h [(2, 66), (0, v1), (0, v2)] M (RI 0 Q) := by
  refine C2_of (L := [(2, 66), (0, v1), (0, v2)]) (by decide +kernel) (Nat.le_of_ble_eq_true rfl) rfl (fun hG => ?_)
  refine T_aload_n (i := 0) (pc' := 1) dX12_where_0 rfl rfl rfl ?_
  refine T_iload_n (i := 1) (pc' := 2) dX12_where_1 rfl rfl rfl ?_
  refine T_callV (av := [(0, v1)]) (st := []) (d2 := 3) (nc2 := 0) (ns2 := 0) (pc' := 5) dX12_where_2 rfl mtX12_isComing mvX12_isComing mlX12_376 cl12 rfl rfl rfl (Nat.le_of_ble_eq_true rfl) (by decide) ⟨by decide, by decide⟩ rfl (pX12_isComing (E := E) (h := h) (M := M) (v1 := v1) hG) (kF (st2 := [(0, (fX12_isComing M v1))]) rfl (fun hG1 => ?_))
  refine T_if_eq (pc' := 15) dX12_where_5 (by decide) (pf := 8) rfl (fun c2 => ?_) (fun c2 => ?_)
  · skip
    replace H := H.1 c2
    refine T_iconst (pc' := 16) dX12_where_15 (by decide) rfl ?_
    exact T_iret dX12_where_16 rfl ⟨rfl, hG, _, rfl, H⟩
  · skip
    replace H := H.2 c2
    refine T_iload_n (i := 2) (pc' := 9) dX12_where_8 rfl rfl rfl ?_
    refine T_callS (av := [(0, v2)]) (st := []) (d2 := 2) (nc2 := 0) (ns2 := 0) (pc' := 12) dX12_where_9 rfl mtX12_isSecond mvX12_isSecond mlX12_450 rfl rfl (Nat.le_of_ble_eq_true rfl) (by decide) ⟨by decide, by decide⟩ rfl (pX12_isSecond (E := E) (h := h) (M := M) (v0 := v2) hG) (kF (st2 := [(0, (fX12_isSecond v2))]) rfl (fun hG3 => ?_))
    refine T_if_ne (pc' := 17) dX12_where_12 (by decide) (pf := 15) rfl (fun c4 => ?_) (fun c4 => ?_)
    · skip
      replace H := H.2 c4
      refine T_aload_n (i := 0) (pc' := 18) dX12_where_17 rfl rfl rfl ?_
      refine T_callV (av := []) (st := []) (d2 := 6) (nc2 := 0) (ns2 := 0) (pc' := 21) dX12_where_18 rfl mtX12_plays mvX12_plays mlX12_441 cl12 rfl rfl rfl (Nat.le_of_ble_eq_true rfl) (by decide) ⟨by decide, by decide⟩ rfl (pX12_plays (E := E) (h := h) (M := M) H hG) ?_
      rintro _ _ M6 ⟨rfl, hG7, rfl, H⟩ _
      refine T_aload_n (i := 0) (pc' := 22) dX12_where_21 rfl rfl rfl ?_
      refine T_iload_n (i := 1) (pc' := 23) dX12_where_22 rfl rfl rfl ?_
      refine T_iload_n (i := 2) (pc' := 24) dX12_where_23 rfl rfl rfl ?_
      obtain ⟨z8, H⟩ := H
      refine T_callV (av := [(0, v1), (0, v2)]) (st := []) (d2 := 1) (nc2 := 0) (ns2 := 0) (pc' := 27) dX12_where_24 rfl mtX12_isOut mvX12_isOut mlX12_395 cl12 rfl rfl rfl (Nat.le_of_ble_eq_true rfl) (by decide) ⟨by decide, by decide⟩ rfl (pX12_isOut (E := E) (h := h) (M := M6) (v1 := v1) (v2 := v2) z8 hG7) (kF (st2 := [(0, (fX12_isOut M6 v1 v2))]) rfl (fun hG9 => ?_))
      refine T_if_eq (pc' := 34) dX12_where_27 (by decide) (pf := 30) rfl (fun c10 => ?_) (fun c10 => ?_)
      · skip
        replace H := H.1 c10
        refine T_aload_n (i := 0) (pc' := 35) dX12_where_34 rfl rfl rfl ?_
        refine T_iload_n (i := 1) (pc' := 36) dX12_where_35 rfl rfl rfl ?_
        refine T_iload_n (i := 2) (pc' := 37) dX12_where_36 rfl rfl rfl ?_
        obtain ⟨z11, H⟩ := H
        refine T_callV (av := [(0, v1), (0, v2)]) (st := []) (d2 := 1) (nc2 := 0) (ns2 := 0) (pc' := 40) dX12_where_37 rfl mtX12_whereIn mvX12_whereIn mlX12_383 cl12 rfl rfl rfl (Nat.le_of_ble_eq_true rfl) (by decide) ⟨by decide, by decide⟩ rfl (pX12_whereIn (E := E) (h := h) (M := M6) (v1 := v1) (v2 := v2) z11 hG7) (kF (st2 := [(0, (fX12_whereIn M6 v1 v2))]) rfl (fun hG12 => ?_))
        exact T_iret dX12_where_40 rfl ⟨rfl, hG7, _, rfl, H⟩
      · skip
        replace H := H.2 c10
        refine T_iconst (pc' := 31) dX12_where_30 (by decide) rfl ?_
        refine T_goto (pc' := 40) dX12_where_31 (by decide) ?_
        exact T_iret dX12_where_40 rfl ⟨rfl, hG7, _, rfl, H⟩
    · skip
      replace H := H.1 c4
      refine T_iconst (pc' := 16) dX12_where_15 (by decide) rfl ?_
      exact T_iret dX12_where_16 rfl ⟨rfl, hG, _, rfl, H⟩
def PX12_does (v1 : Int) (v2 : Int) (M : Mem) (Q : Int → Mem → Prop) : Prop :=
  (((fX12_isComing M v1) = 0 → Q (-1) M) ∧ (¬ ((fX12_isComing M v1) = 0) → (((fX12_isIn v2 0 3) = 0 → Q (-1) M) ∧ (¬ ((fX12_isIn v2 0 3) = 0) → PX12_plays M (fun _ M6 => ((v2 = 0 → 0 ≤ v1 ∧ v1 < 9 ∧ Q (M6 96 v1) M6) ∧ (¬ (v2 = 0) → ((v2 = 1 → 0 ≤ v1 ∧ v1 < 9 ∧ Q (M6 98 v1) M6) ∧ (¬ (v2 = 1) → ((v2 = 2 → 0 ≤ v1 ∧ v1 < 9 ∧ Q (M6 97 v1) M6) ∧ (¬ (v2 = 2) → 0 ≤ v1 ∧ v1 < 9 ∧ (((M6 98 v1) = (-1) → Q (-1) M6) ∧ (¬ ((M6 98 v1) = (-1)) → 0 ≤ v1 ∧ v1 < 9 ∧ (nX12_whereIn v1 (M6 98 v1)) ∧ (nX12_doorIn M6 (fX12_whereIn M6 v1 (M6 98 v1))) ∧ (∀ a16 : Int, a16 = (fX12_doorIn M6 (fX12_whereIn M6 v1 (M6 98 v1))) → Q a16 M6))))))))))))))
set_option maxRecDepth 100000 in
set_option maxHeartbeats 2000000 in
theorem pX12_does {E : EV} {h : Int} {M : Mem} {v1 : Int} {v2 : Int}  {Q : Int → Mem → Prop} (H : PX12_does v1 v2 M Q) : C2 E miX12_does 7 h [(2, 66), (0, v1), (0, v2)] M (RI 0 Q) := by
  refine C2_of (L := [(2, 66), (0, v1), (0, v2)]) (by decide +kernel) (Nat.le_of_ble_eq_true rfl) rfl (fun hG => ?_)
  refine T_aload_n (i := 0) (pc' := 1) dX12_does_0 rfl rfl rfl ?_
  refine T_iload_n (i := 1) (pc' := 2) dX12_does_1 rfl rfl rfl ?_
  refine T_callV (av := [(0, v1)]) (st := []) (d2 := 3) (nc2 := 0) (ns2 := 0) (pc' := 5) dX12_does_2 rfl mtX12_isComing mvX12_isComing mlX12_376 cl12 rfl rfl rfl (Nat.le_of_ble_eq_true rfl) (by decide) ⟨by decide, by decide⟩ rfl (pX12_isComing (E := E) (h := h) (M := M) (v1 := v1) hG) (kF (st2 := [(0, (fX12_isComing M v1))]) rfl (fun hG1 => ?_))
  refine T_if_eq (pc' := 20) dX12_does_5 (by decide) (pf := 8) rfl (fun c2 => ?_) (fun c2 => ?_)
  · skip
    replace H := H.1 c2
    refine T_iconst (pc' := 21) dX12_does_20 (by decide) rfl ?_
    exact T_iret dX12_does_21 rfl ⟨rfl, hG, _, rfl, H⟩
  · skip
    replace H := H.2 c2
    refine T_iload_n (i := 2) (pc' := 9) dX12_does_8 rfl rfl rfl ?_
    refine T_i2l (pc' := 10) dX12_does_9 rfl ?_
    refine T_lconst (v := 0) (pc' := 11) dX12_does_10 rfl (by decide) rfl ?_
    refine T_ldc2 (n := 3) (pc' := 14) dX12_does_11 rfl kjX12_439 rfl (by decide) rfl ?_
    refine T_callS (av := [(1, v2), (1, 0), (1, 3)]) (st := []) (d2 := 1) (nc2 := 0) (ns2 := 0) (pc' := 17) dX12_does_14 rfl mtX12_isIn mvX12_isIn mlX12_244 rfl rfl (Nat.le_of_ble_eq_true rfl) (by decide) ⟨by decide, by decide⟩ rfl (pX12_isIn (E := E) (h := h) (M := M) (v0 := v2) (v2 := 0) (v4 := 3) hG) (kF (st2 := [(0, (fX12_isIn v2 0 3))]) rfl (fun hG3 => ?_))
    refine T_if_ne (pc' := 22) dX12_does_17 (by decide) (pf := 20) rfl (fun c4 => ?_) (fun c4 => ?_)
    · skip
      replace H := H.2 c4
      refine T_aload_n (i := 0) (pc' := 23) dX12_does_22 rfl rfl rfl ?_
      refine T_callV (av := []) (st := []) (d2 := 6) (nc2 := 0) (ns2 := 0) (pc' := 26) dX12_does_23 rfl mtX12_plays mvX12_plays mlX12_441 cl12 rfl rfl rfl (Nat.le_of_ble_eq_true rfl) (by decide) ⟨by decide, by decide⟩ rfl (pX12_plays (E := E) (h := h) (M := M) H hG) ?_
      rintro _ _ M6 ⟨rfl, hG7, rfl, H⟩ _
      refine T_iload_n (i := 2) (pc' := 27) dX12_does_26 rfl rfl rfl ?_
      by_cases c8 : v2 = 0
      · skip
        replace H := H.1 c8
        refine T_tableIn (pc' := 52) dX12_does_27 (by omega) (by omega) (by rw [c8]; rfl) (by decide) ?_
        refine T_aload_n (i := 0) (pc' := 53) dX12_does_52 rfl rfl rfl ?_
        refine U_gr (q := 96) (k := 46) (kI := 46) (pc' := 56) dX12_does_53 rfl cl12 (by decide) rfl (by decide) flX12_104 rfl rfl rfl (G_at hG7 96 rfl) (by decide) rfl ?_
        refine T_iload_n (i := 1) (pc' := 57) dX12_does_56 rfl rfl rfl ?_
        obtain ⟨z1, z2, H⟩ := H
        refine T_iald (pc' := 58) dX12_does_57 (by decide) rfl z1 z2 rfl ?_
        exact T_iret dX12_does_58 rfl ⟨rfl, hG7, _, rfl, H⟩
      · skip
        replace H := H.2 c8
        by_cases c9 : v2 = 1
        · skip
          replace H := H.1 c9
          refine T_tableIn (pc' := 59) dX12_does_27 (by omega) (by omega) (by rw [c9]; rfl) (by decide) ?_
          refine T_aload_n (i := 0) (pc' := 60) dX12_does_59 rfl rfl rfl ?_
          refine U_gr (q := 98) (k := 48) (kI := 48) (pc' := 63) dX12_does_60 rfl cl12 (by decide) rfl (by decide) flX12_110 rfl rfl rfl (G_at hG7 98 rfl) (by decide) rfl ?_
          refine T_iload_n (i := 1) (pc' := 64) dX12_does_63 rfl rfl rfl ?_
          obtain ⟨z1, z2, H⟩ := H
          refine T_iald (pc' := 65) dX12_does_64 (by decide) rfl z1 z2 rfl ?_
          exact T_iret dX12_does_65 rfl ⟨rfl, hG7, _, rfl, H⟩
        · skip
          replace H := H.2 c9
          by_cases c10 : v2 = 2
          · skip
            replace H := H.1 c10
            refine T_tableIn (pc' := 66) dX12_does_27 (by omega) (by omega) (by rw [c10]; rfl) (by decide) ?_
            refine T_aload_n (i := 0) (pc' := 67) dX12_does_66 rfl rfl rfl ?_
            refine U_gr (q := 97) (k := 47) (kI := 47) (pc' := 70) dX12_does_67 rfl cl12 (by decide) rfl (by decide) flX12_107 rfl rfl rfl (G_at hG7 97 rfl) (by decide) rfl ?_
            refine T_iload_n (i := 1) (pc' := 71) dX12_does_70 rfl rfl rfl ?_
            obtain ⟨z1, z2, H⟩ := H
            refine T_iald (pc' := 72) dX12_does_71 (by decide) rfl z1 z2 rfl ?_
            exact T_iret dX12_does_72 rfl ⟨rfl, hG7, _, rfl, H⟩
          · skip
            replace H := H.2 c10
            refine T_tableOut (pc' := 73) dX12_does_27 (by omega) (by decide) ?_
            refine T_aload_n (i := 0) (pc' := 74) dX12_does_73 rfl rfl rfl ?_
            refine U_gr (q := 98) (k := 48) (kI := 48) (pc' := 77) dX12_does_74 rfl cl12 (by decide) rfl (by decide) flX12_110 rfl rfl rfl (G_at hG7 98 rfl) (by decide) rfl ?_
            refine T_iload_n (i := 1) (pc' := 78) dX12_does_77 rfl rfl rfl ?_
            obtain ⟨z1, z2, H⟩ := H
            refine T_iald (pc' := 79) dX12_does_78 (by decide) rfl z1 z2 rfl ?_
            refine T_iconst (pc' := 80) dX12_does_79 (by decide) rfl ?_
            refine T_icmp_ne (pc' := 87) dX12_does_80 (by decide) (pf := 83) rfl (fun c11 => ?_) (fun c11 => ?_)
            · skip
              replace H := H.2 c11
              refine T_aload_n (i := 0) (pc' := 88) dX12_does_87 rfl rfl rfl ?_
              refine T_aload_n (i := 0) (pc' := 89) dX12_does_88 rfl rfl rfl ?_
              refine T_iload_n (i := 1) (pc' := 90) dX12_does_89 rfl rfl rfl ?_
              refine T_aload_n (i := 0) (pc' := 91) dX12_does_90 rfl rfl rfl ?_
              refine U_gr (q := 98) (k := 48) (kI := 48) (pc' := 94) dX12_does_91 rfl cl12 (by decide) rfl (by decide) flX12_110 rfl rfl rfl (G_at hG7 98 rfl) (by decide) rfl ?_
              refine T_iload_n (i := 1) (pc' := 95) dX12_does_94 rfl rfl rfl ?_
              obtain ⟨z1, z2, H⟩ := H
              refine T_iald (pc' := 96) dX12_does_95 (by decide) rfl z1 z2 rfl ?_
              obtain ⟨z12, H⟩ := H
              refine T_callV (av := [(0, v1), (0, (M6 98 v1))]) (st := [(2, 66)]) (d2 := 1) (nc2 := 0) (ns2 := 0) (pc' := 99) dX12_does_96 rfl mtX12_whereIn mvX12_whereIn mlX12_383 cl12 rfl rfl rfl (Nat.le_of_ble_eq_true rfl) (by decide) ⟨by decide, by decide⟩ rfl (pX12_whereIn (E := E) (h := h) (M := M6) (v1 := v1) (v2 := (M6 98 v1)) z12 hG7) (kF (st2 := [(0, (fX12_whereIn M6 v1 (M6 98 v1))), (2, 66)]) rfl (fun hG13 => ?_))
              obtain ⟨z14, H⟩ := H
              refine T_callV (av := [(0, (fX12_whereIn M6 v1 (M6 98 v1)))]) (st := []) (d2 := 2) (nc2 := 0) (ns2 := 0) (pc' := 102) dX12_does_99 rfl mtX12_doorIn mvX12_doorIn mlX12_398 cl12 rfl rfl rfl (Nat.le_of_ble_eq_true rfl) (by decide) ⟨by decide, by decide⟩ rfl (pX12_doorIn (E := E) (h := h) (M := M6) (v1 := (fX12_whereIn M6 v1 (M6 98 v1))) z14 hG7) (kF (st2 := [(0, (fX12_doorIn M6 (fX12_whereIn M6 v1 (M6 98 v1))))]) rfl (fun hG15 => ?_))
              obtain ⟨a16, ea16⟩ : ∃ z : Int, z = (fX12_doorIn M6 (fX12_whereIn M6 v1 (M6 98 v1))) := ⟨_, rfl⟩
              rw [← ea16]
              replace H := H a16 ea16
              exact T_iret dX12_does_102 rfl ⟨rfl, hG7, _, rfl, H⟩
            · skip
              replace H := H.1 c11
              refine T_iconst (pc' := 84) dX12_does_83 (by decide) rfl ?_
              refine T_goto (pc' := 102) dX12_does_84 (by decide) ?_
              exact T_iret dX12_does_102 rfl ⟨rfl, hG7, _, rfl, H⟩
    · skip
      replace H := H.1 c4
      refine T_iconst (pc' := 21) dX12_does_20 (by decide) rfl ?_
      exact T_iret dX12_does_21 rfl ⟨rfl, hG, _, rfl, H⟩
def PX12_count_30 (v1 : Int) (v2 : Int) (K : Int → Mem → Prop) (Q : Int → Mem → Prop) : Nat → Int → Int → Mem → Prop
  | 0 => fun _ _ _ => False
  | k + 1 => fun v3 v4 M => (((fX12_peopleMany M) ≤ v4 → K v3 M) ∧ (¬ ((fX12_peopleMany M) ≤ v4) → (((fX12_isComing M v4) = 0 → PX12_count_30 v1 v2 K Q k v3 (wr32 (v4 + 1)) M) ∧ (¬ ((fX12_isComing M v4) = 0) → (nX12_isOut M v4) ∧ (((fX12_isOut M v4 v1) = 0 → (nX12_isWaiting M v4) ∧ (((fX12_isWaiting M v4 v1) = 0 → (nX12_isOpen M v4 v1) ∧ PX12_count_30 v1 v2 K Q k (if (if (fX12_isOpen M v4 v1) = 0 then (2 : Int) else 0) = v2 then (wr32 (v3 + 1)) else v3) (wr32 (v4 + 1)) M) ∧ (¬ ((fX12_isWaiting M v4 v1) = 0) → PX12_count_30 v1 v2 K Q k (if 1 = v2 then (wr32 (v3 + 1)) else v3) (wr32 (v4 + 1)) M))) ∧ (¬ ((fX12_isOut M v4 v1) = 0) → PX12_count_30 v1 v2 K Q k (if 3 = v2 then (wr32 (v3 + 1)) else v3) (wr32 (v4 + 1)) M))))))
def PX12_count (v1 : Int) (v2 : Int) (M : Mem) (Q : Int → Mem → Prop) : Prop :=
  (((fX12_isSecond v1) = 0 → Q (-1) M) ∧ (¬ ((fX12_isSecond v1) = 0) → (((fX12_isIn v2 0 3) = 0 → Q (-1) M) ∧ (¬ ((fX12_isIn v2 0 3) = 0) → PX12_plays M (fun _ M6 => (∃ k8 : Nat, PX12_count_30 v1 v2 (fun u9 M10 => Q u9 M10) Q k8 0 0 M6))))))
set_option maxRecDepth 100000 in
set_option maxHeartbeats 2000000 in
theorem qX12_count_30 {E : EV} {h : Int} {v1 : Int} {v2 : Int}  {K : Int → Mem → Prop} {Q : Int → Mem → Prop} (hK : ∀ (v3 : Int) (M : Mem), K v3 M → G h M → TG E miX12_count 7 h (RI 0 Q) 111 [(2, 66), (3, 0), (3, 0), (0, v3), (3, 0), (3, 0)] [] M) : ∀ (k : Nat) (v3 v4 : Int) (M : Mem), PX12_count_30 v1 v2 K Q k v3 v4 M → G h M → TG E miX12_count 7 h (RI 0 Q) 30 [(2, 66), (0, v1), (0, v2), (0, v3), (0, v4), (3, 0)] [] M := by
  intro k
  induction k with
  | zero =>
    intro v3 v4 M H
    exact False.elim H
  | succ k ih =>
    intro v3 v4 M H hG
    refine T_iload (i := 4) (pc' := 32) dX12_count_30 rfl rfl ?_
    refine T_aload_n (i := 0) (pc' := 33) dX12_count_32 rfl rfl rfl ?_
    refine T_callV (av := []) (st := [(0, v4)]) (d2 := 1) (nc2 := 0) (ns2 := 0) (pc' := 36) dX12_count_33 rfl mtX12_peopleMany mvX12_peopleMany mlX12_349 cl12 rfl rfl rfl (Nat.le_of_ble_eq_true rfl) (by decide) ⟨by decide, by decide⟩ rfl (pX12_peopleMany (E := E) (h := h) (M := M) hG) (kF (st2 := [(0, (fX12_peopleMany M)), (0, v4)]) rfl (fun hG1 => ?_))
    refine T_icmp_ge (pc' := 111) dX12_count_36 (by decide) (pf := 39) rfl (fun c2 => ?_) (fun c2 => ?_)
    · skip
      replace H := H.1 c2
      exact T_wk (L' := [(2, 66), (3, 0), (3, 0), (0, v3), (3, 0), (3, 0)]) (hK _ _ H hG) ⟨Or.inr rfl, Or.inl rfl, Or.inl rfl, Or.inr rfl, Or.inl rfl, Or.inl rfl, trivial⟩
    · skip
      replace H := H.2 c2
      refine T_aload_n (i := 0) (pc' := 40) dX12_count_39 rfl rfl rfl ?_
      refine T_iload (i := 4) (pc' := 42) dX12_count_40 rfl rfl ?_
      refine T_callV (av := [(0, v4)]) (st := []) (d2 := 3) (nc2 := 0) (ns2 := 0) (pc' := 45) dX12_count_42 rfl mtX12_isComing mvX12_isComing mlX12_376 cl12 rfl rfl rfl (Nat.le_of_ble_eq_true rfl) (by decide) ⟨by decide, by decide⟩ rfl (pX12_isComing (E := E) (h := h) (M := M) (v1 := v4) hG) (kF (st2 := [(0, (fX12_isComing M v4))]) rfl (fun hG3 => ?_))
      refine T_if_ne (pc' := 51) dX12_count_45 (by decide) (pf := 48) rfl (fun c4 => ?_) (fun c4 => ?_)
      · skip
        replace H := H.2 c4
        refine T_aload_n (i := 0) (pc' := 52) dX12_count_51 rfl rfl rfl ?_
        refine T_iload (i := 4) (pc' := 54) dX12_count_52 rfl rfl ?_
        refine T_iload_n (i := 1) (pc' := 55) dX12_count_54 rfl rfl rfl ?_
        obtain ⟨z5, H⟩ := H
        refine T_callV (av := [(0, v4), (0, v1)]) (st := []) (d2 := 1) (nc2 := 0) (ns2 := 0) (pc' := 58) dX12_count_55 rfl mtX12_isOut mvX12_isOut mlX12_395 cl12 rfl rfl rfl (Nat.le_of_ble_eq_true rfl) (by decide) ⟨by decide, by decide⟩ rfl (pX12_isOut (E := E) (h := h) (M := M) (v1 := v4) (v2 := v1) z5 hG) (kF (st2 := [(0, (fX12_isOut M v4 v1))]) rfl (fun hG6 => ?_))
        refine T_if_eq (pc' := 65) dX12_count_58 (by decide) (pf := 61) rfl (fun c7 => ?_) (fun c7 => ?_)
        · skip
          replace H := H.1 c7
          refine T_aload_n (i := 0) (pc' := 66) dX12_count_65 rfl rfl rfl ?_
          refine T_iload (i := 4) (pc' := 68) dX12_count_66 rfl rfl ?_
          refine T_iload_n (i := 1) (pc' := 69) dX12_count_68 rfl rfl rfl ?_
          obtain ⟨z8, H⟩ := H
          refine T_callV (av := [(0, v4), (0, v1)]) (st := []) (d2 := 1) (nc2 := 0) (ns2 := 0) (pc' := 72) dX12_count_69 rfl mtX12_isWaiting mvX12_isWaiting mlX12_389 cl12 rfl rfl rfl (Nat.le_of_ble_eq_true rfl) (by decide) ⟨by decide, by decide⟩ rfl (pX12_isWaiting (E := E) (h := h) (M := M) (v1 := v4) (v2 := v1) z8 hG) (kF (st2 := [(0, (fX12_isWaiting M v4 v1))]) rfl (fun hG9 => ?_))
          refine T_if_eq (pc' := 79) dX12_count_72 (by decide) (pf := 75) rfl (fun c10 => ?_) (fun c10 => ?_)
          · skip
            replace H := H.1 c10
            refine T_aload_n (i := 0) (pc' := 80) dX12_count_79 rfl rfl rfl ?_
            refine T_iload (i := 4) (pc' := 82) dX12_count_80 rfl rfl ?_
            refine T_iload_n (i := 1) (pc' := 83) dX12_count_82 rfl rfl rfl ?_
            obtain ⟨z11, H⟩ := H
            refine T_callV (av := [(0, v4), (0, v1)]) (st := []) (d2 := 2) (nc2 := 0) (ns2 := 0) (pc' := 86) dX12_count_83 rfl mtX12_isOpen mvX12_isOpen mlX12_379 cl12 rfl rfl rfl (Nat.le_of_ble_eq_true rfl) (by decide) ⟨by decide, by decide⟩ rfl (pX12_isOpen (E := E) (h := h) (M := M) (v1 := v4) (v2 := v1) z11 hG) (kF (st2 := [(0, (fX12_isOpen M v4 v1))]) rfl (fun hG12 => ?_))
            have HJ13 : T E miX12_count 7 126 0 0 (fun r S M' => S = S0 ∧ G h M' ∧ RI 0 Q r M') 94 [(2, 66), (0, v1), (0, v2), (0, v3), (0, v4), (3, 0)] [(0, (if (fX12_isOpen M v4 v1) = 0 then (2 : Int) else 0))] S0 M 0 0 := by
              refine T_istore (i := 5) (L' := [(2, 66), (0, v1), (0, v2), (0, v3), (0, v4), (0, (if (fX12_isOpen M v4 v1) = 0 then (2 : Int) else 0))]) (pc' := 96) dX12_count_94 (by decide) rfl rfl ?_
              refine T_iload (i := 5) (pc' := 98) dX12_count_96 rfl rfl ?_
              refine T_iload_n (i := 2) (pc' := 99) dX12_count_98 rfl rfl rfl ?_
              have HJ14 : T E miX12_count 7 126 0 0 (fun r S M' => S = S0 ∧ G h M' ∧ RI 0 Q r M') 105 [(2, 66), (0, v1), (0, v2), (0, (if (if (fX12_isOpen M v4 v1) = 0 then (2 : Int) else 0) = v2 then (wr32 (v3 + 1)) else v3)), (0, v4), (3, 0)] [] S0 M 0 0 := by
                refine T_iinc (L' := [(2, 66), (0, v1), (0, v2), (0, (if (if (fX12_isOpen M v4 v1) = 0 then (2 : Int) else 0) = v2 then (wr32 (v3 + 1)) else v3)), (0, (wr32 (v4 + 1))), (3, 0)]) (pc' := 108) dX12_count_105 rfl (by decide) rfl rfl ?_
                refine T_goto (pc' := 30) dX12_count_108 (by decide) ?_
                exact T_wk (L' := [(2, 66), (0, v1), (0, v2), (0, (if (if (fX12_isOpen M v4 v1) = 0 then (2 : Int) else 0) = v2 then (wr32 (v3 + 1)) else v3)), (0, (wr32 (v4 + 1))), (3, 0)]) (ih _ _ _ H hG) ⟨Or.inr rfl, Or.inr rfl, Or.inr rfl, Or.inr rfl, Or.inr rfl, Or.inl rfl, trivial⟩
              refine T_icmp_ne (pc' := 105) dX12_count_99 (by decide) (pf := 102) rfl (fun c15 => ?_) (fun c15 => ?_)
              · skip
                exact T_wk (L' := [(2, 66), (0, v1), (0, v2), (0, v3), (0, v4), (3, 0)]) (by have q := HJ14; try simp only [if_neg c15] at q ⊢; exact q) ⟨Or.inr rfl, Or.inr rfl, Or.inr rfl, Or.inr rfl, Or.inr rfl, Or.inl rfl, trivial⟩
              · skip
                refine T_iinc (L' := [(2, 66), (0, v1), (0, v2), (0, (wr32 (v3 + 1))), (0, v4), (0, (if (fX12_isOpen M v4 v1) = 0 then (2 : Int) else 0))]) (pc' := 105) dX12_count_102 rfl (by decide) rfl rfl ?_
                exact T_wk (L' := [(2, 66), (0, v1), (0, v2), (0, (wr32 (v3 + 1))), (0, v4), (3, 0)]) (by have q := HJ14; try simp only [if_pos c15] at q ⊢; exact q) ⟨Or.inr rfl, Or.inr rfl, Or.inr rfl, Or.inr rfl, Or.inr rfl, Or.inl rfl, trivial⟩
            refine T_if_eq (pc' := 93) dX12_count_86 (by decide) (pf := 89) rfl (fun c16 => ?_) (fun c16 => ?_)
            · skip
              refine T_iconst (pc' := 94) dX12_count_93 (by decide) rfl ?_
              exact T_wk (L' := [(2, 66), (0, v1), (0, v2), (0, v3), (0, v4), (3, 0)]) (by have q := HJ13; try simp only [if_pos c16] at q ⊢; exact q) ⟨Or.inr rfl, Or.inr rfl, Or.inr rfl, Or.inr rfl, Or.inr rfl, Or.inl rfl, trivial⟩
            · skip
              refine T_iconst (pc' := 90) dX12_count_89 (by decide) rfl ?_
              refine T_goto (pc' := 94) dX12_count_90 (by decide) ?_
              exact T_wk (L' := [(2, 66), (0, v1), (0, v2), (0, v3), (0, v4), (3, 0)]) (by have q := HJ13; try simp only [if_neg c16] at q ⊢; exact q) ⟨Or.inr rfl, Or.inr rfl, Or.inr rfl, Or.inr rfl, Or.inr rfl, Or.inl rfl, trivial⟩
          · skip
            replace H := H.2 c10
            refine T_iconst (pc' := 76) dX12_count_75 (by decide) rfl ?_
            refine T_goto (pc' := 94) dX12_count_76 (by decide) ?_
            refine T_istore (i := 5) (L' := [(2, 66), (0, v1), (0, v2), (0, v3), (0, v4), (0, 1)]) (pc' := 96) dX12_count_94 (by decide) rfl rfl ?_
            refine T_iload (i := 5) (pc' := 98) dX12_count_96 rfl rfl ?_
            refine T_iload_n (i := 2) (pc' := 99) dX12_count_98 rfl rfl rfl ?_
            have HJ17 : T E miX12_count 7 126 0 0 (fun r S M' => S = S0 ∧ G h M' ∧ RI 0 Q r M') 105 [(2, 66), (0, v1), (0, v2), (0, (if 1 = v2 then (wr32 (v3 + 1)) else v3)), (0, v4), (3, 0)] [] S0 M 0 0 := by
              refine T_iinc (L' := [(2, 66), (0, v1), (0, v2), (0, (if 1 = v2 then (wr32 (v3 + 1)) else v3)), (0, (wr32 (v4 + 1))), (3, 0)]) (pc' := 108) dX12_count_105 rfl (by decide) rfl rfl ?_
              refine T_goto (pc' := 30) dX12_count_108 (by decide) ?_
              exact T_wk (L' := [(2, 66), (0, v1), (0, v2), (0, (if 1 = v2 then (wr32 (v3 + 1)) else v3)), (0, (wr32 (v4 + 1))), (3, 0)]) (ih _ _ _ H hG) ⟨Or.inr rfl, Or.inr rfl, Or.inr rfl, Or.inr rfl, Or.inr rfl, Or.inl rfl, trivial⟩
            refine T_icmp_ne (pc' := 105) dX12_count_99 (by decide) (pf := 102) rfl (fun c18 => ?_) (fun c18 => ?_)
            · skip
              exact T_wk (L' := [(2, 66), (0, v1), (0, v2), (0, v3), (0, v4), (3, 0)]) (by have q := HJ17; try simp only [if_neg c18] at q ⊢; exact q) ⟨Or.inr rfl, Or.inr rfl, Or.inr rfl, Or.inr rfl, Or.inr rfl, Or.inl rfl, trivial⟩
            · skip
              refine T_iinc (L' := [(2, 66), (0, v1), (0, v2), (0, (wr32 (v3 + 1))), (0, v4), (0, 1)]) (pc' := 105) dX12_count_102 rfl (by decide) rfl rfl ?_
              exact T_wk (L' := [(2, 66), (0, v1), (0, v2), (0, (wr32 (v3 + 1))), (0, v4), (3, 0)]) (by have q := HJ17; try simp only [if_pos c18] at q ⊢; exact q) ⟨Or.inr rfl, Or.inr rfl, Or.inr rfl, Or.inr rfl, Or.inr rfl, Or.inl rfl, trivial⟩
        · skip
          replace H := H.2 c7
          refine T_iconst (pc' := 62) dX12_count_61 (by decide) rfl ?_
          refine T_goto (pc' := 94) dX12_count_62 (by decide) ?_
          refine T_istore (i := 5) (L' := [(2, 66), (0, v1), (0, v2), (0, v3), (0, v4), (0, 3)]) (pc' := 96) dX12_count_94 (by decide) rfl rfl ?_
          refine T_iload (i := 5) (pc' := 98) dX12_count_96 rfl rfl ?_
          refine T_iload_n (i := 2) (pc' := 99) dX12_count_98 rfl rfl rfl ?_
          have HJ19 : T E miX12_count 7 126 0 0 (fun r S M' => S = S0 ∧ G h M' ∧ RI 0 Q r M') 105 [(2, 66), (0, v1), (0, v2), (0, (if 3 = v2 then (wr32 (v3 + 1)) else v3)), (0, v4), (3, 0)] [] S0 M 0 0 := by
            refine T_iinc (L' := [(2, 66), (0, v1), (0, v2), (0, (if 3 = v2 then (wr32 (v3 + 1)) else v3)), (0, (wr32 (v4 + 1))), (3, 0)]) (pc' := 108) dX12_count_105 rfl (by decide) rfl rfl ?_
            refine T_goto (pc' := 30) dX12_count_108 (by decide) ?_
            exact T_wk (L' := [(2, 66), (0, v1), (0, v2), (0, (if 3 = v2 then (wr32 (v3 + 1)) else v3)), (0, (wr32 (v4 + 1))), (3, 0)]) (ih _ _ _ H hG) ⟨Or.inr rfl, Or.inr rfl, Or.inr rfl, Or.inr rfl, Or.inr rfl, Or.inl rfl, trivial⟩
          refine T_icmp_ne (pc' := 105) dX12_count_99 (by decide) (pf := 102) rfl (fun c20 => ?_) (fun c20 => ?_)
          · skip
            exact T_wk (L' := [(2, 66), (0, v1), (0, v2), (0, v3), (0, v4), (3, 0)]) (by have q := HJ19; try simp only [if_neg c20] at q ⊢; exact q) ⟨Or.inr rfl, Or.inr rfl, Or.inr rfl, Or.inr rfl, Or.inr rfl, Or.inl rfl, trivial⟩
          · skip
            refine T_iinc (L' := [(2, 66), (0, v1), (0, v2), (0, (wr32 (v3 + 1))), (0, v4), (0, 3)]) (pc' := 105) dX12_count_102 rfl (by decide) rfl rfl ?_
            exact T_wk (L' := [(2, 66), (0, v1), (0, v2), (0, (wr32 (v3 + 1))), (0, v4), (3, 0)]) (by have q := HJ19; try simp only [if_pos c20] at q ⊢; exact q) ⟨Or.inr rfl, Or.inr rfl, Or.inr rfl, Or.inr rfl, Or.inr rfl, Or.inl rfl, trivial⟩
      · skip
        replace H := H.1 c4
        refine T_goto (pc' := 105) dX12_count_48 (by decide) ?_
        refine T_iinc (L' := [(2, 66), (0, v1), (0, v2), (0, v3), (0, (wr32 (v4 + 1))), (3, 0)]) (pc' := 108) dX12_count_105 rfl (by decide) rfl rfl ?_
        refine T_goto (pc' := 30) dX12_count_108 (by decide) ?_
        exact T_wk (L' := [(2, 66), (0, v1), (0, v2), (0, v3), (0, (wr32 (v4 + 1))), (3, 0)]) (ih _ _ _ H hG) ⟨Or.inr rfl, Or.inr rfl, Or.inr rfl, Or.inr rfl, Or.inr rfl, Or.inl rfl, trivial⟩
set_option maxRecDepth 100000 in
set_option maxHeartbeats 2000000 in
theorem pX12_count {E : EV} {h : Int} {M : Mem} {v1 : Int} {v2 : Int}  {Q : Int → Mem → Prop} (H : PX12_count v1 v2 M Q) : C2 E miX12_count 7 h [(2, 66), (0, v1), (0, v2)] M (RI 0 Q) := by
  refine C2_of (L := [(2, 66), (0, v1), (0, v2), (3, 0), (3, 0), (3, 0)]) (by decide +kernel) (Nat.le_of_ble_eq_true rfl) rfl (fun hG => ?_)
  refine T_iload_n (i := 1) (pc' := 1) dX12_count_0 rfl rfl rfl ?_
  refine T_callS (av := [(0, v1)]) (st := []) (d2 := 2) (nc2 := 0) (ns2 := 0) (pc' := 4) dX12_count_1 rfl mtX12_isSecond mvX12_isSecond mlX12_450 rfl rfl (Nat.le_of_ble_eq_true rfl) (by decide) ⟨by decide, by decide⟩ rfl (pX12_isSecond (E := E) (h := h) (M := M) (v0 := v1) hG) (kF (st2 := [(0, (fX12_isSecond v1))]) rfl (fun hG1 => ?_))
  refine T_if_eq (pc' := 19) dX12_count_4 (by decide) (pf := 7) rfl (fun c2 => ?_) (fun c2 => ?_)
  · skip
    replace H := H.1 c2
    refine T_iconst (pc' := 20) dX12_count_19 (by decide) rfl ?_
    exact T_iret dX12_count_20 rfl ⟨rfl, hG, _, rfl, H⟩
  · skip
    replace H := H.2 c2
    refine T_iload_n (i := 2) (pc' := 8) dX12_count_7 rfl rfl rfl ?_
    refine T_i2l (pc' := 9) dX12_count_8 rfl ?_
    refine T_lconst (v := 0) (pc' := 10) dX12_count_9 rfl (by decide) rfl ?_
    refine T_ldc2 (n := 3) (pc' := 13) dX12_count_10 rfl kjX12_439 rfl (by decide) rfl ?_
    refine T_callS (av := [(1, v2), (1, 0), (1, 3)]) (st := []) (d2 := 1) (nc2 := 0) (ns2 := 0) (pc' := 16) dX12_count_13 rfl mtX12_isIn mvX12_isIn mlX12_244 rfl rfl (Nat.le_of_ble_eq_true rfl) (by decide) ⟨by decide, by decide⟩ rfl (pX12_isIn (E := E) (h := h) (M := M) (v0 := v2) (v2 := 0) (v4 := 3) hG) (kF (st2 := [(0, (fX12_isIn v2 0 3))]) rfl (fun hG3 => ?_))
    refine T_if_ne (pc' := 21) dX12_count_16 (by decide) (pf := 19) rfl (fun c4 => ?_) (fun c4 => ?_)
    · skip
      replace H := H.2 c4
      refine T_aload_n (i := 0) (pc' := 22) dX12_count_21 rfl rfl rfl ?_
      refine T_callV (av := []) (st := []) (d2 := 6) (nc2 := 0) (ns2 := 0) (pc' := 25) dX12_count_22 rfl mtX12_plays mvX12_plays mlX12_441 cl12 rfl rfl rfl (Nat.le_of_ble_eq_true rfl) (by decide) ⟨by decide, by decide⟩ rfl (pX12_plays (E := E) (h := h) (M := M) H hG) ?_
      rintro _ _ M6 ⟨rfl, hG7, rfl, H⟩ _
      refine T_iconst (pc' := 26) dX12_count_25 (by decide) rfl ?_
      refine T_istore_n (i := 3) (L' := [(2, 66), (0, v1), (0, v2), (0, 0), (3, 0), (3, 0)]) (pc' := 27) dX12_count_26 rfl (by decide) rfl rfl ?_
      refine T_iconst (pc' := 28) dX12_count_27 (by decide) rfl ?_
      refine T_istore (i := 4) (L' := [(2, 66), (0, v1), (0, v2), (0, 0), (0, 0), (3, 0)]) (pc' := 30) dX12_count_28 (by decide) rfl rfl ?_
      obtain ⟨k8, H⟩ := H
      refine T_wk (L' := [(2, 66), (0, v1), (0, v2), (0, 0), (0, 0), (3, 0)]) (qX12_count_30 (v1 := v1) (v2 := v2) (fun u9 M10 H hG11 => ?_) _ _ _ _ H hG7) ⟨Or.inr rfl, Or.inr rfl, Or.inr rfl, Or.inr rfl, Or.inr rfl, Or.inl rfl, trivial⟩
      refine T_iload_n (i := 3) (pc' := 112) dX12_count_111 rfl rfl rfl ?_
      exact T_iret dX12_count_112 rfl ⟨rfl, hG11, _, rfl, H⟩
    · skip
      replace H := H.1 c4
      refine T_iconst (pc' := 20) dX12_count_19 (by decide) rfl ?_
      exact T_iret dX12_count_20 rfl ⟨rfl, hG, _, rfl, H⟩
def PX12_whole (v1 : Int) (M : Mem) (Q : Int → Mem → Prop) : Prop :=
  (((M 66 38) = 0 → Q (-1) M) ∧ (¬ ((M 66 38) = 0) → (((fX12_isIn v1 0 8) = 0 → Q (-1) M) ∧ (¬ ((fX12_isIn v1 0 8) = 0) → PX12_plays M (fun _ M5 => ((v1 = 0 → Q (M5 66 51) M5) ∧ (¬ (v1 = 0) → ((v1 = 1 → Q (M5 66 52) M5) ∧ (¬ (v1 = 1) → ((v1 = 2 → (nX12_peak M5) ∧ (∀ a12 : Int, a12 = (fX12_peak M5) → Q a12 M5)) ∧ (¬ (v1 = 2) → ((v1 = 3 → (nX12_peak M5) ∧ (∀ a16 : Int, a16 = (fX12_peak M5) → (nX12_openMany M5 a16) ∧ (∀ a19 : Int, a19 = (fX12_openMany M5 a16) → Q a19 M5))) ∧ (¬ (v1 = 3) → ((v1 = 4 → (nX12_offIn M5) ∧ (∀ a23 : Int, a23 = (fX12_offIn M5) → Q (if a23 = (-1) then (0 : Int) else 1) M5)) ∧ (¬ (v1 = 4) → ((v1 = 5 → (nX12_offIn M5) ∧ (∀ a29 : Int, a29 = (fX12_offIn M5) → Q a29 M5)) ∧ (¬ (v1 = 5) → ((v1 = 6 → (nX12_passersOpen M5) ∧ (∀ a33 : Int, a33 = (fX12_passersOpen M5) → Q a33 M5)) ∧ (¬ (v1 = 6) → ((v1 = 7 → (nX12_lastOut M5) ∧ (∀ a37 : Int, a37 = (fX12_lastOut M5) → Q a37 M5)) ∧ (¬ (v1 = 7) → (nX12_openAhead M5) ∧ (∀ a40 : Int, a40 = (fX12_openAhead M5) → Q a40 M5))))))))))))))))))))))
set_option maxRecDepth 100000 in
set_option maxHeartbeats 2000000 in
theorem pX12_whole {E : EV} {h : Int} {M : Mem} {v1 : Int}  {Q : Int → Mem → Prop} (H : PX12_whole v1 M Q) : C2 E miX12_whole 7 h [(2, 66), (0, v1)] M (RI 0 Q) := by
  refine C2_of (L := [(2, 66), (0, v1)]) (by decide +kernel) (Nat.le_of_ble_eq_true rfl) rfl (fun hG => ?_)
  refine T_aload_n (i := 0) (pc' := 1) dX12_whole_0 rfl rfl rfl ?_
  refine U_gf (v := (0, (M 66 38))) (k := 38) (kI := 38) (pc' := 4) dX12_whole_1 rfl cl12 (by decide) rfl (by decide) flX12_334 rfl rfl (by decide) rfl rfl ?_
  refine T_if_eq (pc' := 19) dX12_whole_4 (by decide) (pf := 7) rfl (fun c1 => ?_) (fun c1 => ?_)
  · skip
    replace H := H.1 c1
    refine T_iconst (pc' := 20) dX12_whole_19 (by decide) rfl ?_
    exact T_iret dX12_whole_20 rfl ⟨rfl, hG, _, rfl, H⟩
  · skip
    replace H := H.2 c1
    refine T_iload_n (i := 1) (pc' := 8) dX12_whole_7 rfl rfl rfl ?_
    refine T_i2l (pc' := 9) dX12_whole_8 rfl ?_
    refine T_lconst (v := 0) (pc' := 10) dX12_whole_9 rfl (by decide) rfl ?_
    refine T_ldc2 (n := 8) (pc' := 13) dX12_whole_10 rfl kjX12_453 rfl (by decide) rfl ?_
    refine T_callS (av := [(1, v1), (1, 0), (1, 8)]) (st := []) (d2 := 1) (nc2 := 0) (ns2 := 0) (pc' := 16) dX12_whole_13 rfl mtX12_isIn mvX12_isIn mlX12_244 rfl rfl (Nat.le_of_ble_eq_true rfl) (by decide) ⟨by decide, by decide⟩ rfl (pX12_isIn (E := E) (h := h) (M := M) (v0 := v1) (v2 := 0) (v4 := 8) hG) (kF (st2 := [(0, (fX12_isIn v1 0 8))]) rfl (fun hG2 => ?_))
    refine T_if_ne (pc' := 21) dX12_whole_16 (by decide) (pf := 19) rfl (fun c3 => ?_) (fun c3 => ?_)
    · skip
      replace H := H.2 c3
      refine T_aload_n (i := 0) (pc' := 22) dX12_whole_21 rfl rfl rfl ?_
      refine T_callV (av := []) (st := []) (d2 := 6) (nc2 := 0) (ns2 := 0) (pc' := 25) dX12_whole_22 rfl mtX12_plays mvX12_plays mlX12_441 cl12 rfl rfl rfl (Nat.le_of_ble_eq_true rfl) (by decide) ⟨by decide, by decide⟩ rfl (pX12_plays (E := E) (h := h) (M := M) H hG) ?_
      rintro _ _ M5 ⟨rfl, hG6, rfl, H⟩ _
      refine T_iload_n (i := 1) (pc' := 26) dX12_whole_25 rfl rfl rfl ?_
      by_cases c7 : v1 = 0
      · skip
        replace H := H.1 c7
        refine T_tableIn (pc' := 72) dX12_whole_26 (by omega) (by omega) (by rw [c7]; rfl) (by decide) ?_
        refine T_aload_n (i := 0) (pc' := 73) dX12_whole_72 rfl rfl rfl ?_
        refine U_gf (v := (0, (M5 66 51))) (k := 51) (kI := 51) (pc' := 76) dX12_whole_73 rfl cl12 (by decide) rfl (by decide) flX12_370 rfl rfl (by decide) rfl rfl ?_
        exact T_iret dX12_whole_76 rfl ⟨rfl, hG6, _, rfl, H⟩
      · skip
        replace H := H.2 c7
        by_cases c8 : v1 = 1
        · skip
          replace H := H.1 c8
          refine T_tableIn (pc' := 77) dX12_whole_26 (by omega) (by omega) (by rw [c8]; rfl) (by decide) ?_
          refine T_aload_n (i := 0) (pc' := 78) dX12_whole_77 rfl rfl rfl ?_
          refine U_gf (v := (0, (M5 66 52))) (k := 52) (kI := 52) (pc' := 81) dX12_whole_78 rfl cl12 (by decide) rfl (by decide) flX12_414 rfl rfl (by decide) rfl rfl ?_
          exact T_iret dX12_whole_81 rfl ⟨rfl, hG6, _, rfl, H⟩
        · skip
          replace H := H.2 c8
          by_cases c9 : v1 = 2
          · skip
            replace H := H.1 c9
            refine T_tableIn (pc' := 82) dX12_whole_26 (by omega) (by omega) (by rw [c9]; rfl) (by decide) ?_
            refine T_aload_n (i := 0) (pc' := 83) dX12_whole_82 rfl rfl rfl ?_
            obtain ⟨z10, H⟩ := H
            refine T_callV (av := []) (st := []) (d2 := 5) (nc2 := 0) (ns2 := 0) (pc' := 86) dX12_whole_83 rfl mtX12_peak mvX12_peak mlX12_455 cl12 rfl rfl rfl (Nat.le_of_ble_eq_true rfl) (by decide) ⟨by decide, by decide⟩ rfl (pX12_peak (E := E) (h := h) (M := M5) z10 hG6) (kF (st2 := [(0, (fX12_peak M5))]) rfl (fun hG11 => ?_))
            obtain ⟨a12, ea12⟩ : ∃ z : Int, z = (fX12_peak M5) := ⟨_, rfl⟩
            rw [← ea12]
            replace H := H a12 ea12
            exact T_iret dX12_whole_86 rfl ⟨rfl, hG6, _, rfl, H⟩
          · skip
            replace H := H.2 c9
            by_cases c13 : v1 = 3
            · skip
              replace H := H.1 c13
              refine T_tableIn (pc' := 87) dX12_whole_26 (by omega) (by omega) (by rw [c13]; rfl) (by decide) ?_
              refine T_aload_n (i := 0) (pc' := 88) dX12_whole_87 rfl rfl rfl ?_
              refine T_aload_n (i := 0) (pc' := 89) dX12_whole_88 rfl rfl rfl ?_
              obtain ⟨z14, H⟩ := H
              refine T_callV (av := []) (st := [(2, 66)]) (d2 := 5) (nc2 := 0) (ns2 := 0) (pc' := 92) dX12_whole_89 rfl mtX12_peak mvX12_peak mlX12_455 cl12 rfl rfl rfl (Nat.le_of_ble_eq_true rfl) (by decide) ⟨by decide, by decide⟩ rfl (pX12_peak (E := E) (h := h) (M := M5) z14 hG6) (kF (st2 := [(0, (fX12_peak M5)), (2, 66)]) rfl (fun hG15 => ?_))
              obtain ⟨a16, ea16⟩ : ∃ z : Int, z = (fX12_peak M5) := ⟨_, rfl⟩
              rw [← ea16]
              replace H := H a16 ea16
              obtain ⟨z17, H⟩ := H
              refine T_callV (av := [(0, a16)]) (st := []) (d2 := 4) (nc2 := 0) (ns2 := 0) (pc' := 95) dX12_whole_92 rfl mtX12_openMany mvX12_openMany mlX12_426 cl12 rfl rfl rfl (Nat.le_of_ble_eq_true rfl) (by decide) ⟨by decide, by decide⟩ rfl (pX12_openMany (E := E) (h := h) (M := M5) (v1 := a16) z17 hG6) (kF (st2 := [(0, (fX12_openMany M5 a16))]) rfl (fun hG18 => ?_))
              obtain ⟨a19, ea19⟩ : ∃ z : Int, z = (fX12_openMany M5 a16) := ⟨_, rfl⟩
              rw [← ea19]
              replace H := H a19 ea19
              exact T_iret dX12_whole_95 rfl ⟨rfl, hG6, _, rfl, H⟩
            · skip
              replace H := H.2 c13
              by_cases c20 : v1 = 4
              · skip
                replace H := H.1 c20
                refine T_tableIn (pc' := 96) dX12_whole_26 (by omega) (by omega) (by rw [c20]; rfl) (by decide) ?_
                refine T_aload_n (i := 0) (pc' := 97) dX12_whole_96 rfl rfl rfl ?_
                obtain ⟨z21, H⟩ := H
                refine T_callV (av := []) (st := []) (d2 := 5) (nc2 := 0) (ns2 := 0) (pc' := 100) dX12_whole_97 rfl mtX12_offIn mvX12_offIn mlX12_458 cl12 rfl rfl rfl (Nat.le_of_ble_eq_true rfl) (by decide) ⟨by decide, by decide⟩ rfl (pX12_offIn (E := E) (h := h) (M := M5) z21 hG6) (kF (st2 := [(0, (fX12_offIn M5))]) rfl (fun hG22 => ?_))
                obtain ⟨a23, ea23⟩ : ∃ z : Int, z = (fX12_offIn M5) := ⟨_, rfl⟩
                rw [← ea23]
                replace H := H a23 ea23
                refine T_iconst (pc' := 101) dX12_whole_100 (by decide) rfl ?_
                have HJ24 : T E miX12_whole 7 126 0 0 (fun r S M' => S = S0 ∧ G h M' ∧ RI 0 Q r M') 109 [(3, 0), (3, 0)] [(0, (if a23 = (-1) then (0 : Int) else 1))] S0 M5 0 0 := by
                  exact T_iret dX12_whole_109 rfl ⟨rfl, hG6, _, rfl, H⟩
                refine T_icmp_ne (pc' := 108) dX12_whole_101 (by decide) (pf := 104) rfl (fun c25 => ?_) (fun c25 => ?_)
                · skip
                  refine T_iconst (pc' := 109) dX12_whole_108 (by decide) rfl ?_
                  exact T_wk (L' := [(3, 0), (3, 0)]) (by have q := HJ24; try simp only [if_neg c25] at q ⊢; exact q) ⟨Or.inl rfl, Or.inl rfl, trivial⟩
                · skip
                  refine T_iconst (pc' := 105) dX12_whole_104 (by decide) rfl ?_
                  refine T_goto (pc' := 109) dX12_whole_105 (by decide) ?_
                  exact T_wk (L' := [(3, 0), (3, 0)]) (by have q := HJ24; try simp only [if_pos c25] at q ⊢; exact q) ⟨Or.inl rfl, Or.inl rfl, trivial⟩
              · skip
                replace H := H.2 c20
                by_cases c26 : v1 = 5
                · skip
                  replace H := H.1 c26
                  refine T_tableIn (pc' := 110) dX12_whole_26 (by omega) (by omega) (by rw [c26]; rfl) (by decide) ?_
                  refine T_aload_n (i := 0) (pc' := 111) dX12_whole_110 rfl rfl rfl ?_
                  obtain ⟨z27, H⟩ := H
                  refine T_callV (av := []) (st := []) (d2 := 5) (nc2 := 0) (ns2 := 0) (pc' := 114) dX12_whole_111 rfl mtX12_offIn mvX12_offIn mlX12_458 cl12 rfl rfl rfl (Nat.le_of_ble_eq_true rfl) (by decide) ⟨by decide, by decide⟩ rfl (pX12_offIn (E := E) (h := h) (M := M5) z27 hG6) (kF (st2 := [(0, (fX12_offIn M5))]) rfl (fun hG28 => ?_))
                  obtain ⟨a29, ea29⟩ : ∃ z : Int, z = (fX12_offIn M5) := ⟨_, rfl⟩
                  rw [← ea29]
                  replace H := H a29 ea29
                  exact T_iret dX12_whole_114 rfl ⟨rfl, hG6, _, rfl, H⟩
                · skip
                  replace H := H.2 c26
                  by_cases c30 : v1 = 6
                  · skip
                    replace H := H.1 c30
                    refine T_tableIn (pc' := 115) dX12_whole_26 (by omega) (by omega) (by rw [c30]; rfl) (by decide) ?_
                    refine T_aload_n (i := 0) (pc' := 116) dX12_whole_115 rfl rfl rfl ?_
                    obtain ⟨z31, H⟩ := H
                    refine T_callV (av := []) (st := []) (d2 := 4) (nc2 := 0) (ns2 := 0) (pc' := 119) dX12_whole_116 rfl mtX12_passersOpen mvX12_passersOpen mlX12_461 cl12 rfl rfl rfl (Nat.le_of_ble_eq_true rfl) (by decide) ⟨by decide, by decide⟩ rfl (pX12_passersOpen (E := E) (h := h) (M := M5) z31 hG6) (kF (st2 := [(0, (fX12_passersOpen M5))]) rfl (fun hG32 => ?_))
                    obtain ⟨a33, ea33⟩ : ∃ z : Int, z = (fX12_passersOpen M5) := ⟨_, rfl⟩
                    rw [← ea33]
                    replace H := H a33 ea33
                    exact T_iret dX12_whole_119 rfl ⟨rfl, hG6, _, rfl, H⟩
                  · skip
                    replace H := H.2 c30
                    by_cases c34 : v1 = 7
                    · skip
                      replace H := H.1 c34
                      refine T_tableIn (pc' := 120) dX12_whole_26 (by omega) (by omega) (by rw [c34]; rfl) (by decide) ?_
                      refine T_aload_n (i := 0) (pc' := 121) dX12_whole_120 rfl rfl rfl ?_
                      obtain ⟨z35, H⟩ := H
                      refine T_callV (av := []) (st := []) (d2 := 4) (nc2 := 0) (ns2 := 0) (pc' := 124) dX12_whole_121 rfl mtX12_lastOut mvX12_lastOut mlX12_464 cl12 rfl rfl rfl (Nat.le_of_ble_eq_true rfl) (by decide) ⟨by decide, by decide⟩ rfl (pX12_lastOut (E := E) (h := h) (M := M5) z35 hG6) (kF (st2 := [(0, (fX12_lastOut M5))]) rfl (fun hG36 => ?_))
                      obtain ⟨a37, ea37⟩ : ∃ z : Int, z = (fX12_lastOut M5) := ⟨_, rfl⟩
                      rw [← ea37]
                      replace H := H a37 ea37
                      exact T_iret dX12_whole_124 rfl ⟨rfl, hG6, _, rfl, H⟩
                    · skip
                      replace H := H.2 c34
                      refine T_tableOut (pc' := 125) dX12_whole_26 (by omega) (by decide) ?_
                      refine T_aload_n (i := 0) (pc' := 126) dX12_whole_125 rfl rfl rfl ?_
                      obtain ⟨z38, H⟩ := H
                      refine T_callV (av := []) (st := []) (d2 := 4) (nc2 := 0) (ns2 := 0) (pc' := 129) dX12_whole_126 rfl mtX12_openAhead mvX12_openAhead mlX12_467 cl12 rfl rfl rfl (Nat.le_of_ble_eq_true rfl) (by decide) ⟨by decide, by decide⟩ rfl (pX12_openAhead (E := E) (h := h) (M := M5) z38 hG6) (kF (st2 := [(0, (fX12_openAhead M5))]) rfl (fun hG39 => ?_))
                      obtain ⟨a40, ea40⟩ : ∃ z : Int, z = (fX12_openAhead M5) := ⟨_, rfl⟩
                      rw [← ea40]
                      replace H := H a40 ea40
                      exact T_iret dX12_whole_129 rfl ⟨rfl, hG6, _, rfl, H⟩
    · skip
      replace H := H.1 c3
      refine T_iconst (pc' := 20) dX12_whole_19 (by decide) rfl ?_
      exact T_iret dX12_whole_20 rfl ⟨rfl, hG, _, rfl, H⟩
