/-! methods by program, 6 -/
def lX12_lastOut_4  : Nat → Int → Int → Mem → Int
  | 0, v1, v2, M => v1
  | k + 1, v1, v2, M => (lX12_lastOut_4 k (if (fX12_isComing M v2) = 0 then v1 else (if (M 98 v2) ≤ v1 then v1 else (M 98 v2))) (v2 + 1) M)
def nlX12_lastOut_4  : Nat → Int → Int → Mem → Prop
  | 0, v1, v2, M => True
  | k + 1, v1, v2, M => (¬ ((fX12_isComing M v2) = 0) → 0 ≤ v2 ∧ v2 < 9) ∧ (¬ ((fX12_isComing M v2) = 0) → ¬ ((M 98 v2) ≤ v1) → 0 ≤ v2 ∧ v2 < 9) ∧ ((nlX12_lastOut_4 k (if (fX12_isComing M v2) = 0 then v1 else (if (M 98 v2) ≤ v1 then v1 else (M 98 v2))) (v2 + 1) M))
set_option maxRecDepth 100000 in
set_option maxHeartbeats 2000000 in
theorem qX12_lastOut_4 {E : EV} {h : Int} {Q : Option MV → Mem → Prop}   : ∀ (k : Nat) (v1 v2 : Int) (M : Mem), 0 ≤ v2 → (((fX12_peopleMany M)) - v2).toNat = k → (nlX12_lastOut_4 k v1 v2 M) → Q (some (0, (lX12_lastOut_4 k v1 v2 M))) M → G h M → TG E miX12_lastOut 4 h Q 4 [(2, 66), (0, v1), (0, v2)] [] M := by
  intro k
  induction k with
  | zero =>
    intro v1 v2 M hv0 hk hs hQ hG
    have hQ : Q (some (0, v1)) M := hQ
    have hs : True := hs
    refine T_iload_n (i := 2) (pc' := 5) dX12_lastOut_4 rfl rfl rfl ?_
    refine T_aload_n (i := 0) (pc' := 6) dX12_lastOut_5 rfl rfl rfl ?_
    refine T_callV (av := []) (st := [(0, v2)]) (d2 := 1) (nc2 := 0) (ns2 := 0) (pc' := 9) dX12_lastOut_6 rfl mtX12_peopleMany mvX12_peopleMany mlX12_349 cl12 rfl rfl rfl (Nat.le_of_ble_eq_true rfl) (by decide) ⟨by decide, by decide⟩ rfl (pX12_peopleMany (E := E) (h := h) (M := M) hG) (kF (st2 := [(0, (fX12_peopleMany M)), (0, v2)]) rfl (fun hG1 => ?_))
    refine T_rng (fun _ z9 _ => ?_)
    have hB : r32 (fX12_peopleMany M) := (ok_cons.mp z9).1
    unfold r32 at hB
    refine T_icmp_ge (pc' := 43) dX12_lastOut_9 (by decide) (pf := 12) rfl (fun c2 => ?_) (fun c2 => ?_)
    · skip
      refine T_iload_n (i := 1) (pc' := 44) dX12_lastOut_43 rfl rfl rfl ?_
      exact T_iret dX12_lastOut_44 rfl ⟨rfl, hG, hQ⟩
    · exact absurd c2 (by omega)
  | succ k ih =>
    intro v1 v2 M hv0 hk hs hQ hG
    have hQ : Q (some (0, (lX12_lastOut_4 k (if (fX12_isComing M v2) = 0 then v1 else (if (M 98 v2) ≤ v1 then v1 else (M 98 v2))) (v2 + 1) M))) M := hQ
    have hs : (¬ ((fX12_isComing M v2) = 0) → 0 ≤ v2 ∧ v2 < 9) ∧ (¬ ((fX12_isComing M v2) = 0) → ¬ ((M 98 v2) ≤ v1) → 0 ≤ v2 ∧ v2 < 9) ∧ ((nlX12_lastOut_4 k (if (fX12_isComing M v2) = 0 then v1 else (if (M 98 v2) ≤ v1 then v1 else (M 98 v2))) (v2 + 1) M)) := hs
    obtain ⟨n1, n2, n3⟩ := hs
    refine T_iload_n (i := 2) (pc' := 5) dX12_lastOut_4 rfl rfl rfl ?_
    refine T_aload_n (i := 0) (pc' := 6) dX12_lastOut_5 rfl rfl rfl ?_
    refine T_callV (av := []) (st := [(0, v2)]) (d2 := 1) (nc2 := 0) (ns2 := 0) (pc' := 9) dX12_lastOut_6 rfl mtX12_peopleMany mvX12_peopleMany mlX12_349 cl12 rfl rfl rfl (Nat.le_of_ble_eq_true rfl) (by decide) ⟨by decide, by decide⟩ rfl (pX12_peopleMany (E := E) (h := h) (M := M) hG) (kF (st2 := [(0, (fX12_peopleMany M)), (0, v2)]) rfl (fun hG1 => ?_))
    refine T_rng (fun _ z9 _ => ?_)
    have hB : r32 (fX12_peopleMany M) := (ok_cons.mp z9).1
    unfold r32 at hB
    refine T_icmp_ge (pc' := 43) dX12_lastOut_9 (by decide) (pf := 12) rfl (fun c2 => ?_) (fun c2 => ?_)
    · exact absurd c2 (by omega)
    · skip
      have hw : wr32 (v2 + 1) = v2 + 1 := wr32_id (by unfold r32; omega)
      refine T_aload_n (i := 0) (pc' := 13) dX12_lastOut_12 rfl rfl rfl ?_
      refine T_iload_n (i := 2) (pc' := 14) dX12_lastOut_13 rfl rfl rfl ?_
      refine T_callV (av := [(0, v2)]) (st := []) (d2 := 3) (nc2 := 0) (ns2 := 0) (pc' := 17) dX12_lastOut_14 rfl mtX12_isComing mvX12_isComing mlX12_376 cl12 rfl rfl rfl (Nat.le_of_ble_eq_true rfl) (by decide) ⟨by decide, by decide⟩ rfl (pX12_isComing (E := E) (h := h) (M := M) (v1 := v2) hG) (kF (st2 := [(0, (fX12_isComing M v2))]) rfl (fun hG3 => ?_))
      have HJ4 : T E miX12_lastOut 4 126 0 0 (fun r S M' => S = S0 ∧ G h M' ∧ Q r M') 37 [(2, 66), (0, (if (fX12_isComing M v2) = 0 then v1 else (if (M 98 v2) ≤ v1 then v1 else (M 98 v2)))), (0, v2)] [] S0 M 0 0 := by
        refine T_iinc (L' := [(2, 66), (0, (if (fX12_isComing M v2) = 0 then v1 else (if (M 98 v2) ≤ v1 then v1 else (M 98 v2)))), (0, (wr32 (v2 + 1)))]) (pc' := 40) dX12_lastOut_37 rfl (by decide) rfl rfl ?_
        refine T_goto (pc' := 4) dX12_lastOut_40 (by decide) ?_
        rw [hw]
        exact T_wk (ih _ (v2 + 1) _ (by omega) (by omega) (n3) hQ hG) ⟨Or.inr rfl, Or.inr rfl, Or.inr rfl, trivial⟩
      refine T_if_eq (pc' := 37) dX12_lastOut_17 (by decide) (pf := 20) rfl (fun c5 => ?_) (fun c5 => ?_)
      · skip
        exact T_wk (L' := [(2, 66), (0, v1), (0, v2)]) (by have q := HJ4; try simp only [if_pos c5] at q; exact q) ⟨Or.inr rfl, Or.inr rfl, Or.inr rfl, trivial⟩
      · skip
        refine T_aload_n (i := 0) (pc' := 21) dX12_lastOut_20 rfl rfl rfl ?_
        refine U_gr (q := 98) (k := 48) (kI := 48) (pc' := 24) dX12_lastOut_21 rfl cl12 (by decide) rfl (by decide) flX12_110 rfl rfl rfl (G_at hG 98 rfl) (by decide) rfl ?_
        refine T_iload_n (i := 2) (pc' := 25) dX12_lastOut_24 rfl rfl rfl ?_
        refine T_iald (pc' := 26) dX12_lastOut_25 (by decide) rfl (n1 c5).1 (n1 c5).2 rfl ?_
        refine T_iload_n (i := 1) (pc' := 27) dX12_lastOut_26 rfl rfl rfl ?_
        refine T_icmp_le (pc' := 37) dX12_lastOut_27 (by decide) (pf := 30) rfl (fun c6 => ?_) (fun c6 => ?_)
        · skip
          exact T_wk (L' := [(2, 66), (0, v1), (0, v2)]) (by have q := HJ4; try simp only [if_neg c5] at q; try simp only [if_pos c6] at q; exact q) ⟨Or.inr rfl, Or.inr rfl, Or.inr rfl, trivial⟩
        · skip
          refine T_aload_n (i := 0) (pc' := 31) dX12_lastOut_30 rfl rfl rfl ?_
          refine U_gr (q := 98) (k := 48) (kI := 48) (pc' := 34) dX12_lastOut_31 rfl cl12 (by decide) rfl (by decide) flX12_110 rfl rfl rfl (G_at hG 98 rfl) (by decide) rfl ?_
          refine T_iload_n (i := 2) (pc' := 35) dX12_lastOut_34 rfl rfl rfl ?_
          refine T_iald (pc' := 36) dX12_lastOut_35 (by decide) rfl (n2 c5 c6).1 (n2 c5 c6).2 rfl ?_
          refine T_istore_n (i := 1) (L' := [(2, 66), (0, (M 98 v2)), (0, v2)]) (pc' := 37) dX12_lastOut_36 rfl (by decide) rfl rfl ?_
          exact T_wk (L' := [(2, 66), (0, (M 98 v2)), (0, v2)]) (by have q := HJ4; try simp only [if_neg c5] at q; try simp only [if_neg c6] at q; exact q) ⟨Or.inr rfl, Or.inr rfl, Or.inr rfl, trivial⟩
def fX12_lastOut (M : Mem) : Int :=
  (lX12_lastOut_4 ((((fX12_peopleMany M)) : Int) - 0).toNat (-1) 0 M)
def nX12_lastOut (M : Mem) : Prop :=
  ((nlX12_lastOut_4 ((((fX12_peopleMany M)) : Int) - 0).toNat (-1) 0 M))
set_option maxRecDepth 100000 in
theorem pX12_lastOut {E : EV} {h : Int} {M : Mem}  (hs : (nX12_lastOut M)) : C2 E miX12_lastOut 4 h [(2, 66)] M (fun r M' => r = some (0, (fX12_lastOut M)) ∧ M' = M) := by
  obtain ⟨Q, hQ0⟩ : ∃ Q : Option MV → Mem → Prop, Q = (fun r M' => r = some (0, (fX12_lastOut M)) ∧ M' = M) := ⟨_, rfl⟩
  rw [← hQ0]
  have hQ : Q (some (0, (lX12_lastOut_4 ((((fX12_peopleMany M)) : Int) - 0).toNat (-1) 0 M))) M := by rw [hQ0]; exact ⟨rfl, rfl⟩
  have o1 := hs
  refine C2_of (L := [(2, 66), (3, 0), (3, 0)]) (by decide +kernel) (Nat.le_of_ble_eq_true rfl) rfl (fun hG => ?_)
  refine T_iconst (pc' := 1) dX12_lastOut_0 (by decide) rfl ?_
  refine T_istore_n (i := 1) (L' := [(2, 66), (0, (-1)), (3, 0)]) (pc' := 2) dX12_lastOut_1 rfl (by decide) rfl rfl ?_
  refine T_iconst (pc' := 3) dX12_lastOut_2 (by decide) rfl ?_
  refine T_istore_n (i := 2) (L' := [(2, 66), (0, (-1)), (0, 0)]) (pc' := 4) dX12_lastOut_3 rfl (by decide) rfl rfl ?_
  exact T_wk (qX12_lastOut_4  _ (-1) 0 _ (by first | decide | omega) rfl (o1) hQ hG) ⟨Or.inr rfl, Or.inr rfl, Or.inr rfl, trivial⟩
def lX12_openAhead_4  : Nat → Int → Int → Mem → Int
  | 0, v1, v2, M => v1
  | k + 1, v1, v2, M => (lX12_openAhead_4 k (if (fX12_isComing M v2) = 0 then v1 else (if (M 96 v2) = (-1) then v1 else (if (M 91 4) ≤ (M 96 v2) then v1 else (wr32 (v1 + 1))))) (v2 + 1) M)
def nlX12_openAhead_4  : Nat → Int → Int → Mem → Prop
  | 0, v1, v2, M => True
  | k + 1, v1, v2, M => (¬ ((fX12_isComing M v2) = 0) → 0 ≤ v2 ∧ v2 < 9) ∧ (¬ ((fX12_isComing M v2) = 0) → ¬ ((M 96 v2) = (-1)) → 0 ≤ v2 ∧ v2 < 9) ∧ ((nlX12_openAhead_4 k (if (fX12_isComing M v2) = 0 then v1 else (if (M 96 v2) = (-1) then v1 else (if (M 91 4) ≤ (M 96 v2) then v1 else (wr32 (v1 + 1))))) (v2 + 1) M))
set_option maxRecDepth 100000 in
set_option maxHeartbeats 2000000 in
theorem qX12_openAhead_4 {E : EV} {h : Int} {Q : Option MV → Mem → Prop}   : ∀ (k : Nat) (v1 v2 : Int) (M : Mem), 0 ≤ v2 → (((fX12_peopleMany M)) - v2).toNat = k → (nlX12_openAhead_4 k v1 v2 M) → Q (some (0, (lX12_openAhead_4 k v1 v2 M))) M → G h M → TG E miX12_openAhead 4 h Q 4 [(2, 66), (0, v1), (0, v2)] [] M := by
  intro k
  induction k with
  | zero =>
    intro v1 v2 M hv0 hk hs hQ hG
    have hQ : Q (some (0, v1)) M := hQ
    have hs : True := hs
    refine T_iload_n (i := 2) (pc' := 5) dX12_openAhead_4 rfl rfl rfl ?_
    refine T_aload_n (i := 0) (pc' := 6) dX12_openAhead_5 rfl rfl rfl ?_
    refine T_callV (av := []) (st := [(0, v2)]) (d2 := 1) (nc2 := 0) (ns2 := 0) (pc' := 9) dX12_openAhead_6 rfl mtX12_peopleMany mvX12_peopleMany mlX12_349 cl12 rfl rfl rfl (Nat.le_of_ble_eq_true rfl) (by decide) ⟨by decide, by decide⟩ rfl (pX12_peopleMany (E := E) (h := h) (M := M) hG) (kF (st2 := [(0, (fX12_peopleMany M)), (0, v2)]) rfl (fun hG1 => ?_))
    refine T_rng (fun _ z9 _ => ?_)
    have hB : r32 (fX12_peopleMany M) := (ok_cons.mp z9).1
    unfold r32 at hB
    refine T_icmp_ge (pc' := 54) dX12_openAhead_9 (by decide) (pf := 12) rfl (fun c2 => ?_) (fun c2 => ?_)
    · skip
      refine T_iload_n (i := 1) (pc' := 55) dX12_openAhead_54 rfl rfl rfl ?_
      exact T_iret dX12_openAhead_55 rfl ⟨rfl, hG, hQ⟩
    · exact absurd c2 (by omega)
  | succ k ih =>
    intro v1 v2 M hv0 hk hs hQ hG
    have hQ : Q (some (0, (lX12_openAhead_4 k (if (fX12_isComing M v2) = 0 then v1 else (if (M 96 v2) = (-1) then v1 else (if (M 91 4) ≤ (M 96 v2) then v1 else (wr32 (v1 + 1))))) (v2 + 1) M))) M := hQ
    have hs : (¬ ((fX12_isComing M v2) = 0) → 0 ≤ v2 ∧ v2 < 9) ∧ (¬ ((fX12_isComing M v2) = 0) → ¬ ((M 96 v2) = (-1)) → 0 ≤ v2 ∧ v2 < 9) ∧ ((nlX12_openAhead_4 k (if (fX12_isComing M v2) = 0 then v1 else (if (M 96 v2) = (-1) then v1 else (if (M 91 4) ≤ (M 96 v2) then v1 else (wr32 (v1 + 1))))) (v2 + 1) M)) := hs
    obtain ⟨n1, n2, n3⟩ := hs
    refine T_iload_n (i := 2) (pc' := 5) dX12_openAhead_4 rfl rfl rfl ?_
    refine T_aload_n (i := 0) (pc' := 6) dX12_openAhead_5 rfl rfl rfl ?_
    refine T_callV (av := []) (st := [(0, v2)]) (d2 := 1) (nc2 := 0) (ns2 := 0) (pc' := 9) dX12_openAhead_6 rfl mtX12_peopleMany mvX12_peopleMany mlX12_349 cl12 rfl rfl rfl (Nat.le_of_ble_eq_true rfl) (by decide) ⟨by decide, by decide⟩ rfl (pX12_peopleMany (E := E) (h := h) (M := M) hG) (kF (st2 := [(0, (fX12_peopleMany M)), (0, v2)]) rfl (fun hG1 => ?_))
    refine T_rng (fun _ z9 _ => ?_)
    have hB : r32 (fX12_peopleMany M) := (ok_cons.mp z9).1
    unfold r32 at hB
    refine T_icmp_ge (pc' := 54) dX12_openAhead_9 (by decide) (pf := 12) rfl (fun c2 => ?_) (fun c2 => ?_)
    · exact absurd c2 (by omega)
    · skip
      have hw : wr32 (v2 + 1) = v2 + 1 := wr32_id (by unfold r32; omega)
      refine T_aload_n (i := 0) (pc' := 13) dX12_openAhead_12 rfl rfl rfl ?_
      refine T_iload_n (i := 2) (pc' := 14) dX12_openAhead_13 rfl rfl rfl ?_
      refine T_callV (av := [(0, v2)]) (st := []) (d2 := 3) (nc2 := 0) (ns2 := 0) (pc' := 17) dX12_openAhead_14 rfl mtX12_isComing mvX12_isComing mlX12_376 cl12 rfl rfl rfl (Nat.le_of_ble_eq_true rfl) (by decide) ⟨by decide, by decide⟩ rfl (pX12_isComing (E := E) (h := h) (M := M) (v1 := v2) hG) (kF (st2 := [(0, (fX12_isComing M v2))]) rfl (fun hG3 => ?_))
      have HJ4 : T E miX12_openAhead 4 126 0 0 (fun r S M' => S = S0 ∧ G h M' ∧ Q r M') 48 [(2, 66), (0, (if (fX12_isComing M v2) = 0 then v1 else (if (M 96 v2) = (-1) then v1 else (if (M 91 4) ≤ (M 96 v2) then v1 else (wr32 (v1 + 1)))))), (0, v2)] [] S0 M 0 0 := by
        refine T_iinc (L' := [(2, 66), (0, (if (fX12_isComing M v2) = 0 then v1 else (if (M 96 v2) = (-1) then v1 else (if (M 91 4) ≤ (M 96 v2) then v1 else (wr32 (v1 + 1)))))), (0, (wr32 (v2 + 1)))]) (pc' := 51) dX12_openAhead_48 rfl (by decide) rfl rfl ?_
        refine T_goto (pc' := 4) dX12_openAhead_51 (by decide) ?_
        rw [hw]
        exact T_wk (ih _ (v2 + 1) _ (by omega) (by omega) (n3) hQ hG) ⟨Or.inr rfl, Or.inr rfl, Or.inr rfl, trivial⟩
      refine T_if_eq (pc' := 48) dX12_openAhead_17 (by decide) (pf := 20) rfl (fun c5 => ?_) (fun c5 => ?_)
      · skip
        exact T_wk (L' := [(2, 66), (0, v1), (0, v2)]) (by have q := HJ4; try simp only [if_pos c5] at q; exact q) ⟨Or.inr rfl, Or.inr rfl, Or.inr rfl, trivial⟩
      · skip
        refine T_aload_n (i := 0) (pc' := 21) dX12_openAhead_20 rfl rfl rfl ?_
        refine U_gr (q := 96) (k := 46) (kI := 46) (pc' := 24) dX12_openAhead_21 rfl cl12 (by decide) rfl (by decide) flX12_104 rfl rfl rfl (G_at hG 96 rfl) (by decide) rfl ?_
        refine T_iload_n (i := 2) (pc' := 25) dX12_openAhead_24 rfl rfl rfl ?_
        refine T_iald (pc' := 26) dX12_openAhead_25 (by decide) rfl (n1 c5).1 (n1 c5).2 rfl ?_
        refine T_iconst (pc' := 27) dX12_openAhead_26 (by decide) rfl ?_
        refine T_icmp_eq (pc' := 48) dX12_openAhead_27 (by decide) (pf := 30) rfl (fun c6 => ?_) (fun c6 => ?_)
        · skip
          exact T_wk (L' := [(2, 66), (0, v1), (0, v2)]) (by have q := HJ4; try simp only [if_neg c5] at q; try simp only [if_pos c6] at q; exact q) ⟨Or.inr rfl, Or.inr rfl, Or.inr rfl, trivial⟩
        · skip
          refine T_aload_n (i := 0) (pc' := 31) dX12_openAhead_30 rfl rfl rfl ?_
          refine U_gr (q := 96) (k := 46) (kI := 46) (pc' := 34) dX12_openAhead_31 rfl cl12 (by decide) rfl (by decide) flX12_104 rfl rfl rfl (G_at hG 96 rfl) (by decide) rfl ?_
          refine T_iload_n (i := 2) (pc' := 35) dX12_openAhead_34 rfl rfl rfl ?_
          refine T_iald (pc' := 36) dX12_openAhead_35 (by decide) rfl (n2 c5 c6).1 (n2 c5 c6).2 rfl ?_
          refine T_aload_n (i := 0) (pc' := 37) dX12_openAhead_36 rfl rfl rfl ?_
          refine U_gr (q := 91) (k := 34) (kI := 34) (pc' := 40) dX12_openAhead_37 rfl cl12 (by decide) rfl (by decide) flX12_89 rfl rfl rfl (G_at hG 91 rfl) (by decide) rfl ?_
          refine T_iconst (pc' := 41) dX12_openAhead_40 (by decide) rfl ?_
          refine T_iald (pc' := 42) dX12_openAhead_41 (by decide) rfl (by decide) (by decide) rfl ?_
          refine T_icmp_ge (pc' := 48) dX12_openAhead_42 (by decide) (pf := 45) rfl (fun c7 => ?_) (fun c7 => ?_)
          · skip
            exact T_wk (L' := [(2, 66), (0, v1), (0, v2)]) (by have q := HJ4; try simp only [if_neg c5] at q; try simp only [if_neg c6] at q; try simp only [if_pos c7] at q; exact q) ⟨Or.inr rfl, Or.inr rfl, Or.inr rfl, trivial⟩
          · skip
            refine T_iinc (L' := [(2, 66), (0, (wr32 (v1 + 1))), (0, v2)]) (pc' := 48) dX12_openAhead_45 rfl (by decide) rfl rfl ?_
            exact T_wk (L' := [(2, 66), (0, (wr32 (v1 + 1))), (0, v2)]) (by have q := HJ4; try simp only [if_neg c5] at q; try simp only [if_neg c6] at q; try simp only [if_neg c7] at q; exact q) ⟨Or.inr rfl, Or.inr rfl, Or.inr rfl, trivial⟩
def fX12_openAhead (M : Mem) : Int :=
  (lX12_openAhead_4 ((((fX12_peopleMany M)) : Int) - 0).toNat 0 0 M)
def nX12_openAhead (M : Mem) : Prop :=
  ((nlX12_openAhead_4 ((((fX12_peopleMany M)) : Int) - 0).toNat 0 0 M))
set_option maxRecDepth 100000 in
theorem pX12_openAhead {E : EV} {h : Int} {M : Mem}  (hs : (nX12_openAhead M)) : C2 E miX12_openAhead 4 h [(2, 66)] M (fun r M' => r = some (0, (fX12_openAhead M)) ∧ M' = M) := by
  obtain ⟨Q, hQ0⟩ : ∃ Q : Option MV → Mem → Prop, Q = (fun r M' => r = some (0, (fX12_openAhead M)) ∧ M' = M) := ⟨_, rfl⟩
  rw [← hQ0]
  have hQ : Q (some (0, (lX12_openAhead_4 ((((fX12_peopleMany M)) : Int) - 0).toNat 0 0 M))) M := by rw [hQ0]; exact ⟨rfl, rfl⟩
  have o1 := hs
  refine C2_of (L := [(2, 66), (3, 0), (3, 0)]) (by decide +kernel) (Nat.le_of_ble_eq_true rfl) rfl (fun hG => ?_)
  refine T_iconst (pc' := 1) dX12_openAhead_0 (by decide) rfl ?_
  refine T_istore_n (i := 1) (L' := [(2, 66), (0, 0), (3, 0)]) (pc' := 2) dX12_openAhead_1 rfl (by decide) rfl rfl ?_
  refine T_iconst (pc' := 3) dX12_openAhead_2 (by decide) rfl ?_
  refine T_istore_n (i := 2) (L' := [(2, 66), (0, 0), (0, 0)]) (pc' := 4) dX12_openAhead_3 rfl (by decide) rfl rfl ?_
  exact T_wk (qX12_openAhead_4  _ 0 0 _ (by first | decide | omega) rfl (o1) hQ hG) ⟨Or.inr rfl, Or.inr rfl, Or.inr rfl, trivial⟩
def fX12_come (M : Mem) (v1 : Int) : Int :=
  (if (fX12_isIn v1 0 (wr32 ((m_shl 1 (fX12_peopleMany M)) - 1))) = 0 then 0 else 1)
def fmX12_come (M : Mem) (v1 : Int) : Mem :=
  (if (fX12_isIn v1 0 (wr32 ((m_shl 1 (fX12_peopleMany M)) - 1))) = 0 then M else (mset M 66 42 v1))
theorem gX12_come {h : Int} {M : Mem} {v1 : Int}  (hG : G h M) : G h (fmX12_come M v1) := by
  unfold fmX12_come
  exact (G_ite hG (G_fld (x := 66) (i := 42) (y := v1) rfl (by decide) (by decide) (by decide) hG))
set_option maxRecDepth 100000 in
theorem pX12_come {E : EV} {h : Int} {M : Mem} {v1 : Int}  : C2 E miX12_come 2 h [(2, 66), (0, v1)] M (fun r M' => r = some (0, (fX12_come M v1)) ∧ M' = (fmX12_come M v1)) := by
  obtain ⟨Q, hQ⟩ : ∃ Q : Option MV → Mem → Prop, Q = (fun r M' => r = some (0, (fX12_come M v1)) ∧ M' = (fmX12_come M v1)) := ⟨_, rfl⟩
  rw [← hQ]
  refine C2_of (L := [(2, 66), (0, v1)]) (by decide +kernel) (Nat.le_of_ble_eq_true rfl) rfl (fun hG => ?_)
  refine T_iload_n (i := 1) (pc' := 1) dX12_come_0 rfl rfl rfl ?_
  refine T_i2l (pc' := 2) dX12_come_1 rfl ?_
  refine T_lconst (v := 0) (pc' := 3) dX12_come_2 rfl (by decide) rfl ?_
  refine T_iconst (pc' := 4) dX12_come_3 (by decide) rfl ?_
  refine T_aload_n (i := 0) (pc' := 5) dX12_come_4 rfl rfl rfl ?_
  refine T_callV (av := []) (st := [(0, 1), (1, 0), (1, v1)]) (d2 := 1) (nc2 := 0) (ns2 := 0) (pc' := 8) dX12_come_5 rfl mtX12_peopleMany mvX12_peopleMany mlX12_349 cl12 rfl rfl rfl (Nat.le_of_ble_eq_true rfl) (by decide) ⟨by decide, by decide⟩ rfl (pX12_peopleMany (E := E) (h := h) (M := M) hG) (kF (st2 := [(0, (fX12_peopleMany M)), (0, 1), (1, 0), (1, v1)]) rfl (fun hG1 => ?_))
  refine T_ishl (pc' := 9) dX12_come_8 rfl ?_
  refine T_iconst (pc' := 10) dX12_come_9 (by decide) rfl ?_
  refine T_isub (pc' := 11) dX12_come_10 rfl ?_
  refine T_i2l (pc' := 12) dX12_come_11 rfl ?_
  refine T_callS (av := [(1, v1), (1, 0), (1, (wr32 ((m_shl 1 (fX12_peopleMany M)) - 1)))]) (st := []) (d2 := 1) (nc2 := 0) (ns2 := 0) (pc' := 15) dX12_come_12 rfl mtX12_isIn mvX12_isIn mlX12_244 rfl rfl (Nat.le_of_ble_eq_true rfl) (by decide) ⟨by decide, by decide⟩ rfl (pX12_isIn (E := E) (h := h) (M := M) (v0 := v1) (v2 := 0) (v4 := (wr32 ((m_shl 1 (fX12_peopleMany M)) - 1))) hG) (kF (st2 := [(0, (fX12_isIn v1 0 (wr32 ((m_shl 1 (fX12_peopleMany M)) - 1))))]) rfl (fun hG2 => ?_))
  refine T_if_ne (pc' := 20) dX12_come_15 (by decide) (pf := 18) rfl (fun c3 => ?_) (fun c3 => ?_)
  · skip
    refine T_aload_n (i := 0) (pc' := 21) dX12_come_20 rfl rfl rfl ?_
    refine T_iload_n (i := 1) (pc' := 22) dX12_come_21 rfl rfl rfl ?_
    refine U_pf (y := v1) (k := 42) (kI := 42) (pc' := 25) dX12_come_22 rfl cl12 (by decide) rfl (by decide) flX12_340 rfl rfl rfl rfl rfl (by decide) (fun z => z) rfl ?_
    refine T_iconst (pc' := 26) dX12_come_25 (by decide) rfl ?_
    exact T_zret dX12_come_26 rfl (by decide) ⟨rfl, (G_fld (x := 66) (i := 42) (y := v1) rfl (by decide) (by decide) (by decide) hG), (by rw [hQ]; exact ⟨(by unfold fX12_come; simp only [if_neg c3]), (by unfold fmX12_come; simp only [if_neg c3])⟩)⟩
  · skip
    refine T_iconst (pc' := 19) dX12_come_18 (by decide) rfl ?_
    exact T_zret dX12_come_19 rfl (by decide) ⟨rfl, hG, (by rw [hQ]; exact ⟨(by unfold fX12_come; simp only [if_pos c3]), (by unfold fmX12_come; simp only [if_pos c3])⟩)⟩
theorem frX12_come {M : Mem} {v1 : Int} {q : Int} (hq0 : q ≠ 66) : (fmX12_come M v1) q = M q := by
  unfold fmX12_come
  exact (ite_q rfl ((mset_p hq0).trans rfl))
theorem fbX12_come (M : Mem) (v1 : Int) : (fX12_come M v1) = 0 ∨ (fX12_come M v1) = 1 := by
  unfold fX12_come
  repeat' (first | apply bi | exact Or.inl rfl | exact Or.inr rfl | apply fbX12_isIn)
def fX12_seed (v1 : Int) : Int :=
  (if 0 ≤ v1 then 1 else 0)
def fmX12_seed (M : Mem) (v1 : Int) : Mem :=
  (if 0 ≤ v1 then (mset M 66 56 v1) else M)
theorem gX12_seed {h : Int} {M : Mem} {v1 : Int}  (hG : G h M) : G h (fmX12_seed M v1) := by
  unfold fmX12_seed
  exact (G_ite (G_fld (x := 66) (i := 56) (y := v1) rfl (by decide) (by decide) (by decide) hG) hG)
set_option maxRecDepth 100000 in
theorem pX12_seed {E : EV} {h : Int} {M : Mem} {v1 : Int}  : C2 E miX12_seed 1 h [(2, 66), (0, v1)] M (fun r M' => r = some (0, (fX12_seed v1)) ∧ M' = (fmX12_seed M v1)) := by
  obtain ⟨Q, hQ⟩ : ∃ Q : Option MV → Mem → Prop, Q = (fun r M' => r = some (0, (fX12_seed v1)) ∧ M' = (fmX12_seed M v1)) := ⟨_, rfl⟩
  rw [← hQ]
  refine C2_of (L := [(2, 66), (0, v1)]) (by decide +kernel) (Nat.le_of_ble_eq_true rfl) rfl (fun hG => ?_)
  refine T_iload_n (i := 1) (pc' := 1) dX12_seed_0 rfl rfl rfl ?_
  refine T_if_ge (pc' := 6) dX12_seed_1 (by decide) (pf := 4) rfl (fun c1 => ?_) (fun c1 => ?_)
  · skip
    refine T_aload_n (i := 0) (pc' := 7) dX12_seed_6 rfl rfl rfl ?_
    refine T_iload_n (i := 1) (pc' := 8) dX12_seed_7 rfl rfl rfl ?_
    refine T_i2l (pc' := 9) dX12_seed_8 rfl ?_
    refine U_pf (y := v1) (k := 56) (kI := 56) (pc' := 12) dX12_seed_9 rfl cl12 (by decide) rfl (by decide) flX12_119 rfl rfl rfl rfl rfl (by decide) (fun z => z) rfl ?_
    refine T_iconst (pc' := 13) dX12_seed_12 (by decide) rfl ?_
    exact T_zret dX12_seed_13 rfl (by decide) ⟨rfl, (G_fld (x := 66) (i := 56) (y := v1) rfl (by decide) (by decide) (by decide) hG), (by rw [hQ]; exact ⟨(by unfold fX12_seed; simp only [if_pos c1]), (by unfold fmX12_seed; simp only [if_pos c1])⟩)⟩
  · skip
    refine T_iconst (pc' := 5) dX12_seed_4 (by decide) rfl ?_
    exact T_zret dX12_seed_5 rfl (by decide) ⟨rfl, hG, (by rw [hQ]; exact ⟨(by unfold fX12_seed; simp only [if_neg c1]), (by unfold fmX12_seed; simp only [if_neg c1])⟩)⟩
theorem frX12_seed {M : Mem} {v1 : Int} {q : Int} (hq0 : q ≠ 66) : (fmX12_seed M v1) q = M q := by
  unfold fmX12_seed
  exact (ite_q ((mset_p hq0).trans rfl) rfl)
theorem fbX12_seed (v1 : Int) : (fX12_seed v1) = 0 ∨ (fX12_seed v1) = 1 := by
  unfold fX12_seed
  repeat' (first | apply bi | exact Or.inl rfl | exact Or.inr rfl)
def fX12_drawOf (M : Mem) (v1 : Int) : Int :=
  (wr32 (Int.tmod (wr64 (Int.tdiv ((mset M 66 56 (Int.tmod (wr64 ((wr64 (1103515245 * (M 66 56))) + 12345)) 2147483648)) 66 56) 64)) v1))
def fmX12_drawOf (M : Mem) : Mem :=
  (mset M 66 56 (Int.tmod (wr64 ((wr64 (1103515245 * (M 66 56))) + 12345)) 2147483648))
def nX12_drawOf (v1 : Int) : Prop :=
  (¬ v1 = 0)
theorem gX12_drawOf {h : Int} {M : Mem} {v1 : Int}  (hG : G h M) : G h (fmX12_drawOf M) := by
  unfold fmX12_drawOf
  exact (G_fld (x := 66) (i := 56) (y := (Int.tmod (wr64 ((wr64 (1103515245 * (M 66 56))) + 12345)) 2147483648)) rfl (by decide) (by decide) (by decide) hG)
set_option maxRecDepth 100000 in
theorem pX12_drawOf {E : EV} {h : Int} {M : Mem} {v1 : Int} (hs : (nX12_drawOf v1)) : C2 E miX12_drawOf 1 h [(2, 66), (0, v1)] M (fun r M' => r = some (0, (fX12_drawOf M v1)) ∧ M' = (fmX12_drawOf M)) := by
  obtain ⟨Q, hQ⟩ : ∃ Q : Option MV → Mem → Prop, Q = (fun r M' => r = some (0, (fX12_drawOf M v1)) ∧ M' = (fmX12_drawOf M)) := ⟨_, rfl⟩
  rw [← hQ]
  have o1 := hs
  refine C2_of (L := [(2, 66), (0, v1)]) (by decide +kernel) (Nat.le_of_ble_eq_true rfl) rfl (fun hG => ?_)
  refine T_aload_n (i := 0) (pc' := 1) dX12_drawOf_0 rfl rfl rfl ?_
  refine T_ldc2 (n := 1103515245) (pc' := 4) dX12_drawOf_1 rfl kjX12_487 rfl (by decide) rfl ?_
  refine T_aload_n (i := 0) (pc' := 5) dX12_drawOf_4 rfl rfl rfl ?_
  refine U_gf (v := (1, (M 66 56))) (k := 56) (kI := 56) (pc' := 8) dX12_drawOf_5 rfl cl12 (by decide) rfl (by decide) flX12_119 rfl rfl (by decide) rfl rfl ?_
  refine T_lmul (pc' := 9) dX12_drawOf_8 rfl ?_
  refine T_ldc2 (n := 12345) (pc' := 12) dX12_drawOf_9 rfl kjX12_489 rfl (by decide) rfl ?_
  refine T_ladd (pc' := 13) dX12_drawOf_12 rfl ?_
  refine T_ldc2 (n := 2147483648) (pc' := 16) dX12_drawOf_13 rfl kjX12_491 rfl (by decide) rfl ?_
  refine T_lrem (pc' := 17) dX12_drawOf_16 (by decide) rfl ?_
  refine U_pf (y := (Int.tmod (wr64 ((wr64 (1103515245 * (M 66 56))) + 12345)) 2147483648)) (k := 56) (kI := 56) (pc' := 20) dX12_drawOf_17 rfl cl12 (by decide) rfl (by decide) flX12_119 rfl rfl rfl rfl rfl (by decide) (fun z => z) rfl ?_
  refine T_aload_n (i := 0) (pc' := 21) dX12_drawOf_20 rfl rfl rfl ?_
  refine U_gf (v := (1, ((mset M 66 56 (Int.tmod (wr64 ((wr64 (1103515245 * (M 66 56))) + 12345)) 2147483648)) 66 56))) (k := 56) (kI := 56) (pc' := 24) dX12_drawOf_21 rfl cl12 (by decide) rfl (by decide) flX12_119 rfl rfl (by decide) rfl rfl ?_
  refine T_ldc2 (n := 64) (pc' := 27) dX12_drawOf_24 rfl kjX12_493 rfl (by decide) rfl ?_
  refine T_ldiv (pc' := 28) dX12_drawOf_27 (by decide) rfl ?_
  refine T_iload_n (i := 1) (pc' := 29) dX12_drawOf_28 rfl rfl rfl ?_
  refine T_i2l (pc' := 30) dX12_drawOf_29 rfl ?_
  refine T_lrem (pc' := 31) dX12_drawOf_30 (o1) rfl ?_
  refine T_l2i (pc' := 32) dX12_drawOf_31 rfl ?_
  exact T_iret dX12_drawOf_32 rfl ⟨rfl, (G_fld (x := 66) (i := 56) (y := (Int.tmod (wr64 ((wr64 (1103515245 * (M 66 56))) + 12345)) 2147483648)) rfl (by decide) (by decide) (by decide) hG), (by rw [hQ]; exact ⟨rfl, rfl⟩)⟩
theorem frX12_drawOf {M : Mem} {q : Int} (hq0 : q ≠ 66) : (fmX12_drawOf M) q = M q := by
  unfold fmX12_drawOf
  exact ((mset_p hq0).trans rfl)
def lX12_lot_7  : Nat → Int → Mem → Int
  | 0, v1, M => (M 66 42)
  | k + 1, v1, M => (lX12_lot_7 k (v1 + 1) (if (fX12_personOf (fmX12_drawOf M) v1 3) ≤ (fX12_drawOf M 4) then (fmX12_drawOf M) else (mset (fmX12_drawOf M) 66 42 (m_or ((fmX12_drawOf M) 66 42) (m_shl 1 v1)))))
def lmX12_lot_7  : Nat → Int → Mem → Mem
  | 0, v1, M => M
  | k + 1, v1, M => (lmX12_lot_7 k (v1 + 1) (if (fX12_personOf (fmX12_drawOf M) v1 3) ≤ (fX12_drawOf M 4) then (fmX12_drawOf M) else (mset (fmX12_drawOf M) 66 42 (m_or ((fmX12_drawOf M) 66 42) (m_shl 1 v1)))))
theorem frlX12_lot_7  {q : Int} (hq0 : q ≠ 66) : ∀ {k : Nat} {v1 : Int} {M : Mem}, (lmX12_lot_7  k v1 M) q = M q := by
  intro k
  induction k with
  | zero =>
    intro v1 M
    show M q = M q
    exact rfl
  | succ k ih =>
    intro v1 M
    show (lmX12_lot_7 k (v1 + 1) (if (fX12_personOf (fmX12_drawOf M) v1 3) ≤ (fX12_drawOf M 4) then (fmX12_drawOf M) else (mset (fmX12_drawOf M) 66 42 (m_or ((fmX12_drawOf M) 66 42) (m_shl 1 v1))))) q = M q
    exact ((ih).trans (ite_q ((frX12_drawOf hq0).trans rfl) ((mset_p hq0).trans ((frX12_drawOf hq0).trans rfl))))
theorem glX12_lot_7 {h : Int}   : ∀ {k : Nat} {v1 : Int} {M : Mem}, G h M → G h (lmX12_lot_7  k v1 M) := by
  intro k
  induction k with
  | zero =>
    intro v1 M hG
    show G h M
    exact hG
  | succ k ih =>
    intro v1 M hG
    show G h (lmX12_lot_7 k (v1 + 1) (if (fX12_personOf (fmX12_drawOf M) v1 3) ≤ (fX12_drawOf M 4) then (fmX12_drawOf M) else (mset (fmX12_drawOf M) 66 42 (m_or ((fmX12_drawOf M) 66 42) (m_shl 1 v1)))))
    exact (ih (G_ite (gX12_drawOf (h := h) (M := M) (v1 := 4) hG) (G_fld (x := 66) (i := 42) (y := (m_or ((fmX12_drawOf M) 66 42) (m_shl 1 v1))) rfl (by decide) (by decide) (by decide) (gX12_drawOf (h := h) (M := M) (v1 := 4) hG))))
def nlX12_lot_7  : Nat → Int → Mem → Prop
  | 0, v1, M => True
  | k + 1, v1, M => ((nX12_drawOf 4)) ∧ ((nX12_personOf v1 3)) ∧ ((nlX12_lot_7 k (v1 + 1) (if (fX12_personOf (fmX12_drawOf M) v1 3) ≤ (fX12_drawOf M 4) then (fmX12_drawOf M) else (mset (fmX12_drawOf M) 66 42 (m_or ((fmX12_drawOf M) 66 42) (m_shl 1 v1))))))
set_option maxRecDepth 100000 in
set_option maxHeartbeats 2000000 in
theorem qX12_lot_7 {E : EV} {h : Int} {Q : Option MV → Mem → Prop}   : ∀ (k : Nat) (v1 : Int) (M : Mem), 0 ≤ v1 → (((fX12_peopleMany M)) - v1).toNat = k → (nlX12_lot_7 k v1 M) → Q (some (0, (lX12_lot_7 k v1 M))) (lmX12_lot_7 k v1 M) → G h M → TG E miX12_lot 2 h Q 7 [(2, 66), (0, v1)] [] M := by
  intro k
  induction k with
  | zero =>
    intro v1 M hv0 hk hs hQ hG
    have hQ : Q (some (0, (M 66 42))) M := hQ
    have hs : True := hs
    refine T_iload_n (i := 1) (pc' := 8) dX12_lot_7 rfl rfl rfl ?_
    refine T_aload_n (i := 0) (pc' := 9) dX12_lot_8 rfl rfl rfl ?_
    refine T_callV (av := []) (st := [(0, v1)]) (d2 := 1) (nc2 := 0) (ns2 := 0) (pc' := 12) dX12_lot_9 rfl mtX12_peopleMany mvX12_peopleMany mlX12_349 cl12 rfl rfl rfl (Nat.le_of_ble_eq_true rfl) (by decide) ⟨by decide, by decide⟩ rfl (pX12_peopleMany (E := E) (h := h) (M := M) hG) (kF (st2 := [(0, (fX12_peopleMany M)), (0, v1)]) rfl (fun hG1 => ?_))
    refine T_rng (fun _ z9 _ => ?_)
    have hB : r32 (fX12_peopleMany M) := (ok_cons.mp z9).1
    unfold r32 at hB
    refine T_icmp_ge (pc' := 47) dX12_lot_12 (by decide) (pf := 15) rfl (fun c2 => ?_) (fun c2 => ?_)
    · skip
      refine T_aload_n (i := 0) (pc' := 48) dX12_lot_47 rfl rfl rfl ?_
      refine U_gf (v := (0, (M 66 42))) (k := 42) (kI := 42) (pc' := 51) dX12_lot_48 rfl cl12 (by decide) rfl (by decide) flX12_340 rfl rfl (by decide) rfl rfl ?_
      exact T_iret dX12_lot_51 rfl ⟨rfl, hG, hQ⟩
    · exact absurd c2 (by omega)
  | succ k ih =>
    intro v1 M hv0 hk hs hQ hG
    have hQ : Q (some (0, (lX12_lot_7 k (v1 + 1) (if (fX12_personOf (fmX12_drawOf M) v1 3) ≤ (fX12_drawOf M 4) then (fmX12_drawOf M) else (mset (fmX12_drawOf M) 66 42 (m_or ((fmX12_drawOf M) 66 42) (m_shl 1 v1))))))) (lmX12_lot_7 k (v1 + 1) (if (fX12_personOf (fmX12_drawOf M) v1 3) ≤ (fX12_drawOf M 4) then (fmX12_drawOf M) else (mset (fmX12_drawOf M) 66 42 (m_or ((fmX12_drawOf M) 66 42) (m_shl 1 v1))))) := hQ
    have hs : ((nX12_drawOf 4)) ∧ ((nX12_personOf v1 3)) ∧ ((nlX12_lot_7 k (v1 + 1) (if (fX12_personOf (fmX12_drawOf M) v1 3) ≤ (fX12_drawOf M 4) then (fmX12_drawOf M) else (mset (fmX12_drawOf M) 66 42 (m_or ((fmX12_drawOf M) 66 42) (m_shl 1 v1)))))) := hs
    obtain ⟨n1, n2, n3⟩ := hs
    refine T_iload_n (i := 1) (pc' := 8) dX12_lot_7 rfl rfl rfl ?_
    refine T_aload_n (i := 0) (pc' := 9) dX12_lot_8 rfl rfl rfl ?_
    refine T_callV (av := []) (st := [(0, v1)]) (d2 := 1) (nc2 := 0) (ns2 := 0) (pc' := 12) dX12_lot_9 rfl mtX12_peopleMany mvX12_peopleMany mlX12_349 cl12 rfl rfl rfl (Nat.le_of_ble_eq_true rfl) (by decide) ⟨by decide, by decide⟩ rfl (pX12_peopleMany (E := E) (h := h) (M := M) hG) (kF (st2 := [(0, (fX12_peopleMany M)), (0, v1)]) rfl (fun hG1 => ?_))
    refine T_rng (fun _ z9 _ => ?_)
    have hB : r32 (fX12_peopleMany M) := (ok_cons.mp z9).1
    unfold r32 at hB
    refine T_icmp_ge (pc' := 47) dX12_lot_12 (by decide) (pf := 15) rfl (fun c2 => ?_) (fun c2 => ?_)
    · exact absurd c2 (by omega)
    · skip
      have hw : wr32 (v1 + 1) = v1 + 1 := wr32_id (by unfold r32; omega)
      refine T_aload_n (i := 0) (pc' := 16) dX12_lot_15 rfl rfl rfl ?_
      refine T_iconst (pc' := 17) dX12_lot_16 (by decide) rfl ?_
      refine T_callV (av := [(0, 4)]) (st := []) (d2 := 1) (nc2 := 0) (ns2 := 0) (pc' := 20) dX12_lot_17 rfl mtX12_drawOf mvX12_drawOf mlX12_495 cl12 rfl rfl rfl (Nat.le_of_ble_eq_true rfl) (by decide) ⟨by decide, by decide⟩ rfl (pX12_drawOf (E := E) (h := h) (M := M) (v1 := 4) (n1) hG) (kF (st2 := [(0, (fX12_drawOf M 4))]) rfl (fun hG3 => ?_))
      refine T_aload_n (i := 0) (pc' := 21) dX12_lot_20 rfl rfl rfl ?_
      refine T_iload_n (i := 1) (pc' := 22) dX12_lot_21 rfl rfl rfl ?_
      refine T_iconst (pc' := 23) dX12_lot_22 (by decide) rfl ?_
      refine T_callV (av := [(0, v1), (0, 3)]) (st := [(0, (fX12_drawOf M 4))]) (d2 := 1) (nc2 := 0) (ns2 := 0) (pc' := 26) dX12_lot_23 rfl mtX12_personOf mvX12_personOf mlX12_373 cl12 rfl rfl rfl (Nat.le_of_ble_eq_true rfl) (by decide) ⟨by decide, by decide⟩ rfl (pX12_personOf (E := E) (h := h) (M := (fmX12_drawOf M)) (v1 := v1) (v2 := 3) (n2) (gX12_drawOf (h := h) (M := M) (v1 := 4) hG)) (kF (st2 := [(0, (fX12_personOf (fmX12_drawOf M) v1 3)), (0, (fX12_drawOf M 4))]) rfl (fun hG4 => ?_))
      have HJ5 : T E miX12_lot 2 126 0 0 (fun r S M' => S = S0 ∧ G h M' ∧ Q r M') 41 [(2, 66), (0, v1)] [] S0 (if (fX12_personOf (fmX12_drawOf M) v1 3) ≤ (fX12_drawOf M 4) then (fmX12_drawOf M) else (mset (fmX12_drawOf M) 66 42 (m_or ((fmX12_drawOf M) 66 42) (m_shl 1 v1)))) 0 0 := by
        refine T_iinc (L' := [(2, 66), (0, (wr32 (v1 + 1)))]) (pc' := 44) dX12_lot_41 rfl (by decide) rfl rfl ?_
        refine T_goto (pc' := 7) dX12_lot_44 (by decide) ?_
        rw [hw]
        have hp0 : (if (fX12_personOf (fmX12_drawOf M) v1 3) ≤ (fX12_drawOf M 4) then (fmX12_drawOf M) else (mset (fmX12_drawOf M) 66 42 (m_or ((fmX12_drawOf M) 66 42) (m_shl 1 v1)))) 85 = M 85 := by
          exact (ite_q ((frX12_drawOf (by first | decide | (unfold isG at *; omega) | exact rowne (by unfold isG at *; omega) (by unfold isG at *; omega) (by unfold isG at *; omega))).trans rfl) ((mset_p (by first | decide | (unfold isG at *; omega) | exact rowne (by unfold isG at *; omega) (by unfold isG at *; omega) (by unfold isG at *; omega))).trans ((frX12_drawOf (by first | decide | (unfold isG at *; omega) | exact rowne (by unfold isG at *; omega) (by unfold isG at *; omega) (by unfold isG at *; omega))).trans rfl)))
        have hbd : (fX12_peopleMany (if (fX12_personOf (fmX12_drawOf M) v1 3) ≤ (fX12_drawOf M 4) then (fmX12_drawOf M) else (mset (fmX12_drawOf M) 66 42 (m_or ((fmX12_drawOf M) 66 42) (m_shl 1 v1))))) = (fX12_peopleMany M) := by
          simp only [fX12_peopleMany, hp0]
        exact T_wk (ih (v1 + 1) _ (by omega) (by rw [hbd]; omega) (n3) hQ (G_ite (gX12_drawOf (h := h) (M := M) (v1 := 4) hG) (G_fld (x := 66) (i := 42) (y := (m_or ((fmX12_drawOf M) 66 42) (m_shl 1 v1))) rfl (by decide) (by decide) (by decide) (gX12_drawOf (h := h) (M := M) (v1 := 4) hG)))) ⟨Or.inr rfl, Or.inr rfl, trivial⟩
      refine T_icmp_ge (pc' := 41) dX12_lot_26 (by decide) (pf := 29) rfl (fun c6 => ?_) (fun c6 => ?_)
      · skip
        exact T_wk (L' := [(2, 66), (0, v1)]) (by have q := HJ5; try simp only [if_pos c6] at q; exact q) ⟨Or.inr rfl, Or.inr rfl, trivial⟩
      · skip
        refine T_aload_n (i := 0) (pc' := 30) dX12_lot_29 rfl rfl rfl ?_
        refine T_dup (pc' := 31) dX12_lot_30 (Nat.ne_of_beq_eq_false rfl) rfl ?_
        refine U_gf (v := (0, ((fmX12_drawOf M) 66 42))) (k := 42) (kI := 42) (pc' := 34) dX12_lot_31 rfl cl12 (by decide) rfl (by decide) flX12_340 rfl rfl (by decide) rfl rfl ?_
        refine T_iconst (pc' := 35) dX12_lot_34 (by decide) rfl ?_
        refine T_iload_n (i := 1) (pc' := 36) dX12_lot_35 rfl rfl rfl ?_
        refine T_ishl (pc' := 37) dX12_lot_36 rfl ?_
        refine T_ior (pc' := 38) dX12_lot_37 rfl ?_
        refine U_pf (y := (m_or ((fmX12_drawOf M) 66 42) (m_shl 1 v1))) (k := 42) (kI := 42) (pc' := 41) dX12_lot_38 rfl cl12 (by decide) rfl (by decide) flX12_340 rfl rfl rfl rfl rfl (by decide) (fun z => z) rfl ?_
        exact T_wk (L' := [(2, 66), (0, v1)]) (by have q := HJ5; try simp only [if_neg c6] at q; exact q) ⟨Or.inr rfl, Or.inr rfl, trivial⟩
def fX12_lot (M : Mem) : Int :=
  (lX12_lot_7 ((((fX12_peopleMany (mset M 66 42 0))) : Int) - 0).toNat 0 (mset M 66 42 0))
def fmX12_lot (M : Mem) : Mem :=
  (lmX12_lot_7 ((((fX12_peopleMany (mset M 66 42 0))) : Int) - 0).toNat 0 (mset M 66 42 0))
def nX12_lot (M : Mem) : Prop :=
  ((nlX12_lot_7 ((((fX12_peopleMany (mset M 66 42 0))) : Int) - 0).toNat 0 (mset M 66 42 0)))
theorem frX12_lot {M : Mem} {q : Int} (hq0 : q ≠ 66) : (fmX12_lot M) q = M q := by
  unfold fmX12_lot
  exact ((frlX12_lot_7 hq0).trans ((mset_p hq0).trans rfl))
theorem gX12_lot {h : Int} {M : Mem}   (hG : G h M) : G h (fmX12_lot M) := by
  unfold fmX12_lot
  exact (glX12_lot_7 (G_fld (x := 66) (i := 42) (y := 0) rfl (by decide) (by decide) (by decide) hG))
set_option maxRecDepth 100000 in
theorem pX12_lot {E : EV} {h : Int} {M : Mem}  (hs : (nX12_lot M)) : C2 E miX12_lot 2 h [(2, 66)] M (fun r M' => r = some (0, (fX12_lot M)) ∧ M' = (fmX12_lot M)) := by
  obtain ⟨Q, hQ0⟩ : ∃ Q : Option MV → Mem → Prop, Q = (fun r M' => r = some (0, (fX12_lot M)) ∧ M' = (fmX12_lot M)) := ⟨_, rfl⟩
  rw [← hQ0]
  have hQ : Q (some (0, (lX12_lot_7 ((((fX12_peopleMany (mset M 66 42 0))) : Int) - 0).toNat 0 (mset M 66 42 0)))) (lmX12_lot_7 ((((fX12_peopleMany (mset M 66 42 0))) : Int) - 0).toNat 0 (mset M 66 42 0)) := by rw [hQ0]; exact ⟨rfl, rfl⟩
  have o1 := hs
  refine C2_of (L := [(2, 66), (3, 0)]) (by decide +kernel) (Nat.le_of_ble_eq_true rfl) rfl (fun hG => ?_)
  refine T_aload_n (i := 0) (pc' := 1) dX12_lot_0 rfl rfl rfl ?_
  refine T_iconst (pc' := 2) dX12_lot_1 (by decide) rfl ?_
  refine U_pf (y := 0) (k := 42) (kI := 42) (pc' := 5) dX12_lot_2 rfl cl12 (by decide) rfl (by decide) flX12_340 rfl rfl rfl rfl rfl (by decide) (fun z => z) rfl ?_
  refine T_iconst (pc' := 6) dX12_lot_5 (by decide) rfl ?_
  refine T_istore_n (i := 1) (L' := [(2, 66), (0, 0)]) (pc' := 7) dX12_lot_6 rfl (by decide) rfl rfl ?_
  exact T_wk (qX12_lot_7  _ 0 _ (by first | decide | omega) rfl (o1) hQ (G_fld (x := 66) (i := 42) (y := 0) rfl (by decide) (by decide) (by decide) hG)) ⟨Or.inr rfl, Or.inr rfl, trivial⟩
def lmX12_dares_2  : Nat → Int → Int → Mem → Mem
  | 0, v1, v2, M => M
  | k + 1, v1, v2, M => (lmX12_dares_2 k v1 (v2 + 1) (fmX12_makes M v2 2 (if (m_and (m_shr v1 v2) 1) = 1 then (1 : Int) else (M 101 v2))))
theorem frlX12_dares_2  {q : Int} (hq0 : q ≠ 88) : ∀ {k : Nat} {v1 v2 : Int} {M : Mem}, (lmX12_dares_2  k v1 v2 M) q = M q := by
  intro k
  induction k with
  | zero =>
    intro v1 v2 M
    show M q = M q
    exact rfl
  | succ k ih =>
    intro v1 v2 M
    show (lmX12_dares_2 k v1 (v2 + 1) (fmX12_makes M v2 2 (if (m_and (m_shr v1 v2) 1) = 1 then (1 : Int) else (M 101 v2)))) q = M q
    exact ((ih).trans ((frX12_makes hq0).trans rfl))
theorem glX12_dares_2 {h : Int}   : ∀ {k : Nat} {v1 v2 : Int} {M : Mem}, G h M → G h (lmX12_dares_2  k v1 v2 M) := by
  intro k
  induction k with
  | zero =>
    intro v1 v2 M hG
    show G h M
    exact hG
  | succ k ih =>
    intro v1 v2 M hG
    show G h (lmX12_dares_2 k v1 (v2 + 1) (fmX12_makes M v2 2 (if (m_and (m_shr v1 v2) 1) = 1 then (1 : Int) else (M 101 v2))))
    exact (ih (gX12_makes (h := h) (M := M) (v1 := v2) (v2 := 2) (v3 := (if (m_and (m_shr v1 v2) 1) = 1 then (1 : Int) else (M 101 v2))) hG))
def nlX12_dares_2  : Nat → Int → Int → Mem → Prop
  | 0, v1, v2, M => True
  | k + 1, v1, v2, M => ((nX12_makes v2 2)) ∧ (¬ ((m_and (m_shr v1 v2) 1) = 1) → 0 ≤ v2 ∧ v2 < 9) ∧ ((nlX12_dares_2 k v1 (v2 + 1) (fmX12_makes M v2 2 (if (m_and (m_shr v1 v2) 1) = 1 then (1 : Int) else (M 101 v2)))))
set_option maxRecDepth 100000 in
set_option maxHeartbeats 2000000 in
theorem qX12_dares_2 {E : EV} {h : Int} {Q : Option MV → Mem → Prop}   : ∀ (k : Nat) (v1 v2 : Int) (M : Mem), 0 ≤ v2 → (((fX12_peopleMany M)) - v2).toNat = k → (nlX12_dares_2 k v1 v2 M) → Q none (lmX12_dares_2 k v1 v2 M) → G h M → TG E miX12_dares 2 h Q 2 [(2, 66), (0, v1), (0, v2)] [] M := by
  intro k
  induction k with
  | zero =>
    intro v1 v2 M hv0 hk hs hQ hG
    have hQ : Q none M := hQ
    have hs : True := hs
    refine T_iload_n (i := 2) (pc' := 3) dX12_dares_2 rfl rfl rfl ?_
    refine T_aload_n (i := 0) (pc' := 4) dX12_dares_3 rfl rfl rfl ?_
    refine T_callV (av := []) (st := [(0, v2)]) (d2 := 1) (nc2 := 0) (ns2 := 0) (pc' := 7) dX12_dares_4 rfl mtX12_peopleMany mvX12_peopleMany mlX12_349 cl12 rfl rfl rfl (Nat.le_of_ble_eq_true rfl) (by decide) ⟨by decide, by decide⟩ rfl (pX12_peopleMany (E := E) (h := h) (M := M) hG) (kF (st2 := [(0, (fX12_peopleMany M)), (0, v2)]) rfl (fun hG1 => ?_))
    refine T_rng (fun _ z9 _ => ?_)
    have hB : r32 (fX12_peopleMany M) := (ok_cons.mp z9).1
    unfold r32 at hB
    refine T_icmp_ge (pc' := 41) dX12_dares_7 (by decide) (pf := 10) rfl (fun c2 => ?_) (fun c2 => ?_)
    · skip
      exact T_vret dX12_dares_41 rfl ⟨rfl, hG, hQ⟩
    · exact absurd c2 (by omega)
  | succ k ih =>
    intro v1 v2 M hv0 hk hs hQ hG
    have hQ : Q none (lmX12_dares_2 k v1 (v2 + 1) (fmX12_makes M v2 2 (if (m_and (m_shr v1 v2) 1) = 1 then (1 : Int) else (M 101 v2)))) := hQ
    have hs : ((nX12_makes v2 2)) ∧ (¬ ((m_and (m_shr v1 v2) 1) = 1) → 0 ≤ v2 ∧ v2 < 9) ∧ ((nlX12_dares_2 k v1 (v2 + 1) (fmX12_makes M v2 2 (if (m_and (m_shr v1 v2) 1) = 1 then (1 : Int) else (M 101 v2))))) := hs
    obtain ⟨n1, n2, n3⟩ := hs
    refine T_iload_n (i := 2) (pc' := 3) dX12_dares_2 rfl rfl rfl ?_
    refine T_aload_n (i := 0) (pc' := 4) dX12_dares_3 rfl rfl rfl ?_
    refine T_callV (av := []) (st := [(0, v2)]) (d2 := 1) (nc2 := 0) (ns2 := 0) (pc' := 7) dX12_dares_4 rfl mtX12_peopleMany mvX12_peopleMany mlX12_349 cl12 rfl rfl rfl (Nat.le_of_ble_eq_true rfl) (by decide) ⟨by decide, by decide⟩ rfl (pX12_peopleMany (E := E) (h := h) (M := M) hG) (kF (st2 := [(0, (fX12_peopleMany M)), (0, v2)]) rfl (fun hG1 => ?_))
    refine T_rng (fun _ z9 _ => ?_)
    have hB : r32 (fX12_peopleMany M) := (ok_cons.mp z9).1
    unfold r32 at hB
    refine T_icmp_ge (pc' := 41) dX12_dares_7 (by decide) (pf := 10) rfl (fun c2 => ?_) (fun c2 => ?_)
    · exact absurd c2 (by omega)
    · skip
      have hw : wr32 (v2 + 1) = v2 + 1 := wr32_id (by unfold r32; omega)
      refine T_aload_n (i := 0) (pc' := 11) dX12_dares_10 rfl rfl rfl ?_
      refine T_iload_n (i := 2) (pc' := 12) dX12_dares_11 rfl rfl rfl ?_
      refine T_iconst (pc' := 13) dX12_dares_12 (by decide) rfl ?_
      refine T_iload_n (i := 1) (pc' := 14) dX12_dares_13 rfl rfl rfl ?_
      refine T_iload_n (i := 2) (pc' := 15) dX12_dares_14 rfl rfl rfl ?_
      refine T_ishr (pc' := 16) dX12_dares_15 rfl ?_
      refine T_iconst (pc' := 17) dX12_dares_16 (by decide) rfl ?_
      refine T_iand (pc' := 18) dX12_dares_17 rfl ?_
      refine T_iconst (pc' := 19) dX12_dares_18 (by decide) rfl ?_
      have HJ3 : T E miX12_dares 2 126 0 0 (fun r S M' => S = S0 ∧ G h M' ∧ Q r M') 32 [(2, 66), (0, v1), (0, v2)] [(0, (if (m_and (m_shr v1 v2) 1) = 1 then (1 : Int) else (M 101 v2))), (0, 2), (0, v2), (2, 66)] S0 M 0 0 := by
        refine T_callV (av := [(0, v2), (0, 2), (0, (if (m_and (m_shr v1 v2) 1) = 1 then (1 : Int) else (M 101 v2)))]) (st := []) (d2 := 1) (nc2 := 0) (ns2 := 0) (pc' := 35) dX12_dares_32 rfl mtX12_makes mvX12_makes mlX12_473 cl12 rfl rfl rfl (Nat.le_of_ble_eq_true rfl) (by decide) ⟨by decide, by decide⟩ rfl (pX12_makes (E := E) (h := h) (M := M) (v1 := v2) (v2 := 2) (v3 := (if (m_and (m_shr v1 v2) 1) = 1 then (1 : Int) else (M 101 v2))) (n1) hG) (kF (st2 := []) rfl (fun hG4 => ?_))
        refine T_iinc (L' := [(2, 66), (0, v1), (0, (wr32 (v2 + 1)))]) (pc' := 38) dX12_dares_35 rfl (by decide) rfl rfl ?_
        refine T_goto (pc' := 2) dX12_dares_38 (by decide) ?_
        rw [hw]
        have hp0 : (fmX12_makes M v2 2 (if (m_and (m_shr v1 v2) 1) = 1 then (1 : Int) else (M 101 v2))) 85 = M 85 := by
          exact ((frX12_makes (by first | decide | (unfold isG at *; omega) | exact rowne (by unfold isG at *; omega) (by unfold isG at *; omega) (by unfold isG at *; omega))).trans rfl)
        have hbd : (fX12_peopleMany (fmX12_makes M v2 2 (if (m_and (m_shr v1 v2) 1) = 1 then (1 : Int) else (M 101 v2)))) = (fX12_peopleMany M) := by
          simp only [fX12_peopleMany, hp0]
        exact T_wk (ih _ (v2 + 1) _ (by omega) (by rw [hbd]; omega) (n3) hQ (gX12_makes (h := h) (M := M) (v1 := v2) (v2 := 2) (v3 := (if (m_and (m_shr v1 v2) 1) = 1 then (1 : Int) else (M 101 v2))) hG)) ⟨Or.inr rfl, Or.inr rfl, Or.inr rfl, trivial⟩
      refine T_icmp_ne (pc' := 26) dX12_dares_19 (by decide) (pf := 22) rfl (fun c5 => ?_) (fun c5 => ?_)
      · skip
        refine T_aload_n (i := 0) (pc' := 27) dX12_dares_26 rfl rfl rfl ?_
        refine U_gr (q := 101) (k := 57) (kI := 57) (pc' := 30) dX12_dares_27 rfl cl12 (by decide) rfl (by decide) flX12_123 rfl rfl rfl (G_at hG 101 rfl) (by decide) rfl ?_
        refine T_iload_n (i := 2) (pc' := 31) dX12_dares_30 rfl rfl rfl ?_
        refine T_iald (pc' := 32) dX12_dares_31 (by decide) rfl (n2 c5).1 (n2 c5).2 rfl ?_
        exact T_wk (L' := [(2, 66), (0, v1), (0, v2)]) (by have q := HJ3; try simp only [if_neg c5] at q; exact q) ⟨Or.inr rfl, Or.inr rfl, Or.inr rfl, trivial⟩
      · skip
        refine T_iconst (pc' := 23) dX12_dares_22 (by decide) rfl ?_
        refine T_goto (pc' := 32) dX12_dares_23 (by decide) ?_
        exact T_wk (L' := [(2, 66), (0, v1), (0, v2)]) (by have q := HJ3; try simp only [if_pos c5] at q; exact q) ⟨Or.inr rfl, Or.inr rfl, Or.inr rfl, trivial⟩
def fmX12_dares (M : Mem) (v1 : Int) : Mem :=
  (lmX12_dares_2 ((((fX12_peopleMany M)) : Int) - 0).toNat v1 0 M)
def nX12_dares (M : Mem) (v1 : Int) : Prop :=
  ((nlX12_dares_2 ((((fX12_peopleMany M)) : Int) - 0).toNat v1 0 M))
theorem frX12_dares {M : Mem} {v1 : Int} {q : Int} (hq0 : q ≠ 88) : (fmX12_dares M v1) q = M q := by
  unfold fmX12_dares
  exact ((frlX12_dares_2 hq0).trans rfl)
theorem gX12_dares {h : Int} {M : Mem} {v1 : Int}  (hG : G h M) : G h (fmX12_dares M v1) := by
  unfold fmX12_dares
  exact (glX12_dares_2 hG)
set_option maxRecDepth 100000 in
theorem pX12_dares {E : EV} {h : Int} {M : Mem} {v1 : Int} (hs : (nX12_dares M v1)) : C2 E miX12_dares 2 h [(2, 66), (0, v1)] M (fun r M' => r = none ∧ M' = (fmX12_dares M v1)) := by
  obtain ⟨Q, hQ0⟩ : ∃ Q : Option MV → Mem → Prop, Q = (fun r M' => r = none ∧ M' = (fmX12_dares M v1)) := ⟨_, rfl⟩
  rw [← hQ0]
  have hQ : Q none (lmX12_dares_2 ((((fX12_peopleMany M)) : Int) - 0).toNat v1 0 M) := by rw [hQ0]; exact ⟨rfl, rfl⟩
  have o1 := hs
  refine C2_of (L := [(2, 66), (0, v1), (3, 0)]) (by decide +kernel) (Nat.le_of_ble_eq_true rfl) rfl (fun hG => ?_)
  refine T_iconst (pc' := 1) dX12_dares_0 (by decide) rfl ?_
  refine T_istore_n (i := 2) (L' := [(2, 66), (0, v1), (0, 0)]) (pc' := 2) dX12_dares_1 rfl (by decide) rfl rfl ?_
  exact T_wk (qX12_dares_2  _ v1 0 _ (by first | decide | omega) rfl (o1) hQ hG) ⟨Or.inr rfl, Or.inr rfl, Or.inr rfl, trivial⟩
def fX12_isSooner (v1 : Int) (v2 : Int) : Int :=
  (if v1 = (-1) then (0 : Int) else (if v2 = (-1) then (1 : Int) else (if v2 ≤ v1 then (0 : Int) else 1)))
set_option maxRecDepth 100000 in
theorem pX12_isSooner {E : EV} {h : Int} {M : Mem} {v1 : Int} {v2 : Int}  : C2 E miX12_isSooner 1 h [(2, 66), (0, v1), (0, v2)] M (fun r M' => r = some (0, (fX12_isSooner v1 v2)) ∧ M' = M) := by
  obtain ⟨Q, hQ⟩ : ∃ Q : Option MV → Mem → Prop, Q = (fun r M' => r = some (0, (fX12_isSooner v1 v2)) ∧ M' = M) := ⟨_, rfl⟩
  rw [← hQ]
  refine C2_of (L := [(2, 66), (0, v1), (0, v2)]) (by decide +kernel) (Nat.le_of_ble_eq_true rfl) rfl (fun hG => ?_)
  refine T_iload_n (i := 1) (pc' := 1) dX12_isSooner_0 rfl rfl rfl ?_
  refine T_iconst (pc' := 2) dX12_isSooner_1 (by decide) rfl ?_
  have HJ1 : T E miX12_isSooner 1 126 0 0 (fun r S M' => S = S0 ∧ G h M' ∧ Q r M') 20 [(3, 0), (3, 0), (3, 0)] [(0, (if v1 = (-1) then (0 : Int) else (if v2 = (-1) then (1 : Int) else (if v2 ≤ v1 then (0 : Int) else 1))))] S0 M 0 0 := by
    exact T_zret dX12_isSooner_20 rfl (by repeat' (first | apply bi | exact Or.inl rfl | exact Or.inr rfl)) ⟨rfl, hG, (by rw [hQ]; exact ⟨rfl, rfl⟩)⟩
  refine T_icmp_eq (pc' := 19) dX12_isSooner_2 (by decide) (pf := 5) rfl (fun c2 => ?_) (fun c2 => ?_)
  · skip
    refine T_iconst (pc' := 20) dX12_isSooner_19 (by decide) rfl ?_
    exact T_wk (L' := [(3, 0), (3, 0), (3, 0)]) (by have q := HJ1; try simp only [if_pos c2] at q; exact q) ⟨Or.inl rfl, Or.inl rfl, Or.inl rfl, trivial⟩
  · skip
    refine T_iload_n (i := 2) (pc' := 6) dX12_isSooner_5 rfl rfl rfl ?_
    refine T_iconst (pc' := 7) dX12_isSooner_6 (by decide) rfl ?_
    refine T_icmp_eq (pc' := 15) dX12_isSooner_7 (by decide) (pf := 10) rfl (fun c3 => ?_) (fun c3 => ?_)
    · skip
      refine T_iconst (pc' := 16) dX12_isSooner_15 (by decide) rfl ?_
      refine T_goto (pc' := 20) dX12_isSooner_16 (by decide) ?_
      exact T_wk (L' := [(3, 0), (3, 0), (3, 0)]) (by have q := HJ1; try simp only [if_neg c2] at q; try simp only [if_pos c3] at q; exact q) ⟨Or.inl rfl, Or.inl rfl, Or.inl rfl, trivial⟩
    · skip
      refine T_iload_n (i := 1) (pc' := 11) dX12_isSooner_10 rfl rfl rfl ?_
      refine T_iload_n (i := 2) (pc' := 12) dX12_isSooner_11 rfl rfl rfl ?_
      refine T_icmp_ge (pc' := 19) dX12_isSooner_12 (by decide) (pf := 15) rfl (fun c4 => ?_) (fun c4 => ?_)
      · skip
        refine T_iconst (pc' := 20) dX12_isSooner_19 (by decide) rfl ?_
        exact T_wk (L' := [(3, 0), (3, 0), (3, 0)]) (by have q := HJ1; try simp only [if_neg c2] at q; try simp only [if_neg c3] at q; try simp only [if_pos c4] at q; exact q) ⟨Or.inl rfl, Or.inl rfl, Or.inl rfl, trivial⟩
      · skip
        refine T_iconst (pc' := 16) dX12_isSooner_15 (by decide) rfl ?_
        refine T_goto (pc' := 20) dX12_isSooner_16 (by decide) ?_
        exact T_wk (L' := [(3, 0), (3, 0), (3, 0)]) (by have q := HJ1; try simp only [if_neg c2] at q; try simp only [if_neg c3] at q; try simp only [if_neg c4] at q; exact q) ⟨Or.inl rfl, Or.inl rfl, Or.inl rfl, trivial⟩
theorem fbX12_isSooner (v1 : Int) (v2 : Int) : (fX12_isSooner v1 v2) = 0 ∨ (fX12_isSooner v1 v2) = 1 := by
  unfold fX12_isSooner
  repeat' (first | apply bi | exact Or.inl rfl | exact Or.inr rfl)
def fmX12_qCode (M : Mem) (v1 : Int) : Mem :=
  (mset (mset M 122 (M 66 79) v1) 66 79 (wr32 (((mset M 122 (M 66 79) v1) 66 79) + 1)))
def nX12_qCode (M : Mem) : Prop :=
  (0 ≤ (M 66 79) ∧ (M 66 79) < 1700)
theorem gX12_qCode {h : Int} {M : Mem} {v1 : Int}  (hG : G h M) : G h (fmX12_qCode M v1) := by
  unfold fmX12_qCode
  exact (G_fld (x := 66) (i := 79) (y := (wr32 (((mset M 122 (M 66 79) v1) 66 79) + 1))) rfl (by decide) (by decide) (by decide) (G_arr (x := 122) (i := (M 66 79)) (y := v1) rfl (by decide) hG))
set_option maxRecDepth 100000 in
theorem pX12_qCode {E : EV} {h : Int} {M : Mem} {v1 : Int} (hs : (nX12_qCode M)) : C2 E miX12_qCode 1 h [(2, 66), (0, v1)] M (fun r M' => r = none ∧ M' = (fmX12_qCode M v1)) := by
  obtain ⟨Q, hQ⟩ : ∃ Q : Option MV → Mem → Prop, Q = (fun r M' => r = none ∧ M' = (fmX12_qCode M v1)) := ⟨_, rfl⟩
  rw [← hQ]
  have o1 := hs
  refine C2_of (L := [(2, 66), (0, v1)]) (by decide +kernel) (Nat.le_of_ble_eq_true rfl) rfl (fun hG => ?_)
  refine T_aload_n (i := 0) (pc' := 1) dX12_qCode_0 rfl rfl rfl ?_
  refine U_gr (q := 122) (k := 78) (kI := 78) (pc' := 4) dX12_qCode_1 rfl cl12 (by decide) rfl (by decide) flX12_186 rfl rfl rfl (G_at hG 122 rfl) (by decide) rfl ?_
  refine T_aload_n (i := 0) (pc' := 5) dX12_qCode_4 rfl rfl rfl ?_
  refine U_gf (v := (0, (M 66 79))) (k := 79) (kI := 79) (pc' := 8) dX12_qCode_5 rfl cl12 (by decide) rfl (by decide) flX12_517 rfl rfl (by decide) rfl rfl ?_
  refine T_iload_n (i := 1) (pc' := 9) dX12_qCode_8 rfl rfl rfl ?_
  refine T_iast (pc' := 10) dX12_qCode_9 (by decide) rfl (o1).1 (o1).2 rfl ?_
  refine T_aload_n (i := 0) (pc' := 11) dX12_qCode_10 rfl rfl rfl ?_
  refine T_dup (pc' := 12) dX12_qCode_11 (Nat.ne_of_beq_eq_false rfl) rfl ?_
  refine U_gf (v := (0, ((mset M 122 (M 66 79) v1) 66 79))) (k := 79) (kI := 79) (pc' := 15) dX12_qCode_12 rfl cl12 (by decide) rfl (by decide) flX12_517 rfl rfl (by decide) rfl rfl ?_
  refine T_iconst (pc' := 16) dX12_qCode_15 (by decide) rfl ?_
  refine T_iadd (pc' := 17) dX12_qCode_16 rfl ?_
  refine U_pf (y := (wr32 (((mset M 122 (M 66 79) v1) 66 79) + 1))) (k := 79) (kI := 79) (pc' := 20) dX12_qCode_17 rfl cl12 (by decide) rfl (by decide) flX12_517 rfl rfl rfl rfl rfl (by decide) (fun z => z) rfl ?_
  exact T_vret dX12_qCode_20 rfl ⟨rfl, (G_fld (x := 66) (i := 79) (y := (wr32 (((mset M 122 (M 66 79) v1) 66 79) + 1))) rfl (by decide) (by decide) (by decide) (G_arr (x := 122) (i := (M 66 79)) (y := v1) rfl (by decide) hG)), (by rw [hQ]; exact ⟨rfl, rfl⟩)⟩
theorem frX12_qCode {M : Mem} {v1 : Int} {q : Int} (hq0 : q ≠ 122) (hq1 : q ≠ 66) : (fmX12_qCode M v1) q = M q := by
  unfold fmX12_qCode
  exact ((mset_p hq1).trans ((mset_p hq0).trans rfl))
def fmX12_qOpens (M : Mem) (v1 : Int) (v2 : Int) : Mem :=
  (if (M 66 5) = 0 then (if (M 66 82) = 6 then (fmX12_fail M 4 v2) else (mset (mset (mset M 66 82 (wr32 ((M 66 82) + 1))) 123 ((mset M 66 82 (wr32 ((M 66 82) + 1))) 66 81) v1) 66 81 (wr32 (((mset (mset M 66 82 (wr32 ((M 66 82) + 1))) 123 ((mset M 66 82 (wr32 ((M 66 82) + 1))) 66 81) v1) 66 81) + 1)))) else M)
def nX12_qOpens (M : Mem) : Prop :=
  ((M 66 5) = 0 → ¬ ((M 66 82) = 6) → 0 ≤ ((mset M 66 82 (wr32 ((M 66 82) + 1))) 66 81) ∧ ((mset M 66 82 (wr32 ((M 66 82) + 1))) 66 81) < 1700)
theorem gX12_qOpens {h : Int} {M : Mem} {v1 : Int} {v2 : Int}  (hG : G h M) : G h (fmX12_qOpens M v1 v2) := by
  unfold fmX12_qOpens
  exact (G_ite (G_ite (gX12_fail (h := h) (M := M) (v1 := 4) (v2 := v2) hG) (G_fld (x := 66) (i := 81) (y := (wr32 (((mset (mset M 66 82 (wr32 ((M 66 82) + 1))) 123 ((mset M 66 82 (wr32 ((M 66 82) + 1))) 66 81) v1) 66 81) + 1))) rfl (by decide) (by decide) (by decide) (G_arr (x := 123) (i := ((mset M 66 82 (wr32 ((M 66 82) + 1))) 66 81)) (y := v1) rfl (by decide) (G_fld (x := 66) (i := 82) (y := (wr32 ((M 66 82) + 1))) rfl (by decide) (by decide) (by decide) hG)))) hG)
set_option maxRecDepth 100000 in
theorem pX12_qOpens {E : EV} {h : Int} {M : Mem} {v1 : Int} {v2 : Int} (hs : (nX12_qOpens M)) : C2 E miX12_qOpens 2 h [(2, 66), (0, v1), (0, v2)] M (fun r M' => r = none ∧ M' = (fmX12_qOpens M v1 v2)) := by
  obtain ⟨Q, hQ⟩ : ∃ Q : Option MV → Mem → Prop, Q = (fun r M' => r = none ∧ M' = (fmX12_qOpens M v1 v2)) := ⟨_, rfl⟩
  rw [← hQ]
  have o1 := hs
  refine C2_of (L := [(2, 66), (0, v1), (0, v2)]) (by decide +kernel) (Nat.le_of_ble_eq_true rfl) rfl (fun hG => ?_)
  refine T_aload_n (i := 0) (pc' := 1) dX12_qOpens_0 rfl rfl rfl ?_
  refine U_gf (v := (0, (M 66 5))) (k := 5) (kI := 5) (pc' := 4) dX12_qOpens_1 rfl cl12 (by decide) rfl (by decide) flX12_201 rfl rfl (by decide) rfl rfl ?_
  refine T_if_eq (pc' := 8) dX12_qOpens_4 (by decide) (pf := 7) rfl (fun c1 => ?_) (fun c1 => ?_)
  · skip
    refine T_aload_n (i := 0) (pc' := 9) dX12_qOpens_8 rfl rfl rfl ?_
    refine U_gf (v := (0, (M 66 82))) (k := 82) (kI := 82) (pc' := 12) dX12_qOpens_9 rfl cl12 (by decide) rfl (by decide) flX12_520 rfl rfl (by decide) rfl rfl ?_
    refine T_bipush (pc' := 14) dX12_qOpens_12 rfl (by decide) rfl ?_
    refine T_icmp_ne (pc' := 24) dX12_qOpens_14 (by decide) (pf := 17) rfl (fun c2 => ?_) (fun c2 => ?_)
    · skip
      refine T_aload_n (i := 0) (pc' := 25) dX12_qOpens_24 rfl rfl rfl ?_
      refine T_dup (pc' := 26) dX12_qOpens_25 (Nat.ne_of_beq_eq_false rfl) rfl ?_
      refine U_gf (v := (0, (M 66 82))) (k := 82) (kI := 82) (pc' := 29) dX12_qOpens_26 rfl cl12 (by decide) rfl (by decide) flX12_520 rfl rfl (by decide) rfl rfl ?_
      refine T_iconst (pc' := 30) dX12_qOpens_29 (by decide) rfl ?_
      refine T_iadd (pc' := 31) dX12_qOpens_30 rfl ?_
      refine U_pf (y := (wr32 ((M 66 82) + 1))) (k := 82) (kI := 82) (pc' := 34) dX12_qOpens_31 rfl cl12 (by decide) rfl (by decide) flX12_520 rfl rfl rfl rfl rfl (by decide) (fun z => z) rfl ?_
      refine T_aload_n (i := 0) (pc' := 35) dX12_qOpens_34 rfl rfl rfl ?_
      refine U_gr (q := 123) (k := 80) (kI := 80) (pc' := 38) dX12_qOpens_35 rfl cl12 (by decide) rfl (by decide) flX12_189 rfl rfl rfl (G_at (G_fld (x := 66) (i := 82) (y := (wr32 ((M 66 82) + 1))) rfl (by decide) (by decide) (by decide) hG) 123 rfl) (by decide) rfl ?_
      refine T_aload_n (i := 0) (pc' := 39) dX12_qOpens_38 rfl rfl rfl ?_
      refine U_gf (v := (0, ((mset M 66 82 (wr32 ((M 66 82) + 1))) 66 81))) (k := 81) (kI := 81) (pc' := 42) dX12_qOpens_39 rfl cl12 (by decide) rfl (by decide) flX12_523 rfl rfl (by decide) rfl rfl ?_
      refine T_iload_n (i := 1) (pc' := 43) dX12_qOpens_42 rfl rfl rfl ?_
      refine T_iast (pc' := 44) dX12_qOpens_43 (by decide) rfl (o1 c1 c2).1 (o1 c1 c2).2 rfl ?_
      refine T_aload_n (i := 0) (pc' := 45) dX12_qOpens_44 rfl rfl rfl ?_
      refine T_dup (pc' := 46) dX12_qOpens_45 (Nat.ne_of_beq_eq_false rfl) rfl ?_
      refine U_gf (v := (0, ((mset (mset M 66 82 (wr32 ((M 66 82) + 1))) 123 ((mset M 66 82 (wr32 ((M 66 82) + 1))) 66 81) v1) 66 81))) (k := 81) (kI := 81) (pc' := 49) dX12_qOpens_46 rfl cl12 (by decide) rfl (by decide) flX12_523 rfl rfl (by decide) rfl rfl ?_
      refine T_iconst (pc' := 50) dX12_qOpens_49 (by decide) rfl ?_
      refine T_iadd (pc' := 51) dX12_qOpens_50 rfl ?_
      refine U_pf (y := (wr32 (((mset (mset M 66 82 (wr32 ((M 66 82) + 1))) 123 ((mset M 66 82 (wr32 ((M 66 82) + 1))) 66 81) v1) 66 81) + 1))) (k := 81) (kI := 81) (pc' := 54) dX12_qOpens_51 rfl cl12 (by decide) rfl (by decide) flX12_523 rfl rfl rfl rfl rfl (by decide) (fun z => z) rfl ?_
      exact T_vret dX12_qOpens_54 rfl ⟨rfl, (G_fld (x := 66) (i := 81) (y := (wr32 (((mset (mset M 66 82 (wr32 ((M 66 82) + 1))) 123 ((mset M 66 82 (wr32 ((M 66 82) + 1))) 66 81) v1) 66 81) + 1))) rfl (by decide) (by decide) (by decide) (G_arr (x := 123) (i := ((mset M 66 82 (wr32 ((M 66 82) + 1))) 66 81)) (y := v1) rfl (by decide) (G_fld (x := 66) (i := 82) (y := (wr32 ((M 66 82) + 1))) rfl (by decide) (by decide) (by decide) hG))), (by rw [hQ]; exact ⟨rfl, (by unfold fmX12_qOpens; simp only [if_pos c1, if_neg c2])⟩)⟩
    · skip
      refine T_aload_n (i := 0) (pc' := 18) dX12_qOpens_17 rfl rfl rfl ?_
      refine T_iconst (pc' := 19) dX12_qOpens_18 (by decide) rfl ?_
      refine T_iload_n (i := 2) (pc' := 20) dX12_qOpens_19 rfl rfl rfl ?_
      refine T_callV (av := [(0, 4), (0, v2)]) (st := []) (d2 := 1) (nc2 := 0) (ns2 := 0) (pc' := 23) dX12_qOpens_20 rfl mtX12_fail mvX12_fail mlX12_231 cl12 rfl rfl rfl (Nat.le_of_ble_eq_true rfl) (by decide) ⟨by decide, by decide⟩ rfl (pX12_fail (E := E) (h := h) (M := M) (v1 := 4) (v2 := v2) hG) (kF (st2 := []) rfl (fun hG3 => ?_))
      exact T_vret dX12_qOpens_23 rfl ⟨rfl, (gX12_fail (h := h) (M := M) (v1 := 4) (v2 := v2) hG), (by rw [hQ]; exact ⟨rfl, (by unfold fmX12_qOpens; simp only [if_pos c1, if_pos c2])⟩)⟩
  · skip
    exact T_vret dX12_qOpens_7 rfl ⟨rfl, hG, (by rw [hQ]; exact ⟨rfl, (by unfold fmX12_qOpens; simp only [if_neg c1])⟩)⟩
theorem frX12_qOpens {M : Mem} {v1 : Int} {v2 : Int} {q : Int} (hq0 : q ≠ 66) (hq1 : q ≠ 123) : (fmX12_qOpens M v1 v2) q = M q := by
  unfold fmX12_qOpens
  exact (ite_q (ite_q ((frX12_fail hq0).trans rfl) ((mset_p hq0).trans ((mset_p hq1).trans ((mset_p hq0).trans rfl)))) rfl)
def fX12_qIsOn (M : Mem) (v1 : Int) : Int :=
  (if (M 66 81) ≤ 0 then (0 : Int) else (if (M 123 (wr32 ((M 66 81) - 1))) = v1 then (1 : Int) else 0))
def nX12_qIsOn (M : Mem) : Prop :=
  (¬ ((M 66 81) ≤ 0) → 0 ≤ (wr32 ((M 66 81) - 1)) ∧ (wr32 ((M 66 81) - 1)) < 1700)
set_option maxRecDepth 100000 in
theorem pX12_qIsOn {E : EV} {h : Int} {M : Mem} {v1 : Int} (hs : (nX12_qIsOn M)) : C2 E miX12_qIsOn 1 h [(2, 66), (0, v1)] M (fun r M' => r = some (0, (fX12_qIsOn M v1)) ∧ M' = M) := by
  obtain ⟨Q, hQ⟩ : ∃ Q : Option MV → Mem → Prop, Q = (fun r M' => r = some (0, (fX12_qIsOn M v1)) ∧ M' = M) := ⟨_, rfl⟩
  rw [← hQ]
  have o1 := hs
  refine C2_of (L := [(2, 66), (0, v1)]) (by decide +kernel) (Nat.le_of_ble_eq_true rfl) rfl (fun hG => ?_)
  refine T_aload_n (i := 0) (pc' := 1) dX12_qIsOn_0 rfl rfl rfl ?_
  refine U_gf (v := (0, (M 66 81))) (k := 81) (kI := 81) (pc' := 4) dX12_qIsOn_1 rfl cl12 (by decide) rfl (by decide) flX12_523 rfl rfl (by decide) rfl rfl ?_
  have HJ1 : T E miX12_qIsOn 1 126 0 0 (fun r S M' => S = S0 ∧ G h M' ∧ Q r M') 27 [(3, 0), (3, 0)] [(0, (if (M 66 81) ≤ 0 then (0 : Int) else (if (M 123 (wr32 ((M 66 81) - 1))) = v1 then (1 : Int) else 0)))] S0 M 0 0 := by
    exact T_zret dX12_qIsOn_27 rfl (by repeat' (first | apply bi | exact Or.inl rfl | exact Or.inr rfl)) ⟨rfl, hG, (by rw [hQ]; exact ⟨rfl, rfl⟩)⟩
  refine T_if_le (pc' := 26) dX12_qIsOn_4 (by decide) (pf := 7) rfl (fun c2 => ?_) (fun c2 => ?_)
  · skip
    refine T_iconst (pc' := 27) dX12_qIsOn_26 (by decide) rfl ?_
    exact T_wk (L' := [(3, 0), (3, 0)]) (by have q := HJ1; try simp only [if_pos c2] at q; exact q) ⟨Or.inl rfl, Or.inl rfl, trivial⟩
  · skip
    refine T_aload_n (i := 0) (pc' := 8) dX12_qIsOn_7 rfl rfl rfl ?_
    refine U_gr (q := 123) (k := 80) (kI := 80) (pc' := 11) dX12_qIsOn_8 rfl cl12 (by decide) rfl (by decide) flX12_189 rfl rfl rfl (G_at hG 123 rfl) (by decide) rfl ?_
    refine T_aload_n (i := 0) (pc' := 12) dX12_qIsOn_11 rfl rfl rfl ?_
    refine U_gf (v := (0, (M 66 81))) (k := 81) (kI := 81) (pc' := 15) dX12_qIsOn_12 rfl cl12 (by decide) rfl (by decide) flX12_523 rfl rfl (by decide) rfl rfl ?_
    refine T_iconst (pc' := 16) dX12_qIsOn_15 (by decide) rfl ?_
    refine T_isub (pc' := 17) dX12_qIsOn_16 rfl ?_
    refine T_iald (pc' := 18) dX12_qIsOn_17 (by decide) rfl (o1 c2).1 (o1 c2).2 rfl ?_
    refine T_iload_n (i := 1) (pc' := 19) dX12_qIsOn_18 rfl rfl rfl ?_
    refine T_icmp_ne (pc' := 26) dX12_qIsOn_19 (by decide) (pf := 22) rfl (fun c3 => ?_) (fun c3 => ?_)
    · skip
      refine T_iconst (pc' := 27) dX12_qIsOn_26 (by decide) rfl ?_
      exact T_wk (L' := [(3, 0), (3, 0)]) (by have q := HJ1; try simp only [if_neg c2] at q; try simp only [if_neg c3] at q; exact q) ⟨Or.inl rfl, Or.inl rfl, trivial⟩
    · skip
      refine T_iconst (pc' := 23) dX12_qIsOn_22 (by decide) rfl ?_
      refine T_goto (pc' := 27) dX12_qIsOn_23 (by decide) ?_
      exact T_wk (L' := [(3, 0), (3, 0)]) (by have q := HJ1; try simp only [if_neg c2] at q; try simp only [if_pos c3] at q; exact q) ⟨Or.inl rfl, Or.inl rfl, trivial⟩
theorem fbX12_qIsOn (M : Mem) (v1 : Int) : (fX12_qIsOn M v1) = 0 ∨ (fX12_qIsOn M v1) = 1 := by
  unfold fX12_qIsOn
  repeat' (first | apply bi | exact Or.inl rfl | exact Or.inr rfl)
def fmX12_qDrops (M : Mem) : Mem :=
  (fmX12_qCode (mset M 66 81 (wr32 ((M 66 81) - 1))) ((mset M 66 81 (wr32 ((M 66 81) - 1))) 123 ((mset M 66 81 (wr32 ((M 66 81) - 1))) 66 81)))
def nX12_qDrops (M : Mem) : Prop :=
  (0 ≤ ((mset M 66 81 (wr32 ((M 66 81) - 1))) 66 81) ∧ ((mset M 66 81 (wr32 ((M 66 81) - 1))) 66 81) < 1700) ∧ ((nX12_qCode (mset M 66 81 (wr32 ((M 66 81) - 1)))))
theorem gX12_qDrops {h : Int} {M : Mem}   (hG : G h M) : G h (fmX12_qDrops M) := by
  unfold fmX12_qDrops
  exact (gX12_qCode (h := h) (M := (mset M 66 81 (wr32 ((M 66 81) - 1)))) (v1 := ((mset M 66 81 (wr32 ((M 66 81) - 1))) 123 ((mset M 66 81 (wr32 ((M 66 81) - 1))) 66 81))) (G_fld (x := 66) (i := 81) (y := (wr32 ((M 66 81) - 1))) rfl (by decide) (by decide) (by decide) hG))
set_option maxRecDepth 100000 in
theorem pX12_qDrops {E : EV} {h : Int} {M : Mem}  (hs : (nX12_qDrops M)) : C2 E miX12_qDrops 2 h [(2, 66)] M (fun r M' => r = none ∧ M' = (fmX12_qDrops M)) := by
  obtain ⟨Q, hQ⟩ : ∃ Q : Option MV → Mem → Prop, Q = (fun r M' => r = none ∧ M' = (fmX12_qDrops M)) := ⟨_, rfl⟩
  rw [← hQ]
  obtain ⟨o1, o2⟩ := hs
  refine C2_of (L := [(2, 66)]) (by decide +kernel) (Nat.le_of_ble_eq_true rfl) rfl (fun hG => ?_)
  refine T_aload_n (i := 0) (pc' := 1) dX12_qDrops_0 rfl rfl rfl ?_
  refine T_dup (pc' := 2) dX12_qDrops_1 (Nat.ne_of_beq_eq_false rfl) rfl ?_
  refine U_gf (v := (0, (M 66 81))) (k := 81) (kI := 81) (pc' := 5) dX12_qDrops_2 rfl cl12 (by decide) rfl (by decide) flX12_523 rfl rfl (by decide) rfl rfl ?_
  refine T_iconst (pc' := 6) dX12_qDrops_5 (by decide) rfl ?_
  refine T_isub (pc' := 7) dX12_qDrops_6 rfl ?_
  refine U_pf (y := (wr32 ((M 66 81) - 1))) (k := 81) (kI := 81) (pc' := 10) dX12_qDrops_7 rfl cl12 (by decide) rfl (by decide) flX12_523 rfl rfl rfl rfl rfl (by decide) (fun z => z) rfl ?_
  refine T_aload_n (i := 0) (pc' := 11) dX12_qDrops_10 rfl rfl rfl ?_
  refine T_aload_n (i := 0) (pc' := 12) dX12_qDrops_11 rfl rfl rfl ?_
  refine U_gr (q := 123) (k := 80) (kI := 80) (pc' := 15) dX12_qDrops_12 rfl cl12 (by decide) rfl (by decide) flX12_189 rfl rfl rfl (G_at (G_fld (x := 66) (i := 81) (y := (wr32 ((M 66 81) - 1))) rfl (by decide) (by decide) (by decide) hG) 123 rfl) (by decide) rfl ?_
  refine T_aload_n (i := 0) (pc' := 16) dX12_qDrops_15 rfl rfl rfl ?_
  refine U_gf (v := (0, ((mset M 66 81 (wr32 ((M 66 81) - 1))) 66 81))) (k := 81) (kI := 81) (pc' := 19) dX12_qDrops_16 rfl cl12 (by decide) rfl (by decide) flX12_523 rfl rfl (by decide) rfl rfl ?_
  refine T_iald (pc' := 20) dX12_qDrops_19 (by decide) rfl (o1).1 (o1).2 rfl ?_
  refine T_callV (av := [(0, ((mset M 66 81 (wr32 ((M 66 81) - 1))) 123 ((mset M 66 81 (wr32 ((M 66 81) - 1))) 66 81)))]) (st := []) (d2 := 1) (nc2 := 0) (ns2 := 0) (pc' := 23) dX12_qDrops_20 rfl mtX12_qCode mvX12_qCode mlX12_526 cl12 rfl rfl rfl (Nat.le_of_ble_eq_true rfl) (by decide) ⟨by decide, by decide⟩ rfl (pX12_qCode (E := E) (h := h) (M := (mset M 66 81 (wr32 ((M 66 81) - 1)))) (v1 := ((mset M 66 81 (wr32 ((M 66 81) - 1))) 123 ((mset M 66 81 (wr32 ((M 66 81) - 1))) 66 81))) (o2) (G_fld (x := 66) (i := 81) (y := (wr32 ((M 66 81) - 1))) rfl (by decide) (by decide) (by decide) hG)) (kF (st2 := []) rfl (fun hG1 => ?_))
  exact T_vret dX12_qDrops_23 rfl ⟨rfl, (gX12_qCode (h := h) (M := (mset M 66 81 (wr32 ((M 66 81) - 1)))) (v1 := ((mset M 66 81 (wr32 ((M 66 81) - 1))) 123 ((mset M 66 81 (wr32 ((M 66 81) - 1))) 66 81))) (G_fld (x := 66) (i := 81) (y := (wr32 ((M 66 81) - 1))) rfl (by decide) (by decide) (by decide) hG)), (by rw [hQ]; exact ⟨rfl, rfl⟩)⟩
theorem frX12_qDrops {M : Mem} {q : Int} (hq0 : q ≠ 66) (hq1 : q ≠ 122) : (fmX12_qDrops M) q = M q := by
  unfold fmX12_qDrops
  exact ((frX12_qCode hq1 hq0).trans ((mset_p hq0).trans rfl))
def fX12_qIsBracket (v0 : Int) : Int :=
  (if v0 < 20 then (0 : Int) else (if 24 < v0 then (0 : Int) else 1))
set_option maxRecDepth 100000 in
theorem pX12_qIsBracket {E : EV} {h : Int} {M : Mem} {v0 : Int}  : C2 E miX12_qIsBracket 1 h [(0, v0)] M (fun r M' => r = some (0, (fX12_qIsBracket v0)) ∧ M' = M) := by
  obtain ⟨Q, hQ⟩ : ∃ Q : Option MV → Mem → Prop, Q = (fun r M' => r = some (0, (fX12_qIsBracket v0)) ∧ M' = M) := ⟨_, rfl⟩
  rw [← hQ]
  refine C2_of (L := [(0, v0)]) (by decide +kernel) (Nat.le_of_ble_eq_true rfl) rfl (fun hG => ?_)
  refine T_iload_n (i := 0) (pc' := 1) dX12_qIsBracket_0 rfl rfl rfl ?_
  refine T_bipush (pc' := 3) dX12_qIsBracket_1 rfl (by decide) rfl ?_
  have HJ1 : T E miX12_qIsBracket 1 126 0 0 (fun r S M' => S = S0 ∧ G h M' ∧ Q r M') 17 [(3, 0)] [(0, (if v0 < 20 then (0 : Int) else (if 24 < v0 then (0 : Int) else 1)))] S0 M 0 0 := by
    exact T_zret dX12_qIsBracket_17 rfl (by repeat' (first | apply bi | exact Or.inl rfl | exact Or.inr rfl)) ⟨rfl, hG, (by rw [hQ]; exact ⟨rfl, rfl⟩)⟩
  refine T_icmp_lt (pc' := 16) dX12_qIsBracket_3 (by decide) (pf := 6) rfl (fun c2 => ?_) (fun c2 => ?_)
  · skip
    refine T_iconst (pc' := 17) dX12_qIsBracket_16 (by decide) rfl ?_
    exact T_wk (L' := [(3, 0)]) (by have q := HJ1; try simp only [if_pos c2] at q; exact q) ⟨Or.inl rfl, trivial⟩
  · skip
    refine T_iload_n (i := 0) (pc' := 7) dX12_qIsBracket_6 rfl rfl rfl ?_
    refine T_bipush (pc' := 9) dX12_qIsBracket_7 rfl (by decide) rfl ?_
    refine T_icmp_gt (pc' := 16) dX12_qIsBracket_9 (by decide) (pf := 12) rfl (fun c3 => ?_) (fun c3 => ?_)
    · skip
      refine T_iconst (pc' := 17) dX12_qIsBracket_16 (by decide) rfl ?_
      exact T_wk (L' := [(3, 0)]) (by have q := HJ1; try simp only [if_neg c2] at q; try simp only [if_pos c3] at q; exact q) ⟨Or.inl rfl, trivial⟩
    · skip
      refine T_iconst (pc' := 13) dX12_qIsBracket_12 (by decide) rfl ?_
      refine T_goto (pc' := 17) dX12_qIsBracket_13 (by decide) ?_
      exact T_wk (L' := [(3, 0)]) (by have q := HJ1; try simp only [if_neg c2] at q; try simp only [if_neg c3] at q; exact q) ⟨Or.inl rfl, trivial⟩
theorem fbX12_qIsBracket (v0 : Int) : (fX12_qIsBracket v0) = 0 ∨ (fX12_qIsBracket v0) = 1 := by
  unfold fX12_qIsBracket
  repeat' (first | apply bi | exact Or.inl rfl | exact Or.inr rfl)
def lX12_qHasSquare_2  : Nat → Int → Mem → Int
  | 0, v1, M => 0
  | k + 1, v1, M => (if (M 123 v1) = 25 then 1 else (lX12_qHasSquare_2 k (v1 + 1) M))
def nlX12_qHasSquare_2  : Nat → Int → Mem → Prop
  | 0, v1, M => True
  | k + 1, v1, M => (0 ≤ v1 ∧ v1 < 1700) ∧ (¬ ((M 123 v1) = 25) → (nlX12_qHasSquare_2 k (v1 + 1) M))
set_option maxRecDepth 100000 in
set_option maxHeartbeats 2000000 in
theorem qX12_qHasSquare_2 {E : EV} {h : Int} {Q : Option MV → Mem → Prop}   : ∀ (k : Nat) (v1 : Int) (M : Mem), 0 ≤ v1 → (((M 66 81)) - v1).toNat = k → (nlX12_qHasSquare_2 k v1 M) → Q (some (0, (lX12_qHasSquare_2 k v1 M))) M → G h M → TG E miX12_qHasSquare 1 h Q 2 [(2, 66), (0, v1)] [] M := by
  intro k
  induction k with
  | zero =>
    intro v1 M hv0 hk hs hQ hG
    have hQ : Q (some (0, 0)) M := hQ
    have hs : True := hs
    refine T_iload_n (i := 1) (pc' := 3) dX12_qHasSquare_2 rfl rfl rfl ?_
    refine T_aload_n (i := 0) (pc' := 4) dX12_qHasSquare_3 rfl rfl rfl ?_
    refine U_gf (v := (0, (M 66 81))) (k := 81) (kI := 81) (pc' := 7) dX12_qHasSquare_4 rfl cl12 (by decide) rfl (by decide) flX12_523 rfl rfl (by decide) rfl rfl ?_
    refine T_rng (fun _ z9 _ => ?_)
    have hB : r32 (M 66 81) := (ok_cons.mp z9).1
    unfold r32 at hB
    refine T_icmp_ge (pc' := 29) dX12_qHasSquare_7 (by decide) (pf := 10) rfl (fun c1 => ?_) (fun c1 => ?_)
    · skip
      refine T_iconst (pc' := 30) dX12_qHasSquare_29 (by decide) rfl ?_
      exact T_zret dX12_qHasSquare_30 rfl (by decide) ⟨rfl, hG, hQ⟩
    · exact absurd c1 (by omega)
  | succ k ih =>
    intro v1 M hv0 hk hs hQ hG
    have hQ : Q (some (0, (if (M 123 v1) = 25 then 1 else (lX12_qHasSquare_2 k (v1 + 1) M)))) M := hQ
    have hs : (0 ≤ v1 ∧ v1 < 1700) ∧ (¬ ((M 123 v1) = 25) → (nlX12_qHasSquare_2 k (v1 + 1) M)) := hs
    obtain ⟨n1, n2⟩ := hs
    refine T_iload_n (i := 1) (pc' := 3) dX12_qHasSquare_2 rfl rfl rfl ?_
    refine T_aload_n (i := 0) (pc' := 4) dX12_qHasSquare_3 rfl rfl rfl ?_
    refine U_gf (v := (0, (M 66 81))) (k := 81) (kI := 81) (pc' := 7) dX12_qHasSquare_4 rfl cl12 (by decide) rfl (by decide) flX12_523 rfl rfl (by decide) rfl rfl ?_
    refine T_rng (fun _ z9 _ => ?_)
    have hB : r32 (M 66 81) := (ok_cons.mp z9).1
    unfold r32 at hB
    refine T_icmp_ge (pc' := 29) dX12_qHasSquare_7 (by decide) (pf := 10) rfl (fun c1 => ?_) (fun c1 => ?_)
    · exact absurd c1 (by omega)
    · skip
      have hw : wr32 (v1 + 1) = v1 + 1 := wr32_id (by unfold r32; omega)
      refine T_aload_n (i := 0) (pc' := 11) dX12_qHasSquare_10 rfl rfl rfl ?_
      refine U_gr (q := 123) (k := 80) (kI := 80) (pc' := 14) dX12_qHasSquare_11 rfl cl12 (by decide) rfl (by decide) flX12_189 rfl rfl rfl (G_at hG 123 rfl) (by decide) rfl ?_
      refine T_iload_n (i := 1) (pc' := 15) dX12_qHasSquare_14 rfl rfl rfl ?_
      refine T_iald (pc' := 16) dX12_qHasSquare_15 (by decide) rfl (n1).1 (n1).2 rfl ?_
      refine T_bipush (pc' := 18) dX12_qHasSquare_16 rfl (by decide) rfl ?_
      refine T_icmp_ne (pc' := 23) dX12_qHasSquare_18 (by decide) (pf := 21) rfl (fun c2 => ?_) (fun c2 => ?_)
      · skip
        refine T_iinc (L' := [(2, 66), (0, (wr32 (v1 + 1)))]) (pc' := 26) dX12_qHasSquare_23 rfl (by decide) rfl rfl ?_
        refine T_goto (pc' := 2) dX12_qHasSquare_26 (by decide) ?_
        rw [hw]
        exact T_wk (ih (v1 + 1) _ (by omega) (by omega) (n2 c2) (by have q := hQ; try simp only [if_neg c2] at q; exact q) hG) ⟨Or.inr rfl, Or.inr rfl, trivial⟩
      · skip
        refine T_iconst (pc' := 22) dX12_qHasSquare_21 (by decide) rfl ?_
        exact T_zret dX12_qHasSquare_22 rfl (by decide) ⟨rfl, hG, (by have q := hQ; try simp only [if_pos c2] at q; exact q)⟩
def fX12_qHasSquare (M : Mem) : Int :=
  (lX12_qHasSquare_2 ((((M 66 81)) : Int) - 0).toNat 0 M)
def nX12_qHasSquare (M : Mem) : Prop :=
  ((nlX12_qHasSquare_2 ((((M 66 81)) : Int) - 0).toNat 0 M))
set_option maxRecDepth 100000 in
theorem pX12_qHasSquare {E : EV} {h : Int} {M : Mem}  (hs : (nX12_qHasSquare M)) : C2 E miX12_qHasSquare 1 h [(2, 66)] M (fun r M' => r = some (0, (fX12_qHasSquare M)) ∧ M' = M) := by
  obtain ⟨Q, hQ0⟩ : ∃ Q : Option MV → Mem → Prop, Q = (fun r M' => r = some (0, (fX12_qHasSquare M)) ∧ M' = M) := ⟨_, rfl⟩
  rw [← hQ0]
  have hQ : Q (some (0, (lX12_qHasSquare_2 ((((M 66 81)) : Int) - 0).toNat 0 M))) M := by rw [hQ0]; exact ⟨rfl, rfl⟩
  have o1 := hs
  refine C2_of (L := [(2, 66), (3, 0)]) (by decide +kernel) (Nat.le_of_ble_eq_true rfl) rfl (fun hG => ?_)
  refine T_iconst (pc' := 1) dX12_qHasSquare_0 (by decide) rfl ?_
  refine T_istore_n (i := 1) (L' := [(2, 66), (0, 0)]) (pc' := 2) dX12_qHasSquare_1 rfl (by decide) rfl rfl ?_
  exact T_wk (qX12_qHasSquare_2  _ 0 _ (by first | decide | omega) rfl (o1) hQ hG) ⟨Or.inr rfl, Or.inr rfl, trivial⟩
def fX12_qClip (v0 : Int) : Int :=
  (if (m_cmp v0 1000000) ≤ 0 then (if 0 ≤ (m_cmp v0 (-1000000)) then v0 else (-1000000)) else 1000000)
set_option maxRecDepth 100000 in
theorem pX12_qClip {E : EV} {h : Int} {M : Mem} {v0 : Int}  : C2 E miX12_qClip 1 h [(1, v0)] M (fun r M' => r = some (1, (fX12_qClip v0)) ∧ M' = M) := by
  obtain ⟨Q, hQ⟩ : ∃ Q : Option MV → Mem → Prop, Q = (fun r M' => r = some (1, (fX12_qClip v0)) ∧ M' = M) := ⟨_, rfl⟩
  rw [← hQ]
  refine C2_of (L := [(1, v0), (3, 0)]) (by decide +kernel) (Nat.le_of_ble_eq_true rfl) rfl (fun hG => ?_)
  refine T_lload_n (i := 0) (pc' := 1) dX12_qClip_0 rfl rfl rfl ?_
  refine T_ldc2 (n := 1000000) (pc' := 4) dX12_qClip_1 rfl kjX12_583 rfl (by decide) rfl ?_
  refine T_lcmp (pc' := 5) dX12_qClip_4 rfl ?_
  have HJ1 : T E miX12_qClip 1 126 0 0 (fun r S M' => S = S0 ∧ G h M' ∧ Q r M') 29 [(3, 0), (3, 0)] [(1, (if (m_cmp v0 1000000) ≤ 0 then (if 0 ≤ (m_cmp v0 (-1000000)) then v0 else (-1000000)) else 1000000))] S0 M 0 0 := by
    exact T_lret dX12_qClip_29 rfl ⟨rfl, hG, (by rw [hQ]; exact ⟨rfl, rfl⟩)⟩
  refine T_if_le (pc' := 14) dX12_qClip_5 (by decide) (pf := 8) rfl (fun c2 => ?_) (fun c2 => ?_)
  · skip
    refine T_lload_n (i := 0) (pc' := 15) dX12_qClip_14 rfl rfl rfl ?_
    refine T_ldc2 (n := (-1000000)) (pc' := 18) dX12_qClip_15 rfl kjX12_585 rfl (by decide) rfl ?_
    refine T_lcmp (pc' := 19) dX12_qClip_18 rfl ?_
    refine T_if_ge (pc' := 28) dX12_qClip_19 (by decide) (pf := 22) rfl (fun c3 => ?_) (fun c3 => ?_)
    · skip
      refine T_lload_n (i := 0) (pc' := 29) dX12_qClip_28 rfl rfl rfl ?_
      exact T_wk (L' := [(3, 0), (3, 0)]) (by have q := HJ1; try simp only [if_pos c2] at q; try simp only [if_pos c3] at q; exact q) ⟨Or.inl rfl, Or.inl rfl, trivial⟩
    · skip
      refine T_ldc2 (n := (-1000000)) (pc' := 25) dX12_qClip_22 rfl kjX12_585 rfl (by decide) rfl ?_
      refine T_goto (pc' := 29) dX12_qClip_25 (by decide) ?_
      exact T_wk (L' := [(3, 0), (3, 0)]) (by have q := HJ1; try simp only [if_pos c2] at q; try simp only [if_neg c3] at q; exact q) ⟨Or.inl rfl, Or.inl rfl, trivial⟩
  · skip
    refine T_ldc2 (n := 1000000) (pc' := 11) dX12_qClip_8 rfl kjX12_583 rfl (by decide) rfl ?_
    refine T_goto (pc' := 29) dX12_qClip_11 (by decide) ?_
    exact T_wk (L' := [(3, 0), (3, 0)]) (by have q := HJ1; try simp only [if_neg c2] at q; exact q) ⟨Or.inl rfl, Or.inl rfl, trivial⟩
def fmX12_qPuts (M : Mem) (v1 : Int) : Mem :=
  (mset (mset M 124 (M 66 85) v1) 66 85 (wr32 (((mset M 124 (M 66 85) v1) 66 85) + 1)))
def nX12_qPuts (M : Mem) : Prop :=
  (0 ≤ (M 66 85) ∧ (M 66 85) < 1700)
theorem gX12_qPuts {h : Int} {M : Mem} {v1 : Int}  (hG : G h M) : G h (fmX12_qPuts M v1) := by
  unfold fmX12_qPuts
  exact (G_fld (x := 66) (i := 85) (y := (wr32 (((mset M 124 (M 66 85) v1) 66 85) + 1))) rfl (by decide) (by decide) (by decide) (G_arr (x := 124) (i := (M 66 85)) (y := v1) rfl (by decide) hG))
set_option maxRecDepth 100000 in
theorem pX12_qPuts {E : EV} {h : Int} {M : Mem} {v1 : Int} (hs : (nX12_qPuts M)) : C2 E miX12_qPuts 1 h [(2, 66), (1, v1)] M (fun r M' => r = none ∧ M' = (fmX12_qPuts M v1)) := by
  obtain ⟨Q, hQ⟩ : ∃ Q : Option MV → Mem → Prop, Q = (fun r M' => r = none ∧ M' = (fmX12_qPuts M v1)) := ⟨_, rfl⟩
  rw [← hQ]
  have o1 := hs
  refine C2_of (L := [(2, 66), (1, v1), (3, 0)]) (by decide +kernel) (Nat.le_of_ble_eq_true rfl) rfl (fun hG => ?_)
  refine T_aload_n (i := 0) (pc' := 1) dX12_qPuts_0 rfl rfl rfl ?_
  refine U_gr (q := 124) (k := 84) (kI := 84) (pc' := 4) dX12_qPuts_1 rfl cl12 (by decide) rfl (by decide) flX12_192 rfl rfl rfl (G_at hG 124 rfl) (by decide) rfl ?_
  refine T_aload_n (i := 0) (pc' := 5) dX12_qPuts_4 rfl rfl rfl ?_
  refine U_gf (v := (0, (M 66 85))) (k := 85) (kI := 85) (pc' := 8) dX12_qPuts_5 rfl cl12 (by decide) rfl (by decide) flX12_587 rfl rfl (by decide) rfl rfl ?_
  refine T_lload_n (i := 1) (pc' := 9) dX12_qPuts_8 rfl rfl rfl ?_
  refine T_last (pc' := 10) dX12_qPuts_9 (by decide) rfl (o1).1 (o1).2 rfl ?_
  refine T_aload_n (i := 0) (pc' := 11) dX12_qPuts_10 rfl rfl rfl ?_
  refine T_dup (pc' := 12) dX12_qPuts_11 (Nat.ne_of_beq_eq_false rfl) rfl ?_
  refine U_gf (v := (0, ((mset M 124 (M 66 85) v1) 66 85))) (k := 85) (kI := 85) (pc' := 15) dX12_qPuts_12 rfl cl12 (by decide) rfl (by decide) flX12_587 rfl rfl (by decide) rfl rfl ?_
  refine T_iconst (pc' := 16) dX12_qPuts_15 (by decide) rfl ?_
  refine T_iadd (pc' := 17) dX12_qPuts_16 rfl ?_
  refine U_pf (y := (wr32 (((mset M 124 (M 66 85) v1) 66 85) + 1))) (k := 85) (kI := 85) (pc' := 20) dX12_qPuts_17 rfl cl12 (by decide) rfl (by decide) flX12_587 rfl rfl rfl rfl rfl (by decide) (fun z => z) rfl ?_
  exact T_vret dX12_qPuts_20 rfl ⟨rfl, (G_fld (x := 66) (i := 85) (y := (wr32 (((mset M 124 (M 66 85) v1) 66 85) + 1))) rfl (by decide) (by decide) (by decide) (G_arr (x := 124) (i := (M 66 85)) (y := v1) rfl (by decide) hG)), (by rw [hQ]; exact ⟨rfl, rfl⟩)⟩
theorem frX12_qPuts {M : Mem} {v1 : Int} {q : Int} (hq0 : q ≠ 124) (hq1 : q ≠ 66) : (fmX12_qPuts M v1) q = M q := by
  unfold fmX12_qPuts
  exact ((mset_p hq1).trans ((mset_p hq0).trans rfl))
def fX12_qDoes (M : Mem) (v1 : Int) (v2 : Int) : Int :=
  (if (fX12_isComing M v1) = 0 then 0 else (if (fX12_isOut M v1 v2) = 0 then (if (fX12_isWaiting M v1 v2) = 0 then (if (fX12_isOpen M v1 v2) = 0 then (3 : Int) else 2) else 1) else 4))
def nX12_qDoes (M : Mem) (v1 : Int) (v2 : Int) : Prop :=
  (¬ ((fX12_isComing M v1) = 0) → (nX12_isOut M v1)) ∧ (¬ ((fX12_isComing M v1) = 0) → (fX12_isOut M v1 v2) = 0 → (nX12_isWaiting M v1)) ∧ (¬ ((fX12_isComing M v1) = 0) → (fX12_isOut M v1 v2) = 0 → (fX12_isWaiting M v1 v2) = 0 → (nX12_isOpen M v1 v2))
set_option maxRecDepth 100000 in
theorem pX12_qDoes {E : EV} {h : Int} {M : Mem} {v1 : Int} {v2 : Int} (hs : (nX12_qDoes M v1 v2)) : C2 E miX12_qDoes 4 h [(2, 66), (0, v1), (0, v2)] M (fun r M' => r = some (0, (fX12_qDoes M v1 v2)) ∧ M' = M) := by
  obtain ⟨Q, hQ⟩ : ∃ Q : Option MV → Mem → Prop, Q = (fun r M' => r = some (0, (fX12_qDoes M v1 v2)) ∧ M' = M) := ⟨_, rfl⟩
  rw [← hQ]
  obtain ⟨o1, o2, o3⟩ := hs
  refine C2_of (L := [(2, 66), (0, v1), (0, v2)]) (by decide +kernel) (Nat.le_of_ble_eq_true rfl) rfl (fun hG => ?_)
  refine T_aload_n (i := 0) (pc' := 1) dX12_qDoes_0 rfl rfl rfl ?_
  refine T_iload_n (i := 1) (pc' := 2) dX12_qDoes_1 rfl rfl rfl ?_
  refine T_callV (av := [(0, v1)]) (st := []) (d2 := 3) (nc2 := 0) (ns2 := 0) (pc' := 5) dX12_qDoes_2 rfl mtX12_isComing mvX12_isComing mlX12_376 cl12 rfl rfl rfl (Nat.le_of_ble_eq_true rfl) (by decide) ⟨by decide, by decide⟩ rfl (pX12_isComing (E := E) (h := h) (M := M) (v1 := v1) hG) (kF (st2 := [(0, (fX12_isComing M v1))]) rfl (fun hG1 => ?_))
  refine T_if_ne (pc' := 10) dX12_qDoes_5 (by decide) (pf := 8) rfl (fun c2 => ?_) (fun c2 => ?_)
  · skip
    refine T_aload_n (i := 0) (pc' := 11) dX12_qDoes_10 rfl rfl rfl ?_
    refine T_iload_n (i := 1) (pc' := 12) dX12_qDoes_11 rfl rfl rfl ?_
    refine T_iload_n (i := 2) (pc' := 13) dX12_qDoes_12 rfl rfl rfl ?_
    refine T_callV (av := [(0, v1), (0, v2)]) (st := []) (d2 := 1) (nc2 := 0) (ns2 := 0) (pc' := 16) dX12_qDoes_13 rfl mtX12_isOut mvX12_isOut mlX12_395 cl12 rfl rfl rfl (Nat.le_of_ble_eq_true rfl) (by decide) ⟨by decide, by decide⟩ rfl (pX12_isOut (E := E) (h := h) (M := M) (v1 := v1) (v2 := v2) (o1 c2) hG) (kF (st2 := [(0, (fX12_isOut M v1 v2))]) rfl (fun hG3 => ?_))
    have HJ4 : T E miX12_qDoes 4 126 0 0 (fun r S M' => S = S0 ∧ G h M' ∧ Q r M') 50 [(3, 0), (3, 0), (3, 0)] [(0, (if (fX12_isOut M v1 v2) = 0 then (if (fX12_isWaiting M v1 v2) = 0 then (if (fX12_isOpen M v1 v2) = 0 then (3 : Int) else 2) else 1) else 4))] S0 M 0 0 := by
      exact T_iret dX12_qDoes_50 rfl ⟨rfl, hG, (by rw [hQ]; exact ⟨(by unfold fX12_qDoes; simp only [if_neg c2]), rfl⟩)⟩
    refine T_if_eq (pc' := 23) dX12_qDoes_16 (by decide) (pf := 19) rfl (fun c5 => ?_) (fun c5 => ?_)
    · skip
      refine T_aload_n (i := 0) (pc' := 24) dX12_qDoes_23 rfl rfl rfl ?_
      refine T_iload_n (i := 1) (pc' := 25) dX12_qDoes_24 rfl rfl rfl ?_
      refine T_iload_n (i := 2) (pc' := 26) dX12_qDoes_25 rfl rfl rfl ?_
      refine T_callV (av := [(0, v1), (0, v2)]) (st := []) (d2 := 1) (nc2 := 0) (ns2 := 0) (pc' := 29) dX12_qDoes_26 rfl mtX12_isWaiting mvX12_isWaiting mlX12_389 cl12 rfl rfl rfl (Nat.le_of_ble_eq_true rfl) (by decide) ⟨by decide, by decide⟩ rfl (pX12_isWaiting (E := E) (h := h) (M := M) (v1 := v1) (v2 := v2) (o2 c2 c5) hG) (kF (st2 := [(0, (fX12_isWaiting M v1 v2))]) rfl (fun hG6 => ?_))
      refine T_if_eq (pc' := 36) dX12_qDoes_29 (by decide) (pf := 32) rfl (fun c7 => ?_) (fun c7 => ?_)
      · skip
        refine T_aload_n (i := 0) (pc' := 37) dX12_qDoes_36 rfl rfl rfl ?_
        refine T_iload_n (i := 1) (pc' := 38) dX12_qDoes_37 rfl rfl rfl ?_
        refine T_iload_n (i := 2) (pc' := 39) dX12_qDoes_38 rfl rfl rfl ?_
        refine T_callV (av := [(0, v1), (0, v2)]) (st := []) (d2 := 2) (nc2 := 0) (ns2 := 0) (pc' := 42) dX12_qDoes_39 rfl mtX12_isOpen mvX12_isOpen mlX12_379 cl12 rfl rfl rfl (Nat.le_of_ble_eq_true rfl) (by decide) ⟨by decide, by decide⟩ rfl (pX12_isOpen (E := E) (h := h) (M := M) (v1 := v1) (v2 := v2) (o3 c2 c5 c7) hG) (kF (st2 := [(0, (fX12_isOpen M v1 v2))]) rfl (fun hG8 => ?_))
        refine T_if_eq (pc' := 49) dX12_qDoes_42 (by decide) (pf := 45) rfl (fun c9 => ?_) (fun c9 => ?_)
        · skip
          refine T_iconst (pc' := 50) dX12_qDoes_49 (by decide) rfl ?_
          exact T_wk (L' := [(3, 0), (3, 0), (3, 0)]) (by have q := HJ4; try simp only [if_pos c5] at q; try simp only [if_pos c7] at q; try simp only [if_pos c9] at q; exact q) ⟨Or.inl rfl, Or.inl rfl, Or.inl rfl, trivial⟩
        · skip
          refine T_iconst (pc' := 46) dX12_qDoes_45 (by decide) rfl ?_
          refine T_goto (pc' := 50) dX12_qDoes_46 (by decide) ?_
          exact T_wk (L' := [(3, 0), (3, 0), (3, 0)]) (by have q := HJ4; try simp only [if_pos c5] at q; try simp only [if_pos c7] at q; try simp only [if_neg c9] at q; exact q) ⟨Or.inl rfl, Or.inl rfl, Or.inl rfl, trivial⟩
      · skip
        refine T_iconst (pc' := 33) dX12_qDoes_32 (by decide) rfl ?_
        refine T_goto (pc' := 50) dX12_qDoes_33 (by decide) ?_
        exact T_wk (L' := [(3, 0), (3, 0), (3, 0)]) (by have q := HJ4; try simp only [if_pos c5] at q; try simp only [if_neg c7] at q; exact q) ⟨Or.inl rfl, Or.inl rfl, Or.inl rfl, trivial⟩
    · skip
      refine T_iconst (pc' := 20) dX12_qDoes_19 (by decide) rfl ?_
      refine T_goto (pc' := 50) dX12_qDoes_20 (by decide) ?_
      exact T_wk (L' := [(3, 0), (3, 0), (3, 0)]) (by have q := HJ4; try simp only [if_neg c5] at q; exact q) ⟨Or.inl rfl, Or.inl rfl, Or.inl rfl, trivial⟩
  · skip
    refine T_iconst (pc' := 9) dX12_qDoes_8 (by decide) rfl ?_
    exact T_iret dX12_qDoes_9 rfl ⟨rfl, hG, (by rw [hQ]; exact ⟨(by unfold fX12_qDoes; simp only [if_pos c2]), rfl⟩)⟩
def lX12_qDoing_5  : Nat → Int → Int → Int → Int → Mem → Int
  | 0, v1, v2, v3, v4, M => v3
  | k + 1, v1, v2, v3, v4, M => (lX12_qDoing_5 k v1 v2 (if (fX12_qDoes M v4 v2) = v1 then (wr32 (v3 + 1)) else v3) (v4 + 1) M)
def nlX12_qDoing_5  : Nat → Int → Int → Int → Int → Mem → Prop
  | 0, v1, v2, v3, v4, M => True
  | k + 1, v1, v2, v3, v4, M => ((nX12_qDoes M v4 v2)) ∧ ((nlX12_qDoing_5 k v1 v2 (if (fX12_qDoes M v4 v2) = v1 then (wr32 (v3 + 1)) else v3) (v4 + 1) M))
set_option maxRecDepth 100000 in
set_option maxHeartbeats 2000000 in
theorem qX12_qDoing_5 {E : EV} {h : Int} {Q : Option MV → Mem → Prop}   : ∀ (k : Nat) (v1 v2 v3 v4 : Int) (M : Mem), 0 ≤ v4 → (((fX12_peopleMany M)) - v4).toNat = k → (nlX12_qDoing_5 k v1 v2 v3 v4 M) → Q (some (1, (lX12_qDoing_5 k v1 v2 v3 v4 M))) M → G h M → TG E miX12_qDoing 5 h Q 5 [(2, 66), (0, v1), (0, v2), (0, v3), (0, v4)] [] M := by
  intro k
  induction k with
  | zero =>
    intro v1 v2 v3 v4 M hv0 hk hs hQ hG
    have hQ : Q (some (1, v3)) M := hQ
    have hs : True := hs
    refine T_iload (i := 4) (pc' := 7) dX12_qDoing_5 rfl rfl ?_
    refine T_aload_n (i := 0) (pc' := 8) dX12_qDoing_7 rfl rfl rfl ?_
    refine T_callV (av := []) (st := [(0, v4)]) (d2 := 1) (nc2 := 0) (ns2 := 0) (pc' := 11) dX12_qDoing_8 rfl mtX12_peopleMany mvX12_peopleMany mlX12_349 cl12 rfl rfl rfl (Nat.le_of_ble_eq_true rfl) (by decide) ⟨by decide, by decide⟩ rfl (pX12_peopleMany (E := E) (h := h) (M := M) hG) (kF (st2 := [(0, (fX12_peopleMany M)), (0, v4)]) rfl (fun hG1 => ?_))
    refine T_rng (fun _ z9 _ => ?_)
    have hB : r32 (fX12_peopleMany M) := (ok_cons.mp z9).1
    unfold r32 at hB
    refine T_icmp_ge (pc' := 34) dX12_qDoing_11 (by decide) (pf := 14) rfl (fun c2 => ?_) (fun c2 => ?_)
    · skip
      refine T_iload_n (i := 3) (pc' := 35) dX12_qDoing_34 rfl rfl rfl ?_
      refine T_i2l (pc' := 36) dX12_qDoing_35 rfl ?_
      exact T_lret dX12_qDoing_36 rfl ⟨rfl, hG, hQ⟩
    · exact absurd c2 (by omega)
  | succ k ih =>
    intro v1 v2 v3 v4 M hv0 hk hs hQ hG
    have hQ : Q (some (1, (lX12_qDoing_5 k v1 v2 (if (fX12_qDoes M v4 v2) = v1 then (wr32 (v3 + 1)) else v3) (v4 + 1) M))) M := hQ
    have hs : ((nX12_qDoes M v4 v2)) ∧ ((nlX12_qDoing_5 k v1 v2 (if (fX12_qDoes M v4 v2) = v1 then (wr32 (v3 + 1)) else v3) (v4 + 1) M)) := hs
    obtain ⟨n1, n2⟩ := hs
    refine T_iload (i := 4) (pc' := 7) dX12_qDoing_5 rfl rfl ?_
    refine T_aload_n (i := 0) (pc' := 8) dX12_qDoing_7 rfl rfl rfl ?_
    refine T_callV (av := []) (st := [(0, v4)]) (d2 := 1) (nc2 := 0) (ns2 := 0) (pc' := 11) dX12_qDoing_8 rfl mtX12_peopleMany mvX12_peopleMany mlX12_349 cl12 rfl rfl rfl (Nat.le_of_ble_eq_true rfl) (by decide) ⟨by decide, by decide⟩ rfl (pX12_peopleMany (E := E) (h := h) (M := M) hG) (kF (st2 := [(0, (fX12_peopleMany M)), (0, v4)]) rfl (fun hG1 => ?_))
    refine T_rng (fun _ z9 _ => ?_)
    have hB : r32 (fX12_peopleMany M) := (ok_cons.mp z9).1
    unfold r32 at hB
    refine T_icmp_ge (pc' := 34) dX12_qDoing_11 (by decide) (pf := 14) rfl (fun c2 => ?_) (fun c2 => ?_)
    · exact absurd c2 (by omega)
    · skip
      have hw : wr32 (v4 + 1) = v4 + 1 := wr32_id (by unfold r32; omega)
      refine T_aload_n (i := 0) (pc' := 15) dX12_qDoing_14 rfl rfl rfl ?_
      refine T_iload (i := 4) (pc' := 17) dX12_qDoing_15 rfl rfl ?_
      refine T_iload_n (i := 2) (pc' := 18) dX12_qDoing_17 rfl rfl rfl ?_
      refine T_callV (av := [(0, v4), (0, v2)]) (st := []) (d2 := 4) (nc2 := 0) (ns2 := 0) (pc' := 21) dX12_qDoing_18 rfl mtX12_qDoes mvX12_qDoes mlX12_606 cl12 rfl rfl rfl (Nat.le_of_ble_eq_true rfl) (by decide) ⟨by decide, by decide⟩ rfl (pX12_qDoes (E := E) (h := h) (M := M) (v1 := v4) (v2 := v2) (n1) hG) (kF (st2 := [(0, (fX12_qDoes M v4 v2))]) rfl (fun hG3 => ?_))
      refine T_iload_n (i := 1) (pc' := 22) dX12_qDoing_21 rfl rfl rfl ?_
      have HJ4 : T E miX12_qDoing 5 126 0 0 (fun r S M' => S = S0 ∧ G h M' ∧ Q r M') 28 [(2, 66), (0, v1), (0, v2), (0, (if (fX12_qDoes M v4 v2) = v1 then (wr32 (v3 + 1)) else v3)), (0, v4)] [] S0 M 0 0 := by
        refine T_iinc (L' := [(2, 66), (0, v1), (0, v2), (0, (if (fX12_qDoes M v4 v2) = v1 then (wr32 (v3 + 1)) else v3)), (0, (wr32 (v4 + 1)))]) (pc' := 31) dX12_qDoing_28 rfl (by decide) rfl rfl ?_
        refine T_goto (pc' := 5) dX12_qDoing_31 (by decide) ?_
        rw [hw]
        exact T_wk (ih _ _ _ (v4 + 1) _ (by omega) (by omega) (n2) hQ hG) ⟨Or.inr rfl, Or.inr rfl, Or.inr rfl, Or.inr rfl, Or.inr rfl, trivial⟩
      refine T_icmp_ne (pc' := 28) dX12_qDoing_22 (by decide) (pf := 25) rfl (fun c5 => ?_) (fun c5 => ?_)
      · skip
        exact T_wk (L' := [(2, 66), (0, v1), (0, v2), (0, v3), (0, v4)]) (by have q := HJ4; try simp only [if_neg c5] at q; exact q) ⟨Or.inr rfl, Or.inr rfl, Or.inr rfl, Or.inr rfl, Or.inr rfl, trivial⟩
      · skip
        refine T_iinc (L' := [(2, 66), (0, v1), (0, v2), (0, (wr32 (v3 + 1))), (0, v4)]) (pc' := 28) dX12_qDoing_25 rfl (by decide) rfl rfl ?_
        exact T_wk (L' := [(2, 66), (0, v1), (0, v2), (0, (wr32 (v3 + 1))), (0, v4)]) (by have q := HJ4; try simp only [if_pos c5] at q; exact q) ⟨Or.inr rfl, Or.inr rfl, Or.inr rfl, Or.inr rfl, Or.inr rfl, trivial⟩
def fX12_qDoing (M : Mem) (v1 : Int) (v2 : Int) : Int :=
  (lX12_qDoing_5 ((((fX12_peopleMany M)) : Int) - 0).toNat v1 v2 0 0 M)
def nX12_qDoing (M : Mem) (v1 : Int) (v2 : Int) : Prop :=
  ((nlX12_qDoing_5 ((((fX12_peopleMany M)) : Int) - 0).toNat v1 v2 0 0 M))
set_option maxRecDepth 100000 in
theorem pX12_qDoing {E : EV} {h : Int} {M : Mem} {v1 : Int} {v2 : Int} (hs : (nX12_qDoing M v1 v2)) : C2 E miX12_qDoing 5 h [(2, 66), (0, v1), (0, v2)] M (fun r M' => r = some (1, (fX12_qDoing M v1 v2)) ∧ M' = M) := by
  obtain ⟨Q, hQ0⟩ : ∃ Q : Option MV → Mem → Prop, Q = (fun r M' => r = some (1, (fX12_qDoing M v1 v2)) ∧ M' = M) := ⟨_, rfl⟩
  rw [← hQ0]
  have hQ : Q (some (1, (lX12_qDoing_5 ((((fX12_peopleMany M)) : Int) - 0).toNat v1 v2 0 0 M))) M := by rw [hQ0]; exact ⟨rfl, rfl⟩
  have o1 := hs
  refine C2_of (L := [(2, 66), (0, v1), (0, v2), (3, 0), (3, 0)]) (by decide +kernel) (Nat.le_of_ble_eq_true rfl) rfl (fun hG => ?_)
  refine T_iconst (pc' := 1) dX12_qDoing_0 (by decide) rfl ?_
  refine T_istore_n (i := 3) (L' := [(2, 66), (0, v1), (0, v2), (0, 0), (3, 0)]) (pc' := 2) dX12_qDoing_1 rfl (by decide) rfl rfl ?_
  refine T_iconst (pc' := 3) dX12_qDoing_2 (by decide) rfl ?_
  refine T_istore (i := 4) (L' := [(2, 66), (0, v1), (0, v2), (0, 0), (0, 0)]) (pc' := 5) dX12_qDoing_3 (by decide) rfl rfl ?_
  exact T_wk (qX12_qDoing_5  _ v1 v2 0 0 _ (by first | decide | omega) rfl (o1) hQ hG) ⟨Or.inr rfl, Or.inr rfl, Or.inr rfl, Or.inr rfl, Or.inr rfl, trivial⟩
def fX12_qPartOf (M : Mem) (v1 : Int) (v2 : Int) : Int :=
  (if v1 = 0 then v2 else (if v1 = 1 then (fX12_qDoing M 2 v2) else (if v1 = 2 then (fX12_qDoing M 1 v2) else (if v1 = 3 then (fX12_qDoing M 3 v2) else (if v1 = 4 then (fX12_qDoing M 4 v2) else (if (M 66 51) = (-1) then (0 : Int) else (if v2 < (M 66 51) then (0 : Int) else 1)))))))
def nX12_qPartOf (M : Mem) (v1 : Int) (v2 : Int) : Prop :=
  (¬ (v1 = 0) → v1 = 1 → (nX12_qDoing M 2 v2)) ∧ (¬ (v1 = 0) → ¬ (v1 = 1) → v1 = 2 → (nX12_qDoing M 1 v2)) ∧ (¬ (v1 = 0) → ¬ (v1 = 1) → ¬ (v1 = 2) → v1 = 3 → (nX12_qDoing M 3 v2)) ∧ (¬ (v1 = 0) → ¬ (v1 = 1) → ¬ (v1 = 2) → ¬ (v1 = 3) → v1 = 4 → (nX12_qDoing M 4 v2))
set_option maxRecDepth 100000 in
theorem pX12_qPartOf {E : EV} {h : Int} {M : Mem} {v1 : Int} {v2 : Int} (hs : (nX12_qPartOf M v1 v2)) : C2 E miX12_qPartOf 6 h [(2, 66), (0, v1), (0, v2)] M (fun r M' => r = some (1, (fX12_qPartOf M v1 v2)) ∧ M' = M) := by
  obtain ⟨Q, hQ⟩ : ∃ Q : Option MV → Mem → Prop, Q = (fun r M' => r = some (1, (fX12_qPartOf M v1 v2)) ∧ M' = M) := ⟨_, rfl⟩
  rw [← hQ]
  obtain ⟨o1, o2, o3, o4⟩ := hs
  refine C2_of (L := [(2, 66), (0, v1), (0, v2)]) (by decide +kernel) (Nat.le_of_ble_eq_true rfl) rfl (fun hG => ?_)
  refine T_iload_n (i := 1) (pc' := 1) dX12_qPartOf_0 rfl rfl rfl ?_
  by_cases c1 : v1 = 0
  · skip
    refine T_tableIn (pc' := 36) dX12_qPartOf_1 (by omega) (by omega) (by rw [c1]; rfl) (by decide) ?_
    refine T_iload_n (i := 2) (pc' := 37) dX12_qPartOf_36 rfl rfl rfl ?_
    refine T_i2l (pc' := 38) dX12_qPartOf_37 rfl ?_
    exact T_lret dX12_qPartOf_38 rfl ⟨rfl, hG, (by rw [hQ]; exact ⟨(by unfold fX12_qPartOf; simp only [if_pos c1]), rfl⟩)⟩
  · skip
    by_cases c2 : v1 = 1
    · skip
      refine T_tableIn (pc' := 39) dX12_qPartOf_1 (by omega) (by omega) (by rw [c2]; rfl) (by decide) ?_
      refine T_aload_n (i := 0) (pc' := 40) dX12_qPartOf_39 rfl rfl rfl ?_
      refine T_iconst (pc' := 41) dX12_qPartOf_40 (by decide) rfl ?_
      refine T_iload_n (i := 2) (pc' := 42) dX12_qPartOf_41 rfl rfl rfl ?_
      refine T_callV (av := [(0, 2), (0, v2)]) (st := []) (d2 := 5) (nc2 := 0) (ns2 := 0) (pc' := 45) dX12_qPartOf_42 rfl mtX12_qDoing mvX12_qDoing mlX12_602 cl12 rfl rfl rfl (Nat.le_of_ble_eq_true rfl) (by decide) ⟨by decide, by decide⟩ rfl (pX12_qDoing (E := E) (h := h) (M := M) (v1 := 2) (v2 := v2) (o1 c1 c2) hG) (kF (st2 := [(1, (fX12_qDoing M 2 v2))]) rfl (fun hG3 => ?_))
      exact T_lret dX12_qPartOf_45 rfl ⟨rfl, hG, (by rw [hQ]; exact ⟨(by unfold fX12_qPartOf; simp only [if_neg c1, if_pos c2]), rfl⟩)⟩
    · skip
      by_cases c4 : v1 = 2
      · skip
        refine T_tableIn (pc' := 46) dX12_qPartOf_1 (by omega) (by omega) (by rw [c4]; rfl) (by decide) ?_
        refine T_aload_n (i := 0) (pc' := 47) dX12_qPartOf_46 rfl rfl rfl ?_
        refine T_iconst (pc' := 48) dX12_qPartOf_47 (by decide) rfl ?_
        refine T_iload_n (i := 2) (pc' := 49) dX12_qPartOf_48 rfl rfl rfl ?_
        refine T_callV (av := [(0, 1), (0, v2)]) (st := []) (d2 := 5) (nc2 := 0) (ns2 := 0) (pc' := 52) dX12_qPartOf_49 rfl mtX12_qDoing mvX12_qDoing mlX12_602 cl12 rfl rfl rfl (Nat.le_of_ble_eq_true rfl) (by decide) ⟨by decide, by decide⟩ rfl (pX12_qDoing (E := E) (h := h) (M := M) (v1 := 1) (v2 := v2) (o2 c1 c2 c4) hG) (kF (st2 := [(1, (fX12_qDoing M 1 v2))]) rfl (fun hG5 => ?_))
        exact T_lret dX12_qPartOf_52 rfl ⟨rfl, hG, (by rw [hQ]; exact ⟨(by unfold fX12_qPartOf; simp only [if_neg c1, if_neg c2, if_pos c4]), rfl⟩)⟩
      · skip
        by_cases c6 : v1 = 3
        · skip
          refine T_tableIn (pc' := 53) dX12_qPartOf_1 (by omega) (by omega) (by rw [c6]; rfl) (by decide) ?_
          refine T_aload_n (i := 0) (pc' := 54) dX12_qPartOf_53 rfl rfl rfl ?_
          refine T_iconst (pc' := 55) dX12_qPartOf_54 (by decide) rfl ?_
          refine T_iload_n (i := 2) (pc' := 56) dX12_qPartOf_55 rfl rfl rfl ?_
          refine T_callV (av := [(0, 3), (0, v2)]) (st := []) (d2 := 5) (nc2 := 0) (ns2 := 0) (pc' := 59) dX12_qPartOf_56 rfl mtX12_qDoing mvX12_qDoing mlX12_602 cl12 rfl rfl rfl (Nat.le_of_ble_eq_true rfl) (by decide) ⟨by decide, by decide⟩ rfl (pX12_qDoing (E := E) (h := h) (M := M) (v1 := 3) (v2 := v2) (o3 c1 c2 c4 c6) hG) (kF (st2 := [(1, (fX12_qDoing M 3 v2))]) rfl (fun hG7 => ?_))
          exact T_lret dX12_qPartOf_59 rfl ⟨rfl, hG, (by rw [hQ]; exact ⟨(by unfold fX12_qPartOf; simp only [if_neg c1, if_neg c2, if_neg c4, if_pos c6]), rfl⟩)⟩
        · skip
          by_cases c8 : v1 = 4
          · skip
            refine T_tableIn (pc' := 60) dX12_qPartOf_1 (by omega) (by omega) (by rw [c8]; rfl) (by decide) ?_
            refine T_aload_n (i := 0) (pc' := 61) dX12_qPartOf_60 rfl rfl rfl ?_
            refine T_iconst (pc' := 62) dX12_qPartOf_61 (by decide) rfl ?_
            refine T_iload_n (i := 2) (pc' := 63) dX12_qPartOf_62 rfl rfl rfl ?_
            refine T_callV (av := [(0, 4), (0, v2)]) (st := []) (d2 := 5) (nc2 := 0) (ns2 := 0) (pc' := 66) dX12_qPartOf_63 rfl mtX12_qDoing mvX12_qDoing mlX12_602 cl12 rfl rfl rfl (Nat.le_of_ble_eq_true rfl) (by decide) ⟨by decide, by decide⟩ rfl (pX12_qDoing (E := E) (h := h) (M := M) (v1 := 4) (v2 := v2) (o4 c1 c2 c4 c6 c8) hG) (kF (st2 := [(1, (fX12_qDoing M 4 v2))]) rfl (fun hG9 => ?_))
            exact T_lret dX12_qPartOf_66 rfl ⟨rfl, hG, (by rw [hQ]; exact ⟨(by unfold fX12_qPartOf; simp only [if_neg c1, if_neg c2, if_neg c4, if_neg c6, if_pos c8]), rfl⟩)⟩
          · skip
            refine T_tableOut (pc' := 67) dX12_qPartOf_1 (by omega) (by decide) ?_
            refine T_aload_n (i := 0) (pc' := 68) dX12_qPartOf_67 rfl rfl rfl ?_
            refine U_gf (v := (0, (M 66 51))) (k := 51) (kI := 51) (pc' := 71) dX12_qPartOf_68 rfl cl12 (by decide) rfl (by decide) flX12_370 rfl rfl (by decide) rfl rfl ?_
            refine T_iconst (pc' := 72) dX12_qPartOf_71 (by decide) rfl ?_
            have HJ10 : T E miX12_qPartOf 6 126 0 0 (fun r S M' => S = S0 ∧ G h M' ∧ Q r M') 88 [(3, 0), (3, 0), (3, 0)] [(1, (if (M 66 51) = (-1) then (0 : Int) else (if v2 < (M 66 51) then (0 : Int) else 1)))] S0 M 0 0 := by
              exact T_lret dX12_qPartOf_88 rfl ⟨rfl, hG, (by rw [hQ]; exact ⟨(by unfold fX12_qPartOf; simp only [if_neg c1, if_neg c2, if_neg c4, if_neg c6, if_neg c8]), rfl⟩)⟩
            refine T_icmp_eq (pc' := 87) dX12_qPartOf_72 (by decide) (pf := 75) rfl (fun c11 => ?_) (fun c11 => ?_)
            · skip
              refine T_lconst (v := 0) (pc' := 88) dX12_qPartOf_87 rfl (by decide) rfl ?_
              exact T_wk (L' := [(3, 0), (3, 0), (3, 0)]) (by have q := HJ10; try simp only [if_pos c11] at q; exact q) ⟨Or.inl rfl, Or.inl rfl, Or.inl rfl, trivial⟩
            · skip
              refine T_aload_n (i := 0) (pc' := 76) dX12_qPartOf_75 rfl rfl rfl ?_
              refine U_gf (v := (0, (M 66 51))) (k := 51) (kI := 51) (pc' := 79) dX12_qPartOf_76 rfl cl12 (by decide) rfl (by decide) flX12_370 rfl rfl (by decide) rfl rfl ?_
              refine T_iload_n (i := 2) (pc' := 80) dX12_qPartOf_79 rfl rfl rfl ?_
              refine T_icmp_gt (pc' := 87) dX12_qPartOf_80 (by decide) (pf := 83) rfl (fun c12 => ?_) (fun c12 => ?_)
              · skip
                refine T_lconst (v := 0) (pc' := 88) dX12_qPartOf_87 rfl (by decide) rfl ?_
                exact T_wk (L' := [(3, 0), (3, 0), (3, 0)]) (by have q := HJ10; try simp only [if_neg c11] at q; try simp only [if_pos c12] at q; exact q) ⟨Or.inl rfl, Or.inl rfl, Or.inl rfl, trivial⟩
              · skip
                refine T_lconst (v := 1) (pc' := 84) dX12_qPartOf_83 rfl (by decide) rfl ?_
                refine T_goto (pc' := 88) dX12_qPartOf_84 (by decide) ?_
                exact T_wk (L' := [(3, 0), (3, 0), (3, 0)]) (by have q := HJ10; try simp only [if_neg c11] at q; try simp only [if_neg c12] at q; exact q) ⟨Or.inl rfl, Or.inl rfl, Or.inl rfl, trivial⟩
def fX12_qOf (M : Mem) (v1 : Int) (v2 : Int) (v4 : Int) : Int :=
  (if v1 = 0 then (if (fX12_isIn v2 0 (wr32 ((fX12_peopleMany M) - 1))) = 0 then (99 : Int) else (if (fX12_qDoes M (wr32 v2) v4) ≤ 0 then (99 : Int) else (if 4 ≤ (fX12_qDoes M (wr32 v2) v4) then (99 : Int) else (fX12_whereIn M (wr32 v2) v4)))) else (if (fX12_isIn v2 0 (wr32 ((fX12_peopleMany M) - 1))) = 0 then (0 : Int) else (fX12_qDoes M (wr32 v2) v4)))
def nX12_qOf (M : Mem) (v1 : Int) (v2 : Int) (v4 : Int) : Prop :=
  (v1 = 0 → ¬ ((fX12_isIn v2 0 (wr32 ((fX12_peopleMany M) - 1))) = 0) → (nX12_qDoes M (wr32 v2) v4)) ∧ (v1 = 0 → ¬ ((fX12_isIn v2 0 (wr32 ((fX12_peopleMany M) - 1))) = 0) → ¬ ((fX12_qDoes M (wr32 v2) v4) ≤ 0) → (nX12_qDoes M (wr32 v2) v4)) ∧ (v1 = 0 → ¬ ((fX12_isIn v2 0 (wr32 ((fX12_peopleMany M) - 1))) = 0) → ¬ ((fX12_qDoes M (wr32 v2) v4) ≤ 0) → ¬ (4 ≤ (fX12_qDoes M (wr32 v2) v4)) → (nX12_whereIn (wr32 v2) v4)) ∧ (¬ (v1 = 0) → ¬ ((fX12_isIn v2 0 (wr32 ((fX12_peopleMany M) - 1))) = 0) → (nX12_qDoes M (wr32 v2) v4))
set_option maxRecDepth 100000 in
theorem pX12_qOf {E : EV} {h : Int} {M : Mem} {v1 : Int} {v2 : Int} {v4 : Int} (hs : (nX12_qOf M v1 v2 v4)) : C2 E miX12_qOf 5 h [(2, 66), (0, v1), (1, v2), (0, v4)] M (fun r M' => r = some (1, (fX12_qOf M v1 v2 v4)) ∧ M' = M) := by
  obtain ⟨Q, hQ⟩ : ∃ Q : Option MV → Mem → Prop, Q = (fun r M' => r = some (1, (fX12_qOf M v1 v2 v4)) ∧ M' = M) := ⟨_, rfl⟩
  rw [← hQ]
  obtain ⟨o1, o2, o3, o4⟩ := hs
  refine C2_of (L := [(2, 66), (0, v1), (1, v2), (3, 0), (0, v4)]) (by decide +kernel) (Nat.le_of_ble_eq_true rfl) rfl (fun hG => ?_)
  refine T_iload_n (i := 1) (pc' := 1) dX12_qOf_0 rfl rfl rfl ?_
  by_cases c1 : v1 = 0
  · skip
    refine T_lookup (pc' := 20) dX12_qOf_1 (by decide) (by rw [c1] <;> rfl) (by decide) ?_
    refine T_lload_n (i := 2) (pc' := 21) dX12_qOf_20 rfl rfl rfl ?_
    refine T_lconst (v := 0) (pc' := 22) dX12_qOf_21 rfl (by decide) rfl ?_
    refine T_aload_n (i := 0) (pc' := 23) dX12_qOf_22 rfl rfl rfl ?_
    refine T_callV (av := []) (st := [(1, 0), (1, v2)]) (d2 := 1) (nc2 := 0) (ns2 := 0) (pc' := 26) dX12_qOf_23 rfl mtX12_peopleMany mvX12_peopleMany mlX12_349 cl12 rfl rfl rfl (Nat.le_of_ble_eq_true rfl) (by decide) ⟨by decide, by decide⟩ rfl (pX12_peopleMany (E := E) (h := h) (M := M) hG) (kF (st2 := [(0, (fX12_peopleMany M)), (1, 0), (1, v2)]) rfl (fun hG2 => ?_))
    refine T_iconst (pc' := 27) dX12_qOf_26 (by decide) rfl ?_
    refine T_isub (pc' := 28) dX12_qOf_27 rfl ?_
    refine T_i2l (pc' := 29) dX12_qOf_28 rfl ?_
    refine T_callS (av := [(1, v2), (1, 0), (1, (wr32 ((fX12_peopleMany M) - 1)))]) (st := []) (d2 := 1) (nc2 := 0) (ns2 := 0) (pc' := 32) dX12_qOf_29 rfl mtX12_isIn mvX12_isIn mlX12_244 rfl rfl (Nat.le_of_ble_eq_true rfl) (by decide) ⟨by decide, by decide⟩ rfl (pX12_isIn (E := E) (h := h) (M := M) (v0 := v2) (v2 := 0) (v4 := (wr32 ((fX12_peopleMany M) - 1))) hG) (kF (st2 := [(0, (fX12_isIn v2 0 (wr32 ((fX12_peopleMany M) - 1))))]) rfl (fun hG3 => ?_))
    have HJ4 : T E miX12_qOf 5 126 0 0 (fun r S M' => S = S0 ∧ G h M' ∧ Q r M') 73 [(3, 0), (3, 0), (3, 0), (3, 0), (3, 0)] [(1, (if (fX12_isIn v2 0 (wr32 ((fX12_peopleMany M) - 1))) = 0 then (99 : Int) else (if (fX12_qDoes M (wr32 v2) v4) ≤ 0 then (99 : Int) else (if 4 ≤ (fX12_qDoes M (wr32 v2) v4) then (99 : Int) else (fX12_whereIn M (wr32 v2) v4)))))] S0 M 0 0 := by
      exact T_lret dX12_qOf_73 rfl ⟨rfl, hG, (by rw [hQ]; exact ⟨(by unfold fX12_qOf; simp only [if_pos c1]), rfl⟩)⟩
    refine T_if_eq (pc' := 70) dX12_qOf_32 (by decide) (pf := 35) rfl (fun c5 => ?_) (fun c5 => ?_)
    · skip
      refine T_ldc2 (n := 99) (pc' := 73) dX12_qOf_70 rfl kjX12_609 rfl (by decide) rfl ?_
      exact T_wk (L' := [(3, 0), (3, 0), (3, 0), (3, 0), (3, 0)]) (by have q := HJ4; try simp only [if_pos c5] at q; exact q) ⟨Or.inl rfl, Or.inl rfl, Or.inl rfl, Or.inl rfl, Or.inl rfl, trivial⟩
    · skip
      refine T_aload_n (i := 0) (pc' := 36) dX12_qOf_35 rfl rfl rfl ?_
      refine T_lload_n (i := 2) (pc' := 37) dX12_qOf_36 rfl rfl rfl ?_
      refine T_l2i (pc' := 38) dX12_qOf_37 rfl ?_
      refine T_iload (i := 4) (pc' := 40) dX12_qOf_38 rfl rfl ?_
      refine T_callV (av := [(0, (wr32 v2)), (0, v4)]) (st := []) (d2 := 4) (nc2 := 0) (ns2 := 0) (pc' := 43) dX12_qOf_40 rfl mtX12_qDoes mvX12_qDoes mlX12_606 cl12 rfl rfl rfl (Nat.le_of_ble_eq_true rfl) (by decide) ⟨by decide, by decide⟩ rfl (pX12_qDoes (E := E) (h := h) (M := M) (v1 := (wr32 v2)) (v2 := v4) (o1 c1 c5) hG) (kF (st2 := [(0, (fX12_qDoes M (wr32 v2) v4))]) rfl (fun hG6 => ?_))
      refine T_if_le (pc' := 70) dX12_qOf_43 (by decide) (pf := 46) rfl (fun c7 => ?_) (fun c7 => ?_)
      · skip
        refine T_ldc2 (n := 99) (pc' := 73) dX12_qOf_70 rfl kjX12_609 rfl (by decide) rfl ?_
        exact T_wk (L' := [(3, 0), (3, 0), (3, 0), (3, 0), (3, 0)]) (by have q := HJ4; try simp only [if_neg c5] at q; try simp only [if_pos c7] at q; exact q) ⟨Or.inl rfl, Or.inl rfl, Or.inl rfl, Or.inl rfl, Or.inl rfl, trivial⟩
      · skip
        refine T_aload_n (i := 0) (pc' := 47) dX12_qOf_46 rfl rfl rfl ?_
        refine T_lload_n (i := 2) (pc' := 48) dX12_qOf_47 rfl rfl rfl ?_
        refine T_l2i (pc' := 49) dX12_qOf_48 rfl ?_
        refine T_iload (i := 4) (pc' := 51) dX12_qOf_49 rfl rfl ?_
        refine T_callV (av := [(0, (wr32 v2)), (0, v4)]) (st := []) (d2 := 4) (nc2 := 0) (ns2 := 0) (pc' := 54) dX12_qOf_51 rfl mtX12_qDoes mvX12_qDoes mlX12_606 cl12 rfl rfl rfl (Nat.le_of_ble_eq_true rfl) (by decide) ⟨by decide, by decide⟩ rfl (pX12_qDoes (E := E) (h := h) (M := M) (v1 := (wr32 v2)) (v2 := v4) (o2 c1 c5 c7) hG) (kF (st2 := [(0, (fX12_qDoes M (wr32 v2) v4))]) rfl (fun hG8 => ?_))
        refine T_iconst (pc' := 55) dX12_qOf_54 (by decide) rfl ?_
        refine T_icmp_ge (pc' := 70) dX12_qOf_55 (by decide) (pf := 58) rfl (fun c9 => ?_) (fun c9 => ?_)
        · skip
          refine T_ldc2 (n := 99) (pc' := 73) dX12_qOf_70 rfl kjX12_609 rfl (by decide) rfl ?_
          exact T_wk (L' := [(3, 0), (3, 0), (3, 0), (3, 0), (3, 0)]) (by have q := HJ4; try simp only [if_neg c5] at q; try simp only [if_neg c7] at q; try simp only [if_pos c9] at q; exact q) ⟨Or.inl rfl, Or.inl rfl, Or.inl rfl, Or.inl rfl, Or.inl rfl, trivial⟩
        · skip
          refine T_aload_n (i := 0) (pc' := 59) dX12_qOf_58 rfl rfl rfl ?_
          refine T_lload_n (i := 2) (pc' := 60) dX12_qOf_59 rfl rfl rfl ?_
          refine T_l2i (pc' := 61) dX12_qOf_60 rfl ?_
          refine T_iload (i := 4) (pc' := 63) dX12_qOf_61 rfl rfl ?_
          refine T_callV (av := [(0, (wr32 v2)), (0, v4)]) (st := []) (d2 := 1) (nc2 := 0) (ns2 := 0) (pc' := 66) dX12_qOf_63 rfl mtX12_whereIn mvX12_whereIn mlX12_383 cl12 rfl rfl rfl (Nat.le_of_ble_eq_true rfl) (by decide) ⟨by decide, by decide⟩ rfl (pX12_whereIn (E := E) (h := h) (M := M) (v1 := (wr32 v2)) (v2 := v4) (o3 c1 c5 c7 c9) hG) (kF (st2 := [(0, (fX12_whereIn M (wr32 v2) v4))]) rfl (fun hG10 => ?_))
          refine T_i2l (pc' := 67) dX12_qOf_66 rfl ?_
          refine T_goto (pc' := 73) dX12_qOf_67 (by decide) ?_
          exact T_wk (L' := [(3, 0), (3, 0), (3, 0), (3, 0), (3, 0)]) (by have q := HJ4; try simp only [if_neg c5] at q; try simp only [if_neg c7] at q; try simp only [if_neg c9] at q; exact q) ⟨Or.inl rfl, Or.inl rfl, Or.inl rfl, Or.inl rfl, Or.inl rfl, trivial⟩
  · skip
    refine T_lookup (off := 73) (pc' := 74) dX12_qOf_1 (by decide) (by show (if 0 = v1 then 19 else 73) = 73; rw [if_neg (fun z => c1 z.symm)]) (by decide) ?_
    refine T_lload_n (i := 2) (pc' := 75) dX12_qOf_74 rfl rfl rfl ?_
    refine T_lconst (v := 0) (pc' := 76) dX12_qOf_75 rfl (by decide) rfl ?_
    refine T_aload_n (i := 0) (pc' := 77) dX12_qOf_76 rfl rfl rfl ?_
    refine T_callV (av := []) (st := [(1, 0), (1, v2)]) (d2 := 1) (nc2 := 0) (ns2 := 0) (pc' := 80) dX12_qOf_77 rfl mtX12_peopleMany mvX12_peopleMany mlX12_349 cl12 rfl rfl rfl (Nat.le_of_ble_eq_true rfl) (by decide) ⟨by decide, by decide⟩ rfl (pX12_peopleMany (E := E) (h := h) (M := M) hG) (kF (st2 := [(0, (fX12_peopleMany M)), (1, 0), (1, v2)]) rfl (fun hG11 => ?_))
    refine T_iconst (pc' := 81) dX12_qOf_80 (by decide) rfl ?_
    refine T_isub (pc' := 82) dX12_qOf_81 rfl ?_
    refine T_i2l (pc' := 83) dX12_qOf_82 rfl ?_
    refine T_callS (av := [(1, v2), (1, 0), (1, (wr32 ((fX12_peopleMany M) - 1)))]) (st := []) (d2 := 1) (nc2 := 0) (ns2 := 0) (pc' := 86) dX12_qOf_83 rfl mtX12_isIn mvX12_isIn mlX12_244 rfl rfl (Nat.le_of_ble_eq_true rfl) (by decide) ⟨by decide, by decide⟩ rfl (pX12_isIn (E := E) (h := h) (M := M) (v0 := v2) (v2 := 0) (v4 := (wr32 ((fX12_peopleMany M) - 1))) hG) (kF (st2 := [(0, (fX12_isIn v2 0 (wr32 ((fX12_peopleMany M) - 1))))]) rfl (fun hG12 => ?_))
    have HJ13 : T E miX12_qOf 5 126 0 0 (fun r S M' => S = S0 ∧ G h M' ∧ Q r M') 102 [(3, 0), (3, 0), (3, 0), (3, 0), (3, 0)] [(1, (if (fX12_isIn v2 0 (wr32 ((fX12_peopleMany M) - 1))) = 0 then (0 : Int) else (fX12_qDoes M (wr32 v2) v4)))] S0 M 0 0 := by
      exact T_lret dX12_qOf_102 rfl ⟨rfl, hG, (by rw [hQ]; exact ⟨(by unfold fX12_qOf; simp only [if_neg c1]), rfl⟩)⟩
    refine T_if_eq (pc' := 101) dX12_qOf_86 (by decide) (pf := 89) rfl (fun c14 => ?_) (fun c14 => ?_)
    · skip
      refine T_lconst (v := 0) (pc' := 102) dX12_qOf_101 rfl (by decide) rfl ?_
      exact T_wk (L' := [(3, 0), (3, 0), (3, 0), (3, 0), (3, 0)]) (by have q := HJ13; try simp only [if_pos c14] at q; exact q) ⟨Or.inl rfl, Or.inl rfl, Or.inl rfl, Or.inl rfl, Or.inl rfl, trivial⟩
    · skip
      refine T_aload_n (i := 0) (pc' := 90) dX12_qOf_89 rfl rfl rfl ?_
      refine T_lload_n (i := 2) (pc' := 91) dX12_qOf_90 rfl rfl rfl ?_
      refine T_l2i (pc' := 92) dX12_qOf_91 rfl ?_
      refine T_iload (i := 4) (pc' := 94) dX12_qOf_92 rfl rfl ?_
      refine T_callV (av := [(0, (wr32 v2)), (0, v4)]) (st := []) (d2 := 4) (nc2 := 0) (ns2 := 0) (pc' := 97) dX12_qOf_94 rfl mtX12_qDoes mvX12_qDoes mlX12_606 cl12 rfl rfl rfl (Nat.le_of_ble_eq_true rfl) (by decide) ⟨by decide, by decide⟩ rfl (pX12_qDoes (E := E) (h := h) (M := M) (v1 := (wr32 v2)) (v2 := v4) (o4 c1 c14) hG) (kF (st2 := [(0, (fX12_qDoes M (wr32 v2) v4))]) rfl (fun hG15 => ?_))
      refine T_i2l (pc' := 98) dX12_qOf_97 rfl ?_
      refine T_goto (pc' := 102) dX12_qOf_98 (by decide) ?_
      exact T_wk (L' := [(3, 0), (3, 0), (3, 0), (3, 0), (3, 0)]) (by have q := HJ13; try simp only [if_neg c14] at q; exact q) ⟨Or.inl rfl, Or.inl rfl, Or.inl rfl, Or.inl rfl, Or.inl rfl, trivial⟩
def lX12_checked_6 (p0 : Int) (np0 : Nat) : Nat → Int → Int → Int → Mem → Int
  | 0, v1, v2, v3, M => v2
  | k + 1, v1, v2, v3, M => (lX12_checked_6 p0 np0 k v1 (Int.tmod (wr32 ((wr32 (3 * v2)) + (M p0 v3))) 253) (v3 + 1) M)
def nlX12_checked_6 (p0 : Int) (np0 : Nat) : Nat → Int → Int → Int → Mem → Prop
  | 0, v1, v2, v3, M => True
  | k + 1, v1, v2, v3, M => (0 ≤ v3 ∧ v3 < np0) ∧ ((nlX12_checked_6 p0 np0 k v1 (Int.tmod (wr32 ((wr32 (3 * v2)) + (M p0 v3))) 253) (v3 + 1) M))
set_option maxRecDepth 100000 in
set_option maxHeartbeats 2000000 in
theorem qX12_checked_6 {E : EV} {h : Int} {Q : Option MV → Mem → Prop} {p0 : Int} {np0 : Nat} (h0p0 : 0 ≤ p0) (hSp0 : S0[p0.toNat]? = some (0, 0, np0)) (hnp0 : np0 < 2147483648) : ∀ (k : Nat) (v1 v2 v3 : Int) (M : Mem), 0 ≤ v3 → ((v1) - v3).toNat = k → (nlX12_checked_6 p0 np0 k v1 v2 v3 M) → Q (some (0, (lX12_checked_6 p0 np0 k v1 v2 v3 M))) M → G h M → TG E miX12_checked 1 h Q 6 [(2, p0), (0, v1), (0, v2), (0, v3)] [] M := by
  intro k
  induction k with
  | zero =>
    intro v1 v2 v3 M hv0 hk hs hQ hG
    have hQ : Q (some (0, v2)) M := hQ
    have hs : True := hs
    refine T_iload_n (i := 3) (pc' := 7) dX12_checked_6 rfl rfl rfl ?_
    refine T_iload_n (i := 1) (pc' := 8) dX12_checked_7 rfl rfl rfl ?_
    refine T_rng (fun _ z9 _ => ?_)
    have hB : r32 v1 := (ok_cons.mp z9).1
    unfold r32 at hB
    refine T_icmp_ge (pc' := 29) dX12_checked_8 (by decide) (pf := 11) rfl (fun c1 => ?_) (fun c1 => ?_)
    · skip
      refine T_iload_n (i := 2) (pc' := 30) dX12_checked_29 rfl rfl rfl ?_
      exact T_iret dX12_checked_30 rfl ⟨rfl, hG, hQ⟩
    · exact absurd c1 (by omega)
  | succ k ih =>
    intro v1 v2 v3 M hv0 hk hs hQ hG
    have hQ : Q (some (0, (lX12_checked_6 p0 np0 k v1 (Int.tmod (wr32 ((wr32 (3 * v2)) + (M p0 v3))) 253) (v3 + 1) M))) M := hQ
    have hs : (0 ≤ v3 ∧ v3 < np0) ∧ ((nlX12_checked_6 p0 np0 k v1 (Int.tmod (wr32 ((wr32 (3 * v2)) + (M p0 v3))) 253) (v3 + 1) M)) := hs
    obtain ⟨n1, n2⟩ := hs
    refine T_iload_n (i := 3) (pc' := 7) dX12_checked_6 rfl rfl rfl ?_
    refine T_iload_n (i := 1) (pc' := 8) dX12_checked_7 rfl rfl rfl ?_
    refine T_rng (fun _ z9 _ => ?_)
    have hB : r32 v1 := (ok_cons.mp z9).1
    unfold r32 at hB
    refine T_icmp_ge (pc' := 29) dX12_checked_8 (by decide) (pf := 11) rfl (fun c1 => ?_) (fun c1 => ?_)
    · exact absurd c1 (by omega)
    · skip
      have hw : wr32 (v3 + 1) = v3 + 1 := wr32_id (by unfold r32; omega)
      refine T_iconst (pc' := 12) dX12_checked_11 (by decide) rfl ?_
      refine T_iload_n (i := 2) (pc' := 13) dX12_checked_12 rfl rfl rfl ?_
      refine T_imul (pc' := 14) dX12_checked_13 rfl ?_
      refine T_aload_n (i := 0) (pc' := 15) dX12_checked_14 rfl rfl rfl ?_
      refine T_iload_n (i := 3) (pc' := 16) dX12_checked_15 rfl rfl rfl ?_
      refine T_iald (pc' := 17) dX12_checked_16 h0p0 hSp0 (n1).1 (n1).2 rfl ?_
      refine T_iadd (pc' := 18) dX12_checked_17 rfl ?_
      refine T_sipush (pc' := 21) dX12_checked_18 rfl (by decide) rfl ?_
      refine T_irem (pc' := 22) dX12_checked_21 (by decide) rfl ?_
      refine T_istore_n (i := 2) (L' := [(2, p0), (0, v1), (0, (Int.tmod (wr32 ((wr32 (3 * v2)) + (M p0 v3))) 253)), (0, v3)]) (pc' := 23) dX12_checked_22 rfl (by decide) rfl rfl ?_
      refine T_iinc (L' := [(2, p0), (0, v1), (0, (Int.tmod (wr32 ((wr32 (3 * v2)) + (M p0 v3))) 253)), (0, (wr32 (v3 + 1)))]) (pc' := 26) dX12_checked_23 rfl (by decide) rfl rfl ?_
      refine T_goto (pc' := 6) dX12_checked_26 (by decide) ?_
      rw [hw]
      exact T_wk (ih _ _ (v3 + 1) _ (by omega) (by omega) (n2) hQ hG) ⟨Or.inr rfl, Or.inr rfl, Or.inr rfl, Or.inr rfl, trivial⟩
def fX12_checked (M : Mem) (p0 : Int) (np0 : Nat) (v1 : Int) : Int :=
  (lX12_checked_6 p0 np0 (((v1) : Int) - 0).toNat v1 151 0 M)
def nX12_checked (M : Mem) (p0 : Int) (np0 : Nat) (v1 : Int) : Prop :=
  ((nlX12_checked_6 p0 np0 (((v1) : Int) - 0).toNat v1 151 0 M))
set_option maxRecDepth 100000 in
theorem pX12_checked {E : EV} {h : Int} {M : Mem} {p0 : Int} {np0 : Nat} {v1 : Int} (h0p0 : 0 ≤ p0) (hSp0 : S0[p0.toNat]? = some (0, 0, np0)) (hnp0 : np0 < 2147483648) (hs : (nX12_checked M p0 np0 v1)) : C2 E miX12_checked 1 h [(2, p0), (0, v1)] M (fun r M' => r = some (0, (fX12_checked M p0 np0 v1)) ∧ M' = M) := by
  obtain ⟨Q, hQ0⟩ : ∃ Q : Option MV → Mem → Prop, Q = (fun r M' => r = some (0, (fX12_checked M p0 np0 v1)) ∧ M' = M) := ⟨_, rfl⟩
  rw [← hQ0]
  have hQ : Q (some (0, (lX12_checked_6 p0 np0 (((v1) : Int) - 0).toNat v1 151 0 M))) M := by rw [hQ0]; exact ⟨rfl, rfl⟩
  have o1 := hs
  refine C2_of (L := [(2, p0), (0, v1), (3, 0), (3, 0)]) (by decide +kernel) (Nat.le_of_ble_eq_true rfl) rfl (fun hG => ?_)
  refine T_sipush (pc' := 3) dX12_checked_0 rfl (by decide) rfl ?_
  refine T_istore_n (i := 2) (L' := [(2, p0), (0, v1), (0, 151), (3, 0)]) (pc' := 4) dX12_checked_3 rfl (by decide) rfl rfl ?_
  refine T_iconst (pc' := 5) dX12_checked_4 (by decide) rfl ?_
  refine T_istore_n (i := 3) (L' := [(2, p0), (0, v1), (0, 151), (0, 0)]) (pc' := 6) dX12_checked_5 rfl (by decide) rfl rfl ?_
  exact T_wk (qX12_checked_6 h0p0 hSp0 hnp0 _ v1 151 0 _ (by first | decide | omega) rfl (o1) hQ hG) ⟨Or.inr rfl, Or.inr rfl, Or.inr rfl, Or.inr rfl, trivial⟩
def fmX12_writes (M : Mem) (v1 : Int) : Mem :=
  (mset (mset M 125 (M 66 89) v1) 66 89 (wr32 (((mset M 125 (M 66 89) v1) 66 89) + 1)))
def nX12_writes (M : Mem) : Prop :=
  (0 ≤ (M 66 89) ∧ (M 66 89) < 34)
theorem gX12_writes {h : Int} {M : Mem} {v1 : Int}  (hG : G h M) : G h (fmX12_writes M v1) := by
  unfold fmX12_writes
  exact (G_fld (x := 66) (i := 89) (y := (wr32 (((mset M 125 (M 66 89) v1) 66 89) + 1))) rfl (by decide) (by decide) (by decide) (G_arr (x := 125) (i := (M 66 89)) (y := v1) rfl (by decide) hG))
set_option maxRecDepth 100000 in
theorem pX12_writes {E : EV} {h : Int} {M : Mem} {v1 : Int} (hs : (nX12_writes M)) : C2 E miX12_writes 1 h [(2, 66), (0, v1)] M (fun r M' => r = none ∧ M' = (fmX12_writes M v1)) := by
  obtain ⟨Q, hQ⟩ : ∃ Q : Option MV → Mem → Prop, Q = (fun r M' => r = none ∧ M' = (fmX12_writes M v1)) := ⟨_, rfl⟩
  rw [← hQ]
  have o1 := hs
  refine C2_of (L := [(2, 66), (0, v1)]) (by decide +kernel) (Nat.le_of_ble_eq_true rfl) rfl (fun hG => ?_)
  refine T_aload_n (i := 0) (pc' := 1) dX12_writes_0 rfl rfl rfl ?_
  refine U_gr (q := 125) (k := 88) (kI := 88) (pc' := 4) dX12_writes_1 rfl cl12 (by decide) rfl (by decide) flX12_195 rfl rfl rfl (G_at hG 125 rfl) (by decide) rfl ?_
  refine T_aload_n (i := 0) (pc' := 5) dX12_writes_4 rfl rfl rfl ?_
  refine U_gf (v := (0, (M 66 89))) (k := 89) (kI := 89) (pc' := 8) dX12_writes_5 rfl cl12 (by decide) rfl (by decide) flX12_645 rfl rfl (by decide) rfl rfl ?_
  refine T_iload_n (i := 1) (pc' := 9) dX12_writes_8 rfl rfl rfl ?_
  refine T_iast (pc' := 10) dX12_writes_9 (by decide) rfl (o1).1 (o1).2 rfl ?_
  refine T_aload_n (i := 0) (pc' := 11) dX12_writes_10 rfl rfl rfl ?_
  refine T_dup (pc' := 12) dX12_writes_11 (Nat.ne_of_beq_eq_false rfl) rfl ?_
  refine U_gf (v := (0, ((mset M 125 (M 66 89) v1) 66 89))) (k := 89) (kI := 89) (pc' := 15) dX12_writes_12 rfl cl12 (by decide) rfl (by decide) flX12_645 rfl rfl (by decide) rfl rfl ?_
  refine T_iconst (pc' := 16) dX12_writes_15 (by decide) rfl ?_
  refine T_iadd (pc' := 17) dX12_writes_16 rfl ?_
  refine U_pf (y := (wr32 (((mset M 125 (M 66 89) v1) 66 89) + 1))) (k := 89) (kI := 89) (pc' := 20) dX12_writes_17 rfl cl12 (by decide) rfl (by decide) flX12_645 rfl rfl rfl rfl rfl (by decide) (fun z => z) rfl ?_
  exact T_vret dX12_writes_20 rfl ⟨rfl, (G_fld (x := 66) (i := 89) (y := (wr32 (((mset M 125 (M 66 89) v1) 66 89) + 1))) rfl (by decide) (by decide) (by decide) (G_arr (x := 125) (i := (M 66 89)) (y := v1) rfl (by decide) hG)), (by rw [hQ]; exact ⟨rfl, rfl⟩)⟩
theorem frX12_writes {M : Mem} {v1 : Int} {q : Int} (hq0 : q ≠ 125) (hq1 : q ≠ 66) : (fmX12_writes M v1) q = M q := by
  unfold fmX12_writes
  exact ((mset_p hq1).trans ((mset_p hq0).trans rfl))
def lX12_image_56  : Nat → Int → Mem → Int
  | 0, v1, M => ((fmX12_writes M (fX12_checked M 125 34 (M 66 89))) 66 89)
  | k + 1, v1, M => (lX12_image_56 k (v1 + 1) (fmX12_writes M (M 92 v1)))
def lmX12_image_56  : Nat → Int → Mem → Mem
  | 0, v1, M => (fmX12_writes M (fX12_checked M 125 34 (M 66 89)))
  | k + 1, v1, M => (lmX12_image_56 k (v1 + 1) (fmX12_writes M (M 92 v1)))
theorem frlX12_image_56  {q : Int} (hq0 : q ≠ 125) (hq1 : q ≠ 66) : ∀ {k : Nat} {v1 : Int} {M : Mem}, (lmX12_image_56  k v1 M) q = M q := by
  intro k
  induction k with
  | zero =>
    intro v1 M
    show (fmX12_writes M (fX12_checked M 125 34 (M 66 89))) q = M q
    exact ((frX12_writes hq0 hq1).trans rfl)
  | succ k ih =>
    intro v1 M
    show (lmX12_image_56 k (v1 + 1) (fmX12_writes M (M 92 v1))) q = M q
    exact ((ih).trans ((frX12_writes hq0 hq1).trans rfl))
theorem glX12_image_56 {h : Int}   : ∀ {k : Nat} {v1 : Int} {M : Mem}, G h M → G h (lmX12_image_56  k v1 M) := by
  intro k
  induction k with
  | zero =>
    intro v1 M hG
    show G h (fmX12_writes M (fX12_checked M 125 34 (M 66 89)))
    exact (gX12_writes (h := h) (M := M) (v1 := (fX12_checked M 125 34 (M 66 89))) hG)
  | succ k ih =>
    intro v1 M hG
    show G h (lmX12_image_56 k (v1 + 1) (fmX12_writes M (M 92 v1)))
    exact (ih (gX12_writes (h := h) (M := M) (v1 := (M 92 v1)) hG))
def nlX12_image_56  : Nat → Int → Mem → Prop
  | 0, v1, M => ((nX12_checked M 125 34 (M 66 89))) ∧ ((nX12_writes M))
  | k + 1, v1, M => (0 ≤ v1 ∧ v1 < 6) ∧ ((nX12_writes M)) ∧ ((nlX12_image_56 k (v1 + 1) (fmX12_writes M (M 92 v1))))
set_option maxRecDepth 100000 in
set_option maxHeartbeats 2000000 in
theorem qX12_image_56 {E : EV} {h : Int} {Q : Option MV → Mem → Prop}   : ∀ (k : Nat) (v1 : Int) (M : Mem), 0 ≤ v1 → (((fX12_doorMany M)) - v1).toNat = k → (nlX12_image_56 k v1 M) → Q (some (0, (lX12_image_56 k v1 M))) (lmX12_image_56 k v1 M) → G h M → TG E miX12_image 2 h Q 56 [(2, 66), (0, v1)] [] M := by
  intro k
  induction k with
  | zero =>
    intro v1 M hv0 hk hs hQ hG
    have hQ : Q (some (0, ((fmX12_writes M (fX12_checked M 125 34 (M 66 89))) 66 89))) (fmX12_writes M (fX12_checked M 125 34 (M 66 89))) := hQ
    have hs : ((nX12_checked M 125 34 (M 66 89))) ∧ ((nX12_writes M)) := hs
    obtain ⟨n1, n2⟩ := hs
    refine T_iload_n (i := 1) (pc' := 57) dX12_image_56 rfl rfl rfl ?_
    refine T_aload_n (i := 0) (pc' := 58) dX12_image_57 rfl rfl rfl ?_
    refine T_callV (av := []) (st := [(0, v1)]) (d2 := 1) (nc2 := 0) (ns2 := 0) (pc' := 61) dX12_image_58 rfl mtX12_doorMany mvX12_doorMany mlX12_361 cl12 rfl rfl rfl (Nat.le_of_ble_eq_true rfl) (by decide) ⟨by decide, by decide⟩ rfl (pX12_doorMany (E := E) (h := h) (M := M) hG) (kF (st2 := [(0, (fX12_doorMany M)), (0, v1)]) rfl (fun hG1 => ?_))
    refine T_rng (fun _ z9 _ => ?_)
    have hB : r32 (fX12_doorMany M) := (ok_cons.mp z9).1
    unfold r32 at hB
    refine T_icmp_ge (pc' := 80) dX12_image_61 (by decide) (pf := 64) rfl (fun c2 => ?_) (fun c2 => ?_)
    · skip
      refine T_aload_n (i := 0) (pc' := 81) dX12_image_80 rfl rfl rfl ?_
      refine T_aload_n (i := 0) (pc' := 82) dX12_image_81 rfl rfl rfl ?_
      refine U_gr (q := 125) (k := 88) (kI := 88) (pc' := 85) dX12_image_82 rfl cl12 (by decide) rfl (by decide) flX12_195 rfl rfl rfl (G_at hG 125 rfl) (by decide) rfl ?_
      refine T_aload_n (i := 0) (pc' := 86) dX12_image_85 rfl rfl rfl ?_
      refine U_gf (v := (0, (M 66 89))) (k := 89) (kI := 89) (pc' := 89) dX12_image_86 rfl cl12 (by decide) rfl (by decide) flX12_645 rfl rfl (by decide) rfl rfl ?_
      refine T_callS (av := [(2, 125), (0, (M 66 89))]) (st := [(2, 66)]) (d2 := 1) (nc2 := 0) (ns2 := 0) (pc' := 92) dX12_image_89 rfl mtX12_checked mvX12_checked mlX12_651 rfl rfl (Nat.le_of_ble_eq_true rfl) (by decide) ⟨by decide, by decide⟩ rfl (pX12_checked (E := E) (h := h) (M := M) (p0 := 125) (np0 := 34) (v1 := (M 66 89)) (by decide) rfl (by decide) (n1) hG) (kF (st2 := [(0, (fX12_checked M 125 34 (M 66 89))), (2, 66)]) rfl (fun hG3 => ?_))
      refine T_callV (av := [(0, (fX12_checked M 125 34 (M 66 89)))]) (st := []) (d2 := 1) (nc2 := 0) (ns2 := 0) (pc' := 95) dX12_image_92 rfl mtX12_writes mvX12_writes mlX12_648 cl12 rfl rfl rfl (Nat.le_of_ble_eq_true rfl) (by decide) ⟨by decide, by decide⟩ rfl (pX12_writes (E := E) (h := h) (M := M) (v1 := (fX12_checked M 125 34 (M 66 89))) (n2) hG) (kF (st2 := []) rfl (fun hG4 => ?_))
      refine T_aload_n (i := 0) (pc' := 96) dX12_image_95 rfl rfl rfl ?_
      refine U_gf (v := (0, ((fmX12_writes M (fX12_checked M 125 34 (M 66 89))) 66 89))) (k := 89) (kI := 89) (pc' := 99) dX12_image_96 rfl cl12 (by decide) rfl (by decide) flX12_645 rfl rfl (by decide) rfl rfl ?_
      exact T_iret dX12_image_99 rfl ⟨rfl, (gX12_writes (h := h) (M := M) (v1 := (fX12_checked M 125 34 (M 66 89))) hG), hQ⟩
    · exact absurd c2 (by omega)
  | succ k ih =>
    intro v1 M hv0 hk hs hQ hG
    have hQ : Q (some (0, (lX12_image_56 k (v1 + 1) (fmX12_writes M (M 92 v1))))) (lmX12_image_56 k (v1 + 1) (fmX12_writes M (M 92 v1))) := hQ
    have hs : (0 ≤ v1 ∧ v1 < 6) ∧ ((nX12_writes M)) ∧ ((nlX12_image_56 k (v1 + 1) (fmX12_writes M (M 92 v1)))) := hs
    obtain ⟨n1, n2, n3⟩ := hs
    refine T_iload_n (i := 1) (pc' := 57) dX12_image_56 rfl rfl rfl ?_
    refine T_aload_n (i := 0) (pc' := 58) dX12_image_57 rfl rfl rfl ?_
    refine T_callV (av := []) (st := [(0, v1)]) (d2 := 1) (nc2 := 0) (ns2 := 0) (pc' := 61) dX12_image_58 rfl mtX12_doorMany mvX12_doorMany mlX12_361 cl12 rfl rfl rfl (Nat.le_of_ble_eq_true rfl) (by decide) ⟨by decide, by decide⟩ rfl (pX12_doorMany (E := E) (h := h) (M := M) hG) (kF (st2 := [(0, (fX12_doorMany M)), (0, v1)]) rfl (fun hG1 => ?_))
    refine T_rng (fun _ z9 _ => ?_)
    have hB : r32 (fX12_doorMany M) := (ok_cons.mp z9).1
    unfold r32 at hB
    refine T_icmp_ge (pc' := 80) dX12_image_61 (by decide) (pf := 64) rfl (fun c2 => ?_) (fun c2 => ?_)
    · exact absurd c2 (by omega)
    · skip
      have hw : wr32 (v1 + 1) = v1 + 1 := wr32_id (by unfold r32; omega)
      refine T_aload_n (i := 0) (pc' := 65) dX12_image_64 rfl rfl rfl ?_
      refine T_aload_n (i := 0) (pc' := 66) dX12_image_65 rfl rfl rfl ?_
      refine U_gr (q := 92) (k := 41) (kI := 41) (pc' := 69) dX12_image_66 rfl cl12 (by decide) rfl (by decide) flX12_92 rfl rfl rfl (G_at hG 92 rfl) (by decide) rfl ?_
      refine T_iload_n (i := 1) (pc' := 70) dX12_image_69 rfl rfl rfl ?_
      refine T_iald (pc' := 71) dX12_image_70 (by decide) rfl (n1).1 (n1).2 rfl ?_
      refine T_callV (av := [(0, (M 92 v1))]) (st := []) (d2 := 1) (nc2 := 0) (ns2 := 0) (pc' := 74) dX12_image_71 rfl mtX12_writes mvX12_writes mlX12_648 cl12 rfl rfl rfl (Nat.le_of_ble_eq_true rfl) (by decide) ⟨by decide, by decide⟩ rfl (pX12_writes (E := E) (h := h) (M := M) (v1 := (M 92 v1)) (n2) hG) (kF (st2 := []) rfl (fun hG5 => ?_))
      refine T_iinc (L' := [(2, 66), (0, (wr32 (v1 + 1)))]) (pc' := 77) dX12_image_74 rfl (by decide) rfl rfl ?_
      refine T_goto (pc' := 56) dX12_image_77 (by decide) ?_
      rw [hw]
      have hp0 : (fmX12_writes M (M 92 v1)) 85 = M 85 := by
        exact ((frX12_writes (by first | decide | (unfold isG at *; omega) | exact rowne (by unfold isG at *; omega) (by unfold isG at *; omega) (by unfold isG at *; omega)) (by first | decide | (unfold isG at *; omega) | exact rowne (by unfold isG at *; omega) (by unfold isG at *; omega) (by unfold isG at *; omega))).trans rfl)
      have hbd : (fX12_doorMany (fmX12_writes M (M 92 v1))) = (fX12_doorMany M) := by
        simp only [fX12_doorMany, hp0]
      exact T_wk (ih (v1 + 1) _ (by omega) (by rw [hbd]; omega) (n3) hQ (gX12_writes (h := h) (M := M) (v1 := (M 92 v1)) hG)) ⟨Or.inr rfl, Or.inr rfl, trivial⟩
def lX12_image_7  : Nat → Int → Mem → Int
  | 0, v1, M => (lX12_image_56 ((((fX12_doorMany M)) : Int) - 0).toNat 0 M)
  | k + 1, v1, M => (lX12_image_7 k (v1 + 1) (fmX12_writes (fmX12_writes (fmX12_writes M (wr32 (60 + (fX12_personOf M v1 1)))) (fX12_personOf (fmX12_writes M (wr32 (60 + (fX12_personOf M v1 1)))) v1 2)) (fX12_personOf (fmX12_writes (fmX12_writes M (wr32 (60 + (fX12_personOf M v1 1)))) (fX12_personOf (fmX12_writes M (wr32 (60 + (fX12_personOf M v1 1)))) v1 2)) v1 0)))
def lmX12_image_7  : Nat → Int → Mem → Mem
  | 0, v1, M => (lmX12_image_56 ((((fX12_doorMany M)) : Int) - 0).toNat 0 M)
  | k + 1, v1, M => (lmX12_image_7 k (v1 + 1) (fmX12_writes (fmX12_writes (fmX12_writes M (wr32 (60 + (fX12_personOf M v1 1)))) (fX12_personOf (fmX12_writes M (wr32 (60 + (fX12_personOf M v1 1)))) v1 2)) (fX12_personOf (fmX12_writes (fmX12_writes M (wr32 (60 + (fX12_personOf M v1 1)))) (fX12_personOf (fmX12_writes M (wr32 (60 + (fX12_personOf M v1 1)))) v1 2)) v1 0)))
theorem frlX12_image_7  {q : Int} (hq0 : q ≠ 125) (hq1 : q ≠ 66) : ∀ {k : Nat} {v1 : Int} {M : Mem}, (lmX12_image_7  k v1 M) q = M q := by
  intro k
  induction k with
  | zero =>
    intro v1 M
    show (lmX12_image_56 ((((fX12_doorMany M)) : Int) - 0).toNat 0 M) q = M q
    exact ((frlX12_image_56 hq0 hq1).trans rfl)
  | succ k ih =>
    intro v1 M
    show (lmX12_image_7 k (v1 + 1) (fmX12_writes (fmX12_writes (fmX12_writes M (wr32 (60 + (fX12_personOf M v1 1)))) (fX12_personOf (fmX12_writes M (wr32 (60 + (fX12_personOf M v1 1)))) v1 2)) (fX12_personOf (fmX12_writes (fmX12_writes M (wr32 (60 + (fX12_personOf M v1 1)))) (fX12_personOf (fmX12_writes M (wr32 (60 + (fX12_personOf M v1 1)))) v1 2)) v1 0))) q = M q
    exact ((ih).trans ((frX12_writes hq0 hq1).trans ((frX12_writes hq0 hq1).trans ((frX12_writes hq0 hq1).trans rfl))))
theorem glX12_image_7 {h : Int}   : ∀ {k : Nat} {v1 : Int} {M : Mem}, G h M → G h (lmX12_image_7  k v1 M) := by
  intro k
  induction k with
  | zero =>
    intro v1 M hG
    show G h (lmX12_image_56 ((((fX12_doorMany M)) : Int) - 0).toNat 0 M)
    exact (glX12_image_56 hG)
  | succ k ih =>
    intro v1 M hG
    show G h (lmX12_image_7 k (v1 + 1) (fmX12_writes (fmX12_writes (fmX12_writes M (wr32 (60 + (fX12_personOf M v1 1)))) (fX12_personOf (fmX12_writes M (wr32 (60 + (fX12_personOf M v1 1)))) v1 2)) (fX12_personOf (fmX12_writes (fmX12_writes M (wr32 (60 + (fX12_personOf M v1 1)))) (fX12_personOf (fmX12_writes M (wr32 (60 + (fX12_personOf M v1 1)))) v1 2)) v1 0)))
    exact (ih (gX12_writes (h := h) (M := (fmX12_writes (fmX12_writes M (wr32 (60 + (fX12_personOf M v1 1)))) (fX12_personOf (fmX12_writes M (wr32 (60 + (fX12_personOf M v1 1)))) v1 2))) (v1 := (fX12_personOf (fmX12_writes (fmX12_writes M (wr32 (60 + (fX12_personOf M v1 1)))) (fX12_personOf (fmX12_writes M (wr32 (60 + (fX12_personOf M v1 1)))) v1 2)) v1 0)) (gX12_writes (h := h) (M := (fmX12_writes M (wr32 (60 + (fX12_personOf M v1 1))))) (v1 := (fX12_personOf (fmX12_writes M (wr32 (60 + (fX12_personOf M v1 1)))) v1 2)) (gX12_writes (h := h) (M := M) (v1 := (wr32 (60 + (fX12_personOf M v1 1)))) hG))))
def nlX12_image_7  : Nat → Int → Mem → Prop
  | 0, v1, M => ((nlX12_image_56 ((((fX12_doorMany M)) : Int) - 0).toNat 0 M))
  | k + 1, v1, M => ((nX12_personOf v1 1)) ∧ ((nX12_writes M)) ∧ ((nX12_personOf v1 2)) ∧ ((nX12_writes (fmX12_writes M (wr32 (60 + (fX12_personOf M v1 1)))))) ∧ ((nX12_personOf v1 0)) ∧ ((nX12_writes (fmX12_writes (fmX12_writes M (wr32 (60 + (fX12_personOf M v1 1)))) (fX12_personOf (fmX12_writes M (wr32 (60 + (fX12_personOf M v1 1)))) v1 2)))) ∧ ((nlX12_image_7 k (v1 + 1) (fmX12_writes (fmX12_writes (fmX12_writes M (wr32 (60 + (fX12_personOf M v1 1)))) (fX12_personOf (fmX12_writes M (wr32 (60 + (fX12_personOf M v1 1)))) v1 2)) (fX12_personOf (fmX12_writes (fmX12_writes M (wr32 (60 + (fX12_personOf M v1 1)))) (fX12_personOf (fmX12_writes M (wr32 (60 + (fX12_personOf M v1 1)))) v1 2)) v1 0))))
set_option maxRecDepth 100000 in
set_option maxHeartbeats 2000000 in
theorem qX12_image_7 {E : EV} {h : Int} {Q : Option MV → Mem → Prop}   : ∀ (k : Nat) (v1 : Int) (M : Mem), 0 ≤ v1 → (((fX12_peopleMany M)) - v1).toNat = k → (nlX12_image_7 k v1 M) → Q (some (0, (lX12_image_7 k v1 M))) (lmX12_image_7 k v1 M) → G h M → TG E miX12_image 2 h Q 7 [(2, 66), (0, v1)] [] M := by
  intro k
  induction k with
  | zero =>
    intro v1 M hv0 hk hs hQ hG
    have hQ : Q (some (0, (lX12_image_56 ((((fX12_doorMany M)) : Int) - 0).toNat 0 M))) (lmX12_image_56 ((((fX12_doorMany M)) : Int) - 0).toNat 0 M) := hQ
    have hs : ((nlX12_image_56 ((((fX12_doorMany M)) : Int) - 0).toNat 0 M)) := hs
    have n1 := hs
    refine T_iload_n (i := 1) (pc' := 8) dX12_image_7 rfl rfl rfl ?_
    refine T_aload_n (i := 0) (pc' := 9) dX12_image_8 rfl rfl rfl ?_
    refine T_callV (av := []) (st := [(0, v1)]) (d2 := 1) (nc2 := 0) (ns2 := 0) (pc' := 12) dX12_image_9 rfl mtX12_peopleMany mvX12_peopleMany mlX12_349 cl12 rfl rfl rfl (Nat.le_of_ble_eq_true rfl) (by decide) ⟨by decide, by decide⟩ rfl (pX12_peopleMany (E := E) (h := h) (M := M) hG) (kF (st2 := [(0, (fX12_peopleMany M)), (0, v1)]) rfl (fun hG1 => ?_))
    refine T_rng (fun _ z9 _ => ?_)
    have hB : r32 (fX12_peopleMany M) := (ok_cons.mp z9).1
    unfold r32 at hB
    refine T_icmp_ge (pc' := 54) dX12_image_12 (by decide) (pf := 15) rfl (fun c2 => ?_) (fun c2 => ?_)
    · skip
      refine T_iconst (pc' := 55) dX12_image_54 (by decide) rfl ?_
      refine T_istore_n (i := 1) (L' := [(2, 66), (0, 0)]) (pc' := 56) dX12_image_55 rfl (by decide) rfl rfl ?_
      exact T_wk (qX12_image_56  _ 0 _ (by first | decide | omega) rfl (n1) hQ hG) ⟨Or.inr rfl, Or.inr rfl, trivial⟩
    · exact absurd c2 (by omega)
  | succ k ih =>
    intro v1 M hv0 hk hs hQ hG
    have hQ : Q (some (0, (lX12_image_7 k (v1 + 1) (fmX12_writes (fmX12_writes (fmX12_writes M (wr32 (60 + (fX12_personOf M v1 1)))) (fX12_personOf (fmX12_writes M (wr32 (60 + (fX12_personOf M v1 1)))) v1 2)) (fX12_personOf (fmX12_writes (fmX12_writes M (wr32 (60 + (fX12_personOf M v1 1)))) (fX12_personOf (fmX12_writes M (wr32 (60 + (fX12_personOf M v1 1)))) v1 2)) v1 0))))) (lmX12_image_7 k (v1 + 1) (fmX12_writes (fmX12_writes (fmX12_writes M (wr32 (60 + (fX12_personOf M v1 1)))) (fX12_personOf (fmX12_writes M (wr32 (60 + (fX12_personOf M v1 1)))) v1 2)) (fX12_personOf (fmX12_writes (fmX12_writes M (wr32 (60 + (fX12_personOf M v1 1)))) (fX12_personOf (fmX12_writes M (wr32 (60 + (fX12_personOf M v1 1)))) v1 2)) v1 0))) := hQ
    have hs : ((nX12_personOf v1 1)) ∧ ((nX12_writes M)) ∧ ((nX12_personOf v1 2)) ∧ ((nX12_writes (fmX12_writes M (wr32 (60 + (fX12_personOf M v1 1)))))) ∧ ((nX12_personOf v1 0)) ∧ ((nX12_writes (fmX12_writes (fmX12_writes M (wr32 (60 + (fX12_personOf M v1 1)))) (fX12_personOf (fmX12_writes M (wr32 (60 + (fX12_personOf M v1 1)))) v1 2)))) ∧ ((nlX12_image_7 k (v1 + 1) (fmX12_writes (fmX12_writes (fmX12_writes M (wr32 (60 + (fX12_personOf M v1 1)))) (fX12_personOf (fmX12_writes M (wr32 (60 + (fX12_personOf M v1 1)))) v1 2)) (fX12_personOf (fmX12_writes (fmX12_writes M (wr32 (60 + (fX12_personOf M v1 1)))) (fX12_personOf (fmX12_writes M (wr32 (60 + (fX12_personOf M v1 1)))) v1 2)) v1 0)))) := hs
    obtain ⟨n1, n2, n3, n4, n5, n6, n7⟩ := hs
    refine T_iload_n (i := 1) (pc' := 8) dX12_image_7 rfl rfl rfl ?_
    refine T_aload_n (i := 0) (pc' := 9) dX12_image_8 rfl rfl rfl ?_
    refine T_callV (av := []) (st := [(0, v1)]) (d2 := 1) (nc2 := 0) (ns2 := 0) (pc' := 12) dX12_image_9 rfl mtX12_peopleMany mvX12_peopleMany mlX12_349 cl12 rfl rfl rfl (Nat.le_of_ble_eq_true rfl) (by decide) ⟨by decide, by decide⟩ rfl (pX12_peopleMany (E := E) (h := h) (M := M) hG) (kF (st2 := [(0, (fX12_peopleMany M)), (0, v1)]) rfl (fun hG1 => ?_))
    refine T_rng (fun _ z9 _ => ?_)
    have hB : r32 (fX12_peopleMany M) := (ok_cons.mp z9).1
    unfold r32 at hB
    refine T_icmp_ge (pc' := 54) dX12_image_12 (by decide) (pf := 15) rfl (fun c2 => ?_) (fun c2 => ?_)
    · exact absurd c2 (by omega)
    · skip
      have hw : wr32 (v1 + 1) = v1 + 1 := wr32_id (by unfold r32; omega)
      refine T_aload_n (i := 0) (pc' := 16) dX12_image_15 rfl rfl rfl ?_
      refine T_bipush (pc' := 18) dX12_image_16 rfl (by decide) rfl ?_
      refine T_aload_n (i := 0) (pc' := 19) dX12_image_18 rfl rfl rfl ?_
      refine T_iload_n (i := 1) (pc' := 20) dX12_image_19 rfl rfl rfl ?_
      refine T_iconst (pc' := 21) dX12_image_20 (by decide) rfl ?_
      refine T_callV (av := [(0, v1), (0, 1)]) (st := [(0, 60), (2, 66)]) (d2 := 1) (nc2 := 0) (ns2 := 0) (pc' := 24) dX12_image_21 rfl mtX12_personOf mvX12_personOf mlX12_373 cl12 rfl rfl rfl (Nat.le_of_ble_eq_true rfl) (by decide) ⟨by decide, by decide⟩ rfl (pX12_personOf (E := E) (h := h) (M := M) (v1 := v1) (v2 := 1) (n1) hG) (kF (st2 := [(0, (fX12_personOf M v1 1)), (0, 60), (2, 66)]) rfl (fun hG3 => ?_))
      refine T_iadd (pc' := 25) dX12_image_24 rfl ?_
      refine T_callV (av := [(0, (wr32 (60 + (fX12_personOf M v1 1))))]) (st := []) (d2 := 1) (nc2 := 0) (ns2 := 0) (pc' := 28) dX12_image_25 rfl mtX12_writes mvX12_writes mlX12_648 cl12 rfl rfl rfl (Nat.le_of_ble_eq_true rfl) (by decide) ⟨by decide, by decide⟩ rfl (pX12_writes (E := E) (h := h) (M := M) (v1 := (wr32 (60 + (fX12_personOf M v1 1)))) (n2) hG) (kF (st2 := []) rfl (fun hG4 => ?_))
      refine T_aload_n (i := 0) (pc' := 29) dX12_image_28 rfl rfl rfl ?_
      refine T_aload_n (i := 0) (pc' := 30) dX12_image_29 rfl rfl rfl ?_
      refine T_iload_n (i := 1) (pc' := 31) dX12_image_30 rfl rfl rfl ?_
      refine T_iconst (pc' := 32) dX12_image_31 (by decide) rfl ?_
      refine T_callV (av := [(0, v1), (0, 2)]) (st := [(2, 66)]) (d2 := 1) (nc2 := 0) (ns2 := 0) (pc' := 35) dX12_image_32 rfl mtX12_personOf mvX12_personOf mlX12_373 cl12 rfl rfl rfl (Nat.le_of_ble_eq_true rfl) (by decide) ⟨by decide, by decide⟩ rfl (pX12_personOf (E := E) (h := h) (M := (fmX12_writes M (wr32 (60 + (fX12_personOf M v1 1))))) (v1 := v1) (v2 := 2) (n3) (gX12_writes (h := h) (M := M) (v1 := (wr32 (60 + (fX12_personOf M v1 1)))) hG)) (kF (st2 := [(0, (fX12_personOf (fmX12_writes M (wr32 (60 + (fX12_personOf M v1 1)))) v1 2)), (2, 66)]) rfl (fun hG5 => ?_))
      refine T_callV (av := [(0, (fX12_personOf (fmX12_writes M (wr32 (60 + (fX12_personOf M v1 1)))) v1 2))]) (st := []) (d2 := 1) (nc2 := 0) (ns2 := 0) (pc' := 38) dX12_image_35 rfl mtX12_writes mvX12_writes mlX12_648 cl12 rfl rfl rfl (Nat.le_of_ble_eq_true rfl) (by decide) ⟨by decide, by decide⟩ rfl (pX12_writes (E := E) (h := h) (M := (fmX12_writes M (wr32 (60 + (fX12_personOf M v1 1))))) (v1 := (fX12_personOf (fmX12_writes M (wr32 (60 + (fX12_personOf M v1 1)))) v1 2)) (n4) (gX12_writes (h := h) (M := M) (v1 := (wr32 (60 + (fX12_personOf M v1 1)))) hG)) (kF (st2 := []) rfl (fun hG6 => ?_))
      refine T_aload_n (i := 0) (pc' := 39) dX12_image_38 rfl rfl rfl ?_
      refine T_aload_n (i := 0) (pc' := 40) dX12_image_39 rfl rfl rfl ?_
      refine T_iload_n (i := 1) (pc' := 41) dX12_image_40 rfl rfl rfl ?_
      refine T_iconst (pc' := 42) dX12_image_41 (by decide) rfl ?_
      refine T_callV (av := [(0, v1), (0, 0)]) (st := [(2, 66)]) (d2 := 1) (nc2 := 0) (ns2 := 0) (pc' := 45) dX12_image_42 rfl mtX12_personOf mvX12_personOf mlX12_373 cl12 rfl rfl rfl (Nat.le_of_ble_eq_true rfl) (by decide) ⟨by decide, by decide⟩ rfl (pX12_personOf (E := E) (h := h) (M := (fmX12_writes (fmX12_writes M (wr32 (60 + (fX12_personOf M v1 1)))) (fX12_personOf (fmX12_writes M (wr32 (60 + (fX12_personOf M v1 1)))) v1 2))) (v1 := v1) (v2 := 0) (n5) (gX12_writes (h := h) (M := (fmX12_writes M (wr32 (60 + (fX12_personOf M v1 1))))) (v1 := (fX12_personOf (fmX12_writes M (wr32 (60 + (fX12_personOf M v1 1)))) v1 2)) (gX12_writes (h := h) (M := M) (v1 := (wr32 (60 + (fX12_personOf M v1 1)))) hG))) (kF (st2 := [(0, (fX12_personOf (fmX12_writes (fmX12_writes M (wr32 (60 + (fX12_personOf M v1 1)))) (fX12_personOf (fmX12_writes M (wr32 (60 + (fX12_personOf M v1 1)))) v1 2)) v1 0)), (2, 66)]) rfl (fun hG7 => ?_))
      refine T_callV (av := [(0, (fX12_personOf (fmX12_writes (fmX12_writes M (wr32 (60 + (fX12_personOf M v1 1)))) (fX12_personOf (fmX12_writes M (wr32 (60 + (fX12_personOf M v1 1)))) v1 2)) v1 0))]) (st := []) (d2 := 1) (nc2 := 0) (ns2 := 0) (pc' := 48) dX12_image_45 rfl mtX12_writes mvX12_writes mlX12_648 cl12 rfl rfl rfl (Nat.le_of_ble_eq_true rfl) (by decide) ⟨by decide, by decide⟩ rfl (pX12_writes (E := E) (h := h) (M := (fmX12_writes (fmX12_writes M (wr32 (60 + (fX12_personOf M v1 1)))) (fX12_personOf (fmX12_writes M (wr32 (60 + (fX12_personOf M v1 1)))) v1 2))) (v1 := (fX12_personOf (fmX12_writes (fmX12_writes M (wr32 (60 + (fX12_personOf M v1 1)))) (fX12_personOf (fmX12_writes M (wr32 (60 + (fX12_personOf M v1 1)))) v1 2)) v1 0)) (n6) (gX12_writes (h := h) (M := (fmX12_writes M (wr32 (60 + (fX12_personOf M v1 1))))) (v1 := (fX12_personOf (fmX12_writes M (wr32 (60 + (fX12_personOf M v1 1)))) v1 2)) (gX12_writes (h := h) (M := M) (v1 := (wr32 (60 + (fX12_personOf M v1 1)))) hG))) (kF (st2 := []) rfl (fun hG8 => ?_))
      refine T_iinc (L' := [(2, 66), (0, (wr32 (v1 + 1)))]) (pc' := 51) dX12_image_48 rfl (by decide) rfl rfl ?_
      refine T_goto (pc' := 7) dX12_image_51 (by decide) ?_
      rw [hw]
      have hp0 : (fmX12_writes (fmX12_writes (fmX12_writes M (wr32 (60 + (fX12_personOf M v1 1)))) (fX12_personOf (fmX12_writes M (wr32 (60 + (fX12_personOf M v1 1)))) v1 2)) (fX12_personOf (fmX12_writes (fmX12_writes M (wr32 (60 + (fX12_personOf M v1 1)))) (fX12_personOf (fmX12_writes M (wr32 (60 + (fX12_personOf M v1 1)))) v1 2)) v1 0)) 85 = M 85 := by
        exact ((frX12_writes (by first | decide | (unfold isG at *; omega) | exact rowne (by unfold isG at *; omega) (by unfold isG at *; omega) (by unfold isG at *; omega)) (by first | decide | (unfold isG at *; omega) | exact rowne (by unfold isG at *; omega) (by unfold isG at *; omega) (by unfold isG at *; omega))).trans ((frX12_writes (by first | decide | (unfold isG at *; omega) | exact rowne (by unfold isG at *; omega) (by unfold isG at *; omega) (by unfold isG at *; omega)) (by first | decide | (unfold isG at *; omega) | exact rowne (by unfold isG at *; omega) (by unfold isG at *; omega) (by unfold isG at *; omega))).trans ((frX12_writes (by first | decide | (unfold isG at *; omega) | exact rowne (by unfold isG at *; omega) (by unfold isG at *; omega) (by unfold isG at *; omega)) (by first | decide | (unfold isG at *; omega) | exact rowne (by unfold isG at *; omega) (by unfold isG at *; omega) (by unfold isG at *; omega))).trans rfl)))
      have hbd : (fX12_peopleMany (fmX12_writes (fmX12_writes (fmX12_writes M (wr32 (60 + (fX12_personOf M v1 1)))) (fX12_personOf (fmX12_writes M (wr32 (60 + (fX12_personOf M v1 1)))) v1 2)) (fX12_personOf (fmX12_writes (fmX12_writes M (wr32 (60 + (fX12_personOf M v1 1)))) (fX12_personOf (fmX12_writes M (wr32 (60 + (fX12_personOf M v1 1)))) v1 2)) v1 0))) = (fX12_peopleMany M) := by
        simp only [fX12_peopleMany, hp0]
      exact T_wk (ih (v1 + 1) _ (by omega) (by rw [hbd]; omega) (n7) hQ (gX12_writes (h := h) (M := (fmX12_writes (fmX12_writes M (wr32 (60 + (fX12_personOf M v1 1)))) (fX12_personOf (fmX12_writes M (wr32 (60 + (fX12_personOf M v1 1)))) v1 2))) (v1 := (fX12_personOf (fmX12_writes (fmX12_writes M (wr32 (60 + (fX12_personOf M v1 1)))) (fX12_personOf (fmX12_writes M (wr32 (60 + (fX12_personOf M v1 1)))) v1 2)) v1 0)) (gX12_writes (h := h) (M := (fmX12_writes M (wr32 (60 + (fX12_personOf M v1 1))))) (v1 := (fX12_personOf (fmX12_writes M (wr32 (60 + (fX12_personOf M v1 1)))) v1 2)) (gX12_writes (h := h) (M := M) (v1 := (wr32 (60 + (fX12_personOf M v1 1)))) hG)))) ⟨Or.inr rfl, Or.inr rfl, trivial⟩
def fX12_image (M : Mem) : Int :=
  (lX12_image_7 ((((fX12_peopleMany (mset M 66 89 0))) : Int) - 0).toNat 0 (mset M 66 89 0))
def fmX12_image (M : Mem) : Mem :=
  (lmX12_image_7 ((((fX12_peopleMany (mset M 66 89 0))) : Int) - 0).toNat 0 (mset M 66 89 0))
def nX12_image (M : Mem) : Prop :=
  ((nlX12_image_7 ((((fX12_peopleMany (mset M 66 89 0))) : Int) - 0).toNat 0 (mset M 66 89 0)))
theorem frX12_image {M : Mem} {q : Int} (hq0 : q ≠ 66) (hq1 : q ≠ 125) : (fmX12_image M) q = M q := by
  unfold fmX12_image
  exact ((frlX12_image_7 hq1 hq0).trans ((mset_p hq0).trans rfl))
theorem gX12_image {h : Int} {M : Mem}   (hG : G h M) : G h (fmX12_image M) := by
  unfold fmX12_image
  exact (glX12_image_7 (G_fld (x := 66) (i := 89) (y := 0) rfl (by decide) (by decide) (by decide) hG))
set_option maxRecDepth 100000 in
theorem pX12_image {E : EV} {h : Int} {M : Mem}  (hs : (nX12_image M)) : C2 E miX12_image 2 h [(2, 66)] M (fun r M' => r = some (0, (fX12_image M)) ∧ M' = (fmX12_image M)) := by
  obtain ⟨Q, hQ0⟩ : ∃ Q : Option MV → Mem → Prop, Q = (fun r M' => r = some (0, (fX12_image M)) ∧ M' = (fmX12_image M)) := ⟨_, rfl⟩
  rw [← hQ0]
  have hQ : Q (some (0, (lX12_image_7 ((((fX12_peopleMany (mset M 66 89 0))) : Int) - 0).toNat 0 (mset M 66 89 0)))) (lmX12_image_7 ((((fX12_peopleMany (mset M 66 89 0))) : Int) - 0).toNat 0 (mset M 66 89 0)) := by rw [hQ0]; exact ⟨rfl, rfl⟩
  have o1 := hs
  refine C2_of (L := [(2, 66), (3, 0)]) (by decide +kernel) (Nat.le_of_ble_eq_true rfl) rfl (fun hG => ?_)
  refine T_aload_n (i := 0) (pc' := 1) dX12_image_0 rfl rfl rfl ?_
  refine T_iconst (pc' := 2) dX12_image_1 (by decide) rfl ?_
  refine U_pf (y := 0) (k := 89) (kI := 89) (pc' := 5) dX12_image_2 rfl cl12 (by decide) rfl (by decide) flX12_645 rfl rfl rfl rfl rfl (by decide) (fun z => z) rfl ?_
  refine T_iconst (pc' := 6) dX12_image_5 (by decide) rfl ?_
  refine T_istore_n (i := 1) (L' := [(2, 66), (0, 0)]) (pc' := 7) dX12_image_6 rfl (by decide) rfl rfl ?_
  exact T_wk (qX12_image_7  _ 0 _ (by first | decide | omega) rfl (o1) hQ (G_fld (x := 66) (i := 89) (y := 0) rfl (by decide) (by decide) (by decide) hG)) ⟨Or.inr rfl, Or.inr rfl, trivial⟩
def fX12_octet (M : Mem) (v1 : Int) : Int :=
  (if v1 < 0 then ((-1) : Int) else (if (M 66 89) ≤ v1 then ((-1) : Int) else (M 125 v1)))
def nX12_octet (M : Mem) (v1 : Int) : Prop :=
  (¬ (v1 < 0) → ¬ ((M 66 89) ≤ v1) → 0 ≤ v1 ∧ v1 < 34)
set_option maxRecDepth 100000 in
theorem pX12_octet {E : EV} {h : Int} {M : Mem} {v1 : Int} (hs : (nX12_octet M v1)) : C2 E miX12_octet 1 h [(2, 66), (0, v1)] M (fun r M' => r = some (0, (fX12_octet M v1)) ∧ M' = M) := by
  obtain ⟨Q, hQ⟩ : ∃ Q : Option MV → Mem → Prop, Q = (fun r M' => r = some (0, (fX12_octet M v1)) ∧ M' = M) := ⟨_, rfl⟩
  rw [← hQ]
  have o1 := hs
  refine C2_of (L := [(2, 66), (0, v1)]) (by decide +kernel) (Nat.le_of_ble_eq_true rfl) rfl (fun hG => ?_)
  refine T_iload_n (i := 1) (pc' := 1) dX12_octet_0 rfl rfl rfl ?_
  have HJ1 : T E miX12_octet 1 126 0 0 (fun r S M' => S = S0 ∧ G h M' ∧ Q r M') 22 [(3, 0), (3, 0)] [(0, (if v1 < 0 then ((-1) : Int) else (if (M 66 89) ≤ v1 then ((-1) : Int) else (M 125 v1))))] S0 M 0 0 := by
    exact T_iret dX12_octet_22 rfl ⟨rfl, hG, (by rw [hQ]; exact ⟨rfl, rfl⟩)⟩
  refine T_if_lt (pc' := 21) dX12_octet_1 (by decide) (pf := 4) rfl (fun c2 => ?_) (fun c2 => ?_)
  · skip
    refine T_iconst (pc' := 22) dX12_octet_21 (by decide) rfl ?_
    exact T_wk (L' := [(3, 0), (3, 0)]) (by have q := HJ1; try simp only [if_pos c2] at q; exact q) ⟨Or.inl rfl, Or.inl rfl, trivial⟩
  · skip
    refine T_iload_n (i := 1) (pc' := 5) dX12_octet_4 rfl rfl rfl ?_
    refine T_aload_n (i := 0) (pc' := 6) dX12_octet_5 rfl rfl rfl ?_
    refine U_gf (v := (0, (M 66 89))) (k := 89) (kI := 89) (pc' := 9) dX12_octet_6 rfl cl12 (by decide) rfl (by decide) flX12_645 rfl rfl (by decide) rfl rfl ?_
    refine T_icmp_ge (pc' := 21) dX12_octet_9 (by decide) (pf := 12) rfl (fun c3 => ?_) (fun c3 => ?_)
    · skip
      refine T_iconst (pc' := 22) dX12_octet_21 (by decide) rfl ?_
      exact T_wk (L' := [(3, 0), (3, 0)]) (by have q := HJ1; try simp only [if_neg c2] at q; try simp only [if_pos c3] at q; exact q) ⟨Or.inl rfl, Or.inl rfl, trivial⟩
    · skip
      refine T_aload_n (i := 0) (pc' := 13) dX12_octet_12 rfl rfl rfl ?_
      refine U_gr (q := 125) (k := 88) (kI := 88) (pc' := 16) dX12_octet_13 rfl cl12 (by decide) rfl (by decide) flX12_195 rfl rfl rfl (G_at hG 125 rfl) (by decide) rfl ?_
      refine T_iload_n (i := 1) (pc' := 17) dX12_octet_16 rfl rfl rfl ?_
      refine T_iald (pc' := 18) dX12_octet_17 (by decide) rfl (o1 c2 c3).1 (o1 c2 c3).2 rfl ?_
      refine T_goto (pc' := 22) dX12_octet_18 (by decide) ?_
      exact T_wk (L' := [(3, 0), (3, 0)]) (by have q := HJ1; try simp only [if_neg c2] at q; try simp only [if_neg c3] at q; exact q) ⟨Or.inl rfl, Or.inl rfl, trivial⟩
def lX12_isTold_131 (v1 : Int) : Nat → Int → Int → Mem → Int
  | 0, v2, v3, M => 1
  | k + 1, v2, v3, M => (if (M 67 (wr32 (v2 + v3))) ≤ 1 then (lX12_isTold_131 v1 k v2 (v3 + 1) M) else 0)
def nlX12_isTold_131 (v1 : Int) : Nat → Int → Int → Mem → Prop
  | 0, v2, v3, M => True
  | k + 1, v2, v3, M => (0 ≤ (wr32 (v2 + v3)) ∧ (wr32 (v2 + v3)) < 1600) ∧ ((M 67 (wr32 (v2 + v3))) ≤ 1 → (nlX12_isTold_131 v1 k v2 (v3 + 1) M))
set_option maxRecDepth 100000 in
set_option maxHeartbeats 2000000 in
theorem qX12_isTold_131 {E : EV} {h : Int} {Q : Option MV → Mem → Prop} {v1 : Int}  : ∀ (k : Nat) (v2 v3 : Int) (M : Mem), 0 ≤ v3 → (((fX12_doorMany M)) - v3).toNat = k → (nlX12_isTold_131 v1 k v2 v3 M) → Q (some (0, (lX12_isTold_131 v1 k v2 v3 M))) M → G h M → TG E miX12_isTold 3 h Q 131 [(2, 66), (3, 0), (0, v2), (0, v3)] [] M := by
  intro k
  induction k with
  | zero =>
    intro v2 v3 M hv0 hk hs hQ hG
    have hQ : Q (some (0, 1)) M := hQ
    have hs : True := hs
    refine T_iload_n (i := 3) (pc' := 132) dX12_isTold_131 rfl rfl rfl ?_
    refine T_aload_n (i := 0) (pc' := 133) dX12_isTold_132 rfl rfl rfl ?_
    refine T_callV (av := []) (st := [(0, v3)]) (d2 := 1) (nc2 := 0) (ns2 := 0) (pc' := 136) dX12_isTold_133 rfl mtX12_doorMany mvX12_doorMany mlX12_361 cl12 rfl rfl rfl (Nat.le_of_ble_eq_true rfl) (by decide) ⟨by decide, by decide⟩ rfl (pX12_doorMany (E := E) (h := h) (M := M) hG) (kF (st2 := [(0, (fX12_doorMany M)), (0, v3)]) rfl (fun hG1 => ?_))
    refine T_rng (fun _ z9 _ => ?_)
    have hB : r32 (fX12_doorMany M) := (ok_cons.mp z9).1
    unfold r32 at hB
    refine T_icmp_ge (pc' := 159) dX12_isTold_136 (by decide) (pf := 139) rfl (fun c2 => ?_) (fun c2 => ?_)
    · skip
      refine T_iconst (pc' := 160) dX12_isTold_159 (by decide) rfl ?_
      exact T_zret dX12_isTold_160 rfl (by decide) ⟨rfl, hG, hQ⟩
    · exact absurd c2 (by omega)
  | succ k ih =>
    intro v2 v3 M hv0 hk hs hQ hG
    have hQ : Q (some (0, (if (M 67 (wr32 (v2 + v3))) ≤ 1 then (lX12_isTold_131 v1 k v2 (v3 + 1) M) else 0))) M := hQ
    have hs : (0 ≤ (wr32 (v2 + v3)) ∧ (wr32 (v2 + v3)) < 1600) ∧ ((M 67 (wr32 (v2 + v3))) ≤ 1 → (nlX12_isTold_131 v1 k v2 (v3 + 1) M)) := hs
    obtain ⟨n1, n2⟩ := hs
    refine T_iload_n (i := 3) (pc' := 132) dX12_isTold_131 rfl rfl rfl ?_
    refine T_aload_n (i := 0) (pc' := 133) dX12_isTold_132 rfl rfl rfl ?_
    refine T_callV (av := []) (st := [(0, v3)]) (d2 := 1) (nc2 := 0) (ns2 := 0) (pc' := 136) dX12_isTold_133 rfl mtX12_doorMany mvX12_doorMany mlX12_361 cl12 rfl rfl rfl (Nat.le_of_ble_eq_true rfl) (by decide) ⟨by decide, by decide⟩ rfl (pX12_doorMany (E := E) (h := h) (M := M) hG) (kF (st2 := [(0, (fX12_doorMany M)), (0, v3)]) rfl (fun hG1 => ?_))
    refine T_rng (fun _ z9 _ => ?_)
    have hB : r32 (fX12_doorMany M) := (ok_cons.mp z9).1
    unfold r32 at hB
    refine T_icmp_ge (pc' := 159) dX12_isTold_136 (by decide) (pf := 139) rfl (fun c2 => ?_) (fun c2 => ?_)
    · exact absurd c2 (by omega)
    · skip
      have hw : wr32 (v3 + 1) = v3 + 1 := wr32_id (by unfold r32; omega)
      refine T_aload_n (i := 0) (pc' := 140) dX12_isTold_139 rfl rfl rfl ?_
      refine U_gr (q := 67) (k := 0) (kI := 0) (pc' := 143) dX12_isTold_140 rfl cl12 (by decide) rfl (by decide) flX12_7 rfl rfl rfl (G_at hG 67 rfl) (by decide) rfl ?_
      refine T_iload_n (i := 2) (pc' := 144) dX12_isTold_143 rfl rfl rfl ?_
      refine T_iload_n (i := 3) (pc' := 145) dX12_isTold_144 rfl rfl rfl ?_
      refine T_iadd (pc' := 146) dX12_isTold_145 rfl ?_
      refine T_iald (pc' := 147) dX12_isTold_146 (by decide) rfl (n1).1 (n1).2 rfl ?_
      refine T_iconst (pc' := 148) dX12_isTold_147 (by decide) rfl ?_
      refine T_icmp_le (pc' := 153) dX12_isTold_148 (by decide) (pf := 151) rfl (fun c3 => ?_) (fun c3 => ?_)
      · skip
        refine T_iinc (L' := [(2, 66), (3, 0), (0, v2), (0, (wr32 (v3 + 1)))]) (pc' := 156) dX12_isTold_153 rfl (by decide) rfl rfl ?_
        refine T_goto (pc' := 131) dX12_isTold_156 (by decide) ?_
        rw [hw]
        exact T_wk (ih _ (v3 + 1) _ (by omega) (by omega) (n2 c3) (by have q := hQ; try simp only [if_pos c3] at q; exact q) hG) ⟨Or.inr rfl, Or.inl rfl, Or.inr rfl, Or.inr rfl, trivial⟩
      · skip
        refine T_iconst (pc' := 152) dX12_isTold_151 (by decide) rfl ?_
        exact T_zret dX12_isTold_152 rfl (by decide) ⟨rfl, hG, (by have q := hQ; try simp only [if_neg c3] at q; exact q)⟩
def lX12_isTold_51 (v1 : Int) : Nat → Int → Int → Mem → Int
  | 0, v2, v3, M => (lX12_isTold_131 v1 ((((fX12_doorMany M)) : Int) - 0).toNat v2 0 M)
  | k + 1, v2, v3, M => (if 120 < (M 67 (wr32 (3 * v3))) then 0 else (if 9 < (M 67 (wr32 ((wr32 (3 * v3)) + 1))) then 0 else (if (fX12_isCell M (M 67 (wr32 ((wr32 (3 * v3)) + 2)))) = 0 then 0 else (if (fX12_isWallNow M (M 67 (wr32 ((wr32 (3 * v3)) + 2)))) = 0 then (lX12_isTold_51 v1 k v2 (v3 + 1) M) else 0))))
def nlX12_isTold_51 (v1 : Int) : Nat → Int → Int → Mem → Prop
  | 0, v2, v3, M => ((nlX12_isTold_131 v1 ((((fX12_doorMany M)) : Int) - 0).toNat v2 0 M))
  | k + 1, v2, v3, M => (0 ≤ (wr32 (3 * v3)) ∧ (wr32 (3 * v3)) < 1600) ∧ (¬ (120 < (M 67 (wr32 (3 * v3)))) → 0 ≤ (wr32 ((wr32 (3 * v3)) + 1)) ∧ (wr32 ((wr32 (3 * v3)) + 1)) < 1600) ∧ (¬ (120 < (M 67 (wr32 (3 * v3)))) → ¬ (9 < (M 67 (wr32 ((wr32 (3 * v3)) + 1)))) → 0 ≤ (wr32 ((wr32 (3 * v3)) + 2)) ∧ (wr32 ((wr32 (3 * v3)) + 2)) < 1600) ∧ (¬ (120 < (M 67 (wr32 (3 * v3)))) → ¬ (9 < (M 67 (wr32 ((wr32 (3 * v3)) + 1)))) → ¬ ((fX12_isCell M (M 67 (wr32 ((wr32 (3 * v3)) + 2)))) = 0) → 0 ≤ (wr32 ((wr32 (3 * v3)) + 2)) ∧ (wr32 ((wr32 (3 * v3)) + 2)) < 1600) ∧ (¬ (120 < (M 67 (wr32 (3 * v3)))) → ¬ (9 < (M 67 (wr32 ((wr32 (3 * v3)) + 1)))) → ¬ ((fX12_isCell M (M 67 (wr32 ((wr32 (3 * v3)) + 2)))) = 0) → (nX12_isWallNow (M 67 (wr32 ((wr32 (3 * v3)) + 2))))) ∧ (¬ (120 < (M 67 (wr32 (3 * v3)))) → ¬ (9 < (M 67 (wr32 ((wr32 (3 * v3)) + 1)))) → ¬ ((fX12_isCell M (M 67 (wr32 ((wr32 (3 * v3)) + 2)))) = 0) → (fX12_isWallNow M (M 67 (wr32 ((wr32 (3 * v3)) + 2)))) = 0 → (nlX12_isTold_51 v1 k v2 (v3 + 1) M))
set_option maxRecDepth 100000 in
set_option maxHeartbeats 2000000 in
theorem qX12_isTold_51 {E : EV} {h : Int} {Q : Option MV → Mem → Prop} {v1 : Int}  : ∀ (k : Nat) (v2 v3 : Int) (M : Mem), 0 ≤ v3 → (((fX12_peopleMany M)) - v3).toNat = k → (nlX12_isTold_51 v1 k v2 v3 M) → Q (some (0, (lX12_isTold_51 v1 k v2 v3 M))) M → G h M → TG E miX12_isTold 3 h Q 51 [(2, 66), (3, 0), (0, v2), (0, v3)] [] M := by
  intro k
  induction k with
  | zero =>
    intro v2 v3 M hv0 hk hs hQ hG
    have hQ : Q (some (0, (lX12_isTold_131 v1 ((((fX12_doorMany M)) : Int) - 0).toNat v2 0 M))) M := hQ
    have hs : ((nlX12_isTold_131 v1 ((((fX12_doorMany M)) : Int) - 0).toNat v2 0 M)) := hs
    have n1 := hs
    refine T_iload_n (i := 3) (pc' := 52) dX12_isTold_51 rfl rfl rfl ?_
    refine T_aload_n (i := 0) (pc' := 53) dX12_isTold_52 rfl rfl rfl ?_
    refine T_callV (av := []) (st := [(0, v3)]) (d2 := 1) (nc2 := 0) (ns2 := 0) (pc' := 56) dX12_isTold_53 rfl mtX12_peopleMany mvX12_peopleMany mlX12_349 cl12 rfl rfl rfl (Nat.le_of_ble_eq_true rfl) (by decide) ⟨by decide, by decide⟩ rfl (pX12_peopleMany (E := E) (h := h) (M := M) hG) (kF (st2 := [(0, (fX12_peopleMany M)), (0, v3)]) rfl (fun hG1 => ?_))
    refine T_rng (fun _ z9 _ => ?_)
    have hB : r32 (fX12_peopleMany M) := (ok_cons.mp z9).1
    unfold r32 at hB
    refine T_icmp_ge (pc' := 129) dX12_isTold_56 (by decide) (pf := 59) rfl (fun c2 => ?_) (fun c2 => ?_)
    · skip
      refine T_iconst (pc' := 130) dX12_isTold_129 (by decide) rfl ?_
      refine T_istore_n (i := 3) (L' := [(2, 66), (3, 0), (0, v2), (0, 0)]) (pc' := 131) dX12_isTold_130 rfl (by decide) rfl rfl ?_
      exact T_wk (qX12_isTold_131  _ v2 0 _ (by first | decide | omega) rfl (n1) hQ hG) ⟨Or.inr rfl, Or.inl rfl, Or.inr rfl, Or.inr rfl, trivial⟩
    · exact absurd c2 (by omega)
  | succ k ih =>
    intro v2 v3 M hv0 hk hs hQ hG
    have hQ : Q (some (0, (if 120 < (M 67 (wr32 (3 * v3))) then 0 else (if 9 < (M 67 (wr32 ((wr32 (3 * v3)) + 1))) then 0 else (if (fX12_isCell M (M 67 (wr32 ((wr32 (3 * v3)) + 2)))) = 0 then 0 else (if (fX12_isWallNow M (M 67 (wr32 ((wr32 (3 * v3)) + 2)))) = 0 then (lX12_isTold_51 v1 k v2 (v3 + 1) M) else 0)))))) M := hQ
    have hs : (0 ≤ (wr32 (3 * v3)) ∧ (wr32 (3 * v3)) < 1600) ∧ (¬ (120 < (M 67 (wr32 (3 * v3)))) → 0 ≤ (wr32 ((wr32 (3 * v3)) + 1)) ∧ (wr32 ((wr32 (3 * v3)) + 1)) < 1600) ∧ (¬ (120 < (M 67 (wr32 (3 * v3)))) → ¬ (9 < (M 67 (wr32 ((wr32 (3 * v3)) + 1)))) → 0 ≤ (wr32 ((wr32 (3 * v3)) + 2)) ∧ (wr32 ((wr32 (3 * v3)) + 2)) < 1600) ∧ (¬ (120 < (M 67 (wr32 (3 * v3)))) → ¬ (9 < (M 67 (wr32 ((wr32 (3 * v3)) + 1)))) → ¬ ((fX12_isCell M (M 67 (wr32 ((wr32 (3 * v3)) + 2)))) = 0) → 0 ≤ (wr32 ((wr32 (3 * v3)) + 2)) ∧ (wr32 ((wr32 (3 * v3)) + 2)) < 1600) ∧ (¬ (120 < (M 67 (wr32 (3 * v3)))) → ¬ (9 < (M 67 (wr32 ((wr32 (3 * v3)) + 1)))) → ¬ ((fX12_isCell M (M 67 (wr32 ((wr32 (3 * v3)) + 2)))) = 0) → (nX12_isWallNow (M 67 (wr32 ((wr32 (3 * v3)) + 2))))) ∧ (¬ (120 < (M 67 (wr32 (3 * v3)))) → ¬ (9 < (M 67 (wr32 ((wr32 (3 * v3)) + 1)))) → ¬ ((fX12_isCell M (M 67 (wr32 ((wr32 (3 * v3)) + 2)))) = 0) → (fX12_isWallNow M (M 67 (wr32 ((wr32 (3 * v3)) + 2)))) = 0 → (nlX12_isTold_51 v1 k v2 (v3 + 1) M)) := hs
    obtain ⟨n1, n2, n3, n4, n5, n6⟩ := hs
    refine T_iload_n (i := 3) (pc' := 52) dX12_isTold_51 rfl rfl rfl ?_
    refine T_aload_n (i := 0) (pc' := 53) dX12_isTold_52 rfl rfl rfl ?_
    refine T_callV (av := []) (st := [(0, v3)]) (d2 := 1) (nc2 := 0) (ns2 := 0) (pc' := 56) dX12_isTold_53 rfl mtX12_peopleMany mvX12_peopleMany mlX12_349 cl12 rfl rfl rfl (Nat.le_of_ble_eq_true rfl) (by decide) ⟨by decide, by decide⟩ rfl (pX12_peopleMany (E := E) (h := h) (M := M) hG) (kF (st2 := [(0, (fX12_peopleMany M)), (0, v3)]) rfl (fun hG1 => ?_))
    refine T_rng (fun _ z9 _ => ?_)
    have hB : r32 (fX12_peopleMany M) := (ok_cons.mp z9).1
    unfold r32 at hB
    refine T_icmp_ge (pc' := 129) dX12_isTold_56 (by decide) (pf := 59) rfl (fun c2 => ?_) (fun c2 => ?_)
    · exact absurd c2 (by omega)
    · skip
      have hw : wr32 (v3 + 1) = v3 + 1 := wr32_id (by unfold r32; omega)
      refine T_aload_n (i := 0) (pc' := 60) dX12_isTold_59 rfl rfl rfl ?_
      refine U_gr (q := 67) (k := 0) (kI := 0) (pc' := 63) dX12_isTold_60 rfl cl12 (by decide) rfl (by decide) flX12_7 rfl rfl rfl (G_at hG 67 rfl) (by decide) rfl ?_
      refine T_iconst (pc' := 64) dX12_isTold_63 (by decide) rfl ?_
      refine T_iload_n (i := 3) (pc' := 65) dX12_isTold_64 rfl rfl rfl ?_
      refine T_imul (pc' := 66) dX12_isTold_65 rfl ?_
      refine T_iald (pc' := 67) dX12_isTold_66 (by decide) rfl (n1).1 (n1).2 rfl ?_
      refine T_bipush (pc' := 69) dX12_isTold_67 rfl (by decide) rfl ?_
      refine T_icmp_gt (pc' := 121) dX12_isTold_69 (by decide) (pf := 72) rfl (fun c3 => ?_) (fun c3 => ?_)
      · skip
        refine T_iconst (pc' := 122) dX12_isTold_121 (by decide) rfl ?_
        exact T_zret dX12_isTold_122 rfl (by decide) ⟨rfl, hG, (by have q := hQ; try simp only [if_pos c3] at q; exact q)⟩
      · skip
        refine T_aload_n (i := 0) (pc' := 73) dX12_isTold_72 rfl rfl rfl ?_
        refine U_gr (q := 67) (k := 0) (kI := 0) (pc' := 76) dX12_isTold_73 rfl cl12 (by decide) rfl (by decide) flX12_7 rfl rfl rfl (G_at hG 67 rfl) (by decide) rfl ?_
        refine T_iconst (pc' := 77) dX12_isTold_76 (by decide) rfl ?_
        refine T_iload_n (i := 3) (pc' := 78) dX12_isTold_77 rfl rfl rfl ?_
        refine T_imul (pc' := 79) dX12_isTold_78 rfl ?_
        refine T_iconst (pc' := 80) dX12_isTold_79 (by decide) rfl ?_
        refine T_iadd (pc' := 81) dX12_isTold_80 rfl ?_
        refine T_iald (pc' := 82) dX12_isTold_81 (by decide) rfl (n2 c3).1 (n2 c3).2 rfl ?_
        refine T_bipush (pc' := 84) dX12_isTold_82 rfl (by decide) rfl ?_
        refine T_icmp_gt (pc' := 121) dX12_isTold_84 (by decide) (pf := 87) rfl (fun c4 => ?_) (fun c4 => ?_)
        · skip
          refine T_iconst (pc' := 122) dX12_isTold_121 (by decide) rfl ?_
          exact T_zret dX12_isTold_122 rfl (by decide) ⟨rfl, hG, (by have q := hQ; try simp only [if_neg c3] at q; try simp only [if_pos c4] at q; exact q)⟩
        · skip
          refine T_aload_n (i := 0) (pc' := 88) dX12_isTold_87 rfl rfl rfl ?_
          refine T_aload_n (i := 0) (pc' := 89) dX12_isTold_88 rfl rfl rfl ?_
          refine U_gr (q := 67) (k := 0) (kI := 0) (pc' := 92) dX12_isTold_89 rfl cl12 (by decide) rfl (by decide) flX12_7 rfl rfl rfl (G_at hG 67 rfl) (by decide) rfl ?_
          refine T_iconst (pc' := 93) dX12_isTold_92 (by decide) rfl ?_
          refine T_iload_n (i := 3) (pc' := 94) dX12_isTold_93 rfl rfl rfl ?_
          refine T_imul (pc' := 95) dX12_isTold_94 rfl ?_
          refine T_iconst (pc' := 96) dX12_isTold_95 (by decide) rfl ?_
          refine T_iadd (pc' := 97) dX12_isTold_96 rfl ?_
          refine T_iald (pc' := 98) dX12_isTold_97 (by decide) rfl (n3 c3 c4).1 (n3 c3 c4).2 rfl ?_
          refine T_callV (av := [(0, (M 67 (wr32 ((wr32 (3 * v3)) + 2))))]) (st := []) (d2 := 2) (nc2 := 0) (ns2 := 0) (pc' := 101) dX12_isTold_98 rfl mtX12_isCell mvX12_isCell mlX12_481 cl12 rfl rfl rfl (Nat.le_of_ble_eq_true rfl) (by decide) ⟨by decide, by decide⟩ rfl (pX12_isCell (E := E) (h := h) (M := M) (v1 := (M 67 (wr32 ((wr32 (3 * v3)) + 2)))) hG) (kF (st2 := [(0, (fX12_isCell M (M 67 (wr32 ((wr32 (3 * v3)) + 2)))))]) rfl (fun hG5 => ?_))
          refine T_if_eq (pc' := 121) dX12_isTold_101 (by decide) (pf := 104) rfl (fun c6 => ?_) (fun c6 => ?_)
          · skip
            refine T_iconst (pc' := 122) dX12_isTold_121 (by decide) rfl ?_
            exact T_zret dX12_isTold_122 rfl (by decide) ⟨rfl, hG, (by have q := hQ; try simp only [if_neg c3] at q; try simp only [if_neg c4] at q; try simp only [if_pos c6] at q; exact q)⟩
          · skip
            refine T_aload_n (i := 0) (pc' := 105) dX12_isTold_104 rfl rfl rfl ?_
            refine T_aload_n (i := 0) (pc' := 106) dX12_isTold_105 rfl rfl rfl ?_
            refine U_gr (q := 67) (k := 0) (kI := 0) (pc' := 109) dX12_isTold_106 rfl cl12 (by decide) rfl (by decide) flX12_7 rfl rfl rfl (G_at hG 67 rfl) (by decide) rfl ?_
            refine T_iconst (pc' := 110) dX12_isTold_109 (by decide) rfl ?_
            refine T_iload_n (i := 3) (pc' := 111) dX12_isTold_110 rfl rfl rfl ?_
            refine T_imul (pc' := 112) dX12_isTold_111 rfl ?_
            refine T_iconst (pc' := 113) dX12_isTold_112 (by decide) rfl ?_
            refine T_iadd (pc' := 114) dX12_isTold_113 rfl ?_
            refine T_iald (pc' := 115) dX12_isTold_114 (by decide) rfl (n4 c3 c4 c6).1 (n4 c3 c4 c6).2 rfl ?_
            refine T_callV (av := [(0, (M 67 (wr32 ((wr32 (3 * v3)) + 2))))]) (st := []) (d2 := 1) (nc2 := 0) (ns2 := 0) (pc' := 118) dX12_isTold_115 rfl mtX12_isWallNow mvX12_isWallNow mlX12_355 cl12 rfl rfl rfl (Nat.le_of_ble_eq_true rfl) (by decide) ⟨by decide, by decide⟩ rfl (pX12_isWallNow (E := E) (h := h) (M := M) (v1 := (M 67 (wr32 ((wr32 (3 * v3)) + 2)))) (n5 c3 c4 c6) hG) (kF (st2 := [(0, (fX12_isWallNow M (M 67 (wr32 ((wr32 (3 * v3)) + 2)))))]) rfl (fun hG7 => ?_))
            refine T_if_eq (pc' := 123) dX12_isTold_118 (by decide) (pf := 121) rfl (fun c8 => ?_) (fun c8 => ?_)
            · skip
              refine T_iinc (L' := [(2, 66), (3, 0), (0, v2), (0, (wr32 (v3 + 1)))]) (pc' := 126) dX12_isTold_123 rfl (by decide) rfl rfl ?_
              refine T_goto (pc' := 51) dX12_isTold_126 (by decide) ?_
              rw [hw]
              exact T_wk (ih _ (v3 + 1) _ (by omega) (by omega) (n6 c3 c4 c6 c8) (by have q := hQ; try simp only [if_neg c3] at q; try simp only [if_neg c4] at q; try simp only [if_neg c6] at q; try simp only [if_pos c8] at q; exact q) hG) ⟨Or.inr rfl, Or.inl rfl, Or.inr rfl, Or.inr rfl, trivial⟩
            · skip
              refine T_iconst (pc' := 122) dX12_isTold_121 (by decide) rfl ?_
              exact T_zret dX12_isTold_122 rfl (by decide) ⟨rfl, hG, (by have q := hQ; try simp only [if_neg c3] at q; try simp only [if_neg c4] at q; try simp only [if_neg c6] at q; try simp only [if_neg c8] at q; exact q)⟩
def fX12_isTold (M : Mem) (v1 : Int) : Int :=
  (if (M 66 38) = 0 then 0 else (if v1 = (wr32 ((wr32 ((wr32 (3 * (fX12_peopleMany M))) + (fX12_doorMany M))) + 1)) then (if (M 67 (wr32 (v1 - 1))) = (fX12_checked M 67 1600 (wr32 (v1 - 1))) then (lX12_isTold_51 v1 ((((fX12_peopleMany M)) : Int) - 0).toNat (wr32 (3 * (fX12_peopleMany M))) 0 M) else 0) else 0))
def nX12_isTold (M : Mem) (v1 : Int) : Prop :=
  (¬ ((M 66 38) = 0) → v1 = (wr32 ((wr32 ((wr32 (3 * (fX12_peopleMany M))) + (fX12_doorMany M))) + 1)) → 0 ≤ (wr32 (v1 - 1)) ∧ (wr32 (v1 - 1)) < 1600) ∧ (¬ ((M 66 38) = 0) → v1 = (wr32 ((wr32 ((wr32 (3 * (fX12_peopleMany M))) + (fX12_doorMany M))) + 1)) → (nX12_checked M 67 1600 (wr32 (v1 - 1)))) ∧ (¬ ((M 66 38) = 0) → v1 = (wr32 ((wr32 ((wr32 (3 * (fX12_peopleMany M))) + (fX12_doorMany M))) + 1)) → (M 67 (wr32 (v1 - 1))) = (fX12_checked M 67 1600 (wr32 (v1 - 1))) → (nlX12_isTold_51 v1 ((((fX12_peopleMany M)) : Int) - 0).toNat (wr32 (3 * (fX12_peopleMany M))) 0 M))
set_option maxRecDepth 100000 in
theorem pX12_isTold {E : EV} {h : Int} {M : Mem} {v1 : Int} (hs : (nX12_isTold M v1)) : C2 E miX12_isTold 3 h [(2, 66), (0, v1)] M (fun r M' => r = some (0, (fX12_isTold M v1)) ∧ M' = M) := by
  obtain ⟨Q, hQ0⟩ : ∃ Q : Option MV → Mem → Prop, Q = (fun r M' => r = some (0, (fX12_isTold M v1)) ∧ M' = M) := ⟨_, rfl⟩
  rw [← hQ0]
  have hQ : Q (some (0, (if (M 66 38) = 0 then 0 else (if v1 = (wr32 ((wr32 ((wr32 (3 * (fX12_peopleMany M))) + (fX12_doorMany M))) + 1)) then (if (M 67 (wr32 (v1 - 1))) = (fX12_checked M 67 1600 (wr32 (v1 - 1))) then (lX12_isTold_51 v1 ((((fX12_peopleMany M)) : Int) - 0).toNat (wr32 (3 * (fX12_peopleMany M))) 0 M) else 0) else 0)))) M := by rw [hQ0]; exact ⟨rfl, rfl⟩
  obtain ⟨o1, o2, o3⟩ := hs
  refine C2_of (L := [(2, 66), (0, v1), (3, 0), (3, 0)]) (by decide +kernel) (Nat.le_of_ble_eq_true rfl) rfl (fun hG => ?_)
  refine T_iconst (pc' := 1) dX12_isTold_0 (by decide) rfl ?_
  refine T_aload_n (i := 0) (pc' := 2) dX12_isTold_1 rfl rfl rfl ?_
  refine T_callV (av := []) (st := [(0, 3)]) (d2 := 1) (nc2 := 0) (ns2 := 0) (pc' := 5) dX12_isTold_2 rfl mtX12_peopleMany mvX12_peopleMany mlX12_349 cl12 rfl rfl rfl (Nat.le_of_ble_eq_true rfl) (by decide) ⟨by decide, by decide⟩ rfl (pX12_peopleMany (E := E) (h := h) (M := M) hG) (kF (st2 := [(0, (fX12_peopleMany M)), (0, 3)]) rfl (fun hG1 => ?_))
  refine T_imul (pc' := 6) dX12_isTold_5 rfl ?_
  refine T_istore_n (i := 2) (L' := [(2, 66), (0, v1), (0, (wr32 (3 * (fX12_peopleMany M)))), (3, 0)]) (pc' := 7) dX12_isTold_6 rfl (by decide) rfl rfl ?_
  refine T_aload_n (i := 0) (pc' := 8) dX12_isTold_7 rfl rfl rfl ?_
  refine U_gf (v := (0, (M 66 38))) (k := 38) (kI := 38) (pc' := 11) dX12_isTold_8 rfl cl12 (by decide) rfl (by decide) flX12_334 rfl rfl (by decide) rfl rfl ?_
  refine T_if_eq (pc' := 47) dX12_isTold_11 (by decide) (pf := 14) rfl (fun c2 => ?_) (fun c2 => ?_)
  · skip
    refine T_iconst (pc' := 48) dX12_isTold_47 (by decide) rfl ?_
    exact T_zret dX12_isTold_48 rfl (by decide) ⟨rfl, hG, (by have q := hQ; try simp only [if_pos c2] at q; exact q)⟩
  · skip
    refine T_iload_n (i := 1) (pc' := 15) dX12_isTold_14 rfl rfl rfl ?_
    refine T_iload_n (i := 2) (pc' := 16) dX12_isTold_15 rfl rfl rfl ?_
    refine T_aload_n (i := 0) (pc' := 17) dX12_isTold_16 rfl rfl rfl ?_
    refine T_callV (av := []) (st := [(0, (wr32 (3 * (fX12_peopleMany M)))), (0, v1)]) (d2 := 1) (nc2 := 0) (ns2 := 0) (pc' := 20) dX12_isTold_17 rfl mtX12_doorMany mvX12_doorMany mlX12_361 cl12 rfl rfl rfl (Nat.le_of_ble_eq_true rfl) (by decide) ⟨by decide, by decide⟩ rfl (pX12_doorMany (E := E) (h := h) (M := M) hG) (kF (st2 := [(0, (fX12_doorMany M)), (0, (wr32 (3 * (fX12_peopleMany M)))), (0, v1)]) rfl (fun hG3 => ?_))
    refine T_iadd (pc' := 21) dX12_isTold_20 rfl ?_
    refine T_iconst (pc' := 22) dX12_isTold_21 (by decide) rfl ?_
    refine T_iadd (pc' := 23) dX12_isTold_22 rfl ?_
    refine T_icmp_ne (pc' := 47) dX12_isTold_23 (by decide) (pf := 26) rfl (fun c4 => ?_) (fun c4 => ?_)
    · skip
      refine T_iconst (pc' := 48) dX12_isTold_47 (by decide) rfl ?_
      exact T_zret dX12_isTold_48 rfl (by decide) ⟨rfl, hG, (by have q := hQ; try simp only [if_neg c2] at q; try simp only [if_neg c4] at q; exact q)⟩
    · skip
      refine T_aload_n (i := 0) (pc' := 27) dX12_isTold_26 rfl rfl rfl ?_
      refine U_gr (q := 67) (k := 0) (kI := 0) (pc' := 30) dX12_isTold_27 rfl cl12 (by decide) rfl (by decide) flX12_7 rfl rfl rfl (G_at hG 67 rfl) (by decide) rfl ?_
      refine T_iload_n (i := 1) (pc' := 31) dX12_isTold_30 rfl rfl rfl ?_
      refine T_iconst (pc' := 32) dX12_isTold_31 (by decide) rfl ?_
      refine T_isub (pc' := 33) dX12_isTold_32 rfl ?_
      refine T_iald (pc' := 34) dX12_isTold_33 (by decide) rfl (o1 c2 c4).1 (o1 c2 c4).2 rfl ?_
      refine T_aload_n (i := 0) (pc' := 35) dX12_isTold_34 rfl rfl rfl ?_
      refine U_gr (q := 67) (k := 0) (kI := 0) (pc' := 38) dX12_isTold_35 rfl cl12 (by decide) rfl (by decide) flX12_7 rfl rfl rfl (G_at hG 67 rfl) (by decide) rfl ?_
      refine T_iload_n (i := 1) (pc' := 39) dX12_isTold_38 rfl rfl rfl ?_
      refine T_iconst (pc' := 40) dX12_isTold_39 (by decide) rfl ?_
      refine T_isub (pc' := 41) dX12_isTold_40 rfl ?_
      refine T_callS (av := [(2, 67), (0, (wr32 (v1 - 1)))]) (st := [(0, (M 67 (wr32 (v1 - 1))))]) (d2 := 1) (nc2 := 0) (ns2 := 0) (pc' := 44) dX12_isTold_41 rfl mtX12_checked mvX12_checked mlX12_651 rfl rfl (Nat.le_of_ble_eq_true rfl) (by decide) ⟨by decide, by decide⟩ rfl (pX12_checked (E := E) (h := h) (M := M) (p0 := 67) (np0 := 1600) (v1 := (wr32 (v1 - 1))) (by decide) rfl (by decide) (o2 c2 c4) hG) (kF (st2 := [(0, (fX12_checked M 67 1600 (wr32 (v1 - 1)))), (0, (M 67 (wr32 (v1 - 1))))]) rfl (fun hG5 => ?_))
      refine T_icmp_eq (pc' := 49) dX12_isTold_44 (by decide) (pf := 47) rfl (fun c6 => ?_) (fun c6 => ?_)
      · skip
        refine T_iconst (pc' := 50) dX12_isTold_49 (by decide) rfl ?_
        refine T_istore_n (i := 3) (L' := [(2, 66), (0, v1), (0, (wr32 (3 * (fX12_peopleMany M)))), (0, 0)]) (pc' := 51) dX12_isTold_50 rfl (by decide) rfl rfl ?_
        exact T_wk (qX12_isTold_51  _ (wr32 (3 * (fX12_peopleMany M))) 0 _ (by first | decide | omega) rfl (o3 c2 c4 c6) (by have q := hQ; try simp only [if_neg c2] at q; try simp only [if_pos c4] at q; try simp only [if_pos c6] at q; exact q) hG) ⟨Or.inr rfl, Or.inl rfl, Or.inr rfl, Or.inr rfl, trivial⟩
      · skip
        refine T_iconst (pc' := 48) dX12_isTold_47 (by decide) rfl ?_
        exact T_zret dX12_isTold_48 rfl (by decide) ⟨rfl, hG, (by have q := hQ; try simp only [if_neg c2] at q; try simp only [if_pos c4] at q; try simp only [if_neg c6] at q; exact q)⟩
def lX12_on_87  : Nat → Int → Mem → Int
  | 0, v2, M => 1
  | k + 1, v2, M => (lX12_on_87 k (v2 + 1) (mset M 92 v2 (M 67 (wr32 ((wr32 (3 * (fX12_peopleMany M))) + v2)))))
def lmX12_on_87  : Nat → Int → Mem → Mem
  | 0, v2, M => (mset M 66 54 0)
  | k + 1, v2, M => (lmX12_on_87 k (v2 + 1) (mset M 92 v2 (M 67 (wr32 ((wr32 (3 * (fX12_peopleMany M))) + v2)))))
theorem frlX12_on_87  {q : Int} (hq0 : q ≠ 66) (hq1 : q ≠ 92) : ∀ {k : Nat} {v2 : Int} {M : Mem}, (lmX12_on_87  k v2 M) q = M q := by
  intro k
  induction k with
  | zero =>
    intro v2 M
    show (mset M 66 54 0) q = M q
    exact ((mset_p hq0).trans rfl)
  | succ k ih =>
    intro v2 M
    show (lmX12_on_87 k (v2 + 1) (mset M 92 v2 (M 67 (wr32 ((wr32 (3 * (fX12_peopleMany M))) + v2))))) q = M q
    exact ((ih).trans ((mset_p hq1).trans rfl))
theorem glX12_on_87 {h : Int}   : ∀ {k : Nat} {v2 : Int} {M : Mem}, G h M → G h (lmX12_on_87  k v2 M) := by
  intro k
  induction k with
  | zero =>
    intro v2 M hG
    show G h (mset M 66 54 0)
    exact (G_fld (x := 66) (i := 54) (y := 0) rfl (by decide) (by decide) (by decide) hG)
  | succ k ih =>
    intro v2 M hG
    show G h (lmX12_on_87 k (v2 + 1) (mset M 92 v2 (M 67 (wr32 ((wr32 (3 * (fX12_peopleMany M))) + v2)))))
    exact (ih (G_arr (x := 92) (i := v2) (y := (M 67 (wr32 ((wr32 (3 * (fX12_peopleMany M))) + v2)))) rfl (by decide) hG))
def nlX12_on_87  : Nat → Int → Mem → Prop
  | 0, v2, M => True
  | k + 1, v2, M => (0 ≤ (wr32 ((wr32 (3 * (fX12_peopleMany M))) + v2)) ∧ (wr32 ((wr32 (3 * (fX12_peopleMany M))) + v2)) < 1600) ∧ (0 ≤ v2 ∧ v2 < 6) ∧ ((nlX12_on_87 k (v2 + 1) (mset M 92 v2 (M 67 (wr32 ((wr32 (3 * (fX12_peopleMany M))) + v2))))))
set_option maxRecDepth 100000 in
set_option maxHeartbeats 2000000 in
theorem qX12_on_87 {E : EV} {h : Int} {Q : Option MV → Mem → Prop}   : ∀ (k : Nat) (v2 : Int) (M : Mem), 0 ≤ v2 → (((fX12_doorMany M)) - v2).toNat = k → (nlX12_on_87 k v2 M) → Q (some (0, (lX12_on_87 k v2 M))) (lmX12_on_87 k v2 M) → G h M → TG E miX12_on 4 h Q 87 [(2, 66), (3, 0), (0, v2)] [] M := by
  intro k
  induction k with
  | zero =>
    intro v2 M hv0 hk hs hQ hG
    have hQ : Q (some (0, 1)) (mset M 66 54 0) := hQ
    have hs : True := hs
    refine T_iload_n (i := 2) (pc' := 88) dX12_on_87 rfl rfl rfl ?_
    refine T_aload_n (i := 0) (pc' := 89) dX12_on_88 rfl rfl rfl ?_
    refine T_callV (av := []) (st := [(0, v2)]) (d2 := 1) (nc2 := 0) (ns2 := 0) (pc' := 92) dX12_on_89 rfl mtX12_doorMany mvX12_doorMany mlX12_361 cl12 rfl rfl rfl (Nat.le_of_ble_eq_true rfl) (by decide) ⟨by decide, by decide⟩ rfl (pX12_doorMany (E := E) (h := h) (M := M) hG) (kF (st2 := [(0, (fX12_doorMany M)), (0, v2)]) rfl (fun hG1 => ?_))
    refine T_rng (fun _ z9 _ => ?_)
    have hB : r32 (fX12_doorMany M) := (ok_cons.mp z9).1
    unfold r32 at hB
    refine T_icmp_ge (pc' := 120) dX12_on_92 (by decide) (pf := 95) rfl (fun c2 => ?_) (fun c2 => ?_)
    · skip
      refine T_aload_n (i := 0) (pc' := 121) dX12_on_120 rfl rfl rfl ?_
      refine T_iconst (pc' := 122) dX12_on_121 (by decide) rfl ?_
      refine U_pf (y := 0) (k := 54) (kI := 54) (pc' := 125) dX12_on_122 rfl cl12 (by decide) rfl (by decide) flX12_343 rfl rfl rfl rfl rfl (by decide) (fun z => z) rfl ?_
      refine T_iconst (pc' := 126) dX12_on_125 (by decide) rfl ?_
      exact T_zret dX12_on_126 rfl (by decide) ⟨rfl, (G_fld (x := 66) (i := 54) (y := 0) rfl (by decide) (by decide) (by decide) hG), hQ⟩
    · exact absurd c2 (by omega)
  | succ k ih =>
    intro v2 M hv0 hk hs hQ hG
    have hQ : Q (some (0, (lX12_on_87 k (v2 + 1) (mset M 92 v2 (M 67 (wr32 ((wr32 (3 * (fX12_peopleMany M))) + v2))))))) (lmX12_on_87 k (v2 + 1) (mset M 92 v2 (M 67 (wr32 ((wr32 (3 * (fX12_peopleMany M))) + v2))))) := hQ
    have hs : (0 ≤ (wr32 ((wr32 (3 * (fX12_peopleMany M))) + v2)) ∧ (wr32 ((wr32 (3 * (fX12_peopleMany M))) + v2)) < 1600) ∧ (0 ≤ v2 ∧ v2 < 6) ∧ ((nlX12_on_87 k (v2 + 1) (mset M 92 v2 (M 67 (wr32 ((wr32 (3 * (fX12_peopleMany M))) + v2)))))) := hs
    obtain ⟨n1, n2, n3⟩ := hs
    refine T_iload_n (i := 2) (pc' := 88) dX12_on_87 rfl rfl rfl ?_
    refine T_aload_n (i := 0) (pc' := 89) dX12_on_88 rfl rfl rfl ?_
    refine T_callV (av := []) (st := [(0, v2)]) (d2 := 1) (nc2 := 0) (ns2 := 0) (pc' := 92) dX12_on_89 rfl mtX12_doorMany mvX12_doorMany mlX12_361 cl12 rfl rfl rfl (Nat.le_of_ble_eq_true rfl) (by decide) ⟨by decide, by decide⟩ rfl (pX12_doorMany (E := E) (h := h) (M := M) hG) (kF (st2 := [(0, (fX12_doorMany M)), (0, v2)]) rfl (fun hG1 => ?_))
    refine T_rng (fun _ z9 _ => ?_)
    have hB : r32 (fX12_doorMany M) := (ok_cons.mp z9).1
    unfold r32 at hB
    refine T_icmp_ge (pc' := 120) dX12_on_92 (by decide) (pf := 95) rfl (fun c2 => ?_) (fun c2 => ?_)
    · exact absurd c2 (by omega)
    · skip
      have hw : wr32 (v2 + 1) = v2 + 1 := wr32_id (by unfold r32; omega)
      refine T_aload_n (i := 0) (pc' := 96) dX12_on_95 rfl rfl rfl ?_
      refine U_gr (q := 92) (k := 41) (kI := 41) (pc' := 99) dX12_on_96 rfl cl12 (by decide) rfl (by decide) flX12_92 rfl rfl rfl (G_at hG 92 rfl) (by decide) rfl ?_
      refine T_iload_n (i := 2) (pc' := 100) dX12_on_99 rfl rfl rfl ?_
      refine T_aload_n (i := 0) (pc' := 101) dX12_on_100 rfl rfl rfl ?_
      refine U_gr (q := 67) (k := 0) (kI := 0) (pc' := 104) dX12_on_101 rfl cl12 (by decide) rfl (by decide) flX12_7 rfl rfl rfl (G_at hG 67 rfl) (by decide) rfl ?_
      refine T_iconst (pc' := 105) dX12_on_104 (by decide) rfl ?_
      refine T_aload_n (i := 0) (pc' := 106) dX12_on_105 rfl rfl rfl ?_
      refine T_callV (av := []) (st := [(0, 3), (2, 67), (0, v2), (2, 92)]) (d2 := 1) (nc2 := 0) (ns2 := 0) (pc' := 109) dX12_on_106 rfl mtX12_peopleMany mvX12_peopleMany mlX12_349 cl12 rfl rfl rfl (Nat.le_of_ble_eq_true rfl) (by decide) ⟨by decide, by decide⟩ rfl (pX12_peopleMany (E := E) (h := h) (M := M) hG) (kF (st2 := [(0, (fX12_peopleMany M)), (0, 3), (2, 67), (0, v2), (2, 92)]) rfl (fun hG3 => ?_))
      refine T_imul (pc' := 110) dX12_on_109 rfl ?_
      refine T_iload_n (i := 2) (pc' := 111) dX12_on_110 rfl rfl rfl ?_
      refine T_iadd (pc' := 112) dX12_on_111 rfl ?_
      refine T_iald (pc' := 113) dX12_on_112 (by decide) rfl (n1).1 (n1).2 rfl ?_
      refine T_iast (pc' := 114) dX12_on_113 (by decide) rfl (n2).1 (n2).2 rfl ?_
      refine T_iinc (L' := [(2, 66), (3, 0), (0, (wr32 (v2 + 1)))]) (pc' := 117) dX12_on_114 rfl (by decide) rfl rfl ?_
      refine T_goto (pc' := 87) dX12_on_117 (by decide) ?_
      rw [hw]
      have hp0 : (mset M 92 v2 (M 67 (wr32 ((wr32 (3 * (fX12_peopleMany M))) + v2)))) 85 = M 85 := by
        exact ((mset_p (by first | decide | (unfold isG at *; omega) | exact rowne (by unfold isG at *; omega) (by unfold isG at *; omega) (by unfold isG at *; omega))).trans rfl)
      have hbd : (fX12_doorMany (mset M 92 v2 (M 67 (wr32 ((wr32 (3 * (fX12_peopleMany M))) + v2))))) = (fX12_doorMany M) := by
        simp only [fX12_doorMany, hp0]
      exact T_wk (ih (v2 + 1) _ (by omega) (by rw [hbd]; omega) (n3) hQ (G_arr (x := 92) (i := v2) (y := (M 67 (wr32 ((wr32 (3 * (fX12_peopleMany M))) + v2)))) rfl (by decide) hG)) ⟨Or.inr rfl, Or.inl rfl, Or.inr rfl, trivial⟩
def lX12_on_22  : Nat → Int → Mem → Int
  | 0, v2, M => (lX12_on_87 ((((fX12_doorMany M)) : Int) - 0).toNat 0 M)
  | k + 1, v2, M => (lX12_on_22 k (v2 + 1) (fmX12_makes (fmX12_makes (fmX12_makes M v2 1 (wr32 ((M 67 (wr32 (3 * v2))) - 60))) v2 2 ((fmX12_makes M v2 1 (wr32 ((M 67 (wr32 (3 * v2))) - 60))) 67 (wr32 ((wr32 (3 * v2)) + 1)))) v2 0 ((fmX12_makes (fmX12_makes M v2 1 (wr32 ((M 67 (wr32 (3 * v2))) - 60))) v2 2 ((fmX12_makes M v2 1 (wr32 ((M 67 (wr32 (3 * v2))) - 60))) 67 (wr32 ((wr32 (3 * v2)) + 1)))) 67 (wr32 ((wr32 (3 * v2)) + 2)))))
def lmX12_on_22  : Nat → Int → Mem → Mem
  | 0, v2, M => (lmX12_on_87 ((((fX12_doorMany M)) : Int) - 0).toNat 0 M)
  | k + 1, v2, M => (lmX12_on_22 k (v2 + 1) (fmX12_makes (fmX12_makes (fmX12_makes M v2 1 (wr32 ((M 67 (wr32 (3 * v2))) - 60))) v2 2 ((fmX12_makes M v2 1 (wr32 ((M 67 (wr32 (3 * v2))) - 60))) 67 (wr32 ((wr32 (3 * v2)) + 1)))) v2 0 ((fmX12_makes (fmX12_makes M v2 1 (wr32 ((M 67 (wr32 (3 * v2))) - 60))) v2 2 ((fmX12_makes M v2 1 (wr32 ((M 67 (wr32 (3 * v2))) - 60))) 67 (wr32 ((wr32 (3 * v2)) + 1)))) 67 (wr32 ((wr32 (3 * v2)) + 2)))))
theorem frlX12_on_22  {q : Int} (hq0 : q ≠ 88) (hq1 : q ≠ 66) (hq2 : q ≠ 92) : ∀ {k : Nat} {v2 : Int} {M : Mem}, (lmX12_on_22  k v2 M) q = M q := by
  intro k
  induction k with
  | zero =>
    intro v2 M
    show (lmX12_on_87 ((((fX12_doorMany M)) : Int) - 0).toNat 0 M) q = M q
    exact ((frlX12_on_87 hq1 hq2).trans rfl)
  | succ k ih =>
    intro v2 M
    show (lmX12_on_22 k (v2 + 1) (fmX12_makes (fmX12_makes (fmX12_makes M v2 1 (wr32 ((M 67 (wr32 (3 * v2))) - 60))) v2 2 ((fmX12_makes M v2 1 (wr32 ((M 67 (wr32 (3 * v2))) - 60))) 67 (wr32 ((wr32 (3 * v2)) + 1)))) v2 0 ((fmX12_makes (fmX12_makes M v2 1 (wr32 ((M 67 (wr32 (3 * v2))) - 60))) v2 2 ((fmX12_makes M v2 1 (wr32 ((M 67 (wr32 (3 * v2))) - 60))) 67 (wr32 ((wr32 (3 * v2)) + 1)))) 67 (wr32 ((wr32 (3 * v2)) + 2))))) q = M q
    exact ((ih).trans ((frX12_makes hq0).trans ((frX12_makes hq0).trans ((frX12_makes hq0).trans rfl))))
theorem glX12_on_22 {h : Int}   : ∀ {k : Nat} {v2 : Int} {M : Mem}, G h M → G h (lmX12_on_22  k v2 M) := by
  intro k
  induction k with
  | zero =>
    intro v2 M hG
    show G h (lmX12_on_87 ((((fX12_doorMany M)) : Int) - 0).toNat 0 M)
    exact (glX12_on_87 hG)
  | succ k ih =>
    intro v2 M hG
    show G h (lmX12_on_22 k (v2 + 1) (fmX12_makes (fmX12_makes (fmX12_makes M v2 1 (wr32 ((M 67 (wr32 (3 * v2))) - 60))) v2 2 ((fmX12_makes M v2 1 (wr32 ((M 67 (wr32 (3 * v2))) - 60))) 67 (wr32 ((wr32 (3 * v2)) + 1)))) v2 0 ((fmX12_makes (fmX12_makes M v2 1 (wr32 ((M 67 (wr32 (3 * v2))) - 60))) v2 2 ((fmX12_makes M v2 1 (wr32 ((M 67 (wr32 (3 * v2))) - 60))) 67 (wr32 ((wr32 (3 * v2)) + 1)))) 67 (wr32 ((wr32 (3 * v2)) + 2)))))
    exact (ih (gX12_makes (h := h) (M := (fmX12_makes (fmX12_makes M v2 1 (wr32 ((M 67 (wr32 (3 * v2))) - 60))) v2 2 ((fmX12_makes M v2 1 (wr32 ((M 67 (wr32 (3 * v2))) - 60))) 67 (wr32 ((wr32 (3 * v2)) + 1))))) (v1 := v2) (v2 := 0) (v3 := ((fmX12_makes (fmX12_makes M v2 1 (wr32 ((M 67 (wr32 (3 * v2))) - 60))) v2 2 ((fmX12_makes M v2 1 (wr32 ((M 67 (wr32 (3 * v2))) - 60))) 67 (wr32 ((wr32 (3 * v2)) + 1)))) 67 (wr32 ((wr32 (3 * v2)) + 2)))) (gX12_makes (h := h) (M := (fmX12_makes M v2 1 (wr32 ((M 67 (wr32 (3 * v2))) - 60)))) (v1 := v2) (v2 := 2) (v3 := ((fmX12_makes M v2 1 (wr32 ((M 67 (wr32 (3 * v2))) - 60))) 67 (wr32 ((wr32 (3 * v2)) + 1)))) (gX12_makes (h := h) (M := M) (v1 := v2) (v2 := 1) (v3 := (wr32 ((M 67 (wr32 (3 * v2))) - 60))) hG))))
def nlX12_on_22  : Nat → Int → Mem → Prop
  | 0, v2, M => ((nlX12_on_87 ((((fX12_doorMany M)) : Int) - 0).toNat 0 M))
  | k + 1, v2, M => (0 ≤ (wr32 (3 * v2)) ∧ (wr32 (3 * v2)) < 1600) ∧ ((nX12_makes v2 1)) ∧ (0 ≤ (wr32 ((wr32 (3 * v2)) + 1)) ∧ (wr32 ((wr32 (3 * v2)) + 1)) < 1600) ∧ ((nX12_makes v2 2)) ∧ (0 ≤ (wr32 ((wr32 (3 * v2)) + 2)) ∧ (wr32 ((wr32 (3 * v2)) + 2)) < 1600) ∧ ((nX12_makes v2 0)) ∧ ((nlX12_on_22 k (v2 + 1) (fmX12_makes (fmX12_makes (fmX12_makes M v2 1 (wr32 ((M 67 (wr32 (3 * v2))) - 60))) v2 2 ((fmX12_makes M v2 1 (wr32 ((M 67 (wr32 (3 * v2))) - 60))) 67 (wr32 ((wr32 (3 * v2)) + 1)))) v2 0 ((fmX12_makes (fmX12_makes M v2 1 (wr32 ((M 67 (wr32 (3 * v2))) - 60))) v2 2 ((fmX12_makes M v2 1 (wr32 ((M 67 (wr32 (3 * v2))) - 60))) 67 (wr32 ((wr32 (3 * v2)) + 1)))) 67 (wr32 ((wr32 (3 * v2)) + 2))))))
set_option maxRecDepth 100000 in
set_option maxHeartbeats 2000000 in
theorem qX12_on_22 {E : EV} {h : Int} {Q : Option MV → Mem → Prop}   : ∀ (k : Nat) (v2 : Int) (M : Mem), 0 ≤ v2 → (((fX12_peopleMany M)) - v2).toNat = k → (nlX12_on_22 k v2 M) → Q (some (0, (lX12_on_22 k v2 M))) (lmX12_on_22 k v2 M) → G h M → TG E miX12_on 4 h Q 22 [(2, 66), (3, 0), (0, v2)] [] M := by
  intro k
  induction k with
  | zero =>
    intro v2 M hv0 hk hs hQ hG
    have hQ : Q (some (0, (lX12_on_87 ((((fX12_doorMany M)) : Int) - 0).toNat 0 M))) (lmX12_on_87 ((((fX12_doorMany M)) : Int) - 0).toNat 0 M) := hQ
    have hs : ((nlX12_on_87 ((((fX12_doorMany M)) : Int) - 0).toNat 0 M)) := hs
    have n1 := hs
    refine T_iload_n (i := 2) (pc' := 23) dX12_on_22 rfl rfl rfl ?_
    refine T_aload_n (i := 0) (pc' := 24) dX12_on_23 rfl rfl rfl ?_
    refine T_callV (av := []) (st := [(0, v2)]) (d2 := 1) (nc2 := 0) (ns2 := 0) (pc' := 27) dX12_on_24 rfl mtX12_peopleMany mvX12_peopleMany mlX12_349 cl12 rfl rfl rfl (Nat.le_of_ble_eq_true rfl) (by decide) ⟨by decide, by decide⟩ rfl (pX12_peopleMany (E := E) (h := h) (M := M) hG) (kF (st2 := [(0, (fX12_peopleMany M)), (0, v2)]) rfl (fun hG1 => ?_))
    refine T_rng (fun _ z9 _ => ?_)
    have hB : r32 (fX12_peopleMany M) := (ok_cons.mp z9).1
    unfold r32 at hB
    refine T_icmp_ge (pc' := 85) dX12_on_27 (by decide) (pf := 30) rfl (fun c2 => ?_) (fun c2 => ?_)
    · skip
      refine T_iconst (pc' := 86) dX12_on_85 (by decide) rfl ?_
      refine T_istore_n (i := 2) (L' := [(2, 66), (3, 0), (0, 0)]) (pc' := 87) dX12_on_86 rfl (by decide) rfl rfl ?_
      exact T_wk (qX12_on_87  _ 0 _ (by first | decide | omega) rfl (n1) hQ hG) ⟨Or.inr rfl, Or.inl rfl, Or.inr rfl, trivial⟩
    · exact absurd c2 (by omega)
  | succ k ih =>
    intro v2 M hv0 hk hs hQ hG
    have hQ : Q (some (0, (lX12_on_22 k (v2 + 1) (fmX12_makes (fmX12_makes (fmX12_makes M v2 1 (wr32 ((M 67 (wr32 (3 * v2))) - 60))) v2 2 ((fmX12_makes M v2 1 (wr32 ((M 67 (wr32 (3 * v2))) - 60))) 67 (wr32 ((wr32 (3 * v2)) + 1)))) v2 0 ((fmX12_makes (fmX12_makes M v2 1 (wr32 ((M 67 (wr32 (3 * v2))) - 60))) v2 2 ((fmX12_makes M v2 1 (wr32 ((M 67 (wr32 (3 * v2))) - 60))) 67 (wr32 ((wr32 (3 * v2)) + 1)))) 67 (wr32 ((wr32 (3 * v2)) + 2))))))) (lmX12_on_22 k (v2 + 1) (fmX12_makes (fmX12_makes (fmX12_makes M v2 1 (wr32 ((M 67 (wr32 (3 * v2))) - 60))) v2 2 ((fmX12_makes M v2 1 (wr32 ((M 67 (wr32 (3 * v2))) - 60))) 67 (wr32 ((wr32 (3 * v2)) + 1)))) v2 0 ((fmX12_makes (fmX12_makes M v2 1 (wr32 ((M 67 (wr32 (3 * v2))) - 60))) v2 2 ((fmX12_makes M v2 1 (wr32 ((M 67 (wr32 (3 * v2))) - 60))) 67 (wr32 ((wr32 (3 * v2)) + 1)))) 67 (wr32 ((wr32 (3 * v2)) + 2))))) := hQ
    have hs : (0 ≤ (wr32 (3 * v2)) ∧ (wr32 (3 * v2)) < 1600) ∧ ((nX12_makes v2 1)) ∧ (0 ≤ (wr32 ((wr32 (3 * v2)) + 1)) ∧ (wr32 ((wr32 (3 * v2)) + 1)) < 1600) ∧ ((nX12_makes v2 2)) ∧ (0 ≤ (wr32 ((wr32 (3 * v2)) + 2)) ∧ (wr32 ((wr32 (3 * v2)) + 2)) < 1600) ∧ ((nX12_makes v2 0)) ∧ ((nlX12_on_22 k (v2 + 1) (fmX12_makes (fmX12_makes (fmX12_makes M v2 1 (wr32 ((M 67 (wr32 (3 * v2))) - 60))) v2 2 ((fmX12_makes M v2 1 (wr32 ((M 67 (wr32 (3 * v2))) - 60))) 67 (wr32 ((wr32 (3 * v2)) + 1)))) v2 0 ((fmX12_makes (fmX12_makes M v2 1 (wr32 ((M 67 (wr32 (3 * v2))) - 60))) v2 2 ((fmX12_makes M v2 1 (wr32 ((M 67 (wr32 (3 * v2))) - 60))) 67 (wr32 ((wr32 (3 * v2)) + 1)))) 67 (wr32 ((wr32 (3 * v2)) + 2)))))) := hs
    obtain ⟨n1, n2, n3, n4, n5, n6, n7⟩ := hs
    refine T_iload_n (i := 2) (pc' := 23) dX12_on_22 rfl rfl rfl ?_
    refine T_aload_n (i := 0) (pc' := 24) dX12_on_23 rfl rfl rfl ?_
    refine T_callV (av := []) (st := [(0, v2)]) (d2 := 1) (nc2 := 0) (ns2 := 0) (pc' := 27) dX12_on_24 rfl mtX12_peopleMany mvX12_peopleMany mlX12_349 cl12 rfl rfl rfl (Nat.le_of_ble_eq_true rfl) (by decide) ⟨by decide, by decide⟩ rfl (pX12_peopleMany (E := E) (h := h) (M := M) hG) (kF (st2 := [(0, (fX12_peopleMany M)), (0, v2)]) rfl (fun hG1 => ?_))
    refine T_rng (fun _ z9 _ => ?_)
    have hB : r32 (fX12_peopleMany M) := (ok_cons.mp z9).1
    unfold r32 at hB
    refine T_icmp_ge (pc' := 85) dX12_on_27 (by decide) (pf := 30) rfl (fun c2 => ?_) (fun c2 => ?_)
    · exact absurd c2 (by omega)
    · skip
      have hw : wr32 (v2 + 1) = v2 + 1 := wr32_id (by unfold r32; omega)
      refine T_aload_n (i := 0) (pc' := 31) dX12_on_30 rfl rfl rfl ?_
      refine T_iload_n (i := 2) (pc' := 32) dX12_on_31 rfl rfl rfl ?_
      refine T_iconst (pc' := 33) dX12_on_32 (by decide) rfl ?_
      refine T_aload_n (i := 0) (pc' := 34) dX12_on_33 rfl rfl rfl ?_
      refine U_gr (q := 67) (k := 0) (kI := 0) (pc' := 37) dX12_on_34 rfl cl12 (by decide) rfl (by decide) flX12_7 rfl rfl rfl (G_at hG 67 rfl) (by decide) rfl ?_
      refine T_iconst (pc' := 38) dX12_on_37 (by decide) rfl ?_
      refine T_iload_n (i := 2) (pc' := 39) dX12_on_38 rfl rfl rfl ?_
      refine T_imul (pc' := 40) dX12_on_39 rfl ?_
      refine T_iald (pc' := 41) dX12_on_40 (by decide) rfl (n1).1 (n1).2 rfl ?_
      refine T_bipush (pc' := 43) dX12_on_41 rfl (by decide) rfl ?_
      refine T_isub (pc' := 44) dX12_on_43 rfl ?_
      refine T_callV (av := [(0, v2), (0, 1), (0, (wr32 ((M 67 (wr32 (3 * v2))) - 60)))]) (st := []) (d2 := 1) (nc2 := 0) (ns2 := 0) (pc' := 47) dX12_on_44 rfl mtX12_makes mvX12_makes mlX12_473 cl12 rfl rfl rfl (Nat.le_of_ble_eq_true rfl) (by decide) ⟨by decide, by decide⟩ rfl (pX12_makes (E := E) (h := h) (M := M) (v1 := v2) (v2 := 1) (v3 := (wr32 ((M 67 (wr32 (3 * v2))) - 60))) (n2) hG) (kF (st2 := []) rfl (fun hG3 => ?_))
      refine T_aload_n (i := 0) (pc' := 48) dX12_on_47 rfl rfl rfl ?_
      refine T_iload_n (i := 2) (pc' := 49) dX12_on_48 rfl rfl rfl ?_
      refine T_iconst (pc' := 50) dX12_on_49 (by decide) rfl ?_
      refine T_aload_n (i := 0) (pc' := 51) dX12_on_50 rfl rfl rfl ?_
      refine U_gr (q := 67) (k := 0) (kI := 0) (pc' := 54) dX12_on_51 rfl cl12 (by decide) rfl (by decide) flX12_7 rfl rfl rfl (G_at (gX12_makes (h := h) (M := M) (v1 := v2) (v2 := 1) (v3 := (wr32 ((M 67 (wr32 (3 * v2))) - 60))) hG) 67 rfl) (by decide) rfl ?_
      refine T_iconst (pc' := 55) dX12_on_54 (by decide) rfl ?_
      refine T_iload_n (i := 2) (pc' := 56) dX12_on_55 rfl rfl rfl ?_
      refine T_imul (pc' := 57) dX12_on_56 rfl ?_
      refine T_iconst (pc' := 58) dX12_on_57 (by decide) rfl ?_
      refine T_iadd (pc' := 59) dX12_on_58 rfl ?_
      refine T_iald (pc' := 60) dX12_on_59 (by decide) rfl (n3).1 (n3).2 rfl ?_
      refine T_callV (av := [(0, v2), (0, 2), (0, ((fmX12_makes M v2 1 (wr32 ((M 67 (wr32 (3 * v2))) - 60))) 67 (wr32 ((wr32 (3 * v2)) + 1))))]) (st := []) (d2 := 1) (nc2 := 0) (ns2 := 0) (pc' := 63) dX12_on_60 rfl mtX12_makes mvX12_makes mlX12_473 cl12 rfl rfl rfl (Nat.le_of_ble_eq_true rfl) (by decide) ⟨by decide, by decide⟩ rfl (pX12_makes (E := E) (h := h) (M := (fmX12_makes M v2 1 (wr32 ((M 67 (wr32 (3 * v2))) - 60)))) (v1 := v2) (v2 := 2) (v3 := ((fmX12_makes M v2 1 (wr32 ((M 67 (wr32 (3 * v2))) - 60))) 67 (wr32 ((wr32 (3 * v2)) + 1)))) (n4) (gX12_makes (h := h) (M := M) (v1 := v2) (v2 := 1) (v3 := (wr32 ((M 67 (wr32 (3 * v2))) - 60))) hG)) (kF (st2 := []) rfl (fun hG4 => ?_))
      refine T_aload_n (i := 0) (pc' := 64) dX12_on_63 rfl rfl rfl ?_
      refine T_iload_n (i := 2) (pc' := 65) dX12_on_64 rfl rfl rfl ?_
      refine T_iconst (pc' := 66) dX12_on_65 (by decide) rfl ?_
      refine T_aload_n (i := 0) (pc' := 67) dX12_on_66 rfl rfl rfl ?_
      refine U_gr (q := 67) (k := 0) (kI := 0) (pc' := 70) dX12_on_67 rfl cl12 (by decide) rfl (by decide) flX12_7 rfl rfl rfl (G_at (gX12_makes (h := h) (M := (fmX12_makes M v2 1 (wr32 ((M 67 (wr32 (3 * v2))) - 60)))) (v1 := v2) (v2 := 2) (v3 := ((fmX12_makes M v2 1 (wr32 ((M 67 (wr32 (3 * v2))) - 60))) 67 (wr32 ((wr32 (3 * v2)) + 1)))) (gX12_makes (h := h) (M := M) (v1 := v2) (v2 := 1) (v3 := (wr32 ((M 67 (wr32 (3 * v2))) - 60))) hG)) 67 rfl) (by decide) rfl ?_
      refine T_iconst (pc' := 71) dX12_on_70 (by decide) rfl ?_
      refine T_iload_n (i := 2) (pc' := 72) dX12_on_71 rfl rfl rfl ?_
      refine T_imul (pc' := 73) dX12_on_72 rfl ?_
      refine T_iconst (pc' := 74) dX12_on_73 (by decide) rfl ?_
      refine T_iadd (pc' := 75) dX12_on_74 rfl ?_
      refine T_iald (pc' := 76) dX12_on_75 (by decide) rfl (n5).1 (n5).2 rfl ?_
      refine T_callV (av := [(0, v2), (0, 0), (0, ((fmX12_makes (fmX12_makes M v2 1 (wr32 ((M 67 (wr32 (3 * v2))) - 60))) v2 2 ((fmX12_makes M v2 1 (wr32 ((M 67 (wr32 (3 * v2))) - 60))) 67 (wr32 ((wr32 (3 * v2)) + 1)))) 67 (wr32 ((wr32 (3 * v2)) + 2))))]) (st := []) (d2 := 1) (nc2 := 0) (ns2 := 0) (pc' := 79) dX12_on_76 rfl mtX12_makes mvX12_makes mlX12_473 cl12 rfl rfl rfl (Nat.le_of_ble_eq_true rfl) (by decide) ⟨by decide, by decide⟩ rfl (pX12_makes (E := E) (h := h) (M := (fmX12_makes (fmX12_makes M v2 1 (wr32 ((M 67 (wr32 (3 * v2))) - 60))) v2 2 ((fmX12_makes M v2 1 (wr32 ((M 67 (wr32 (3 * v2))) - 60))) 67 (wr32 ((wr32 (3 * v2)) + 1))))) (v1 := v2) (v2 := 0) (v3 := ((fmX12_makes (fmX12_makes M v2 1 (wr32 ((M 67 (wr32 (3 * v2))) - 60))) v2 2 ((fmX12_makes M v2 1 (wr32 ((M 67 (wr32 (3 * v2))) - 60))) 67 (wr32 ((wr32 (3 * v2)) + 1)))) 67 (wr32 ((wr32 (3 * v2)) + 2)))) (n6) (gX12_makes (h := h) (M := (fmX12_makes M v2 1 (wr32 ((M 67 (wr32 (3 * v2))) - 60)))) (v1 := v2) (v2 := 2) (v3 := ((fmX12_makes M v2 1 (wr32 ((M 67 (wr32 (3 * v2))) - 60))) 67 (wr32 ((wr32 (3 * v2)) + 1)))) (gX12_makes (h := h) (M := M) (v1 := v2) (v2 := 1) (v3 := (wr32 ((M 67 (wr32 (3 * v2))) - 60))) hG))) (kF (st2 := []) rfl (fun hG5 => ?_))
      refine T_iinc (L' := [(2, 66), (3, 0), (0, (wr32 (v2 + 1)))]) (pc' := 82) dX12_on_79 rfl (by decide) rfl rfl ?_
      refine T_goto (pc' := 22) dX12_on_82 (by decide) ?_
      rw [hw]
      have hp0 : (fmX12_makes (fmX12_makes (fmX12_makes M v2 1 (wr32 ((M 67 (wr32 (3 * v2))) - 60))) v2 2 ((fmX12_makes M v2 1 (wr32 ((M 67 (wr32 (3 * v2))) - 60))) 67 (wr32 ((wr32 (3 * v2)) + 1)))) v2 0 ((fmX12_makes (fmX12_makes M v2 1 (wr32 ((M 67 (wr32 (3 * v2))) - 60))) v2 2 ((fmX12_makes M v2 1 (wr32 ((M 67 (wr32 (3 * v2))) - 60))) 67 (wr32 ((wr32 (3 * v2)) + 1)))) 67 (wr32 ((wr32 (3 * v2)) + 2)))) 85 = M 85 := by
        exact ((frX12_makes (by first | decide | (unfold isG at *; omega) | exact rowne (by unfold isG at *; omega) (by unfold isG at *; omega) (by unfold isG at *; omega))).trans ((frX12_makes (by first | decide | (unfold isG at *; omega) | exact rowne (by unfold isG at *; omega) (by unfold isG at *; omega) (by unfold isG at *; omega))).trans ((frX12_makes (by first | decide | (unfold isG at *; omega) | exact rowne (by unfold isG at *; omega) (by unfold isG at *; omega) (by unfold isG at *; omega))).trans rfl)))
      have hbd : (fX12_peopleMany (fmX12_makes (fmX12_makes (fmX12_makes M v2 1 (wr32 ((M 67 (wr32 (3 * v2))) - 60))) v2 2 ((fmX12_makes M v2 1 (wr32 ((M 67 (wr32 (3 * v2))) - 60))) 67 (wr32 ((wr32 (3 * v2)) + 1)))) v2 0 ((fmX12_makes (fmX12_makes M v2 1 (wr32 ((M 67 (wr32 (3 * v2))) - 60))) v2 2 ((fmX12_makes M v2 1 (wr32 ((M 67 (wr32 (3 * v2))) - 60))) 67 (wr32 ((wr32 (3 * v2)) + 1)))) 67 (wr32 ((wr32 (3 * v2)) + 2))))) = (fX12_peopleMany M) := by
        simp only [fX12_peopleMany, hp0]
      exact T_wk (ih (v2 + 1) _ (by omega) (by rw [hbd]; omega) (n7) hQ (gX12_makes (h := h) (M := (fmX12_makes (fmX12_makes M v2 1 (wr32 ((M 67 (wr32 (3 * v2))) - 60))) v2 2 ((fmX12_makes M v2 1 (wr32 ((M 67 (wr32 (3 * v2))) - 60))) 67 (wr32 ((wr32 (3 * v2)) + 1))))) (v1 := v2) (v2 := 0) (v3 := ((fmX12_makes (fmX12_makes M v2 1 (wr32 ((M 67 (wr32 (3 * v2))) - 60))) v2 2 ((fmX12_makes M v2 1 (wr32 ((M 67 (wr32 (3 * v2))) - 60))) 67 (wr32 ((wr32 (3 * v2)) + 1)))) 67 (wr32 ((wr32 (3 * v2)) + 2)))) (gX12_makes (h := h) (M := (fmX12_makes M v2 1 (wr32 ((M 67 (wr32 (3 * v2))) - 60)))) (v1 := v2) (v2 := 2) (v3 := ((fmX12_makes M v2 1 (wr32 ((M 67 (wr32 (3 * v2))) - 60))) 67 (wr32 ((wr32 (3 * v2)) + 1)))) (gX12_makes (h := h) (M := M) (v1 := v2) (v2 := 1) (v3 := (wr32 ((M 67 (wr32 (3 * v2))) - 60))) hG)))) ⟨Or.inr rfl, Or.inl rfl, Or.inr rfl, trivial⟩
def fX12_on (M : Mem) : Int :=
  (if (fX12_isTold (mset M 66 1 0) (M 66 1)) = 0 then 0 else (lX12_on_22 ((((fX12_peopleMany (mset M 66 1 0))) : Int) - 0).toNat 0 (mset M 66 1 0)))
def fmX12_on (M : Mem) : Mem :=
  (if (fX12_isTold (mset M 66 1 0) (M 66 1)) = 0 then (mset M 66 1 0) else (lmX12_on_22 ((((fX12_peopleMany (mset M 66 1 0))) : Int) - 0).toNat 0 (mset M 66 1 0)))
def nX12_on (M : Mem) : Prop :=
  ((nX12_isTold (mset M 66 1 0) (M 66 1))) ∧ (¬ ((fX12_isTold (mset M 66 1 0) (M 66 1)) = 0) → (nlX12_on_22 ((((fX12_peopleMany (mset M 66 1 0))) : Int) - 0).toNat 0 (mset M 66 1 0)))
theorem frX12_on {M : Mem} {q : Int} (hq0 : q ≠ 66) (hq1 : q ≠ 88) (hq2 : q ≠ 92) : (fmX12_on M) q = M q := by
  unfold fmX12_on
  exact (ite_q ((mset_p hq0).trans rfl) ((frlX12_on_22 hq1 hq0 hq2).trans ((mset_p hq0).trans rfl)))
theorem gX12_on {h : Int} {M : Mem}   (hG : G h M) : G h (fmX12_on M) := by
  unfold fmX12_on
  exact (G_ite (G_fld (x := 66) (i := 1) (y := 0) rfl (by decide) (by decide) (by decide) hG) (glX12_on_22 (G_fld (x := 66) (i := 1) (y := 0) rfl (by decide) (by decide) (by decide) hG)))
set_option maxRecDepth 100000 in
theorem pX12_on {E : EV} {h : Int} {M : Mem}  (hs : (nX12_on M)) : C2 E miX12_on 4 h [(2, 66)] M (fun r M' => r = some (0, (fX12_on M)) ∧ M' = (fmX12_on M)) := by
  obtain ⟨Q, hQ0⟩ : ∃ Q : Option MV → Mem → Prop, Q = (fun r M' => r = some (0, (fX12_on M)) ∧ M' = (fmX12_on M)) := ⟨_, rfl⟩
  rw [← hQ0]
  have hQ : Q (some (0, (if (fX12_isTold (mset M 66 1 0) (M 66 1)) = 0 then 0 else (lX12_on_22 ((((fX12_peopleMany (mset M 66 1 0))) : Int) - 0).toNat 0 (mset M 66 1 0))))) (if (fX12_isTold (mset M 66 1 0) (M 66 1)) = 0 then (mset M 66 1 0) else (lmX12_on_22 ((((fX12_peopleMany (mset M 66 1 0))) : Int) - 0).toNat 0 (mset M 66 1 0))) := by rw [hQ0]; exact ⟨rfl, rfl⟩
  obtain ⟨o1, o2⟩ := hs
  refine C2_of (L := [(2, 66), (3, 0), (3, 0)]) (by decide +kernel) (Nat.le_of_ble_eq_true rfl) rfl (fun hG => ?_)
  refine T_aload_n (i := 0) (pc' := 1) dX12_on_0 rfl rfl rfl ?_
  refine U_gf (v := (0, (M 66 1))) (k := 1) (kI := 1) (pc' := 4) dX12_on_1 rfl cl12 (by decide) rfl (by decide) flX12_198 rfl rfl (by decide) rfl rfl ?_
  refine T_istore_n (i := 1) (L' := [(2, 66), (0, (M 66 1)), (3, 0)]) (pc' := 5) dX12_on_4 rfl (by decide) rfl rfl ?_
  refine T_aload_n (i := 0) (pc' := 6) dX12_on_5 rfl rfl rfl ?_
  refine T_iconst (pc' := 7) dX12_on_6 (by decide) rfl ?_
  refine U_pf (y := 0) (k := 1) (kI := 1) (pc' := 10) dX12_on_7 rfl cl12 (by decide) rfl (by decide) flX12_198 rfl rfl rfl rfl rfl (by decide) (fun z => z) rfl ?_
  refine T_aload_n (i := 0) (pc' := 11) dX12_on_10 rfl rfl rfl ?_
  refine T_iload_n (i := 1) (pc' := 12) dX12_on_11 rfl rfl rfl ?_
  refine T_callV (av := [(0, (M 66 1))]) (st := []) (d2 := 3) (nc2 := 0) (ns2 := 0) (pc' := 15) dX12_on_12 rfl mtX12_isTold mvX12_isTold mlX12_655 cl12 rfl rfl rfl (Nat.le_of_ble_eq_true rfl) (by decide) ⟨by decide, by decide⟩ rfl (pX12_isTold (E := E) (h := h) (M := (mset M 66 1 0)) (v1 := (M 66 1)) (o1) (G_fld (x := 66) (i := 1) (y := 0) rfl (by decide) (by decide) (by decide) hG)) (kF (st2 := [(0, (fX12_isTold (mset M 66 1 0) (M 66 1)))]) rfl (fun hG1 => ?_))
  refine T_if_ne (pc' := 20) dX12_on_15 (by decide) (pf := 18) rfl (fun c2 => ?_) (fun c2 => ?_)
  · skip
    refine T_iconst (pc' := 21) dX12_on_20 (by decide) rfl ?_
    refine T_istore_n (i := 2) (L' := [(2, 66), (0, (M 66 1)), (0, 0)]) (pc' := 22) dX12_on_21 rfl (by decide) rfl rfl ?_
    exact T_wk (qX12_on_22  _ 0 _ (by first | decide | omega) rfl (o2 c2) (by have q := hQ; try simp only [if_neg c2] at q; exact q) (G_fld (x := 66) (i := 1) (y := 0) rfl (by decide) (by decide) (by decide) hG)) ⟨Or.inr rfl, Or.inl rfl, Or.inr rfl, trivial⟩
  · skip
    refine T_iconst (pc' := 19) dX12_on_18 (by decide) rfl ?_
    exact T_zret dX12_on_19 rfl (by decide) ⟨rfl, (G_fld (x := 66) (i := 1) (y := 0) rfl (by decide) (by decide) (by decide) hG), (by have q := hQ; try simp only [if_pos c2] at q; exact q)⟩
