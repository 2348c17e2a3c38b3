/-! methods by program, 5 -/
def fX12_size (v0 : Int) : Int :=
  (if 0 ≤ v0 then v0 else (wr32 (-v0)))
set_option maxRecDepth 100000 in
theorem pX12_size {E : EV} {h : Int} {M : Mem} {v0 : Int}  : C2 E miX12_size 1 h [(0, v0)] M (fun r M' => r = some (0, (fX12_size v0)) ∧ M' = M) := by
  obtain ⟨Q, hQ⟩ : ∃ Q : Option MV → Mem → Prop, Q = (fun r M' => r = some (0, (fX12_size v0)) ∧ M' = M) := ⟨_, rfl⟩
  rw [← hQ]
  refine C2_of (L := [(0, v0)]) (by decide +kernel) (Nat.le_of_ble_eq_true rfl) rfl (fun hG => ?_)
  refine T_iload_n (i := 0) (pc' := 1) dX12_size_0 rfl rfl rfl ?_
  have HJ1 : T E miX12_size 1 126 0 0 (fun r S M' => S = S0 ∧ G h M' ∧ Q r M') 10 [(3, 0)] [(0, (if 0 ≤ v0 then v0 else (wr32 (-v0))))] S0 M 0 0 := by
    exact T_iret dX12_size_10 rfl ⟨rfl, hG, (by rw [hQ]; exact ⟨rfl, rfl⟩)⟩
  refine T_if_ge (pc' := 9) dX12_size_1 (by decide) (pf := 4) rfl (fun c2 => ?_) (fun c2 => ?_)
  · skip
    refine T_iload_n (i := 0) (pc' := 10) dX12_size_9 rfl rfl rfl ?_
    exact T_wk (L' := [(3, 0)]) (by have q := HJ1; try simp only [if_pos c2] at q; exact q) ⟨Or.inl rfl, trivial⟩
  · skip
    refine T_iload_n (i := 0) (pc' := 5) dX12_size_4 rfl rfl rfl ?_
    refine T_ineg (pc' := 6) dX12_size_5 rfl ?_
    refine T_goto (pc' := 10) dX12_size_6 (by decide) ?_
    exact T_wk (L' := [(3, 0)]) (by have q := HJ1; try simp only [if_neg c2] at q; exact q) ⟨Or.inl rfl, trivial⟩
def fX12_apart (M : Mem) (v1 : Int) (v2 : Int) : Int :=
  (wr32 ((fX12_size (wr32 ((Int.tmod v1 (M 66 38)) - (Int.tmod v2 (M 66 38))))) + (fX12_size (wr32 ((wr32 (Int.tdiv v1 (M 66 38))) - (wr32 (Int.tdiv v2 (M 66 38))))))))
def nX12_apart (M : Mem) : Prop :=
  (¬ (M 66 38) = 0) ∧ (¬ (M 66 38) = 0) ∧ (¬ (M 66 38) = 0) ∧ (¬ (M 66 38) = 0)
set_option maxRecDepth 100000 in
theorem pX12_apart {E : EV} {h : Int} {M : Mem} {v1 : Int} {v2 : Int} (hs : (nX12_apart M)) : C2 E miX12_apart 2 h [(2, 66), (0, v1), (0, v2)] M (fun r M' => r = some (0, (fX12_apart M v1 v2)) ∧ M' = M) := by
  obtain ⟨Q, hQ⟩ : ∃ Q : Option MV → Mem → Prop, Q = (fun r M' => r = some (0, (fX12_apart M v1 v2)) ∧ M' = M) := ⟨_, rfl⟩
  rw [← hQ]
  obtain ⟨o1, o2, o3, o4⟩ := hs
  refine C2_of (L := [(2, 66), (0, v1), (0, v2)]) (by decide +kernel) (Nat.le_of_ble_eq_true rfl) rfl (fun hG => ?_)
  refine T_iload_n (i := 1) (pc' := 1) dX12_apart_0 rfl rfl rfl ?_
  refine T_aload_n (i := 0) (pc' := 2) dX12_apart_1 rfl rfl rfl ?_
  refine U_gf (v := (0, (M 66 38))) (k := 38) (kI := 38) (pc' := 5) dX12_apart_2 rfl cl12 (by decide) rfl (by decide) flX12_334 rfl rfl (by decide) rfl rfl ?_
  refine T_irem (pc' := 6) dX12_apart_5 (o1) rfl ?_
  refine T_iload_n (i := 2) (pc' := 7) dX12_apart_6 rfl rfl rfl ?_
  refine T_aload_n (i := 0) (pc' := 8) dX12_apart_7 rfl rfl rfl ?_
  refine U_gf (v := (0, (M 66 38))) (k := 38) (kI := 38) (pc' := 11) dX12_apart_8 rfl cl12 (by decide) rfl (by decide) flX12_334 rfl rfl (by decide) rfl rfl ?_
  refine T_irem (pc' := 12) dX12_apart_11 (o2) rfl ?_
  refine T_isub (pc' := 13) dX12_apart_12 rfl ?_
  refine T_callS (av := [(0, (wr32 ((Int.tmod v1 (M 66 38)) - (Int.tmod v2 (M 66 38)))))]) (st := []) (d2 := 1) (nc2 := 0) (ns2 := 0) (pc' := 16) dX12_apart_13 rfl mtX12_size mvX12_size mlX12_358 rfl rfl (Nat.le_of_ble_eq_true rfl) (by decide) ⟨by decide, by decide⟩ rfl (pX12_size (E := E) (h := h) (M := M) (v0 := (wr32 ((Int.tmod v1 (M 66 38)) - (Int.tmod v2 (M 66 38))))) hG) (kF (st2 := [(0, (fX12_size (wr32 ((Int.tmod v1 (M 66 38)) - (Int.tmod v2 (M 66 38))))))]) rfl (fun hG1 => ?_))
  refine T_iload_n (i := 1) (pc' := 17) dX12_apart_16 rfl rfl rfl ?_
  refine T_aload_n (i := 0) (pc' := 18) dX12_apart_17 rfl rfl rfl ?_
  refine U_gf (v := (0, (M 66 38))) (k := 38) (kI := 38) (pc' := 21) dX12_apart_18 rfl cl12 (by decide) rfl (by decide) flX12_334 rfl rfl (by decide) rfl rfl ?_
  refine T_idiv (pc' := 22) dX12_apart_21 (o3) rfl ?_
  refine T_iload_n (i := 2) (pc' := 23) dX12_apart_22 rfl rfl rfl ?_
  refine T_aload_n (i := 0) (pc' := 24) dX12_apart_23 rfl rfl rfl ?_
  refine U_gf (v := (0, (M 66 38))) (k := 38) (kI := 38) (pc' := 27) dX12_apart_24 rfl cl12 (by decide) rfl (by decide) flX12_334 rfl rfl (by decide) rfl rfl ?_
  refine T_idiv (pc' := 28) dX12_apart_27 (o4) rfl ?_
  refine T_isub (pc' := 29) dX12_apart_28 rfl ?_
  refine T_callS (av := [(0, (wr32 ((wr32 (Int.tdiv v1 (M 66 38))) - (wr32 (Int.tdiv v2 (M 66 38))))))]) (st := [(0, (fX12_size (wr32 ((Int.tmod v1 (M 66 38)) - (Int.tmod v2 (M 66 38))))))]) (d2 := 1) (nc2 := 0) (ns2 := 0) (pc' := 32) dX12_apart_29 rfl mtX12_size mvX12_size mlX12_358 rfl rfl (Nat.le_of_ble_eq_true rfl) (by decide) ⟨by decide, by decide⟩ rfl (pX12_size (E := E) (h := h) (M := M) (v0 := (wr32 ((wr32 (Int.tdiv v1 (M 66 38))) - (wr32 (Int.tdiv v2 (M 66 38)))))) hG) (kF (st2 := [(0, (fX12_size (wr32 ((wr32 (Int.tdiv v1 (M 66 38))) - (wr32 (Int.tdiv v2 (M 66 38))))))), (0, (fX12_size (wr32 ((Int.tmod v1 (M 66 38)) - (Int.tmod v2 (M 66 38))))))]) rfl (fun hG2 => ?_))
  refine T_iadd (pc' := 33) dX12_apart_32 rfl ?_
  exact T_iret dX12_apart_33 rfl ⟨rfl, hG, (by rw [hQ]; exact ⟨rfl, rfl⟩)⟩
def lX12_nearer_2  : Nat → Int → Int → Mem → Int
  | 0, v1, v2, M => v1
  | k + 1, v1, v2, M => (if (M 93 v1) ≤ (M 93 (fX12_stepped M v1 v2)) then (lX12_nearer_2 k v1 (v2 + 1) M) else (fX12_stepped M v1 v2))
def nlX12_nearer_2  : Nat → Int → Int → Mem → Prop
  | 0, v1, v2, M => True
  | k + 1, v1, v2, M => ((nX12_stepped M v1 v2)) ∧ (0 ≤ (fX12_stepped M v1 v2) ∧ (fX12_stepped M v1 v2) < 54) ∧ (0 ≤ v1 ∧ v1 < 54) ∧ ((M 93 v1) ≤ (M 93 (fX12_stepped M v1 v2)) → (nlX12_nearer_2 k v1 (v2 + 1) M))
set_option maxRecDepth 100000 in
set_option maxHeartbeats 2000000 in
theorem qX12_nearer_2 {E : EV} {h : Int} {Q : Option MV → Mem → Prop}   : ∀ (k : Nat) (v1 v2 : Int) (M : Mem), 0 ≤ v2 → ((4) - v2).toNat = k → (nlX12_nearer_2 k v1 v2 M) → Q (some (0, (lX12_nearer_2 k v1 v2 M))) M → G h M → TG E miX12_nearer 3 h Q 2 [(2, 66), (0, v1), (0, v2), (3, 0)] [] M := by
  intro k
  induction k with
  | zero =>
    intro v1 v2 M hv0 hk hs hQ hG
    have hQ : Q (some (0, v1)) M := hQ
    have hs : True := hs
    refine T_iload_n (i := 2) (pc' := 3) dX12_nearer_2 rfl rfl rfl ?_
    refine T_iconst (pc' := 4) dX12_nearer_3 (by decide) rfl ?_
    refine T_rng (fun _ z9 _ => ?_)
    have hB : r32 4 := (ok_cons.mp z9).1
    unfold r32 at hB
    refine T_icmp_ge (pc' := 37) dX12_nearer_4 (by decide) (pf := 7) rfl (fun c1 => ?_) (fun c1 => ?_)
    · skip
      refine T_iload_n (i := 1) (pc' := 38) dX12_nearer_37 rfl rfl rfl ?_
      exact T_iret dX12_nearer_38 rfl ⟨rfl, hG, hQ⟩
    · exact absurd c1 (by omega)
  | succ k ih =>
    intro v1 v2 M hv0 hk hs hQ hG
    have hQ : Q (some (0, (if (M 93 v1) ≤ (M 93 (fX12_stepped M v1 v2)) then (lX12_nearer_2 k v1 (v2 + 1) M) else (fX12_stepped M v1 v2)))) M := hQ
    have hs : ((nX12_stepped M v1 v2)) ∧ (0 ≤ (fX12_stepped M v1 v2) ∧ (fX12_stepped M v1 v2) < 54) ∧ (0 ≤ v1 ∧ v1 < 54) ∧ ((M 93 v1) ≤ (M 93 (fX12_stepped M v1 v2)) → (nlX12_nearer_2 k v1 (v2 + 1) M)) := hs
    obtain ⟨n1, n2, n3, n4⟩ := hs
    refine T_iload_n (i := 2) (pc' := 3) dX12_nearer_2 rfl rfl rfl ?_
    refine T_iconst (pc' := 4) dX12_nearer_3 (by decide) rfl ?_
    refine T_rng (fun _ z9 _ => ?_)
    have hB : r32 4 := (ok_cons.mp z9).1
    unfold r32 at hB
    refine T_icmp_ge (pc' := 37) dX12_nearer_4 (by decide) (pf := 7) rfl (fun c1 => ?_) (fun c1 => ?_)
    · exact absurd c1 (by omega)
    · skip
      have hw : wr32 (v2 + 1) = v2 + 1 := wr32_id (by unfold r32; omega)
      refine T_aload_n (i := 0) (pc' := 8) dX12_nearer_7 rfl rfl rfl ?_
      refine T_iload_n (i := 1) (pc' := 9) dX12_nearer_8 rfl rfl rfl ?_
      refine T_iload_n (i := 2) (pc' := 10) dX12_nearer_9 rfl rfl rfl ?_
      refine T_callV (av := [(0, v1), (0, v2)]) (st := []) (d2 := 2) (nc2 := 0) (ns2 := 0) (pc' := 13) dX12_nearer_10 rfl mtX12_stepped mvX12_stepped mlX12_364 cl12 rfl rfl rfl (Nat.le_of_ble_eq_true rfl) (by decide) ⟨by decide, by decide⟩ rfl (pX12_stepped (E := E) (h := h) (M := M) (v1 := v1) (v2 := v2) (n1) hG) (kF (st2 := [(0, (fX12_stepped M v1 v2))]) rfl (fun hG2 => ?_))
      refine T_istore_n (i := 3) (L' := [(2, 66), (0, v1), (0, v2), (0, (fX12_stepped M v1 v2))]) (pc' := 14) dX12_nearer_13 rfl (by decide) rfl rfl ?_
      refine T_aload_n (i := 0) (pc' := 15) dX12_nearer_14 rfl rfl rfl ?_
      refine U_gr (q := 93) (k := 43) (kI := 43) (pc' := 18) dX12_nearer_15 rfl cl12 (by decide) rfl (by decide) flX12_95 rfl rfl rfl (G_at hG 93 rfl) (by decide) rfl ?_
      refine T_iload_n (i := 3) (pc' := 19) dX12_nearer_18 rfl rfl rfl ?_
      refine T_iald (pc' := 20) dX12_nearer_19 (by decide) rfl (n2).1 (n2).2 rfl ?_
      refine T_aload_n (i := 0) (pc' := 21) dX12_nearer_20 rfl rfl rfl ?_
      refine U_gr (q := 93) (k := 43) (kI := 43) (pc' := 24) dX12_nearer_21 rfl cl12 (by decide) rfl (by decide) flX12_95 rfl rfl rfl (G_at hG 93 rfl) (by decide) rfl ?_
      refine T_iload_n (i := 1) (pc' := 25) dX12_nearer_24 rfl rfl rfl ?_
      refine T_iald (pc' := 26) dX12_nearer_25 (by decide) rfl (n3).1 (n3).2 rfl ?_
      refine T_icmp_ge (pc' := 31) dX12_nearer_26 (by decide) (pf := 29) rfl (fun c3 => ?_) (fun c3 => ?_)
      · skip
        refine T_iinc (L' := [(2, 66), (0, v1), (0, (wr32 (v2 + 1))), (0, (fX12_stepped M v1 v2))]) (pc' := 34) dX12_nearer_31 rfl (by decide) rfl rfl ?_
        refine T_goto (pc' := 2) dX12_nearer_34 (by decide) ?_
        rw [hw]
        exact T_wk (ih _ (v2 + 1) _ (by omega) (by omega) (n4 c3) (by have q := hQ; try simp only [if_pos c3] at q; exact q) hG) ⟨Or.inr rfl, Or.inr rfl, Or.inr rfl, Or.inl rfl, trivial⟩
      · skip
        refine T_iload_n (i := 3) (pc' := 30) dX12_nearer_29 rfl rfl rfl ?_
        exact T_iret dX12_nearer_30 rfl ⟨rfl, hG, (by have q := hQ; try simp only [if_neg c3] at q; exact q)⟩
def fX12_nearer (M : Mem) (v1 : Int) : Int :=
  (lX12_nearer_2 4 v1 0 M)
def nX12_nearer (M : Mem) (v1 : Int) : Prop :=
  ((nlX12_nearer_2 4 v1 0 M))
set_option maxRecDepth 100000 in
theorem pX12_nearer {E : EV} {h : Int} {M : Mem} {v1 : Int} (hs : (nX12_nearer M v1)) : C2 E miX12_nearer 3 h [(2, 66), (0, v1)] M (fun r M' => r = some (0, (fX12_nearer M v1)) ∧ M' = M) := by
  obtain ⟨Q, hQ0⟩ : ∃ Q : Option MV → Mem → Prop, Q = (fun r M' => r = some (0, (fX12_nearer M v1)) ∧ M' = M) := ⟨_, rfl⟩
  rw [← hQ0]
  have hQ : Q (some (0, (lX12_nearer_2 4 v1 0 M))) M := by rw [hQ0]; exact ⟨rfl, rfl⟩
  have o1 := hs
  refine C2_of (L := [(2, 66), (0, v1), (3, 0), (3, 0)]) (by decide +kernel) (Nat.le_of_ble_eq_true rfl) rfl (fun hG => ?_)
  refine T_iconst (pc' := 1) dX12_nearer_0 (by decide) rfl ?_
  refine T_istore_n (i := 2) (L' := [(2, 66), (0, v1), (0, 0), (3, 0)]) (pc' := 2) dX12_nearer_1 rfl (by decide) rfl rfl ?_
  exact T_wk (qX12_nearer_2  4 v1 0 _ (by first | decide | omega) rfl (o1) hQ hG) ⟨Or.inr rfl, Or.inr rfl, Or.inr rfl, Or.inl rfl, trivial⟩
def fX12_openTime (M : Mem) : Int :=
  (M 91 5)
set_option maxRecDepth 100000 in
theorem pX12_openTime {E : EV} {h : Int} {M : Mem}   : C2 E miX12_openTime 1 h [(2, 66)] M (fun r M' => r = some (0, (fX12_openTime M)) ∧ M' = M) := by
  obtain ⟨Q, hQ⟩ : ∃ Q : Option MV → Mem → Prop, Q = (fun r M' => r = some (0, (fX12_openTime M)) ∧ M' = M) := ⟨_, rfl⟩
  rw [← hQ]
  refine C2_of (L := [(2, 66)]) (by decide +kernel) (Nat.le_of_ble_eq_true rfl) rfl (fun hG => ?_)
  refine T_aload_n (i := 0) (pc' := 1) dX12_openTime_0 rfl rfl rfl ?_
  refine U_gr (q := 91) (k := 34) (kI := 34) (pc' := 4) dX12_openTime_1 rfl cl12 (by decide) rfl (by decide) flX12_89 rfl rfl rfl (G_at hG 91 rfl) (by decide) rfl ?_
  refine T_iconst (pc' := 5) dX12_openTime_4 (by decide) rfl ?_
  refine T_iald (pc' := 6) dX12_openTime_5 (by decide) rfl (by decide) (by decide) rfl ?_
  exact T_iret dX12_openTime_6 rfl ⟨rfl, hG, (by rw [hQ]; exact ⟨rfl, rfl⟩)⟩
def fX12_isOpen (M : Mem) (v1 : Int) (v2 : Int) : Int :=
  (if (M 96 v1) = (-1) then (0 : Int) else (if v2 < (M 96 v1) then (0 : Int) else (if (wr32 ((M 96 v1) + (fX12_openTime M))) ≤ v2 then (0 : Int) else 1)))
def nX12_isOpen (M : Mem) (v1 : Int) (v2 : Int) : Prop :=
  (0 ≤ v1 ∧ v1 < 9) ∧ (¬ ((M 96 v1) = (-1)) → 0 ≤ v1 ∧ v1 < 9) ∧ (¬ ((M 96 v1) = (-1)) → ¬ (v2 < (M 96 v1)) → 0 ≤ v1 ∧ v1 < 9)
set_option maxRecDepth 100000 in
theorem pX12_isOpen {E : EV} {h : Int} {M : Mem} {v1 : Int} {v2 : Int} (hs : (nX12_isOpen M v1 v2)) : C2 E miX12_isOpen 2 h [(2, 66), (0, v1), (0, v2)] M (fun r M' => r = some (0, (fX12_isOpen M v1 v2)) ∧ M' = M) := by
  obtain ⟨Q, hQ⟩ : ∃ Q : Option MV → Mem → Prop, Q = (fun r M' => r = some (0, (fX12_isOpen M v1 v2)) ∧ M' = M) := ⟨_, rfl⟩
  rw [← hQ]
  obtain ⟨o1, o2, o3⟩ := hs
  refine C2_of (L := [(2, 66), (0, v1), (0, v2)]) (by decide +kernel) (Nat.le_of_ble_eq_true rfl) rfl (fun hG => ?_)
  refine T_aload_n (i := 0) (pc' := 1) dX12_isOpen_0 rfl rfl rfl ?_
  refine U_gr (q := 96) (k := 46) (kI := 46) (pc' := 4) dX12_isOpen_1 rfl cl12 (by decide) rfl (by decide) flX12_104 rfl rfl rfl (G_at hG 96 rfl) (by decide) rfl ?_
  refine T_iload_n (i := 1) (pc' := 5) dX12_isOpen_4 rfl rfl rfl ?_
  refine T_iald (pc' := 6) dX12_isOpen_5 (by decide) rfl (o1).1 (o1).2 rfl ?_
  refine T_iconst (pc' := 7) dX12_isOpen_6 (by decide) rfl ?_
  have HJ1 : T E miX12_isOpen 2 126 0 0 (fun r S M' => S = S0 ∧ G h M' ∧ Q r M') 40 [(3, 0), (3, 0), (3, 0)] [(0, (if (M 96 v1) = (-1) then (0 : Int) else (if v2 < (M 96 v1) then (0 : Int) else (if (wr32 ((M 96 v1) + (fX12_openTime M))) ≤ v2 then (0 : Int) else 1))))] S0 M 0 0 := by
    exact T_zret dX12_isOpen_40 rfl (by repeat' (first | apply bi | exact Or.inl rfl | exact Or.inr rfl)) ⟨rfl, hG, (by rw [hQ]; exact ⟨rfl, rfl⟩)⟩
  refine T_icmp_eq (pc' := 39) dX12_isOpen_7 (by decide) (pf := 10) rfl (fun c2 => ?_) (fun c2 => ?_)
  · skip
    refine T_iconst (pc' := 40) dX12_isOpen_39 (by decide) rfl ?_
    exact T_wk (L' := [(3, 0), (3, 0), (3, 0)]) (by have q := HJ1; try simp only [if_pos c2] at q; exact q) ⟨Or.inl rfl, Or.inl rfl, Or.inl rfl, trivial⟩
  · skip
    refine T_aload_n (i := 0) (pc' := 11) dX12_isOpen_10 rfl rfl rfl ?_
    refine U_gr (q := 96) (k := 46) (kI := 46) (pc' := 14) dX12_isOpen_11 rfl cl12 (by decide) rfl (by decide) flX12_104 rfl rfl rfl (G_at hG 96 rfl) (by decide) rfl ?_
    refine T_iload_n (i := 1) (pc' := 15) dX12_isOpen_14 rfl rfl rfl ?_
    refine T_iald (pc' := 16) dX12_isOpen_15 (by decide) rfl (o2 c2).1 (o2 c2).2 rfl ?_
    refine T_iload_n (i := 2) (pc' := 17) dX12_isOpen_16 rfl rfl rfl ?_
    refine T_icmp_gt (pc' := 39) dX12_isOpen_17 (by decide) (pf := 20) rfl (fun c3 => ?_) (fun c3 => ?_)
    · skip
      refine T_iconst (pc' := 40) dX12_isOpen_39 (by decide) rfl ?_
      exact T_wk (L' := [(3, 0), (3, 0), (3, 0)]) (by have q := HJ1; try simp only [if_neg c2] at q; try simp only [if_pos c3] at q; exact q) ⟨Or.inl rfl, Or.inl rfl, Or.inl rfl, trivial⟩
    · skip
      refine T_iload_n (i := 2) (pc' := 21) dX12_isOpen_20 rfl rfl rfl ?_
      refine T_aload_n (i := 0) (pc' := 22) dX12_isOpen_21 rfl rfl rfl ?_
      refine U_gr (q := 96) (k := 46) (kI := 46) (pc' := 25) dX12_isOpen_22 rfl cl12 (by decide) rfl (by decide) flX12_104 rfl rfl rfl (G_at hG 96 rfl) (by decide) rfl ?_
      refine T_iload_n (i := 1) (pc' := 26) dX12_isOpen_25 rfl rfl rfl ?_
      refine T_iald (pc' := 27) dX12_isOpen_26 (by decide) rfl (o3 c2 c3).1 (o3 c2 c3).2 rfl ?_
      refine T_aload_n (i := 0) (pc' := 28) dX12_isOpen_27 rfl rfl rfl ?_
      refine T_callV (av := []) (st := [(0, (M 96 v1)), (0, v2)]) (d2 := 1) (nc2 := 0) (ns2 := 0) (pc' := 31) dX12_isOpen_28 rfl mtX12_openTime mvX12_openTime mlX12_367 cl12 rfl rfl rfl (Nat.le_of_ble_eq_true rfl) (by decide) ⟨by decide, by decide⟩ rfl (pX12_openTime (E := E) (h := h) (M := M) hG) (kF (st2 := [(0, (fX12_openTime M)), (0, (M 96 v1)), (0, v2)]) rfl (fun hG4 => ?_))
      refine T_iadd (pc' := 32) dX12_isOpen_31 rfl ?_
      refine T_icmp_ge (pc' := 39) dX12_isOpen_32 (by decide) (pf := 35) rfl (fun c5 => ?_) (fun c5 => ?_)
      · skip
        refine T_iconst (pc' := 40) dX12_isOpen_39 (by decide) rfl ?_
        exact T_wk (L' := [(3, 0), (3, 0), (3, 0)]) (by have q := HJ1; try simp only [if_neg c2] at q; try simp only [if_neg c3] at q; try simp only [if_pos c5] at q; exact q) ⟨Or.inl rfl, Or.inl rfl, Or.inl rfl, trivial⟩
      · skip
        refine T_iconst (pc' := 36) dX12_isOpen_35 (by decide) rfl ?_
        refine T_goto (pc' := 40) dX12_isOpen_36 (by decide) ?_
        exact T_wk (L' := [(3, 0), (3, 0), (3, 0)]) (by have q := HJ1; try simp only [if_neg c2] at q; try simp only [if_neg c3] at q; try simp only [if_neg c5] at q; exact q) ⟨Or.inl rfl, Or.inl rfl, Or.inl rfl, trivial⟩
theorem fbX12_isOpen (M : Mem) (v1 : Int) (v2 : Int) : (fX12_isOpen M v1 v2) = 0 ∨ (fX12_isOpen M v1 v2) = 1 := by
  unfold fX12_isOpen
  repeat' (first | apply bi | exact Or.inl rfl | exact Or.inr rfl)
def fX12_isWaiting (M : Mem) (v1 : Int) (v2 : Int) : Int :=
  (if (M 96 v1) = (-1) then (1 : Int) else (if (M 96 v1) ≤ v2 then (0 : Int) else 1))
def nX12_isWaiting (M : Mem) (v1 : Int) : Prop :=
  (0 ≤ v1 ∧ v1 < 9) ∧ (¬ ((M 96 v1) = (-1)) → 0 ≤ v1 ∧ v1 < 9)
set_option maxRecDepth 100000 in
theorem pX12_isWaiting {E : EV} {h : Int} {M : Mem} {v1 : Int} {v2 : Int} (hs : (nX12_isWaiting M v1)) : C2 E miX12_isWaiting 1 h [(2, 66), (0, v1), (0, v2)] M (fun r M' => r = some (0, (fX12_isWaiting M v1 v2)) ∧ M' = M) := by
  obtain ⟨Q, hQ⟩ : ∃ Q : Option MV → Mem → Prop, Q = (fun r M' => r = some (0, (fX12_isWaiting M v1 v2)) ∧ M' = M) := ⟨_, rfl⟩
  rw [← hQ]
  obtain ⟨o1, o2⟩ := hs
  refine C2_of (L := [(2, 66), (0, v1), (0, v2)]) (by decide +kernel) (Nat.le_of_ble_eq_true rfl) rfl (fun hG => ?_)
  refine T_aload_n (i := 0) (pc' := 1) dX12_isWaiting_0 rfl rfl rfl ?_
  refine U_gr (q := 96) (k := 46) (kI := 46) (pc' := 4) dX12_isWaiting_1 rfl cl12 (by decide) rfl (by decide) flX12_104 rfl rfl rfl (G_at hG 96 rfl) (by decide) rfl ?_
  refine T_iload_n (i := 1) (pc' := 5) dX12_isWaiting_4 rfl rfl rfl ?_
  refine T_iald (pc' := 6) dX12_isWaiting_5 (by decide) rfl (o1).1 (o1).2 rfl ?_
  refine T_iconst (pc' := 7) dX12_isWaiting_6 (by decide) rfl ?_
  have HJ1 : T E miX12_isWaiting 1 126 0 0 (fun r S M' => S = S0 ∧ G h M' ∧ Q r M') 25 [(3, 0), (3, 0), (3, 0)] [(0, (if (M 96 v1) = (-1) then (1 : Int) else (if (M 96 v1) ≤ v2 then (0 : Int) else 1)))] S0 M 0 0 := by
    exact T_zret dX12_isWaiting_25 rfl (by repeat' (first | apply bi | exact Or.inl rfl | exact Or.inr rfl)) ⟨rfl, hG, (by rw [hQ]; exact ⟨rfl, rfl⟩)⟩
  refine T_icmp_eq (pc' := 20) dX12_isWaiting_7 (by decide) (pf := 10) rfl (fun c2 => ?_) (fun c2 => ?_)
  · skip
    refine T_iconst (pc' := 21) dX12_isWaiting_20 (by decide) rfl ?_
    refine T_goto (pc' := 25) dX12_isWaiting_21 (by decide) ?_
    exact T_wk (L' := [(3, 0), (3, 0), (3, 0)]) (by have q := HJ1; try simp only [if_pos c2] at q; exact q) ⟨Or.inl rfl, Or.inl rfl, Or.inl rfl, trivial⟩
  · skip
    refine T_aload_n (i := 0) (pc' := 11) dX12_isWaiting_10 rfl rfl rfl ?_
    refine U_gr (q := 96) (k := 46) (kI := 46) (pc' := 14) dX12_isWaiting_11 rfl cl12 (by decide) rfl (by decide) flX12_104 rfl rfl rfl (G_at hG 96 rfl) (by decide) rfl ?_
    refine T_iload_n (i := 1) (pc' := 15) dX12_isWaiting_14 rfl rfl rfl ?_
    refine T_iald (pc' := 16) dX12_isWaiting_15 (by decide) rfl (o2 c2).1 (o2 c2).2 rfl ?_
    refine T_iload_n (i := 2) (pc' := 17) dX12_isWaiting_16 rfl rfl rfl ?_
    refine T_icmp_le (pc' := 24) dX12_isWaiting_17 (by decide) (pf := 20) rfl (fun c3 => ?_) (fun c3 => ?_)
    · skip
      refine T_iconst (pc' := 25) dX12_isWaiting_24 (by decide) rfl ?_
      exact T_wk (L' := [(3, 0), (3, 0), (3, 0)]) (by have q := HJ1; try simp only [if_neg c2] at q; try simp only [if_pos c3] at q; exact q) ⟨Or.inl rfl, Or.inl rfl, Or.inl rfl, trivial⟩
    · skip
      refine T_iconst (pc' := 21) dX12_isWaiting_20 (by decide) rfl ?_
      refine T_goto (pc' := 25) dX12_isWaiting_21 (by decide) ?_
      exact T_wk (L' := [(3, 0), (3, 0), (3, 0)]) (by have q := HJ1; try simp only [if_neg c2] at q; try simp only [if_neg c3] at q; exact q) ⟨Or.inl rfl, Or.inl rfl, Or.inl rfl, trivial⟩
theorem fbX12_isWaiting (M : Mem) (v1 : Int) (v2 : Int) : (fX12_isWaiting M v1 v2) = 0 ∨ (fX12_isWaiting M v1 v2) = 1 := by
  unfold fX12_isWaiting
  repeat' (first | apply bi | exact Or.inl rfl | exact Or.inr rfl)
def fX12_isOut (M : Mem) (v1 : Int) (v2 : Int) : Int :=
  (if (M 98 v1) = (-1) then (0 : Int) else (if v2 < (M 98 v1) then (0 : Int) else 1))
def nX12_isOut (M : Mem) (v1 : Int) : Prop :=
  (0 ≤ v1 ∧ v1 < 9) ∧ (¬ ((M 98 v1) = (-1)) → 0 ≤ v1 ∧ v1 < 9)
set_option maxRecDepth 100000 in
theorem pX12_isOut {E : EV} {h : Int} {M : Mem} {v1 : Int} {v2 : Int} (hs : (nX12_isOut M v1)) : C2 E miX12_isOut 1 h [(2, 66), (0, v1), (0, v2)] M (fun r M' => r = some (0, (fX12_isOut M v1 v2)) ∧ M' = M) := by
  obtain ⟨Q, hQ⟩ : ∃ Q : Option MV → Mem → Prop, Q = (fun r M' => r = some (0, (fX12_isOut M v1 v2)) ∧ M' = M) := ⟨_, rfl⟩
  rw [← hQ]
  obtain ⟨o1, o2⟩ := hs
  refine C2_of (L := [(2, 66), (0, v1), (0, v2)]) (by decide +kernel) (Nat.le_of_ble_eq_true rfl) rfl (fun hG => ?_)
  refine T_aload_n (i := 0) (pc' := 1) dX12_isOut_0 rfl rfl rfl ?_
  refine U_gr (q := 98) (k := 48) (kI := 48) (pc' := 4) dX12_isOut_1 rfl cl12 (by decide) rfl (by decide) flX12_110 rfl rfl rfl (G_at hG 98 rfl) (by decide) rfl ?_
  refine T_iload_n (i := 1) (pc' := 5) dX12_isOut_4 rfl rfl rfl ?_
  refine T_iald (pc' := 6) dX12_isOut_5 (by decide) rfl (o1).1 (o1).2 rfl ?_
  refine T_iconst (pc' := 7) dX12_isOut_6 (by decide) rfl ?_
  have HJ1 : T E miX12_isOut 1 126 0 0 (fun r S M' => S = S0 ∧ G h M' ∧ Q r M') 25 [(3, 0), (3, 0), (3, 0)] [(0, (if (M 98 v1) = (-1) then (0 : Int) else (if v2 < (M 98 v1) then (0 : Int) else 1)))] S0 M 0 0 := by
    exact T_zret dX12_isOut_25 rfl (by repeat' (first | apply bi | exact Or.inl rfl | exact Or.inr rfl)) ⟨rfl, hG, (by rw [hQ]; exact ⟨rfl, rfl⟩)⟩
  refine T_icmp_eq (pc' := 24) dX12_isOut_7 (by decide) (pf := 10) rfl (fun c2 => ?_) (fun c2 => ?_)
  · skip
    refine T_iconst (pc' := 25) dX12_isOut_24 (by decide) rfl ?_
    exact T_wk (L' := [(3, 0), (3, 0), (3, 0)]) (by have q := HJ1; try simp only [if_pos c2] at q; exact q) ⟨Or.inl rfl, Or.inl rfl, Or.inl rfl, trivial⟩
  · skip
    refine T_aload_n (i := 0) (pc' := 11) dX12_isOut_10 rfl rfl rfl ?_
    refine U_gr (q := 98) (k := 48) (kI := 48) (pc' := 14) dX12_isOut_11 rfl cl12 (by decide) rfl (by decide) flX12_110 rfl rfl rfl (G_at hG 98 rfl) (by decide) rfl ?_
    refine T_iload_n (i := 1) (pc' := 15) dX12_isOut_14 rfl rfl rfl ?_
    refine T_iald (pc' := 16) dX12_isOut_15 (by decide) rfl (o2 c2).1 (o2 c2).2 rfl ?_
    refine T_iload_n (i := 2) (pc' := 17) dX12_isOut_16 rfl rfl rfl ?_
    refine T_icmp_gt (pc' := 24) dX12_isOut_17 (by decide) (pf := 20) rfl (fun c3 => ?_) (fun c3 => ?_)
    · skip
      refine T_iconst (pc' := 25) dX12_isOut_24 (by decide) rfl ?_
      exact T_wk (L' := [(3, 0), (3, 0), (3, 0)]) (by have q := HJ1; try simp only [if_neg c2] at q; try simp only [if_pos c3] at q; exact q) ⟨Or.inl rfl, Or.inl rfl, Or.inl rfl, trivial⟩
    · skip
      refine T_iconst (pc' := 21) dX12_isOut_20 (by decide) rfl ?_
      refine T_goto (pc' := 25) dX12_isOut_21 (by decide) ?_
      exact T_wk (L' := [(3, 0), (3, 0), (3, 0)]) (by have q := HJ1; try simp only [if_neg c2] at q; try simp only [if_neg c3] at q; exact q) ⟨Or.inl rfl, Or.inl rfl, Or.inl rfl, trivial⟩
theorem fbX12_isOut (M : Mem) (v1 : Int) (v2 : Int) : (fX12_isOut M v1 v2) = 0 ∨ (fX12_isOut M v1 v2) = 1 := by
  unfold fX12_isOut
  repeat' (first | apply bi | exact Or.inl rfl | exact Or.inr rfl)
def fX12_whereIn (M : Mem) (v1 : Int) (v2 : Int) : Int :=
  (M 95 (wr32 ((wr32 (9 * v2)) + v1)))
def nX12_whereIn (v1 : Int) (v2 : Int) : Prop :=
  (0 ≤ (wr32 ((wr32 (9 * v2)) + v1)) ∧ (wr32 ((wr32 (9 * v2)) + v1)) < 1809)
set_option maxRecDepth 100000 in
theorem pX12_whereIn {E : EV} {h : Int} {M : Mem} {v1 : Int} {v2 : Int} (hs : (nX12_whereIn v1 v2)) : C2 E miX12_whereIn 1 h [(2, 66), (0, v1), (0, v2)] M (fun r M' => r = some (0, (fX12_whereIn M v1 v2)) ∧ M' = M) := by
  obtain ⟨Q, hQ⟩ : ∃ Q : Option MV → Mem → Prop, Q = (fun r M' => r = some (0, (fX12_whereIn M v1 v2)) ∧ M' = M) := ⟨_, rfl⟩
  rw [← hQ]
  have o1 := hs
  refine C2_of (L := [(2, 66), (0, v1), (0, v2)]) (by decide +kernel) (Nat.le_of_ble_eq_true rfl) rfl (fun hG => ?_)
  refine T_aload_n (i := 0) (pc' := 1) dX12_whereIn_0 rfl rfl rfl ?_
  refine U_gr (q := 95) (k := 45) (kI := 45) (pc' := 4) dX12_whereIn_1 rfl cl12 (by decide) rfl (by decide) flX12_101 rfl rfl rfl (G_at hG 95 rfl) (by decide) rfl ?_
  refine T_bipush (pc' := 6) dX12_whereIn_4 rfl (by decide) rfl ?_
  refine T_iload_n (i := 2) (pc' := 7) dX12_whereIn_6 rfl rfl rfl ?_
  refine T_imul (pc' := 8) dX12_whereIn_7 rfl ?_
  refine T_iload_n (i := 1) (pc' := 9) dX12_whereIn_8 rfl rfl rfl ?_
  refine T_iadd (pc' := 10) dX12_whereIn_9 rfl ?_
  refine T_iald (pc' := 11) dX12_whereIn_10 (by decide) rfl (o1).1 (o1).2 rfl ?_
  exact T_iret dX12_whereIn_11 rfl ⟨rfl, hG, (by rw [hQ]; exact ⟨rfl, rfl⟩)⟩
def lX12_opensBy_71  : Nat → Int → Int → Int → Int → Mem → Int
  | 0, v1, v2, v4, v5, M => (if v4 < (fX12_personOf M v1 2) then (0 : Int) else 2)
  | k + 1, v1, v2, v4, v5, M => (lX12_opensBy_71 k v1 v2 (if (fX12_isComing M v5) = 0 then v4 else (if (fX12_isOpen M v5 (wr32 (v2 - 1))) = 0 then v4 else (if (M 91 6) < (fX12_apart M (fX12_whereIn M v1 (wr32 (v2 - 1))) (fX12_whereIn M v5 (wr32 (v2 - 1)))) then v4 else (wr32 (v4 + 1))))) (v5 + 1) M)
def nlX12_opensBy_71  : Nat → Int → Int → Int → Int → Mem → Prop
  | 0, v1, v2, v4, v5, M => ((nX12_personOf v1 2))
  | k + 1, v1, v2, v4, v5, M => (¬ ((fX12_isComing M v5) = 0) → (nX12_isOpen M v5 (wr32 (v2 - 1)))) ∧ (¬ ((fX12_isComing M v5) = 0) → ¬ ((fX12_isOpen M v5 (wr32 (v2 - 1))) = 0) → (nX12_whereIn v1 (wr32 (v2 - 1)))) ∧ (¬ ((fX12_isComing M v5) = 0) → ¬ ((fX12_isOpen M v5 (wr32 (v2 - 1))) = 0) → (nX12_whereIn v5 (wr32 (v2 - 1)))) ∧ (¬ ((fX12_isComing M v5) = 0) → ¬ ((fX12_isOpen M v5 (wr32 (v2 - 1))) = 0) → (nX12_apart M)) ∧ ((nlX12_opensBy_71 k v1 v2 (if (fX12_isComing M v5) = 0 then v4 else (if (fX12_isOpen M v5 (wr32 (v2 - 1))) = 0 then v4 else (if (M 91 6) < (fX12_apart M (fX12_whereIn M v1 (wr32 (v2 - 1))) (fX12_whereIn M v5 (wr32 (v2 - 1)))) then v4 else (wr32 (v4 + 1))))) (v5 + 1) M))
set_option maxRecDepth 100000 in
set_option maxHeartbeats 2000000 in
theorem qX12_opensBy_71 {E : EV} {h : Int} {Q : Option MV → Mem → Prop}   : ∀ (k : Nat) (v1 v2 v4 v5 : Int) (M : Mem), 0 ≤ v5 → (((fX12_peopleMany M)) - v5).toNat = k → (nlX12_opensBy_71 k v1 v2 v4 v5 M) → Q (some (0, (lX12_opensBy_71 k v1 v2 v4 v5 M))) M → G h M → TG E miX12_opensBy 4 h Q 71 [(2, 66), (0, v1), (0, v2), (3, 0), (0, v4), (0, v5)] [] M := by
  intro k
  induction k with
  | zero =>
    intro v1 v2 v4 v5 M hv0 hk hs hQ hG
    have hQ : Q (some (0, (if v4 < (fX12_personOf M v1 2) then (0 : Int) else 2))) M := hQ
    have hs : ((nX12_personOf v1 2)) := hs
    have n1 := hs
    refine T_iload (i := 5) (pc' := 73) dX12_opensBy_71 rfl rfl ?_
    refine T_aload_n (i := 0) (pc' := 74) dX12_opensBy_73 rfl rfl rfl ?_
    refine T_callV (av := []) (st := [(0, v5)]) (d2 := 1) (nc2 := 0) (ns2 := 0) (pc' := 77) dX12_opensBy_74 rfl mtX12_peopleMany mvX12_peopleMany mlX12_349 cl12 rfl rfl rfl (Nat.le_of_ble_eq_true rfl) (by decide) ⟨by decide, by decide⟩ rfl (pX12_peopleMany (E := E) (h := h) (M := M) hG) (kF (st2 := [(0, (fX12_peopleMany M)), (0, v5)]) rfl (fun hG1 => ?_))
    refine T_rng (fun _ z9 _ => ?_)
    have hB : r32 (fX12_peopleMany M) := (ok_cons.mp z9).1
    unfold r32 at hB
    refine T_icmp_ge (pc' := 141) dX12_opensBy_77 (by decide) (pf := 80) rfl (fun c2 => ?_) (fun c2 => ?_)
    · skip
      refine T_iload (i := 4) (pc' := 143) dX12_opensBy_141 rfl rfl ?_
      refine T_aload_n (i := 0) (pc' := 144) dX12_opensBy_143 rfl rfl rfl ?_
      refine T_iload_n (i := 1) (pc' := 145) dX12_opensBy_144 rfl rfl rfl ?_
      refine T_iconst (pc' := 146) dX12_opensBy_145 (by decide) rfl ?_
      refine T_callV (av := [(0, v1), (0, 2)]) (st := [(0, v4)]) (d2 := 1) (nc2 := 0) (ns2 := 0) (pc' := 149) dX12_opensBy_146 rfl mtX12_personOf mvX12_personOf mlX12_373 cl12 rfl rfl rfl (Nat.le_of_ble_eq_true rfl) (by decide) ⟨by decide, by decide⟩ rfl (pX12_personOf (E := E) (h := h) (M := M) (v1 := v1) (v2 := 2) (n1) hG) (kF (st2 := [(0, (fX12_personOf M v1 2)), (0, v4)]) rfl (fun hG3 => ?_))
      have HJ4 : T E miX12_opensBy 4 126 0 0 (fun r S M' => S = S0 ∧ G h M' ∧ Q r M') 157 [(3, 0), (3, 0), (3, 0), (3, 0), (3, 0), (3, 0)] [(0, (if v4 < (fX12_personOf M v1 2) then (0 : Int) else 2))] S0 M 0 0 := by
        exact T_iret dX12_opensBy_157 rfl ⟨rfl, hG, hQ⟩
      refine T_icmp_lt (pc' := 156) dX12_opensBy_149 (by decide) (pf := 152) rfl (fun c5 => ?_) (fun c5 => ?_)
      · skip
        refine T_iconst (pc' := 157) dX12_opensBy_156 (by decide) rfl ?_
        exact T_wk (L' := [(3, 0), (3, 0), (3, 0), (3, 0), (3, 0), (3, 0)]) (by have q := HJ4; try simp only [if_pos c5] at q; exact q) ⟨Or.inl rfl, Or.inl rfl, Or.inl rfl, Or.inl rfl, Or.inl rfl, Or.inl rfl, trivial⟩
      · skip
        refine T_iconst (pc' := 153) dX12_opensBy_152 (by decide) rfl ?_
        refine T_goto (pc' := 157) dX12_opensBy_153 (by decide) ?_
        exact T_wk (L' := [(3, 0), (3, 0), (3, 0), (3, 0), (3, 0), (3, 0)]) (by have q := HJ4; try simp only [if_neg c5] at q; exact q) ⟨Or.inl rfl, Or.inl rfl, Or.inl rfl, Or.inl rfl, Or.inl rfl, Or.inl rfl, trivial⟩
    · exact absurd c2 (by omega)
  | succ k ih =>
    intro v1 v2 v4 v5 M hv0 hk hs hQ hG
    have hQ : Q (some (0, (lX12_opensBy_71 k v1 v2 (if (fX12_isComing M v5) = 0 then v4 else (if (fX12_isOpen M v5 (wr32 (v2 - 1))) = 0 then v4 else (if (M 91 6) < (fX12_apart M (fX12_whereIn M v1 (wr32 (v2 - 1))) (fX12_whereIn M v5 (wr32 (v2 - 1)))) then v4 else (wr32 (v4 + 1))))) (v5 + 1) M))) M := hQ
    have hs : (¬ ((fX12_isComing M v5) = 0) → (nX12_isOpen M v5 (wr32 (v2 - 1)))) ∧ (¬ ((fX12_isComing M v5) = 0) → ¬ ((fX12_isOpen M v5 (wr32 (v2 - 1))) = 0) → (nX12_whereIn v1 (wr32 (v2 - 1)))) ∧ (¬ ((fX12_isComing M v5) = 0) → ¬ ((fX12_isOpen M v5 (wr32 (v2 - 1))) = 0) → (nX12_whereIn v5 (wr32 (v2 - 1)))) ∧ (¬ ((fX12_isComing M v5) = 0) → ¬ ((fX12_isOpen M v5 (wr32 (v2 - 1))) = 0) → (nX12_apart M)) ∧ ((nlX12_opensBy_71 k v1 v2 (if (fX12_isComing M v5) = 0 then v4 else (if (fX12_isOpen M v5 (wr32 (v2 - 1))) = 0 then v4 else (if (M 91 6) < (fX12_apart M (fX12_whereIn M v1 (wr32 (v2 - 1))) (fX12_whereIn M v5 (wr32 (v2 - 1)))) then v4 else (wr32 (v4 + 1))))) (v5 + 1) M)) := hs
    obtain ⟨n1, n2, n3, n4, n5⟩ := hs
    refine T_iload (i := 5) (pc' := 73) dX12_opensBy_71 rfl rfl ?_
    refine T_aload_n (i := 0) (pc' := 74) dX12_opensBy_73 rfl rfl rfl ?_
    refine T_callV (av := []) (st := [(0, v5)]) (d2 := 1) (nc2 := 0) (ns2 := 0) (pc' := 77) dX12_opensBy_74 rfl mtX12_peopleMany mvX12_peopleMany mlX12_349 cl12 rfl rfl rfl (Nat.le_of_ble_eq_true rfl) (by decide) ⟨by decide, by decide⟩ rfl (pX12_peopleMany (E := E) (h := h) (M := M) hG) (kF (st2 := [(0, (fX12_peopleMany M)), (0, v5)]) rfl (fun hG1 => ?_))
    refine T_rng (fun _ z9 _ => ?_)
    have hB : r32 (fX12_peopleMany M) := (ok_cons.mp z9).1
    unfold r32 at hB
    refine T_icmp_ge (pc' := 141) dX12_opensBy_77 (by decide) (pf := 80) rfl (fun c2 => ?_) (fun c2 => ?_)
    · exact absurd c2 (by omega)
    · skip
      have hw : wr32 (v5 + 1) = v5 + 1 := wr32_id (by unfold r32; omega)
      refine T_aload_n (i := 0) (pc' := 81) dX12_opensBy_80 rfl rfl rfl ?_
      refine T_iload (i := 5) (pc' := 83) dX12_opensBy_81 rfl rfl ?_
      refine T_callV (av := [(0, v5)]) (st := []) (d2 := 3) (nc2 := 0) (ns2 := 0) (pc' := 86) dX12_opensBy_83 rfl mtX12_isComing mvX12_isComing mlX12_376 cl12 rfl rfl rfl (Nat.le_of_ble_eq_true rfl) (by decide) ⟨by decide, by decide⟩ rfl (pX12_isComing (E := E) (h := h) (M := M) (v1 := v5) hG) (kF (st2 := [(0, (fX12_isComing M v5))]) rfl (fun hG6 => ?_))
      have HJ7 : T E miX12_opensBy 4 126 0 0 (fun r S M' => S = S0 ∧ G h M' ∧ Q r M') 135 [(2, 66), (0, v1), (0, v2), (3, 0), (0, (if (fX12_isComing M v5) = 0 then v4 else (if (fX12_isOpen M v5 (wr32 (v2 - 1))) = 0 then v4 else (if (M 91 6) < (fX12_apart M (fX12_whereIn M v1 (wr32 (v2 - 1))) (fX12_whereIn M v5 (wr32 (v2 - 1)))) then v4 else (wr32 (v4 + 1)))))), (0, v5)] [] S0 M 0 0 := by
        refine T_iinc (L' := [(2, 66), (0, v1), (0, v2), (3, 0), (0, (if (fX12_isComing M v5) = 0 then v4 else (if (fX12_isOpen M v5 (wr32 (v2 - 1))) = 0 then v4 else (if (M 91 6) < (fX12_apart M (fX12_whereIn M v1 (wr32 (v2 - 1))) (fX12_whereIn M v5 (wr32 (v2 - 1)))) then v4 else (wr32 (v4 + 1)))))), (0, (wr32 (v5 + 1)))]) (pc' := 138) dX12_opensBy_135 rfl (by decide) rfl rfl ?_
        refine T_goto (pc' := 71) dX12_opensBy_138 (by decide) ?_
        rw [hw]
        exact T_wk (ih _ _ _ (v5 + 1) _ (by omega) (by omega) (n5) hQ hG) ⟨Or.inr rfl, Or.inr rfl, Or.inr rfl, Or.inl rfl, Or.inr rfl, Or.inr rfl, trivial⟩
      refine T_if_eq (pc' := 135) dX12_opensBy_86 (by decide) (pf := 89) rfl (fun c8 => ?_) (fun c8 => ?_)
      · skip
        exact T_wk (L' := [(2, 66), (0, v1), (0, v2), (3, 0), (0, v4), (0, v5)]) (by have q := HJ7; try simp only [if_pos c8] at q; exact q) ⟨Or.inr rfl, Or.inr rfl, Or.inr rfl, Or.inl rfl, Or.inr rfl, Or.inr rfl, trivial⟩
      · skip
        refine T_aload_n (i := 0) (pc' := 90) dX12_opensBy_89 rfl rfl rfl ?_
        refine T_iload (i := 5) (pc' := 92) dX12_opensBy_90 rfl rfl ?_
        refine T_iload_n (i := 2) (pc' := 93) dX12_opensBy_92 rfl rfl rfl ?_
        refine T_iconst (pc' := 94) dX12_opensBy_93 (by decide) rfl ?_
        refine T_isub (pc' := 95) dX12_opensBy_94 rfl ?_
        refine T_callV (av := [(0, v5), (0, (wr32 (v2 - 1)))]) (st := []) (d2 := 2) (nc2 := 0) (ns2 := 0) (pc' := 98) dX12_opensBy_95 rfl mtX12_isOpen mvX12_isOpen mlX12_379 cl12 rfl rfl rfl (Nat.le_of_ble_eq_true rfl) (by decide) ⟨by decide, by decide⟩ rfl (pX12_isOpen (E := E) (h := h) (M := M) (v1 := v5) (v2 := (wr32 (v2 - 1))) (n1 c8) hG) (kF (st2 := [(0, (fX12_isOpen M v5 (wr32 (v2 - 1))))]) rfl (fun hG9 => ?_))
        refine T_if_eq (pc' := 135) dX12_opensBy_98 (by decide) (pf := 101) rfl (fun c10 => ?_) (fun c10 => ?_)
        · skip
          exact T_wk (L' := [(2, 66), (0, v1), (0, v2), (3, 0), (0, v4), (0, v5)]) (by have q := HJ7; try simp only [if_neg c8] at q; try simp only [if_pos c10] at q; exact q) ⟨Or.inr rfl, Or.inr rfl, Or.inr rfl, Or.inl rfl, Or.inr rfl, Or.inr rfl, trivial⟩
        · skip
          refine T_aload_n (i := 0) (pc' := 102) dX12_opensBy_101 rfl rfl rfl ?_
          refine T_aload_n (i := 0) (pc' := 103) dX12_opensBy_102 rfl rfl rfl ?_
          refine T_iload_n (i := 1) (pc' := 104) dX12_opensBy_103 rfl rfl rfl ?_
          refine T_iload_n (i := 2) (pc' := 105) dX12_opensBy_104 rfl rfl rfl ?_
          refine T_iconst (pc' := 106) dX12_opensBy_105 (by decide) rfl ?_
          refine T_isub (pc' := 107) dX12_opensBy_106 rfl ?_
          refine T_callV (av := [(0, v1), (0, (wr32 (v2 - 1)))]) (st := [(2, 66)]) (d2 := 1) (nc2 := 0) (ns2 := 0) (pc' := 110) dX12_opensBy_107 rfl mtX12_whereIn mvX12_whereIn mlX12_383 cl12 rfl rfl rfl (Nat.le_of_ble_eq_true rfl) (by decide) ⟨by decide, by decide⟩ rfl (pX12_whereIn (E := E) (h := h) (M := M) (v1 := v1) (v2 := (wr32 (v2 - 1))) (n2 c8 c10) hG) (kF (st2 := [(0, (fX12_whereIn M v1 (wr32 (v2 - 1)))), (2, 66)]) rfl (fun hG11 => ?_))
          refine T_aload_n (i := 0) (pc' := 111) dX12_opensBy_110 rfl rfl rfl ?_
          refine T_iload (i := 5) (pc' := 113) dX12_opensBy_111 rfl rfl ?_
          refine T_iload_n (i := 2) (pc' := 114) dX12_opensBy_113 rfl rfl rfl ?_
          refine T_iconst (pc' := 115) dX12_opensBy_114 (by decide) rfl ?_
          refine T_isub (pc' := 116) dX12_opensBy_115 rfl ?_
          refine T_callV (av := [(0, v5), (0, (wr32 (v2 - 1)))]) (st := [(0, (fX12_whereIn M v1 (wr32 (v2 - 1)))), (2, 66)]) (d2 := 1) (nc2 := 0) (ns2 := 0) (pc' := 119) dX12_opensBy_116 rfl mtX12_whereIn mvX12_whereIn mlX12_383 cl12 rfl rfl rfl (Nat.le_of_ble_eq_true rfl) (by decide) ⟨by decide, by decide⟩ rfl (pX12_whereIn (E := E) (h := h) (M := M) (v1 := v5) (v2 := (wr32 (v2 - 1))) (n3 c8 c10) hG) (kF (st2 := [(0, (fX12_whereIn M v5 (wr32 (v2 - 1)))), (0, (fX12_whereIn M v1 (wr32 (v2 - 1)))), (2, 66)]) rfl (fun hG12 => ?_))
          refine T_callV (av := [(0, (fX12_whereIn M v1 (wr32 (v2 - 1)))), (0, (fX12_whereIn M v5 (wr32 (v2 - 1))))]) (st := []) (d2 := 2) (nc2 := 0) (ns2 := 0) (pc' := 122) dX12_opensBy_119 rfl mtX12_apart mvX12_apart mlX12_386 cl12 rfl rfl rfl (Nat.le_of_ble_eq_true rfl) (by decide) ⟨by decide, by decide⟩ rfl (pX12_apart (E := E) (h := h) (M := M) (v1 := (fX12_whereIn M v1 (wr32 (v2 - 1)))) (v2 := (fX12_whereIn M v5 (wr32 (v2 - 1)))) (n4 c8 c10) hG) (kF (st2 := [(0, (fX12_apart M (fX12_whereIn M v1 (wr32 (v2 - 1))) (fX12_whereIn M v5 (wr32 (v2 - 1)))))]) rfl (fun hG13 => ?_))
          refine T_aload_n (i := 0) (pc' := 123) dX12_opensBy_122 rfl rfl rfl ?_
          refine U_gr (q := 91) (k := 34) (kI := 34) (pc' := 126) dX12_opensBy_123 rfl cl12 (by decide) rfl (by decide) flX12_89 rfl rfl rfl (G_at hG 91 rfl) (by decide) rfl ?_
          refine T_bipush (pc' := 128) dX12_opensBy_126 rfl (by decide) rfl ?_
          refine T_iald (pc' := 129) dX12_opensBy_128 (by decide) rfl (by decide) (by decide) rfl ?_
          refine T_icmp_gt (pc' := 135) dX12_opensBy_129 (by decide) (pf := 132) rfl (fun c14 => ?_) (fun c14 => ?_)
          · skip
            exact T_wk (L' := [(2, 66), (0, v1), (0, v2), (3, 0), (0, v4), (0, v5)]) (by have q := HJ7; try simp only [if_neg c8] at q; try simp only [if_neg c10] at q; try simp only [if_pos c14] at q; exact q) ⟨Or.inr rfl, Or.inr rfl, Or.inr rfl, Or.inl rfl, Or.inr rfl, Or.inr rfl, trivial⟩
          · skip
            refine T_iinc (L' := [(2, 66), (0, v1), (0, v2), (3, 0), (0, (wr32 (v4 + 1))), (0, v5)]) (pc' := 135) dX12_opensBy_132 rfl (by decide) rfl rfl ?_
            exact T_wk (L' := [(2, 66), (0, v1), (0, v2), (3, 0), (0, (wr32 (v4 + 1))), (0, v5)]) (by have q := HJ7; try simp only [if_neg c8] at q; try simp only [if_neg c10] at q; try simp only [if_neg c14] at q; exact q) ⟨Or.inr rfl, Or.inr rfl, Or.inr rfl, Or.inl rfl, Or.inr rfl, Or.inr rfl, trivial⟩
def fX12_opensBy (M : Mem) (v1 : Int) (v2 : Int) : Int :=
  (if (if (M 66 51) = (-1) then (0 : Int) else (if v2 ≤ (M 66 51) then (0 : Int) else 1)) = 0 then (if (fX12_personOf M v1 4) = 0 then (if v2 < (wr32 ((M 91 4) + (fX12_personOf M v1 1))) then (if (fX12_personOf M v1 2) = 0 then 0 else (lX12_opensBy_71 ((((fX12_peopleMany M)) : Int) - 0).toNat v1 v2 0 0 M)) else 1) else (if (fX12_personOf M v1 2) = 0 then 0 else (lX12_opensBy_71 ((((fX12_peopleMany M)) : Int) - 0).toNat v1 v2 0 0 M))) else (if (fX12_personOf M v1 2) = 0 then 0 else (lX12_opensBy_71 ((((fX12_peopleMany M)) : Int) - 0).toNat v1 v2 0 0 M)))
def nX12_opensBy (M : Mem) (v1 : Int) (v2 : Int) : Prop :=
  (¬ ((if (M 66 51) = (-1) then (0 : Int) else (if v2 ≤ (M 66 51) then (0 : Int) else 1)) = 0) → (nX12_personOf v1 2)) ∧ ((if (M 66 51) = (-1) then (0 : Int) else (if v2 ≤ (M 66 51) then (0 : Int) else 1)) = 0 → (nX12_personOf v1 4)) ∧ ((if (M 66 51) = (-1) then (0 : Int) else (if v2 ≤ (M 66 51) then (0 : Int) else 1)) = 0 → ¬ ((fX12_personOf M v1 4) = 0) → (nX12_personOf v1 2)) ∧ ((if (M 66 51) = (-1) then (0 : Int) else (if v2 ≤ (M 66 51) then (0 : Int) else 1)) = 0 → (fX12_personOf M v1 4) = 0 → (nX12_personOf v1 1)) ∧ ((if (M 66 51) = (-1) then (0 : Int) else (if v2 ≤ (M 66 51) then (0 : Int) else 1)) = 0 → (fX12_personOf M v1 4) = 0 → v2 < (wr32 ((M 91 4) + (fX12_personOf M v1 1))) → (nX12_personOf v1 2)) ∧ (¬ ((if (M 66 51) = (-1) then (0 : Int) else (if v2 ≤ (M 66 51) then (0 : Int) else 1)) = 0) → ¬ ((fX12_personOf M v1 2) = 0) → (nlX12_opensBy_71 ((((fX12_peopleMany M)) : Int) - 0).toNat v1 v2 0 0 M)) ∧ ((if (M 66 51) = (-1) then (0 : Int) else (if v2 ≤ (M 66 51) then (0 : Int) else 1)) = 0 → ¬ ((fX12_personOf M v1 4) = 0) → ¬ ((fX12_personOf M v1 2) = 0) → (nlX12_opensBy_71 ((((fX12_peopleMany M)) : Int) - 0).toNat v1 v2 0 0 M)) ∧ ((if (M 66 51) = (-1) then (0 : Int) else (if v2 ≤ (M 66 51) then (0 : Int) else 1)) = 0 → (fX12_personOf M v1 4) = 0 → v2 < (wr32 ((M 91 4) + (fX12_personOf M v1 1))) → ¬ ((fX12_personOf M v1 2) = 0) → (nlX12_opensBy_71 ((((fX12_peopleMany M)) : Int) - 0).toNat v1 v2 0 0 M))
set_option maxRecDepth 100000 in
theorem pX12_opensBy {E : EV} {h : Int} {M : Mem} {v1 : Int} {v2 : Int} (hs : (nX12_opensBy M v1 v2)) : C2 E miX12_opensBy 4 h [(2, 66), (0, v1), (0, v2)] M (fun r M' => r = some (0, (fX12_opensBy M v1 v2)) ∧ M' = M) := by
  obtain ⟨Q, hQ0⟩ : ∃ Q : Option MV → Mem → Prop, Q = (fun r M' => r = some (0, (fX12_opensBy M v1 v2)) ∧ M' = M) := ⟨_, rfl⟩
  rw [← hQ0]
  have hQ : Q (some (0, (if (if (M 66 51) = (-1) then (0 : Int) else (if v2 ≤ (M 66 51) then (0 : Int) else 1)) = 0 then (if (fX12_personOf M v1 4) = 0 then (if v2 < (wr32 ((M 91 4) + (fX12_personOf M v1 1))) then (if (fX12_personOf M v1 2) = 0 then 0 else (lX12_opensBy_71 ((((fX12_peopleMany M)) : Int) - 0).toNat v1 v2 0 0 M)) else 1) else (if (fX12_personOf M v1 2) = 0 then 0 else (lX12_opensBy_71 ((((fX12_peopleMany M)) : Int) - 0).toNat v1 v2 0 0 M))) else (if (fX12_personOf M v1 2) = 0 then 0 else (lX12_opensBy_71 ((((fX12_peopleMany M)) : Int) - 0).toNat v1 v2 0 0 M))))) M := by rw [hQ0]; exact ⟨rfl, rfl⟩
  obtain ⟨o1, o2, o3, o4, o5, o6, o7, o8⟩ := hs
  refine C2_of (L := [(2, 66), (0, v1), (0, v2), (3, 0), (3, 0), (3, 0)]) (by decide +kernel) (Nat.le_of_ble_eq_true rfl) rfl (fun hG => ?_)
  refine T_aload_n (i := 0) (pc' := 1) dX12_opensBy_0 rfl rfl rfl ?_
  refine U_gf (v := (0, (M 66 51))) (k := 51) (kI := 51) (pc' := 4) dX12_opensBy_1 rfl cl12 (by decide) rfl (by decide) flX12_370 rfl rfl (by decide) rfl rfl ?_
  refine T_iconst (pc' := 5) dX12_opensBy_4 (by decide) rfl ?_
  have HJ1 : T E miX12_opensBy 4 126 0 0 (fun r S M' => S = S0 ∧ G h M' ∧ Q r M') 21 [(2, 66), (0, v1), (0, v2), (3, 0), (3, 0), (3, 0)] [(0, (if (M 66 51) = (-1) then (0 : Int) else (if v2 ≤ (M 66 51) then (0 : Int) else 1)))] S0 M 0 0 := by
    refine T_istore_n (i := 3) (L' := [(2, 66), (0, v1), (0, v2), (0, (if (M 66 51) = (-1) then (0 : Int) else (if v2 ≤ (M 66 51) then (0 : Int) else 1))), (3, 0), (3, 0)]) (pc' := 22) dX12_opensBy_21 rfl (by decide) rfl rfl ?_
    refine T_iload_n (i := 3) (pc' := 23) dX12_opensBy_22 rfl rfl rfl ?_
    refine T_if_ne (pc' := 54) dX12_opensBy_23 (by decide) (pf := 26) rfl (fun c2 => ?_) (fun c2 => ?_)
    · skip
      refine T_aload_n (i := 0) (pc' := 55) dX12_opensBy_54 rfl rfl rfl ?_
      refine T_iload_n (i := 1) (pc' := 56) dX12_opensBy_55 rfl rfl rfl ?_
      refine T_iconst (pc' := 57) dX12_opensBy_56 (by decide) rfl ?_
      refine T_callV (av := [(0, v1), (0, 2)]) (st := []) (d2 := 1) (nc2 := 0) (ns2 := 0) (pc' := 60) dX12_opensBy_57 rfl mtX12_personOf mvX12_personOf mlX12_373 cl12 rfl rfl rfl (Nat.le_of_ble_eq_true rfl) (by decide) ⟨by decide, by decide⟩ rfl (pX12_personOf (E := E) (h := h) (M := M) (v1 := v1) (v2 := 2) (o1 c2) hG) (kF (st2 := [(0, (fX12_personOf M v1 2))]) rfl (fun hG3 => ?_))
      refine T_if_ne (pc' := 65) dX12_opensBy_60 (by decide) (pf := 63) rfl (fun c4 => ?_) (fun c4 => ?_)
      · skip
        refine T_iconst (pc' := 66) dX12_opensBy_65 (by decide) rfl ?_
        refine T_istore (i := 4) (L' := [(2, 66), (0, v1), (0, v2), (0, (if (M 66 51) = (-1) then (0 : Int) else (if v2 ≤ (M 66 51) then (0 : Int) else 1))), (0, 0), (3, 0)]) (pc' := 68) dX12_opensBy_66 (by decide) rfl rfl ?_
        refine T_iconst (pc' := 69) dX12_opensBy_68 (by decide) rfl ?_
        refine T_istore (i := 5) (L' := [(2, 66), (0, v1), (0, v2), (0, (if (M 66 51) = (-1) then (0 : Int) else (if v2 ≤ (M 66 51) then (0 : Int) else 1))), (0, 0), (0, 0)]) (pc' := 71) dX12_opensBy_69 (by decide) rfl rfl ?_
        exact T_wk (qX12_opensBy_71  _ v1 v2 0 0 _ (by first | decide | omega) rfl (o6 c2 c4) (by have q := hQ; try simp only [if_neg c2] at q; try simp only [if_neg c4] at q; exact q) hG) ⟨Or.inr rfl, Or.inr rfl, Or.inr rfl, Or.inl rfl, Or.inr rfl, Or.inr rfl, trivial⟩
      · skip
        refine T_iconst (pc' := 64) dX12_opensBy_63 (by decide) rfl ?_
        exact T_iret dX12_opensBy_64 rfl ⟨rfl, hG, (by have q := hQ; try simp only [if_neg c2] at q; try simp only [if_pos c4] at q; exact q)⟩
    · skip
      refine T_aload_n (i := 0) (pc' := 27) dX12_opensBy_26 rfl rfl rfl ?_
      refine T_iload_n (i := 1) (pc' := 28) dX12_opensBy_27 rfl rfl rfl ?_
      refine T_iconst (pc' := 29) dX12_opensBy_28 (by decide) rfl ?_
      refine T_callV (av := [(0, v1), (0, 4)]) (st := []) (d2 := 1) (nc2 := 0) (ns2 := 0) (pc' := 32) dX12_opensBy_29 rfl mtX12_personOf mvX12_personOf mlX12_373 cl12 rfl rfl rfl (Nat.le_of_ble_eq_true rfl) (by decide) ⟨by decide, by decide⟩ rfl (pX12_personOf (E := E) (h := h) (M := M) (v1 := v1) (v2 := 4) (o2 c2) hG) (kF (st2 := [(0, (fX12_personOf M v1 4))]) rfl (fun hG5 => ?_))
      refine T_if_ne (pc' := 54) dX12_opensBy_32 (by decide) (pf := 35) rfl (fun c6 => ?_) (fun c6 => ?_)
      · skip
        refine T_aload_n (i := 0) (pc' := 55) dX12_opensBy_54 rfl rfl rfl ?_
        refine T_iload_n (i := 1) (pc' := 56) dX12_opensBy_55 rfl rfl rfl ?_
        refine T_iconst (pc' := 57) dX12_opensBy_56 (by decide) rfl ?_
        refine T_callV (av := [(0, v1), (0, 2)]) (st := []) (d2 := 1) (nc2 := 0) (ns2 := 0) (pc' := 60) dX12_opensBy_57 rfl mtX12_personOf mvX12_personOf mlX12_373 cl12 rfl rfl rfl (Nat.le_of_ble_eq_true rfl) (by decide) ⟨by decide, by decide⟩ rfl (pX12_personOf (E := E) (h := h) (M := M) (v1 := v1) (v2 := 2) (o3 c2 c6) hG) (kF (st2 := [(0, (fX12_personOf M v1 2))]) rfl (fun hG7 => ?_))
        refine T_if_ne (pc' := 65) dX12_opensBy_60 (by decide) (pf := 63) rfl (fun c8 => ?_) (fun c8 => ?_)
        · skip
          refine T_iconst (pc' := 66) dX12_opensBy_65 (by decide) rfl ?_
          refine T_istore (i := 4) (L' := [(2, 66), (0, v1), (0, v2), (0, (if (M 66 51) = (-1) then (0 : Int) else (if v2 ≤ (M 66 51) then (0 : Int) else 1))), (0, 0), (3, 0)]) (pc' := 68) dX12_opensBy_66 (by decide) rfl rfl ?_
          refine T_iconst (pc' := 69) dX12_opensBy_68 (by decide) rfl ?_
          refine T_istore (i := 5) (L' := [(2, 66), (0, v1), (0, v2), (0, (if (M 66 51) = (-1) then (0 : Int) else (if v2 ≤ (M 66 51) then (0 : Int) else 1))), (0, 0), (0, 0)]) (pc' := 71) dX12_opensBy_69 (by decide) rfl rfl ?_
          exact T_wk (qX12_opensBy_71  _ v1 v2 0 0 _ (by first | decide | omega) rfl (o7 c2 c6 c8) (by have q := hQ; try simp only [if_pos c2] at q; try simp only [if_neg c6] at q; try simp only [if_neg c8] at q; exact q) hG) ⟨Or.inr rfl, Or.inr rfl, Or.inr rfl, Or.inl rfl, Or.inr rfl, Or.inr rfl, trivial⟩
        · skip
          refine T_iconst (pc' := 64) dX12_opensBy_63 (by decide) rfl ?_
          exact T_iret dX12_opensBy_64 rfl ⟨rfl, hG, (by have q := hQ; try simp only [if_pos c2] at q; try simp only [if_neg c6] at q; try simp only [if_pos c8] at q; exact q)⟩
      · skip
        refine T_iload_n (i := 2) (pc' := 36) dX12_opensBy_35 rfl rfl rfl ?_
        refine T_aload_n (i := 0) (pc' := 37) dX12_opensBy_36 rfl rfl rfl ?_
        refine U_gr (q := 91) (k := 34) (kI := 34) (pc' := 40) dX12_opensBy_37 rfl cl12 (by decide) rfl (by decide) flX12_89 rfl rfl rfl (G_at hG 91 rfl) (by decide) rfl ?_
        refine T_iconst (pc' := 41) dX12_opensBy_40 (by decide) rfl ?_
        refine T_iald (pc' := 42) dX12_opensBy_41 (by decide) rfl (by decide) (by decide) rfl ?_
        refine T_aload_n (i := 0) (pc' := 43) dX12_opensBy_42 rfl rfl rfl ?_
        refine T_iload_n (i := 1) (pc' := 44) dX12_opensBy_43 rfl rfl rfl ?_
        refine T_iconst (pc' := 45) dX12_opensBy_44 (by decide) rfl ?_
        refine T_callV (av := [(0, v1), (0, 1)]) (st := [(0, (M 91 4)), (0, v2)]) (d2 := 1) (nc2 := 0) (ns2 := 0) (pc' := 48) dX12_opensBy_45 rfl mtX12_personOf mvX12_personOf mlX12_373 cl12 rfl rfl rfl (Nat.le_of_ble_eq_true rfl) (by decide) ⟨by decide, by decide⟩ rfl (pX12_personOf (E := E) (h := h) (M := M) (v1 := v1) (v2 := 1) (o4 c2 c6) hG) (kF (st2 := [(0, (fX12_personOf M v1 1)), (0, (M 91 4)), (0, v2)]) rfl (fun hG9 => ?_))
        refine T_iadd (pc' := 49) dX12_opensBy_48 rfl ?_
        refine T_icmp_lt (pc' := 54) dX12_opensBy_49 (by decide) (pf := 52) rfl (fun c10 => ?_) (fun c10 => ?_)
        · skip
          refine T_aload_n (i := 0) (pc' := 55) dX12_opensBy_54 rfl rfl rfl ?_
          refine T_iload_n (i := 1) (pc' := 56) dX12_opensBy_55 rfl rfl rfl ?_
          refine T_iconst (pc' := 57) dX12_opensBy_56 (by decide) rfl ?_
          refine T_callV (av := [(0, v1), (0, 2)]) (st := []) (d2 := 1) (nc2 := 0) (ns2 := 0) (pc' := 60) dX12_opensBy_57 rfl mtX12_personOf mvX12_personOf mlX12_373 cl12 rfl rfl rfl (Nat.le_of_ble_eq_true rfl) (by decide) ⟨by decide, by decide⟩ rfl (pX12_personOf (E := E) (h := h) (M := M) (v1 := v1) (v2 := 2) (o5 c2 c6 c10) hG) (kF (st2 := [(0, (fX12_personOf M v1 2))]) rfl (fun hG11 => ?_))
          refine T_if_ne (pc' := 65) dX12_opensBy_60 (by decide) (pf := 63) rfl (fun c12 => ?_) (fun c12 => ?_)
          · skip
            refine T_iconst (pc' := 66) dX12_opensBy_65 (by decide) rfl ?_
            refine T_istore (i := 4) (L' := [(2, 66), (0, v1), (0, v2), (0, (if (M 66 51) = (-1) then (0 : Int) else (if v2 ≤ (M 66 51) then (0 : Int) else 1))), (0, 0), (3, 0)]) (pc' := 68) dX12_opensBy_66 (by decide) rfl rfl ?_
            refine T_iconst (pc' := 69) dX12_opensBy_68 (by decide) rfl ?_
            refine T_istore (i := 5) (L' := [(2, 66), (0, v1), (0, v2), (0, (if (M 66 51) = (-1) then (0 : Int) else (if v2 ≤ (M 66 51) then (0 : Int) else 1))), (0, 0), (0, 0)]) (pc' := 71) dX12_opensBy_69 (by decide) rfl rfl ?_
            exact T_wk (qX12_opensBy_71  _ v1 v2 0 0 _ (by first | decide | omega) rfl (o8 c2 c6 c10 c12) (by have q := hQ; try simp only [if_pos c2] at q; try simp only [if_pos c6] at q; try simp only [if_pos c10] at q; try simp only [if_neg c12] at q; exact q) hG) ⟨Or.inr rfl, Or.inr rfl, Or.inr rfl, Or.inl rfl, Or.inr rfl, Or.inr rfl, trivial⟩
          · skip
            refine T_iconst (pc' := 64) dX12_opensBy_63 (by decide) rfl ?_
            exact T_iret dX12_opensBy_64 rfl ⟨rfl, hG, (by have q := hQ; try simp only [if_pos c2] at q; try simp only [if_pos c6] at q; try simp only [if_pos c10] at q; try simp only [if_pos c12] at q; exact q)⟩
        · skip
          refine T_iconst (pc' := 53) dX12_opensBy_52 (by decide) rfl ?_
          exact T_iret dX12_opensBy_53 rfl ⟨rfl, hG, (by have q := hQ; try simp only [if_pos c2] at q; try simp only [if_pos c6] at q; try simp only [if_neg c10] at q; exact q)⟩
  refine T_icmp_eq (pc' := 20) dX12_opensBy_5 (by decide) (pf := 8) rfl (fun c13 => ?_) (fun c13 => ?_)
  · skip
    refine T_iconst (pc' := 21) dX12_opensBy_20 (by decide) rfl ?_
    exact T_wk (L' := [(2, 66), (0, v1), (0, v2), (3, 0), (3, 0), (3, 0)]) (by have q := HJ1; try simp only [if_pos c13] at q; exact q) ⟨Or.inr rfl, Or.inr rfl, Or.inr rfl, Or.inl rfl, Or.inl rfl, Or.inl rfl, trivial⟩
  · skip
    refine T_aload_n (i := 0) (pc' := 9) dX12_opensBy_8 rfl rfl rfl ?_
    refine U_gf (v := (0, (M 66 51))) (k := 51) (kI := 51) (pc' := 12) dX12_opensBy_9 rfl cl12 (by decide) rfl (by decide) flX12_370 rfl rfl (by decide) rfl rfl ?_
    refine T_iload_n (i := 2) (pc' := 13) dX12_opensBy_12 rfl rfl rfl ?_
    refine T_icmp_ge (pc' := 20) dX12_opensBy_13 (by decide) (pf := 16) rfl (fun c14 => ?_) (fun c14 => ?_)
    · skip
      refine T_iconst (pc' := 21) dX12_opensBy_20 (by decide) rfl ?_
      exact T_wk (L' := [(2, 66), (0, v1), (0, v2), (3, 0), (3, 0), (3, 0)]) (by have q := HJ1; try simp only [if_neg c13] at q; try simp only [if_pos c14] at q; exact q) ⟨Or.inr rfl, Or.inr rfl, Or.inr rfl, Or.inl rfl, Or.inl rfl, Or.inl rfl, trivial⟩
    · skip
      refine T_iconst (pc' := 17) dX12_opensBy_16 (by decide) rfl ?_
      refine T_goto (pc' := 21) dX12_opensBy_17 (by decide) ?_
      exact T_wk (L' := [(2, 66), (0, v1), (0, v2), (3, 0), (3, 0), (3, 0)]) (by have q := HJ1; try simp only [if_neg c13] at q; try simp only [if_neg c14] at q; exact q) ⟨Or.inr rfl, Or.inr rfl, Or.inr rfl, Or.inl rfl, Or.inl rfl, Or.inl rfl, trivial⟩
def lX12_doorIn_2  : Nat → Int → Int → Mem → Int
  | 0, v1, v2, M => (-1)
  | k + 1, v1, v2, M => (if (M 90 (wr32 (6 + v2))) = v1 then (if (M 92 v2) = 0 then v2 else (lX12_doorIn_2 k v1 (v2 + 1) M)) else (lX12_doorIn_2 k v1 (v2 + 1) M))
def nlX12_doorIn_2  : Nat → Int → Int → Mem → Prop
  | 0, v1, v2, M => True
  | k + 1, v1, v2, M => (0 ≤ (wr32 (6 + v2)) ∧ (wr32 (6 + v2)) < 12) ∧ ((M 90 (wr32 (6 + v2))) = v1 → 0 ≤ v2 ∧ v2 < 6) ∧ (¬ ((M 90 (wr32 (6 + v2))) = v1) → (nlX12_doorIn_2 k v1 (v2 + 1) M)) ∧ ((M 90 (wr32 (6 + v2))) = v1 → ¬ ((M 92 v2) = 0) → (nlX12_doorIn_2 k v1 (v2 + 1) M))
set_option maxRecDepth 100000 in
set_option maxHeartbeats 2000000 in
theorem qX12_doorIn_2 {E : EV} {h : Int} {Q : Option MV → Mem → Prop}   : ∀ (k : Nat) (v1 v2 : Int) (M : Mem), 0 ≤ v2 → (((fX12_doorMany M)) - v2).toNat = k → (nlX12_doorIn_2 k v1 v2 M) → Q (some (0, (lX12_doorIn_2 k v1 v2 M))) M → G h M → TG E miX12_doorIn 2 h Q 2 [(2, 66), (0, v1), (0, v2)] [] M := by
  intro k
  induction k with
  | zero =>
    intro v1 v2 M hv0 hk hs hQ hG
    have hQ : Q (some (0, (-1))) M := hQ
    have hs : True := hs
    refine T_iload_n (i := 2) (pc' := 3) dX12_doorIn_2 rfl rfl rfl ?_
    refine T_aload_n (i := 0) (pc' := 4) dX12_doorIn_3 rfl rfl rfl ?_
    refine T_callV (av := []) (st := [(0, v2)]) (d2 := 1) (nc2 := 0) (ns2 := 0) (pc' := 7) dX12_doorIn_4 rfl mtX12_doorMany mvX12_doorMany mlX12_361 cl12 rfl rfl rfl (Nat.le_of_ble_eq_true rfl) (by decide) ⟨by decide, by decide⟩ rfl (pX12_doorMany (E := E) (h := h) (M := M) hG) (kF (st2 := [(0, (fX12_doorMany M)), (0, v2)]) rfl (fun hG1 => ?_))
    refine T_rng (fun _ z9 _ => ?_)
    have hB : r32 (fX12_doorMany M) := (ok_cons.mp z9).1
    unfold r32 at hB
    refine T_icmp_ge (pc' := 40) dX12_doorIn_7 (by decide) (pf := 10) rfl (fun c2 => ?_) (fun c2 => ?_)
    · skip
      refine T_iconst (pc' := 41) dX12_doorIn_40 (by decide) rfl ?_
      exact T_iret dX12_doorIn_41 rfl ⟨rfl, hG, hQ⟩
    · exact absurd c2 (by omega)
  | succ k ih =>
    intro v1 v2 M hv0 hk hs hQ hG
    have hQ : Q (some (0, (if (M 90 (wr32 (6 + v2))) = v1 then (if (M 92 v2) = 0 then v2 else (lX12_doorIn_2 k v1 (v2 + 1) M)) else (lX12_doorIn_2 k v1 (v2 + 1) M)))) M := hQ
    have hs : (0 ≤ (wr32 (6 + v2)) ∧ (wr32 (6 + v2)) < 12) ∧ ((M 90 (wr32 (6 + v2))) = v1 → 0 ≤ v2 ∧ v2 < 6) ∧ (¬ ((M 90 (wr32 (6 + v2))) = v1) → (nlX12_doorIn_2 k v1 (v2 + 1) M)) ∧ ((M 90 (wr32 (6 + v2))) = v1 → ¬ ((M 92 v2) = 0) → (nlX12_doorIn_2 k v1 (v2 + 1) M)) := hs
    obtain ⟨n1, n2, n3, n4⟩ := hs
    refine T_iload_n (i := 2) (pc' := 3) dX12_doorIn_2 rfl rfl rfl ?_
    refine T_aload_n (i := 0) (pc' := 4) dX12_doorIn_3 rfl rfl rfl ?_
    refine T_callV (av := []) (st := [(0, v2)]) (d2 := 1) (nc2 := 0) (ns2 := 0) (pc' := 7) dX12_doorIn_4 rfl mtX12_doorMany mvX12_doorMany mlX12_361 cl12 rfl rfl rfl (Nat.le_of_ble_eq_true rfl) (by decide) ⟨by decide, by decide⟩ rfl (pX12_doorMany (E := E) (h := h) (M := M) hG) (kF (st2 := [(0, (fX12_doorMany M)), (0, v2)]) rfl (fun hG1 => ?_))
    refine T_rng (fun _ z9 _ => ?_)
    have hB : r32 (fX12_doorMany M) := (ok_cons.mp z9).1
    unfold r32 at hB
    refine T_icmp_ge (pc' := 40) dX12_doorIn_7 (by decide) (pf := 10) rfl (fun c2 => ?_) (fun c2 => ?_)
    · exact absurd c2 (by omega)
    · skip
      have hw : wr32 (v2 + 1) = v2 + 1 := wr32_id (by unfold r32; omega)
      refine T_aload_n (i := 0) (pc' := 11) dX12_doorIn_10 rfl rfl rfl ?_
      refine U_gr (q := 90) (k := 33) (kI := 33) (pc' := 14) dX12_doorIn_11 rfl cl12 (by decide) rfl (by decide) flX12_86 rfl rfl rfl (G_at hG 90 rfl) (by decide) rfl ?_
      refine T_bipush (pc' := 16) dX12_doorIn_14 rfl (by decide) rfl ?_
      refine T_iload_n (i := 2) (pc' := 17) dX12_doorIn_16 rfl rfl rfl ?_
      refine T_iadd (pc' := 18) dX12_doorIn_17 rfl ?_
      refine T_iald (pc' := 19) dX12_doorIn_18 (by decide) rfl (n1).1 (n1).2 rfl ?_
      refine T_iload_n (i := 1) (pc' := 20) dX12_doorIn_19 rfl rfl rfl ?_
      refine T_icmp_ne (pc' := 34) dX12_doorIn_20 (by decide) (pf := 23) rfl (fun c3 => ?_) (fun c3 => ?_)
      · skip
        refine T_iinc (L' := [(2, 66), (0, v1), (0, (wr32 (v2 + 1)))]) (pc' := 37) dX12_doorIn_34 rfl (by decide) rfl rfl ?_
        refine T_goto (pc' := 2) dX12_doorIn_37 (by decide) ?_
        rw [hw]
        exact T_wk (ih _ (v2 + 1) _ (by omega) (by omega) (n3 c3) (by have q := hQ; try simp only [if_neg c3] at q; exact q) hG) ⟨Or.inr rfl, Or.inr rfl, Or.inr rfl, trivial⟩
      · skip
        refine T_aload_n (i := 0) (pc' := 24) dX12_doorIn_23 rfl rfl rfl ?_
        refine U_gr (q := 92) (k := 41) (kI := 41) (pc' := 27) dX12_doorIn_24 rfl cl12 (by decide) rfl (by decide) flX12_92 rfl rfl rfl (G_at hG 92 rfl) (by decide) rfl ?_
        refine T_iload_n (i := 2) (pc' := 28) dX12_doorIn_27 rfl rfl rfl ?_
        refine T_iald (pc' := 29) dX12_doorIn_28 (by decide) rfl (n2 c3).1 (n2 c3).2 rfl ?_
        refine T_if_ne (pc' := 34) dX12_doorIn_29 (by decide) (pf := 32) rfl (fun c4 => ?_) (fun c4 => ?_)
        · skip
          refine T_iinc (L' := [(2, 66), (0, v1), (0, (wr32 (v2 + 1)))]) (pc' := 37) dX12_doorIn_34 rfl (by decide) rfl rfl ?_
          refine T_goto (pc' := 2) dX12_doorIn_37 (by decide) ?_
          rw [hw]
          exact T_wk (ih _ (v2 + 1) _ (by omega) (by omega) (n4 c3 c4) (by have q := hQ; try simp only [if_pos c3] at q; try simp only [if_neg c4] at q; exact q) hG) ⟨Or.inr rfl, Or.inr rfl, Or.inr rfl, trivial⟩
        · skip
          refine T_iload_n (i := 2) (pc' := 33) dX12_doorIn_32 rfl rfl rfl ?_
          exact T_iret dX12_doorIn_33 rfl ⟨rfl, hG, (by have q := hQ; try simp only [if_pos c3] at q; try simp only [if_pos c4] at q; exact q)⟩
def fX12_doorIn (M : Mem) (v1 : Int) : Int :=
  (lX12_doorIn_2 ((((fX12_doorMany M)) : Int) - 0).toNat v1 0 M)
def nX12_doorIn (M : Mem) (v1 : Int) : Prop :=
  ((nlX12_doorIn_2 ((((fX12_doorMany M)) : Int) - 0).toNat v1 0 M))
set_option maxRecDepth 100000 in
theorem pX12_doorIn {E : EV} {h : Int} {M : Mem} {v1 : Int} (hs : (nX12_doorIn M v1)) : C2 E miX12_doorIn 2 h [(2, 66), (0, v1)] M (fun r M' => r = some (0, (fX12_doorIn M v1)) ∧ M' = M) := by
  obtain ⟨Q, hQ0⟩ : ∃ Q : Option MV → Mem → Prop, Q = (fun r M' => r = some (0, (fX12_doorIn M v1)) ∧ M' = M) := ⟨_, rfl⟩
  rw [← hQ0]
  have hQ : Q (some (0, (lX12_doorIn_2 ((((fX12_doorMany M)) : Int) - 0).toNat v1 0 M))) M := by rw [hQ0]; exact ⟨rfl, rfl⟩
  have o1 := hs
  refine C2_of (L := [(2, 66), (0, v1), (3, 0)]) (by decide +kernel) (Nat.le_of_ble_eq_true rfl) rfl (fun hG => ?_)
  refine T_iconst (pc' := 1) dX12_doorIn_0 (by decide) rfl ?_
  refine T_istore_n (i := 2) (L' := [(2, 66), (0, v1), (0, 0)]) (pc' := 2) dX12_doorIn_1 rfl (by decide) rfl rfl ?_
  exact T_wk (qX12_doorIn_2  _ v1 0 _ (by first | decide | omega) rfl (o1) hQ hG) ⟨Or.inr rfl, Or.inr rfl, Or.inr rfl, trivial⟩
def fmX12_moves (M : Mem) (v1 : Int) (v2 : Int) : Mem :=
  (mset (if (fX12_isWaiting (mset M 99 v1 0) v1 (wr32 (v2 - 1))) = 0 then (if (fX12_isOut (mset M 99 v1 0) v1 (wr32 (v2 - 1))) = 0 then (if (fX12_isOpen (mset M 99 v1 0) v1 v2) = 0 then (if (fX12_doorIn (mset M 99 v1 0) (fX12_whereIn M v1 (wr32 (v2 - 1)))) = (-1) then (mset M 99 v1 0) else (if (if ((mset M 99 v1 0) 66 51) = (-1) then (0 : Int) else (if v2 ≤ ((mset M 99 v1 0) 66 51) then (0 : Int) else 1)) = 0 then (mset (mset M 99 v1 0) 98 v1 v2) else (mset M 99 v1 0))) else (mset M 99 v1 0)) else (mset M 99 v1 0)) else (mset (mset M 99 v1 0) 99 v1 (fX12_opensBy (mset M 99 v1 0) v1 v2))) 95 (wr32 ((wr32 (9 * v2)) + v1)) (if (fX12_isWaiting (mset M 99 v1 0) v1 (wr32 (v2 - 1))) = 0 then (if (fX12_isOut (mset M 99 v1 0) v1 (wr32 (v2 - 1))) = 0 then (if (fX12_isOpen (mset M 99 v1 0) v1 v2) = 0 then (if (fX12_doorIn (mset M 99 v1 0) (fX12_whereIn M v1 (wr32 (v2 - 1)))) = (-1) then (fX12_nearer (mset M 99 v1 0) (fX12_whereIn M v1 (wr32 (v2 - 1)))) else (if (if ((mset M 99 v1 0) 66 51) = (-1) then (0 : Int) else (if v2 ≤ ((mset M 99 v1 0) 66 51) then (0 : Int) else 1)) = 0 then (fX12_whereIn M v1 (wr32 (v2 - 1))) else (fX12_nearer (mset M 99 v1 0) (fX12_whereIn M v1 (wr32 (v2 - 1)))))) else (fX12_whereIn M v1 (wr32 (v2 - 1)))) else (fX12_whereIn M v1 (wr32 (v2 - 1)))) else (if ((mset (mset M 99 v1 0) 99 v1 (fX12_opensBy (mset M 99 v1 0) v1 v2)) 99 v1) = 0 then (fX12_stepped (mset (mset M 99 v1 0) 99 v1 (fX12_opensBy (mset M 99 v1 0) v1 v2)) (fX12_whereIn M v1 (wr32 (v2 - 1))) (fX12_personOf (mset (mset M 99 v1 0) 99 v1 (fX12_opensBy (mset M 99 v1 0) v1 v2)) v1 (wr32 (6 + (Int.tmod (wr32 (v2 - 1)) (fX12_personOf (mset (mset M 99 v1 0) 99 v1 (fX12_opensBy (mset M 99 v1 0) v1 v2)) v1 5)))))) else (fX12_whereIn M v1 (wr32 (v2 - 1))))))
def nX12_moves (M : Mem) (v1 : Int) (v2 : Int) : Prop :=
  ((nX12_whereIn v1 (wr32 (v2 - 1)))) ∧ (0 ≤ v1 ∧ v1 < 9) ∧ ((nX12_isWaiting (mset M 99 v1 0) v1)) ∧ (0 ≤ (wr32 ((wr32 (9 * v2)) + v1)) ∧ (wr32 ((wr32 (9 * v2)) + v1)) < 1809) ∧ ((fX12_isWaiting (mset M 99 v1 0) v1 (wr32 (v2 - 1))) = 0 → (nX12_isOut (mset M 99 v1 0) v1)) ∧ ((fX12_isWaiting (mset M 99 v1 0) v1 (wr32 (v2 - 1))) = 0 → (fX12_isOut (mset M 99 v1 0) v1 (wr32 (v2 - 1))) = 0 → (nX12_isOpen (mset M 99 v1 0) v1 v2)) ∧ ((fX12_isWaiting (mset M 99 v1 0) v1 (wr32 (v2 - 1))) = 0 → (fX12_isOut (mset M 99 v1 0) v1 (wr32 (v2 - 1))) = 0 → (fX12_isOpen (mset M 99 v1 0) v1 v2) = 0 → (nX12_doorIn (mset M 99 v1 0) (fX12_whereIn M v1 (wr32 (v2 - 1))))) ∧ ((fX12_isWaiting (mset M 99 v1 0) v1 (wr32 (v2 - 1))) = 0 → (fX12_isOut (mset M 99 v1 0) v1 (wr32 (v2 - 1))) = 0 → (fX12_isOpen (mset M 99 v1 0) v1 v2) = 0 → (fX12_doorIn (mset M 99 v1 0) (fX12_whereIn M v1 (wr32 (v2 - 1)))) = (-1) → (nX12_nearer (mset M 99 v1 0) (fX12_whereIn M v1 (wr32 (v2 - 1))))) ∧ ((fX12_isWaiting (mset M 99 v1 0) v1 (wr32 (v2 - 1))) = 0 → (fX12_isOut (mset M 99 v1 0) v1 (wr32 (v2 - 1))) = 0 → (fX12_isOpen (mset M 99 v1 0) v1 v2) = 0 → ¬ ((fX12_doorIn (mset M 99 v1 0) (fX12_whereIn M v1 (wr32 (v2 - 1)))) = (-1)) → ¬ ((if ((mset M 99 v1 0) 66 51) = (-1) then (0 : Int) else (if v2 ≤ ((mset M 99 v1 0) 66 51) then (0 : Int) else 1)) = 0) → (nX12_nearer (mset M 99 v1 0) (fX12_whereIn M v1 (wr32 (v2 - 1))))) ∧ ((fX12_isWaiting (mset M 99 v1 0) v1 (wr32 (v2 - 1))) = 0 → (fX12_isOut (mset M 99 v1 0) v1 (wr32 (v2 - 1))) = 0 → (fX12_isOpen (mset M 99 v1 0) v1 v2) = 0 → ¬ ((fX12_doorIn (mset M 99 v1 0) (fX12_whereIn M v1 (wr32 (v2 - 1)))) = (-1)) → (if ((mset M 99 v1 0) 66 51) = (-1) then (0 : Int) else (if v2 ≤ ((mset M 99 v1 0) 66 51) then (0 : Int) else 1)) = 0 → 0 ≤ v1 ∧ v1 < 9) ∧ (¬ ((fX12_isWaiting (mset M 99 v1 0) v1 (wr32 (v2 - 1))) = 0) → (nX12_opensBy (mset M 99 v1 0) v1 v2)) ∧ (¬ ((fX12_isWaiting (mset M 99 v1 0) v1 (wr32 (v2 - 1))) = 0) → 0 ≤ v1 ∧ v1 < 9) ∧ (¬ ((fX12_isWaiting (mset M 99 v1 0) v1 (wr32 (v2 - 1))) = 0) → 0 ≤ v1 ∧ v1 < 9) ∧ (¬ ((fX12_isWaiting (mset M 99 v1 0) v1 (wr32 (v2 - 1))) = 0) → ((mset (mset M 99 v1 0) 99 v1 (fX12_opensBy (mset M 99 v1 0) v1 v2)) 99 v1) = 0 → (nX12_personOf v1 5)) ∧ (¬ ((fX12_isWaiting (mset M 99 v1 0) v1 (wr32 (v2 - 1))) = 0) → ((mset (mset M 99 v1 0) 99 v1 (fX12_opensBy (mset M 99 v1 0) v1 v2)) 99 v1) = 0 → ¬ (fX12_personOf (mset (mset M 99 v1 0) 99 v1 (fX12_opensBy (mset M 99 v1 0) v1 v2)) v1 5) = 0) ∧ (¬ ((fX12_isWaiting (mset M 99 v1 0) v1 (wr32 (v2 - 1))) = 0) → ((mset (mset M 99 v1 0) 99 v1 (fX12_opensBy (mset M 99 v1 0) v1 v2)) 99 v1) = 0 → (nX12_personOf v1 (wr32 (6 + (Int.tmod (wr32 (v2 - 1)) (fX12_personOf (mset (mset M 99 v1 0) 99 v1 (fX12_opensBy (mset M 99 v1 0) v1 v2)) v1 5)))))) ∧ (¬ ((fX12_isWaiting (mset M 99 v1 0) v1 (wr32 (v2 - 1))) = 0) → ((mset (mset M 99 v1 0) 99 v1 (fX12_opensBy (mset M 99 v1 0) v1 v2)) 99 v1) = 0 → (nX12_stepped (mset (mset M 99 v1 0) 99 v1 (fX12_opensBy (mset M 99 v1 0) v1 v2)) (fX12_whereIn M v1 (wr32 (v2 - 1))) (fX12_personOf (mset (mset M 99 v1 0) 99 v1 (fX12_opensBy (mset M 99 v1 0) v1 v2)) v1 (wr32 (6 + (Int.tmod (wr32 (v2 - 1)) (fX12_personOf (mset (mset M 99 v1 0) 99 v1 (fX12_opensBy (mset M 99 v1 0) v1 v2)) v1 5)))))))
theorem gX12_moves {h : Int} {M : Mem} {v1 : Int} {v2 : Int}  (hG : G h M) : G h (fmX12_moves M v1 v2) := by
  unfold fmX12_moves
  exact (G_arr (x := 95) (i := (wr32 ((wr32 (9 * v2)) + v1))) (y := (if (fX12_isWaiting (mset M 99 v1 0) v1 (wr32 (v2 - 1))) = 0 then (if (fX12_isOut (mset M 99 v1 0) v1 (wr32 (v2 - 1))) = 0 then (if (fX12_isOpen (mset M 99 v1 0) v1 v2) = 0 then (if (fX12_doorIn (mset M 99 v1 0) (fX12_whereIn M v1 (wr32 (v2 - 1)))) = (-1) then (fX12_nearer (mset M 99 v1 0) (fX12_whereIn M v1 (wr32 (v2 - 1)))) else (if (if ((mset M 99 v1 0) 66 51) = (-1) then (0 : Int) else (if v2 ≤ ((mset M 99 v1 0) 66 51) then (0 : Int) else 1)) = 0 then (fX12_whereIn M v1 (wr32 (v2 - 1))) else (fX12_nearer (mset M 99 v1 0) (fX12_whereIn M v1 (wr32 (v2 - 1)))))) else (fX12_whereIn M v1 (wr32 (v2 - 1)))) else (fX12_whereIn M v1 (wr32 (v2 - 1)))) else (if ((mset (mset M 99 v1 0) 99 v1 (fX12_opensBy (mset M 99 v1 0) v1 v2)) 99 v1) = 0 then (fX12_stepped (mset (mset M 99 v1 0) 99 v1 (fX12_opensBy (mset M 99 v1 0) v1 v2)) (fX12_whereIn M v1 (wr32 (v2 - 1))) (fX12_personOf (mset (mset M 99 v1 0) 99 v1 (fX12_opensBy (mset M 99 v1 0) v1 v2)) v1 (wr32 (6 + (Int.tmod (wr32 (v2 - 1)) (fX12_personOf (mset (mset M 99 v1 0) 99 v1 (fX12_opensBy (mset M 99 v1 0) v1 v2)) v1 5)))))) else (fX12_whereIn M v1 (wr32 (v2 - 1)))))) rfl (by decide) (G_ite (G_ite (G_ite (G_ite (G_arr (x := 99) (i := v1) (y := 0) rfl (by decide) hG) (G_ite (G_arr (x := 98) (i := v1) (y := v2) rfl (by decide) (G_arr (x := 99) (i := v1) (y := 0) rfl (by decide) hG)) (G_arr (x := 99) (i := v1) (y := 0) rfl (by decide) hG))) (G_arr (x := 99) (i := v1) (y := 0) rfl (by decide) hG)) (G_arr (x := 99) (i := v1) (y := 0) rfl (by decide) hG)) (G_arr (x := 99) (i := v1) (y := (fX12_opensBy (mset M 99 v1 0) v1 v2)) rfl (by decide) (G_arr (x := 99) (i := v1) (y := 0) rfl (by decide) hG))))
set_option maxRecDepth 100000 in
theorem pX12_moves {E : EV} {h : Int} {M : Mem} {v1 : Int} {v2 : Int} (hs : (nX12_moves M v1 v2)) : C2 E miX12_moves 5 h [(2, 66), (0, v1), (0, v2)] M (fun r M' => r = none ∧ M' = (fmX12_moves M v1 v2)) := by
  obtain ⟨Q, hQ⟩ : ∃ Q : Option MV → Mem → Prop, Q = (fun r M' => r = none ∧ M' = (fmX12_moves M v1 v2)) := ⟨_, rfl⟩
  rw [← hQ]
  obtain ⟨o1, o2, o3, o4, o5, o6, o7, o8, o9, o10, o11, o12, o13, o14, o15, o16, o17⟩ := hs
  refine C2_of (L := [(2, 66), (0, v1), (0, v2), (3, 0), (3, 0), (3, 0)]) (by decide +kernel) (Nat.le_of_ble_eq_true rfl) rfl (fun hG => ?_)
  refine T_aload_n (i := 0) (pc' := 1) dX12_moves_0 rfl rfl rfl ?_
  refine T_iload_n (i := 1) (pc' := 2) dX12_moves_1 rfl rfl rfl ?_
  refine T_iload_n (i := 2) (pc' := 3) dX12_moves_2 rfl rfl rfl ?_
  refine T_iconst (pc' := 4) dX12_moves_3 (by decide) rfl ?_
  refine T_isub (pc' := 5) dX12_moves_4 rfl ?_
  refine T_callV (av := [(0, v1), (0, (wr32 (v2 - 1)))]) (st := []) (d2 := 1) (nc2 := 0) (ns2 := 0) (pc' := 8) dX12_moves_5 rfl mtX12_whereIn mvX12_whereIn mlX12_383 cl12 rfl rfl rfl (Nat.le_of_ble_eq_true rfl) (by decide) ⟨by decide, by decide⟩ rfl (pX12_whereIn (E := E) (h := h) (M := M) (v1 := v1) (v2 := (wr32 (v2 - 1))) (o1) hG) (kF (st2 := [(0, (fX12_whereIn M v1 (wr32 (v2 - 1))))]) rfl (fun hG1 => ?_))
  refine T_istore_n (i := 3) (L' := [(2, 66), (0, v1), (0, v2), (0, (fX12_whereIn M v1 (wr32 (v2 - 1)))), (3, 0), (3, 0)]) (pc' := 9) dX12_moves_8 rfl (by decide) rfl rfl ?_
  refine T_iload_n (i := 3) (pc' := 10) dX12_moves_9 rfl rfl rfl ?_
  refine T_istore (i := 4) (L' := [(2, 66), (0, v1), (0, v2), (0, (fX12_whereIn M v1 (wr32 (v2 - 1)))), (0, (fX12_whereIn M v1 (wr32 (v2 - 1)))), (3, 0)]) (pc' := 12) dX12_moves_10 (by decide) rfl rfl ?_
  refine T_aload_n (i := 0) (pc' := 13) dX12_moves_12 rfl rfl rfl ?_
  refine U_gr (q := 99) (k := 49) (kI := 49) (pc' := 16) dX12_moves_13 rfl cl12 (by decide) rfl (by decide) flX12_113 rfl rfl rfl (G_at hG 99 rfl) (by decide) rfl ?_
  refine T_iload_n (i := 1) (pc' := 17) dX12_moves_16 rfl rfl rfl ?_
  refine T_iconst (pc' := 18) dX12_moves_17 (by decide) rfl ?_
  refine T_iast (pc' := 19) dX12_moves_18 (by decide) rfl (o2).1 (o2).2 rfl ?_
  refine T_aload_n (i := 0) (pc' := 20) dX12_moves_19 rfl rfl rfl ?_
  refine T_iload_n (i := 1) (pc' := 21) dX12_moves_20 rfl rfl rfl ?_
  refine T_iload_n (i := 2) (pc' := 22) dX12_moves_21 rfl rfl rfl ?_
  refine T_iconst (pc' := 23) dX12_moves_22 (by decide) rfl ?_
  refine T_isub (pc' := 24) dX12_moves_23 rfl ?_
  refine T_callV (av := [(0, v1), (0, (wr32 (v2 - 1)))]) (st := []) (d2 := 1) (nc2 := 0) (ns2 := 0) (pc' := 27) dX12_moves_24 rfl mtX12_isWaiting mvX12_isWaiting mlX12_389 cl12 rfl rfl rfl (Nat.le_of_ble_eq_true rfl) (by decide) ⟨by decide, by decide⟩ rfl (pX12_isWaiting (E := E) (h := h) (M := (mset M 99 v1 0)) (v1 := v1) (v2 := (wr32 (v2 - 1))) (o3) (G_arr (x := 99) (i := v1) (y := 0) rfl (by decide) hG)) (kF (st2 := [(0, (fX12_isWaiting (mset M 99 v1 0) v1 (wr32 (v2 - 1))))]) rfl (fun hG2 => ?_))
  have HJ3 : T E miX12_moves 5 126 0 0 (fun r S M' => S = S0 ∧ G h M' ∧ Q r M') 153 [(2, 66), (0, v1), (0, v2), (3, 0), (0, (if (fX12_isWaiting (mset M 99 v1 0) v1 (wr32 (v2 - 1))) = 0 then (if (fX12_isOut (mset M 99 v1 0) v1 (wr32 (v2 - 1))) = 0 then (if (fX12_isOpen (mset M 99 v1 0) v1 v2) = 0 then (if (fX12_doorIn (mset M 99 v1 0) (fX12_whereIn M v1 (wr32 (v2 - 1)))) = (-1) then (fX12_nearer (mset M 99 v1 0) (fX12_whereIn M v1 (wr32 (v2 - 1)))) else (if (if ((mset M 99 v1 0) 66 51) = (-1) then (0 : Int) else (if v2 ≤ ((mset M 99 v1 0) 66 51) then (0 : Int) else 1)) = 0 then (fX12_whereIn M v1 (wr32 (v2 - 1))) else (fX12_nearer (mset M 99 v1 0) (fX12_whereIn M v1 (wr32 (v2 - 1)))))) else (fX12_whereIn M v1 (wr32 (v2 - 1)))) else (fX12_whereIn M v1 (wr32 (v2 - 1)))) else (if ((mset (mset M 99 v1 0) 99 v1 (fX12_opensBy (mset M 99 v1 0) v1 v2)) 99 v1) = 0 then (fX12_stepped (mset (mset M 99 v1 0) 99 v1 (fX12_opensBy (mset M 99 v1 0) v1 v2)) (fX12_whereIn M v1 (wr32 (v2 - 1))) (fX12_personOf (mset (mset M 99 v1 0) 99 v1 (fX12_opensBy (mset M 99 v1 0) v1 v2)) v1 (wr32 (6 + (Int.tmod (wr32 (v2 - 1)) (fX12_personOf (mset (mset M 99 v1 0) 99 v1 (fX12_opensBy (mset M 99 v1 0) v1 v2)) v1 5)))))) else (fX12_whereIn M v1 (wr32 (v2 - 1)))))), (3, 0)] [] S0 (if (fX12_isWaiting (mset M 99 v1 0) v1 (wr32 (v2 - 1))) = 0 then (if (fX12_isOut (mset M 99 v1 0) v1 (wr32 (v2 - 1))) = 0 then (if (fX12_isOpen (mset M 99 v1 0) v1 v2) = 0 then (if (fX12_doorIn (mset M 99 v1 0) (fX12_whereIn M v1 (wr32 (v2 - 1)))) = (-1) then (mset M 99 v1 0) else (if (if ((mset M 99 v1 0) 66 51) = (-1) then (0 : Int) else (if v2 ≤ ((mset M 99 v1 0) 66 51) then (0 : Int) else 1)) = 0 then (mset (mset M 99 v1 0) 98 v1 v2) else (mset M 99 v1 0))) else (mset M 99 v1 0)) else (mset M 99 v1 0)) else (mset (mset M 99 v1 0) 99 v1 (fX12_opensBy (mset M 99 v1 0) v1 v2))) 0 0 := by
    refine T_aload_n (i := 0) (pc' := 154) dX12_moves_153 rfl rfl rfl ?_
    refine U_gr (q := 95) (k := 45) (kI := 45) (pc' := 157) dX12_moves_154 rfl cl12 (by decide) rfl (by decide) flX12_101 rfl rfl rfl (G_at (G_ite (G_ite (G_ite (G_ite (G_arr (x := 99) (i := v1) (y := 0) rfl (by decide) hG) (G_ite (G_arr (x := 98) (i := v1) (y := v2) rfl (by decide) (G_arr (x := 99) (i := v1) (y := 0) rfl (by decide) hG)) (G_arr (x := 99) (i := v1) (y := 0) rfl (by decide) hG))) (G_arr (x := 99) (i := v1) (y := 0) rfl (by decide) hG)) (G_arr (x := 99) (i := v1) (y := 0) rfl (by decide) hG)) (G_arr (x := 99) (i := v1) (y := (fX12_opensBy (mset M 99 v1 0) v1 v2)) rfl (by decide) (G_arr (x := 99) (i := v1) (y := 0) rfl (by decide) hG))) 95 rfl) (by decide) rfl ?_
    refine T_bipush (pc' := 159) dX12_moves_157 rfl (by decide) rfl ?_
    refine T_iload_n (i := 2) (pc' := 160) dX12_moves_159 rfl rfl rfl ?_
    refine T_imul (pc' := 161) dX12_moves_160 rfl ?_
    refine T_iload_n (i := 1) (pc' := 162) dX12_moves_161 rfl rfl rfl ?_
    refine T_iadd (pc' := 163) dX12_moves_162 rfl ?_
    refine T_iload (i := 4) (pc' := 165) dX12_moves_163 rfl rfl ?_
    refine T_iast (pc' := 166) dX12_moves_165 (by decide) rfl (o4).1 (o4).2 rfl ?_
    exact T_vret dX12_moves_166 rfl ⟨rfl, (G_arr (x := 95) (i := (wr32 ((wr32 (9 * v2)) + v1))) (y := (if (fX12_isWaiting (mset M 99 v1 0) v1 (wr32 (v2 - 1))) = 0 then (if (fX12_isOut (mset M 99 v1 0) v1 (wr32 (v2 - 1))) = 0 then (if (fX12_isOpen (mset M 99 v1 0) v1 v2) = 0 then (if (fX12_doorIn (mset M 99 v1 0) (fX12_whereIn M v1 (wr32 (v2 - 1)))) = (-1) then (fX12_nearer (mset M 99 v1 0) (fX12_whereIn M v1 (wr32 (v2 - 1)))) else (if (if ((mset M 99 v1 0) 66 51) = (-1) then (0 : Int) else (if v2 ≤ ((mset M 99 v1 0) 66 51) then (0 : Int) else 1)) = 0 then (fX12_whereIn M v1 (wr32 (v2 - 1))) else (fX12_nearer (mset M 99 v1 0) (fX12_whereIn M v1 (wr32 (v2 - 1)))))) else (fX12_whereIn M v1 (wr32 (v2 - 1)))) else (fX12_whereIn M v1 (wr32 (v2 - 1)))) else (if ((mset (mset M 99 v1 0) 99 v1 (fX12_opensBy (mset M 99 v1 0) v1 v2)) 99 v1) = 0 then (fX12_stepped (mset (mset M 99 v1 0) 99 v1 (fX12_opensBy (mset M 99 v1 0) v1 v2)) (fX12_whereIn M v1 (wr32 (v2 - 1))) (fX12_personOf (mset (mset M 99 v1 0) 99 v1 (fX12_opensBy (mset M 99 v1 0) v1 v2)) v1 (wr32 (6 + (Int.tmod (wr32 (v2 - 1)) (fX12_personOf (mset (mset M 99 v1 0) 99 v1 (fX12_opensBy (mset M 99 v1 0) v1 v2)) v1 5)))))) else (fX12_whereIn M v1 (wr32 (v2 - 1)))))) rfl (by decide) (G_ite (G_ite (G_ite (G_ite (G_arr (x := 99) (i := v1) (y := 0) rfl (by decide) hG) (G_ite (G_arr (x := 98) (i := v1) (y := v2) rfl (by decide) (G_arr (x := 99) (i := v1) (y := 0) rfl (by decide) hG)) (G_arr (x := 99) (i := v1) (y := 0) rfl (by decide) hG))) (G_arr (x := 99) (i := v1) (y := 0) rfl (by decide) hG)) (G_arr (x := 99) (i := v1) (y := 0) rfl (by decide) hG)) (G_arr (x := 99) (i := v1) (y := (fX12_opensBy (mset M 99 v1 0) v1 v2)) rfl (by decide) (G_arr (x := 99) (i := v1) (y := 0) rfl (by decide) hG)))), (by rw [hQ]; exact ⟨rfl, rfl⟩)⟩
  refine T_if_eq (pc' := 79) dX12_moves_27 (by decide) (pf := 30) rfl (fun c4 => ?_) (fun c4 => ?_)
  · skip
    refine T_aload_n (i := 0) (pc' := 80) dX12_moves_79 rfl rfl rfl ?_
    refine T_iload_n (i := 1) (pc' := 81) dX12_moves_80 rfl rfl rfl ?_
    refine T_iload_n (i := 2) (pc' := 82) dX12_moves_81 rfl rfl rfl ?_
    refine T_iconst (pc' := 83) dX12_moves_82 (by decide) rfl ?_
    refine T_isub (pc' := 84) dX12_moves_83 rfl ?_
    refine T_callV (av := [(0, v1), (0, (wr32 (v2 - 1)))]) (st := []) (d2 := 1) (nc2 := 0) (ns2 := 0) (pc' := 87) dX12_moves_84 rfl mtX12_isOut mvX12_isOut mlX12_395 cl12 rfl rfl rfl (Nat.le_of_ble_eq_true rfl) (by decide) ⟨by decide, by decide⟩ rfl (pX12_isOut (E := E) (h := h) (M := (mset M 99 v1 0)) (v1 := v1) (v2 := (wr32 (v2 - 1))) (o5 c4) (G_arr (x := 99) (i := v1) (y := 0) rfl (by decide) hG)) (kF (st2 := [(0, (fX12_isOut (mset M 99 v1 0) v1 (wr32 (v2 - 1))))]) rfl (fun hG5 => ?_))
    refine T_if_ne (pc' := 153) dX12_moves_87 (by decide) (pf := 90) rfl (fun c6 => ?_) (fun c6 => ?_)
    · skip
      exact T_wk (L' := [(2, 66), (0, v1), (0, v2), (3, 0), (0, (fX12_whereIn M v1 (wr32 (v2 - 1)))), (3, 0)]) (by have q := HJ3; try simp only [if_pos c4] at q; try simp only [if_neg c6] at q; exact q) ⟨Or.inr rfl, Or.inr rfl, Or.inr rfl, Or.inl rfl, Or.inr rfl, Or.inl rfl, trivial⟩
    · skip
      refine T_aload_n (i := 0) (pc' := 91) dX12_moves_90 rfl rfl rfl ?_
      refine T_iload_n (i := 1) (pc' := 92) dX12_moves_91 rfl rfl rfl ?_
      refine T_iload_n (i := 2) (pc' := 93) dX12_moves_92 rfl rfl rfl ?_
      refine T_callV (av := [(0, v1), (0, v2)]) (st := []) (d2 := 2) (nc2 := 0) (ns2 := 0) (pc' := 96) dX12_moves_93 rfl mtX12_isOpen mvX12_isOpen mlX12_379 cl12 rfl rfl rfl (Nat.le_of_ble_eq_true rfl) (by decide) ⟨by decide, by decide⟩ rfl (pX12_isOpen (E := E) (h := h) (M := (mset M 99 v1 0)) (v1 := v1) (v2 := v2) (o6 c4 c6) (G_arr (x := 99) (i := v1) (y := 0) rfl (by decide) hG)) (kF (st2 := [(0, (fX12_isOpen (mset M 99 v1 0) v1 v2))]) rfl (fun hG7 => ?_))
      refine T_if_ne (pc' := 153) dX12_moves_96 (by decide) (pf := 99) rfl (fun c8 => ?_) (fun c8 => ?_)
      · skip
        exact T_wk (L' := [(2, 66), (0, v1), (0, v2), (3, 0), (0, (fX12_whereIn M v1 (wr32 (v2 - 1)))), (3, 0)]) (by have q := HJ3; try simp only [if_pos c4] at q; try simp only [if_pos c6] at q; try simp only [if_neg c8] at q; exact q) ⟨Or.inr rfl, Or.inr rfl, Or.inr rfl, Or.inl rfl, Or.inr rfl, Or.inl rfl, trivial⟩
      · skip
        refine T_aload_n (i := 0) (pc' := 100) dX12_moves_99 rfl rfl rfl ?_
        refine U_gf (v := (0, ((mset M 99 v1 0) 66 51))) (k := 51) (kI := 51) (pc' := 103) dX12_moves_100 rfl cl12 (by decide) rfl (by decide) flX12_370 rfl rfl (by decide) rfl rfl ?_
        refine T_iconst (pc' := 104) dX12_moves_103 (by decide) rfl ?_
        have HJ9 : T E miX12_moves 5 126 0 0 (fun r S M' => S = S0 ∧ G h M' ∧ Q r M') 120 [(2, 66), (0, v1), (0, v2), (0, (fX12_whereIn M v1 (wr32 (v2 - 1)))), (0, (fX12_whereIn M v1 (wr32 (v2 - 1)))), (3, 0)] [(0, (if ((mset M 99 v1 0) 66 51) = (-1) then (0 : Int) else (if v2 ≤ ((mset M 99 v1 0) 66 51) then (0 : Int) else 1)))] S0 (mset M 99 v1 0) 0 0 := by
          refine T_istore (i := 5) (L' := [(2, 66), (0, v1), (0, v2), (0, (fX12_whereIn M v1 (wr32 (v2 - 1)))), (0, (fX12_whereIn M v1 (wr32 (v2 - 1)))), (0, (if ((mset M 99 v1 0) 66 51) = (-1) then (0 : Int) else (if v2 ≤ ((mset M 99 v1 0) 66 51) then (0 : Int) else 1)))]) (pc' := 122) dX12_moves_120 (by decide) rfl rfl ?_
          refine T_aload_n (i := 0) (pc' := 123) dX12_moves_122 rfl rfl rfl ?_
          refine T_iload_n (i := 3) (pc' := 124) dX12_moves_123 rfl rfl rfl ?_
          refine T_callV (av := [(0, (fX12_whereIn M v1 (wr32 (v2 - 1))))]) (st := []) (d2 := 2) (nc2 := 0) (ns2 := 0) (pc' := 127) dX12_moves_124 rfl mtX12_doorIn mvX12_doorIn mlX12_398 cl12 rfl rfl rfl (Nat.le_of_ble_eq_true rfl) (by decide) ⟨by decide, by decide⟩ rfl (pX12_doorIn (E := E) (h := h) (M := (mset M 99 v1 0)) (v1 := (fX12_whereIn M v1 (wr32 (v2 - 1)))) (o7 c4 c6 c8) (G_arr (x := 99) (i := v1) (y := 0) rfl (by decide) hG)) (kF (st2 := [(0, (fX12_doorIn (mset M 99 v1 0) (fX12_whereIn M v1 (wr32 (v2 - 1)))))]) rfl (fun hG10 => ?_))
          refine T_iconst (pc' := 128) dX12_moves_127 (by decide) rfl ?_
          refine T_icmp_eq (pc' := 146) dX12_moves_128 (by decide) (pf := 131) rfl (fun c11 => ?_) (fun c11 => ?_)
          · skip
            refine T_aload_n (i := 0) (pc' := 147) dX12_moves_146 rfl rfl rfl ?_
            refine T_iload_n (i := 3) (pc' := 148) dX12_moves_147 rfl rfl rfl ?_
            refine T_callV (av := [(0, (fX12_whereIn M v1 (wr32 (v2 - 1))))]) (st := []) (d2 := 3) (nc2 := 0) (ns2 := 0) (pc' := 151) dX12_moves_148 rfl mtX12_nearer mvX12_nearer mlX12_401 cl12 rfl rfl rfl (Nat.le_of_ble_eq_true rfl) (by decide) ⟨by decide, by decide⟩ rfl (pX12_nearer (E := E) (h := h) (M := (mset M 99 v1 0)) (v1 := (fX12_whereIn M v1 (wr32 (v2 - 1)))) (o8 c4 c6 c8 c11) (G_arr (x := 99) (i := v1) (y := 0) rfl (by decide) hG)) (kF (st2 := [(0, (fX12_nearer (mset M 99 v1 0) (fX12_whereIn M v1 (wr32 (v2 - 1)))))]) rfl (fun hG12 => ?_))
            refine T_istore (i := 4) (L' := [(2, 66), (0, v1), (0, v2), (0, (fX12_whereIn M v1 (wr32 (v2 - 1)))), (0, (fX12_nearer (mset M 99 v1 0) (fX12_whereIn M v1 (wr32 (v2 - 1))))), (0, (if ((mset M 99 v1 0) 66 51) = (-1) then (0 : Int) else (if v2 ≤ ((mset M 99 v1 0) 66 51) then (0 : Int) else 1)))]) (pc' := 153) dX12_moves_151 (by decide) rfl rfl ?_
            exact T_wk (L' := [(2, 66), (0, v1), (0, v2), (3, 0), (0, (fX12_nearer (mset M 99 v1 0) (fX12_whereIn M v1 (wr32 (v2 - 1))))), (3, 0)]) (by have q := HJ3; try simp only [if_pos c4] at q; try simp only [if_pos c6] at q; try simp only [if_pos c8] at q; try simp only [if_pos c11] at q; exact q) ⟨Or.inr rfl, Or.inr rfl, Or.inr rfl, Or.inl rfl, Or.inr rfl, Or.inl rfl, trivial⟩
          · skip
            refine T_iload (i := 5) (pc' := 133) dX12_moves_131 rfl rfl ?_
            refine T_if_ne (pc' := 146) dX12_moves_133 (by decide) (pf := 136) rfl (fun c13 => ?_) (fun c13 => ?_)
            · skip
              refine T_aload_n (i := 0) (pc' := 147) dX12_moves_146 rfl rfl rfl ?_
              refine T_iload_n (i := 3) (pc' := 148) dX12_moves_147 rfl rfl rfl ?_
              refine T_callV (av := [(0, (fX12_whereIn M v1 (wr32 (v2 - 1))))]) (st := []) (d2 := 3) (nc2 := 0) (ns2 := 0) (pc' := 151) dX12_moves_148 rfl mtX12_nearer mvX12_nearer mlX12_401 cl12 rfl rfl rfl (Nat.le_of_ble_eq_true rfl) (by decide) ⟨by decide, by decide⟩ rfl (pX12_nearer (E := E) (h := h) (M := (mset M 99 v1 0)) (v1 := (fX12_whereIn M v1 (wr32 (v2 - 1)))) (o9 c4 c6 c8 c11 c13) (G_arr (x := 99) (i := v1) (y := 0) rfl (by decide) hG)) (kF (st2 := [(0, (fX12_nearer (mset M 99 v1 0) (fX12_whereIn M v1 (wr32 (v2 - 1)))))]) rfl (fun hG14 => ?_))
              refine T_istore (i := 4) (L' := [(2, 66), (0, v1), (0, v2), (0, (fX12_whereIn M v1 (wr32 (v2 - 1)))), (0, (fX12_nearer (mset M 99 v1 0) (fX12_whereIn M v1 (wr32 (v2 - 1))))), (0, (if ((mset M 99 v1 0) 66 51) = (-1) then (0 : Int) else (if v2 ≤ ((mset M 99 v1 0) 66 51) then (0 : Int) else 1)))]) (pc' := 153) dX12_moves_151 (by decide) rfl rfl ?_
              exact T_wk (L' := [(2, 66), (0, v1), (0, v2), (3, 0), (0, (fX12_nearer (mset M 99 v1 0) (fX12_whereIn M v1 (wr32 (v2 - 1))))), (3, 0)]) (by have q := HJ3; try simp only [if_pos c4] at q; try simp only [if_pos c6] at q; try simp only [if_pos c8] at q; try simp only [if_neg c11] at q; try simp only [if_neg c13] at q; exact q) ⟨Or.inr rfl, Or.inr rfl, Or.inr rfl, Or.inl rfl, Or.inr rfl, Or.inl rfl, trivial⟩
            · skip
              refine T_aload_n (i := 0) (pc' := 137) dX12_moves_136 rfl rfl rfl ?_
              refine U_gr (q := 98) (k := 48) (kI := 48) (pc' := 140) dX12_moves_137 rfl cl12 (by decide) rfl (by decide) flX12_110 rfl rfl rfl (G_at (G_arr (x := 99) (i := v1) (y := 0) rfl (by decide) hG) 98 rfl) (by decide) rfl ?_
              refine T_iload_n (i := 1) (pc' := 141) dX12_moves_140 rfl rfl rfl ?_
              refine T_iload_n (i := 2) (pc' := 142) dX12_moves_141 rfl rfl rfl ?_
              refine T_iast (pc' := 143) dX12_moves_142 (by decide) rfl (o10 c4 c6 c8 c11 c13).1 (o10 c4 c6 c8 c11 c13).2 rfl ?_
              refine T_goto (pc' := 153) dX12_moves_143 (by decide) ?_
              exact T_wk (L' := [(2, 66), (0, v1), (0, v2), (3, 0), (0, (fX12_whereIn M v1 (wr32 (v2 - 1)))), (3, 0)]) (by have q := HJ3; try simp only [if_pos c4] at q; try simp only [if_pos c6] at q; try simp only [if_pos c8] at q; try simp only [if_neg c11] at q; try simp only [if_pos c13] at q; exact q) ⟨Or.inr rfl, Or.inr rfl, Or.inr rfl, Or.inl rfl, Or.inr rfl, Or.inl rfl, trivial⟩
        refine T_icmp_eq (pc' := 119) dX12_moves_104 (by decide) (pf := 107) rfl (fun c15 => ?_) (fun c15 => ?_)
        · skip
          refine T_iconst (pc' := 120) dX12_moves_119 (by decide) rfl ?_
          exact T_wk (L' := [(2, 66), (0, v1), (0, v2), (0, (fX12_whereIn M v1 (wr32 (v2 - 1)))), (0, (fX12_whereIn M v1 (wr32 (v2 - 1)))), (3, 0)]) (by have q := HJ9; try simp only [if_pos c15] at q; exact q) ⟨Or.inr rfl, Or.inr rfl, Or.inr rfl, Or.inr rfl, Or.inr rfl, Or.inl rfl, trivial⟩
        · skip
          refine T_aload_n (i := 0) (pc' := 108) dX12_moves_107 rfl rfl rfl ?_
          refine U_gf (v := (0, ((mset M 99 v1 0) 66 51))) (k := 51) (kI := 51) (pc' := 111) dX12_moves_108 rfl cl12 (by decide) rfl (by decide) flX12_370 rfl rfl (by decide) rfl rfl ?_
          refine T_iload_n (i := 2) (pc' := 112) dX12_moves_111 rfl rfl rfl ?_
          refine T_icmp_ge (pc' := 119) dX12_moves_112 (by decide) (pf := 115) rfl (fun c16 => ?_) (fun c16 => ?_)
          · skip
            refine T_iconst (pc' := 120) dX12_moves_119 (by decide) rfl ?_
            exact T_wk (L' := [(2, 66), (0, v1), (0, v2), (0, (fX12_whereIn M v1 (wr32 (v2 - 1)))), (0, (fX12_whereIn M v1 (wr32 (v2 - 1)))), (3, 0)]) (by have q := HJ9; try simp only [if_neg c15] at q; try simp only [if_pos c16] at q; exact q) ⟨Or.inr rfl, Or.inr rfl, Or.inr rfl, Or.inr rfl, Or.inr rfl, Or.inl rfl, trivial⟩
          · skip
            refine T_iconst (pc' := 116) dX12_moves_115 (by decide) rfl ?_
            refine T_goto (pc' := 120) dX12_moves_116 (by decide) ?_
            exact T_wk (L' := [(2, 66), (0, v1), (0, v2), (0, (fX12_whereIn M v1 (wr32 (v2 - 1)))), (0, (fX12_whereIn M v1 (wr32 (v2 - 1)))), (3, 0)]) (by have q := HJ9; try simp only [if_neg c15] at q; try simp only [if_neg c16] at q; exact q) ⟨Or.inr rfl, Or.inr rfl, Or.inr rfl, Or.inr rfl, Or.inr rfl, Or.inl rfl, trivial⟩
  · skip
    refine T_aload_n (i := 0) (pc' := 31) dX12_moves_30 rfl rfl rfl ?_
    refine U_gr (q := 99) (k := 49) (kI := 49) (pc' := 34) dX12_moves_31 rfl cl12 (by decide) rfl (by decide) flX12_113 rfl rfl rfl (G_at (G_arr (x := 99) (i := v1) (y := 0) rfl (by decide) hG) 99 rfl) (by decide) rfl ?_
    refine T_iload_n (i := 1) (pc' := 35) dX12_moves_34 rfl rfl rfl ?_
    refine T_aload_n (i := 0) (pc' := 36) dX12_moves_35 rfl rfl rfl ?_
    refine T_iload_n (i := 1) (pc' := 37) dX12_moves_36 rfl rfl rfl ?_
    refine T_iload_n (i := 2) (pc' := 38) dX12_moves_37 rfl rfl rfl ?_
    refine T_callV (av := [(0, v1), (0, v2)]) (st := [(0, v1), (2, 99)]) (d2 := 4) (nc2 := 0) (ns2 := 0) (pc' := 41) dX12_moves_38 rfl mtX12_opensBy mvX12_opensBy mlX12_392 cl12 rfl rfl rfl (Nat.le_of_ble_eq_true rfl) (by decide) ⟨by decide, by decide⟩ rfl (pX12_opensBy (E := E) (h := h) (M := (mset M 99 v1 0)) (v1 := v1) (v2 := v2) (o11 c4) (G_arr (x := 99) (i := v1) (y := 0) rfl (by decide) hG)) (kF (st2 := [(0, (fX12_opensBy (mset M 99 v1 0) v1 v2)), (0, v1), (2, 99)]) rfl (fun hG17 => ?_))
    refine T_iast (pc' := 42) dX12_moves_41 (by decide) rfl (o12 c4).1 (o12 c4).2 rfl ?_
    refine T_aload_n (i := 0) (pc' := 43) dX12_moves_42 rfl rfl rfl ?_
    refine U_gr (q := 99) (k := 49) (kI := 49) (pc' := 46) dX12_moves_43 rfl cl12 (by decide) rfl (by decide) flX12_113 rfl rfl rfl (G_at (G_arr (x := 99) (i := v1) (y := (fX12_opensBy (mset M 99 v1 0) v1 v2)) rfl (by decide) (G_arr (x := 99) (i := v1) (y := 0) rfl (by decide) hG)) 99 rfl) (by decide) rfl ?_
    refine T_iload_n (i := 1) (pc' := 47) dX12_moves_46 rfl rfl rfl ?_
    refine T_iald (pc' := 48) dX12_moves_47 (by decide) rfl (o13 c4).1 (o13 c4).2 rfl ?_
    refine T_if_ne (pc' := 153) dX12_moves_48 (by decide) (pf := 51) rfl (fun c18 => ?_) (fun c18 => ?_)
    · skip
      exact T_wk (L' := [(2, 66), (0, v1), (0, v2), (3, 0), (0, (fX12_whereIn M v1 (wr32 (v2 - 1)))), (3, 0)]) (by have q := HJ3; try simp only [if_neg c4] at q; try simp only [if_neg c18] at q; exact q) ⟨Or.inr rfl, Or.inr rfl, Or.inr rfl, Or.inl rfl, Or.inr rfl, Or.inl rfl, trivial⟩
    · skip
      refine T_aload_n (i := 0) (pc' := 52) dX12_moves_51 rfl rfl rfl ?_
      refine T_iload_n (i := 3) (pc' := 53) dX12_moves_52 rfl rfl rfl ?_
      refine T_aload_n (i := 0) (pc' := 54) dX12_moves_53 rfl rfl rfl ?_
      refine T_iload_n (i := 1) (pc' := 55) dX12_moves_54 rfl rfl rfl ?_
      refine T_bipush (pc' := 57) dX12_moves_55 rfl (by decide) rfl ?_
      refine T_iload_n (i := 2) (pc' := 58) dX12_moves_57 rfl rfl rfl ?_
      refine T_iconst (pc' := 59) dX12_moves_58 (by decide) rfl ?_
      refine T_isub (pc' := 60) dX12_moves_59 rfl ?_
      refine T_aload_n (i := 0) (pc' := 61) dX12_moves_60 rfl rfl rfl ?_
      refine T_iload_n (i := 1) (pc' := 62) dX12_moves_61 rfl rfl rfl ?_
      refine T_iconst (pc' := 63) dX12_moves_62 (by decide) rfl ?_
      refine T_callV (av := [(0, v1), (0, 5)]) (st := [(0, (wr32 (v2 - 1))), (0, 6), (0, v1), (2, 66), (0, (fX12_whereIn M v1 (wr32 (v2 - 1)))), (2, 66)]) (d2 := 1) (nc2 := 0) (ns2 := 0) (pc' := 66) dX12_moves_63 rfl mtX12_personOf mvX12_personOf mlX12_373 cl12 rfl rfl rfl (Nat.le_of_ble_eq_true rfl) (by decide) ⟨by decide, by decide⟩ rfl (pX12_personOf (E := E) (h := h) (M := (mset (mset M 99 v1 0) 99 v1 (fX12_opensBy (mset M 99 v1 0) v1 v2))) (v1 := v1) (v2 := 5) (o14 c4 c18) (G_arr (x := 99) (i := v1) (y := (fX12_opensBy (mset M 99 v1 0) v1 v2)) rfl (by decide) (G_arr (x := 99) (i := v1) (y := 0) rfl (by decide) hG))) (kF (st2 := [(0, (fX12_personOf (mset (mset M 99 v1 0) 99 v1 (fX12_opensBy (mset M 99 v1 0) v1 v2)) v1 5)), (0, (wr32 (v2 - 1))), (0, 6), (0, v1), (2, 66), (0, (fX12_whereIn M v1 (wr32 (v2 - 1)))), (2, 66)]) rfl (fun hG19 => ?_))
      refine T_irem (pc' := 67) dX12_moves_66 (o15 c4 c18) rfl ?_
      refine T_iadd (pc' := 68) dX12_moves_67 rfl ?_
      refine T_callV (av := [(0, v1), (0, (wr32 (6 + (Int.tmod (wr32 (v2 - 1)) (fX12_personOf (mset (mset M 99 v1 0) 99 v1 (fX12_opensBy (mset M 99 v1 0) v1 v2)) v1 5)))))]) (st := [(0, (fX12_whereIn M v1 (wr32 (v2 - 1)))), (2, 66)]) (d2 := 1) (nc2 := 0) (ns2 := 0) (pc' := 71) dX12_moves_68 rfl mtX12_personOf mvX12_personOf mlX12_373 cl12 rfl rfl rfl (Nat.le_of_ble_eq_true rfl) (by decide) ⟨by decide, by decide⟩ rfl (pX12_personOf (E := E) (h := h) (M := (mset (mset M 99 v1 0) 99 v1 (fX12_opensBy (mset M 99 v1 0) v1 v2))) (v1 := v1) (v2 := (wr32 (6 + (Int.tmod (wr32 (v2 - 1)) (fX12_personOf (mset (mset M 99 v1 0) 99 v1 (fX12_opensBy (mset M 99 v1 0) v1 v2)) v1 5))))) (o16 c4 c18) (G_arr (x := 99) (i := v1) (y := (fX12_opensBy (mset M 99 v1 0) v1 v2)) rfl (by decide) (G_arr (x := 99) (i := v1) (y := 0) rfl (by decide) hG))) (kF (st2 := [(0, (fX12_personOf (mset (mset M 99 v1 0) 99 v1 (fX12_opensBy (mset M 99 v1 0) v1 v2)) v1 (wr32 (6 + (Int.tmod (wr32 (v2 - 1)) (fX12_personOf (mset (mset M 99 v1 0) 99 v1 (fX12_opensBy (mset M 99 v1 0) v1 v2)) v1 5)))))), (0, (fX12_whereIn M v1 (wr32 (v2 - 1)))), (2, 66)]) rfl (fun hG20 => ?_))
      refine T_callV (av := [(0, (fX12_whereIn M v1 (wr32 (v2 - 1)))), (0, (fX12_personOf (mset (mset M 99 v1 0) 99 v1 (fX12_opensBy (mset M 99 v1 0) v1 v2)) v1 (wr32 (6 + (Int.tmod (wr32 (v2 - 1)) (fX12_personOf (mset (mset M 99 v1 0) 99 v1 (fX12_opensBy (mset M 99 v1 0) v1 v2)) v1 5))))))]) (st := []) (d2 := 2) (nc2 := 0) (ns2 := 0) (pc' := 74) dX12_moves_71 rfl mtX12_stepped mvX12_stepped mlX12_364 cl12 rfl rfl rfl (Nat.le_of_ble_eq_true rfl) (by decide) ⟨by decide, by decide⟩ rfl (pX12_stepped (E := E) (h := h) (M := (mset (mset M 99 v1 0) 99 v1 (fX12_opensBy (mset M 99 v1 0) v1 v2))) (v1 := (fX12_whereIn M v1 (wr32 (v2 - 1)))) (v2 := (fX12_personOf (mset (mset M 99 v1 0) 99 v1 (fX12_opensBy (mset M 99 v1 0) v1 v2)) v1 (wr32 (6 + (Int.tmod (wr32 (v2 - 1)) (fX12_personOf (mset (mset M 99 v1 0) 99 v1 (fX12_opensBy (mset M 99 v1 0) v1 v2)) v1 5)))))) (o17 c4 c18) (G_arr (x := 99) (i := v1) (y := (fX12_opensBy (mset M 99 v1 0) v1 v2)) rfl (by decide) (G_arr (x := 99) (i := v1) (y := 0) rfl (by decide) hG))) (kF (st2 := [(0, (fX12_stepped (mset (mset M 99 v1 0) 99 v1 (fX12_opensBy (mset M 99 v1 0) v1 v2)) (fX12_whereIn M v1 (wr32 (v2 - 1))) (fX12_personOf (mset (mset M 99 v1 0) 99 v1 (fX12_opensBy (mset M 99 v1 0) v1 v2)) v1 (wr32 (6 + (Int.tmod (wr32 (v2 - 1)) (fX12_personOf (mset (mset M 99 v1 0) 99 v1 (fX12_opensBy (mset M 99 v1 0) v1 v2)) v1 5)))))))]) rfl (fun hG21 => ?_))
      refine T_istore (i := 4) (L' := [(2, 66), (0, v1), (0, v2), (0, (fX12_whereIn M v1 (wr32 (v2 - 1)))), (0, (fX12_stepped (mset (mset M 99 v1 0) 99 v1 (fX12_opensBy (mset M 99 v1 0) v1 v2)) (fX12_whereIn M v1 (wr32 (v2 - 1))) (fX12_personOf (mset (mset M 99 v1 0) 99 v1 (fX12_opensBy (mset M 99 v1 0) v1 v2)) v1 (wr32 (6 + (Int.tmod (wr32 (v2 - 1)) (fX12_personOf (mset (mset M 99 v1 0) 99 v1 (fX12_opensBy (mset M 99 v1 0) v1 v2)) v1 5))))))), (3, 0)]) (pc' := 76) dX12_moves_74 (by decide) rfl rfl ?_
      refine T_goto (pc' := 153) dX12_moves_76 (by decide) ?_
      exact T_wk (L' := [(2, 66), (0, v1), (0, v2), (3, 0), (0, (fX12_stepped (mset (mset M 99 v1 0) 99 v1 (fX12_opensBy (mset M 99 v1 0) v1 v2)) (fX12_whereIn M v1 (wr32 (v2 - 1))) (fX12_personOf (mset (mset M 99 v1 0) 99 v1 (fX12_opensBy (mset M 99 v1 0) v1 v2)) v1 (wr32 (6 + (Int.tmod (wr32 (v2 - 1)) (fX12_personOf (mset (mset M 99 v1 0) 99 v1 (fX12_opensBy (mset M 99 v1 0) v1 v2)) v1 5))))))), (3, 0)]) (by have q := HJ3; try simp only [if_neg c4] at q; try simp only [if_pos c18] at q; exact q) ⟨Or.inr rfl, Or.inr rfl, Or.inr rfl, Or.inl rfl, Or.inr rfl, Or.inl rfl, trivial⟩
theorem frX12_moves {M : Mem} {v1 : Int} {v2 : Int} {q : Int} (hq0 : q ≠ 99) (hq1 : q ≠ 98) (hq2 : q ≠ 95) : (fmX12_moves M v1 v2) q = M q := by
  unfold fmX12_moves
  exact ((mset_p hq2).trans (ite_q (ite_q (ite_q (ite_q ((mset_p hq0).trans rfl) (ite_q ((mset_p hq1).trans ((mset_p hq0).trans rfl)) ((mset_p hq0).trans rfl))) ((mset_p hq0).trans rfl)) ((mset_p hq0).trans rfl)) ((mset_p hq0).trans ((mset_p hq0).trans rfl))))
def lX12_waitingNear_5  : Nat → Int → Int → Int → Int → Mem → Int
  | 0, v1, v2, v3, v4, M => v3
  | k + 1, v1, v2, v3, v4, M => (lX12_waitingNear_5 k v1 v2 (if (fX12_isComing M v4) = 0 then v3 else (if (fX12_isWaiting M v4 v2) = 0 then v3 else (if (M 89 (wr32 ((wr32 (12 + (wr32 (3 * v1)))) + 1))) < (fX12_apart M (M 89 (wr32 (12 + (wr32 (3 * v1))))) (fX12_whereIn M v4 v2)) then v3 else (wr32 (v3 + 1))))) (v4 + 1) M)
def nlX12_waitingNear_5  : Nat → Int → Int → Int → Int → Mem → Prop
  | 0, v1, v2, v3, v4, M => True
  | k + 1, v1, v2, v3, v4, M => (¬ ((fX12_isComing M v4) = 0) → (nX12_isWaiting M v4)) ∧ (¬ ((fX12_isComing M v4) = 0) → ¬ ((fX12_isWaiting M v4 v2) = 0) → 0 ≤ (wr32 (12 + (wr32 (3 * v1)))) ∧ (wr32 (12 + (wr32 (3 * v1)))) < 24) ∧ (¬ ((fX12_isComing M v4) = 0) → ¬ ((fX12_isWaiting M v4 v2) = 0) → (nX12_whereIn v4 v2)) ∧ (¬ ((fX12_isComing M v4) = 0) → ¬ ((fX12_isWaiting M v4 v2) = 0) → (nX12_apart M)) ∧ (¬ ((fX12_isComing M v4) = 0) → ¬ ((fX12_isWaiting M v4 v2) = 0) → 0 ≤ (wr32 ((wr32 (12 + (wr32 (3 * v1)))) + 1)) ∧ (wr32 ((wr32 (12 + (wr32 (3 * v1)))) + 1)) < 24) ∧ ((nlX12_waitingNear_5 k v1 v2 (if (fX12_isComing M v4) = 0 then v3 else (if (fX12_isWaiting M v4 v2) = 0 then v3 else (if (M 89 (wr32 ((wr32 (12 + (wr32 (3 * v1)))) + 1))) < (fX12_apart M (M 89 (wr32 (12 + (wr32 (3 * v1))))) (fX12_whereIn M v4 v2)) then v3 else (wr32 (v3 + 1))))) (v4 + 1) M))
set_option maxRecDepth 100000 in
set_option maxHeartbeats 2000000 in
theorem qX12_waitingNear_5 {E : EV} {h : Int} {Q : Option MV → Mem → Prop}   : ∀ (k : Nat) (v1 v2 v3 v4 : Int) (M : Mem), 0 ≤ v4 → (((fX12_peopleMany M)) - v4).toNat = k → (nlX12_waitingNear_5 k v1 v2 v3 v4 M) → Q (some (0, (lX12_waitingNear_5 k v1 v2 v3 v4 M))) M → G h M → TG E miX12_waitingNear 4 h Q 5 [(2, 66), (0, v1), (0, v2), (0, v3), (0, v4)] [] M := by
  intro k
  induction k with
  | zero =>
    intro v1 v2 v3 v4 M hv0 hk hs hQ hG
    have hQ : Q (some (0, v3)) M := hQ
    have hs : True := hs
    refine T_iload (i := 4) (pc' := 7) dX12_waitingNear_5 rfl rfl ?_
    refine T_aload_n (i := 0) (pc' := 8) dX12_waitingNear_7 rfl rfl rfl ?_
    refine T_callV (av := []) (st := [(0, v4)]) (d2 := 1) (nc2 := 0) (ns2 := 0) (pc' := 11) dX12_waitingNear_8 rfl mtX12_peopleMany mvX12_peopleMany mlX12_349 cl12 rfl rfl rfl (Nat.le_of_ble_eq_true rfl) (by decide) ⟨by decide, by decide⟩ rfl (pX12_peopleMany (E := E) (h := h) (M := M) hG) (kF (st2 := [(0, (fX12_peopleMany M)), (0, v4)]) rfl (fun hG1 => ?_))
    refine T_rng (fun _ z9 _ => ?_)
    have hB : r32 (fX12_peopleMany M) := (ok_cons.mp z9).1
    unfold r32 at hB
    refine T_icmp_ge (pc' := 80) dX12_waitingNear_11 (by decide) (pf := 14) rfl (fun c2 => ?_) (fun c2 => ?_)
    · skip
      refine T_iload_n (i := 3) (pc' := 81) dX12_waitingNear_80 rfl rfl rfl ?_
      exact T_iret dX12_waitingNear_81 rfl ⟨rfl, hG, hQ⟩
    · exact absurd c2 (by omega)
  | succ k ih =>
    intro v1 v2 v3 v4 M hv0 hk hs hQ hG
    have hQ : Q (some (0, (lX12_waitingNear_5 k v1 v2 (if (fX12_isComing M v4) = 0 then v3 else (if (fX12_isWaiting M v4 v2) = 0 then v3 else (if (M 89 (wr32 ((wr32 (12 + (wr32 (3 * v1)))) + 1))) < (fX12_apart M (M 89 (wr32 (12 + (wr32 (3 * v1))))) (fX12_whereIn M v4 v2)) then v3 else (wr32 (v3 + 1))))) (v4 + 1) M))) M := hQ
    have hs : (¬ ((fX12_isComing M v4) = 0) → (nX12_isWaiting M v4)) ∧ (¬ ((fX12_isComing M v4) = 0) → ¬ ((fX12_isWaiting M v4 v2) = 0) → 0 ≤ (wr32 (12 + (wr32 (3 * v1)))) ∧ (wr32 (12 + (wr32 (3 * v1)))) < 24) ∧ (¬ ((fX12_isComing M v4) = 0) → ¬ ((fX12_isWaiting M v4 v2) = 0) → (nX12_whereIn v4 v2)) ∧ (¬ ((fX12_isComing M v4) = 0) → ¬ ((fX12_isWaiting M v4 v2) = 0) → (nX12_apart M)) ∧ (¬ ((fX12_isComing M v4) = 0) → ¬ ((fX12_isWaiting M v4 v2) = 0) → 0 ≤ (wr32 ((wr32 (12 + (wr32 (3 * v1)))) + 1)) ∧ (wr32 ((wr32 (12 + (wr32 (3 * v1)))) + 1)) < 24) ∧ ((nlX12_waitingNear_5 k v1 v2 (if (fX12_isComing M v4) = 0 then v3 else (if (fX12_isWaiting M v4 v2) = 0 then v3 else (if (M 89 (wr32 ((wr32 (12 + (wr32 (3 * v1)))) + 1))) < (fX12_apart M (M 89 (wr32 (12 + (wr32 (3 * v1))))) (fX12_whereIn M v4 v2)) then v3 else (wr32 (v3 + 1))))) (v4 + 1) M)) := hs
    obtain ⟨n1, n2, n3, n4, n5, n6⟩ := hs
    refine T_iload (i := 4) (pc' := 7) dX12_waitingNear_5 rfl rfl ?_
    refine T_aload_n (i := 0) (pc' := 8) dX12_waitingNear_7 rfl rfl rfl ?_
    refine T_callV (av := []) (st := [(0, v4)]) (d2 := 1) (nc2 := 0) (ns2 := 0) (pc' := 11) dX12_waitingNear_8 rfl mtX12_peopleMany mvX12_peopleMany mlX12_349 cl12 rfl rfl rfl (Nat.le_of_ble_eq_true rfl) (by decide) ⟨by decide, by decide⟩ rfl (pX12_peopleMany (E := E) (h := h) (M := M) hG) (kF (st2 := [(0, (fX12_peopleMany M)), (0, v4)]) rfl (fun hG1 => ?_))
    refine T_rng (fun _ z9 _ => ?_)
    have hB : r32 (fX12_peopleMany M) := (ok_cons.mp z9).1
    unfold r32 at hB
    refine T_icmp_ge (pc' := 80) dX12_waitingNear_11 (by decide) (pf := 14) rfl (fun c2 => ?_) (fun c2 => ?_)
    · exact absurd c2 (by omega)
    · skip
      have hw : wr32 (v4 + 1) = v4 + 1 := wr32_id (by unfold r32; omega)
      refine T_aload_n (i := 0) (pc' := 15) dX12_waitingNear_14 rfl rfl rfl ?_
      refine T_iload (i := 4) (pc' := 17) dX12_waitingNear_15 rfl rfl ?_
      refine T_callV (av := [(0, v4)]) (st := []) (d2 := 3) (nc2 := 0) (ns2 := 0) (pc' := 20) dX12_waitingNear_17 rfl mtX12_isComing mvX12_isComing mlX12_376 cl12 rfl rfl rfl (Nat.le_of_ble_eq_true rfl) (by decide) ⟨by decide, by decide⟩ rfl (pX12_isComing (E := E) (h := h) (M := M) (v1 := v4) hG) (kF (st2 := [(0, (fX12_isComing M v4))]) rfl (fun hG3 => ?_))
      have HJ4 : T E miX12_waitingNear 4 126 0 0 (fun r S M' => S = S0 ∧ G h M' ∧ Q r M') 74 [(2, 66), (0, v1), (0, v2), (0, (if (fX12_isComing M v4) = 0 then v3 else (if (fX12_isWaiting M v4 v2) = 0 then v3 else (if (M 89 (wr32 ((wr32 (12 + (wr32 (3 * v1)))) + 1))) < (fX12_apart M (M 89 (wr32 (12 + (wr32 (3 * v1))))) (fX12_whereIn M v4 v2)) then v3 else (wr32 (v3 + 1)))))), (0, v4)] [] S0 M 0 0 := by
        refine T_iinc (L' := [(2, 66), (0, v1), (0, v2), (0, (if (fX12_isComing M v4) = 0 then v3 else (if (fX12_isWaiting M v4 v2) = 0 then v3 else (if (M 89 (wr32 ((wr32 (12 + (wr32 (3 * v1)))) + 1))) < (fX12_apart M (M 89 (wr32 (12 + (wr32 (3 * v1))))) (fX12_whereIn M v4 v2)) then v3 else (wr32 (v3 + 1)))))), (0, (wr32 (v4 + 1)))]) (pc' := 77) dX12_waitingNear_74 rfl (by decide) rfl rfl ?_
        refine T_goto (pc' := 5) dX12_waitingNear_77 (by decide) ?_
        rw [hw]
        exact T_wk (ih _ _ _ (v4 + 1) _ (by omega) (by omega) (n6) hQ hG) ⟨Or.inr rfl, Or.inr rfl, Or.inr rfl, Or.inr rfl, Or.inr rfl, trivial⟩
      refine T_if_eq (pc' := 74) dX12_waitingNear_20 (by decide) (pf := 23) rfl (fun c5 => ?_) (fun c5 => ?_)
      · skip
        exact T_wk (L' := [(2, 66), (0, v1), (0, v2), (0, v3), (0, v4)]) (by have q := HJ4; try simp only [if_pos c5] at q; exact q) ⟨Or.inr rfl, Or.inr rfl, Or.inr rfl, Or.inr rfl, Or.inr rfl, trivial⟩
      · skip
        refine T_aload_n (i := 0) (pc' := 24) dX12_waitingNear_23 rfl rfl rfl ?_
        refine T_iload (i := 4) (pc' := 26) dX12_waitingNear_24 rfl rfl ?_
        refine T_iload_n (i := 2) (pc' := 27) dX12_waitingNear_26 rfl rfl rfl ?_
        refine T_callV (av := [(0, v4), (0, v2)]) (st := []) (d2 := 1) (nc2 := 0) (ns2 := 0) (pc' := 30) dX12_waitingNear_27 rfl mtX12_isWaiting mvX12_isWaiting mlX12_389 cl12 rfl rfl rfl (Nat.le_of_ble_eq_true rfl) (by decide) ⟨by decide, by decide⟩ rfl (pX12_isWaiting (E := E) (h := h) (M := M) (v1 := v4) (v2 := v2) (n1 c5) hG) (kF (st2 := [(0, (fX12_isWaiting M v4 v2))]) rfl (fun hG6 => ?_))
        refine T_if_eq (pc' := 74) dX12_waitingNear_30 (by decide) (pf := 33) rfl (fun c7 => ?_) (fun c7 => ?_)
        · skip
          exact T_wk (L' := [(2, 66), (0, v1), (0, v2), (0, v3), (0, v4)]) (by have q := HJ4; try simp only [if_neg c5] at q; try simp only [if_pos c7] at q; exact q) ⟨Or.inr rfl, Or.inr rfl, Or.inr rfl, Or.inr rfl, Or.inr rfl, trivial⟩
        · skip
          refine T_aload_n (i := 0) (pc' := 34) dX12_waitingNear_33 rfl rfl rfl ?_
          refine T_aload_n (i := 0) (pc' := 35) dX12_waitingNear_34 rfl rfl rfl ?_
          refine U_gr (q := 89) (k := 32) (kI := 32) (pc' := 38) dX12_waitingNear_35 rfl cl12 (by decide) rfl (by decide) flX12_83 rfl rfl rfl (G_at hG 89 rfl) (by decide) rfl ?_
          refine T_bipush (pc' := 40) dX12_waitingNear_38 rfl (by decide) rfl ?_
          refine T_iconst (pc' := 41) dX12_waitingNear_40 (by decide) rfl ?_
          refine T_iload_n (i := 1) (pc' := 42) dX12_waitingNear_41 rfl rfl rfl ?_
          refine T_imul (pc' := 43) dX12_waitingNear_42 rfl ?_
          refine T_iadd (pc' := 44) dX12_waitingNear_43 rfl ?_
          refine T_iald (pc' := 45) dX12_waitingNear_44 (by decide) rfl (n2 c5 c7).1 (n2 c5 c7).2 rfl ?_
          refine T_aload_n (i := 0) (pc' := 46) dX12_waitingNear_45 rfl rfl rfl ?_
          refine T_iload (i := 4) (pc' := 48) dX12_waitingNear_46 rfl rfl ?_
          refine T_iload_n (i := 2) (pc' := 49) dX12_waitingNear_48 rfl rfl rfl ?_
          refine T_callV (av := [(0, v4), (0, v2)]) (st := [(0, (M 89 (wr32 (12 + (wr32 (3 * v1)))))), (2, 66)]) (d2 := 1) (nc2 := 0) (ns2 := 0) (pc' := 52) dX12_waitingNear_49 rfl mtX12_whereIn mvX12_whereIn mlX12_383 cl12 rfl rfl rfl (Nat.le_of_ble_eq_true rfl) (by decide) ⟨by decide, by decide⟩ rfl (pX12_whereIn (E := E) (h := h) (M := M) (v1 := v4) (v2 := v2) (n3 c5 c7) hG) (kF (st2 := [(0, (fX12_whereIn M v4 v2)), (0, (M 89 (wr32 (12 + (wr32 (3 * v1)))))), (2, 66)]) rfl (fun hG8 => ?_))
          refine T_callV (av := [(0, (M 89 (wr32 (12 + (wr32 (3 * v1)))))), (0, (fX12_whereIn M v4 v2))]) (st := []) (d2 := 2) (nc2 := 0) (ns2 := 0) (pc' := 55) dX12_waitingNear_52 rfl mtX12_apart mvX12_apart mlX12_386 cl12 rfl rfl rfl (Nat.le_of_ble_eq_true rfl) (by decide) ⟨by decide, by decide⟩ rfl (pX12_apart (E := E) (h := h) (M := M) (v1 := (M 89 (wr32 (12 + (wr32 (3 * v1)))))) (v2 := (fX12_whereIn M v4 v2)) (n4 c5 c7) hG) (kF (st2 := [(0, (fX12_apart M (M 89 (wr32 (12 + (wr32 (3 * v1))))) (fX12_whereIn M v4 v2)))]) rfl (fun hG9 => ?_))
          refine T_aload_n (i := 0) (pc' := 56) dX12_waitingNear_55 rfl rfl rfl ?_
          refine U_gr (q := 89) (k := 32) (kI := 32) (pc' := 59) dX12_waitingNear_56 rfl cl12 (by decide) rfl (by decide) flX12_83 rfl rfl rfl (G_at hG 89 rfl) (by decide) rfl ?_
          refine T_bipush (pc' := 61) dX12_waitingNear_59 rfl (by decide) rfl ?_
          refine T_iconst (pc' := 62) dX12_waitingNear_61 (by decide) rfl ?_
          refine T_iload_n (i := 1) (pc' := 63) dX12_waitingNear_62 rfl rfl rfl ?_
          refine T_imul (pc' := 64) dX12_waitingNear_63 rfl ?_
          refine T_iadd (pc' := 65) dX12_waitingNear_64 rfl ?_
          refine T_iconst (pc' := 66) dX12_waitingNear_65 (by decide) rfl ?_
          refine T_iadd (pc' := 67) dX12_waitingNear_66 rfl ?_
          refine T_iald (pc' := 68) dX12_waitingNear_67 (by decide) rfl (n5 c5 c7).1 (n5 c5 c7).2 rfl ?_
          refine T_icmp_gt (pc' := 74) dX12_waitingNear_68 (by decide) (pf := 71) rfl (fun c10 => ?_) (fun c10 => ?_)
          · skip
            exact T_wk (L' := [(2, 66), (0, v1), (0, v2), (0, v3), (0, v4)]) (by have q := HJ4; try simp only [if_neg c5] at q; try simp only [if_neg c7] at q; try simp only [if_pos c10] at q; exact q) ⟨Or.inr rfl, Or.inr rfl, Or.inr rfl, Or.inr rfl, Or.inr rfl, trivial⟩
          · skip
            refine T_iinc (L' := [(2, 66), (0, v1), (0, v2), (0, (wr32 (v3 + 1))), (0, v4)]) (pc' := 74) dX12_waitingNear_71 rfl (by decide) rfl rfl ?_
            exact T_wk (L' := [(2, 66), (0, v1), (0, v2), (0, (wr32 (v3 + 1))), (0, v4)]) (by have q := HJ4; try simp only [if_neg c5] at q; try simp only [if_neg c7] at q; try simp only [if_neg c10] at q; exact q) ⟨Or.inr rfl, Or.inr rfl, Or.inr rfl, Or.inr rfl, Or.inr rfl, trivial⟩
def fX12_waitingNear (M : Mem) (v1 : Int) (v2 : Int) : Int :=
  (lX12_waitingNear_5 ((((fX12_peopleMany M)) : Int) - 0).toNat v1 v2 0 0 M)
def nX12_waitingNear (M : Mem) (v1 : Int) (v2 : Int) : Prop :=
  ((nlX12_waitingNear_5 ((((fX12_peopleMany M)) : Int) - 0).toNat v1 v2 0 0 M))
set_option maxRecDepth 100000 in
theorem pX12_waitingNear {E : EV} {h : Int} {M : Mem} {v1 : Int} {v2 : Int} (hs : (nX12_waitingNear M v1 v2)) : C2 E miX12_waitingNear 4 h [(2, 66), (0, v1), (0, v2)] M (fun r M' => r = some (0, (fX12_waitingNear M v1 v2)) ∧ M' = M) := by
  obtain ⟨Q, hQ0⟩ : ∃ Q : Option MV → Mem → Prop, Q = (fun r M' => r = some (0, (fX12_waitingNear M v1 v2)) ∧ M' = M) := ⟨_, rfl⟩
  rw [← hQ0]
  have hQ : Q (some (0, (lX12_waitingNear_5 ((((fX12_peopleMany M)) : Int) - 0).toNat v1 v2 0 0 M))) M := by rw [hQ0]; exact ⟨rfl, rfl⟩
  have o1 := hs
  refine C2_of (L := [(2, 66), (0, v1), (0, v2), (3, 0), (3, 0)]) (by decide +kernel) (Nat.le_of_ble_eq_true rfl) rfl (fun hG => ?_)
  refine T_iconst (pc' := 1) dX12_waitingNear_0 (by decide) rfl ?_
  refine T_istore_n (i := 3) (L' := [(2, 66), (0, v1), (0, v2), (0, 0), (3, 0)]) (pc' := 2) dX12_waitingNear_1 rfl (by decide) rfl rfl ?_
  refine T_iconst (pc' := 3) dX12_waitingNear_2 (by decide) rfl ?_
  refine T_istore (i := 4) (L' := [(2, 66), (0, v1), (0, v2), (0, 0), (0, 0)]) (pc' := 5) dX12_waitingNear_3 (by decide) rfl rfl ?_
  exact T_wk (qX12_waitingNear_5  _ v1 v2 0 0 _ (by first | decide | omega) rfl (o1) hQ hG) ⟨Or.inr rfl, Or.inr rfl, Or.inr rfl, Or.inr rfl, Or.inr rfl, trivial⟩
def lmX12_looksUp_2  : Nat → Int → Int → Mem → Mem
  | 0, v1, v2, M => M
  | k + 1, v1, v2, M => (if (M 66 51) = (-1) then (if (M 66 50) = 0 then (lmX12_looksUp_2 k v1 (v2 + 1) (if (M 89 (wr32 ((wr32 (12 + (wr32 (3 * v2)))) + 2))) ≤ (fX12_waitingNear M v2 v1) then (mset (mset M 66 51 v1) 66 52 v2) else M)) else M) else M)
theorem frlX12_looksUp_2  {q : Int} (hq0 : q ≠ 66) : ∀ {k : Nat} {v1 v2 : Int} {M : Mem}, (lmX12_looksUp_2  k v1 v2 M) q = M q := by
  intro k
  induction k with
  | zero =>
    intro v1 v2 M
    show M q = M q
    exact rfl
  | succ k ih =>
    intro v1 v2 M
    show (if (M 66 51) = (-1) then (if (M 66 50) = 0 then (lmX12_looksUp_2 k v1 (v2 + 1) (if (M 89 (wr32 ((wr32 (12 + (wr32 (3 * v2)))) + 2))) ≤ (fX12_waitingNear M v2 v1) then (mset (mset M 66 51 v1) 66 52 v2) else M)) else M) else M) q = M q
    exact (ite_q (ite_q ((ih).trans (ite_q ((mset_p hq0).trans ((mset_p hq0).trans rfl)) rfl)) rfl) rfl)
theorem glX12_looksUp_2 {h : Int}   : ∀ {k : Nat} {v1 v2 : Int} {M : Mem}, G h M → G h (lmX12_looksUp_2  k v1 v2 M) := by
  intro k
  induction k with
  | zero =>
    intro v1 v2 M hG
    show G h M
    exact hG
  | succ k ih =>
    intro v1 v2 M hG
    show G h (if (M 66 51) = (-1) then (if (M 66 50) = 0 then (lmX12_looksUp_2 k v1 (v2 + 1) (if (M 89 (wr32 ((wr32 (12 + (wr32 (3 * v2)))) + 2))) ≤ (fX12_waitingNear M v2 v1) then (mset (mset M 66 51 v1) 66 52 v2) else M)) else M) else M)
    exact (G_ite (G_ite (ih (G_ite (G_fld (x := 66) (i := 52) (y := v2) rfl (by decide) (by decide) (by decide) (G_fld (x := 66) (i := 51) (y := v1) rfl (by decide) (by decide) (by decide) hG)) hG)) hG) hG)
def nlX12_looksUp_2  : Nat → Int → Int → Mem → Prop
  | 0, v1, v2, M => True
  | k + 1, v1, v2, M => ((M 66 51) = (-1) → (M 66 50) = 0 → (nX12_waitingNear M v2 v1)) ∧ ((M 66 51) = (-1) → (M 66 50) = 0 → 0 ≤ (wr32 ((wr32 (12 + (wr32 (3 * v2)))) + 2)) ∧ (wr32 ((wr32 (12 + (wr32 (3 * v2)))) + 2)) < 24) ∧ ((M 66 51) = (-1) → (M 66 50) = 0 → (nlX12_looksUp_2 k v1 (v2 + 1) (if (M 89 (wr32 ((wr32 (12 + (wr32 (3 * v2)))) + 2))) ≤ (fX12_waitingNear M v2 v1) then (mset (mset M 66 51 v1) 66 52 v2) else M)))
set_option maxRecDepth 100000 in
set_option maxHeartbeats 2000000 in
theorem qX12_looksUp_2 {E : EV} {h : Int} {Q : Option MV → Mem → Prop}   : ∀ (k : Nat) (v1 v2 : Int) (M : Mem), 0 ≤ v2 → (((fX12_guardMany M)) - v2).toNat = k → (nlX12_looksUp_2 k v1 v2 M) → Q none (lmX12_looksUp_2 k v1 v2 M) → G h M → TG E miX12_looksUp 5 h Q 2 [(2, 66), (0, v1), (0, v2)] [] M := by
  intro k
  induction k with
  | zero =>
    intro v1 v2 M hv0 hk hs hQ hG
    have hQ : Q none M := hQ
    have hs : True := hs
    refine T_iload_n (i := 2) (pc' := 3) dX12_looksUp_2 rfl rfl rfl ?_
    refine T_aload_n (i := 0) (pc' := 4) dX12_looksUp_3 rfl rfl rfl ?_
    refine T_callV (av := []) (st := [(0, v2)]) (d2 := 1) (nc2 := 0) (ns2 := 0) (pc' := 7) dX12_looksUp_4 rfl mtX12_guardMany mvX12_guardMany mlX12_404 cl12 rfl rfl rfl (Nat.le_of_ble_eq_true rfl) (by decide) ⟨by decide, by decide⟩ rfl (pX12_guardMany (E := E) (h := h) (M := M) hG) (kF (st2 := [(0, (fX12_guardMany M)), (0, v2)]) rfl (fun hG1 => ?_))
    refine T_rng (fun _ z9 _ => ?_)
    have hB : r32 (fX12_guardMany M) := (ok_cons.mp z9).1
    unfold r32 at hB
    refine T_icmp_ge (pc' := 66) dX12_looksUp_7 (by decide) (pf := 10) rfl (fun c2 => ?_) (fun c2 => ?_)
    · skip
      exact T_vret dX12_looksUp_66 rfl ⟨rfl, hG, hQ⟩
    · exact absurd c2 (by omega)
  | succ k ih =>
    intro v1 v2 M hv0 hk hs hQ hG
    have hQ : Q none (if (M 66 51) = (-1) then (if (M 66 50) = 0 then (lmX12_looksUp_2 k v1 (v2 + 1) (if (M 89 (wr32 ((wr32 (12 + (wr32 (3 * v2)))) + 2))) ≤ (fX12_waitingNear M v2 v1) then (mset (mset M 66 51 v1) 66 52 v2) else M)) else M) else M) := hQ
    have hs : ((M 66 51) = (-1) → (M 66 50) = 0 → (nX12_waitingNear M v2 v1)) ∧ ((M 66 51) = (-1) → (M 66 50) = 0 → 0 ≤ (wr32 ((wr32 (12 + (wr32 (3 * v2)))) + 2)) ∧ (wr32 ((wr32 (12 + (wr32 (3 * v2)))) + 2)) < 24) ∧ ((M 66 51) = (-1) → (M 66 50) = 0 → (nlX12_looksUp_2 k v1 (v2 + 1) (if (M 89 (wr32 ((wr32 (12 + (wr32 (3 * v2)))) + 2))) ≤ (fX12_waitingNear M v2 v1) then (mset (mset M 66 51 v1) 66 52 v2) else M))) := hs
    obtain ⟨n1, n2, n3⟩ := hs
    refine T_iload_n (i := 2) (pc' := 3) dX12_looksUp_2 rfl rfl rfl ?_
    refine T_aload_n (i := 0) (pc' := 4) dX12_looksUp_3 rfl rfl rfl ?_
    refine T_callV (av := []) (st := [(0, v2)]) (d2 := 1) (nc2 := 0) (ns2 := 0) (pc' := 7) dX12_looksUp_4 rfl mtX12_guardMany mvX12_guardMany mlX12_404 cl12 rfl rfl rfl (Nat.le_of_ble_eq_true rfl) (by decide) ⟨by decide, by decide⟩ rfl (pX12_guardMany (E := E) (h := h) (M := M) hG) (kF (st2 := [(0, (fX12_guardMany M)), (0, v2)]) rfl (fun hG1 => ?_))
    refine T_rng (fun _ z9 _ => ?_)
    have hB : r32 (fX12_guardMany M) := (ok_cons.mp z9).1
    unfold r32 at hB
    refine T_icmp_ge (pc' := 66) dX12_looksUp_7 (by decide) (pf := 10) rfl (fun c2 => ?_) (fun c2 => ?_)
    · exact absurd c2 (by omega)
    · skip
      have hw : wr32 (v2 + 1) = v2 + 1 := wr32_id (by unfold r32; omega)
      refine T_aload_n (i := 0) (pc' := 11) dX12_looksUp_10 rfl rfl rfl ?_
      refine U_gf (v := (0, (M 66 51))) (k := 51) (kI := 51) (pc' := 14) dX12_looksUp_11 rfl cl12 (by decide) rfl (by decide) flX12_370 rfl rfl (by decide) rfl rfl ?_
      refine T_iconst (pc' := 15) dX12_looksUp_14 (by decide) rfl ?_
      refine T_icmp_ne (pc' := 66) dX12_looksUp_15 (by decide) (pf := 18) rfl (fun c3 => ?_) (fun c3 => ?_)
      · skip
        exact T_vret dX12_looksUp_66 rfl ⟨rfl, hG, (by have q := hQ; try simp only [if_neg c3] at q; exact q)⟩
      · skip
        refine T_aload_n (i := 0) (pc' := 19) dX12_looksUp_18 rfl rfl rfl ?_
        refine U_gf (v := (0, (M 66 50))) (k := 50) (kI := 50) (pc' := 22) dX12_looksUp_19 rfl cl12 (by decide) rfl (by decide) flX12_407 rfl rfl (by decide) rfl rfl ?_
        refine T_if_ne (pc' := 66) dX12_looksUp_22 (by decide) (pf := 25) rfl (fun c4 => ?_) (fun c4 => ?_)
        · skip
          exact T_vret dX12_looksUp_66 rfl ⟨rfl, hG, (by have q := hQ; try simp only [if_pos c3] at q; try simp only [if_neg c4] at q; exact q)⟩
        · skip
          refine T_aload_n (i := 0) (pc' := 26) dX12_looksUp_25 rfl rfl rfl ?_
          refine T_iload_n (i := 2) (pc' := 27) dX12_looksUp_26 rfl rfl rfl ?_
          refine T_iload_n (i := 1) (pc' := 28) dX12_looksUp_27 rfl rfl rfl ?_
          refine T_callV (av := [(0, v2), (0, v1)]) (st := []) (d2 := 4) (nc2 := 0) (ns2 := 0) (pc' := 31) dX12_looksUp_28 rfl mtX12_waitingNear mvX12_waitingNear mlX12_411 cl12 rfl rfl rfl (Nat.le_of_ble_eq_true rfl) (by decide) ⟨by decide, by decide⟩ rfl (pX12_waitingNear (E := E) (h := h) (M := M) (v1 := v2) (v2 := v1) (n1 c3 c4) hG) (kF (st2 := [(0, (fX12_waitingNear M v2 v1))]) rfl (fun hG5 => ?_))
          refine T_aload_n (i := 0) (pc' := 32) dX12_looksUp_31 rfl rfl rfl ?_
          refine U_gr (q := 89) (k := 32) (kI := 32) (pc' := 35) dX12_looksUp_32 rfl cl12 (by decide) rfl (by decide) flX12_83 rfl rfl rfl (G_at hG 89 rfl) (by decide) rfl ?_
          refine T_bipush (pc' := 37) dX12_looksUp_35 rfl (by decide) rfl ?_
          refine T_iconst (pc' := 38) dX12_looksUp_37 (by decide) rfl ?_
          refine T_iload_n (i := 2) (pc' := 39) dX12_looksUp_38 rfl rfl rfl ?_
          refine T_imul (pc' := 40) dX12_looksUp_39 rfl ?_
          refine T_iadd (pc' := 41) dX12_looksUp_40 rfl ?_
          refine T_iconst (pc' := 42) dX12_looksUp_41 (by decide) rfl ?_
          refine T_iadd (pc' := 43) dX12_looksUp_42 rfl ?_
          refine T_iald (pc' := 44) dX12_looksUp_43 (by decide) rfl (n2 c3 c4).1 (n2 c3 c4).2 rfl ?_
          have HJ6 : T E miX12_looksUp 5 126 0 0 (fun r S M' => S = S0 ∧ G h M' ∧ Q r M') 60 [(2, 66), (0, v1), (0, v2)] [] S0 (if (M 89 (wr32 ((wr32 (12 + (wr32 (3 * v2)))) + 2))) ≤ (fX12_waitingNear M v2 v1) then (mset (mset M 66 51 v1) 66 52 v2) else M) 0 0 := by
            refine T_iinc (L' := [(2, 66), (0, v1), (0, (wr32 (v2 + 1)))]) (pc' := 63) dX12_looksUp_60 rfl (by decide) rfl rfl ?_
            refine T_goto (pc' := 2) dX12_looksUp_63 (by decide) ?_
            rw [hw]
            have hp0 : (if (M 89 (wr32 ((wr32 (12 + (wr32 (3 * v2)))) + 2))) ≤ (fX12_waitingNear M v2 v1) then (mset (mset M 66 51 v1) 66 52 v2) else M) 85 = M 85 := by
              exact (ite_q ((mset_p (by first | decide | (unfold isG at *; omega) | exact rowne (by unfold isG at *; omega) (by unfold isG at *; omega) (by unfold isG at *; omega))).trans ((mset_p (by first | decide | (unfold isG at *; omega) | exact rowne (by unfold isG at *; omega) (by unfold isG at *; omega) (by unfold isG at *; omega))).trans rfl)) rfl)
            have hbd : (fX12_guardMany (if (M 89 (wr32 ((wr32 (12 + (wr32 (3 * v2)))) + 2))) ≤ (fX12_waitingNear M v2 v1) then (mset (mset M 66 51 v1) 66 52 v2) else M)) = (fX12_guardMany M) := by
              simp only [fX12_guardMany, hp0]
            exact T_wk (ih _ (v2 + 1) _ (by omega) (by rw [hbd]; omega) (n3 c3 c4) (by have q := hQ; try simp only [if_pos c3] at q; try simp only [if_pos c4] at q; exact q) (G_ite (G_fld (x := 66) (i := 52) (y := v2) rfl (by decide) (by decide) (by decide) (G_fld (x := 66) (i := 51) (y := v1) rfl (by decide) (by decide) (by decide) hG)) hG)) ⟨Or.inr rfl, Or.inr rfl, Or.inr rfl, trivial⟩
          refine T_icmp_ge (pc' := 50) dX12_looksUp_44 (by decide) (pf := 47) rfl (fun c7 => ?_) (fun c7 => ?_)
          · skip
            refine T_aload_n (i := 0) (pc' := 51) dX12_looksUp_50 rfl rfl rfl ?_
            refine T_iload_n (i := 1) (pc' := 52) dX12_looksUp_51 rfl rfl rfl ?_
            refine U_pf (y := v1) (k := 51) (kI := 51) (pc' := 55) dX12_looksUp_52 rfl cl12 (by decide) rfl (by decide) flX12_370 rfl rfl rfl rfl rfl (by decide) (fun z => z) rfl ?_
            refine T_aload_n (i := 0) (pc' := 56) dX12_looksUp_55 rfl rfl rfl ?_
            refine T_iload_n (i := 2) (pc' := 57) dX12_looksUp_56 rfl rfl rfl ?_
            refine U_pf (y := v2) (k := 52) (kI := 52) (pc' := 60) dX12_looksUp_57 rfl cl12 (by decide) rfl (by decide) flX12_414 rfl rfl rfl rfl rfl (by decide) (fun z => z) rfl ?_
            exact T_wk (L' := [(2, 66), (0, v1), (0, v2)]) (by have q := HJ6; try simp only [if_pos c7] at q; exact q) ⟨Or.inr rfl, Or.inr rfl, Or.inr rfl, trivial⟩
          · skip
            refine T_goto (pc' := 60) dX12_looksUp_47 (by decide) ?_
            exact T_wk (L' := [(2, 66), (0, v1), (0, v2)]) (by have q := HJ6; try simp only [if_neg c7] at q; exact q) ⟨Or.inr rfl, Or.inr rfl, Or.inr rfl, trivial⟩
def fmX12_looksUp (M : Mem) (v1 : Int) : Mem :=
  (lmX12_looksUp_2 ((((fX12_guardMany M)) : Int) - 0).toNat v1 0 M)
def nX12_looksUp (M : Mem) (v1 : Int) : Prop :=
  ((nlX12_looksUp_2 ((((fX12_guardMany M)) : Int) - 0).toNat v1 0 M))
theorem frX12_looksUp {M : Mem} {v1 : Int} {q : Int} (hq0 : q ≠ 66) : (fmX12_looksUp M v1) q = M q := by
  unfold fmX12_looksUp
  exact ((frlX12_looksUp_2 hq0).trans rfl)
theorem gX12_looksUp {h : Int} {M : Mem} {v1 : Int}  (hG : G h M) : G h (fmX12_looksUp M v1) := by
  unfold fmX12_looksUp
  exact (glX12_looksUp_2 hG)
set_option maxRecDepth 100000 in
theorem pX12_looksUp {E : EV} {h : Int} {M : Mem} {v1 : Int} (hs : (nX12_looksUp M v1)) : C2 E miX12_looksUp 5 h [(2, 66), (0, v1)] M (fun r M' => r = none ∧ M' = (fmX12_looksUp M v1)) := by
  obtain ⟨Q, hQ0⟩ : ∃ Q : Option MV → Mem → Prop, Q = (fun r M' => r = none ∧ M' = (fmX12_looksUp M v1)) := ⟨_, rfl⟩
  rw [← hQ0]
  have hQ : Q none (lmX12_looksUp_2 ((((fX12_guardMany M)) : Int) - 0).toNat v1 0 M) := by rw [hQ0]; exact ⟨rfl, rfl⟩
  have o1 := hs
  refine C2_of (L := [(2, 66), (0, v1), (3, 0)]) (by decide +kernel) (Nat.le_of_ble_eq_true rfl) rfl (fun hG => ?_)
  refine T_iconst (pc' := 1) dX12_looksUp_0 (by decide) rfl ?_
  refine T_istore_n (i := 2) (L' := [(2, 66), (0, v1), (0, 0)]) (pc' := 2) dX12_looksUp_1 rfl (by decide) rfl rfl ?_
  exact T_wk (qX12_looksUp_2  _ v1 0 _ (by first | decide | omega) rfl (o1) hQ hG) ⟨Or.inr rfl, Or.inr rfl, Or.inr rfl, trivial⟩
def lX12_openMany_4  : Nat → Int → Int → Int → Mem → Int
  | 0, v1, v2, v3, M => v2
  | k + 1, v1, v2, v3, M => (lX12_openMany_4 k v1 (if (fX12_isComing M v3) = 0 then v2 else (if (fX12_isOpen M v3 v1) = 0 then v2 else (wr32 (v2 + 1)))) (v3 + 1) M)
def nlX12_openMany_4  : Nat → Int → Int → Int → Mem → Prop
  | 0, v1, v2, v3, M => True
  | k + 1, v1, v2, v3, M => (¬ ((fX12_isComing M v3) = 0) → (nX12_isOpen M v3 v1)) ∧ ((nlX12_openMany_4 k v1 (if (fX12_isComing M v3) = 0 then v2 else (if (fX12_isOpen M v3 v1) = 0 then v2 else (wr32 (v2 + 1)))) (v3 + 1) M))
set_option maxRecDepth 100000 in
set_option maxHeartbeats 2000000 in
theorem qX12_openMany_4 {E : EV} {h : Int} {Q : Option MV → Mem → Prop}   : ∀ (k : Nat) (v1 v2 v3 : Int) (M : Mem), 0 ≤ v3 → (((fX12_peopleMany M)) - v3).toNat = k → (nlX12_openMany_4 k v1 v2 v3 M) → Q (some (0, (lX12_openMany_4 k v1 v2 v3 M))) M → G h M → TG E miX12_openMany 4 h Q 4 [(2, 66), (0, v1), (0, v2), (0, v3)] [] M := by
  intro k
  induction k with
  | zero =>
    intro v1 v2 v3 M hv0 hk hs hQ hG
    have hQ : Q (some (0, v2)) M := hQ
    have hs : True := hs
    refine T_iload_n (i := 3) (pc' := 5) dX12_openMany_4 rfl rfl rfl ?_
    refine T_aload_n (i := 0) (pc' := 6) dX12_openMany_5 rfl rfl rfl ?_
    refine T_callV (av := []) (st := [(0, v3)]) (d2 := 1) (nc2 := 0) (ns2 := 0) (pc' := 9) dX12_openMany_6 rfl mtX12_peopleMany mvX12_peopleMany mlX12_349 cl12 rfl rfl rfl (Nat.le_of_ble_eq_true rfl) (by decide) ⟨by decide, by decide⟩ rfl (pX12_peopleMany (E := E) (h := h) (M := M) hG) (kF (st2 := [(0, (fX12_peopleMany M)), (0, v3)]) rfl (fun hG1 => ?_))
    refine T_rng (fun _ z9 _ => ?_)
    have hB : r32 (fX12_peopleMany M) := (ok_cons.mp z9).1
    unfold r32 at hB
    refine T_icmp_ge (pc' := 38) dX12_openMany_9 (by decide) (pf := 12) rfl (fun c2 => ?_) (fun c2 => ?_)
    · skip
      refine T_iload_n (i := 2) (pc' := 39) dX12_openMany_38 rfl rfl rfl ?_
      exact T_iret dX12_openMany_39 rfl ⟨rfl, hG, hQ⟩
    · exact absurd c2 (by omega)
  | succ k ih =>
    intro v1 v2 v3 M hv0 hk hs hQ hG
    have hQ : Q (some (0, (lX12_openMany_4 k v1 (if (fX12_isComing M v3) = 0 then v2 else (if (fX12_isOpen M v3 v1) = 0 then v2 else (wr32 (v2 + 1)))) (v3 + 1) M))) M := hQ
    have hs : (¬ ((fX12_isComing M v3) = 0) → (nX12_isOpen M v3 v1)) ∧ ((nlX12_openMany_4 k v1 (if (fX12_isComing M v3) = 0 then v2 else (if (fX12_isOpen M v3 v1) = 0 then v2 else (wr32 (v2 + 1)))) (v3 + 1) M)) := hs
    obtain ⟨n1, n2⟩ := hs
    refine T_iload_n (i := 3) (pc' := 5) dX12_openMany_4 rfl rfl rfl ?_
    refine T_aload_n (i := 0) (pc' := 6) dX12_openMany_5 rfl rfl rfl ?_
    refine T_callV (av := []) (st := [(0, v3)]) (d2 := 1) (nc2 := 0) (ns2 := 0) (pc' := 9) dX12_openMany_6 rfl mtX12_peopleMany mvX12_peopleMany mlX12_349 cl12 rfl rfl rfl (Nat.le_of_ble_eq_true rfl) (by decide) ⟨by decide, by decide⟩ rfl (pX12_peopleMany (E := E) (h := h) (M := M) hG) (kF (st2 := [(0, (fX12_peopleMany M)), (0, v3)]) rfl (fun hG1 => ?_))
    refine T_rng (fun _ z9 _ => ?_)
    have hB : r32 (fX12_peopleMany M) := (ok_cons.mp z9).1
    unfold r32 at hB
    refine T_icmp_ge (pc' := 38) dX12_openMany_9 (by decide) (pf := 12) rfl (fun c2 => ?_) (fun c2 => ?_)
    · exact absurd c2 (by omega)
    · skip
      have hw : wr32 (v3 + 1) = v3 + 1 := wr32_id (by unfold r32; omega)
      refine T_aload_n (i := 0) (pc' := 13) dX12_openMany_12 rfl rfl rfl ?_
      refine T_iload_n (i := 3) (pc' := 14) dX12_openMany_13 rfl rfl rfl ?_
      refine T_callV (av := [(0, v3)]) (st := []) (d2 := 3) (nc2 := 0) (ns2 := 0) (pc' := 17) dX12_openMany_14 rfl mtX12_isComing mvX12_isComing mlX12_376 cl12 rfl rfl rfl (Nat.le_of_ble_eq_true rfl) (by decide) ⟨by decide, by decide⟩ rfl (pX12_isComing (E := E) (h := h) (M := M) (v1 := v3) hG) (kF (st2 := [(0, (fX12_isComing M v3))]) rfl (fun hG3 => ?_))
      have HJ4 : T E miX12_openMany 4 126 0 0 (fun r S M' => S = S0 ∧ G h M' ∧ Q r M') 32 [(2, 66), (0, v1), (0, (if (fX12_isComing M v3) = 0 then v2 else (if (fX12_isOpen M v3 v1) = 0 then v2 else (wr32 (v2 + 1))))), (0, v3)] [] S0 M 0 0 := by
        refine T_iinc (L' := [(2, 66), (0, v1), (0, (if (fX12_isComing M v3) = 0 then v2 else (if (fX12_isOpen M v3 v1) = 0 then v2 else (wr32 (v2 + 1))))), (0, (wr32 (v3 + 1)))]) (pc' := 35) dX12_openMany_32 rfl (by decide) rfl rfl ?_
        refine T_goto (pc' := 4) dX12_openMany_35 (by decide) ?_
        rw [hw]
        exact T_wk (ih _ _ (v3 + 1) _ (by omega) (by omega) (n2) hQ hG) ⟨Or.inr rfl, Or.inr rfl, Or.inr rfl, Or.inr rfl, trivial⟩
      refine T_if_eq (pc' := 32) dX12_openMany_17 (by decide) (pf := 20) rfl (fun c5 => ?_) (fun c5 => ?_)
      · skip
        exact T_wk (L' := [(2, 66), (0, v1), (0, v2), (0, v3)]) (by have q := HJ4; try simp only [if_pos c5] at q; exact q) ⟨Or.inr rfl, Or.inr rfl, Or.inr rfl, Or.inr rfl, trivial⟩
      · skip
        refine T_aload_n (i := 0) (pc' := 21) dX12_openMany_20 rfl rfl rfl ?_
        refine T_iload_n (i := 3) (pc' := 22) dX12_openMany_21 rfl rfl rfl ?_
        refine T_iload_n (i := 1) (pc' := 23) dX12_openMany_22 rfl rfl rfl ?_
        refine T_callV (av := [(0, v3), (0, v1)]) (st := []) (d2 := 2) (nc2 := 0) (ns2 := 0) (pc' := 26) dX12_openMany_23 rfl mtX12_isOpen mvX12_isOpen mlX12_379 cl12 rfl rfl rfl (Nat.le_of_ble_eq_true rfl) (by decide) ⟨by decide, by decide⟩ rfl (pX12_isOpen (E := E) (h := h) (M := M) (v1 := v3) (v2 := v1) (n1 c5) hG) (kF (st2 := [(0, (fX12_isOpen M v3 v1))]) rfl (fun hG6 => ?_))
        refine T_if_eq (pc' := 32) dX12_openMany_26 (by decide) (pf := 29) rfl (fun c7 => ?_) (fun c7 => ?_)
        · skip
          exact T_wk (L' := [(2, 66), (0, v1), (0, v2), (0, v3)]) (by have q := HJ4; try simp only [if_neg c5] at q; try simp only [if_pos c7] at q; exact q) ⟨Or.inr rfl, Or.inr rfl, Or.inr rfl, Or.inr rfl, trivial⟩
        · skip
          refine T_iinc (L' := [(2, 66), (0, v1), (0, (wr32 (v2 + 1))), (0, v3)]) (pc' := 32) dX12_openMany_29 rfl (by decide) rfl rfl ?_
          exact T_wk (L' := [(2, 66), (0, v1), (0, (wr32 (v2 + 1))), (0, v3)]) (by have q := HJ4; try simp only [if_neg c5] at q; try simp only [if_neg c7] at q; exact q) ⟨Or.inr rfl, Or.inr rfl, Or.inr rfl, Or.inr rfl, trivial⟩
def fX12_openMany (M : Mem) (v1 : Int) : Int :=
  (lX12_openMany_4 ((((fX12_peopleMany M)) : Int) - 0).toNat v1 0 0 M)
def nX12_openMany (M : Mem) (v1 : Int) : Prop :=
  ((nlX12_openMany_4 ((((fX12_peopleMany M)) : Int) - 0).toNat v1 0 0 M))
set_option maxRecDepth 100000 in
theorem pX12_openMany {E : EV} {h : Int} {M : Mem} {v1 : Int} (hs : (nX12_openMany M v1)) : C2 E miX12_openMany 4 h [(2, 66), (0, v1)] M (fun r M' => r = some (0, (fX12_openMany M v1)) ∧ M' = M) := by
  obtain ⟨Q, hQ0⟩ : ∃ Q : Option MV → Mem → Prop, Q = (fun r M' => r = some (0, (fX12_openMany M v1)) ∧ M' = M) := ⟨_, rfl⟩
  rw [← hQ0]
  have hQ : Q (some (0, (lX12_openMany_4 ((((fX12_peopleMany M)) : Int) - 0).toNat v1 0 0 M))) M := by rw [hQ0]; exact ⟨rfl, rfl⟩
  have o1 := hs
  refine C2_of (L := [(2, 66), (0, v1), (3, 0), (3, 0)]) (by decide +kernel) (Nat.le_of_ble_eq_true rfl) rfl (fun hG => ?_)
  refine T_iconst (pc' := 1) dX12_openMany_0 (by decide) rfl ?_
  refine T_istore_n (i := 2) (L' := [(2, 66), (0, v1), (0, 0), (3, 0)]) (pc' := 2) dX12_openMany_1 rfl (by decide) rfl rfl ?_
  refine T_iconst (pc' := 3) dX12_openMany_2 (by decide) rfl ?_
  refine T_istore_n (i := 3) (L' := [(2, 66), (0, v1), (0, 0), (0, 0)]) (pc' := 4) dX12_openMany_3 rfl (by decide) rfl rfl ?_
  exact T_wk (qX12_openMany_4  _ v1 0 0 _ (by first | decide | omega) rfl (o1) hQ hG) ⟨Or.inr rfl, Or.inr rfl, Or.inr rfl, Or.inr rfl, trivial⟩
def lX12_offIn_2  : Nat → Int → Mem → Int
  | 0, v1, M => (-1)
  | k + 1, v1, M => (if (fX12_openMany M v1) < (M 91 7) then (lX12_offIn_2 k (v1 + 1) M) else v1)
def nlX12_offIn_2  : Nat → Int → Mem → Prop
  | 0, v1, M => True
  | k + 1, v1, M => ((nX12_openMany M v1)) ∧ ((fX12_openMany M v1) < (M 91 7) → (nlX12_offIn_2 k (v1 + 1) M))
set_option maxRecDepth 100000 in
set_option maxHeartbeats 2000000 in
theorem qX12_offIn_2 {E : EV} {h : Int} {Q : Option MV → Mem → Prop}   : ∀ (k : Nat) (v1 : Int) (M : Mem), 0 ≤ v1 → ((201) - v1).toNat = k → (nlX12_offIn_2 k v1 M) → Q (some (0, (lX12_offIn_2 k v1 M))) M → G h M → TG E miX12_offIn 5 h Q 2 [(2, 66), (0, v1)] [] M := by
  intro k
  induction k with
  | zero =>
    intro v1 M hv0 hk hs hQ hG
    have hQ : Q (some (0, (-1))) M := hQ
    have hs : True := hs
    refine T_iload_n (i := 1) (pc' := 3) dX12_offIn_2 rfl rfl rfl ?_
    refine T_sipush (pc' := 6) dX12_offIn_3 rfl (by decide) rfl ?_
    refine T_rng (fun _ z9 _ => ?_)
    have hB : r32 200 := (ok_cons.mp z9).1
    unfold r32 at hB
    refine T_icmp_gt (pc' := 32) dX12_offIn_6 (by decide) (pf := 9) rfl (fun c1 => ?_) (fun c1 => ?_)
    · skip
      refine T_iconst (pc' := 33) dX12_offIn_32 (by decide) rfl ?_
      exact T_iret dX12_offIn_33 rfl ⟨rfl, hG, hQ⟩
    · exact absurd c1 (by omega)
  | succ k ih =>
    intro v1 M hv0 hk hs hQ hG
    have hQ : Q (some (0, (if (fX12_openMany M v1) < (M 91 7) then (lX12_offIn_2 k (v1 + 1) M) else v1))) M := hQ
    have hs : ((nX12_openMany M v1)) ∧ ((fX12_openMany M v1) < (M 91 7) → (nlX12_offIn_2 k (v1 + 1) M)) := hs
    obtain ⟨n1, n2⟩ := hs
    refine T_iload_n (i := 1) (pc' := 3) dX12_offIn_2 rfl rfl rfl ?_
    refine T_sipush (pc' := 6) dX12_offIn_3 rfl (by decide) rfl ?_
    refine T_rng (fun _ z9 _ => ?_)
    have hB : r32 200 := (ok_cons.mp z9).1
    unfold r32 at hB
    refine T_icmp_gt (pc' := 32) dX12_offIn_6 (by decide) (pf := 9) rfl (fun c1 => ?_) (fun c1 => ?_)
    · exact absurd c1 (by omega)
    · skip
      have hw : wr32 (v1 + 1) = v1 + 1 := wr32_id (by unfold r32; omega)
      refine T_aload_n (i := 0) (pc' := 10) dX12_offIn_9 rfl rfl rfl ?_
      refine T_iload_n (i := 1) (pc' := 11) dX12_offIn_10 rfl rfl rfl ?_
      refine T_callV (av := [(0, v1)]) (st := []) (d2 := 4) (nc2 := 0) (ns2 := 0) (pc' := 14) dX12_offIn_11 rfl mtX12_openMany mvX12_openMany mlX12_426 cl12 rfl rfl rfl (Nat.le_of_ble_eq_true rfl) (by decide) ⟨by decide, by decide⟩ rfl (pX12_openMany (E := E) (h := h) (M := M) (v1 := v1) (n1) hG) (kF (st2 := [(0, (fX12_openMany M v1))]) rfl (fun hG2 => ?_))
      refine T_aload_n (i := 0) (pc' := 15) dX12_offIn_14 rfl rfl rfl ?_
      refine U_gr (q := 91) (k := 34) (kI := 34) (pc' := 18) dX12_offIn_15 rfl cl12 (by decide) rfl (by decide) flX12_89 rfl rfl rfl (G_at hG 91 rfl) (by decide) rfl ?_
      refine T_bipush (pc' := 20) dX12_offIn_18 rfl (by decide) rfl ?_
      refine T_iald (pc' := 21) dX12_offIn_20 (by decide) rfl (by decide) (by decide) rfl ?_
      refine T_icmp_lt (pc' := 26) dX12_offIn_21 (by decide) (pf := 24) rfl (fun c3 => ?_) (fun c3 => ?_)
      · skip
        refine T_iinc (L' := [(2, 66), (0, (wr32 (v1 + 1)))]) (pc' := 29) dX12_offIn_26 rfl (by decide) rfl rfl ?_
        refine T_goto (pc' := 2) dX12_offIn_29 (by decide) ?_
        rw [hw]
        exact T_wk (ih (v1 + 1) _ (by omega) (by omega) (n2 c3) (by have q := hQ; try simp only [if_pos c3] at q; exact q) hG) ⟨Or.inr rfl, Or.inr rfl, trivial⟩
      · skip
        refine T_iload_n (i := 1) (pc' := 25) dX12_offIn_24 rfl rfl rfl ?_
        exact T_iret dX12_offIn_25 rfl ⟨rfl, hG, (by have q := hQ; try simp only [if_neg c3] at q; exact q)⟩
def fX12_offIn (M : Mem) : Int :=
  (lX12_offIn_2 201 0 M)
def nX12_offIn (M : Mem) : Prop :=
  ((nlX12_offIn_2 201 0 M))
set_option maxRecDepth 100000 in
theorem pX12_offIn {E : EV} {h : Int} {M : Mem}  (hs : (nX12_offIn M)) : C2 E miX12_offIn 5 h [(2, 66)] M (fun r M' => r = some (0, (fX12_offIn M)) ∧ M' = M) := by
  obtain ⟨Q, hQ0⟩ : ∃ Q : Option MV → Mem → Prop, Q = (fun r M' => r = some (0, (fX12_offIn M)) ∧ M' = M) := ⟨_, rfl⟩
  rw [← hQ0]
  have hQ : Q (some (0, (lX12_offIn_2 201 0 M))) M := by rw [hQ0]; exact ⟨rfl, rfl⟩
  have o1 := hs
  refine C2_of (L := [(2, 66), (3, 0)]) (by decide +kernel) (Nat.le_of_ble_eq_true rfl) rfl (fun hG => ?_)
  refine T_iconst (pc' := 1) dX12_offIn_0 (by decide) rfl ?_
  refine T_istore_n (i := 1) (L' := [(2, 66), (0, 0)]) (pc' := 2) dX12_offIn_1 rfl (by decide) rfl rfl ?_
  exact T_wk (qX12_offIn_2  201 0 _ (by first | decide | omega) rfl (o1) hQ hG) ⟨Or.inr rfl, Or.inr rfl, trivial⟩
def lX12_wallMany_4  : Nat → Int → Int → Mem → Int
  | 0, v1, v2, M => v1
  | k + 1, v1, v2, M => (lX12_wallMany_4 k (if (fX12_isWallNow M v2) = 0 then v1 else (wr32 (v1 + 1))) (v2 + 1) M)
def nlX12_wallMany_4  : Nat → Int → Int → Mem → Prop
  | 0, v1, v2, M => True
  | k + 1, v1, v2, M => ((nX12_isWallNow v2)) ∧ ((nlX12_wallMany_4 k (if (fX12_isWallNow M v2) = 0 then v1 else (wr32 (v1 + 1))) (v2 + 1) M))
set_option maxRecDepth 100000 in
set_option maxHeartbeats 2000000 in
theorem qX12_wallMany_4 {E : EV} {h : Int} {Q : Option MV → Mem → Prop}   : ∀ (k : Nat) (v1 v2 : Int) (M : Mem), 0 ≤ v2 → (((fX12_cells M)) - v2).toNat = k → (nlX12_wallMany_4 k v1 v2 M) → Q (some (0, (lX12_wallMany_4 k v1 v2 M))) M → G h M → TG E miX12_wallMany 2 h Q 4 [(2, 66), (0, v1), (0, v2)] [] M := by
  intro k
  induction k with
  | zero =>
    intro v1 v2 M hv0 hk hs hQ hG
    have hQ : Q (some (0, v1)) M := hQ
    have hs : True := hs
    refine T_iload_n (i := 2) (pc' := 5) dX12_wallMany_4 rfl rfl rfl ?_
    refine T_aload_n (i := 0) (pc' := 6) dX12_wallMany_5 rfl rfl rfl ?_
    refine T_callV (av := []) (st := [(0, v2)]) (d2 := 1) (nc2 := 0) (ns2 := 0) (pc' := 9) dX12_wallMany_6 rfl mtX12_cells mvX12_cells mlX12_346 cl12 rfl rfl rfl (Nat.le_of_ble_eq_true rfl) (by decide) ⟨by decide, by decide⟩ rfl (pX12_cells (E := E) (h := h) (M := M) hG) (kF (st2 := [(0, (fX12_cells M)), (0, v2)]) rfl (fun hG1 => ?_))
    refine T_rng (fun _ z9 _ => ?_)
    have hB : r32 (fX12_cells M) := (ok_cons.mp z9).1
    unfold r32 at hB
    refine T_icmp_ge (pc' := 29) dX12_wallMany_9 (by decide) (pf := 12) rfl (fun c2 => ?_) (fun c2 => ?_)
    · skip
      refine T_iload_n (i := 1) (pc' := 30) dX12_wallMany_29 rfl rfl rfl ?_
      exact T_iret dX12_wallMany_30 rfl ⟨rfl, hG, hQ⟩
    · exact absurd c2 (by omega)
  | succ k ih =>
    intro v1 v2 M hv0 hk hs hQ hG
    have hQ : Q (some (0, (lX12_wallMany_4 k (if (fX12_isWallNow M v2) = 0 then v1 else (wr32 (v1 + 1))) (v2 + 1) M))) M := hQ
    have hs : ((nX12_isWallNow v2)) ∧ ((nlX12_wallMany_4 k (if (fX12_isWallNow M v2) = 0 then v1 else (wr32 (v1 + 1))) (v2 + 1) M)) := hs
    obtain ⟨n1, n2⟩ := hs
    refine T_iload_n (i := 2) (pc' := 5) dX12_wallMany_4 rfl rfl rfl ?_
    refine T_aload_n (i := 0) (pc' := 6) dX12_wallMany_5 rfl rfl rfl ?_
    refine T_callV (av := []) (st := [(0, v2)]) (d2 := 1) (nc2 := 0) (ns2 := 0) (pc' := 9) dX12_wallMany_6 rfl mtX12_cells mvX12_cells mlX12_346 cl12 rfl rfl rfl (Nat.le_of_ble_eq_true rfl) (by decide) ⟨by decide, by decide⟩ rfl (pX12_cells (E := E) (h := h) (M := M) hG) (kF (st2 := [(0, (fX12_cells M)), (0, v2)]) rfl (fun hG1 => ?_))
    refine T_rng (fun _ z9 _ => ?_)
    have hB : r32 (fX12_cells M) := (ok_cons.mp z9).1
    unfold r32 at hB
    refine T_icmp_ge (pc' := 29) dX12_wallMany_9 (by decide) (pf := 12) rfl (fun c2 => ?_) (fun c2 => ?_)
    · exact absurd c2 (by omega)
    · skip
      have hw : wr32 (v2 + 1) = v2 + 1 := wr32_id (by unfold r32; omega)
      refine T_aload_n (i := 0) (pc' := 13) dX12_wallMany_12 rfl rfl rfl ?_
      refine T_iload_n (i := 2) (pc' := 14) dX12_wallMany_13 rfl rfl rfl ?_
      refine T_callV (av := [(0, v2)]) (st := []) (d2 := 1) (nc2 := 0) (ns2 := 0) (pc' := 17) dX12_wallMany_14 rfl mtX12_isWallNow mvX12_isWallNow mlX12_355 cl12 rfl rfl rfl (Nat.le_of_ble_eq_true rfl) (by decide) ⟨by decide, by decide⟩ rfl (pX12_isWallNow (E := E) (h := h) (M := M) (v1 := v2) (n1) hG) (kF (st2 := [(0, (fX12_isWallNow M v2))]) rfl (fun hG3 => ?_))
      have HJ4 : T E miX12_wallMany 2 126 0 0 (fun r S M' => S = S0 ∧ G h M' ∧ Q r M') 23 [(2, 66), (0, (if (fX12_isWallNow M v2) = 0 then v1 else (wr32 (v1 + 1)))), (0, v2)] [] S0 M 0 0 := by
        refine T_iinc (L' := [(2, 66), (0, (if (fX12_isWallNow M v2) = 0 then v1 else (wr32 (v1 + 1)))), (0, (wr32 (v2 + 1)))]) (pc' := 26) dX12_wallMany_23 rfl (by decide) rfl rfl ?_
        refine T_goto (pc' := 4) dX12_wallMany_26 (by decide) ?_
        rw [hw]
        exact T_wk (ih _ (v2 + 1) _ (by omega) (by omega) (n2) hQ hG) ⟨Or.inr rfl, Or.inr rfl, Or.inr rfl, trivial⟩
      refine T_if_eq (pc' := 23) dX12_wallMany_17 (by decide) (pf := 20) rfl (fun c5 => ?_) (fun c5 => ?_)
      · skip
        exact T_wk (L' := [(2, 66), (0, v1), (0, v2)]) (by have q := HJ4; try simp only [if_pos c5] at q; exact q) ⟨Or.inr rfl, Or.inr rfl, Or.inr rfl, trivial⟩
      · skip
        refine T_iinc (L' := [(2, 66), (0, (wr32 (v1 + 1))), (0, v2)]) (pc' := 23) dX12_wallMany_20 rfl (by decide) rfl rfl ?_
        exact T_wk (L' := [(2, 66), (0, (wr32 (v1 + 1))), (0, v2)]) (by have q := HJ4; try simp only [if_neg c5] at q; exact q) ⟨Or.inr rfl, Or.inr rfl, Or.inr rfl, trivial⟩
def fX12_wallMany (M : Mem) : Int :=
  (lX12_wallMany_4 ((((fX12_cells M)) : Int) - 0).toNat 0 0 M)
def nX12_wallMany (M : Mem) : Prop :=
  ((nlX12_wallMany_4 ((((fX12_cells M)) : Int) - 0).toNat 0 0 M))
set_option maxRecDepth 100000 in
theorem pX12_wallMany {E : EV} {h : Int} {M : Mem}  (hs : (nX12_wallMany M)) : C2 E miX12_wallMany 2 h [(2, 66)] M (fun r M' => r = some (0, (fX12_wallMany M)) ∧ M' = M) := by
  obtain ⟨Q, hQ0⟩ : ∃ Q : Option MV → Mem → Prop, Q = (fun r M' => r = some (0, (fX12_wallMany M)) ∧ M' = M) := ⟨_, rfl⟩
  rw [← hQ0]
  have hQ : Q (some (0, (lX12_wallMany_4 ((((fX12_cells M)) : Int) - 0).toNat 0 0 M))) M := by rw [hQ0]; exact ⟨rfl, rfl⟩
  have o1 := hs
  refine C2_of (L := [(2, 66), (3, 0), (3, 0)]) (by decide +kernel) (Nat.le_of_ble_eq_true rfl) rfl (fun hG => ?_)
  refine T_iconst (pc' := 1) dX12_wallMany_0 (by decide) rfl ?_
  refine T_istore_n (i := 1) (L' := [(2, 66), (0, 0), (3, 0)]) (pc' := 2) dX12_wallMany_1 rfl (by decide) rfl rfl ?_
  refine T_iconst (pc' := 3) dX12_wallMany_2 (by decide) rfl ?_
  refine T_istore_n (i := 2) (L' := [(2, 66), (0, 0), (0, 0)]) (pc' := 4) dX12_wallMany_3 rfl (by decide) rfl rfl ?_
  exact T_wk (qX12_wallMany_4  _ 0 0 _ (by first | decide | omega) rfl (o1) hQ hG) ⟨Or.inr rfl, Or.inr rfl, Or.inr rfl, trivial⟩
def lX12_closedMany_4  : Nat → Int → Int → Mem → Int
  | 0, v1, v2, M => v1
  | k + 1, v1, v2, M => (lX12_closedMany_4 k (wr32 (v1 + (M 92 v2))) (v2 + 1) M)
def nlX12_closedMany_4  : Nat → Int → Int → Mem → Prop
  | 0, v1, v2, M => True
  | k + 1, v1, v2, M => (0 ≤ v2 ∧ v2 < 6) ∧ ((nlX12_closedMany_4 k (wr32 (v1 + (M 92 v2))) (v2 + 1) M))
set_option maxRecDepth 100000 in
set_option maxHeartbeats 2000000 in
theorem qX12_closedMany_4 {E : EV} {h : Int} {Q : Option MV → Mem → Prop}   : ∀ (k : Nat) (v1 v2 : Int) (M : Mem), 0 ≤ v2 → (((fX12_doorMany M)) - v2).toNat = k → (nlX12_closedMany_4 k v1 v2 M) → Q (some (0, (lX12_closedMany_4 k v1 v2 M))) M → G h M → TG E miX12_closedMany 2 h Q 4 [(2, 66), (0, v1), (0, v2)] [] M := by
  intro k
  induction k with
  | zero =>
    intro v1 v2 M hv0 hk hs hQ hG
    have hQ : Q (some (0, v1)) M := hQ
    have hs : True := hs
    refine T_iload_n (i := 2) (pc' := 5) dX12_closedMany_4 rfl rfl rfl ?_
    refine T_aload_n (i := 0) (pc' := 6) dX12_closedMany_5 rfl rfl rfl ?_
    refine T_callV (av := []) (st := [(0, v2)]) (d2 := 1) (nc2 := 0) (ns2 := 0) (pc' := 9) dX12_closedMany_6 rfl mtX12_doorMany mvX12_doorMany mlX12_361 cl12 rfl rfl rfl (Nat.le_of_ble_eq_true rfl) (by decide) ⟨by decide, by decide⟩ rfl (pX12_doorMany (E := E) (h := h) (M := M) hG) (kF (st2 := [(0, (fX12_doorMany M)), (0, v2)]) rfl (fun hG1 => ?_))
    refine T_rng (fun _ z9 _ => ?_)
    have hB : r32 (fX12_doorMany M) := (ok_cons.mp z9).1
    unfold r32 at hB
    refine T_icmp_ge (pc' := 27) dX12_closedMany_9 (by decide) (pf := 12) rfl (fun c2 => ?_) (fun c2 => ?_)
    · skip
      refine T_iload_n (i := 1) (pc' := 28) dX12_closedMany_27 rfl rfl rfl ?_
      exact T_iret dX12_closedMany_28 rfl ⟨rfl, hG, hQ⟩
    · exact absurd c2 (by omega)
  | succ k ih =>
    intro v1 v2 M hv0 hk hs hQ hG
    have hQ : Q (some (0, (lX12_closedMany_4 k (wr32 (v1 + (M 92 v2))) (v2 + 1) M))) M := hQ
    have hs : (0 ≤ v2 ∧ v2 < 6) ∧ ((nlX12_closedMany_4 k (wr32 (v1 + (M 92 v2))) (v2 + 1) M)) := hs
    obtain ⟨n1, n2⟩ := hs
    refine T_iload_n (i := 2) (pc' := 5) dX12_closedMany_4 rfl rfl rfl ?_
    refine T_aload_n (i := 0) (pc' := 6) dX12_closedMany_5 rfl rfl rfl ?_
    refine T_callV (av := []) (st := [(0, v2)]) (d2 := 1) (nc2 := 0) (ns2 := 0) (pc' := 9) dX12_closedMany_6 rfl mtX12_doorMany mvX12_doorMany mlX12_361 cl12 rfl rfl rfl (Nat.le_of_ble_eq_true rfl) (by decide) ⟨by decide, by decide⟩ rfl (pX12_doorMany (E := E) (h := h) (M := M) hG) (kF (st2 := [(0, (fX12_doorMany M)), (0, v2)]) rfl (fun hG1 => ?_))
    refine T_rng (fun _ z9 _ => ?_)
    have hB : r32 (fX12_doorMany M) := (ok_cons.mp z9).1
    unfold r32 at hB
    refine T_icmp_ge (pc' := 27) dX12_closedMany_9 (by decide) (pf := 12) rfl (fun c2 => ?_) (fun c2 => ?_)
    · exact absurd c2 (by omega)
    · skip
      have hw : wr32 (v2 + 1) = v2 + 1 := wr32_id (by unfold r32; omega)
      refine T_iload_n (i := 1) (pc' := 13) dX12_closedMany_12 rfl rfl rfl ?_
      refine T_aload_n (i := 0) (pc' := 14) dX12_closedMany_13 rfl rfl rfl ?_
      refine U_gr (q := 92) (k := 41) (kI := 41) (pc' := 17) dX12_closedMany_14 rfl cl12 (by decide) rfl (by decide) flX12_92 rfl rfl rfl (G_at hG 92 rfl) (by decide) rfl ?_
      refine T_iload_n (i := 2) (pc' := 18) dX12_closedMany_17 rfl rfl rfl ?_
      refine T_iald (pc' := 19) dX12_closedMany_18 (by decide) rfl (n1).1 (n1).2 rfl ?_
      refine T_iadd (pc' := 20) dX12_closedMany_19 rfl ?_
      refine T_istore_n (i := 1) (L' := [(2, 66), (0, (wr32 (v1 + (M 92 v2)))), (0, v2)]) (pc' := 21) dX12_closedMany_20 rfl (by decide) rfl rfl ?_
      refine T_iinc (L' := [(2, 66), (0, (wr32 (v1 + (M 92 v2)))), (0, (wr32 (v2 + 1)))]) (pc' := 24) dX12_closedMany_21 rfl (by decide) rfl rfl ?_
      refine T_goto (pc' := 4) dX12_closedMany_24 (by decide) ?_
      rw [hw]
      exact T_wk (ih _ (v2 + 1) _ (by omega) (by omega) (n2) hQ hG) ⟨Or.inr rfl, Or.inr rfl, Or.inr rfl, trivial⟩
def fX12_closedMany (M : Mem) : Int :=
  (lX12_closedMany_4 ((((fX12_doorMany M)) : Int) - 0).toNat 0 0 M)
def nX12_closedMany (M : Mem) : Prop :=
  ((nlX12_closedMany_4 ((((fX12_doorMany M)) : Int) - 0).toNat 0 0 M))
set_option maxRecDepth 100000 in
theorem pX12_closedMany {E : EV} {h : Int} {M : Mem}  (hs : (nX12_closedMany M)) : C2 E miX12_closedMany 2 h [(2, 66)] M (fun r M' => r = some (0, (fX12_closedMany M)) ∧ M' = M) := by
  obtain ⟨Q, hQ0⟩ : ∃ Q : Option MV → Mem → Prop, Q = (fun r M' => r = some (0, (fX12_closedMany M)) ∧ M' = M) := ⟨_, rfl⟩
  rw [← hQ0]
  have hQ : Q (some (0, (lX12_closedMany_4 ((((fX12_doorMany M)) : Int) - 0).toNat 0 0 M))) M := by rw [hQ0]; exact ⟨rfl, rfl⟩
  have o1 := hs
  refine C2_of (L := [(2, 66), (3, 0), (3, 0)]) (by decide +kernel) (Nat.le_of_ble_eq_true rfl) rfl (fun hG => ?_)
  refine T_iconst (pc' := 1) dX12_closedMany_0 (by decide) rfl ?_
  refine T_istore_n (i := 1) (L' := [(2, 66), (0, 0), (3, 0)]) (pc' := 2) dX12_closedMany_1 rfl (by decide) rfl rfl ?_
  refine T_iconst (pc' := 3) dX12_closedMany_2 (by decide) rfl ?_
  refine T_istore_n (i := 2) (L' := [(2, 66), (0, 0), (0, 0)]) (pc' := 4) dX12_closedMany_3 rfl (by decide) rfl rfl ?_
  exact T_wk (qX12_closedMany_4  _ 0 0 _ (by first | decide | omega) rfl (o1) hQ hG) ⟨Or.inr rfl, Or.inr rfl, Or.inr rfl, trivial⟩
def fX12_hall (M : Mem) (v1 : Int) : Int :=
  (if v1 = 0 then (M 66 38) else (if v1 = 1 then (M 66 39) else (if v1 = 2 then (fX12_wallMany M) else (if v1 = 3 then (fX12_doorMany M) else (if v1 = 4 then (fX12_closedMany M) else (if v1 = 5 then (fX12_peopleMany M) else (if v1 = 6 then (fX12_guardMany M) else (if v1 = 7 then (M 91 (wr32 ((wr32 (4 + v1)) - 7))) else (if v1 = 8 then (M 91 (wr32 ((wr32 (4 + v1)) - 7))) else (if v1 = 9 then (M 91 (wr32 ((wr32 (4 + v1)) - 7))) else (if v1 = 10 then (M 91 (wr32 ((wr32 (4 + v1)) - 7))) else (if v1 = 11 then (M 66 42) else (if v1 = 12 then (M 66 54) else (-1))))))))))))))
def nX12_hall (M : Mem) (v1 : Int) : Prop :=
  (¬ (v1 = 0) → ¬ (v1 = 1) → v1 = 2 → (nX12_wallMany M)) ∧ (¬ (v1 = 0) → ¬ (v1 = 1) → ¬ (v1 = 2) → ¬ (v1 = 3) → v1 = 4 → (nX12_closedMany M)) ∧ (¬ (v1 = 0) → ¬ (v1 = 1) → ¬ (v1 = 2) → ¬ (v1 = 3) → ¬ (v1 = 4) → ¬ (v1 = 5) → ¬ (v1 = 6) → v1 = 7 → 0 ≤ (wr32 ((wr32 (4 + v1)) - 7)) ∧ (wr32 ((wr32 (4 + v1)) - 7)) < 8) ∧ (¬ (v1 = 0) → ¬ (v1 = 1) → ¬ (v1 = 2) → ¬ (v1 = 3) → ¬ (v1 = 4) → ¬ (v1 = 5) → ¬ (v1 = 6) → ¬ (v1 = 7) → v1 = 8 → 0 ≤ (wr32 ((wr32 (4 + v1)) - 7)) ∧ (wr32 ((wr32 (4 + v1)) - 7)) < 8) ∧ (¬ (v1 = 0) → ¬ (v1 = 1) → ¬ (v1 = 2) → ¬ (v1 = 3) → ¬ (v1 = 4) → ¬ (v1 = 5) → ¬ (v1 = 6) → ¬ (v1 = 7) → ¬ (v1 = 8) → v1 = 9 → 0 ≤ (wr32 ((wr32 (4 + v1)) - 7)) ∧ (wr32 ((wr32 (4 + v1)) - 7)) < 8) ∧ (¬ (v1 = 0) → ¬ (v1 = 1) → ¬ (v1 = 2) → ¬ (v1 = 3) → ¬ (v1 = 4) → ¬ (v1 = 5) → ¬ (v1 = 6) → ¬ (v1 = 7) → ¬ (v1 = 8) → ¬ (v1 = 9) → v1 = 10 → 0 ≤ (wr32 ((wr32 (4 + v1)) - 7)) ∧ (wr32 ((wr32 (4 + v1)) - 7)) < 8)
set_option maxRecDepth 100000 in
theorem pX12_hall {E : EV} {h : Int} {M : Mem} {v1 : Int} (hs : (nX12_hall M v1)) : C2 E miX12_hall 3 h [(2, 66), (0, v1)] M (fun r M' => r = some (0, (fX12_hall M v1)) ∧ M' = M) := by
  obtain ⟨Q, hQ⟩ : ∃ Q : Option MV → Mem → Prop, Q = (fun r M' => r = some (0, (fX12_hall M v1)) ∧ M' = M) := ⟨_, rfl⟩
  rw [← hQ]
  obtain ⟨o1, o2, o3, o4, o5, o6⟩ := hs
  refine C2_of (L := [(2, 66), (0, v1)]) (by decide +kernel) (Nat.le_of_ble_eq_true rfl) rfl (fun hG => ?_)
  refine T_iload_n (i := 1) (pc' := 1) dX12_hall_0 rfl rfl rfl ?_
  by_cases c1 : v1 = 0
  · skip
    refine T_tableIn (pc' := 68) dX12_hall_1 (by omega) (by omega) (by rw [c1]; rfl) (by decide) ?_
    refine T_aload_n (i := 0) (pc' := 69) dX12_hall_68 rfl rfl rfl ?_
    refine U_gf (v := (0, (M 66 38))) (k := 38) (kI := 38) (pc' := 72) dX12_hall_69 rfl cl12 (by decide) rfl (by decide) flX12_334 rfl rfl (by decide) rfl rfl ?_
    exact T_iret dX12_hall_72 rfl ⟨rfl, hG, (by rw [hQ]; exact ⟨(by unfold fX12_hall; simp only [if_pos c1]), rfl⟩)⟩
  · skip
    by_cases c2 : v1 = 1
    · skip
      refine T_tableIn (pc' := 73) dX12_hall_1 (by omega) (by omega) (by rw [c2]; rfl) (by decide) ?_
      refine T_aload_n (i := 0) (pc' := 74) dX12_hall_73 rfl rfl rfl ?_
      refine U_gf (v := (0, (M 66 39))) (k := 39) (kI := 39) (pc' := 77) dX12_hall_74 rfl cl12 (by decide) rfl (by decide) flX12_337 rfl rfl (by decide) rfl rfl ?_
      exact T_iret dX12_hall_77 rfl ⟨rfl, hG, (by rw [hQ]; exact ⟨(by unfold fX12_hall; simp only [if_neg c1, if_pos c2]), rfl⟩)⟩
    · skip
      by_cases c3 : v1 = 2
      · skip
        refine T_tableIn (pc' := 78) dX12_hall_1 (by omega) (by omega) (by rw [c3]; rfl) (by decide) ?_
        refine T_aload_n (i := 0) (pc' := 79) dX12_hall_78 rfl rfl rfl ?_
        refine T_callV (av := []) (st := []) (d2 := 2) (nc2 := 0) (ns2 := 0) (pc' := 82) dX12_hall_79 rfl mtX12_wallMany mvX12_wallMany mlX12_429 cl12 rfl rfl rfl (Nat.le_of_ble_eq_true rfl) (by decide) ⟨by decide, by decide⟩ rfl (pX12_wallMany (E := E) (h := h) (M := M) (o1 c1 c2 c3) hG) (kF (st2 := [(0, (fX12_wallMany M))]) rfl (fun hG4 => ?_))
        exact T_iret dX12_hall_82 rfl ⟨rfl, hG, (by rw [hQ]; exact ⟨(by unfold fX12_hall; simp only [if_neg c1, if_neg c2, if_pos c3]), rfl⟩)⟩
      · skip
        by_cases c5 : v1 = 3
        · skip
          refine T_tableIn (pc' := 83) dX12_hall_1 (by omega) (by omega) (by rw [c5]; rfl) (by decide) ?_
          refine T_aload_n (i := 0) (pc' := 84) dX12_hall_83 rfl rfl rfl ?_
          refine T_callV (av := []) (st := []) (d2 := 1) (nc2 := 0) (ns2 := 0) (pc' := 87) dX12_hall_84 rfl mtX12_doorMany mvX12_doorMany mlX12_361 cl12 rfl rfl rfl (Nat.le_of_ble_eq_true rfl) (by decide) ⟨by decide, by decide⟩ rfl (pX12_doorMany (E := E) (h := h) (M := M) hG) (kF (st2 := [(0, (fX12_doorMany M))]) rfl (fun hG6 => ?_))
          exact T_iret dX12_hall_87 rfl ⟨rfl, hG, (by rw [hQ]; exact ⟨(by unfold fX12_hall; simp only [if_neg c1, if_neg c2, if_neg c3, if_pos c5]), rfl⟩)⟩
        · skip
          by_cases c7 : v1 = 4
          · skip
            refine T_tableIn (pc' := 88) dX12_hall_1 (by omega) (by omega) (by rw [c7]; rfl) (by decide) ?_
            refine T_aload_n (i := 0) (pc' := 89) dX12_hall_88 rfl rfl rfl ?_
            refine T_callV (av := []) (st := []) (d2 := 2) (nc2 := 0) (ns2 := 0) (pc' := 92) dX12_hall_89 rfl mtX12_closedMany mvX12_closedMany mlX12_432 cl12 rfl rfl rfl (Nat.le_of_ble_eq_true rfl) (by decide) ⟨by decide, by decide⟩ rfl (pX12_closedMany (E := E) (h := h) (M := M) (o2 c1 c2 c3 c5 c7) hG) (kF (st2 := [(0, (fX12_closedMany M))]) rfl (fun hG8 => ?_))
            exact T_iret dX12_hall_92 rfl ⟨rfl, hG, (by rw [hQ]; exact ⟨(by unfold fX12_hall; simp only [if_neg c1, if_neg c2, if_neg c3, if_neg c5, if_pos c7]), rfl⟩)⟩
          · skip
            by_cases c9 : v1 = 5
            · skip
              refine T_tableIn (pc' := 93) dX12_hall_1 (by omega) (by omega) (by rw [c9]; rfl) (by decide) ?_
              refine T_aload_n (i := 0) (pc' := 94) dX12_hall_93 rfl rfl rfl ?_
              refine T_callV (av := []) (st := []) (d2 := 1) (nc2 := 0) (ns2 := 0) (pc' := 97) dX12_hall_94 rfl mtX12_peopleMany mvX12_peopleMany mlX12_349 cl12 rfl rfl rfl (Nat.le_of_ble_eq_true rfl) (by decide) ⟨by decide, by decide⟩ rfl (pX12_peopleMany (E := E) (h := h) (M := M) hG) (kF (st2 := [(0, (fX12_peopleMany M))]) rfl (fun hG10 => ?_))
              exact T_iret dX12_hall_97 rfl ⟨rfl, hG, (by rw [hQ]; exact ⟨(by unfold fX12_hall; simp only [if_neg c1, if_neg c2, if_neg c3, if_neg c5, if_neg c7, if_pos c9]), rfl⟩)⟩
            · skip
              by_cases c11 : v1 = 6
              · skip
                refine T_tableIn (pc' := 98) dX12_hall_1 (by omega) (by omega) (by rw [c11]; rfl) (by decide) ?_
                refine T_aload_n (i := 0) (pc' := 99) dX12_hall_98 rfl rfl rfl ?_
                refine T_callV (av := []) (st := []) (d2 := 1) (nc2 := 0) (ns2 := 0) (pc' := 102) dX12_hall_99 rfl mtX12_guardMany mvX12_guardMany mlX12_404 cl12 rfl rfl rfl (Nat.le_of_ble_eq_true rfl) (by decide) ⟨by decide, by decide⟩ rfl (pX12_guardMany (E := E) (h := h) (M := M) hG) (kF (st2 := [(0, (fX12_guardMany M))]) rfl (fun hG12 => ?_))
                exact T_iret dX12_hall_102 rfl ⟨rfl, hG, (by rw [hQ]; exact ⟨(by unfold fX12_hall; simp only [if_neg c1, if_neg c2, if_neg c3, if_neg c5, if_neg c7, if_neg c9, if_pos c11]), rfl⟩)⟩
              · skip
                by_cases c13 : v1 = 7
                · skip
                  refine T_tableIn (pc' := 103) dX12_hall_1 (by omega) (by omega) (by rw [c13]; rfl) (by decide) ?_
                  refine T_aload_n (i := 0) (pc' := 104) dX12_hall_103 rfl rfl rfl ?_
                  refine U_gr (q := 91) (k := 34) (kI := 34) (pc' := 107) dX12_hall_104 rfl cl12 (by decide) rfl (by decide) flX12_89 rfl rfl rfl (G_at hG 91 rfl) (by decide) rfl ?_
                  refine T_iconst (pc' := 108) dX12_hall_107 (by decide) rfl ?_
                  refine T_iload_n (i := 1) (pc' := 109) dX12_hall_108 rfl rfl rfl ?_
                  refine T_iadd (pc' := 110) dX12_hall_109 rfl ?_
                  refine T_bipush (pc' := 112) dX12_hall_110 rfl (by decide) rfl ?_
                  refine T_isub (pc' := 113) dX12_hall_112 rfl ?_
                  refine T_iald (pc' := 114) dX12_hall_113 (by decide) rfl (o3 c1 c2 c3 c5 c7 c9 c11 c13).1 (o3 c1 c2 c3 c5 c7 c9 c11 c13).2 rfl ?_
                  exact T_iret dX12_hall_114 rfl ⟨rfl, hG, (by rw [hQ]; exact ⟨(by unfold fX12_hall; simp only [if_neg c1, if_neg c2, if_neg c3, if_neg c5, if_neg c7, if_neg c9, if_neg c11, if_pos c13]), rfl⟩)⟩
                · skip
                  by_cases c14 : v1 = 8
                  · skip
                    refine T_tableIn (pc' := 103) dX12_hall_1 (by omega) (by omega) (by rw [c14]; rfl) (by decide) ?_
                    refine T_aload_n (i := 0) (pc' := 104) dX12_hall_103 rfl rfl rfl ?_
                    refine U_gr (q := 91) (k := 34) (kI := 34) (pc' := 107) dX12_hall_104 rfl cl12 (by decide) rfl (by decide) flX12_89 rfl rfl rfl (G_at hG 91 rfl) (by decide) rfl ?_
                    refine T_iconst (pc' := 108) dX12_hall_107 (by decide) rfl ?_
                    refine T_iload_n (i := 1) (pc' := 109) dX12_hall_108 rfl rfl rfl ?_
                    refine T_iadd (pc' := 110) dX12_hall_109 rfl ?_
                    refine T_bipush (pc' := 112) dX12_hall_110 rfl (by decide) rfl ?_
                    refine T_isub (pc' := 113) dX12_hall_112 rfl ?_
                    refine T_iald (pc' := 114) dX12_hall_113 (by decide) rfl (o4 c1 c2 c3 c5 c7 c9 c11 c13 c14).1 (o4 c1 c2 c3 c5 c7 c9 c11 c13 c14).2 rfl ?_
                    exact T_iret dX12_hall_114 rfl ⟨rfl, hG, (by rw [hQ]; exact ⟨(by unfold fX12_hall; simp only [if_neg c1, if_neg c2, if_neg c3, if_neg c5, if_neg c7, if_neg c9, if_neg c11, if_neg c13, if_pos c14]), rfl⟩)⟩
                  · skip
                    by_cases c15 : v1 = 9
                    · skip
                      refine T_tableIn (pc' := 103) dX12_hall_1 (by omega) (by omega) (by rw [c15]; rfl) (by decide) ?_
                      refine T_aload_n (i := 0) (pc' := 104) dX12_hall_103 rfl rfl rfl ?_
                      refine U_gr (q := 91) (k := 34) (kI := 34) (pc' := 107) dX12_hall_104 rfl cl12 (by decide) rfl (by decide) flX12_89 rfl rfl rfl (G_at hG 91 rfl) (by decide) rfl ?_
                      refine T_iconst (pc' := 108) dX12_hall_107 (by decide) rfl ?_
                      refine T_iload_n (i := 1) (pc' := 109) dX12_hall_108 rfl rfl rfl ?_
                      refine T_iadd (pc' := 110) dX12_hall_109 rfl ?_
                      refine T_bipush (pc' := 112) dX12_hall_110 rfl (by decide) rfl ?_
                      refine T_isub (pc' := 113) dX12_hall_112 rfl ?_
                      refine T_iald (pc' := 114) dX12_hall_113 (by decide) rfl (o5 c1 c2 c3 c5 c7 c9 c11 c13 c14 c15).1 (o5 c1 c2 c3 c5 c7 c9 c11 c13 c14 c15).2 rfl ?_
                      exact T_iret dX12_hall_114 rfl ⟨rfl, hG, (by rw [hQ]; exact ⟨(by unfold fX12_hall; simp only [if_neg c1, if_neg c2, if_neg c3, if_neg c5, if_neg c7, if_neg c9, if_neg c11, if_neg c13, if_neg c14, if_pos c15]), rfl⟩)⟩
                    · skip
                      by_cases c16 : v1 = 10
                      · skip
                        refine T_tableIn (pc' := 103) dX12_hall_1 (by omega) (by omega) (by rw [c16]; rfl) (by decide) ?_
                        refine T_aload_n (i := 0) (pc' := 104) dX12_hall_103 rfl rfl rfl ?_
                        refine U_gr (q := 91) (k := 34) (kI := 34) (pc' := 107) dX12_hall_104 rfl cl12 (by decide) rfl (by decide) flX12_89 rfl rfl rfl (G_at hG 91 rfl) (by decide) rfl ?_
                        refine T_iconst (pc' := 108) dX12_hall_107 (by decide) rfl ?_
                        refine T_iload_n (i := 1) (pc' := 109) dX12_hall_108 rfl rfl rfl ?_
                        refine T_iadd (pc' := 110) dX12_hall_109 rfl ?_
                        refine T_bipush (pc' := 112) dX12_hall_110 rfl (by decide) rfl ?_
                        refine T_isub (pc' := 113) dX12_hall_112 rfl ?_
                        refine T_iald (pc' := 114) dX12_hall_113 (by decide) rfl (o6 c1 c2 c3 c5 c7 c9 c11 c13 c14 c15 c16).1 (o6 c1 c2 c3 c5 c7 c9 c11 c13 c14 c15 c16).2 rfl ?_
                        exact T_iret dX12_hall_114 rfl ⟨rfl, hG, (by rw [hQ]; exact ⟨(by unfold fX12_hall; simp only [if_neg c1, if_neg c2, if_neg c3, if_neg c5, if_neg c7, if_neg c9, if_neg c11, if_neg c13, if_neg c14, if_neg c15, if_pos c16]), rfl⟩)⟩
                      · skip
                        by_cases c17 : v1 = 11
                        · skip
                          refine T_tableIn (pc' := 115) dX12_hall_1 (by omega) (by omega) (by rw [c17]; rfl) (by decide) ?_
                          refine T_aload_n (i := 0) (pc' := 116) dX12_hall_115 rfl rfl rfl ?_
                          refine U_gf (v := (0, (M 66 42))) (k := 42) (kI := 42) (pc' := 119) dX12_hall_116 rfl cl12 (by decide) rfl (by decide) flX12_340 rfl rfl (by decide) rfl rfl ?_
                          exact T_iret dX12_hall_119 rfl ⟨rfl, hG, (by rw [hQ]; exact ⟨(by unfold fX12_hall; simp only [if_neg c1, if_neg c2, if_neg c3, if_neg c5, if_neg c7, if_neg c9, if_neg c11, if_neg c13, if_neg c14, if_neg c15, if_neg c16, if_pos c17]), rfl⟩)⟩
                        · skip
                          by_cases c18 : v1 = 12
                          · skip
                            refine T_tableIn (pc' := 120) dX12_hall_1 (by omega) (by omega) (by rw [c18]; rfl) (by decide) ?_
                            refine T_aload_n (i := 0) (pc' := 121) dX12_hall_120 rfl rfl rfl ?_
                            refine U_gf (v := (0, (M 66 54))) (k := 54) (kI := 54) (pc' := 124) dX12_hall_121 rfl cl12 (by decide) rfl (by decide) flX12_343 rfl rfl (by decide) rfl rfl ?_
                            exact T_iret dX12_hall_124 rfl ⟨rfl, hG, (by rw [hQ]; exact ⟨(by unfold fX12_hall; simp only [if_neg c1, if_neg c2, if_neg c3, if_neg c5, if_neg c7, if_neg c9, if_neg c11, if_neg c13, if_neg c14, if_neg c15, if_neg c16, if_neg c17, if_pos c18]), rfl⟩)⟩
                          · skip
                            refine T_tableOut (pc' := 125) dX12_hall_1 (by omega) (by decide) ?_
                            refine T_iconst (pc' := 126) dX12_hall_125 (by decide) rfl ?_
                            exact T_iret dX12_hall_126 rfl ⟨rfl, hG, (by rw [hQ]; exact ⟨(by unfold fX12_hall; simp only [if_neg c1, if_neg c2, if_neg c3, if_neg c5, if_neg c7, if_neg c9, if_neg c11, if_neg c13, if_neg c14, if_neg c15, if_neg c16, if_neg c17, if_neg c18]), rfl⟩)⟩
def fX12_person (M : Mem) (v1 : Int) (v2 : Int) : Int :=
  (if (fX12_isPerson M v1) = 0 then (-1) else (if (fX12_isIn v2 0 5) = 0 then (-1) else (if v2 = 1 then (wr32 (60 + (fX12_personOf M v1 1))) else (fX12_personOf M v1 v2))))
def nX12_person (M : Mem) (v1 : Int) (v2 : Int) : Prop :=
  (¬ ((fX12_isPerson M v1) = 0) → ¬ ((fX12_isIn v2 0 5) = 0) → ¬ (v2 = 1) → (nX12_personOf v1 v2)) ∧ (¬ ((fX12_isPerson M v1) = 0) → ¬ ((fX12_isIn v2 0 5) = 0) → v2 = 1 → (nX12_personOf v1 1))
set_option maxRecDepth 100000 in
theorem pX12_person {E : EV} {h : Int} {M : Mem} {v1 : Int} {v2 : Int} (hs : (nX12_person M v1 v2)) : C2 E miX12_person 3 h [(2, 66), (0, v1), (0, v2)] M (fun r M' => r = some (0, (fX12_person M v1 v2)) ∧ M' = M) := by
  obtain ⟨Q, hQ⟩ : ∃ Q : Option MV → Mem → Prop, Q = (fun r M' => r = some (0, (fX12_person M v1 v2)) ∧ M' = M) := ⟨_, rfl⟩
  rw [← hQ]
  obtain ⟨o1, o2⟩ := hs
  refine C2_of (L := [(2, 66), (0, v1), (0, v2)]) (by decide +kernel) (Nat.le_of_ble_eq_true rfl) rfl (fun hG => ?_)
  refine T_aload_n (i := 0) (pc' := 1) dX12_person_0 rfl rfl rfl ?_
  refine T_iload_n (i := 1) (pc' := 2) dX12_person_1 rfl rfl rfl ?_
  refine T_callV (av := [(0, v1)]) (st := []) (d2 := 2) (nc2 := 0) (ns2 := 0) (pc' := 5) dX12_person_2 rfl mtX12_isPerson mvX12_isPerson mlX12_352 cl12 rfl rfl rfl (Nat.le_of_ble_eq_true rfl) (by decide) ⟨by decide, by decide⟩ rfl (pX12_isPerson (E := E) (h := h) (M := M) (v1 := v1) hG) (kF (st2 := [(0, (fX12_isPerson M v1))]) rfl (fun hG1 => ?_))
  refine T_if_eq (pc' := 20) dX12_person_5 (by decide) (pf := 8) rfl (fun c2 => ?_) (fun c2 => ?_)
  · skip
    refine T_iconst (pc' := 21) dX12_person_20 (by decide) rfl ?_
    exact T_iret dX12_person_21 rfl ⟨rfl, hG, (by rw [hQ]; exact ⟨(by unfold fX12_person; simp only [if_pos c2]), rfl⟩)⟩
  · skip
    refine T_iload_n (i := 2) (pc' := 9) dX12_person_8 rfl rfl rfl ?_
    refine T_i2l (pc' := 10) dX12_person_9 rfl ?_
    refine T_lconst (v := 0) (pc' := 11) dX12_person_10 rfl (by decide) rfl ?_
    refine T_ldc2 (n := 5) (pc' := 14) dX12_person_11 rfl kjX12_435 rfl (by decide) rfl ?_
    refine T_callS (av := [(1, v2), (1, 0), (1, 5)]) (st := []) (d2 := 1) (nc2 := 0) (ns2 := 0) (pc' := 17) dX12_person_14 rfl mtX12_isIn mvX12_isIn mlX12_244 rfl rfl (Nat.le_of_ble_eq_true rfl) (by decide) ⟨by decide, by decide⟩ rfl (pX12_isIn (E := E) (h := h) (M := M) (v0 := v2) (v2 := 0) (v4 := 5) hG) (kF (st2 := [(0, (fX12_isIn v2 0 5))]) rfl (fun hG3 => ?_))
    refine T_if_ne (pc' := 22) dX12_person_17 (by decide) (pf := 20) rfl (fun c4 => ?_) (fun c4 => ?_)
    · skip
      refine T_iload_n (i := 2) (pc' := 23) dX12_person_22 rfl rfl rfl ?_
      refine T_iconst (pc' := 24) dX12_person_23 (by decide) rfl ?_
      have HJ5 : T E miX12_person 3 126 0 0 (fun r S M' => S = S0 ∧ G h M' ∧ Q r M') 45 [(3, 0), (3, 0), (3, 0)] [(0, (if v2 = 1 then (wr32 (60 + (fX12_personOf M v1 1))) else (fX12_personOf M v1 v2)))] S0 M 0 0 := by
        exact T_iret dX12_person_45 rfl ⟨rfl, hG, (by rw [hQ]; exact ⟨(by unfold fX12_person; simp only [if_neg c2, if_neg c4]), rfl⟩)⟩
      refine T_icmp_ne (pc' := 39) dX12_person_24 (by decide) (pf := 27) rfl (fun c6 => ?_) (fun c6 => ?_)
      · skip
        refine T_aload_n (i := 0) (pc' := 40) dX12_person_39 rfl rfl rfl ?_
        refine T_iload_n (i := 1) (pc' := 41) dX12_person_40 rfl rfl rfl ?_
        refine T_iload_n (i := 2) (pc' := 42) dX12_person_41 rfl rfl rfl ?_
        refine T_callV (av := [(0, v1), (0, v2)]) (st := []) (d2 := 1) (nc2 := 0) (ns2 := 0) (pc' := 45) dX12_person_42 rfl mtX12_personOf mvX12_personOf mlX12_373 cl12 rfl rfl rfl (Nat.le_of_ble_eq_true rfl) (by decide) ⟨by decide, by decide⟩ rfl (pX12_personOf (E := E) (h := h) (M := M) (v1 := v1) (v2 := v2) (o1 c2 c4 c6) hG) (kF (st2 := [(0, (fX12_personOf M v1 v2))]) rfl (fun hG7 => ?_))
        exact T_wk (L' := [(3, 0), (3, 0), (3, 0)]) (by have q := HJ5; try simp only [if_neg c6] at q; exact q) ⟨Or.inl rfl, Or.inl rfl, Or.inl rfl, trivial⟩
      · skip
        refine T_bipush (pc' := 29) dX12_person_27 rfl (by decide) rfl ?_
        refine T_aload_n (i := 0) (pc' := 30) dX12_person_29 rfl rfl rfl ?_
        refine T_iload_n (i := 1) (pc' := 31) dX12_person_30 rfl rfl rfl ?_
        refine T_iconst (pc' := 32) dX12_person_31 (by decide) rfl ?_
        refine T_callV (av := [(0, v1), (0, 1)]) (st := [(0, 60)]) (d2 := 1) (nc2 := 0) (ns2 := 0) (pc' := 35) dX12_person_32 rfl mtX12_personOf mvX12_personOf mlX12_373 cl12 rfl rfl rfl (Nat.le_of_ble_eq_true rfl) (by decide) ⟨by decide, by decide⟩ rfl (pX12_personOf (E := E) (h := h) (M := M) (v1 := v1) (v2 := 1) (o2 c2 c4 c6) hG) (kF (st2 := [(0, (fX12_personOf M v1 1)), (0, 60)]) rfl (fun hG8 => ?_))
        refine T_iadd (pc' := 36) dX12_person_35 rfl ?_
        refine T_goto (pc' := 45) dX12_person_36 (by decide) ?_
        exact T_wk (L' := [(3, 0), (3, 0), (3, 0)]) (by have q := HJ5; try simp only [if_pos c6] at q; exact q) ⟨Or.inl rfl, Or.inl rfl, Or.inl rfl, trivial⟩
    · skip
      refine T_iconst (pc' := 21) dX12_person_20 (by decide) rfl ?_
      exact T_iret dX12_person_21 rfl ⟨rfl, hG, (by rw [hQ]; exact ⟨(by unfold fX12_person; simp only [if_neg c2, if_pos c4]), rfl⟩)⟩
def fX12_guard (M : Mem) (v1 : Int) (v2 : Int) : Int :=
  (if (fX12_isIn v1 0 (wr32 ((fX12_guardMany M) - 1))) = 0 then ((-1) : Int) else (if (fX12_isIn v2 0 2) = 0 then ((-1) : Int) else (M 89 (wr32 ((wr32 (12 + (wr32 (3 * v1)))) + v2)))))
def nX12_guard (M : Mem) (v1 : Int) (v2 : Int) : Prop :=
  (¬ ((fX12_isIn v1 0 (wr32 ((fX12_guardMany M) - 1))) = 0) → ¬ ((fX12_isIn v2 0 2) = 0) → 0 ≤ (wr32 ((wr32 (12 + (wr32 (3 * v1)))) + v2)) ∧ (wr32 ((wr32 (12 + (wr32 (3 * v1)))) + v2)) < 24)
set_option maxRecDepth 100000 in
theorem pX12_guard {E : EV} {h : Int} {M : Mem} {v1 : Int} {v2 : Int} (hs : (nX12_guard M v1 v2)) : C2 E miX12_guard 2 h [(2, 66), (0, v1), (0, v2)] M (fun r M' => r = some (0, (fX12_guard M v1 v2)) ∧ M' = M) := by
  obtain ⟨Q, hQ⟩ : ∃ Q : Option MV → Mem → Prop, Q = (fun r M' => r = some (0, (fX12_guard M v1 v2)) ∧ M' = M) := ⟨_, rfl⟩
  rw [← hQ]
  have o1 := hs
  refine C2_of (L := [(2, 66), (0, v1), (0, v2)]) (by decide +kernel) (Nat.le_of_ble_eq_true rfl) rfl (fun hG => ?_)
  refine T_iload_n (i := 1) (pc' := 1) dX12_guard_0 rfl rfl rfl ?_
  refine T_i2l (pc' := 2) dX12_guard_1 rfl ?_
  refine T_lconst (v := 0) (pc' := 3) dX12_guard_2 rfl (by decide) rfl ?_
  refine T_aload_n (i := 0) (pc' := 4) dX12_guard_3 rfl rfl rfl ?_
  refine T_callV (av := []) (st := [(1, 0), (1, v1)]) (d2 := 1) (nc2 := 0) (ns2 := 0) (pc' := 7) dX12_guard_4 rfl mtX12_guardMany mvX12_guardMany mlX12_404 cl12 rfl rfl rfl (Nat.le_of_ble_eq_true rfl) (by decide) ⟨by decide, by decide⟩ rfl (pX12_guardMany (E := E) (h := h) (M := M) hG) (kF (st2 := [(0, (fX12_guardMany M)), (1, 0), (1, v1)]) rfl (fun hG1 => ?_))
  refine T_iconst (pc' := 8) dX12_guard_7 (by decide) rfl ?_
  refine T_isub (pc' := 9) dX12_guard_8 rfl ?_
  refine T_i2l (pc' := 10) dX12_guard_9 rfl ?_
  refine T_callS (av := [(1, v1), (1, 0), (1, (wr32 ((fX12_guardMany M) - 1)))]) (st := []) (d2 := 1) (nc2 := 0) (ns2 := 0) (pc' := 13) dX12_guard_10 rfl mtX12_isIn mvX12_isIn mlX12_244 rfl rfl (Nat.le_of_ble_eq_true rfl) (by decide) ⟨by decide, by decide⟩ rfl (pX12_isIn (E := E) (h := h) (M := M) (v0 := v1) (v2 := 0) (v4 := (wr32 ((fX12_guardMany M) - 1))) hG) (kF (st2 := [(0, (fX12_isIn v1 0 (wr32 ((fX12_guardMany M) - 1))))]) rfl (fun hG2 => ?_))
  have HJ3 : T E miX12_guard 2 126 0 0 (fun r S M' => S = S0 ∧ G h M' ∧ Q r M') 45 [(3, 0), (3, 0), (3, 0)] [(0, (if (fX12_isIn v1 0 (wr32 ((fX12_guardMany M) - 1))) = 0 then ((-1) : Int) else (if (fX12_isIn v2 0 2) = 0 then ((-1) : Int) else (M 89 (wr32 ((wr32 (12 + (wr32 (3 * v1)))) + v2))))))] S0 M 0 0 := by
    exact T_iret dX12_guard_45 rfl ⟨rfl, hG, (by rw [hQ]; exact ⟨rfl, rfl⟩)⟩
  refine T_if_eq (pc' := 44) dX12_guard_13 (by decide) (pf := 16) rfl (fun c4 => ?_) (fun c4 => ?_)
  · skip
    refine T_iconst (pc' := 45) dX12_guard_44 (by decide) rfl ?_
    exact T_wk (L' := [(3, 0), (3, 0), (3, 0)]) (by have q := HJ3; try simp only [if_pos c4] at q; exact q) ⟨Or.inl rfl, Or.inl rfl, Or.inl rfl, trivial⟩
  · skip
    refine T_iload_n (i := 2) (pc' := 17) dX12_guard_16 rfl rfl rfl ?_
    refine T_i2l (pc' := 18) dX12_guard_17 rfl ?_
    refine T_lconst (v := 0) (pc' := 19) dX12_guard_18 rfl (by decide) rfl ?_
    refine T_ldc2 (n := 2) (pc' := 22) dX12_guard_19 rfl kjX12_437 rfl (by decide) rfl ?_
    refine T_callS (av := [(1, v2), (1, 0), (1, 2)]) (st := []) (d2 := 1) (nc2 := 0) (ns2 := 0) (pc' := 25) dX12_guard_22 rfl mtX12_isIn mvX12_isIn mlX12_244 rfl rfl (Nat.le_of_ble_eq_true rfl) (by decide) ⟨by decide, by decide⟩ rfl (pX12_isIn (E := E) (h := h) (M := M) (v0 := v2) (v2 := 0) (v4 := 2) hG) (kF (st2 := [(0, (fX12_isIn v2 0 2))]) rfl (fun hG5 => ?_))
    refine T_if_eq (pc' := 44) dX12_guard_25 (by decide) (pf := 28) rfl (fun c6 => ?_) (fun c6 => ?_)
    · skip
      refine T_iconst (pc' := 45) dX12_guard_44 (by decide) rfl ?_
      exact T_wk (L' := [(3, 0), (3, 0), (3, 0)]) (by have q := HJ3; try simp only [if_neg c4] at q; try simp only [if_pos c6] at q; exact q) ⟨Or.inl rfl, Or.inl rfl, Or.inl rfl, trivial⟩
    · skip
      refine T_aload_n (i := 0) (pc' := 29) dX12_guard_28 rfl rfl rfl ?_
      refine U_gr (q := 89) (k := 32) (kI := 32) (pc' := 32) dX12_guard_29 rfl cl12 (by decide) rfl (by decide) flX12_83 rfl rfl rfl (G_at hG 89 rfl) (by decide) rfl ?_
      refine T_bipush (pc' := 34) dX12_guard_32 rfl (by decide) rfl ?_
      refine T_iconst (pc' := 35) dX12_guard_34 (by decide) rfl ?_
      refine T_iload_n (i := 1) (pc' := 36) dX12_guard_35 rfl rfl rfl ?_
      refine T_imul (pc' := 37) dX12_guard_36 rfl ?_
      refine T_iadd (pc' := 38) dX12_guard_37 rfl ?_
      refine T_iload_n (i := 2) (pc' := 39) dX12_guard_38 rfl rfl rfl ?_
      refine T_iadd (pc' := 40) dX12_guard_39 rfl ?_
      refine T_iald (pc' := 41) dX12_guard_40 (by decide) rfl (o1 c4 c6).1 (o1 c4 c6).2 rfl ?_
      refine T_goto (pc' := 45) dX12_guard_41 (by decide) ?_
      exact T_wk (L' := [(3, 0), (3, 0), (3, 0)]) (by have q := HJ3; try simp only [if_neg c4] at q; try simp only [if_neg c6] at q; exact q) ⟨Or.inl rfl, Or.inl rfl, Or.inl rfl, trivial⟩
def lX12_outBy_8  : Nat → Int → Int → Int → Int → Int → Mem → Int
  | 0, v1, v2, v3, v4, v5, M => (if v2 = 0 then v3 else v4)
  | k + 1, v1, v2, v3, v4, v5, M => (lX12_outBy_8 k v1 v2 (if (fX12_isComing M v5) = 0 then v3 else (if (M 98 v5) = (-1) then v3 else (if (fX12_whereIn M v5 (M 98 v5)) = (M 90 (wr32 (6 + v1))) then (wr32 (v3 + 1)) else v3))) (if (fX12_isComing M v5) = 0 then v4 else (if (M 98 v5) = (-1) then v4 else (if (fX12_whereIn M v5 (M 98 v5)) = (M 90 (wr32 (6 + v1))) then (if (M 98 v5) ≤ v4 then v4 else (M 98 v5)) else v4))) (v5 + 1) M)
def nlX12_outBy_8  : Nat → Int → Int → Int → Int → Int → Mem → Prop
  | 0, v1, v2, v3, v4, v5, M => True
  | k + 1, v1, v2, v3, v4, v5, M => (¬ ((fX12_isComing M v5) = 0) → 0 ≤ v5 ∧ v5 < 9) ∧ (¬ ((fX12_isComing M v5) = 0) → ¬ ((M 98 v5) = (-1)) → 0 ≤ v5 ∧ v5 < 9) ∧ (¬ ((fX12_isComing M v5) = 0) → ¬ ((M 98 v5) = (-1)) → (nX12_whereIn v5 (M 98 v5))) ∧ (¬ ((fX12_isComing M v5) = 0) → ¬ ((M 98 v5) = (-1)) → 0 ≤ (wr32 (6 + v1)) ∧ (wr32 (6 + v1)) < 12) ∧ (¬ ((fX12_isComing M v5) = 0) → ¬ ((M 98 v5) = (-1)) → (fX12_whereIn M v5 (M 98 v5)) = (M 90 (wr32 (6 + v1))) → 0 ≤ v5 ∧ v5 < 9) ∧ (¬ ((fX12_isComing M v5) = 0) → ¬ ((M 98 v5) = (-1)) → (fX12_whereIn M v5 (M 98 v5)) = (M 90 (wr32 (6 + v1))) → ¬ ((M 98 v5) ≤ v4) → 0 ≤ v5 ∧ v5 < 9) ∧ ((nlX12_outBy_8 k v1 v2 (if (fX12_isComing M v5) = 0 then v3 else (if (M 98 v5) = (-1) then v3 else (if (fX12_whereIn M v5 (M 98 v5)) = (M 90 (wr32 (6 + v1))) then (wr32 (v3 + 1)) else v3))) (if (fX12_isComing M v5) = 0 then v4 else (if (M 98 v5) = (-1) then v4 else (if (fX12_whereIn M v5 (M 98 v5)) = (M 90 (wr32 (6 + v1))) then (if (M 98 v5) ≤ v4 then v4 else (M 98 v5)) else v4))) (v5 + 1) M))
set_option maxRecDepth 100000 in
set_option maxHeartbeats 2000000 in
theorem qX12_outBy_8 {E : EV} {h : Int} {Q : Option MV → Mem → Prop}   : ∀ (k : Nat) (v1 v2 v3 v4 v5 : Int) (M : Mem), 0 ≤ v5 → (((fX12_peopleMany M)) - v5).toNat = k → (nlX12_outBy_8 k v1 v2 v3 v4 v5 M) → Q (some (0, (lX12_outBy_8 k v1 v2 v3 v4 v5 M))) M → G h M → TG E miX12_outBy 4 h Q 8 [(2, 66), (0, v1), (0, v2), (0, v3), (0, v4), (0, v5)] [] M := by
  intro k
  induction k with
  | zero =>
    intro v1 v2 v3 v4 v5 M hv0 hk hs hQ hG
    have hQ : Q (some (0, (if v2 = 0 then v3 else v4))) M := hQ
    have hs : True := hs
    refine T_iload (i := 5) (pc' := 10) dX12_outBy_8 rfl rfl ?_
    refine T_aload_n (i := 0) (pc' := 11) dX12_outBy_10 rfl rfl rfl ?_
    refine T_callV (av := []) (st := [(0, v5)]) (d2 := 1) (nc2 := 0) (ns2 := 0) (pc' := 14) dX12_outBy_11 rfl mtX12_peopleMany mvX12_peopleMany mlX12_349 cl12 rfl rfl rfl (Nat.le_of_ble_eq_true rfl) (by decide) ⟨by decide, by decide⟩ rfl (pX12_peopleMany (E := E) (h := h) (M := M) hG) (kF (st2 := [(0, (fX12_peopleMany M)), (0, v5)]) rfl (fun hG1 => ?_))
    refine T_rng (fun _ z9 _ => ?_)
    have hB : r32 (fX12_peopleMany M) := (ok_cons.mp z9).1
    unfold r32 at hB
    refine T_icmp_ge (pc' := 95) dX12_outBy_14 (by decide) (pf := 17) rfl (fun c2 => ?_) (fun c2 => ?_)
    · skip
      refine T_iload_n (i := 2) (pc' := 96) dX12_outBy_95 rfl rfl rfl ?_
      have HJ3 : T E miX12_outBy 4 126 0 0 (fun r S M' => S = S0 ∧ G h M' ∧ Q r M') 105 [(3, 0), (3, 0), (3, 0), (3, 0), (3, 0), (3, 0)] [(0, (if v2 = 0 then v3 else v4))] S0 M 0 0 := by
        exact T_iret dX12_outBy_105 rfl ⟨rfl, hG, hQ⟩
      refine T_if_eq (pc' := 104) dX12_outBy_96 (by decide) (pf := 99) rfl (fun c4 => ?_) (fun c4 => ?_)
      · skip
        refine T_iload_n (i := 3) (pc' := 105) dX12_outBy_104 rfl rfl rfl ?_
        exact T_wk (L' := [(3, 0), (3, 0), (3, 0), (3, 0), (3, 0), (3, 0)]) (by have q := HJ3; try simp only [if_pos c4] at q; exact q) ⟨Or.inl rfl, Or.inl rfl, Or.inl rfl, Or.inl rfl, Or.inl rfl, Or.inl rfl, trivial⟩
      · skip
        refine T_iload (i := 4) (pc' := 101) dX12_outBy_99 rfl rfl ?_
        refine T_goto (pc' := 105) dX12_outBy_101 (by decide) ?_
        exact T_wk (L' := [(3, 0), (3, 0), (3, 0), (3, 0), (3, 0), (3, 0)]) (by have q := HJ3; try simp only [if_neg c4] at q; exact q) ⟨Or.inl rfl, Or.inl rfl, Or.inl rfl, Or.inl rfl, Or.inl rfl, Or.inl rfl, trivial⟩
    · exact absurd c2 (by omega)
  | succ k ih =>
    intro v1 v2 v3 v4 v5 M hv0 hk hs hQ hG
    have hQ : Q (some (0, (lX12_outBy_8 k v1 v2 (if (fX12_isComing M v5) = 0 then v3 else (if (M 98 v5) = (-1) then v3 else (if (fX12_whereIn M v5 (M 98 v5)) = (M 90 (wr32 (6 + v1))) then (wr32 (v3 + 1)) else v3))) (if (fX12_isComing M v5) = 0 then v4 else (if (M 98 v5) = (-1) then v4 else (if (fX12_whereIn M v5 (M 98 v5)) = (M 90 (wr32 (6 + v1))) then (if (M 98 v5) ≤ v4 then v4 else (M 98 v5)) else v4))) (v5 + 1) M))) M := hQ
    have hs : (¬ ((fX12_isComing M v5) = 0) → 0 ≤ v5 ∧ v5 < 9) ∧ (¬ ((fX12_isComing M v5) = 0) → ¬ ((M 98 v5) = (-1)) → 0 ≤ v5 ∧ v5 < 9) ∧ (¬ ((fX12_isComing M v5) = 0) → ¬ ((M 98 v5) = (-1)) → (nX12_whereIn v5 (M 98 v5))) ∧ (¬ ((fX12_isComing M v5) = 0) → ¬ ((M 98 v5) = (-1)) → 0 ≤ (wr32 (6 + v1)) ∧ (wr32 (6 + v1)) < 12) ∧ (¬ ((fX12_isComing M v5) = 0) → ¬ ((M 98 v5) = (-1)) → (fX12_whereIn M v5 (M 98 v5)) = (M 90 (wr32 (6 + v1))) → 0 ≤ v5 ∧ v5 < 9) ∧ (¬ ((fX12_isComing M v5) = 0) → ¬ ((M 98 v5) = (-1)) → (fX12_whereIn M v5 (M 98 v5)) = (M 90 (wr32 (6 + v1))) → ¬ ((M 98 v5) ≤ v4) → 0 ≤ v5 ∧ v5 < 9) ∧ ((nlX12_outBy_8 k v1 v2 (if (fX12_isComing M v5) = 0 then v3 else (if (M 98 v5) = (-1) then v3 else (if (fX12_whereIn M v5 (M 98 v5)) = (M 90 (wr32 (6 + v1))) then (wr32 (v3 + 1)) else v3))) (if (fX12_isComing M v5) = 0 then v4 else (if (M 98 v5) = (-1) then v4 else (if (fX12_whereIn M v5 (M 98 v5)) = (M 90 (wr32 (6 + v1))) then (if (M 98 v5) ≤ v4 then v4 else (M 98 v5)) else v4))) (v5 + 1) M)) := hs
    obtain ⟨n1, n2, n3, n4, n5, n6, n7⟩ := hs
    refine T_iload (i := 5) (pc' := 10) dX12_outBy_8 rfl rfl ?_
    refine T_aload_n (i := 0) (pc' := 11) dX12_outBy_10 rfl rfl rfl ?_
    refine T_callV (av := []) (st := [(0, v5)]) (d2 := 1) (nc2 := 0) (ns2 := 0) (pc' := 14) dX12_outBy_11 rfl mtX12_peopleMany mvX12_peopleMany mlX12_349 cl12 rfl rfl rfl (Nat.le_of_ble_eq_true rfl) (by decide) ⟨by decide, by decide⟩ rfl (pX12_peopleMany (E := E) (h := h) (M := M) hG) (kF (st2 := [(0, (fX12_peopleMany M)), (0, v5)]) rfl (fun hG1 => ?_))
    refine T_rng (fun _ z9 _ => ?_)
    have hB : r32 (fX12_peopleMany M) := (ok_cons.mp z9).1
    unfold r32 at hB
    refine T_icmp_ge (pc' := 95) dX12_outBy_14 (by decide) (pf := 17) rfl (fun c2 => ?_) (fun c2 => ?_)
    · exact absurd c2 (by omega)
    · skip
      have hw : wr32 (v5 + 1) = v5 + 1 := wr32_id (by unfold r32; omega)
      refine T_aload_n (i := 0) (pc' := 18) dX12_outBy_17 rfl rfl rfl ?_
      refine T_iload (i := 5) (pc' := 20) dX12_outBy_18 rfl rfl ?_
      refine T_callV (av := [(0, v5)]) (st := []) (d2 := 3) (nc2 := 0) (ns2 := 0) (pc' := 23) dX12_outBy_20 rfl mtX12_isComing mvX12_isComing mlX12_376 cl12 rfl rfl rfl (Nat.le_of_ble_eq_true rfl) (by decide) ⟨by decide, by decide⟩ rfl (pX12_isComing (E := E) (h := h) (M := M) (v1 := v5) hG) (kF (st2 := [(0, (fX12_isComing M v5))]) rfl (fun hG5 => ?_))
      have HJ6 : T E miX12_outBy 4 126 0 0 (fun r S M' => S = S0 ∧ G h M' ∧ Q r M') 89 [(2, 66), (0, v1), (0, v2), (0, (if (fX12_isComing M v5) = 0 then v3 else (if (M 98 v5) = (-1) then v3 else (if (fX12_whereIn M v5 (M 98 v5)) = (M 90 (wr32 (6 + v1))) then (wr32 (v3 + 1)) else v3)))), (0, (if (fX12_isComing M v5) = 0 then v4 else (if (M 98 v5) = (-1) then v4 else (if (fX12_whereIn M v5 (M 98 v5)) = (M 90 (wr32 (6 + v1))) then (if (M 98 v5) ≤ v4 then v4 else (M 98 v5)) else v4)))), (0, v5)] [] S0 M 0 0 := by
        refine T_iinc (L' := [(2, 66), (0, v1), (0, v2), (0, (if (fX12_isComing M v5) = 0 then v3 else (if (M 98 v5) = (-1) then v3 else (if (fX12_whereIn M v5 (M 98 v5)) = (M 90 (wr32 (6 + v1))) then (wr32 (v3 + 1)) else v3)))), (0, (if (fX12_isComing M v5) = 0 then v4 else (if (M 98 v5) = (-1) then v4 else (if (fX12_whereIn M v5 (M 98 v5)) = (M 90 (wr32 (6 + v1))) then (if (M 98 v5) ≤ v4 then v4 else (M 98 v5)) else v4)))), (0, (wr32 (v5 + 1)))]) (pc' := 92) dX12_outBy_89 rfl (by decide) rfl rfl ?_
        refine T_goto (pc' := 8) dX12_outBy_92 (by decide) ?_
        rw [hw]
        exact T_wk (ih _ _ _ _ (v5 + 1) _ (by omega) (by omega) (n7) hQ hG) ⟨Or.inr rfl, Or.inr rfl, Or.inr rfl, Or.inr rfl, Or.inr rfl, Or.inr rfl, trivial⟩
      refine T_if_eq (pc' := 89) dX12_outBy_23 (by decide) (pf := 26) rfl (fun c7 => ?_) (fun c7 => ?_)
      · skip
        exact T_wk (L' := [(2, 66), (0, v1), (0, v2), (0, v3), (0, v4), (0, v5)]) (by have q := HJ6; try simp only [if_pos c7] at q; exact q) ⟨Or.inr rfl, Or.inr rfl, Or.inr rfl, Or.inr rfl, Or.inr rfl, Or.inr rfl, trivial⟩
      · skip
        refine T_aload_n (i := 0) (pc' := 27) dX12_outBy_26 rfl rfl rfl ?_
        refine U_gr (q := 98) (k := 48) (kI := 48) (pc' := 30) dX12_outBy_27 rfl cl12 (by decide) rfl (by decide) flX12_110 rfl rfl rfl (G_at hG 98 rfl) (by decide) rfl ?_
        refine T_iload (i := 5) (pc' := 32) dX12_outBy_30 rfl rfl ?_
        refine T_iald (pc' := 33) dX12_outBy_32 (by decide) rfl (n1 c7).1 (n1 c7).2 rfl ?_
        refine T_iconst (pc' := 34) dX12_outBy_33 (by decide) rfl ?_
        refine T_icmp_eq (pc' := 89) dX12_outBy_34 (by decide) (pf := 37) rfl (fun c8 => ?_) (fun c8 => ?_)
        · skip
          exact T_wk (L' := [(2, 66), (0, v1), (0, v2), (0, v3), (0, v4), (0, v5)]) (by have q := HJ6; try simp only [if_neg c7] at q; try simp only [if_pos c8] at q; exact q) ⟨Or.inr rfl, Or.inr rfl, Or.inr rfl, Or.inr rfl, Or.inr rfl, Or.inr rfl, trivial⟩
        · skip
          refine T_aload_n (i := 0) (pc' := 38) dX12_outBy_37 rfl rfl rfl ?_
          refine T_iload (i := 5) (pc' := 40) dX12_outBy_38 rfl rfl ?_
          refine T_aload_n (i := 0) (pc' := 41) dX12_outBy_40 rfl rfl rfl ?_
          refine U_gr (q := 98) (k := 48) (kI := 48) (pc' := 44) dX12_outBy_41 rfl cl12 (by decide) rfl (by decide) flX12_110 rfl rfl rfl (G_at hG 98 rfl) (by decide) rfl ?_
          refine T_iload (i := 5) (pc' := 46) dX12_outBy_44 rfl rfl ?_
          refine T_iald (pc' := 47) dX12_outBy_46 (by decide) rfl (n2 c7 c8).1 (n2 c7 c8).2 rfl ?_
          refine T_callV (av := [(0, v5), (0, (M 98 v5))]) (st := []) (d2 := 1) (nc2 := 0) (ns2 := 0) (pc' := 50) dX12_outBy_47 rfl mtX12_whereIn mvX12_whereIn mlX12_383 cl12 rfl rfl rfl (Nat.le_of_ble_eq_true rfl) (by decide) ⟨by decide, by decide⟩ rfl (pX12_whereIn (E := E) (h := h) (M := M) (v1 := v5) (v2 := (M 98 v5)) (n3 c7 c8) hG) (kF (st2 := [(0, (fX12_whereIn M v5 (M 98 v5)))]) rfl (fun hG9 => ?_))
          refine T_aload_n (i := 0) (pc' := 51) dX12_outBy_50 rfl rfl rfl ?_
          refine U_gr (q := 90) (k := 33) (kI := 33) (pc' := 54) dX12_outBy_51 rfl cl12 (by decide) rfl (by decide) flX12_86 rfl rfl rfl (G_at hG 90 rfl) (by decide) rfl ?_
          refine T_bipush (pc' := 56) dX12_outBy_54 rfl (by decide) rfl ?_
          refine T_iload_n (i := 1) (pc' := 57) dX12_outBy_56 rfl rfl rfl ?_
          refine T_iadd (pc' := 58) dX12_outBy_57 rfl ?_
          refine T_iald (pc' := 59) dX12_outBy_58 (by decide) rfl (n4 c7 c8).1 (n4 c7 c8).2 rfl ?_
          refine T_icmp_eq (pc' := 65) dX12_outBy_59 (by decide) (pf := 62) rfl (fun c10 => ?_) (fun c10 => ?_)
          · skip
            refine T_iinc (L' := [(2, 66), (0, v1), (0, v2), (0, (wr32 (v3 + 1))), (0, v4), (0, v5)]) (pc' := 68) dX12_outBy_65 rfl (by decide) rfl rfl ?_
            refine T_aload_n (i := 0) (pc' := 69) dX12_outBy_68 rfl rfl rfl ?_
            refine U_gr (q := 98) (k := 48) (kI := 48) (pc' := 72) dX12_outBy_69 rfl cl12 (by decide) rfl (by decide) flX12_110 rfl rfl rfl (G_at hG 98 rfl) (by decide) rfl ?_
            refine T_iload (i := 5) (pc' := 74) dX12_outBy_72 rfl rfl ?_
            refine T_iald (pc' := 75) dX12_outBy_74 (by decide) rfl (n5 c7 c8 c10).1 (n5 c7 c8 c10).2 rfl ?_
            refine T_iload (i := 4) (pc' := 77) dX12_outBy_75 rfl rfl ?_
            refine T_icmp_le (pc' := 89) dX12_outBy_77 (by decide) (pf := 80) rfl (fun c11 => ?_) (fun c11 => ?_)
            · skip
              exact T_wk (L' := [(2, 66), (0, v1), (0, v2), (0, (wr32 (v3 + 1))), (0, v4), (0, v5)]) (by have q := HJ6; try simp only [if_neg c7] at q; try simp only [if_neg c8] at q; try simp only [if_pos c10] at q; try simp only [if_pos c11] at q; exact q) ⟨Or.inr rfl, Or.inr rfl, Or.inr rfl, Or.inr rfl, Or.inr rfl, Or.inr rfl, trivial⟩
            · skip
              refine T_aload_n (i := 0) (pc' := 81) dX12_outBy_80 rfl rfl rfl ?_
              refine U_gr (q := 98) (k := 48) (kI := 48) (pc' := 84) dX12_outBy_81 rfl cl12 (by decide) rfl (by decide) flX12_110 rfl rfl rfl (G_at hG 98 rfl) (by decide) rfl ?_
              refine T_iload (i := 5) (pc' := 86) dX12_outBy_84 rfl rfl ?_
              refine T_iald (pc' := 87) dX12_outBy_86 (by decide) rfl (n6 c7 c8 c10 c11).1 (n6 c7 c8 c10 c11).2 rfl ?_
              refine T_istore (i := 4) (L' := [(2, 66), (0, v1), (0, v2), (0, (wr32 (v3 + 1))), (0, (M 98 v5)), (0, v5)]) (pc' := 89) dX12_outBy_87 (by decide) rfl rfl ?_
              exact T_wk (L' := [(2, 66), (0, v1), (0, v2), (0, (wr32 (v3 + 1))), (0, (M 98 v5)), (0, v5)]) (by have q := HJ6; try simp only [if_neg c7] at q; try simp only [if_neg c8] at q; try simp only [if_pos c10] at q; try simp only [if_neg c11] at q; exact q) ⟨Or.inr rfl, Or.inr rfl, Or.inr rfl, Or.inr rfl, Or.inr rfl, Or.inr rfl, trivial⟩
          · skip
            refine T_goto (pc' := 89) dX12_outBy_62 (by decide) ?_
            exact T_wk (L' := [(2, 66), (0, v1), (0, v2), (0, v3), (0, v4), (0, v5)]) (by have q := HJ6; try simp only [if_neg c7] at q; try simp only [if_neg c8] at q; try simp only [if_neg c10] at q; exact q) ⟨Or.inr rfl, Or.inr rfl, Or.inr rfl, Or.inr rfl, Or.inr rfl, Or.inr rfl, trivial⟩
def fX12_outBy (M : Mem) (v1 : Int) (v2 : Int) : Int :=
  (lX12_outBy_8 ((((fX12_peopleMany M)) : Int) - 0).toNat v1 v2 0 (-1) 0 M)
def nX12_outBy (M : Mem) (v1 : Int) (v2 : Int) : Prop :=
  ((nlX12_outBy_8 ((((fX12_peopleMany M)) : Int) - 0).toNat v1 v2 0 (-1) 0 M))
set_option maxRecDepth 100000 in
theorem pX12_outBy {E : EV} {h : Int} {M : Mem} {v1 : Int} {v2 : Int} (hs : (nX12_outBy M v1 v2)) : C2 E miX12_outBy 4 h [(2, 66), (0, v1), (0, v2)] M (fun r M' => r = some (0, (fX12_outBy M v1 v2)) ∧ M' = M) := by
  obtain ⟨Q, hQ0⟩ : ∃ Q : Option MV → Mem → Prop, Q = (fun r M' => r = some (0, (fX12_outBy M v1 v2)) ∧ M' = M) := ⟨_, rfl⟩
  rw [← hQ0]
  have hQ : Q (some (0, (lX12_outBy_8 ((((fX12_peopleMany M)) : Int) - 0).toNat v1 v2 0 (-1) 0 M))) M := by rw [hQ0]; exact ⟨rfl, rfl⟩
  have o1 := hs
  refine C2_of (L := [(2, 66), (0, v1), (0, v2), (3, 0), (3, 0), (3, 0)]) (by decide +kernel) (Nat.le_of_ble_eq_true rfl) rfl (fun hG => ?_)
  refine T_iconst (pc' := 1) dX12_outBy_0 (by decide) rfl ?_
  refine T_istore_n (i := 3) (L' := [(2, 66), (0, v1), (0, v2), (0, 0), (3, 0), (3, 0)]) (pc' := 2) dX12_outBy_1 rfl (by decide) rfl rfl ?_
  refine T_iconst (pc' := 3) dX12_outBy_2 (by decide) rfl ?_
  refine T_istore (i := 4) (L' := [(2, 66), (0, v1), (0, v2), (0, 0), (0, (-1)), (3, 0)]) (pc' := 5) dX12_outBy_3 (by decide) rfl rfl ?_
  refine T_iconst (pc' := 6) dX12_outBy_5 (by decide) rfl ?_
  refine T_istore (i := 5) (L' := [(2, 66), (0, v1), (0, v2), (0, 0), (0, (-1)), (0, 0)]) (pc' := 8) dX12_outBy_6 (by decide) rfl rfl ?_
  exact T_wk (qX12_outBy_8  _ v1 v2 0 (-1) 0 _ (by first | decide | omega) rfl (o1) hQ hG) ⟨Or.inr rfl, Or.inr rfl, Or.inr rfl, Or.inr rfl, Or.inr rfl, Or.inr rfl, trivial⟩
def fX12_isSecond (v0 : Int) : Int :=
  (fX12_isIn v0 0 200)
set_option maxRecDepth 100000 in
theorem pX12_isSecond {E : EV} {h : Int} {M : Mem} {v0 : Int}  : C2 E miX12_isSecond 2 h [(0, v0)] M (fun r M' => r = some (0, (fX12_isSecond v0)) ∧ M' = M) := by
  obtain ⟨Q, hQ⟩ : ∃ Q : Option MV → Mem → Prop, Q = (fun r M' => r = some (0, (fX12_isSecond v0)) ∧ M' = M) := ⟨_, rfl⟩
  rw [← hQ]
  refine C2_of (L := [(0, v0)]) (by decide +kernel) (Nat.le_of_ble_eq_true rfl) rfl (fun hG => ?_)
  refine T_iload_n (i := 0) (pc' := 1) dX12_isSecond_0 rfl rfl rfl ?_
  refine T_i2l (pc' := 2) dX12_isSecond_1 rfl ?_
  refine T_lconst (v := 0) (pc' := 3) dX12_isSecond_2 rfl (by decide) rfl ?_
  refine T_ldc2 (n := 200) (pc' := 6) dX12_isSecond_3 rfl kjX12_448 rfl (by decide) rfl ?_
  refine T_callS (av := [(1, v0), (1, 0), (1, 200)]) (st := []) (d2 := 1) (nc2 := 0) (ns2 := 0) (pc' := 9) dX12_isSecond_6 rfl mtX12_isIn mvX12_isIn mlX12_244 rfl rfl (Nat.le_of_ble_eq_true rfl) (by decide) ⟨by decide, by decide⟩ rfl (pX12_isIn (E := E) (h := h) (M := M) (v0 := v0) (v2 := 0) (v4 := 200) hG) (kF (st2 := [(0, (fX12_isIn v0 0 200))]) rfl (fun hG1 => ?_))
  exact T_zret dX12_isSecond_9 rfl (by repeat' (first | apply bi | exact Or.inl rfl | exact Or.inr rfl | apply fbX12_isIn)) ⟨rfl, hG, (by rw [hQ]; exact ⟨rfl, rfl⟩)⟩
theorem fbX12_isSecond (v0 : Int) : (fX12_isSecond v0) = 0 ∨ (fX12_isSecond v0) = 1 := by
  unfold fX12_isSecond
  repeat' (first | apply bi | exact Or.inl rfl | exact Or.inr rfl | apply fbX12_isIn)
def lX12_peak_4  : Nat → Int → Int → Mem → Int
  | 0, v1, v2, M => v1
  | k + 1, v1, v2, M => (lX12_peak_4 k (if (fX12_openMany M v2) ≤ (fX12_openMany M v1) then v1 else v2) (v2 + 1) M)
def nlX12_peak_4  : Nat → Int → Int → Mem → Prop
  | 0, v1, v2, M => True
  | k + 1, v1, v2, M => ((nX12_openMany M v2)) ∧ ((nX12_openMany M v1)) ∧ ((nlX12_peak_4 k (if (fX12_openMany M v2) ≤ (fX12_openMany M v1) then v1 else v2) (v2 + 1) M))
set_option maxRecDepth 100000 in
set_option maxHeartbeats 2000000 in
theorem qX12_peak_4 {E : EV} {h : Int} {Q : Option MV → Mem → Prop}   : ∀ (k : Nat) (v1 v2 : Int) (M : Mem), 0 ≤ v2 → ((201) - v2).toNat = k → (nlX12_peak_4 k v1 v2 M) → Q (some (0, (lX12_peak_4 k v1 v2 M))) M → G h M → TG E miX12_peak 5 h Q 4 [(2, 66), (0, v1), (0, v2)] [] M := by
  intro k
  induction k with
  | zero =>
    intro v1 v2 M hv0 hk hs hQ hG
    have hQ : Q (some (0, v1)) M := hQ
    have hs : True := hs
    refine T_iload_n (i := 2) (pc' := 5) dX12_peak_4 rfl rfl rfl ?_
    refine T_sipush (pc' := 8) dX12_peak_5 rfl (by decide) rfl ?_
    refine T_rng (fun _ z9 _ => ?_)
    have hB : r32 200 := (ok_cons.mp z9).1
    unfold r32 at hB
    refine T_icmp_gt (pc' := 32) dX12_peak_8 (by decide) (pf := 11) rfl (fun c1 => ?_) (fun c1 => ?_)
    · skip
      refine T_iload_n (i := 1) (pc' := 33) dX12_peak_32 rfl rfl rfl ?_
      exact T_iret dX12_peak_33 rfl ⟨rfl, hG, hQ⟩
    · exact absurd c1 (by omega)
  | succ k ih =>
    intro v1 v2 M hv0 hk hs hQ hG
    have hQ : Q (some (0, (lX12_peak_4 k (if (fX12_openMany M v2) ≤ (fX12_openMany M v1) then v1 else v2) (v2 + 1) M))) M := hQ
    have hs : ((nX12_openMany M v2)) ∧ ((nX12_openMany M v1)) ∧ ((nlX12_peak_4 k (if (fX12_openMany M v2) ≤ (fX12_openMany M v1) then v1 else v2) (v2 + 1) M)) := hs
    obtain ⟨n1, n2, n3⟩ := hs
    refine T_iload_n (i := 2) (pc' := 5) dX12_peak_4 rfl rfl rfl ?_
    refine T_sipush (pc' := 8) dX12_peak_5 rfl (by decide) rfl ?_
    refine T_rng (fun _ z9 _ => ?_)
    have hB : r32 200 := (ok_cons.mp z9).1
    unfold r32 at hB
    refine T_icmp_gt (pc' := 32) dX12_peak_8 (by decide) (pf := 11) rfl (fun c1 => ?_) (fun c1 => ?_)
    · exact absurd c1 (by omega)
    · skip
      have hw : wr32 (v2 + 1) = v2 + 1 := wr32_id (by unfold r32; omega)
      refine T_aload_n (i := 0) (pc' := 12) dX12_peak_11 rfl rfl rfl ?_
      refine T_iload_n (i := 2) (pc' := 13) dX12_peak_12 rfl rfl rfl ?_
      refine T_callV (av := [(0, v2)]) (st := []) (d2 := 4) (nc2 := 0) (ns2 := 0) (pc' := 16) dX12_peak_13 rfl mtX12_openMany mvX12_openMany mlX12_426 cl12 rfl rfl rfl (Nat.le_of_ble_eq_true rfl) (by decide) ⟨by decide, by decide⟩ rfl (pX12_openMany (E := E) (h := h) (M := M) (v1 := v2) (n1) hG) (kF (st2 := [(0, (fX12_openMany M v2))]) rfl (fun hG2 => ?_))
      refine T_aload_n (i := 0) (pc' := 17) dX12_peak_16 rfl rfl rfl ?_
      refine T_iload_n (i := 1) (pc' := 18) dX12_peak_17 rfl rfl rfl ?_
      refine T_callV (av := [(0, v1)]) (st := [(0, (fX12_openMany M v2))]) (d2 := 4) (nc2 := 0) (ns2 := 0) (pc' := 21) dX12_peak_18 rfl mtX12_openMany mvX12_openMany mlX12_426 cl12 rfl rfl rfl (Nat.le_of_ble_eq_true rfl) (by decide) ⟨by decide, by decide⟩ rfl (pX12_openMany (E := E) (h := h) (M := M) (v1 := v1) (n2) hG) (kF (st2 := [(0, (fX12_openMany M v1)), (0, (fX12_openMany M v2))]) rfl (fun hG3 => ?_))
      have HJ4 : T E miX12_peak 5 126 0 0 (fun r S M' => S = S0 ∧ G h M' ∧ Q r M') 26 [(2, 66), (0, (if (fX12_openMany M v2) ≤ (fX12_openMany M v1) then v1 else v2)), (0, v2)] [] S0 M 0 0 := by
        refine T_iinc (L' := [(2, 66), (0, (if (fX12_openMany M v2) ≤ (fX12_openMany M v1) then v1 else v2)), (0, (wr32 (v2 + 1)))]) (pc' := 29) dX12_peak_26 rfl (by decide) rfl rfl ?_
        refine T_goto (pc' := 4) dX12_peak_29 (by decide) ?_
        rw [hw]
        exact T_wk (ih _ (v2 + 1) _ (by omega) (by omega) (n3) hQ hG) ⟨Or.inr rfl, Or.inr rfl, Or.inr rfl, trivial⟩
      refine T_icmp_le (pc' := 26) dX12_peak_21 (by decide) (pf := 24) rfl (fun c5 => ?_) (fun c5 => ?_)
      · skip
        exact T_wk (L' := [(2, 66), (0, v1), (0, v2)]) (by have q := HJ4; try simp only [if_pos c5] at q; exact q) ⟨Or.inr rfl, Or.inr rfl, Or.inr rfl, trivial⟩
      · skip
        refine T_iload_n (i := 2) (pc' := 25) dX12_peak_24 rfl rfl rfl ?_
        refine T_istore_n (i := 1) (L' := [(2, 66), (0, v2), (0, v2)]) (pc' := 26) dX12_peak_25 rfl (by decide) rfl rfl ?_
        exact T_wk (L' := [(2, 66), (0, v2), (0, v2)]) (by have q := HJ4; try simp only [if_neg c5] at q; exact q) ⟨Or.inr rfl, Or.inr rfl, Or.inr rfl, trivial⟩
def fX12_peak (M : Mem) : Int :=
  (lX12_peak_4 200 0 1 M)
def nX12_peak (M : Mem) : Prop :=
  ((nlX12_peak_4 200 0 1 M))
set_option maxRecDepth 100000 in
theorem pX12_peak {E : EV} {h : Int} {M : Mem}  (hs : (nX12_peak M)) : C2 E miX12_peak 5 h [(2, 66)] M (fun r M' => r = some (0, (fX12_peak M)) ∧ M' = M) := by
  obtain ⟨Q, hQ0⟩ : ∃ Q : Option MV → Mem → Prop, Q = (fun r M' => r = some (0, (fX12_peak M)) ∧ M' = M) := ⟨_, rfl⟩
  rw [← hQ0]
  have hQ : Q (some (0, (lX12_peak_4 200 0 1 M))) M := by rw [hQ0]; exact ⟨rfl, rfl⟩
  have o1 := hs
  refine C2_of (L := [(2, 66), (3, 0), (3, 0)]) (by decide +kernel) (Nat.le_of_ble_eq_true rfl) rfl (fun hG => ?_)
  refine T_iconst (pc' := 1) dX12_peak_0 (by decide) rfl ?_
  refine T_istore_n (i := 1) (L' := [(2, 66), (0, 0), (3, 0)]) (pc' := 2) dX12_peak_1 rfl (by decide) rfl rfl ?_
  refine T_iconst (pc' := 3) dX12_peak_2 (by decide) rfl ?_
  refine T_istore_n (i := 2) (L' := [(2, 66), (0, 0), (0, 1)]) (pc' := 4) dX12_peak_3 rfl (by decide) rfl rfl ?_
  exact T_wk (qX12_peak_4  200 0 1 _ (by first | decide | omega) rfl (o1) hQ hG) ⟨Or.inr rfl, Or.inr rfl, Or.inr rfl, trivial⟩
def lX12_passersOpen_4  : Nat → Int → Int → Mem → Int
  | 0, v1, v2, M => v1
  | k + 1, v1, v2, M => (lX12_passersOpen_4 k (if (fX12_isComing M v2) = 0 then v1 else (if (fX12_personOf M v2 4) = 1 then (if (M 96 v2) = (-1) then v1 else (wr32 (v1 + 1))) else v1)) (v2 + 1) M)
def nlX12_passersOpen_4  : Nat → Int → Int → Mem → Prop
  | 0, v1, v2, M => True
  | k + 1, v1, v2, M => (¬ ((fX12_isComing M v2) = 0) → (nX12_personOf v2 4)) ∧ (¬ ((fX12_isComing M v2) = 0) → (fX12_personOf M v2 4) = 1 → 0 ≤ v2 ∧ v2 < 9) ∧ ((nlX12_passersOpen_4 k (if (fX12_isComing M v2) = 0 then v1 else (if (fX12_personOf M v2 4) = 1 then (if (M 96 v2) = (-1) then v1 else (wr32 (v1 + 1))) else v1)) (v2 + 1) M))
set_option maxRecDepth 100000 in
set_option maxHeartbeats 2000000 in
theorem qX12_passersOpen_4 {E : EV} {h : Int} {Q : Option MV → Mem → Prop}   : ∀ (k : Nat) (v1 v2 : Int) (M : Mem), 0 ≤ v2 → (((fX12_peopleMany M)) - v2).toNat = k → (nlX12_passersOpen_4 k v1 v2 M) → Q (some (0, (lX12_passersOpen_4 k v1 v2 M))) M → G h M → TG E miX12_passersOpen 4 h Q 4 [(2, 66), (0, v1), (0, v2)] [] M := by
  intro k
  induction k with
  | zero =>
    intro v1 v2 M hv0 hk hs hQ hG
    have hQ : Q (some (0, v1)) M := hQ
    have hs : True := hs
    refine T_iload_n (i := 2) (pc' := 5) dX12_passersOpen_4 rfl rfl rfl ?_
    refine T_aload_n (i := 0) (pc' := 6) dX12_passersOpen_5 rfl rfl rfl ?_
    refine T_callV (av := []) (st := [(0, v2)]) (d2 := 1) (nc2 := 0) (ns2 := 0) (pc' := 9) dX12_passersOpen_6 rfl mtX12_peopleMany mvX12_peopleMany mlX12_349 cl12 rfl rfl rfl (Nat.le_of_ble_eq_true rfl) (by decide) ⟨by decide, by decide⟩ rfl (pX12_peopleMany (E := E) (h := h) (M := M) hG) (kF (st2 := [(0, (fX12_peopleMany M)), (0, v2)]) rfl (fun hG1 => ?_))
    refine T_rng (fun _ z9 _ => ?_)
    have hB : r32 (fX12_peopleMany M) := (ok_cons.mp z9).1
    unfold r32 at hB
    refine T_icmp_ge (pc' := 49) dX12_passersOpen_9 (by decide) (pf := 12) rfl (fun c2 => ?_) (fun c2 => ?_)
    · skip
      refine T_iload_n (i := 1) (pc' := 50) dX12_passersOpen_49 rfl rfl rfl ?_
      exact T_iret dX12_passersOpen_50 rfl ⟨rfl, hG, hQ⟩
    · exact absurd c2 (by omega)
  | succ k ih =>
    intro v1 v2 M hv0 hk hs hQ hG
    have hQ : Q (some (0, (lX12_passersOpen_4 k (if (fX12_isComing M v2) = 0 then v1 else (if (fX12_personOf M v2 4) = 1 then (if (M 96 v2) = (-1) then v1 else (wr32 (v1 + 1))) else v1)) (v2 + 1) M))) M := hQ
    have hs : (¬ ((fX12_isComing M v2) = 0) → (nX12_personOf v2 4)) ∧ (¬ ((fX12_isComing M v2) = 0) → (fX12_personOf M v2 4) = 1 → 0 ≤ v2 ∧ v2 < 9) ∧ ((nlX12_passersOpen_4 k (if (fX12_isComing M v2) = 0 then v1 else (if (fX12_personOf M v2 4) = 1 then (if (M 96 v2) = (-1) then v1 else (wr32 (v1 + 1))) else v1)) (v2 + 1) M)) := hs
    obtain ⟨n1, n2, n3⟩ := hs
    refine T_iload_n (i := 2) (pc' := 5) dX12_passersOpen_4 rfl rfl rfl ?_
    refine T_aload_n (i := 0) (pc' := 6) dX12_passersOpen_5 rfl rfl rfl ?_
    refine T_callV (av := []) (st := [(0, v2)]) (d2 := 1) (nc2 := 0) (ns2 := 0) (pc' := 9) dX12_passersOpen_6 rfl mtX12_peopleMany mvX12_peopleMany mlX12_349 cl12 rfl rfl rfl (Nat.le_of_ble_eq_true rfl) (by decide) ⟨by decide, by decide⟩ rfl (pX12_peopleMany (E := E) (h := h) (M := M) hG) (kF (st2 := [(0, (fX12_peopleMany M)), (0, v2)]) rfl (fun hG1 => ?_))
    refine T_rng (fun _ z9 _ => ?_)
    have hB : r32 (fX12_peopleMany M) := (ok_cons.mp z9).1
    unfold r32 at hB
    refine T_icmp_ge (pc' := 49) dX12_passersOpen_9 (by decide) (pf := 12) rfl (fun c2 => ?_) (fun c2 => ?_)
    · exact absurd c2 (by omega)
    · skip
      have hw : wr32 (v2 + 1) = v2 + 1 := wr32_id (by unfold r32; omega)
      refine T_aload_n (i := 0) (pc' := 13) dX12_passersOpen_12 rfl rfl rfl ?_
      refine T_iload_n (i := 2) (pc' := 14) dX12_passersOpen_13 rfl rfl rfl ?_
      refine T_callV (av := [(0, v2)]) (st := []) (d2 := 3) (nc2 := 0) (ns2 := 0) (pc' := 17) dX12_passersOpen_14 rfl mtX12_isComing mvX12_isComing mlX12_376 cl12 rfl rfl rfl (Nat.le_of_ble_eq_true rfl) (by decide) ⟨by decide, by decide⟩ rfl (pX12_isComing (E := E) (h := h) (M := M) (v1 := v2) hG) (kF (st2 := [(0, (fX12_isComing M v2))]) rfl (fun hG3 => ?_))
      have HJ4 : T E miX12_passersOpen 4 126 0 0 (fun r S M' => S = S0 ∧ G h M' ∧ Q r M') 43 [(2, 66), (0, (if (fX12_isComing M v2) = 0 then v1 else (if (fX12_personOf M v2 4) = 1 then (if (M 96 v2) = (-1) then v1 else (wr32 (v1 + 1))) else v1))), (0, v2)] [] S0 M 0 0 := by
        refine T_iinc (L' := [(2, 66), (0, (if (fX12_isComing M v2) = 0 then v1 else (if (fX12_personOf M v2 4) = 1 then (if (M 96 v2) = (-1) then v1 else (wr32 (v1 + 1))) else v1))), (0, (wr32 (v2 + 1)))]) (pc' := 46) dX12_passersOpen_43 rfl (by decide) rfl rfl ?_
        refine T_goto (pc' := 4) dX12_passersOpen_46 (by decide) ?_
        rw [hw]
        exact T_wk (ih _ (v2 + 1) _ (by omega) (by omega) (n3) hQ hG) ⟨Or.inr rfl, Or.inr rfl, Or.inr rfl, trivial⟩
      refine T_if_eq (pc' := 43) dX12_passersOpen_17 (by decide) (pf := 20) rfl (fun c5 => ?_) (fun c5 => ?_)
      · skip
        exact T_wk (L' := [(2, 66), (0, v1), (0, v2)]) (by have q := HJ4; try simp only [if_pos c5] at q; exact q) ⟨Or.inr rfl, Or.inr rfl, Or.inr rfl, trivial⟩
      · skip
        refine T_aload_n (i := 0) (pc' := 21) dX12_passersOpen_20 rfl rfl rfl ?_
        refine T_iload_n (i := 2) (pc' := 22) dX12_passersOpen_21 rfl rfl rfl ?_
        refine T_iconst (pc' := 23) dX12_passersOpen_22 (by decide) rfl ?_
        refine T_callV (av := [(0, v2), (0, 4)]) (st := []) (d2 := 1) (nc2 := 0) (ns2 := 0) (pc' := 26) dX12_passersOpen_23 rfl mtX12_personOf mvX12_personOf mlX12_373 cl12 rfl rfl rfl (Nat.le_of_ble_eq_true rfl) (by decide) ⟨by decide, by decide⟩ rfl (pX12_personOf (E := E) (h := h) (M := M) (v1 := v2) (v2 := 4) (n1 c5) hG) (kF (st2 := [(0, (fX12_personOf M v2 4))]) rfl (fun hG6 => ?_))
        refine T_iconst (pc' := 27) dX12_passersOpen_26 (by decide) rfl ?_
        refine T_icmp_ne (pc' := 43) dX12_passersOpen_27 (by decide) (pf := 30) rfl (fun c7 => ?_) (fun c7 => ?_)
        · skip
          exact T_wk (L' := [(2, 66), (0, v1), (0, v2)]) (by have q := HJ4; try simp only [if_neg c5] at q; try simp only [if_neg c7] at q; exact q) ⟨Or.inr rfl, Or.inr rfl, Or.inr rfl, trivial⟩
        · skip
          refine T_aload_n (i := 0) (pc' := 31) dX12_passersOpen_30 rfl rfl rfl ?_
          refine U_gr (q := 96) (k := 46) (kI := 46) (pc' := 34) dX12_passersOpen_31 rfl cl12 (by decide) rfl (by decide) flX12_104 rfl rfl rfl (G_at hG 96 rfl) (by decide) rfl ?_
          refine T_iload_n (i := 2) (pc' := 35) dX12_passersOpen_34 rfl rfl rfl ?_
          refine T_iald (pc' := 36) dX12_passersOpen_35 (by decide) rfl (n2 c5 c7).1 (n2 c5 c7).2 rfl ?_
          refine T_iconst (pc' := 37) dX12_passersOpen_36 (by decide) rfl ?_
          refine T_icmp_eq (pc' := 43) dX12_passersOpen_37 (by decide) (pf := 40) rfl (fun c8 => ?_) (fun c8 => ?_)
          · skip
            exact T_wk (L' := [(2, 66), (0, v1), (0, v2)]) (by have q := HJ4; try simp only [if_neg c5] at q; try simp only [if_pos c7] at q; try simp only [if_pos c8] at q; exact q) ⟨Or.inr rfl, Or.inr rfl, Or.inr rfl, trivial⟩
          · skip
            refine T_iinc (L' := [(2, 66), (0, (wr32 (v1 + 1))), (0, v2)]) (pc' := 43) dX12_passersOpen_40 rfl (by decide) rfl rfl ?_
            exact T_wk (L' := [(2, 66), (0, (wr32 (v1 + 1))), (0, v2)]) (by have q := HJ4; try simp only [if_neg c5] at q; try simp only [if_pos c7] at q; try simp only [if_neg c8] at q; exact q) ⟨Or.inr rfl, Or.inr rfl, Or.inr rfl, trivial⟩
def fX12_passersOpen (M : Mem) : Int :=
  (lX12_passersOpen_4 ((((fX12_peopleMany M)) : Int) - 0).toNat 0 0 M)
def nX12_passersOpen (M : Mem) : Prop :=
  ((nlX12_passersOpen_4 ((((fX12_peopleMany M)) : Int) - 0).toNat 0 0 M))
set_option maxRecDepth 100000 in
theorem pX12_passersOpen {E : EV} {h : Int} {M : Mem}  (hs : (nX12_passersOpen M)) : C2 E miX12_passersOpen 4 h [(2, 66)] M (fun r M' => r = some (0, (fX12_passersOpen M)) ∧ M' = M) := by
  obtain ⟨Q, hQ0⟩ : ∃ Q : Option MV → Mem → Prop, Q = (fun r M' => r = some (0, (fX12_passersOpen M)) ∧ M' = M) := ⟨_, rfl⟩
  rw [← hQ0]
  have hQ : Q (some (0, (lX12_passersOpen_4 ((((fX12_peopleMany M)) : Int) - 0).toNat 0 0 M))) M := by rw [hQ0]; exact ⟨rfl, rfl⟩
  have o1 := hs
  refine C2_of (L := [(2, 66), (3, 0), (3, 0)]) (by decide +kernel) (Nat.le_of_ble_eq_true rfl) rfl (fun hG => ?_)
  refine T_iconst (pc' := 1) dX12_passersOpen_0 (by decide) rfl ?_
  refine T_istore_n (i := 1) (L' := [(2, 66), (0, 0), (3, 0)]) (pc' := 2) dX12_passersOpen_1 rfl (by decide) rfl rfl ?_
  refine T_iconst (pc' := 3) dX12_passersOpen_2 (by decide) rfl ?_
  refine T_istore_n (i := 2) (L' := [(2, 66), (0, 0), (0, 0)]) (pc' := 4) dX12_passersOpen_3 rfl (by decide) rfl rfl ?_
  exact T_wk (qX12_passersOpen_4  _ 0 0 _ (by first | decide | omega) rfl (o1) hQ hG) ⟨Or.inr rfl, Or.inr rfl, Or.inr rfl, trivial⟩
