/-! methods by program, 4 -/
def fX11_guard (M : Mem) (h : Int) (v1 : Int) (v2 : Int) : Int :=
  (if (fX1_hasGuard M h v1) = 0 then (-1) else (if v2 = 0 then (fX11_get M (h + 13) 4 v1) else (if v2 = 1 then (fX11_get M (h + 14) 4 v1) else (if v2 = 2 then (fX11_get M (h + 15) 4 v1) else (-1)))))
set_option maxRecDepth 100000 in
theorem pX11_guard {E : EV} {h : Int} {M : Mem} {v1 : Int} {v2 : Int}  : C2 E miX11_guard 2 h [(2, 0), (0, v1), (0, v2)] M (fun r M' => r = some (0, (fX11_guard M h v1 v2)) ∧ M' = M) := by
  obtain ⟨Q, hQ⟩ : ∃ Q : Option MV → Mem → Prop, Q = (fun r M' => r = some (0, (fX11_guard M h v1 v2)) ∧ M' = M) := ⟨_, rfl⟩
  rw [← hQ]
  refine C2_of (L := [(2, 0), (0, v1), (0, v2)]) (by decide +kernel) (Nat.le_of_ble_eq_true rfl) rfl (fun hG => ?_)
  have hh := hG.2.2.2
  refine T_aload_n (i := 0) (pc' := 1) dX11_guard_0 rfl rfl rfl ?_
  refine U_gr (q := h) (k := 10) (kI := 10) (pc' := 4) dX11_guard_1 rfl cl11 (by decide) rfl (by decide) flX11_82 rfl rfl rfl hG.2.1 (pog0 hh) rfl ?_
  refine T_iload_n (i := 1) (pc' := 5) dX11_guard_4 rfl rfl rfl ?_
  refine T_callV (av := [(0, v1)]) (st := []) (d2 := 1) (nc2 := 0) (ns2 := 0) (pc' := 8) dX11_guard_5 rfl mtX1_hasGuard mvX1_hasGuard mlX11_197 cl1 (shg0 hh) rfl rfl (Nat.le_of_ble_eq_true rfl) (by decide) ⟨by decide, by decide⟩ rfl (pX1_hasGuard (E := E) (h := h) (M := M) (g := h) (v1 := v1) hh hG) (kF (st2 := [(0, (fX1_hasGuard M h v1))]) rfl (fun hG1 => ?_))
  refine T_if_ne (pc' := 13) dX11_guard_8 (by decide) (pf := 11) rfl (fun c2 => ?_) (fun c2 => ?_)
  · skip
    refine T_iload_n (i := 2) (pc' := 14) dX11_guard_13 rfl rfl rfl ?_
    by_cases c3 : v2 = 0
    · skip
      refine T_tableIn (pc' := 40) dX11_guard_14 (by omega) (by omega) (by rw [c3]; rfl) (by decide) ?_
      refine T_aload_n (i := 0) (pc' := 41) dX11_guard_40 rfl rfl rfl ?_
      refine U_gr (q := h) (k := 10) (kI := 10) (pc' := 44) dX11_guard_41 rfl cl11 (by decide) rfl (by decide) flX11_82 rfl rfl rfl hG.2.1 (pog0 hh) rfl ?_
      refine U_grN (q := (h + 13)) (k := 5) (kI := 5) (pc' := 47) dX11_guard_44 rfl cl1 (pog0 hh) (shg0 hh) (by decide) flX11_225 rfl rfl rfl (grg0_5 hh hG) (pog13 hh) rfl ?_
      refine T_iload_n (i := 1) (pc' := 48) dX11_guard_47 rfl rfl rfl ?_
      refine T_callS (av := [(2, (h + 13)), (0, v1)]) (st := []) (d2 := 1) (nc2 := 0) (ns2 := 0) (pc' := 51) dX11_guard_48 rfl mtX11_get mvX11_get mlX11_189 rfl rfl (Nat.le_of_ble_eq_true rfl) (by decide) ⟨by decide, by decide⟩ rfl (pX11_get (E := E) (h := h) (M := M) (p0 := (h + 13)) (np0 := 4) (v1 := v1) (pog13 hh) (shg13 hh) (by decide) hG) (kF (st2 := [(0, (fX11_get M (h + 13) 4 v1))]) rfl (fun hG4 => ?_))
      exact T_iret dX11_guard_51 rfl ⟨rfl, hG, (by rw [hQ]; exact ⟨(by unfold fX11_guard; simp only [if_neg c2, if_pos c3]), rfl⟩)⟩
    · skip
      by_cases c5 : v2 = 1
      · skip
        refine T_tableIn (pc' := 52) dX11_guard_14 (by omega) (by omega) (by rw [c5]; rfl) (by decide) ?_
        refine T_aload_n (i := 0) (pc' := 53) dX11_guard_52 rfl rfl rfl ?_
        refine U_gr (q := h) (k := 10) (kI := 10) (pc' := 56) dX11_guard_53 rfl cl11 (by decide) rfl (by decide) flX11_82 rfl rfl rfl hG.2.1 (pog0 hh) rfl ?_
        refine U_grN (q := (h + 14)) (k := 6) (kI := 6) (pc' := 59) dX11_guard_56 rfl cl1 (pog0 hh) (shg0 hh) (by decide) flX11_228 rfl rfl rfl (grg0_6 hh hG) (pog14 hh) rfl ?_
        refine T_iload_n (i := 1) (pc' := 60) dX11_guard_59 rfl rfl rfl ?_
        refine T_callS (av := [(2, (h + 14)), (0, v1)]) (st := []) (d2 := 1) (nc2 := 0) (ns2 := 0) (pc' := 63) dX11_guard_60 rfl mtX11_get mvX11_get mlX11_189 rfl rfl (Nat.le_of_ble_eq_true rfl) (by decide) ⟨by decide, by decide⟩ rfl (pX11_get (E := E) (h := h) (M := M) (p0 := (h + 14)) (np0 := 4) (v1 := v1) (pog14 hh) (shg14 hh) (by decide) hG) (kF (st2 := [(0, (fX11_get M (h + 14) 4 v1))]) rfl (fun hG6 => ?_))
        exact T_iret dX11_guard_63 rfl ⟨rfl, hG, (by rw [hQ]; exact ⟨(by unfold fX11_guard; simp only [if_neg c2, if_neg c3, if_pos c5]), rfl⟩)⟩
      · skip
        by_cases c7 : v2 = 2
        · skip
          refine T_tableIn (pc' := 64) dX11_guard_14 (by omega) (by omega) (by rw [c7]; rfl) (by decide) ?_
          refine T_aload_n (i := 0) (pc' := 65) dX11_guard_64 rfl rfl rfl ?_
          refine U_gr (q := h) (k := 10) (kI := 10) (pc' := 68) dX11_guard_65 rfl cl11 (by decide) rfl (by decide) flX11_82 rfl rfl rfl hG.2.1 (pog0 hh) rfl ?_
          refine U_grN (q := (h + 15)) (k := 7) (kI := 7) (pc' := 71) dX11_guard_68 rfl cl1 (pog0 hh) (shg0 hh) (by decide) flX11_231 rfl rfl rfl (grg0_7 hh hG) (pog15 hh) rfl ?_
          refine T_iload_n (i := 1) (pc' := 72) dX11_guard_71 rfl rfl rfl ?_
          refine T_callS (av := [(2, (h + 15)), (0, v1)]) (st := []) (d2 := 1) (nc2 := 0) (ns2 := 0) (pc' := 75) dX11_guard_72 rfl mtX11_get mvX11_get mlX11_189 rfl rfl (Nat.le_of_ble_eq_true rfl) (by decide) ⟨by decide, by decide⟩ rfl (pX11_get (E := E) (h := h) (M := M) (p0 := (h + 15)) (np0 := 4) (v1 := v1) (pog15 hh) (shg15 hh) (by decide) hG) (kF (st2 := [(0, (fX11_get M (h + 15) 4 v1))]) rfl (fun hG8 => ?_))
          exact T_iret dX11_guard_75 rfl ⟨rfl, hG, (by rw [hQ]; exact ⟨(by unfold fX11_guard; simp only [if_neg c2, if_neg c3, if_neg c5, if_pos c7]), rfl⟩)⟩
        · skip
          refine T_tableOut (pc' := 76) dX11_guard_14 (by omega) (by decide) ?_
          refine T_iconst (pc' := 77) dX11_guard_76 (by decide) rfl ?_
          exact T_iret dX11_guard_77 rfl ⟨rfl, hG, (by rw [hQ]; exact ⟨(by unfold fX11_guard; simp only [if_neg c2, if_neg c3, if_neg c5, if_neg c7]), rfl⟩)⟩
  · skip
    refine T_iconst (pc' := 12) dX11_guard_11 (by decide) rfl ?_
    exact T_iret dX11_guard_12 rfl ⟨rfl, hG, (by rw [hQ]; exact ⟨(by unfold fX11_guard; simp only [if_pos c2]), rfl⟩)⟩
def fX11_isComer (M : Mem) (h : Int) (v1 : Int) : Int :=
  (if (fX4_has M h v1) = 0 then (0 : Int) else (if (fX11_hasBit (M 0 12) v1) = 0 then (0 : Int) else 1))
set_option maxRecDepth 100000 in
theorem pX11_isComer {E : EV} {h : Int} {M : Mem} {v1 : Int}  : C2 E miX11_isComer 2 h [(2, 0), (0, v1)] M (fun r M' => r = some (0, (fX11_isComer M h v1)) ∧ M' = M) := by
  obtain ⟨Q, hQ⟩ : ∃ Q : Option MV → Mem → Prop, Q = (fun r M' => r = some (0, (fX11_isComer M h v1)) ∧ M' = M) := ⟨_, rfl⟩
  rw [← hQ]
  refine C2_of (L := [(2, 0), (0, v1)]) (by decide +kernel) (Nat.le_of_ble_eq_true rfl) rfl (fun hG => ?_)
  have hh := hG.2.2.2
  refine T_aload_n (i := 0) (pc' := 1) dX11_isComer_0 rfl rfl rfl ?_
  refine U_gr (q := h) (k := 10) (kI := 10) (pc' := 4) dX11_isComer_1 rfl cl11 (by decide) rfl (by decide) flX11_82 rfl rfl rfl hG.2.1 (pog0 hh) rfl ?_
  refine U_grN (q := (h + 1)) (k := 0) (kI := 0) (pc' := 7) dX11_isComer_4 rfl cl1 (pog0 hh) (shg0 hh) (by decide) flX11_129 rfl rfl rfl (grg0_0 hh hG) (pog1 hh) rfl ?_
  refine T_iload_n (i := 1) (pc' := 8) dX11_isComer_7 rfl rfl rfl ?_
  refine T_callV (av := [(0, v1)]) (st := []) (d2 := 1) (nc2 := 0) (ns2 := 0) (pc' := 11) dX11_isComer_8 rfl mtX4_has mvX4_has mlX11_183 cl4 (shg1 hh) rfl rfl (Nat.le_of_ble_eq_true rfl) (by decide) ⟨by decide, by decide⟩ rfl (pX4_has (E := E) (h := h) (M := M) (g := h) (v1 := v1) hh hG) (kF (st2 := [(0, (fX4_has M h v1))]) rfl (fun hG1 => ?_))
  have HJ2 : T E miX11_isComer 2 126 0 0 (fun r S M' => S = S0 ∧ G h M' ∧ Q r M') 30 [(3, 0), (3, 0)] [(0, (if (fX4_has M h v1) = 0 then (0 : Int) else (if (fX11_hasBit (M 0 12) v1) = 0 then (0 : Int) else 1)))] S0 M 0 0 := by
    exact T_zret dX11_isComer_30 rfl (by repeat' (first | apply bi | exact Or.inl rfl | exact Or.inr rfl | apply fbX11_hasBit | apply fbX4_has)) ⟨rfl, hG, (by rw [hQ]; exact ⟨rfl, rfl⟩)⟩
  refine T_if_eq (pc' := 29) dX11_isComer_11 (by decide) (pf := 14) rfl (fun c3 => ?_) (fun c3 => ?_)
  · skip
    refine T_iconst (pc' := 30) dX11_isComer_29 (by decide) rfl ?_
    exact T_wk (L' := [(3, 0), (3, 0)]) (by have q := HJ2; try simp only [if_pos c3] at q; exact q) ⟨Or.inl rfl, Or.inl rfl, trivial⟩
  · skip
    refine T_aload_n (i := 0) (pc' := 15) dX11_isComer_14 rfl rfl rfl ?_
    refine U_gf (v := (0, (M 0 12))) (k := 12) (kI := 12) (pc' := 18) dX11_isComer_15 rfl cl11 (by decide) rfl (by decide) flX11_89 rfl rfl (by decide) rfl rfl ?_
    refine T_iload_n (i := 1) (pc' := 19) dX11_isComer_18 rfl rfl rfl ?_
    refine T_callS (av := [(0, (M 0 12)), (0, v1)]) (st := []) (d2 := 1) (nc2 := 0) (ns2 := 0) (pc' := 22) dX11_isComer_19 rfl mtX11_hasBit mvX11_hasBit mlX11_218 rfl rfl (Nat.le_of_ble_eq_true rfl) (by decide) ⟨by decide, by decide⟩ rfl (pX11_hasBit (E := E) (h := h) (M := M) (v0 := (M 0 12)) (v1 := v1) hG) (kF (st2 := [(0, (fX11_hasBit (M 0 12) v1))]) rfl (fun hG4 => ?_))
    refine T_if_eq (pc' := 29) dX11_isComer_22 (by decide) (pf := 25) rfl (fun c5 => ?_) (fun c5 => ?_)
    · skip
      refine T_iconst (pc' := 30) dX11_isComer_29 (by decide) rfl ?_
      exact T_wk (L' := [(3, 0), (3, 0)]) (by have q := HJ2; try simp only [if_neg c3] at q; try simp only [if_pos c5] at q; exact q) ⟨Or.inl rfl, Or.inl rfl, trivial⟩
    · skip
      refine T_iconst (pc' := 26) dX11_isComer_25 (by decide) rfl ?_
      refine T_goto (pc' := 30) dX11_isComer_26 (by decide) ?_
      exact T_wk (L' := [(3, 0), (3, 0)]) (by have q := HJ2; try simp only [if_neg c3] at q; try simp only [if_neg c5] at q; exact q) ⟨Or.inl rfl, Or.inl rfl, trivial⟩
theorem fbX11_isComer (M : Mem) (h : Int) (v1 : Int) : (fX11_isComer M h v1) = 0 ∨ (fX11_isComer M h v1) = 1 := by
  unfold fX11_isComer
  repeat' (first | apply bi | exact Or.inl rfl | exact Or.inr rfl | apply fbX11_hasBit | apply fbX4_has)
def fX11_isSecond (v0 : Int) : Int :=
  (if v0 < 0 then (0 : Int) else (if 201 ≤ v0 then (0 : Int) else 1))
set_option maxRecDepth 100000 in
theorem pX11_isSecond {E : EV} {h : Int} {M : Mem} {v0 : Int}  : C2 E miX11_isSecond 1 h [(0, v0)] M (fun r M' => r = some (0, (fX11_isSecond v0)) ∧ M' = M) := by
  obtain ⟨Q, hQ⟩ : ∃ Q : Option MV → Mem → Prop, Q = (fun r M' => r = some (0, (fX11_isSecond v0)) ∧ M' = M) := ⟨_, rfl⟩
  rw [← hQ]
  refine C2_of (L := [(0, v0)]) (by decide +kernel) (Nat.le_of_ble_eq_true rfl) rfl (fun hG => ?_)
  refine T_iload_n (i := 0) (pc' := 1) dX11_isSecond_0 rfl rfl rfl ?_
  have HJ1 : T E miX11_isSecond 1 126 0 0 (fun r S M' => S = S0 ∧ G h M' ∧ Q r M') 16 [(3, 0)] [(0, (if v0 < 0 then (0 : Int) else (if 201 ≤ v0 then (0 : Int) else 1)))] S0 M 0 0 := by
    exact T_zret dX11_isSecond_16 rfl (by repeat' (first | apply bi | exact Or.inl rfl | exact Or.inr rfl)) ⟨rfl, hG, (by rw [hQ]; exact ⟨rfl, rfl⟩)⟩
  refine T_if_lt (pc' := 15) dX11_isSecond_1 (by decide) (pf := 4) rfl (fun c2 => ?_) (fun c2 => ?_)
  · skip
    refine T_iconst (pc' := 16) dX11_isSecond_15 (by decide) rfl ?_
    exact T_wk (L' := [(3, 0)]) (by have q := HJ1; try simp only [if_pos c2] at q; exact q) ⟨Or.inl rfl, trivial⟩
  · skip
    refine T_iload_n (i := 0) (pc' := 5) dX11_isSecond_4 rfl rfl rfl ?_
    refine T_sipush (pc' := 8) dX11_isSecond_5 rfl (by decide) rfl ?_
    refine T_icmp_ge (pc' := 15) dX11_isSecond_8 (by decide) (pf := 11) rfl (fun c3 => ?_) (fun c3 => ?_)
    · skip
      refine T_iconst (pc' := 16) dX11_isSecond_15 (by decide) rfl ?_
      exact T_wk (L' := [(3, 0)]) (by have q := HJ1; try simp only [if_neg c2] at q; try simp only [if_pos c3] at q; exact q) ⟨Or.inl rfl, trivial⟩
    · skip
      refine T_iconst (pc' := 12) dX11_isSecond_11 (by decide) rfl ?_
      refine T_goto (pc' := 16) dX11_isSecond_12 (by decide) ?_
      exact T_wk (L' := [(3, 0)]) (by have q := HJ1; try simp only [if_neg c2] at q; try simp only [if_neg c3] at q; exact q) ⟨Or.inl rfl, trivial⟩
theorem fbX11_isSecond (v0 : Int) : (fX11_isSecond v0) = 0 ∨ (fX11_isSecond v0) = 1 := by
  unfold fX11_isSecond
  repeat' (first | apply bi | exact Or.inl rfl | exact Or.inr rfl)
def fX11_set (M : Mem) (h : Int) (v1 : Int) (v2 : Int) (v3 : Int) : Int :=
  (if (fX4_has M h v1) = 0 then (-1) else (if (fX1_mayBe M h v2 v3) = 0 then (-1) else (fX4_valueOf M h v1 v2)))
def fmX11_set (M : Mem) (h : Int) (v1 : Int) (v2 : Int) (v3 : Int) : Mem :=
  (if (fX4_has M h v1) = 0 then M else (if (fX1_mayBe M h v2 v3) = 0 then M else (fmX11_changed (fmX4_change (fmX0_add M v2 v1 (fX4_valueOf M h v1 v2)) h v1 v2 v3) (if v2 = 2 then (1 : Int) else 0))))
theorem gX11_set {h : Int} {M : Mem} {v1 : Int} {v2 : Int} {v3 : Int}  (hG : G h M) : G h (fmX11_set M h v1 v2 v3) := by
  have hh := hG.2.2.2
  unfold fmX11_set
  exact (G_ite hG (G_ite hG (gX11_changed (h := h) (M := (fmX4_change (fmX0_add M v2 v1 (fX4_valueOf M h v1 v2)) h v1 v2 v3)) (v1 := (if v2 = 2 then (1 : Int) else 0)) (gX4_change (h := h) (M := (fmX0_add M v2 v1 (fX4_valueOf M h v1 v2))) (g := h) (v1 := v1) (v2 := v2) (v3 := v3) hh (gX0_add (h := h) (M := M) (v1 := v2) (v2 := v1) (v3 := (fX4_valueOf M h v1 v2)) hG)))))
set_option maxRecDepth 100000 in
theorem pX11_set {E : EV} {h : Int} {M : Mem} {v1 : Int} {v2 : Int} {v3 : Int}  : C2 E miX11_set 4 h [(2, 0), (0, v1), (0, v2), (0, v3)] M (fun r M' => r = some (0, (fX11_set M h v1 v2 v3)) ∧ M' = (fmX11_set M h v1 v2 v3)) := by
  obtain ⟨Q, hQ⟩ : ∃ Q : Option MV → Mem → Prop, Q = (fun r M' => r = some (0, (fX11_set M h v1 v2 v3)) ∧ M' = (fmX11_set M h v1 v2 v3)) := ⟨_, rfl⟩
  rw [← hQ]
  refine C2_of (L := [(2, 0), (0, v1), (0, v2), (0, v3), (3, 0)]) (by decide +kernel) (Nat.le_of_ble_eq_true rfl) rfl (fun hG => ?_)
  have hh := hG.2.2.2
  refine T_aload_n (i := 0) (pc' := 1) dX11_set_0 rfl rfl rfl ?_
  refine U_gr (q := h) (k := 10) (kI := 10) (pc' := 4) dX11_set_1 rfl cl11 (by decide) rfl (by decide) flX11_82 rfl rfl rfl hG.2.1 (pog0 hh) rfl ?_
  refine U_grN (q := (h + 1)) (k := 0) (kI := 0) (pc' := 7) dX11_set_4 rfl cl1 (pog0 hh) (shg0 hh) (by decide) flX11_129 rfl rfl rfl (grg0_0 hh hG) (pog1 hh) rfl ?_
  refine T_iload_n (i := 1) (pc' := 8) dX11_set_7 rfl rfl rfl ?_
  refine T_callV (av := [(0, v1)]) (st := []) (d2 := 1) (nc2 := 0) (ns2 := 0) (pc' := 11) dX11_set_8 rfl mtX4_has mvX4_has mlX11_183 cl4 (shg1 hh) rfl rfl (Nat.le_of_ble_eq_true rfl) (by decide) ⟨by decide, by decide⟩ rfl (pX4_has (E := E) (h := h) (M := M) (g := h) (v1 := v1) hh hG) (kF (st2 := [(0, (fX4_has M h v1))]) rfl (fun hG1 => ?_))
  refine T_if_eq (pc' := 26) dX11_set_11 (by decide) (pf := 14) rfl (fun c2 => ?_) (fun c2 => ?_)
  · skip
    refine T_iconst (pc' := 27) dX11_set_26 (by decide) rfl ?_
    exact T_iret dX11_set_27 rfl ⟨rfl, hG, (by rw [hQ]; exact ⟨(by unfold fX11_set; simp only [if_pos c2]), (by unfold fmX11_set; simp only [if_pos c2])⟩)⟩
  · skip
    refine T_aload_n (i := 0) (pc' := 15) dX11_set_14 rfl rfl rfl ?_
    refine U_gr (q := h) (k := 10) (kI := 10) (pc' := 18) dX11_set_15 rfl cl11 (by decide) rfl (by decide) flX11_82 rfl rfl rfl hG.2.1 (pog0 hh) rfl ?_
    refine T_iload_n (i := 2) (pc' := 19) dX11_set_18 rfl rfl rfl ?_
    refine T_iload_n (i := 3) (pc' := 20) dX11_set_19 rfl rfl rfl ?_
    refine T_callV (av := [(0, v2), (0, v3)]) (st := []) (d2 := 3) (nc2 := 0) (ns2 := 0) (pc' := 23) dX11_set_20 rfl mtX1_mayBe mvX1_mayBe mlX11_303 cl1 (shg0 hh) rfl rfl (Nat.le_of_ble_eq_true rfl) (by decide) ⟨by decide, by decide⟩ rfl (pX1_mayBe (E := E) (h := h) (M := M) (g := h) (v1 := v2) (v2 := v3) hh hG) (kF (st2 := [(0, (fX1_mayBe M h v2 v3))]) rfl (fun hG3 => ?_))
    refine T_if_ne (pc' := 28) dX11_set_23 (by decide) (pf := 26) rfl (fun c4 => ?_) (fun c4 => ?_)
    · skip
      refine T_aload_n (i := 0) (pc' := 29) dX11_set_28 rfl rfl rfl ?_
      refine U_gr (q := h) (k := 10) (kI := 10) (pc' := 32) dX11_set_29 rfl cl11 (by decide) rfl (by decide) flX11_82 rfl rfl rfl hG.2.1 (pog0 hh) rfl ?_
      refine U_grN (q := (h + 1)) (k := 0) (kI := 0) (pc' := 35) dX11_set_32 rfl cl1 (pog0 hh) (shg0 hh) (by decide) flX11_129 rfl rfl rfl (grg0_0 hh hG) (pog1 hh) rfl ?_
      refine T_iload_n (i := 1) (pc' := 36) dX11_set_35 rfl rfl rfl ?_
      refine T_iload_n (i := 2) (pc' := 37) dX11_set_36 rfl rfl rfl ?_
      refine T_callV (av := [(0, v1), (0, v2)]) (st := []) (d2 := 2) (nc2 := 0) (ns2 := 0) (pc' := 40) dX11_set_37 rfl mtX4_valueOf mvX4_valueOf mlX11_306 cl4 (shg1 hh) rfl rfl (Nat.le_of_ble_eq_true rfl) (by decide) ⟨by decide, by decide⟩ rfl (pX4_valueOf (E := E) (h := h) (M := M) (g := h) (v1 := v1) (v2 := v2) hh hG) (kF (st2 := [(0, (fX4_valueOf M h v1 v2))]) rfl (fun hG5 => ?_))
      refine T_istore (i := 4) (L' := [(2, 0), (0, v1), (0, v2), (0, v3), (0, (fX4_valueOf M h v1 v2))]) (pc' := 42) dX11_set_40 (by decide) rfl rfl ?_
      refine T_aload_n (i := 0) (pc' := 43) dX11_set_42 rfl rfl rfl ?_
      refine U_gr (q := 27) (k := 7) (kI := 7) (pc' := 46) dX11_set_43 rfl cl11 (by decide) rfl (by decide) flX11_67 rfl rfl rfl (G_at hG 7 rfl) (by decide) rfl ?_
      refine T_iload_n (i := 2) (pc' := 47) dX11_set_46 rfl rfl rfl ?_
      refine T_iload_n (i := 1) (pc' := 48) dX11_set_47 rfl rfl rfl ?_
      refine T_iload (i := 4) (pc' := 50) dX11_set_48 rfl rfl ?_
      refine T_callV (av := [(0, v2), (0, v1), (0, (fX4_valueOf M h v1 v2))]) (st := []) (d2 := 2) (nc2 := 0) (ns2 := 0) (pc' := 53) dX11_set_50 rfl mtX0_add mvX0_add mlX11_309 cl0 rfl rfl rfl (Nat.le_of_ble_eq_true rfl) (by decide) ⟨by decide, by decide⟩ rfl (pX0_add (E := E) (h := h) (M := M) (v1 := v2) (v2 := v1) (v3 := (fX4_valueOf M h v1 v2)) hG) (kF (st2 := []) rfl (fun hG6 => ?_))
      refine T_aload_n (i := 0) (pc' := 54) dX11_set_53 rfl rfl rfl ?_
      refine U_gr (q := h) (k := 10) (kI := 10) (pc' := 57) dX11_set_54 rfl cl11 (by decide) rfl (by decide) flX11_82 rfl rfl rfl (gX0_add (h := h) (M := M) (v1 := v2) (v2 := v1) (v3 := (fX4_valueOf M h v1 v2)) hG).2.1 (pog0 hh) rfl ?_
      refine U_grN (q := (h + 1)) (k := 0) (kI := 0) (pc' := 60) dX11_set_57 rfl cl1 (pog0 hh) (shg0 hh) (by decide) flX11_129 rfl rfl rfl (grg0_0 hh (gX0_add (h := h) (M := M) (v1 := v2) (v2 := v1) (v3 := (fX4_valueOf M h v1 v2)) hG)) (pog1 hh) rfl ?_
      refine T_iload_n (i := 1) (pc' := 61) dX11_set_60 rfl rfl rfl ?_
      refine T_iload_n (i := 2) (pc' := 62) dX11_set_61 rfl rfl rfl ?_
      refine T_iload_n (i := 3) (pc' := 63) dX11_set_62 rfl rfl rfl ?_
      refine T_callV (av := [(0, v1), (0, v2), (0, v3)]) (st := []) (d2 := 2) (nc2 := 0) (ns2 := 0) (pc' := 66) dX11_set_63 rfl mtX4_change mvX4_change mlX11_313 cl4 (shg1 hh) rfl rfl (Nat.le_of_ble_eq_true rfl) (by decide) ⟨by decide, by decide⟩ rfl (pX4_change (E := E) (h := h) (M := (fmX0_add M v2 v1 (fX4_valueOf M h v1 v2))) (g := h) (v1 := v1) (v2 := v2) (v3 := v3) hh (gX0_add (h := h) (M := M) (v1 := v2) (v2 := v1) (v3 := (fX4_valueOf M h v1 v2)) hG)) (kF (st2 := []) rfl (fun hG7 => ?_))
      refine T_aload_n (i := 0) (pc' := 67) dX11_set_66 rfl rfl rfl ?_
      refine T_iload_n (i := 2) (pc' := 68) dX11_set_67 rfl rfl rfl ?_
      refine T_iconst (pc' := 69) dX11_set_68 (by decide) rfl ?_
      have HJ8 : T E miX11_set 4 126 0 0 (fun r S M' => S = S0 ∧ G h M' ∧ Q r M') 77 [(3, 0), (3, 0), (3, 0), (3, 0), (0, (fX4_valueOf M h v1 v2))] [(0, (if v2 = 2 then (1 : Int) else 0)), (2, 0)] S0 (fmX4_change (fmX0_add M v2 v1 (fX4_valueOf M h v1 v2)) h v1 v2 v3) 0 0 := by
        refine T_callV (av := [(0, (if v2 = 2 then (1 : Int) else 0))]) (st := []) (d2 := 1) (nc2 := 0) (ns2 := 0) (pc' := 80) dX11_set_77 rfl mtX11_changed mvX11_changed mlX11_142 cl11 rfl rfl rfl (Nat.le_of_ble_eq_true rfl) (by decide) ⟨by decide, by decide⟩ rfl (pX11_changed (E := E) (h := h) (M := (fmX4_change (fmX0_add M v2 v1 (fX4_valueOf M h v1 v2)) h v1 v2 v3)) (v1 := (if v2 = 2 then (1 : Int) else 0)) (gX4_change (h := h) (M := (fmX0_add M v2 v1 (fX4_valueOf M h v1 v2))) (g := h) (v1 := v1) (v2 := v2) (v3 := v3) hh (gX0_add (h := h) (M := M) (v1 := v2) (v2 := v1) (v3 := (fX4_valueOf M h v1 v2)) hG))) (kF (st2 := []) rfl (fun hG9 => ?_))
        refine T_iload (i := 4) (pc' := 82) dX11_set_80 rfl rfl ?_
        exact T_iret dX11_set_82 rfl ⟨rfl, (gX11_changed (h := h) (M := (fmX4_change (fmX0_add M v2 v1 (fX4_valueOf M h v1 v2)) h v1 v2 v3)) (v1 := (if v2 = 2 then (1 : Int) else 0)) (gX4_change (h := h) (M := (fmX0_add M v2 v1 (fX4_valueOf M h v1 v2))) (g := h) (v1 := v1) (v2 := v2) (v3 := v3) hh (gX0_add (h := h) (M := M) (v1 := v2) (v2 := v1) (v3 := (fX4_valueOf M h v1 v2)) hG))), (by rw [hQ]; exact ⟨(by unfold fX11_set; simp only [if_neg c2, if_neg c4]), (by unfold fmX11_set; simp only [if_neg c2, if_neg c4])⟩)⟩
      refine T_icmp_ne (pc' := 76) dX11_set_69 (by decide) (pf := 72) rfl (fun c10 => ?_) (fun c10 => ?_)
      · skip
        refine T_iconst (pc' := 77) dX11_set_76 (by decide) rfl ?_
        exact T_wk (L' := [(3, 0), (3, 0), (3, 0), (3, 0), (0, (fX4_valueOf M h v1 v2))]) (by have q := HJ8; try simp only [if_neg c10] at q; exact q) ⟨Or.inl rfl, Or.inl rfl, Or.inl rfl, Or.inl rfl, Or.inr rfl, trivial⟩
      · skip
        refine T_iconst (pc' := 73) dX11_set_72 (by decide) rfl ?_
        refine T_goto (pc' := 77) dX11_set_73 (by decide) ?_
        exact T_wk (L' := [(3, 0), (3, 0), (3, 0), (3, 0), (0, (fX4_valueOf M h v1 v2))]) (by have q := HJ8; try simp only [if_pos c10] at q; exact q) ⟨Or.inl rfl, Or.inl rfl, Or.inl rfl, Or.inl rfl, Or.inr rfl, trivial⟩
    · skip
      refine T_iconst (pc' := 27) dX11_set_26 (by decide) rfl ?_
      exact T_iret dX11_set_27 rfl ⟨rfl, hG, (by rw [hQ]; exact ⟨(by unfold fX11_set; simp only [if_neg c2, if_pos c4]), (by unfold fmX11_set; simp only [if_neg c2, if_pos c4])⟩)⟩
theorem frX11_set {M : Mem} {h : Int} {v1 : Int} {v2 : Int} {v3 : Int} {q : Int} (hq0 : q ≠ 28) (hq1 : q ≠ 29) (hq2 : q ≠ 30) (hq3 : q ≠ 27) (hq4 : q ≠ (h + 3)) (hq5 : q ≠ (h + 4)) (hq6 : q ≠ (h + 5)) (hq7 : q ≠ 0) : (fmX11_set M h v1 v2 v3) q = M q := by
  unfold fmX11_set
  exact (ite_q rfl (ite_q rfl ((frX11_changed hq7).trans ((frX4_change hq4 hq5 hq6).trans ((frX0_add hq0 hq1 hq2 hq3).trans rfl)))))
def fX11_close (M : Mem) (h : Int) (v1 : Int) (v2 : Int) : Int :=
  (if (fX1_hasDoor M h v1) = 0 then 0 else (if (fX11_get M (h + 11) 6 v1) = (if v2 = 0 then (0 : Int) else 1) then 0 else 1))
def fmX11_close (M : Mem) (h : Int) (v1 : Int) (v2 : Int) : Mem :=
  (if (fX1_hasDoor M h v1) = 0 then M else (if (fX11_get M (h + 11) 6 v1) = (if v2 = 0 then (0 : Int) else 1) then M else (fmX11_changed (fmX11_put (fmX0_add M 3 v1 (wr32 (1 - (if v2 = 0 then (0 : Int) else 1)))) (h + 11) 6 v1 (if v2 = 0 then (0 : Int) else 1)) 0)))
theorem gX11_close {h : Int} {M : Mem} {v1 : Int} {v2 : Int}  (hG : G h M) : G h (fmX11_close M h v1 v2) := by
  have hh := hG.2.2.2
  unfold fmX11_close
  exact (G_ite hG (G_ite hG (gX11_changed (h := h) (M := (fmX11_put (fmX0_add M 3 v1 (wr32 (1 - (if v2 = 0 then (0 : Int) else 1)))) (h + 11) 6 v1 (if v2 = 0 then (0 : Int) else 1))) (v1 := 0) (gX11_put (h := h) (M := (fmX0_add M 3 v1 (wr32 (1 - (if v2 = 0 then (0 : Int) else 1))))) (p0 := (h + 11)) (np0 := 6) (v1 := v1) (v2 := (if v2 = 0 then (0 : Int) else 1)) (pog11 hh) (shg11 hh) (by decide) (gX0_add (h := h) (M := M) (v1 := 3) (v2 := v1) (v3 := (wr32 (1 - (if v2 = 0 then (0 : Int) else 1)))) hG)))))
set_option maxRecDepth 100000 in
theorem pX11_close {E : EV} {h : Int} {M : Mem} {v1 : Int} {v2 : Int}  : C2 E miX11_close 3 h [(2, 0), (0, v1), (0, v2)] M (fun r M' => r = some (0, (fX11_close M h v1 v2)) ∧ M' = (fmX11_close M h v1 v2)) := by
  obtain ⟨Q, hQ⟩ : ∃ Q : Option MV → Mem → Prop, Q = (fun r M' => r = some (0, (fX11_close M h v1 v2)) ∧ M' = (fmX11_close M h v1 v2)) := ⟨_, rfl⟩
  rw [← hQ]
  refine C2_of (L := [(2, 0), (0, v1), (0, v2), (3, 0)]) (by decide +kernel) (Nat.le_of_ble_eq_true rfl) rfl (fun hG => ?_)
  have hh := hG.2.2.2
  refine T_iload_n (i := 2) (pc' := 1) dX11_close_0 rfl rfl rfl ?_
  have HJ1 : T E miX11_close 3 126 0 0 (fun r S M' => S = S0 ∧ G h M' ∧ Q r M') 9 [(2, 0), (0, v1), (3, 0), (3, 0)] [(0, (if v2 = 0 then (0 : Int) else 1))] S0 M 0 0 := by
    refine T_istore_n (i := 3) (L' := [(2, 0), (0, v1), (3, 0), (0, (if v2 = 0 then (0 : Int) else 1))]) (pc' := 10) dX11_close_9 rfl (by decide) rfl rfl ?_
    refine T_aload_n (i := 0) (pc' := 11) dX11_close_10 rfl rfl rfl ?_
    refine U_gr (q := h) (k := 10) (kI := 10) (pc' := 14) dX11_close_11 rfl cl11 (by decide) rfl (by decide) flX11_82 rfl rfl rfl hG.2.1 (pog0 hh) rfl ?_
    refine T_iload_n (i := 1) (pc' := 15) dX11_close_14 rfl rfl rfl ?_
    refine T_callV (av := [(0, v1)]) (st := []) (d2 := 1) (nc2 := 0) (ns2 := 0) (pc' := 18) dX11_close_15 rfl mtX1_hasDoor mvX1_hasDoor mlX11_234 cl1 (shg0 hh) rfl rfl (Nat.le_of_ble_eq_true rfl) (by decide) ⟨by decide, by decide⟩ rfl (pX1_hasDoor (E := E) (h := h) (M := M) (g := h) (v1 := v1) hh hG) (kF (st2 := [(0, (fX1_hasDoor M h v1))]) rfl (fun hG2 => ?_))
    refine T_if_eq (pc' := 36) dX11_close_18 (by decide) (pf := 21) rfl (fun c3 => ?_) (fun c3 => ?_)
    · skip
      refine T_iconst (pc' := 37) dX11_close_36 (by decide) rfl ?_
      exact T_zret dX11_close_37 rfl (by decide) ⟨rfl, hG, (by rw [hQ]; exact ⟨(by unfold fX11_close; simp only [if_pos c3]), (by unfold fmX11_close; simp only [if_pos c3])⟩)⟩
    · skip
      refine T_aload_n (i := 0) (pc' := 22) dX11_close_21 rfl rfl rfl ?_
      refine U_gr (q := h) (k := 10) (kI := 10) (pc' := 25) dX11_close_22 rfl cl11 (by decide) rfl (by decide) flX11_82 rfl rfl rfl hG.2.1 (pog0 hh) rfl ?_
      refine U_grN (q := (h + 11)) (k := 3) (kI := 3) (pc' := 28) dX11_close_25 rfl cl1 (pog0 hh) (shg0 hh) (by decide) flX11_240 rfl rfl rfl (grg0_3 hh hG) (pog11 hh) rfl ?_
      refine T_iload_n (i := 1) (pc' := 29) dX11_close_28 rfl rfl rfl ?_
      refine T_callS (av := [(2, (h + 11)), (0, v1)]) (st := []) (d2 := 1) (nc2 := 0) (ns2 := 0) (pc' := 32) dX11_close_29 rfl mtX11_get mvX11_get mlX11_189 rfl rfl (Nat.le_of_ble_eq_true rfl) (by decide) ⟨by decide, by decide⟩ rfl (pX11_get (E := E) (h := h) (M := M) (p0 := (h + 11)) (np0 := 6) (v1 := v1) (pog11 hh) (shg11 hh) (by decide) hG) (kF (st2 := [(0, (fX11_get M (h + 11) 6 v1))]) rfl (fun hG4 => ?_))
      refine T_iload_n (i := 3) (pc' := 33) dX11_close_32 rfl rfl rfl ?_
      refine T_icmp_ne (pc' := 38) dX11_close_33 (by decide) (pf := 36) rfl (fun c5 => ?_) (fun c5 => ?_)
      · skip
        refine T_aload_n (i := 0) (pc' := 39) dX11_close_38 rfl rfl rfl ?_
        refine U_gr (q := 27) (k := 7) (kI := 7) (pc' := 42) dX11_close_39 rfl cl11 (by decide) rfl (by decide) flX11_67 rfl rfl rfl (G_at hG 7 rfl) (by decide) rfl ?_
        refine T_iconst (pc' := 43) dX11_close_42 (by decide) rfl ?_
        refine T_iload_n (i := 1) (pc' := 44) dX11_close_43 rfl rfl rfl ?_
        refine T_iconst (pc' := 45) dX11_close_44 (by decide) rfl ?_
        refine T_iload_n (i := 3) (pc' := 46) dX11_close_45 rfl rfl rfl ?_
        refine T_isub (pc' := 47) dX11_close_46 rfl ?_
        refine T_callV (av := [(0, 3), (0, v1), (0, (wr32 (1 - (if v2 = 0 then (0 : Int) else 1))))]) (st := []) (d2 := 2) (nc2 := 0) (ns2 := 0) (pc' := 50) dX11_close_47 rfl mtX0_add mvX0_add mlX11_309 cl0 rfl rfl rfl (Nat.le_of_ble_eq_true rfl) (by decide) ⟨by decide, by decide⟩ rfl (pX0_add (E := E) (h := h) (M := M) (v1 := 3) (v2 := v1) (v3 := (wr32 (1 - (if v2 = 0 then (0 : Int) else 1)))) hG) (kF (st2 := []) rfl (fun hG6 => ?_))
        refine T_aload_n (i := 0) (pc' := 51) dX11_close_50 rfl rfl rfl ?_
        refine U_gr (q := h) (k := 10) (kI := 10) (pc' := 54) dX11_close_51 rfl cl11 (by decide) rfl (by decide) flX11_82 rfl rfl rfl (gX0_add (h := h) (M := M) (v1 := 3) (v2 := v1) (v3 := (wr32 (1 - (if v2 = 0 then (0 : Int) else 1)))) hG).2.1 (pog0 hh) rfl ?_
        refine U_grN (q := (h + 11)) (k := 3) (kI := 3) (pc' := 57) dX11_close_54 rfl cl1 (pog0 hh) (shg0 hh) (by decide) flX11_240 rfl rfl rfl (grg0_3 hh (gX0_add (h := h) (M := M) (v1 := 3) (v2 := v1) (v3 := (wr32 (1 - (if v2 = 0 then (0 : Int) else 1)))) hG)) (pog11 hh) rfl ?_
        refine T_iload_n (i := 1) (pc' := 58) dX11_close_57 rfl rfl rfl ?_
        refine T_iload_n (i := 3) (pc' := 59) dX11_close_58 rfl rfl rfl ?_
        refine T_callS (av := [(2, (h + 11)), (0, v1), (0, (if v2 = 0 then (0 : Int) else 1))]) (st := []) (d2 := 1) (nc2 := 0) (ns2 := 0) (pc' := 62) dX11_close_59 rfl mtX11_put mvX11_put mlX11_316 rfl rfl (Nat.le_of_ble_eq_true rfl) (by decide) ⟨by decide, by decide⟩ rfl (pX11_put (E := E) (h := h) (M := (fmX0_add M 3 v1 (wr32 (1 - (if v2 = 0 then (0 : Int) else 1))))) (p0 := (h + 11)) (np0 := 6) (v1 := v1) (v2 := (if v2 = 0 then (0 : Int) else 1)) (pog11 hh) (shg11 hh) (by decide) (gX0_add (h := h) (M := M) (v1 := 3) (v2 := v1) (v3 := (wr32 (1 - (if v2 = 0 then (0 : Int) else 1)))) hG)) (kF (st2 := []) rfl (fun hG7 => ?_))
        refine T_aload_n (i := 0) (pc' := 63) dX11_close_62 rfl rfl rfl ?_
        refine T_iconst (pc' := 64) dX11_close_63 (by decide) rfl ?_
        refine T_callV (av := [(0, 0)]) (st := []) (d2 := 1) (nc2 := 0) (ns2 := 0) (pc' := 67) dX11_close_64 rfl mtX11_changed mvX11_changed mlX11_142 cl11 rfl rfl rfl (Nat.le_of_ble_eq_true rfl) (by decide) ⟨by decide, by decide⟩ rfl (pX11_changed (E := E) (h := h) (M := (fmX11_put (fmX0_add M 3 v1 (wr32 (1 - (if v2 = 0 then (0 : Int) else 1)))) (h + 11) 6 v1 (if v2 = 0 then (0 : Int) else 1))) (v1 := 0) (gX11_put (h := h) (M := (fmX0_add M 3 v1 (wr32 (1 - (if v2 = 0 then (0 : Int) else 1))))) (p0 := (h + 11)) (np0 := 6) (v1 := v1) (v2 := (if v2 = 0 then (0 : Int) else 1)) (pog11 hh) (shg11 hh) (by decide) (gX0_add (h := h) (M := M) (v1 := 3) (v2 := v1) (v3 := (wr32 (1 - (if v2 = 0 then (0 : Int) else 1)))) hG))) (kF (st2 := []) rfl (fun hG8 => ?_))
        refine T_iconst (pc' := 68) dX11_close_67 (by decide) rfl ?_
        exact T_zret dX11_close_68 rfl (by decide) ⟨rfl, (gX11_changed (h := h) (M := (fmX11_put (fmX0_add M 3 v1 (wr32 (1 - (if v2 = 0 then (0 : Int) else 1)))) (h + 11) 6 v1 (if v2 = 0 then (0 : Int) else 1))) (v1 := 0) (gX11_put (h := h) (M := (fmX0_add M 3 v1 (wr32 (1 - (if v2 = 0 then (0 : Int) else 1))))) (p0 := (h + 11)) (np0 := 6) (v1 := v1) (v2 := (if v2 = 0 then (0 : Int) else 1)) (pog11 hh) (shg11 hh) (by decide) (gX0_add (h := h) (M := M) (v1 := 3) (v2 := v1) (v3 := (wr32 (1 - (if v2 = 0 then (0 : Int) else 1)))) hG))), (by rw [hQ]; exact ⟨(by unfold fX11_close; simp only [if_neg c3, if_neg c5]), (by unfold fmX11_close; simp only [if_neg c3, if_neg c5])⟩)⟩
      · skip
        refine T_iconst (pc' := 37) dX11_close_36 (by decide) rfl ?_
        exact T_zret dX11_close_37 rfl (by decide) ⟨rfl, hG, (by rw [hQ]; exact ⟨(by unfold fX11_close; simp only [if_neg c3, if_pos c5]), (by unfold fmX11_close; simp only [if_neg c3, if_pos c5])⟩)⟩
  refine T_if_eq (pc' := 8) dX11_close_1 (by decide) (pf := 4) rfl (fun c9 => ?_) (fun c9 => ?_)
  · skip
    refine T_iconst (pc' := 9) dX11_close_8 (by decide) rfl ?_
    exact T_wk (L' := [(2, 0), (0, v1), (3, 0), (3, 0)]) (by have q := HJ1; try simp only [if_pos c9] at q; exact q) ⟨Or.inr rfl, Or.inr rfl, Or.inl rfl, Or.inl rfl, trivial⟩
  · skip
    refine T_iconst (pc' := 5) dX11_close_4 (by decide) rfl ?_
    refine T_goto (pc' := 9) dX11_close_5 (by decide) ?_
    exact T_wk (L' := [(2, 0), (0, v1), (3, 0), (3, 0)]) (by have q := HJ1; try simp only [if_neg c9] at q; exact q) ⟨Or.inr rfl, Or.inr rfl, Or.inl rfl, Or.inl rfl, trivial⟩
theorem frX11_close {M : Mem} {h : Int} {v1 : Int} {v2 : Int} {q : Int} (hq0 : q ≠ 28) (hq1 : q ≠ 29) (hq2 : q ≠ 30) (hq3 : q ≠ 27) (hq4 : q ≠ (h + 11)) (hq5 : q ≠ 0) : (fmX11_close M h v1 v2) q = M q := by
  unfold fmX11_close
  exact (ite_q rfl (ite_q rfl ((frX11_changed hq5).trans ((frX11_put hq4).trans ((frX0_add hq0 hq1 hq2 hq3).trans rfl)))))
theorem fbX11_close (M : Mem) (h : Int) (v1 : Int) (v2 : Int) : (fX11_close M h v1 v2) = 0 ∨ (fX11_close M h v1 v2) = 1 := by
  unfold fX11_close
  repeat' (first | apply bi | exact Or.inl rfl | exact Or.inr rfl | apply fbX1_hasDoor)
def fX11_undo (M : Mem) : Int :=
  (if (M 27 3) = 0 then 0 else 1)
def fmX11_undo (M : Mem) (h : Int) : Mem :=
  (if (M 27 3) = 0 then M else (fmX11_changed (fmX0_takeBack M h) 1))
theorem gX11_undo {h : Int} {M : Mem}   (hG : G h M) : G h (fmX11_undo M h) := by
  have hh := hG.2.2.2
  unfold fmX11_undo
  exact (G_ite hG (gX11_changed (h := h) (M := (fmX0_takeBack M h)) (v1 := 1) (gX0_takeBack (h := h) (M := M) (g := h) hh hG)))
set_option maxRecDepth 100000 in
theorem pX11_undo {E : EV} {h : Int} {M : Mem}   : C2 E miX11_undo 4 h [(2, 0)] M (fun r M' => r = some (0, (fX11_undo M)) ∧ M' = (fmX11_undo M h)) := by
  obtain ⟨Q, hQ⟩ : ∃ Q : Option MV → Mem → Prop, Q = (fun r M' => r = some (0, (fX11_undo M)) ∧ M' = (fmX11_undo M h)) := ⟨_, rfl⟩
  rw [← hQ]
  refine C2_of (L := [(2, 0)]) (by decide +kernel) (Nat.le_of_ble_eq_true rfl) rfl (fun hG => ?_)
  have hh := hG.2.2.2
  refine T_aload_n (i := 0) (pc' := 1) dX11_undo_0 rfl rfl rfl ?_
  refine U_gr (q := 27) (k := 7) (kI := 7) (pc' := 4) dX11_undo_1 rfl cl11 (by decide) rfl (by decide) flX11_67 rfl rfl rfl (G_at hG 7 rfl) (by decide) rfl ?_
  refine U_gfN (v := (0, (M 27 3))) (k := 3) (kI := 3) (pc' := 7) dX11_undo_4 rfl cl0 (by decide) rfl (by decide) flX11_182 rfl rfl (by decide) rfl rfl ?_
  refine T_if_ne (pc' := 12) dX11_undo_7 (by decide) (pf := 10) rfl (fun c1 => ?_) (fun c1 => ?_)
  · skip
    refine T_aload_n (i := 0) (pc' := 13) dX11_undo_12 rfl rfl rfl ?_
    refine U_gr (q := 27) (k := 7) (kI := 7) (pc' := 16) dX11_undo_13 rfl cl11 (by decide) rfl (by decide) flX11_67 rfl rfl rfl (G_at hG 7 rfl) (by decide) rfl ?_
    refine T_aload_n (i := 0) (pc' := 17) dX11_undo_16 rfl rfl rfl ?_
    refine U_gr (q := h) (k := 10) (kI := 10) (pc' := 20) dX11_undo_17 rfl cl11 (by decide) rfl (by decide) flX11_82 rfl rfl rfl hG.2.1 (pog0 hh) rfl ?_
    refine T_callV (av := [(2, h)]) (st := []) (d2 := 3) (nc2 := 0) (ns2 := 0) (pc' := 23) dX11_undo_20 rfl mtX0_takeBack mvX0_takeBack mlX11_320 cl0 rfl rfl rfl (Nat.le_of_ble_eq_true rfl) (by decide) ⟨by decide, by decide⟩ rfl (pX0_takeBack (E := E) (h := h) (M := M) (g := h) hh hG) (kF (st2 := []) rfl (fun hG2 => ?_))
    refine T_aload_n (i := 0) (pc' := 24) dX11_undo_23 rfl rfl rfl ?_
    refine T_iconst (pc' := 25) dX11_undo_24 (by decide) rfl ?_
    refine T_callV (av := [(0, 1)]) (st := []) (d2 := 1) (nc2 := 0) (ns2 := 0) (pc' := 28) dX11_undo_25 rfl mtX11_changed mvX11_changed mlX11_142 cl11 rfl rfl rfl (Nat.le_of_ble_eq_true rfl) (by decide) ⟨by decide, by decide⟩ rfl (pX11_changed (E := E) (h := h) (M := (fmX0_takeBack M h)) (v1 := 1) (gX0_takeBack (h := h) (M := M) (g := h) hh hG)) (kF (st2 := []) rfl (fun hG3 => ?_))
    refine T_iconst (pc' := 29) dX11_undo_28 (by decide) rfl ?_
    exact T_zret dX11_undo_29 rfl (by decide) ⟨rfl, (gX11_changed (h := h) (M := (fmX0_takeBack M h)) (v1 := 1) (gX0_takeBack (h := h) (M := M) (g := h) hh hG)), (by rw [hQ]; exact ⟨(by unfold fX11_undo; simp only [if_neg c1]), (by unfold fmX11_undo; simp only [if_neg c1])⟩)⟩
  · skip
    refine T_iconst (pc' := 11) dX11_undo_10 (by decide) rfl ?_
    exact T_zret dX11_undo_11 rfl (by decide) ⟨rfl, hG, (by rw [hQ]; exact ⟨(by unfold fX11_undo; simp only [if_pos c1]), (by unfold fmX11_undo; simp only [if_pos c1])⟩)⟩
theorem frX11_undo {M : Mem} {h : Int} {q : Int} (hq0 : q ≠ 27) (hq1 : q ≠ (h + 3)) (hq2 : q ≠ (h + 4)) (hq3 : q ≠ (h + 5)) (hq4 : q ≠ (h + 11)) (hq5 : q ≠ 0) : (fmX11_undo M h) q = M q := by
  unfold fmX11_undo
  exact (ite_q rfl ((frX11_changed hq5).trans ((frX0_takeBack hq0 hq1 hq2 hq3 hq4).trans rfl)))
theorem fbX11_undo (M : Mem) : (fX11_undo M) = 0 ∨ (fX11_undo M) = 1 := by
  unfold fX11_undo
  repeat' (first | apply bi | exact Or.inl rfl | exact Or.inr rfl)
def fX11_come (M : Mem) (h : Int) (v1 : Int) : Int :=
  (if (m_and v1 (m_xor (fX4_all M h) (-1))) = 0 then 1 else 0)
def fmX11_come (M : Mem) (h : Int) (v1 : Int) : Mem :=
  (if (m_and v1 (m_xor (fX4_all M h) (-1))) = 0 then (fmX11_changed (mset M 0 12 v1) 0) else M)
theorem gX11_come {h : Int} {M : Mem} {v1 : Int}  (hG : G h M) : G h (fmX11_come M h v1) := by
  unfold fmX11_come
  exact (G_ite (gX11_changed (h := h) (M := (mset M 0 12 v1)) (v1 := 0) (G_fld (x := 0) (i := 12) (y := v1) rfl (by decide) (by decide) (by decide) hG)) hG)
set_option maxRecDepth 100000 in
theorem pX11_come {E : EV} {h : Int} {M : Mem} {v1 : Int}  : C2 E miX11_come 2 h [(2, 0), (0, v1)] M (fun r M' => r = some (0, (fX11_come M h v1)) ∧ M' = (fmX11_come M h v1)) := by
  obtain ⟨Q, hQ⟩ : ∃ Q : Option MV → Mem → Prop, Q = (fun r M' => r = some (0, (fX11_come M h v1)) ∧ M' = (fmX11_come M h v1)) := ⟨_, rfl⟩
  rw [← hQ]
  refine C2_of (L := [(2, 0), (0, v1)]) (by decide +kernel) (Nat.le_of_ble_eq_true rfl) rfl (fun hG => ?_)
  have hh := hG.2.2.2
  refine T_iload_n (i := 1) (pc' := 1) dX11_come_0 rfl rfl rfl ?_
  refine T_aload_n (i := 0) (pc' := 2) dX11_come_1 rfl rfl rfl ?_
  refine U_gr (q := h) (k := 10) (kI := 10) (pc' := 5) dX11_come_2 rfl cl11 (by decide) rfl (by decide) flX11_82 rfl rfl rfl hG.2.1 (pog0 hh) rfl ?_
  refine U_grN (q := (h + 1)) (k := 0) (kI := 0) (pc' := 8) dX11_come_5 rfl cl1 (pog0 hh) (shg0 hh) (by decide) flX11_129 rfl rfl rfl (grg0_0 hh hG) (pog1 hh) rfl ?_
  refine T_callV (av := []) (st := [(0, v1)]) (d2 := 1) (nc2 := 0) (ns2 := 0) (pc' := 11) dX11_come_8 rfl mtX4_all mvX4_all mlX11_133 cl4 (shg1 hh) rfl rfl (Nat.le_of_ble_eq_true rfl) (by decide) ⟨by decide, by decide⟩ rfl (pX4_all (E := E) (h := h) (M := M) (g := h) hh hG) (kF (st2 := [(0, (fX4_all M h)), (0, v1)]) rfl (fun hG1 => ?_))
  refine T_iconst (pc' := 12) dX11_come_11 (by decide) rfl ?_
  refine T_ixor (pc' := 13) dX11_come_12 rfl ?_
  refine T_iand (pc' := 14) dX11_come_13 rfl ?_
  refine T_if_eq (pc' := 19) dX11_come_14 (by decide) (pf := 17) rfl (fun c2 => ?_) (fun c2 => ?_)
  · skip
    refine T_aload_n (i := 0) (pc' := 20) dX11_come_19 rfl rfl rfl ?_
    refine T_iload_n (i := 1) (pc' := 21) dX11_come_20 rfl rfl rfl ?_
    refine U_pf (y := v1) (k := 12) (kI := 12) (pc' := 24) dX11_come_21 rfl cl11 (by decide) rfl (by decide) flX11_89 rfl rfl rfl rfl rfl (by decide) (fun z => z) rfl ?_
    refine T_aload_n (i := 0) (pc' := 25) dX11_come_24 rfl rfl rfl ?_
    refine T_iconst (pc' := 26) dX11_come_25 (by decide) rfl ?_
    refine T_callV (av := [(0, 0)]) (st := []) (d2 := 1) (nc2 := 0) (ns2 := 0) (pc' := 29) dX11_come_26 rfl mtX11_changed mvX11_changed mlX11_142 cl11 rfl rfl rfl (Nat.le_of_ble_eq_true rfl) (by decide) ⟨by decide, by decide⟩ rfl (pX11_changed (E := E) (h := h) (M := (mset M 0 12 v1)) (v1 := 0) (G_fld (x := 0) (i := 12) (y := v1) rfl (by decide) (by decide) (by decide) hG)) (kF (st2 := []) rfl (fun hG3 => ?_))
    refine T_iconst (pc' := 30) dX11_come_29 (by decide) rfl ?_
    exact T_zret dX11_come_30 rfl (by decide) ⟨rfl, (gX11_changed (h := h) (M := (mset M 0 12 v1)) (v1 := 0) (G_fld (x := 0) (i := 12) (y := v1) rfl (by decide) (by decide) (by decide) hG)), (by rw [hQ]; exact ⟨(by unfold fX11_come; simp only [if_pos c2]), (by unfold fmX11_come; simp only [if_pos c2])⟩)⟩
  · skip
    refine T_iconst (pc' := 18) dX11_come_17 (by decide) rfl ?_
    exact T_zret dX11_come_18 rfl (by decide) ⟨rfl, hG, (by rw [hQ]; exact ⟨(by unfold fX11_come; simp only [if_neg c2]), (by unfold fmX11_come; simp only [if_neg c2])⟩)⟩
theorem frX11_come {M : Mem} {h : Int} {v1 : Int} {q : Int} (hq0 : q ≠ 0) : (fmX11_come M h v1) q = M q := by
  unfold fmX11_come
  exact (ite_q ((frX11_changed hq0).trans ((mset_p hq0).trans rfl)) rfl)
theorem fbX11_come (M : Mem) (h : Int) (v1 : Int) : (fX11_come M h v1) = 0 ∨ (fX11_come M h v1) = 1 := by
  unfold fX11_come
  repeat' (first | apply bi | exact Or.inl rfl | exact Or.inr rfl)
def fX11_draw (M : Mem) (v1 : Int) : Int :=
  (if v1 ≤ 0 then (0 : Int) else (Int.tmod (wr32 (Int.tdiv ((mset M 0 13 (m_and (wr32 ((wr32 (1103515245 * (M 0 13))) + 12345)) 2147483647)) 0 13) 64)) v1))
def fmX11_draw (M : Mem) : Mem :=
  (mset M 0 13 (m_and (wr32 ((wr32 (1103515245 * (M 0 13))) + 12345)) 2147483647))
theorem gX11_draw {h : Int} {M : Mem} {v1 : Int}  (hG : G h M) : G h (fmX11_draw M) := by
  unfold fmX11_draw
  exact (G_fld (x := 0) (i := 13) (y := (m_and (wr32 ((wr32 (1103515245 * (M 0 13))) + 12345)) 2147483647)) rfl (by decide) (by decide) (by decide) hG)
set_option maxRecDepth 100000 in
theorem pX11_draw {E : EV} {h : Int} {M : Mem} {v1 : Int}  : C2 E miX11_draw 1 h [(2, 0), (0, v1)] M (fun r M' => r = some (0, (fX11_draw M v1)) ∧ M' = (fmX11_draw M)) := by
  obtain ⟨Q, hQ⟩ : ∃ Q : Option MV → Mem → Prop, Q = (fun r M' => r = some (0, (fX11_draw M v1)) ∧ M' = (fmX11_draw M)) := ⟨_, rfl⟩
  rw [← hQ]
  refine C2_of (L := [(2, 0), (0, v1)]) (by decide +kernel) (Nat.le_of_ble_eq_true rfl) rfl (fun hG => ?_)
  refine T_aload_n (i := 0) (pc' := 1) dX11_draw_0 rfl rfl rfl ?_
  refine T_ldcw (n := 1103515245) (pc' := 4) dX11_draw_1 rfl kiX11_394 rfl (by decide) rfl ?_
  refine T_aload_n (i := 0) (pc' := 5) dX11_draw_4 rfl rfl rfl ?_
  refine U_gf (v := (0, (M 0 13))) (k := 13) (kI := 13) (pc' := 8) dX11_draw_5 rfl cl11 (by decide) rfl (by decide) flX11_92 rfl rfl (by decide) rfl rfl ?_
  refine T_imul (pc' := 9) dX11_draw_8 rfl ?_
  refine T_sipush (pc' := 12) dX11_draw_9 rfl (by decide) rfl ?_
  refine T_iadd (pc' := 13) dX11_draw_12 rfl ?_
  refine T_ldcw (n := 2147483647) (pc' := 16) dX11_draw_13 rfl kiX11_395 rfl (by decide) rfl ?_
  refine T_iand (pc' := 17) dX11_draw_16 rfl ?_
  refine U_pf (y := (m_and (wr32 ((wr32 (1103515245 * (M 0 13))) + 12345)) 2147483647)) (k := 13) (kI := 13) (pc' := 20) dX11_draw_17 rfl cl11 (by decide) rfl (by decide) flX11_92 rfl rfl rfl rfl rfl (by decide) (fun z => z) rfl ?_
  refine T_iload_n (i := 1) (pc' := 21) dX11_draw_20 rfl rfl rfl ?_
  have HJ1 : T E miX11_draw 1 126 0 0 (fun r S M' => S = S0 ∧ G h M' ∧ Q r M') 37 [(3, 0), (3, 0)] [(0, (if v1 ≤ 0 then (0 : Int) else (Int.tmod (wr32 (Int.tdiv ((mset M 0 13 (m_and (wr32 ((wr32 (1103515245 * (M 0 13))) + 12345)) 2147483647)) 0 13) 64)) v1)))] S0 (mset M 0 13 (m_and (wr32 ((wr32 (1103515245 * (M 0 13))) + 12345)) 2147483647)) 0 0 := by
    exact T_iret dX11_draw_37 rfl ⟨rfl, (G_fld (x := 0) (i := 13) (y := (m_and (wr32 ((wr32 (1103515245 * (M 0 13))) + 12345)) 2147483647)) rfl (by decide) (by decide) (by decide) hG), (by rw [hQ]; exact ⟨rfl, rfl⟩)⟩
  refine T_if_le (pc' := 36) dX11_draw_21 (by decide) (pf := 24) rfl (fun c2 => ?_) (fun c2 => ?_)
  · skip
    refine T_iconst (pc' := 37) dX11_draw_36 (by decide) rfl ?_
    exact T_wk (L' := [(3, 0), (3, 0)]) (by have q := HJ1; try simp only [if_pos c2] at q; exact q) ⟨Or.inl rfl, Or.inl rfl, trivial⟩
  · skip
    refine T_aload_n (i := 0) (pc' := 25) dX11_draw_24 rfl rfl rfl ?_
    refine U_gf (v := (0, ((mset M 0 13 (m_and (wr32 ((wr32 (1103515245 * (M 0 13))) + 12345)) 2147483647)) 0 13))) (k := 13) (kI := 13) (pc' := 28) dX11_draw_25 rfl cl11 (by decide) rfl (by decide) flX11_92 rfl rfl (by decide) rfl rfl ?_
    refine T_bipush (pc' := 30) dX11_draw_28 rfl (by decide) rfl ?_
    refine T_idiv (pc' := 31) dX11_draw_30 (by decide) rfl ?_
    refine T_iload_n (i := 1) (pc' := 32) dX11_draw_31 rfl rfl rfl ?_
    refine T_irem (pc' := 33) dX11_draw_32 (by omega) rfl ?_
    refine T_goto (pc' := 37) dX11_draw_33 (by decide) ?_
    exact T_wk (L' := [(3, 0), (3, 0)]) (by have q := HJ1; try simp only [if_neg c2] at q; exact q) ⟨Or.inl rfl, Or.inl rfl, trivial⟩
theorem frX11_draw {M : Mem} {q : Int} (hq0 : q ≠ 0) : (fmX11_draw M) q = M q := by
  unfold fmX11_draw
  exact ((mset_p hq0).trans rfl)
def lX11_lot_4  (h : Int) : Nat → Int → Int → Mem → Int
  | 0, v1, v2, M => v1
  | k + 1, v1, v2, M => (lX11_lot_4 h k (if (fX11_get (fmX11_draw M) (h + 6) 9 v2) ≤ (fX11_draw M 4) then v1 else (m_or v1 (m_shl 1 v2))) (v2 + 1) (fmX11_draw M))
def lmX11_lot_4  (h : Int) : Nat → Int → Int → Mem → Mem
  | 0, v1, v2, M => (fmX11_changed (mset M 0 12 v1) 0)
  | k + 1, v1, v2, M => (lmX11_lot_4 h k (if (fX11_get (fmX11_draw M) (h + 6) 9 v2) ≤ (fX11_draw M 4) then v1 else (m_or v1 (m_shl 1 v2))) (v2 + 1) (fmX11_draw M))
theorem frlX11_lot_4  {h : Int} {q : Int} (hq0 : q ≠ 0) : ∀ {k : Nat} {v1 v2 : Int} {M : Mem}, (lmX11_lot_4  h k v1 v2 M) q = M q := by
  intro k
  induction k with
  | zero =>
    intro v1 v2 M
    show (fmX11_changed (mset M 0 12 v1) 0) q = M q
    exact ((frX11_changed hq0).trans ((mset_p hq0).trans rfl))
  | succ k ih =>
    intro v1 v2 M
    show (lmX11_lot_4 h k (if (fX11_get (fmX11_draw M) (h + 6) 9 v2) ≤ (fX11_draw M 4) then v1 else (m_or v1 (m_shl 1 v2))) (v2 + 1) (fmX11_draw M)) q = M q
    exact ((ih).trans ((frX11_draw hq0).trans rfl))
theorem glX11_lot_4 {h : Int}   : ∀ {k : Nat} {v1 v2 : Int} {M : Mem}, G h M → G h (lmX11_lot_4  h k v1 v2 M) := by
  intro k
  induction k with
  | zero =>
    intro v1 v2 M hG
    show G h (fmX11_changed (mset M 0 12 v1) 0)
    exact (gX11_changed (h := h) (M := (mset M 0 12 v1)) (v1 := 0) (G_fld (x := 0) (i := 12) (y := v1) rfl (by decide) (by decide) (by decide) hG))
  | succ k ih =>
    intro v1 v2 M hG
    show G h (lmX11_lot_4 h k (if (fX11_get (fmX11_draw M) (h + 6) 9 v2) ≤ (fX11_draw M 4) then v1 else (m_or v1 (m_shl 1 v2))) (v2 + 1) (fmX11_draw M))
    exact (ih (gX11_draw (h := h) (M := M) (v1 := 4) hG))
set_option maxRecDepth 100000 in
set_option maxHeartbeats 2000000 in
theorem qX11_lot_4 {E : EV} {h : Int} {Q : Option MV → Mem → Prop}   : ∀ (k : Nat) (v1 v2 : Int) (M : Mem), 0 ≤ v2 → (((M (h + 1) 8)) - v2).toNat = k → Q (some (0, (lX11_lot_4 h k v1 v2 M))) (lmX11_lot_4 h k v1 v2 M) → G h M → TG E miX11_lot 2 h Q 4 [(2, 0), (0, v1), (0, v2)] [] M := by
  intro k
  induction k with
  | zero =>
    intro v1 v2 M hv0 hk hQ hG
    have hQ : Q (some (0, v1)) (fmX11_changed (mset M 0 12 v1) 0) := hQ
    have hh := hG.2.2.2
    refine T_iload_n (i := 2) (pc' := 5) dX11_lot_4 rfl rfl rfl ?_
    refine T_aload_n (i := 0) (pc' := 6) dX11_lot_5 rfl rfl rfl ?_
    refine U_gr (q := h) (k := 10) (kI := 10) (pc' := 9) dX11_lot_6 rfl cl11 (by decide) rfl (by decide) flX11_82 rfl rfl rfl hG.2.1 (pog0 hh) rfl ?_
    refine U_grN (q := (h + 1)) (k := 0) (kI := 0) (pc' := 12) dX11_lot_9 rfl cl1 (pog0 hh) (shg0 hh) (by decide) flX11_129 rfl rfl rfl (grg0_0 hh hG) (pog1 hh) rfl ?_
    refine U_gfN (v := (0, (M (h + 1) 8))) (k := 8) (kI := 8) (pc' := 15) dX11_lot_12 rfl cl4 (pog1 hh) (shg1 hh) (by decide) flX11_164 rfl rfl (by decide) rfl rfl ?_
    refine T_rng (fun _ z9 _ => ?_)
    have hB : r32 (M (h + 1) 8) := (ok_cons.mp z9).1
    unfold r32 at hB
    refine T_icmp_ge (pc' := 52) dX11_lot_15 (by decide) (pf := 18) rfl (fun c1 => ?_) (fun c1 => ?_)
    · skip
      refine T_aload_n (i := 0) (pc' := 53) dX11_lot_52 rfl rfl rfl ?_
      refine T_iload_n (i := 1) (pc' := 54) dX11_lot_53 rfl rfl rfl ?_
      refine U_pf (y := v1) (k := 12) (kI := 12) (pc' := 57) dX11_lot_54 rfl cl11 (by decide) rfl (by decide) flX11_89 rfl rfl rfl rfl rfl (by decide) (fun z => z) rfl ?_
      refine T_aload_n (i := 0) (pc' := 58) dX11_lot_57 rfl rfl rfl ?_
      refine T_iconst (pc' := 59) dX11_lot_58 (by decide) rfl ?_
      refine T_callV (av := [(0, 0)]) (st := []) (d2 := 1) (nc2 := 0) (ns2 := 0) (pc' := 62) dX11_lot_59 rfl mtX11_changed mvX11_changed mlX11_142 cl11 rfl rfl rfl (Nat.le_of_ble_eq_true rfl) (by decide) ⟨by decide, by decide⟩ rfl (pX11_changed (E := E) (h := h) (M := (mset M 0 12 v1)) (v1 := 0) (G_fld (x := 0) (i := 12) (y := v1) rfl (by decide) (by decide) (by decide) hG)) (kF (st2 := []) rfl (fun hG2 => ?_))
      refine T_iload_n (i := 1) (pc' := 63) dX11_lot_62 rfl rfl rfl ?_
      exact T_iret dX11_lot_63 rfl ⟨rfl, (gX11_changed (h := h) (M := (mset M 0 12 v1)) (v1 := 0) (G_fld (x := 0) (i := 12) (y := v1) rfl (by decide) (by decide) (by decide) hG)), hQ⟩
    · exact absurd c1 (by omega)
  | succ k ih =>
    intro v1 v2 M hv0 hk hQ hG
    have hQ : Q (some (0, (lX11_lot_4 h k (if (fX11_get (fmX11_draw M) (h + 6) 9 v2) ≤ (fX11_draw M 4) then v1 else (m_or v1 (m_shl 1 v2))) (v2 + 1) (fmX11_draw M)))) (lmX11_lot_4 h k (if (fX11_get (fmX11_draw M) (h + 6) 9 v2) ≤ (fX11_draw M 4) then v1 else (m_or v1 (m_shl 1 v2))) (v2 + 1) (fmX11_draw M)) := hQ
    have hh := hG.2.2.2
    refine T_iload_n (i := 2) (pc' := 5) dX11_lot_4 rfl rfl rfl ?_
    refine T_aload_n (i := 0) (pc' := 6) dX11_lot_5 rfl rfl rfl ?_
    refine U_gr (q := h) (k := 10) (kI := 10) (pc' := 9) dX11_lot_6 rfl cl11 (by decide) rfl (by decide) flX11_82 rfl rfl rfl hG.2.1 (pog0 hh) rfl ?_
    refine U_grN (q := (h + 1)) (k := 0) (kI := 0) (pc' := 12) dX11_lot_9 rfl cl1 (pog0 hh) (shg0 hh) (by decide) flX11_129 rfl rfl rfl (grg0_0 hh hG) (pog1 hh) rfl ?_
    refine U_gfN (v := (0, (M (h + 1) 8))) (k := 8) (kI := 8) (pc' := 15) dX11_lot_12 rfl cl4 (pog1 hh) (shg1 hh) (by decide) flX11_164 rfl rfl (by decide) rfl rfl ?_
    refine T_rng (fun _ z9 _ => ?_)
    have hB : r32 (M (h + 1) 8) := (ok_cons.mp z9).1
    unfold r32 at hB
    refine T_icmp_ge (pc' := 52) dX11_lot_15 (by decide) (pf := 18) rfl (fun c1 => ?_) (fun c1 => ?_)
    · exact absurd c1 (by omega)
    · skip
      have hw : wr32 (v2 + 1) = v2 + 1 := wr32_id (by unfold r32; omega)
      refine T_aload_n (i := 0) (pc' := 19) dX11_lot_18 rfl rfl rfl ?_
      refine T_iconst (pc' := 20) dX11_lot_19 (by decide) rfl ?_
      refine T_callV (av := [(0, 4)]) (st := []) (d2 := 1) (nc2 := 0) (ns2 := 0) (pc' := 23) dX11_lot_20 rfl mtX11_draw mvX11_draw mlX11_324 cl11 rfl rfl rfl (Nat.le_of_ble_eq_true rfl) (by decide) ⟨by decide, by decide⟩ rfl (pX11_draw (E := E) (h := h) (M := M) (v1 := 4) hG) (kF (st2 := [(0, (fX11_draw M 4))]) rfl (fun hG3 => ?_))
      refine T_aload_n (i := 0) (pc' := 24) dX11_lot_23 rfl rfl rfl ?_
      refine U_gr (q := h) (k := 10) (kI := 10) (pc' := 27) dX11_lot_24 rfl cl11 (by decide) rfl (by decide) flX11_82 rfl rfl rfl (gX11_draw (h := h) (M := M) (v1 := 4) hG).2.1 (pog0 hh) rfl ?_
      refine U_grN (q := (h + 1)) (k := 0) (kI := 0) (pc' := 30) dX11_lot_27 rfl cl1 (pog0 hh) (shg0 hh) (by decide) flX11_129 rfl rfl rfl (grg0_0 hh (gX11_draw (h := h) (M := M) (v1 := 4) hG)) (pog1 hh) rfl ?_
      refine U_grN (q := (h + 6)) (k := 4) (kI := 4) (pc' := 33) dX11_lot_30 rfl cl4 (pog1 hh) (shg1 hh) (by decide) flX11_212 rfl rfl rfl (grg1_4 hh (gX11_draw (h := h) (M := M) (v1 := 4) hG)) (pog6 hh) rfl ?_
      refine T_iload_n (i := 2) (pc' := 34) dX11_lot_33 rfl rfl rfl ?_
      refine T_callS (av := [(2, (h + 6)), (0, v2)]) (st := [(0, (fX11_draw M 4))]) (d2 := 1) (nc2 := 0) (ns2 := 0) (pc' := 37) dX11_lot_34 rfl mtX11_get mvX11_get mlX11_189 rfl rfl (Nat.le_of_ble_eq_true rfl) (by decide) ⟨by decide, by decide⟩ rfl (pX11_get (E := E) (h := h) (M := (fmX11_draw M)) (p0 := (h + 6)) (np0 := 9) (v1 := v2) (pog6 hh) (shg6 hh) (by decide) (gX11_draw (h := h) (M := M) (v1 := 4) hG)) (kF (st2 := [(0, (fX11_get (fmX11_draw M) (h + 6) 9 v2)), (0, (fX11_draw M 4))]) rfl (fun hG4 => ?_))
      have HJ5 : T E miX11_lot 2 126 0 0 (fun r S M' => S = S0 ∧ G h M' ∧ Q r M') 46 [(2, 0), (0, (if (fX11_get (fmX11_draw M) (h + 6) 9 v2) ≤ (fX11_draw M 4) then v1 else (m_or v1 (m_shl 1 v2)))), (0, v2)] [] S0 (fmX11_draw M) 0 0 := by
        refine T_iinc (L' := [(2, 0), (0, (if (fX11_get (fmX11_draw M) (h + 6) 9 v2) ≤ (fX11_draw M 4) then v1 else (m_or v1 (m_shl 1 v2)))), (0, (wr32 (v2 + 1)))]) (pc' := 49) dX11_lot_46 rfl (by decide) rfl rfl ?_
        refine T_goto (pc' := 4) dX11_lot_49 (by decide) ?_
        rw [hw]
        have hp0 : (fmX11_draw M) (h + 1) = M (h + 1) := by
          exact ((frX11_draw (by first | decide | (unfold isG at *; omega) | exact rowne (by unfold isG at *; omega) (by unfold isG at *; omega) (by unfold isG at *; omega))).trans rfl)
        have hbd : ((fmX11_draw M) (h + 1) 8) = (M (h + 1) 8) := by
          simp only [hp0]
        exact T_wk (ih _ (v2 + 1) _ (by omega) (by rw [hbd]; omega) hQ (gX11_draw (h := h) (M := M) (v1 := 4) hG)) ⟨Or.inr rfl, Or.inr rfl, Or.inr rfl, trivial⟩
      refine T_icmp_ge (pc' := 46) dX11_lot_37 (by decide) (pf := 40) rfl (fun c6 => ?_) (fun c6 => ?_)
      · skip
        exact T_wk (L' := [(2, 0), (0, v1), (0, v2)]) (by have q := HJ5; try simp only [if_pos c6] at q; exact q) ⟨Or.inr rfl, Or.inr rfl, Or.inr rfl, trivial⟩
      · skip
        refine T_iload_n (i := 1) (pc' := 41) dX11_lot_40 rfl rfl rfl ?_
        refine T_iconst (pc' := 42) dX11_lot_41 (by decide) rfl ?_
        refine T_iload_n (i := 2) (pc' := 43) dX11_lot_42 rfl rfl rfl ?_
        refine T_ishl (pc' := 44) dX11_lot_43 rfl ?_
        refine T_ior (pc' := 45) dX11_lot_44 rfl ?_
        refine T_istore_n (i := 1) (L' := [(2, 0), (0, (m_or v1 (m_shl 1 v2))), (0, v2)]) (pc' := 46) dX11_lot_45 rfl (by decide) rfl rfl ?_
        exact T_wk (L' := [(2, 0), (0, (m_or v1 (m_shl 1 v2))), (0, v2)]) (by have q := HJ5; try simp only [if_neg c6] at q; exact q) ⟨Or.inr rfl, Or.inr rfl, Or.inr rfl, trivial⟩
def fX11_lot (M : Mem) (h : Int) : Int :=
  (lX11_lot_4 h ((((M (h + 1) 8)) : Int) - 0).toNat 0 0 M)
def fmX11_lot (M : Mem) (h : Int) : Mem :=
  (lmX11_lot_4 h ((((M (h + 1) 8)) : Int) - 0).toNat 0 0 M)
theorem frX11_lot {M : Mem} {h : Int} {q : Int} (hq0 : q ≠ 0) : (fmX11_lot M h) q = M q := by
  unfold fmX11_lot
  exact ((frlX11_lot_4 hq0).trans rfl)
theorem gX11_lot {h : Int} {M : Mem}   (hG : G h M) : G h (fmX11_lot M h) := by
  unfold fmX11_lot
  exact (glX11_lot_4 hG)
set_option maxRecDepth 100000 in
theorem pX11_lot {E : EV} {h : Int} {M : Mem}   : C2 E miX11_lot 2 h [(2, 0)] M (fun r M' => r = some (0, (fX11_lot M h)) ∧ M' = (fmX11_lot M h)) := by
  obtain ⟨Q, hQ0⟩ : ∃ Q : Option MV → Mem → Prop, Q = (fun r M' => r = some (0, (fX11_lot M h)) ∧ M' = (fmX11_lot M h)) := ⟨_, rfl⟩
  rw [← hQ0]
  have hQ : Q (some (0, (lX11_lot_4 h ((((M (h + 1) 8)) : Int) - 0).toNat 0 0 M))) (lmX11_lot_4 h ((((M (h + 1) 8)) : Int) - 0).toNat 0 0 M) := by rw [hQ0]; exact ⟨rfl, rfl⟩
  refine C2_of (L := [(2, 0), (3, 0), (3, 0)]) (by decide +kernel) (Nat.le_of_ble_eq_true rfl) rfl (fun hG => ?_)
  refine T_iconst (pc' := 1) dX11_lot_0 (by decide) rfl ?_
  refine T_istore_n (i := 1) (L' := [(2, 0), (0, 0), (3, 0)]) (pc' := 2) dX11_lot_1 rfl (by decide) rfl rfl ?_
  refine T_iconst (pc' := 3) dX11_lot_2 (by decide) rfl ?_
  refine T_istore_n (i := 2) (L' := [(2, 0), (0, 0), (0, 0)]) (pc' := 4) dX11_lot_3 rfl (by decide) rfl rfl ?_
  exact T_wk (qX11_lot_4  _ 0 0 _ (by first | decide | omega) rfl hQ hG) ⟨Or.inr rfl, Or.inr rfl, Or.inr rfl, trivial⟩
def fX11_seed (v1 : Int) : Int :=
  (if 0 ≤ v1 then 1 else 0)
def fmX11_seed (M : Mem) (v1 : Int) : Mem :=
  (if 0 ≤ v1 then (mset M 0 13 v1) else M)
theorem gX11_seed {h : Int} {M : Mem} {v1 : Int}  (hG : G h M) : G h (fmX11_seed M v1) := by
  unfold fmX11_seed
  exact (G_ite (G_fld (x := 0) (i := 13) (y := v1) rfl (by decide) (by decide) (by decide) hG) hG)
set_option maxRecDepth 100000 in
theorem pX11_seed {E : EV} {h : Int} {M : Mem} {v1 : Int}  : C2 E miX11_seed 1 h [(2, 0), (0, v1)] M (fun r M' => r = some (0, (fX11_seed v1)) ∧ M' = (fmX11_seed M v1)) := by
  obtain ⟨Q, hQ⟩ : ∃ Q : Option MV → Mem → Prop, Q = (fun r M' => r = some (0, (fX11_seed v1)) ∧ M' = (fmX11_seed M v1)) := ⟨_, rfl⟩
  rw [← hQ]
  refine C2_of (L := [(2, 0), (0, v1)]) (by decide +kernel) (Nat.le_of_ble_eq_true rfl) rfl (fun hG => ?_)
  refine T_iload_n (i := 1) (pc' := 1) dX11_seed_0 rfl rfl rfl ?_
  refine T_if_ge (pc' := 6) dX11_seed_1 (by decide) (pf := 4) rfl (fun c1 => ?_) (fun c1 => ?_)
  · skip
    refine T_aload_n (i := 0) (pc' := 7) dX11_seed_6 rfl rfl rfl ?_
    refine T_iload_n (i := 1) (pc' := 8) dX11_seed_7 rfl rfl rfl ?_
    refine U_pf (y := v1) (k := 13) (kI := 13) (pc' := 11) dX11_seed_8 rfl cl11 (by decide) rfl (by decide) flX11_92 rfl rfl rfl rfl rfl (by decide) (fun z => z) rfl ?_
    refine T_iconst (pc' := 12) dX11_seed_11 (by decide) rfl ?_
    exact T_zret dX11_seed_12 rfl (by decide) ⟨rfl, (G_fld (x := 0) (i := 13) (y := v1) rfl (by decide) (by decide) (by decide) hG), (by rw [hQ]; exact ⟨(by unfold fX11_seed; simp only [if_pos c1]), (by unfold fmX11_seed; simp only [if_pos c1])⟩)⟩
  · skip
    refine T_iconst (pc' := 5) dX11_seed_4 (by decide) rfl ?_
    exact T_zret dX11_seed_5 rfl (by decide) ⟨rfl, hG, (by rw [hQ]; exact ⟨(by unfold fX11_seed; simp only [if_neg c1]), (by unfold fmX11_seed; simp only [if_neg c1])⟩)⟩
theorem frX11_seed {M : Mem} {v1 : Int} {q : Int} (hq0 : q ≠ 0) : (fmX11_seed M v1) q = M q := by
  unfold fmX11_seed
  exact (ite_q ((mset_p hq0).trans rfl) rfl)
theorem fbX11_seed (v1 : Int) : (fX11_seed v1) = 0 ∨ (fX11_seed v1) = 1 := by
  unfold fX11_seed
  repeat' (first | apply bi | exact Or.inl rfl | exact Or.inr rfl)
def fX11_hasWatch (M : Mem) (h : Int) (v1 : Int) : Int :=
  (if (fX11_isComer M h v1) = 0 then (0 : Int) else (if (fX11_hasBit (M (h + 1) 7) v1) = 0 then (1 : Int) else 0))
set_option maxRecDepth 100000 in
theorem pX11_hasWatch {E : EV} {h : Int} {M : Mem} {v1 : Int}  : C2 E miX11_hasWatch 3 h [(2, 0), (0, v1)] M (fun r M' => r = some (0, (fX11_hasWatch M h v1)) ∧ M' = M) := by
  obtain ⟨Q, hQ⟩ : ∃ Q : Option MV → Mem → Prop, Q = (fun r M' => r = some (0, (fX11_hasWatch M h v1)) ∧ M' = M) := ⟨_, rfl⟩
  rw [← hQ]
  refine C2_of (L := [(2, 0), (0, v1)]) (by decide +kernel) (Nat.le_of_ble_eq_true rfl) rfl (fun hG => ?_)
  have hh := hG.2.2.2
  refine T_aload_n (i := 0) (pc' := 1) dX11_hasWatch_0 rfl rfl rfl ?_
  refine T_iload_n (i := 1) (pc' := 2) dX11_hasWatch_1 rfl rfl rfl ?_
  refine T_callV (av := [(0, v1)]) (st := []) (d2 := 2) (nc2 := 0) (ns2 := 0) (pc' := 5) dX11_hasWatch_2 rfl mtX11_isComer mvX11_isComer mlX11_257 cl11 rfl rfl rfl (Nat.le_of_ble_eq_true rfl) (by decide) ⟨by decide, by decide⟩ rfl (pX11_isComer (E := E) (h := h) (M := M) (v1 := v1) hG) (kF (st2 := [(0, (fX11_isComer M h v1))]) rfl (fun hG1 => ?_))
  have HJ2 : T E miX11_hasWatch 3 126 0 0 (fun r S M' => S = S0 ∧ G h M' ∧ Q r M') 30 [(3, 0), (3, 0)] [(0, (if (fX11_isComer M h v1) = 0 then (0 : Int) else (if (fX11_hasBit (M (h + 1) 7) v1) = 0 then (1 : Int) else 0)))] S0 M 0 0 := by
    exact T_zret dX11_hasWatch_30 rfl (by repeat' (first | apply bi | exact Or.inl rfl | exact Or.inr rfl | apply fbX11_hasBit | apply fbX11_isComer)) ⟨rfl, hG, (by rw [hQ]; exact ⟨rfl, rfl⟩)⟩
  refine T_if_eq (pc' := 29) dX11_hasWatch_5 (by decide) (pf := 8) rfl (fun c3 => ?_) (fun c3 => ?_)
  · skip
    refine T_iconst (pc' := 30) dX11_hasWatch_29 (by decide) rfl ?_
    exact T_wk (L' := [(3, 0), (3, 0)]) (by have q := HJ2; try simp only [if_pos c3] at q; exact q) ⟨Or.inl rfl, Or.inl rfl, trivial⟩
  · skip
    refine T_aload_n (i := 0) (pc' := 9) dX11_hasWatch_8 rfl rfl rfl ?_
    refine U_gr (q := h) (k := 10) (kI := 10) (pc' := 12) dX11_hasWatch_9 rfl cl11 (by decide) rfl (by decide) flX11_82 rfl rfl rfl hG.2.1 (pog0 hh) rfl ?_
    refine U_grN (q := (h + 1)) (k := 0) (kI := 0) (pc' := 15) dX11_hasWatch_12 rfl cl1 (pog0 hh) (shg0 hh) (by decide) flX11_129 rfl rfl rfl (grg0_0 hh hG) (pog1 hh) rfl ?_
    refine U_gfN (v := (0, (M (h + 1) 7))) (k := 7) (kI := 7) (pc' := 18) dX11_hasWatch_15 rfl cl4 (pog1 hh) (shg1 hh) (by decide) flX11_215 rfl rfl (by decide) rfl rfl ?_
    refine T_iload_n (i := 1) (pc' := 19) dX11_hasWatch_18 rfl rfl rfl ?_
    refine T_callS (av := [(0, (M (h + 1) 7)), (0, v1)]) (st := []) (d2 := 1) (nc2 := 0) (ns2 := 0) (pc' := 22) dX11_hasWatch_19 rfl mtX11_hasBit mvX11_hasBit mlX11_218 rfl rfl (Nat.le_of_ble_eq_true rfl) (by decide) ⟨by decide, by decide⟩ rfl (pX11_hasBit (E := E) (h := h) (M := M) (v0 := (M (h + 1) 7)) (v1 := v1) hG) (kF (st2 := [(0, (fX11_hasBit (M (h + 1) 7) v1))]) rfl (fun hG4 => ?_))
    refine T_if_ne (pc' := 29) dX11_hasWatch_22 (by decide) (pf := 25) rfl (fun c5 => ?_) (fun c5 => ?_)
    · skip
      refine T_iconst (pc' := 30) dX11_hasWatch_29 (by decide) rfl ?_
      exact T_wk (L' := [(3, 0), (3, 0)]) (by have q := HJ2; try simp only [if_neg c3] at q; try simp only [if_neg c5] at q; exact q) ⟨Or.inl rfl, Or.inl rfl, trivial⟩
    · skip
      refine T_iconst (pc' := 26) dX11_hasWatch_25 (by decide) rfl ?_
      refine T_goto (pc' := 30) dX11_hasWatch_26 (by decide) ?_
      exact T_wk (L' := [(3, 0), (3, 0)]) (by have q := HJ2; try simp only [if_neg c3] at q; try simp only [if_pos c5] at q; exact q) ⟨Or.inl rfl, Or.inl rfl, trivial⟩
theorem fbX11_hasWatch (M : Mem) (h : Int) (v1 : Int) : (fX11_hasWatch M h v1) = 0 ∨ (fX11_hasWatch M h v1) = 1 := by
  unfold fX11_hasWatch
  repeat' (first | apply bi | exact Or.inl rfl | exact Or.inr rfl | apply fbX11_hasBit | apply fbX11_isComer)
def fX11_image (M : Mem) (h : Int) : Int :=
  ((fmX1_writeImage (mset M 0 9 (fX1_imageLength M h)) h 31 34) 0 9)
def fmX11_image (M : Mem) (h : Int) : Mem :=
  (fmX1_writeImage (mset M 0 9 (fX1_imageLength M h)) h 31 34)
theorem gX11_image {h : Int} {M : Mem}   (hG : G h M) : G h (fmX11_image M h) := by
  have hh := hG.2.2.2
  unfold fmX11_image
  exact (gX1_writeImage (h := h) (M := (mset M 0 9 (fX1_imageLength M h))) (g := h) (p1 := 31) (np1 := 34) hh (by decide) rfl (by decide) (G_fld (x := 0) (i := 9) (y := (fX1_imageLength M h)) rfl (by decide) (by decide) (by decide) hG))
set_option maxRecDepth 100000 in
theorem pX11_image {E : EV} {h : Int} {M : Mem}   : C2 E miX11_image 4 h [(2, 0)] M (fun r M' => r = some (0, (fX11_image M h)) ∧ M' = (fmX11_image M h)) := by
  obtain ⟨Q, hQ⟩ : ∃ Q : Option MV → Mem → Prop, Q = (fun r M' => r = some (0, (fX11_image M h)) ∧ M' = (fmX11_image M h)) := ⟨_, rfl⟩
  rw [← hQ]
  refine C2_of (L := [(2, 0)]) (by decide +kernel) (Nat.le_of_ble_eq_true rfl) rfl (fun hG => ?_)
  have hh := hG.2.2.2
  refine T_aload_n (i := 0) (pc' := 1) dX11_image_0 rfl rfl rfl ?_
  refine T_aload_n (i := 0) (pc' := 2) dX11_image_1 rfl rfl rfl ?_
  refine U_gr (q := h) (k := 10) (kI := 10) (pc' := 5) dX11_image_2 rfl cl11 (by decide) rfl (by decide) flX11_82 rfl rfl rfl hG.2.1 (pog0 hh) rfl ?_
  refine T_callV (av := []) (st := [(2, 0)]) (d2 := 1) (nc2 := 0) (ns2 := 0) (pc' := 8) dX11_image_5 rfl mtX1_imageLength mvX1_imageLength mlX11_371 cl1 (shg0 hh) rfl rfl (Nat.le_of_ble_eq_true rfl) (by decide) ⟨by decide, by decide⟩ rfl (pX1_imageLength (E := E) (h := h) (M := M) (g := h) hh hG) (kF (st2 := [(0, (fX1_imageLength M h)), (2, 0)]) rfl (fun hG1 => ?_))
  refine U_pf (y := (fX1_imageLength M h)) (k := 9) (kI := 9) (pc' := 11) dX11_image_8 rfl cl11 (by decide) rfl (by decide) flX11_75 rfl rfl rfl rfl rfl (by decide) (fun z => z) rfl ?_
  refine T_aload_n (i := 0) (pc' := 12) dX11_image_11 rfl rfl rfl ?_
  refine U_gr (q := h) (k := 10) (kI := 10) (pc' := 15) dX11_image_12 rfl cl11 (by decide) rfl (by decide) flX11_82 rfl rfl rfl (G_fld (x := 0) (i := 9) (y := (fX1_imageLength M h)) rfl (by decide) (by decide) (by decide) hG).2.1 (pog0 hh) rfl ?_
  refine T_aload_n (i := 0) (pc' := 16) dX11_image_15 rfl rfl rfl ?_
  refine U_gr (q := 31) (k := 8) (kI := 8) (pc' := 19) dX11_image_16 rfl cl11 (by decide) rfl (by decide) flX11_71 rfl rfl rfl (G_at (G_fld (x := 0) (i := 9) (y := (fX1_imageLength M h)) rfl (by decide) (by decide) (by decide) hG) 8 rfl) (by decide) rfl ?_
  refine T_callV (av := [(2, 31)]) (st := []) (d2 := 3) (nc2 := 0) (ns2 := 0) (pc' := 22) dX11_image_19 rfl mtX1_writeImage mvX1_writeImage mlX11_374 cl1 (shg0 hh) rfl rfl (Nat.le_of_ble_eq_true rfl) (by decide) ⟨by decide, by decide⟩ rfl (pX1_writeImage (E := E) (h := h) (M := (mset M 0 9 (fX1_imageLength M h))) (g := h) (p1 := 31) (np1 := 34) hh (by decide) rfl (by decide) (G_fld (x := 0) (i := 9) (y := (fX1_imageLength M h)) rfl (by decide) (by decide) (by decide) hG)) (kF (st2 := []) rfl (fun hG2 => ?_))
  refine T_aload_n (i := 0) (pc' := 23) dX11_image_22 rfl rfl rfl ?_
  refine U_gf (v := (0, ((fmX1_writeImage (mset M 0 9 (fX1_imageLength M h)) h 31 34) 0 9))) (k := 9) (kI := 9) (pc' := 26) dX11_image_23 rfl cl11 (by decide) rfl (by decide) flX11_75 rfl rfl (by decide) rfl rfl ?_
  exact T_iret dX11_image_26 rfl ⟨rfl, (gX1_writeImage (h := h) (M := (mset M 0 9 (fX1_imageLength M h))) (g := h) (p1 := 31) (np1 := 34) hh (by decide) rfl (by decide) (G_fld (x := 0) (i := 9) (y := (fX1_imageLength M h)) rfl (by decide) (by decide) (by decide) hG)), (by rw [hQ]; exact ⟨rfl, rfl⟩)⟩
theorem frX11_image {M : Mem} {h : Int} {q : Int} (hq0 : q ≠ 0) (hq1 : q ≠ 31) : (fmX11_image M h) q = M q := by
  unfold fmX11_image
  exact ((frX1_writeImage hq1).trans ((mset_p hq0).trans rfl))
def fX11_octet (M : Mem) (v1 : Int) : Int :=
  (if v1 < 0 then ((-1) : Int) else (if (M 0 9) ≤ v1 then ((-1) : Int) else (fX11_get M 31 34 v1)))
set_option maxRecDepth 100000 in
theorem pX11_octet {E : EV} {h : Int} {M : Mem} {v1 : Int}  : C2 E miX11_octet 2 h [(2, 0), (0, v1)] M (fun r M' => r = some (0, (fX11_octet M v1)) ∧ M' = M) := by
  obtain ⟨Q, hQ⟩ : ∃ Q : Option MV → Mem → Prop, Q = (fun r M' => r = some (0, (fX11_octet M v1)) ∧ M' = M) := ⟨_, rfl⟩
  rw [← hQ]
  refine C2_of (L := [(2, 0), (0, v1)]) (by decide +kernel) (Nat.le_of_ble_eq_true rfl) rfl (fun hG => ?_)
  refine T_iload_n (i := 1) (pc' := 1) dX11_octet_0 rfl rfl rfl ?_
  have HJ1 : T E miX11_octet 2 126 0 0 (fun r S M' => S = S0 ∧ G h M' ∧ Q r M') 24 [(3, 0), (3, 0)] [(0, (if v1 < 0 then ((-1) : Int) else (if (M 0 9) ≤ v1 then ((-1) : Int) else (fX11_get M 31 34 v1))))] S0 M 0 0 := by
    exact T_iret dX11_octet_24 rfl ⟨rfl, hG, (by rw [hQ]; exact ⟨rfl, rfl⟩)⟩
  refine T_if_lt (pc' := 23) dX11_octet_1 (by decide) (pf := 4) rfl (fun c2 => ?_) (fun c2 => ?_)
  · skip
    refine T_iconst (pc' := 24) dX11_octet_23 (by decide) rfl ?_
    exact T_wk (L' := [(3, 0), (3, 0)]) (by have q := HJ1; try simp only [if_pos c2] at q; exact q) ⟨Or.inl rfl, Or.inl rfl, trivial⟩
  · skip
    refine T_iload_n (i := 1) (pc' := 5) dX11_octet_4 rfl rfl rfl ?_
    refine T_aload_n (i := 0) (pc' := 6) dX11_octet_5 rfl rfl rfl ?_
    refine U_gf (v := (0, (M 0 9))) (k := 9) (kI := 9) (pc' := 9) dX11_octet_6 rfl cl11 (by decide) rfl (by decide) flX11_75 rfl rfl (by decide) rfl rfl ?_
    refine T_icmp_ge (pc' := 23) dX11_octet_9 (by decide) (pf := 12) rfl (fun c3 => ?_) (fun c3 => ?_)
    · skip
      refine T_iconst (pc' := 24) dX11_octet_23 (by decide) rfl ?_
      exact T_wk (L' := [(3, 0), (3, 0)]) (by have q := HJ1; try simp only [if_neg c2] at q; try simp only [if_pos c3] at q; exact q) ⟨Or.inl rfl, Or.inl rfl, trivial⟩
    · skip
      refine T_aload_n (i := 0) (pc' := 13) dX11_octet_12 rfl rfl rfl ?_
      refine U_gr (q := 31) (k := 8) (kI := 8) (pc' := 16) dX11_octet_13 rfl cl11 (by decide) rfl (by decide) flX11_71 rfl rfl rfl (G_at hG 8 rfl) (by decide) rfl ?_
      refine T_iload_n (i := 1) (pc' := 17) dX11_octet_16 rfl rfl rfl ?_
      refine T_callS (av := [(2, 31), (0, v1)]) (st := []) (d2 := 1) (nc2 := 0) (ns2 := 0) (pc' := 20) dX11_octet_17 rfl mtX11_get mvX11_get mlX11_189 rfl rfl (Nat.le_of_ble_eq_true rfl) (by decide) ⟨by decide, by decide⟩ rfl (pX11_get (E := E) (h := h) (M := M) (p0 := 31) (np0 := 34) (v1 := v1) (by decide) rfl (by decide) hG) (kF (st2 := [(0, (fX11_get M 31 34 v1))]) rfl (fun hG4 => ?_))
      refine T_goto (pc' := 24) dX11_octet_20 (by decide) ?_
      exact T_wk (L' := [(3, 0), (3, 0)]) (by have q := HJ1; try simp only [if_neg c2] at q; try simp only [if_neg c3] at q; exact q) ⟨Or.inl rfl, Or.inl rfl, trivial⟩
def fX11_on (M : Mem) (h : Int) : Int :=
  (if (fX1_isTold M h) = 0 then (0 : Int) else (if (fX1_isImage M h) = 0 then (0 : Int) else 1))
def fmX11_on (M : Mem) (h : Int) : Mem :=
  (fmX8_cutTo (if (if (fX1_isTold M h) = 0 then (0 : Int) else (if (fX1_isImage M h) = 0 then (0 : Int) else 1)) = 0 then M else (fmX11_changed (fmX0_forget (fmX1_takeImage M h)) 1)) 0)
theorem gX11_on {h : Int} {M : Mem}   (hG : G h M) : G h (fmX11_on M h) := by
  have hh := hG.2.2.2
  unfold fmX11_on
  exact (gX8_cutTo (h := h) (M := (if (if (fX1_isTold M h) = 0 then (0 : Int) else (if (fX1_isImage M h) = 0 then (0 : Int) else 1)) = 0 then M else (fmX11_changed (fmX0_forget (fmX1_takeImage M h)) 1))) (v1 := 0) (G_ite hG (gX11_changed (h := h) (M := (fmX0_forget (fmX1_takeImage M h))) (v1 := 1) (gX0_forget (h := h) (M := (fmX1_takeImage M h)) (gX1_takeImage (h := h) (M := M) (g := h) hh hG)))))
set_option maxRecDepth 100000 in
theorem pX11_on {E : EV} {h : Int} {M : Mem}   : C2 E miX11_on 5 h [(2, 0)] M (fun r M' => r = some (0, (fX11_on M h)) ∧ M' = (fmX11_on M h)) := by
  obtain ⟨Q, hQ⟩ : ∃ Q : Option MV → Mem → Prop, Q = (fun r M' => r = some (0, (fX11_on M h)) ∧ M' = (fmX11_on M h)) := ⟨_, rfl⟩
  rw [← hQ]
  refine C2_of (L := [(2, 0), (3, 0)]) (by decide +kernel) (Nat.le_of_ble_eq_true rfl) rfl (fun hG => ?_)
  have hh := hG.2.2.2
  refine T_aload_n (i := 0) (pc' := 1) dX11_on_0 rfl rfl rfl ?_
  refine U_gr (q := h) (k := 10) (kI := 10) (pc' := 4) dX11_on_1 rfl cl11 (by decide) rfl (by decide) flX11_82 rfl rfl rfl hG.2.1 (pog0 hh) rfl ?_
  refine T_callV (av := []) (st := []) (d2 := 1) (nc2 := 0) (ns2 := 0) (pc' := 7) dX11_on_4 rfl mtX1_isTold mvX1_isTold mlX11_278 cl1 (shg0 hh) rfl rfl (Nat.le_of_ble_eq_true rfl) (by decide) ⟨by decide, by decide⟩ rfl (pX1_isTold (E := E) (h := h) (M := M) (g := h) hh hG) (kF (st2 := [(0, (fX1_isTold M h))]) rfl (fun hG1 => ?_))
  have HJ2 : T E miX11_on 5 126 0 0 (fun r S M' => S = S0 ∧ G h M' ∧ Q r M') 29 [(2, 0), (3, 0)] [(0, (if (fX1_isTold M h) = 0 then (0 : Int) else (if (fX1_isImage M h) = 0 then (0 : Int) else 1)))] S0 M 0 0 := by
    refine T_istore_n (i := 1) (L' := [(2, 0), (0, (if (fX1_isTold M h) = 0 then (0 : Int) else (if (fX1_isImage M h) = 0 then (0 : Int) else 1)))]) (pc' := 30) dX11_on_29 rfl (by decide) rfl rfl ?_
    refine T_iload_n (i := 1) (pc' := 31) dX11_on_30 rfl rfl rfl ?_
    have HJ3 : T E miX11_on 5 126 0 0 (fun r S M' => S = S0 ∧ G h M' ∧ Q r M') 57 [(2, 0), (0, (if (fX1_isTold M h) = 0 then (0 : Int) else (if (fX1_isImage M h) = 0 then (0 : Int) else 1)))] [] S0 (if (if (fX1_isTold M h) = 0 then (0 : Int) else (if (fX1_isImage M h) = 0 then (0 : Int) else 1)) = 0 then M else (fmX11_changed (fmX0_forget (fmX1_takeImage M h)) 1)) 0 0 := by
      refine T_aload_n (i := 0) (pc' := 58) dX11_on_57 rfl rfl rfl ?_
      refine U_gr (q := 1) (k := 0) (kI := 0) (pc' := 61) dX11_on_58 rfl cl11 (by decide) rfl (by decide) flX11_12 rfl rfl rfl (G_at (G_ite hG (gX11_changed (h := h) (M := (fmX0_forget (fmX1_takeImage M h))) (v1 := 1) (gX0_forget (h := h) (M := (fmX1_takeImage M h)) (gX1_takeImage (h := h) (M := M) (g := h) hh hG)))) 0 rfl) (by decide) rfl ?_
      refine T_iconst (pc' := 62) dX11_on_61 (by decide) rfl ?_
      refine T_callV (av := [(0, 0)]) (st := []) (d2 := 1) (nc2 := 0) (ns2 := 0) (pc' := 65) dX11_on_62 rfl mtX8_cutTo mvX8_cutTo mlX11_119 cl8 rfl rfl rfl (Nat.le_of_ble_eq_true rfl) (by decide) ⟨by decide, by decide⟩ rfl (pX8_cutTo (E := E) (h := h) (M := (if (if (fX1_isTold M h) = 0 then (0 : Int) else (if (fX1_isImage M h) = 0 then (0 : Int) else 1)) = 0 then M else (fmX11_changed (fmX0_forget (fmX1_takeImage M h)) 1))) (v1 := 0) (G_ite hG (gX11_changed (h := h) (M := (fmX0_forget (fmX1_takeImage M h))) (v1 := 1) (gX0_forget (h := h) (M := (fmX1_takeImage M h)) (gX1_takeImage (h := h) (M := M) (g := h) hh hG))))) (kF (st2 := [(0, (fX8_cutTo (if (if (fX1_isTold M h) = 0 then (0 : Int) else (if (fX1_isImage M h) = 0 then (0 : Int) else 1)) = 0 then M else (fmX11_changed (fmX0_forget (fmX1_takeImage M h)) 1)) 0))]) rfl (fun hG4 => ?_))
      refine T_pop (pc' := 66) dX11_on_65 (Nat.ne_of_beq_eq_false rfl) rfl ?_
      refine T_iload_n (i := 1) (pc' := 67) dX11_on_66 rfl rfl rfl ?_
      exact T_zret dX11_on_67 rfl (by repeat' (first | apply bi | exact Or.inl rfl | exact Or.inr rfl | apply fbX1_isTold | apply fbX8_cutTo)) ⟨rfl, (gX8_cutTo (h := h) (M := (if (if (fX1_isTold M h) = 0 then (0 : Int) else (if (fX1_isImage M h) = 0 then (0 : Int) else 1)) = 0 then M else (fmX11_changed (fmX0_forget (fmX1_takeImage M h)) 1))) (v1 := 0) (G_ite hG (gX11_changed (h := h) (M := (fmX0_forget (fmX1_takeImage M h))) (v1 := 1) (gX0_forget (h := h) (M := (fmX1_takeImage M h)) (gX1_takeImage (h := h) (M := M) (g := h) hh hG))))), (by rw [hQ]; exact ⟨rfl, rfl⟩)⟩
    refine T_if_eq (pc' := 57) dX11_on_31 (by decide) (pf := 34) rfl (fun c5 => ?_) (fun c5 => ?_)
    · skip
      exact T_wk (L' := [(2, 0), (0, (if (fX1_isTold M h) = 0 then (0 : Int) else (if (fX1_isImage M h) = 0 then (0 : Int) else 1)))]) (by have q := HJ3; try simp only [if_pos c5] at q; exact q) ⟨Or.inr rfl, Or.inr rfl, trivial⟩
    · skip
      refine T_aload_n (i := 0) (pc' := 35) dX11_on_34 rfl rfl rfl ?_
      refine U_gr (q := h) (k := 10) (kI := 10) (pc' := 38) dX11_on_35 rfl cl11 (by decide) rfl (by decide) flX11_82 rfl rfl rfl hG.2.1 (pog0 hh) rfl ?_
      refine T_aload_n (i := 0) (pc' := 39) dX11_on_38 rfl rfl rfl ?_
      refine U_gr (q := 1) (k := 0) (kI := 0) (pc' := 42) dX11_on_39 rfl cl11 (by decide) rfl (by decide) flX11_12 rfl rfl rfl (G_at hG 0 rfl) (by decide) rfl ?_
      refine T_callV (av := [(2, 1)]) (st := []) (d2 := 3) (nc2 := 0) (ns2 := 0) (pc' := 45) dX11_on_42 rfl mtX1_takeImage mvX1_takeImage mlX11_382 cl1 (shg0 hh) rfl rfl (Nat.le_of_ble_eq_true rfl) (by decide) ⟨by decide, by decide⟩ rfl (pX1_takeImage (E := E) (h := h) (M := M) (g := h) hh hG) (kF (st2 := []) rfl (fun hG6 => ?_))
      refine T_aload_n (i := 0) (pc' := 46) dX11_on_45 rfl rfl rfl ?_
      refine U_gr (q := 27) (k := 7) (kI := 7) (pc' := 49) dX11_on_46 rfl cl11 (by decide) rfl (by decide) flX11_67 rfl rfl rfl (G_at (gX1_takeImage (h := h) (M := M) (g := h) hh hG) 7 rfl) (by decide) rfl ?_
      refine T_callV (av := []) (st := []) (d2 := 1) (nc2 := 0) (ns2 := 0) (pc' := 52) dX11_on_49 rfl mtX0_forget mvX0_forget mlX11_139 cl0 rfl rfl rfl (Nat.le_of_ble_eq_true rfl) (by decide) ⟨by decide, by decide⟩ rfl (pX0_forget (E := E) (h := h) (M := (fmX1_takeImage M h)) (gX1_takeImage (h := h) (M := M) (g := h) hh hG)) (kF (st2 := []) rfl (fun hG7 => ?_))
      refine T_aload_n (i := 0) (pc' := 53) dX11_on_52 rfl rfl rfl ?_
      refine T_iconst (pc' := 54) dX11_on_53 (by decide) rfl ?_
      refine T_callV (av := [(0, 1)]) (st := []) (d2 := 1) (nc2 := 0) (ns2 := 0) (pc' := 57) dX11_on_54 rfl mtX11_changed mvX11_changed mlX11_142 cl11 rfl rfl rfl (Nat.le_of_ble_eq_true rfl) (by decide) ⟨by decide, by decide⟩ rfl (pX11_changed (E := E) (h := h) (M := (fmX0_forget (fmX1_takeImage M h))) (v1 := 1) (gX0_forget (h := h) (M := (fmX1_takeImage M h)) (gX1_takeImage (h := h) (M := M) (g := h) hh hG))) (kF (st2 := []) rfl (fun hG8 => ?_))
      exact T_wk (L' := [(2, 0), (0, (if (fX1_isTold M h) = 0 then (0 : Int) else (if (fX1_isImage M h) = 0 then (0 : Int) else 1)))]) (by have q := HJ3; try simp only [if_neg c5] at q; exact q) ⟨Or.inr rfl, Or.inr rfl, trivial⟩
  refine T_if_eq (pc' := 28) dX11_on_7 (by decide) (pf := 10) rfl (fun c9 => ?_) (fun c9 => ?_)
  · skip
    refine T_iconst (pc' := 29) dX11_on_28 (by decide) rfl ?_
    exact T_wk (L' := [(2, 0), (3, 0)]) (by have q := HJ2; try simp only [if_pos c9] at q; exact q) ⟨Or.inr rfl, Or.inl rfl, trivial⟩
  · skip
    refine T_aload_n (i := 0) (pc' := 11) dX11_on_10 rfl rfl rfl ?_
    refine U_gr (q := h) (k := 10) (kI := 10) (pc' := 14) dX11_on_11 rfl cl11 (by decide) rfl (by decide) flX11_82 rfl rfl rfl hG.2.1 (pog0 hh) rfl ?_
    refine T_aload_n (i := 0) (pc' := 15) dX11_on_14 rfl rfl rfl ?_
    refine U_gr (q := 1) (k := 0) (kI := 0) (pc' := 18) dX11_on_15 rfl cl11 (by decide) rfl (by decide) flX11_12 rfl rfl rfl (G_at hG 0 rfl) (by decide) rfl ?_
    refine T_callV (av := [(2, 1)]) (st := []) (d2 := 4) (nc2 := 0) (ns2 := 0) (pc' := 21) dX11_on_18 rfl mtX1_isImage mvX1_isImage mlX11_378 cl1 (shg0 hh) rfl rfl (Nat.le_of_ble_eq_true rfl) (by decide) ⟨by decide, by decide⟩ rfl (pX1_isImage (E := E) (h := h) (M := M) (g := h) hh hG) (kF (st2 := [(0, (fX1_isImage M h))]) rfl (fun hG10 => ?_))
    refine T_if_eq (pc' := 28) dX11_on_21 (by decide) (pf := 24) rfl (fun c11 => ?_) (fun c11 => ?_)
    · skip
      refine T_iconst (pc' := 29) dX11_on_28 (by decide) rfl ?_
      exact T_wk (L' := [(2, 0), (3, 0)]) (by have q := HJ2; try simp only [if_neg c9] at q; try simp only [if_pos c11] at q; exact q) ⟨Or.inr rfl, Or.inl rfl, trivial⟩
    · skip
      refine T_iconst (pc' := 25) dX11_on_24 (by decide) rfl ?_
      refine T_goto (pc' := 29) dX11_on_25 (by decide) ?_
      exact T_wk (L' := [(2, 0), (3, 0)]) (by have q := HJ2; try simp only [if_neg c9] at q; try simp only [if_neg c11] at q; exact q) ⟨Or.inr rfl, Or.inl rfl, trivial⟩
theorem frX11_on {M : Mem} {h : Int} {q : Int} (hq0 : q ≠ (h + 11)) (hq1 : q ≠ (h + 3)) (hq2 : q ≠ (h + 4)) (hq3 : q ≠ (h + 5)) (hq4 : q ≠ 27) (hq5 : q ≠ 0) (hq6 : q ≠ 1) : (fmX11_on M h) q = M q := by
  unfold fmX11_on
  exact ((frX8_cutTo hq6).trans (ite_q rfl ((frX11_changed hq5).trans ((frX0_forget hq4).trans ((frX1_takeImage hq0 hq1 hq2 hq3).trans rfl)))))
theorem fbX11_on (M : Mem) (h : Int) : (fX11_on M h) = 0 ∨ (fX11_on M h) = 1 := by
  unfold fX11_on
  repeat' (first | apply bi | exact Or.inl rfl | exact Or.inr rfl | apply fbX1_isTold | apply fbX8_cutTo)
def fX12_isIn (v0 : Int) (v2 : Int) (v4 : Int) : Int :=
  (if (m_cmp v0 v2) < 0 then (0 : Int) else (if 0 < (m_cmp v0 v4) then (0 : Int) else 1))
set_option maxRecDepth 100000 in
theorem pX12_isIn {E : EV} {h : Int} {M : Mem} {v0 : Int} {v2 : Int} {v4 : Int}  : C2 E miX12_isIn 1 h [(1, v0), (1, v2), (1, v4)] M (fun r M' => r = some (0, (fX12_isIn v0 v2 v4)) ∧ M' = M) := by
  obtain ⟨Q, hQ⟩ : ∃ Q : Option MV → Mem → Prop, Q = (fun r M' => r = some (0, (fX12_isIn v0 v2 v4)) ∧ M' = M) := ⟨_, rfl⟩
  rw [← hQ]
  refine C2_of (L := [(1, v0), (3, 0), (1, v2), (3, 0), (1, v4), (3, 0)]) (by decide +kernel) (Nat.le_of_ble_eq_true rfl) rfl (fun hG => ?_)
  refine T_lload_n (i := 0) (pc' := 1) dX12_isIn_0 rfl rfl rfl ?_
  refine T_lload_n (i := 2) (pc' := 2) dX12_isIn_1 rfl rfl rfl ?_
  refine T_lcmp (pc' := 3) dX12_isIn_2 rfl ?_
  have HJ1 : T E miX12_isIn 1 126 0 0 (fun r S M' => S = S0 ∧ G h M' ∧ Q r M') 18 [(3, 0), (3, 0), (3, 0), (3, 0), (3, 0), (3, 0)] [(0, (if (m_cmp v0 v2) < 0 then (0 : Int) else (if 0 < (m_cmp v0 v4) then (0 : Int) else 1)))] S0 M 0 0 := by
    exact T_zret dX12_isIn_18 rfl (by repeat' (first | apply bi | exact Or.inl rfl | exact Or.inr rfl)) ⟨rfl, hG, (by rw [hQ]; exact ⟨rfl, rfl⟩)⟩
  refine T_if_lt (pc' := 17) dX12_isIn_3 (by decide) (pf := 6) rfl (fun c2 => ?_) (fun c2 => ?_)
  · skip
    refine T_iconst (pc' := 18) dX12_isIn_17 (by decide) rfl ?_
    exact T_wk (L' := [(3, 0), (3, 0), (3, 0), (3, 0), (3, 0), (3, 0)]) (by have q := HJ1; try simp only [if_pos c2] at q; exact q) ⟨Or.inl rfl, Or.inl rfl, Or.inl rfl, Or.inl rfl, Or.inl rfl, Or.inl rfl, trivial⟩
  · skip
    refine T_lload_n (i := 0) (pc' := 7) dX12_isIn_6 rfl rfl rfl ?_
    refine T_lload (i := 4) (pc' := 9) dX12_isIn_7 rfl rfl ?_
    refine T_lcmp (pc' := 10) dX12_isIn_9 rfl ?_
    refine T_if_gt (pc' := 17) dX12_isIn_10 (by decide) (pf := 13) rfl (fun c3 => ?_) (fun c3 => ?_)
    · skip
      refine T_iconst (pc' := 18) dX12_isIn_17 (by decide) rfl ?_
      exact T_wk (L' := [(3, 0), (3, 0), (3, 0), (3, 0), (3, 0), (3, 0)]) (by have q := HJ1; try simp only [if_neg c2] at q; try simp only [if_pos c3] at q; exact q) ⟨Or.inl rfl, Or.inl rfl, Or.inl rfl, Or.inl rfl, Or.inl rfl, Or.inl rfl, trivial⟩
    · skip
      refine T_iconst (pc' := 14) dX12_isIn_13 (by decide) rfl ?_
      refine T_goto (pc' := 18) dX12_isIn_14 (by decide) ?_
      exact T_wk (L' := [(3, 0), (3, 0), (3, 0), (3, 0), (3, 0), (3, 0)]) (by have q := HJ1; try simp only [if_neg c2] at q; try simp only [if_neg c3] at q; exact q) ⟨Or.inl rfl, Or.inl rfl, Or.inl rfl, Or.inl rfl, Or.inl rfl, Or.inl rfl, trivial⟩
theorem fbX12_isIn (v0 : Int) (v2 : Int) (v4 : Int) : (fX12_isIn v0 v2 v4) = 0 ∨ (fX12_isIn v0 v2 v4) = 1 := by
  unfold fX12_isIn
  repeat' (first | apply bi | exact Or.inl rfl | exact Or.inr rfl)
def lX12_feed_18  : Nat → Int → Int → Int → Int → Int → Int → Mem → Int
  | 0, v1, v2, v3, v4, v5, v6, M => (M 66 1)
  | k + 1, v1, v2, v3, v4, v5, v6, M => (lX12_feed_18 k v1 v2 v3 v4 v5 (v6 + 1) (mset (mset M 67 (M 66 1) (m_and (m_shr (if 4 ≤ v6 then (if 8 ≤ v6 then (if 12 ≤ v6 then (if 16 ≤ v6 then v5 else v4) else v3) else v2) else v1) (wr32 (8 * (wr32 (3 - (Int.tmod v6 4)))))) 255)) 66 1 (wr32 (((mset M 67 (M 66 1) (m_and (m_shr (if 4 ≤ v6 then (if 8 ≤ v6 then (if 12 ≤ v6 then (if 16 ≤ v6 then v5 else v4) else v3) else v2) else v1) (wr32 (8 * (wr32 (3 - (Int.tmod v6 4)))))) 255)) 66 1) + 1))))
def lmX12_feed_18  : Nat → Int → Int → Int → Int → Int → Int → Mem → Mem
  | 0, v1, v2, v3, v4, v5, v6, M => M
  | k + 1, v1, v2, v3, v4, v5, v6, M => (lmX12_feed_18 k v1 v2 v3 v4 v5 (v6 + 1) (mset (mset M 67 (M 66 1) (m_and (m_shr (if 4 ≤ v6 then (if 8 ≤ v6 then (if 12 ≤ v6 then (if 16 ≤ v6 then v5 else v4) else v3) else v2) else v1) (wr32 (8 * (wr32 (3 - (Int.tmod v6 4)))))) 255)) 66 1 (wr32 (((mset M 67 (M 66 1) (m_and (m_shr (if 4 ≤ v6 then (if 8 ≤ v6 then (if 12 ≤ v6 then (if 16 ≤ v6 then v5 else v4) else v3) else v2) else v1) (wr32 (8 * (wr32 (3 - (Int.tmod v6 4)))))) 255)) 66 1) + 1))))
theorem frlX12_feed_18  {q : Int} (hq0 : q ≠ 67) (hq1 : q ≠ 66) : ∀ {k : Nat} {v1 v2 v3 v4 v5 v6 : Int} {M : Mem}, (lmX12_feed_18  k v1 v2 v3 v4 v5 v6 M) q = M q := by
  intro k
  induction k with
  | zero =>
    intro v1 v2 v3 v4 v5 v6 M
    show M q = M q
    exact rfl
  | succ k ih =>
    intro v1 v2 v3 v4 v5 v6 M
    show (lmX12_feed_18 k v1 v2 v3 v4 v5 (v6 + 1) (mset (mset M 67 (M 66 1) (m_and (m_shr (if 4 ≤ v6 then (if 8 ≤ v6 then (if 12 ≤ v6 then (if 16 ≤ v6 then v5 else v4) else v3) else v2) else v1) (wr32 (8 * (wr32 (3 - (Int.tmod v6 4)))))) 255)) 66 1 (wr32 (((mset M 67 (M 66 1) (m_and (m_shr (if 4 ≤ v6 then (if 8 ≤ v6 then (if 12 ≤ v6 then (if 16 ≤ v6 then v5 else v4) else v3) else v2) else v1) (wr32 (8 * (wr32 (3 - (Int.tmod v6 4)))))) 255)) 66 1) + 1)))) q = M q
    exact ((ih).trans ((mset_p hq1).trans ((mset_p hq0).trans rfl)))
theorem glX12_feed_18 {h : Int}   : ∀ {k : Nat} {v1 v2 v3 v4 v5 v6 : Int} {M : Mem}, G h M → G h (lmX12_feed_18  k v1 v2 v3 v4 v5 v6 M) := by
  intro k
  induction k with
  | zero =>
    intro v1 v2 v3 v4 v5 v6 M hG
    show G h M
    exact hG
  | succ k ih =>
    intro v1 v2 v3 v4 v5 v6 M hG
    show G h (lmX12_feed_18 k v1 v2 v3 v4 v5 (v6 + 1) (mset (mset M 67 (M 66 1) (m_and (m_shr (if 4 ≤ v6 then (if 8 ≤ v6 then (if 12 ≤ v6 then (if 16 ≤ v6 then v5 else v4) else v3) else v2) else v1) (wr32 (8 * (wr32 (3 - (Int.tmod v6 4)))))) 255)) 66 1 (wr32 (((mset M 67 (M 66 1) (m_and (m_shr (if 4 ≤ v6 then (if 8 ≤ v6 then (if 12 ≤ v6 then (if 16 ≤ v6 then v5 else v4) else v3) else v2) else v1) (wr32 (8 * (wr32 (3 - (Int.tmod v6 4)))))) 255)) 66 1) + 1))))
    exact (ih (G_fld (x := 66) (i := 1) (y := (wr32 (((mset M 67 (M 66 1) (m_and (m_shr (if 4 ≤ v6 then (if 8 ≤ v6 then (if 12 ≤ v6 then (if 16 ≤ v6 then v5 else v4) else v3) else v2) else v1) (wr32 (8 * (wr32 (3 - (Int.tmod v6 4)))))) 255)) 66 1) + 1))) rfl (by decide) (by decide) (by decide) (G_arr (x := 67) (i := (M 66 1)) (y := (m_and (m_shr (if 4 ≤ v6 then (if 8 ≤ v6 then (if 12 ≤ v6 then (if 16 ≤ v6 then v5 else v4) else v3) else v2) else v1) (wr32 (8 * (wr32 (3 - (Int.tmod v6 4)))))) 255)) rfl (by decide) hG)))
def nlX12_feed_18  : Nat → Int → Int → Int → Int → Int → Int → Mem → Prop
  | 0, v1, v2, v3, v4, v5, v6, M => True
  | k + 1, v1, v2, v3, v4, v5, v6, M => (0 ≤ (M 66 1) ∧ (M 66 1) < 1600) ∧ ((nlX12_feed_18 k v1 v2 v3 v4 v5 (v6 + 1) (mset (mset M 67 (M 66 1) (m_and (m_shr (if 4 ≤ v6 then (if 8 ≤ v6 then (if 12 ≤ v6 then (if 16 ≤ v6 then v5 else v4) else v3) else v2) else v1) (wr32 (8 * (wr32 (3 - (Int.tmod v6 4)))))) 255)) 66 1 (wr32 (((mset M 67 (M 66 1) (m_and (m_shr (if 4 ≤ v6 then (if 8 ≤ v6 then (if 12 ≤ v6 then (if 16 ≤ v6 then v5 else v4) else v3) else v2) else v1) (wr32 (8 * (wr32 (3 - (Int.tmod v6 4)))))) 255)) 66 1) + 1)))))
set_option maxRecDepth 100000 in
set_option maxHeartbeats 2000000 in
theorem qX12_feed_18 {E : EV} {h : Int} {Q : Option MV → Mem → Prop}   : ∀ (k : Nat) (v1 v2 v3 v4 v5 v6 : Int) (M : Mem), 0 ≤ v6 → ((20) - v6).toNat = k → (nlX12_feed_18 k v1 v2 v3 v4 v5 v6 M) → Q (some (0, (lX12_feed_18 k v1 v2 v3 v4 v5 v6 M))) (lmX12_feed_18 k v1 v2 v3 v4 v5 v6 M) → G h M → TG E miX12_feed 1 h Q 18 [(2, 66), (0, v1), (0, v2), (0, v3), (0, v4), (0, v5), (0, v6), (3, 0)] [] M := by
  intro k
  induction k with
  | zero =>
    intro v1 v2 v3 v4 v5 v6 M hv0 hk hs hQ hG
    have hQ : Q (some (0, (M 66 1))) M := hQ
    have hs : True := hs
    refine T_iload (i := 6) (pc' := 20) dX12_feed_18 rfl rfl ?_
    refine T_bipush (pc' := 22) dX12_feed_20 rfl (by decide) rfl ?_
    refine T_rng (fun _ z9 _ => ?_)
    have hB : r32 20 := (ok_cons.mp z9).1
    unfold r32 at hB
    refine T_icmp_ge (pc' := 114) dX12_feed_22 (by decide) (pf := 25) rfl (fun c1 => ?_) (fun c1 => ?_)
    · skip
      refine T_aload_n (i := 0) (pc' := 115) dX12_feed_114 rfl rfl rfl ?_
      refine U_gf (v := (0, (M 66 1))) (k := 1) (kI := 1) (pc' := 118) dX12_feed_115 rfl cl12 (by decide) rfl (by decide) flX12_198 rfl rfl (by decide) rfl rfl ?_
      exact T_iret dX12_feed_118 rfl ⟨rfl, hG, hQ⟩
    · exact absurd c1 (by omega)
  | succ k ih =>
    intro v1 v2 v3 v4 v5 v6 M hv0 hk hs hQ hG
    have hQ : Q (some (0, (lX12_feed_18 k v1 v2 v3 v4 v5 (v6 + 1) (mset (mset M 67 (M 66 1) (m_and (m_shr (if 4 ≤ v6 then (if 8 ≤ v6 then (if 12 ≤ v6 then (if 16 ≤ v6 then v5 else v4) else v3) else v2) else v1) (wr32 (8 * (wr32 (3 - (Int.tmod v6 4)))))) 255)) 66 1 (wr32 (((mset M 67 (M 66 1) (m_and (m_shr (if 4 ≤ v6 then (if 8 ≤ v6 then (if 12 ≤ v6 then (if 16 ≤ v6 then v5 else v4) else v3) else v2) else v1) (wr32 (8 * (wr32 (3 - (Int.tmod v6 4)))))) 255)) 66 1) + 1)))))) (lmX12_feed_18 k v1 v2 v3 v4 v5 (v6 + 1) (mset (mset M 67 (M 66 1) (m_and (m_shr (if 4 ≤ v6 then (if 8 ≤ v6 then (if 12 ≤ v6 then (if 16 ≤ v6 then v5 else v4) else v3) else v2) else v1) (wr32 (8 * (wr32 (3 - (Int.tmod v6 4)))))) 255)) 66 1 (wr32 (((mset M 67 (M 66 1) (m_and (m_shr (if 4 ≤ v6 then (if 8 ≤ v6 then (if 12 ≤ v6 then (if 16 ≤ v6 then v5 else v4) else v3) else v2) else v1) (wr32 (8 * (wr32 (3 - (Int.tmod v6 4)))))) 255)) 66 1) + 1)))) := hQ
    have hs : (0 ≤ (M 66 1) ∧ (M 66 1) < 1600) ∧ ((nlX12_feed_18 k v1 v2 v3 v4 v5 (v6 + 1) (mset (mset M 67 (M 66 1) (m_and (m_shr (if 4 ≤ v6 then (if 8 ≤ v6 then (if 12 ≤ v6 then (if 16 ≤ v6 then v5 else v4) else v3) else v2) else v1) (wr32 (8 * (wr32 (3 - (Int.tmod v6 4)))))) 255)) 66 1 (wr32 (((mset M 67 (M 66 1) (m_and (m_shr (if 4 ≤ v6 then (if 8 ≤ v6 then (if 12 ≤ v6 then (if 16 ≤ v6 then v5 else v4) else v3) else v2) else v1) (wr32 (8 * (wr32 (3 - (Int.tmod v6 4)))))) 255)) 66 1) + 1))))) := hs
    obtain ⟨n1, n2⟩ := hs
    refine T_iload (i := 6) (pc' := 20) dX12_feed_18 rfl rfl ?_
    refine T_bipush (pc' := 22) dX12_feed_20 rfl (by decide) rfl ?_
    refine T_rng (fun _ z9 _ => ?_)
    have hB : r32 20 := (ok_cons.mp z9).1
    unfold r32 at hB
    refine T_icmp_ge (pc' := 114) dX12_feed_22 (by decide) (pf := 25) rfl (fun c1 => ?_) (fun c1 => ?_)
    · exact absurd c1 (by omega)
    · skip
      have hw : wr32 (v6 + 1) = v6 + 1 := wr32_id (by unfold r32; omega)
      refine T_iload (i := 6) (pc' := 27) dX12_feed_25 rfl rfl ?_
      refine T_iconst (pc' := 28) dX12_feed_27 (by decide) rfl ?_
      have HJ2 : T E miX12_feed 1 126 0 0 (fun r S M' => S = S0 ∧ G h M' ∧ Q r M') 71 [(2, 66), (0, v1), (0, v2), (0, v3), (0, v4), (0, v5), (0, v6), (3, 0)] [(0, (if 4 ≤ v6 then (if 8 ≤ v6 then (if 12 ≤ v6 then (if 16 ≤ v6 then v5 else v4) else v3) else v2) else v1))] S0 M 0 0 := by
        refine T_istore (i := 7) (L' := [(2, 66), (0, v1), (0, v2), (0, v3), (0, v4), (0, v5), (0, v6), (0, (if 4 ≤ v6 then (if 8 ≤ v6 then (if 12 ≤ v6 then (if 16 ≤ v6 then v5 else v4) else v3) else v2) else v1))]) (pc' := 73) dX12_feed_71 (by decide) rfl rfl ?_
        refine T_aload_n (i := 0) (pc' := 74) dX12_feed_73 rfl rfl rfl ?_
        refine U_gr (q := 67) (k := 0) (kI := 0) (pc' := 77) dX12_feed_74 rfl cl12 (by decide) rfl (by decide) flX12_7 rfl rfl rfl (G_at hG 67 rfl) (by decide) rfl ?_
        refine T_aload_n (i := 0) (pc' := 78) dX12_feed_77 rfl rfl rfl ?_
        refine U_gf (v := (0, (M 66 1))) (k := 1) (kI := 1) (pc' := 81) dX12_feed_78 rfl cl12 (by decide) rfl (by decide) flX12_198 rfl rfl (by decide) rfl rfl ?_
        refine T_iload (i := 7) (pc' := 83) dX12_feed_81 rfl rfl ?_
        refine T_bipush (pc' := 85) dX12_feed_83 rfl (by decide) rfl ?_
        refine T_iconst (pc' := 86) dX12_feed_85 (by decide) rfl ?_
        refine T_iload (i := 6) (pc' := 88) dX12_feed_86 rfl rfl ?_
        refine T_iconst (pc' := 89) dX12_feed_88 (by decide) rfl ?_
        refine T_irem (pc' := 90) dX12_feed_89 (by decide) rfl ?_
        refine T_isub (pc' := 91) dX12_feed_90 rfl ?_
        refine T_imul (pc' := 92) dX12_feed_91 rfl ?_
        refine T_ishr (pc' := 93) dX12_feed_92 rfl ?_
        refine T_sipush (pc' := 96) dX12_feed_93 rfl (by decide) rfl ?_
        refine T_iand (pc' := 97) dX12_feed_96 rfl ?_
        refine T_iast (pc' := 98) dX12_feed_97 (by decide) rfl (n1).1 (n1).2 rfl ?_
        refine T_aload_n (i := 0) (pc' := 99) dX12_feed_98 rfl rfl rfl ?_
        refine T_dup (pc' := 100) dX12_feed_99 (Nat.ne_of_beq_eq_false rfl) rfl ?_
        refine U_gf (v := (0, ((mset M 67 (M 66 1) (m_and (m_shr (if 4 ≤ v6 then (if 8 ≤ v6 then (if 12 ≤ v6 then (if 16 ≤ v6 then v5 else v4) else v3) else v2) else v1) (wr32 (8 * (wr32 (3 - (Int.tmod v6 4)))))) 255)) 66 1))) (k := 1) (kI := 1) (pc' := 103) dX12_feed_100 rfl cl12 (by decide) rfl (by decide) flX12_198 rfl rfl (by decide) rfl rfl ?_
        refine T_iconst (pc' := 104) dX12_feed_103 (by decide) rfl ?_
        refine T_iadd (pc' := 105) dX12_feed_104 rfl ?_
        refine U_pf (y := (wr32 (((mset M 67 (M 66 1) (m_and (m_shr (if 4 ≤ v6 then (if 8 ≤ v6 then (if 12 ≤ v6 then (if 16 ≤ v6 then v5 else v4) else v3) else v2) else v1) (wr32 (8 * (wr32 (3 - (Int.tmod v6 4)))))) 255)) 66 1) + 1))) (k := 1) (kI := 1) (pc' := 108) dX12_feed_105 rfl cl12 (by decide) rfl (by decide) flX12_198 rfl rfl rfl rfl rfl (by decide) (fun z => z) rfl ?_
        refine T_iinc (L' := [(2, 66), (0, v1), (0, v2), (0, v3), (0, v4), (0, v5), (0, (wr32 (v6 + 1))), (0, (if 4 ≤ v6 then (if 8 ≤ v6 then (if 12 ≤ v6 then (if 16 ≤ v6 then v5 else v4) else v3) else v2) else v1))]) (pc' := 111) dX12_feed_108 rfl (by decide) rfl rfl ?_
        refine T_goto (pc' := 18) dX12_feed_111 (by decide) ?_
        rw [hw]
        exact T_wk (ih _ _ _ _ _ (v6 + 1) _ (by omega) (by omega) (n2) hQ (G_fld (x := 66) (i := 1) (y := (wr32 (((mset M 67 (M 66 1) (m_and (m_shr (if 4 ≤ v6 then (if 8 ≤ v6 then (if 12 ≤ v6 then (if 16 ≤ v6 then v5 else v4) else v3) else v2) else v1) (wr32 (8 * (wr32 (3 - (Int.tmod v6 4)))))) 255)) 66 1) + 1))) rfl (by decide) (by decide) (by decide) (G_arr (x := 67) (i := (M 66 1)) (y := (m_and (m_shr (if 4 ≤ v6 then (if 8 ≤ v6 then (if 12 ≤ v6 then (if 16 ≤ v6 then v5 else v4) else v3) else v2) else v1) (wr32 (8 * (wr32 (3 - (Int.tmod v6 4)))))) 255)) rfl (by decide) hG))) ⟨Or.inr rfl, Or.inr rfl, Or.inr rfl, Or.inr rfl, Or.inr rfl, Or.inr rfl, Or.inr rfl, Or.inl rfl, trivial⟩
      refine T_icmp_ge (pc' := 35) dX12_feed_28 (by decide) (pf := 31) rfl (fun c3 => ?_) (fun c3 => ?_)
      · skip
        refine T_iload (i := 6) (pc' := 37) dX12_feed_35 rfl rfl ?_
        refine T_bipush (pc' := 39) dX12_feed_37 rfl (by decide) rfl ?_
        refine T_icmp_ge (pc' := 46) dX12_feed_39 (by decide) (pf := 42) rfl (fun c4 => ?_) (fun c4 => ?_)
        · skip
          refine T_iload (i := 6) (pc' := 48) dX12_feed_46 rfl rfl ?_
          refine T_bipush (pc' := 50) dX12_feed_48 rfl (by decide) rfl ?_
          refine T_icmp_ge (pc' := 57) dX12_feed_50 (by decide) (pf := 53) rfl (fun c5 => ?_) (fun c5 => ?_)
          · skip
            refine T_iload (i := 6) (pc' := 59) dX12_feed_57 rfl rfl ?_
            refine T_bipush (pc' := 61) dX12_feed_59 rfl (by decide) rfl ?_
            refine T_icmp_ge (pc' := 69) dX12_feed_61 (by decide) (pf := 64) rfl (fun c6 => ?_) (fun c6 => ?_)
            · skip
              refine T_iload (i := 5) (pc' := 71) dX12_feed_69 rfl rfl ?_
              exact T_wk (L' := [(2, 66), (0, v1), (0, v2), (0, v3), (0, v4), (0, v5), (0, v6), (3, 0)]) (by have q := HJ2; try simp only [if_pos c3] at q; try simp only [if_pos c4] at q; try simp only [if_pos c5] at q; try simp only [if_pos c6] at q; exact q) ⟨Or.inr rfl, Or.inr rfl, Or.inr rfl, Or.inr rfl, Or.inr rfl, Or.inr rfl, Or.inr rfl, Or.inl rfl, trivial⟩
            · skip
              refine T_iload (i := 4) (pc' := 66) dX12_feed_64 rfl rfl ?_
              refine T_goto (pc' := 71) dX12_feed_66 (by decide) ?_
              exact T_wk (L' := [(2, 66), (0, v1), (0, v2), (0, v3), (0, v4), (0, v5), (0, v6), (3, 0)]) (by have q := HJ2; try simp only [if_pos c3] at q; try simp only [if_pos c4] at q; try simp only [if_pos c5] at q; try simp only [if_neg c6] at q; exact q) ⟨Or.inr rfl, Or.inr rfl, Or.inr rfl, Or.inr rfl, Or.inr rfl, Or.inr rfl, Or.inr rfl, Or.inl rfl, trivial⟩
          · skip
            refine T_iload_n (i := 3) (pc' := 54) dX12_feed_53 rfl rfl rfl ?_
            refine T_goto (pc' := 71) dX12_feed_54 (by decide) ?_
            exact T_wk (L' := [(2, 66), (0, v1), (0, v2), (0, v3), (0, v4), (0, v5), (0, v6), (3, 0)]) (by have q := HJ2; try simp only [if_pos c3] at q; try simp only [if_pos c4] at q; try simp only [if_neg c5] at q; exact q) ⟨Or.inr rfl, Or.inr rfl, Or.inr rfl, Or.inr rfl, Or.inr rfl, Or.inr rfl, Or.inr rfl, Or.inl rfl, trivial⟩
        · skip
          refine T_iload_n (i := 2) (pc' := 43) dX12_feed_42 rfl rfl rfl ?_
          refine T_goto (pc' := 71) dX12_feed_43 (by decide) ?_
          exact T_wk (L' := [(2, 66), (0, v1), (0, v2), (0, v3), (0, v4), (0, v5), (0, v6), (3, 0)]) (by have q := HJ2; try simp only [if_pos c3] at q; try simp only [if_neg c4] at q; exact q) ⟨Or.inr rfl, Or.inr rfl, Or.inr rfl, Or.inr rfl, Or.inr rfl, Or.inr rfl, Or.inr rfl, Or.inl rfl, trivial⟩
      · skip
        refine T_iload_n (i := 1) (pc' := 32) dX12_feed_31 rfl rfl rfl ?_
        refine T_goto (pc' := 71) dX12_feed_32 (by decide) ?_
        exact T_wk (L' := [(2, 66), (0, v1), (0, v2), (0, v3), (0, v4), (0, v5), (0, v6), (3, 0)]) (by have q := HJ2; try simp only [if_neg c3] at q; exact q) ⟨Or.inr rfl, Or.inr rfl, Or.inr rfl, Or.inr rfl, Or.inr rfl, Or.inr rfl, Or.inr rfl, Or.inl rfl, trivial⟩
def fX12_feed (M : Mem) (v1 : Int) (v2 : Int) (v3 : Int) (v4 : Int) (v5 : Int) : Int :=
  (if (wr32 ((M 66 1) + 20)) ≤ 1600 then (lX12_feed_18 20 v1 v2 v3 v4 v5 0 M) else (-1))
def fmX12_feed (M : Mem) (v1 : Int) (v2 : Int) (v3 : Int) (v4 : Int) (v5 : Int) : Mem :=
  (if (wr32 ((M 66 1) + 20)) ≤ 1600 then (lmX12_feed_18 20 v1 v2 v3 v4 v5 0 M) else M)
def nX12_feed (M : Mem) (v1 : Int) (v2 : Int) (v3 : Int) (v4 : Int) (v5 : Int) : Prop :=
  ((wr32 ((M 66 1) + 20)) ≤ 1600 → (nlX12_feed_18 20 v1 v2 v3 v4 v5 0 M))
theorem frX12_feed {M : Mem} {v1 : Int} {v2 : Int} {v3 : Int} {v4 : Int} {v5 : Int} {q : Int} (hq0 : q ≠ 67) (hq1 : q ≠ 66) : (fmX12_feed M v1 v2 v3 v4 v5) q = M q := by
  unfold fmX12_feed
  exact (ite_q ((frlX12_feed_18 hq0 hq1).trans rfl) rfl)
theorem gX12_feed {h : Int} {M : Mem} {v1 : Int} {v2 : Int} {v3 : Int} {v4 : Int} {v5 : Int}  (hG : G h M) : G h (fmX12_feed M v1 v2 v3 v4 v5) := by
  unfold fmX12_feed
  exact (G_ite (glX12_feed_18 hG) hG)
set_option maxRecDepth 100000 in
theorem pX12_feed {E : EV} {h : Int} {M : Mem} {v1 : Int} {v2 : Int} {v3 : Int} {v4 : Int} {v5 : Int} (hs : (nX12_feed M v1 v2 v3 v4 v5)) : C2 E miX12_feed 1 h [(2, 66), (0, v1), (0, v2), (0, v3), (0, v4), (0, v5)] M (fun r M' => r = some (0, (fX12_feed M v1 v2 v3 v4 v5)) ∧ M' = (fmX12_feed M v1 v2 v3 v4 v5)) := by
  obtain ⟨Q, hQ0⟩ : ∃ Q : Option MV → Mem → Prop, Q = (fun r M' => r = some (0, (fX12_feed M v1 v2 v3 v4 v5)) ∧ M' = (fmX12_feed M v1 v2 v3 v4 v5)) := ⟨_, rfl⟩
  rw [← hQ0]
  have hQ : Q (some (0, (if (wr32 ((M 66 1) + 20)) ≤ 1600 then (lX12_feed_18 20 v1 v2 v3 v4 v5 0 M) else (-1)))) (if (wr32 ((M 66 1) + 20)) ≤ 1600 then (lmX12_feed_18 20 v1 v2 v3 v4 v5 0 M) else M) := by rw [hQ0]; exact ⟨rfl, rfl⟩
  have o1 := hs
  refine C2_of (L := [(2, 66), (0, v1), (0, v2), (0, v3), (0, v4), (0, v5), (3, 0), (3, 0)]) (by decide +kernel) (Nat.le_of_ble_eq_true rfl) rfl (fun hG => ?_)
  refine T_aload_n (i := 0) (pc' := 1) dX12_feed_0 rfl rfl rfl ?_
  refine U_gf (v := (0, (M 66 1))) (k := 1) (kI := 1) (pc' := 4) dX12_feed_1 rfl cl12 (by decide) rfl (by decide) flX12_198 rfl rfl (by decide) rfl rfl ?_
  refine T_bipush (pc' := 6) dX12_feed_4 rfl (by decide) rfl ?_
  refine T_iadd (pc' := 7) dX12_feed_6 rfl ?_
  refine T_sipush (pc' := 10) dX12_feed_7 rfl (by decide) rfl ?_
  refine T_icmp_le (pc' := 15) dX12_feed_10 (by decide) (pf := 13) rfl (fun c1 => ?_) (fun c1 => ?_)
  · skip
    refine T_iconst (pc' := 16) dX12_feed_15 (by decide) rfl ?_
    refine T_istore (i := 6) (L' := [(2, 66), (0, v1), (0, v2), (0, v3), (0, v4), (0, v5), (0, 0), (3, 0)]) (pc' := 18) dX12_feed_16 (by decide) rfl rfl ?_
    exact T_wk (qX12_feed_18  20 v1 v2 v3 v4 v5 0 _ (by first | decide | omega) rfl (o1 c1) (by have q := hQ; try simp only [if_pos c1] at q; exact q) hG) ⟨Or.inr rfl, Or.inr rfl, Or.inr rfl, Or.inr rfl, Or.inr rfl, Or.inr rfl, Or.inr rfl, Or.inl rfl, trivial⟩
  · skip
    refine T_iconst (pc' := 14) dX12_feed_13 (by decide) rfl ?_
    exact T_iret dX12_feed_14 rfl ⟨rfl, hG, (by have q := hQ; try simp only [if_neg c1] at q; exact q)⟩
def fX12_end (M : Mem) (v1 : Int) : Int :=
  (if v1 < 0 then 0 else (if v1 ≤ (M 66 1) then 1 else 0))
def fmX12_end (M : Mem) (v1 : Int) : Mem :=
  (if v1 < 0 then M else (if v1 ≤ (M 66 1) then (mset M 66 1 v1) else M))
theorem gX12_end {h : Int} {M : Mem} {v1 : Int}  (hG : G h M) : G h (fmX12_end M v1) := by
  unfold fmX12_end
  exact (G_ite hG (G_ite (G_fld (x := 66) (i := 1) (y := v1) rfl (by decide) (by decide) (by decide) hG) hG))
set_option maxRecDepth 100000 in
theorem pX12_end {E : EV} {h : Int} {M : Mem} {v1 : Int}  : C2 E miX12_end 1 h [(2, 66), (0, v1)] M (fun r M' => r = some (0, (fX12_end M v1)) ∧ M' = (fmX12_end M v1)) := by
  obtain ⟨Q, hQ⟩ : ∃ Q : Option MV → Mem → Prop, Q = (fun r M' => r = some (0, (fX12_end M v1)) ∧ M' = (fmX12_end M v1)) := ⟨_, rfl⟩
  rw [← hQ]
  refine C2_of (L := [(2, 66), (0, v1)]) (by decide +kernel) (Nat.le_of_ble_eq_true rfl) rfl (fun hG => ?_)
  refine T_iload_n (i := 1) (pc' := 1) dX12_end_0 rfl rfl rfl ?_
  refine T_if_lt (pc' := 12) dX12_end_1 (by decide) (pf := 4) rfl (fun c1 => ?_) (fun c1 => ?_)
  · skip
    refine T_iconst (pc' := 13) dX12_end_12 (by decide) rfl ?_
    exact T_zret dX12_end_13 rfl (by decide) ⟨rfl, hG, (by rw [hQ]; exact ⟨(by unfold fX12_end; simp only [if_pos c1]), (by unfold fmX12_end; simp only [if_pos c1])⟩)⟩
  · skip
    refine T_iload_n (i := 1) (pc' := 5) dX12_end_4 rfl rfl rfl ?_
    refine T_aload_n (i := 0) (pc' := 6) dX12_end_5 rfl rfl rfl ?_
    refine U_gf (v := (0, (M 66 1))) (k := 1) (kI := 1) (pc' := 9) dX12_end_6 rfl cl12 (by decide) rfl (by decide) flX12_198 rfl rfl (by decide) rfl rfl ?_
    refine T_icmp_le (pc' := 14) dX12_end_9 (by decide) (pf := 12) rfl (fun c2 => ?_) (fun c2 => ?_)
    · skip
      refine T_aload_n (i := 0) (pc' := 15) dX12_end_14 rfl rfl rfl ?_
      refine T_iload_n (i := 1) (pc' := 16) dX12_end_15 rfl rfl rfl ?_
      refine U_pf (y := v1) (k := 1) (kI := 1) (pc' := 19) dX12_end_16 rfl cl12 (by decide) rfl (by decide) flX12_198 rfl rfl rfl rfl rfl (by decide) (fun z => z) rfl ?_
      refine T_iconst (pc' := 20) dX12_end_19 (by decide) rfl ?_
      exact T_zret dX12_end_20 rfl (by decide) ⟨rfl, (G_fld (x := 66) (i := 1) (y := v1) rfl (by decide) (by decide) (by decide) hG), (by rw [hQ]; exact ⟨(by unfold fX12_end; simp only [if_neg c1, if_pos c2]), (by unfold fmX12_end; simp only [if_neg c1, if_pos c2])⟩)⟩
    · skip
      refine T_iconst (pc' := 13) dX12_end_12 (by decide) rfl ?_
      exact T_zret dX12_end_13 rfl (by decide) ⟨rfl, hG, (by rw [hQ]; exact ⟨(by unfold fX12_end; simp only [if_neg c1, if_neg c2]), (by unfold fmX12_end; simp only [if_neg c1, if_neg c2])⟩)⟩
theorem frX12_end {M : Mem} {v1 : Int} {q : Int} (hq0 : q ≠ 66) : (fmX12_end M v1) q = M q := by
  unfold fmX12_end
  exact (ite_q rfl (ite_q ((mset_p hq0).trans rfl) rfl))
theorem fbX12_end (M : Mem) (v1 : Int) : (fX12_end M v1) = 0 ∨ (fX12_end M v1) = 1 := by
  unfold fX12_end
  repeat' (first | apply bi | exact Or.inl rfl | exact Or.inr rfl)
def fmX12_fail (M : Mem) (v1 : Int) (v2 : Int) : Mem :=
  (if (M 66 5) = 0 then (mset (mset M 66 5 v1) 66 6 v2) else M)
theorem gX12_fail {h : Int} {M : Mem} {v1 : Int} {v2 : Int}  (hG : G h M) : G h (fmX12_fail M v1 v2) := by
  unfold fmX12_fail
  exact (G_ite (G_fld (x := 66) (i := 6) (y := v2) rfl (by decide) (by decide) (by decide) (G_fld (x := 66) (i := 5) (y := v1) rfl (by decide) (by decide) (by decide) hG)) hG)
set_option maxRecDepth 100000 in
theorem pX12_fail {E : EV} {h : Int} {M : Mem} {v1 : Int} {v2 : Int}  : C2 E miX12_fail 1 h [(2, 66), (0, v1), (0, v2)] M (fun r M' => r = none ∧ M' = (fmX12_fail M v1 v2)) := by
  obtain ⟨Q, hQ⟩ : ∃ Q : Option MV → Mem → Prop, Q = (fun r M' => r = none ∧ M' = (fmX12_fail M v1 v2)) := ⟨_, rfl⟩
  rw [← hQ]
  refine C2_of (L := [(2, 66), (0, v1), (0, v2)]) (by decide +kernel) (Nat.le_of_ble_eq_true rfl) rfl (fun hG => ?_)
  refine T_aload_n (i := 0) (pc' := 1) dX12_fail_0 rfl rfl rfl ?_
  refine U_gf (v := (0, (M 66 5))) (k := 5) (kI := 5) (pc' := 4) dX12_fail_1 rfl cl12 (by decide) rfl (by decide) flX12_201 rfl rfl (by decide) rfl rfl ?_
  refine T_if_eq (pc' := 8) dX12_fail_4 (by decide) (pf := 7) rfl (fun c1 => ?_) (fun c1 => ?_)
  · skip
    refine T_aload_n (i := 0) (pc' := 9) dX12_fail_8 rfl rfl rfl ?_
    refine T_iload_n (i := 1) (pc' := 10) dX12_fail_9 rfl rfl rfl ?_
    refine U_pf (y := v1) (k := 5) (kI := 5) (pc' := 13) dX12_fail_10 rfl cl12 (by decide) rfl (by decide) flX12_201 rfl rfl rfl rfl rfl (by decide) (fun z => z) rfl ?_
    refine T_aload_n (i := 0) (pc' := 14) dX12_fail_13 rfl rfl rfl ?_
    refine T_iload_n (i := 2) (pc' := 15) dX12_fail_14 rfl rfl rfl ?_
    refine U_pf (y := v2) (k := 6) (kI := 6) (pc' := 18) dX12_fail_15 rfl cl12 (by decide) rfl (by decide) flX12_204 rfl rfl rfl rfl rfl (by decide) (fun z => z) rfl ?_
    exact T_vret dX12_fail_18 rfl ⟨rfl, (G_fld (x := 66) (i := 6) (y := v2) rfl (by decide) (by decide) (by decide) (G_fld (x := 66) (i := 5) (y := v1) rfl (by decide) (by decide) (by decide) hG)), (by rw [hQ]; exact ⟨rfl, (by unfold fmX12_fail; simp only [if_pos c1])⟩)⟩
  · skip
    exact T_vret dX12_fail_7 rfl ⟨rfl, hG, (by rw [hQ]; exact ⟨rfl, (by unfold fmX12_fail; simp only [if_neg c1])⟩)⟩
theorem frX12_fail {M : Mem} {v1 : Int} {v2 : Int} {q : Int} (hq0 : q ≠ 66) : (fmX12_fail M v1 v2) q = M q := by
  unfold fmX12_fail
  exact (ite_q ((mset_p hq0).trans ((mset_p hq0).trans rfl)) rfl)
def fX12_isLetter (v0 : Int) : Int :=
  (if v0 < 97 then (0 : Int) else (if 122 < v0 then (0 : Int) else 1))
set_option maxRecDepth 100000 in
theorem pX12_isLetter {E : EV} {h : Int} {M : Mem} {v0 : Int}  : C2 E miX12_isLetter 1 h [(0, v0)] M (fun r M' => r = some (0, (fX12_isLetter v0)) ∧ M' = M) := by
  obtain ⟨Q, hQ⟩ : ∃ Q : Option MV → Mem → Prop, Q = (fun r M' => r = some (0, (fX12_isLetter v0)) ∧ M' = M) := ⟨_, rfl⟩
  rw [← hQ]
  refine C2_of (L := [(0, v0)]) (by decide +kernel) (Nat.le_of_ble_eq_true rfl) rfl (fun hG => ?_)
  refine T_iload_n (i := 0) (pc' := 1) dX12_isLetter_0 rfl rfl rfl ?_
  refine T_bipush (pc' := 3) dX12_isLetter_1 rfl (by decide) rfl ?_
  have HJ1 : T E miX12_isLetter 1 126 0 0 (fun r S M' => S = S0 ∧ G h M' ∧ Q r M') 17 [(3, 0)] [(0, (if v0 < 97 then (0 : Int) else (if 122 < v0 then (0 : Int) else 1)))] S0 M 0 0 := by
    exact T_zret dX12_isLetter_17 rfl (by repeat' (first | apply bi | exact Or.inl rfl | exact Or.inr rfl)) ⟨rfl, hG, (by rw [hQ]; exact ⟨rfl, rfl⟩)⟩
  refine T_icmp_lt (pc' := 16) dX12_isLetter_3 (by decide) (pf := 6) rfl (fun c2 => ?_) (fun c2 => ?_)
  · skip
    refine T_iconst (pc' := 17) dX12_isLetter_16 (by decide) rfl ?_
    exact T_wk (L' := [(3, 0)]) (by have q := HJ1; try simp only [if_pos c2] at q; exact q) ⟨Or.inl rfl, trivial⟩
  · skip
    refine T_iload_n (i := 0) (pc' := 7) dX12_isLetter_6 rfl rfl rfl ?_
    refine T_bipush (pc' := 9) dX12_isLetter_7 rfl (by decide) rfl ?_
    refine T_icmp_gt (pc' := 16) dX12_isLetter_9 (by decide) (pf := 12) rfl (fun c3 => ?_) (fun c3 => ?_)
    · skip
      refine T_iconst (pc' := 17) dX12_isLetter_16 (by decide) rfl ?_
      exact T_wk (L' := [(3, 0)]) (by have q := HJ1; try simp only [if_neg c2] at q; try simp only [if_pos c3] at q; exact q) ⟨Or.inl rfl, trivial⟩
    · skip
      refine T_iconst (pc' := 13) dX12_isLetter_12 (by decide) rfl ?_
      refine T_goto (pc' := 17) dX12_isLetter_13 (by decide) ?_
      exact T_wk (L' := [(3, 0)]) (by have q := HJ1; try simp only [if_neg c2] at q; try simp only [if_neg c3] at q; exact q) ⟨Or.inl rfl, trivial⟩
theorem fbX12_isLetter (v0 : Int) : (fX12_isLetter v0) = 0 ∨ (fX12_isLetter v0) = 1 := by
  unfold fX12_isLetter
  repeat' (first | apply bi | exact Or.inl rfl | exact Or.inr rfl)
def fX12_isDigit (v0 : Int) : Int :=
  (if v0 < 48 then (0 : Int) else (if 57 < v0 then (0 : Int) else 1))
set_option maxRecDepth 100000 in
theorem pX12_isDigit {E : EV} {h : Int} {M : Mem} {v0 : Int}  : C2 E miX12_isDigit 1 h [(0, v0)] M (fun r M' => r = some (0, (fX12_isDigit v0)) ∧ M' = M) := by
  obtain ⟨Q, hQ⟩ : ∃ Q : Option MV → Mem → Prop, Q = (fun r M' => r = some (0, (fX12_isDigit v0)) ∧ M' = M) := ⟨_, rfl⟩
  rw [← hQ]
  refine C2_of (L := [(0, v0)]) (by decide +kernel) (Nat.le_of_ble_eq_true rfl) rfl (fun hG => ?_)
  refine T_iload_n (i := 0) (pc' := 1) dX12_isDigit_0 rfl rfl rfl ?_
  refine T_bipush (pc' := 3) dX12_isDigit_1 rfl (by decide) rfl ?_
  have HJ1 : T E miX12_isDigit 1 126 0 0 (fun r S M' => S = S0 ∧ G h M' ∧ Q r M') 17 [(3, 0)] [(0, (if v0 < 48 then (0 : Int) else (if 57 < v0 then (0 : Int) else 1)))] S0 M 0 0 := by
    exact T_zret dX12_isDigit_17 rfl (by repeat' (first | apply bi | exact Or.inl rfl | exact Or.inr rfl)) ⟨rfl, hG, (by rw [hQ]; exact ⟨rfl, rfl⟩)⟩
  refine T_icmp_lt (pc' := 16) dX12_isDigit_3 (by decide) (pf := 6) rfl (fun c2 => ?_) (fun c2 => ?_)
  · skip
    refine T_iconst (pc' := 17) dX12_isDigit_16 (by decide) rfl ?_
    exact T_wk (L' := [(3, 0)]) (by have q := HJ1; try simp only [if_pos c2] at q; exact q) ⟨Or.inl rfl, trivial⟩
  · skip
    refine T_iload_n (i := 0) (pc' := 7) dX12_isDigit_6 rfl rfl rfl ?_
    refine T_bipush (pc' := 9) dX12_isDigit_7 rfl (by decide) rfl ?_
    refine T_icmp_gt (pc' := 16) dX12_isDigit_9 (by decide) (pf := 12) rfl (fun c3 => ?_) (fun c3 => ?_)
    · skip
      refine T_iconst (pc' := 17) dX12_isDigit_16 (by decide) rfl ?_
      exact T_wk (L' := [(3, 0)]) (by have q := HJ1; try simp only [if_neg c2] at q; try simp only [if_pos c3] at q; exact q) ⟨Or.inl rfl, trivial⟩
    · skip
      refine T_iconst (pc' := 13) dX12_isDigit_12 (by decide) rfl ?_
      refine T_goto (pc' := 17) dX12_isDigit_13 (by decide) ?_
      exact T_wk (L' := [(3, 0)]) (by have q := HJ1; try simp only [if_neg c2] at q; try simp only [if_neg c3] at q; exact q) ⟨Or.inl rfl, trivial⟩
theorem fbX12_isDigit (v0 : Int) : (fX12_isDigit v0) = 0 ∨ (fX12_isDigit v0) = 1 := by
  unfold fX12_isDigit
  repeat' (first | apply bi | exact Or.inl rfl | exact Or.inr rfl)
def fX12_isFull (M : Mem) (v1 : Int) (v2 : Int) (v3 : Int) : Int :=
  (if ((if (M 66 5) = 0 then (if (M 85 v1) = v2 then (fmX12_fail M 5 v3) else M) else M) 66 5) = 0 then (0 : Int) else 1)
def fmX12_isFull (M : Mem) (v1 : Int) (v2 : Int) (v3 : Int) : Mem :=
  (if (M 66 5) = 0 then (if (M 85 v1) = v2 then (fmX12_fail M 5 v3) else M) else M)
def nX12_isFull (M : Mem) (v1 : Int) : Prop :=
  ((M 66 5) = 0 → 0 ≤ v1 ∧ v1 < 6)
theorem gX12_isFull {h : Int} {M : Mem} {v1 : Int} {v2 : Int} {v3 : Int}  (hG : G h M) : G h (fmX12_isFull M v1 v2 v3) := by
  unfold fmX12_isFull
  exact (G_ite (G_ite (gX12_fail (h := h) (M := M) (v1 := 5) (v2 := v3) hG) hG) hG)
set_option maxRecDepth 100000 in
theorem pX12_isFull {E : EV} {h : Int} {M : Mem} {v1 : Int} {v2 : Int} {v3 : Int} (hs : (nX12_isFull M v1)) : C2 E miX12_isFull 2 h [(2, 66), (0, v1), (0, v2), (0, v3)] M (fun r M' => r = some (0, (fX12_isFull M v1 v2 v3)) ∧ M' = (fmX12_isFull M v1 v2 v3)) := by
  obtain ⟨Q, hQ⟩ : ∃ Q : Option MV → Mem → Prop, Q = (fun r M' => r = some (0, (fX12_isFull M v1 v2 v3)) ∧ M' = (fmX12_isFull M v1 v2 v3)) := ⟨_, rfl⟩
  rw [← hQ]
  have o1 := hs
  refine C2_of (L := [(2, 66), (0, v1), (0, v2), (0, v3)]) (by decide +kernel) (Nat.le_of_ble_eq_true rfl) rfl (fun hG => ?_)
  refine T_aload_n (i := 0) (pc' := 1) dX12_isFull_0 rfl rfl rfl ?_
  refine U_gf (v := (0, (M 66 5))) (k := 5) (kI := 5) (pc' := 4) dX12_isFull_1 rfl cl12 (by decide) rfl (by decide) flX12_201 rfl rfl (by decide) rfl rfl ?_
  have HJ1 : T E miX12_isFull 2 126 0 0 (fun r S M' => S = S0 ∧ G h M' ∧ Q r M') 23 [(2, 66), (3, 0), (3, 0), (3, 0)] [] S0 (if (M 66 5) = 0 then (if (M 85 v1) = v2 then (fmX12_fail M 5 v3) else M) else M) 0 0 := by
    refine T_aload_n (i := 0) (pc' := 24) dX12_isFull_23 rfl rfl rfl ?_
    refine U_gf (v := (0, ((if (M 66 5) = 0 then (if (M 85 v1) = v2 then (fmX12_fail M 5 v3) else M) else M) 66 5))) (k := 5) (kI := 5) (pc' := 27) dX12_isFull_24 rfl cl12 (by decide) rfl (by decide) flX12_201 rfl rfl (by decide) rfl rfl ?_
    have HJ2 : T E miX12_isFull 2 126 0 0 (fun r S M' => S = S0 ∧ G h M' ∧ Q r M') 35 [(3, 0), (3, 0), (3, 0), (3, 0)] [(0, (if ((if (M 66 5) = 0 then (if (M 85 v1) = v2 then (fmX12_fail M 5 v3) else M) else M) 66 5) = 0 then (0 : Int) else 1))] S0 (if (M 66 5) = 0 then (if (M 85 v1) = v2 then (fmX12_fail M 5 v3) else M) else M) 0 0 := by
      exact T_zret dX12_isFull_35 rfl (by repeat' (first | apply bi | exact Or.inl rfl | exact Or.inr rfl)) ⟨rfl, (G_ite (G_ite (gX12_fail (h := h) (M := M) (v1 := 5) (v2 := v3) hG) hG) hG), (by rw [hQ]; exact ⟨rfl, rfl⟩)⟩
    refine T_if_eq (pc' := 34) dX12_isFull_27 (by decide) (pf := 30) rfl (fun c3 => ?_) (fun c3 => ?_)
    · skip
      refine T_iconst (pc' := 35) dX12_isFull_34 (by decide) rfl ?_
      exact T_wk (L' := [(3, 0), (3, 0), (3, 0), (3, 0)]) (by have q := HJ2; try simp only [if_pos c3] at q; exact q) ⟨Or.inl rfl, Or.inl rfl, Or.inl rfl, Or.inl rfl, trivial⟩
    · skip
      refine T_iconst (pc' := 31) dX12_isFull_30 (by decide) rfl ?_
      refine T_goto (pc' := 35) dX12_isFull_31 (by decide) ?_
      exact T_wk (L' := [(3, 0), (3, 0), (3, 0), (3, 0)]) (by have q := HJ2; try simp only [if_neg c3] at q; exact q) ⟨Or.inl rfl, Or.inl rfl, Or.inl rfl, Or.inl rfl, trivial⟩
  refine T_if_ne (pc' := 23) dX12_isFull_4 (by decide) (pf := 7) rfl (fun c4 => ?_) (fun c4 => ?_)
  · skip
    exact T_wk (L' := [(2, 66), (3, 0), (3, 0), (3, 0)]) (by have q := HJ1; try simp only [if_neg c4] at q; exact q) ⟨Or.inr rfl, Or.inl rfl, Or.inl rfl, Or.inl rfl, trivial⟩
  · skip
    refine T_aload_n (i := 0) (pc' := 8) dX12_isFull_7 rfl rfl rfl ?_
    refine U_gr (q := 85) (k := 28) (kI := 28) (pc' := 11) dX12_isFull_8 rfl cl12 (by decide) rfl (by decide) flX12_69 rfl rfl rfl (G_at hG 85 rfl) (by decide) rfl ?_
    refine T_iload_n (i := 1) (pc' := 12) dX12_isFull_11 rfl rfl rfl ?_
    refine T_iald (pc' := 13) dX12_isFull_12 (by decide) rfl (o1 c4).1 (o1 c4).2 rfl ?_
    refine T_iload_n (i := 2) (pc' := 14) dX12_isFull_13 rfl rfl rfl ?_
    refine T_icmp_ne (pc' := 23) dX12_isFull_14 (by decide) (pf := 17) rfl (fun c5 => ?_) (fun c5 => ?_)
    · skip
      exact T_wk (L' := [(2, 66), (3, 0), (3, 0), (3, 0)]) (by have q := HJ1; try simp only [if_pos c4] at q; try simp only [if_neg c5] at q; exact q) ⟨Or.inr rfl, Or.inl rfl, Or.inl rfl, Or.inl rfl, trivial⟩
    · skip
      refine T_aload_n (i := 0) (pc' := 18) dX12_isFull_17 rfl rfl rfl ?_
      refine T_iconst (pc' := 19) dX12_isFull_18 (by decide) rfl ?_
      refine T_iload_n (i := 3) (pc' := 20) dX12_isFull_19 rfl rfl rfl ?_
      refine T_callV (av := [(0, 5), (0, v3)]) (st := []) (d2 := 1) (nc2 := 0) (ns2 := 0) (pc' := 23) dX12_isFull_20 rfl mtX12_fail mvX12_fail mlX12_231 cl12 rfl rfl rfl (Nat.le_of_ble_eq_true rfl) (by decide) ⟨by decide, by decide⟩ rfl (pX12_fail (E := E) (h := h) (M := M) (v1 := 5) (v2 := v3) hG) (kF (st2 := []) rfl (fun hG6 => ?_))
      exact T_wk (L' := [(2, 66), (3, 0), (3, 0), (3, 0)]) (by have q := HJ1; try simp only [if_pos c4] at q; try simp only [if_pos c5] at q; exact q) ⟨Or.inr rfl, Or.inl rfl, Or.inl rfl, Or.inl rfl, trivial⟩
theorem frX12_isFull {M : Mem} {v1 : Int} {v2 : Int} {v3 : Int} {q : Int} (hq0 : q ≠ 66) : (fmX12_isFull M v1 v2 v3) q = M q := by
  unfold fmX12_isFull
  exact (ite_q (ite_q ((frX12_fail hq0).trans rfl) rfl) rfl)
theorem fbX12_isFull (M : Mem) (v1 : Int) (v2 : Int) (v3 : Int) : (fX12_isFull M v1 v2 v3) = 0 ∨ (fX12_isFull M v1 v2 v3) = 1 := by
  unfold fX12_isFull
  repeat' (first | apply bi | exact Or.inl rfl | exact Or.inr rfl)
def lX12_doorAt_2  : Nat → Int → Int → Mem → Int
  | 0, v1, v2, M => (-1)
  | k + 1, v1, v2, M => (if (M 90 v2) = v1 then v2 else (lX12_doorAt_2 k v1 (v2 + 1) M))
def nlX12_doorAt_2  : Nat → Int → Int → Mem → Prop
  | 0, v1, v2, M => True
  | k + 1, v1, v2, M => (0 ≤ v2 ∧ v2 < 12) ∧ (¬ ((M 90 v2) = v1) → (nlX12_doorAt_2 k v1 (v2 + 1) M))
set_option maxRecDepth 100000 in
set_option maxHeartbeats 2000000 in
theorem qX12_doorAt_2 {E : EV} {h : Int} {Q : Option MV → Mem → Prop}   : ∀ (k : Nat) (v1 v2 : Int) (M : Mem), 0 ≤ v2 → (((M 85 2)) - v2).toNat = k → (nlX12_doorAt_2 k v1 v2 M) → Q (some (0, (lX12_doorAt_2 k v1 v2 M))) M → G h M → TG E miX12_doorAt 1 h Q 2 [(2, 66), (0, v1), (0, v2)] [] M := by
  intro k
  induction k with
  | zero =>
    intro v1 v2 M hv0 hk hs hQ hG
    have hQ : Q (some (0, (-1))) M := hQ
    have hs : True := hs
    refine T_iload_n (i := 2) (pc' := 3) dX12_doorAt_2 rfl rfl rfl ?_
    refine T_aload_n (i := 0) (pc' := 4) dX12_doorAt_3 rfl rfl rfl ?_
    refine U_gr (q := 85) (k := 28) (kI := 28) (pc' := 7) dX12_doorAt_4 rfl cl12 (by decide) rfl (by decide) flX12_69 rfl rfl rfl (G_at hG 85 rfl) (by decide) rfl ?_
    refine T_iconst (pc' := 8) dX12_doorAt_7 (by decide) rfl ?_
    refine T_iald (pc' := 9) dX12_doorAt_8 (by decide) rfl (by decide) (by decide) rfl ?_
    refine T_rng (fun _ z9 _ => ?_)
    have hB : r32 (M 85 2) := (ok_cons.mp z9).1
    unfold r32 at hB
    refine T_icmp_ge (pc' := 30) dX12_doorAt_9 (by decide) (pf := 12) rfl (fun c1 => ?_) (fun c1 => ?_)
    · skip
      refine T_iconst (pc' := 31) dX12_doorAt_30 (by decide) rfl ?_
      exact T_iret dX12_doorAt_31 rfl ⟨rfl, hG, hQ⟩
    · exact absurd c1 (by omega)
  | succ k ih =>
    intro v1 v2 M hv0 hk hs hQ hG
    have hQ : Q (some (0, (if (M 90 v2) = v1 then v2 else (lX12_doorAt_2 k v1 (v2 + 1) M)))) M := hQ
    have hs : (0 ≤ v2 ∧ v2 < 12) ∧ (¬ ((M 90 v2) = v1) → (nlX12_doorAt_2 k v1 (v2 + 1) M)) := hs
    obtain ⟨n1, n2⟩ := hs
    refine T_iload_n (i := 2) (pc' := 3) dX12_doorAt_2 rfl rfl rfl ?_
    refine T_aload_n (i := 0) (pc' := 4) dX12_doorAt_3 rfl rfl rfl ?_
    refine U_gr (q := 85) (k := 28) (kI := 28) (pc' := 7) dX12_doorAt_4 rfl cl12 (by decide) rfl (by decide) flX12_69 rfl rfl rfl (G_at hG 85 rfl) (by decide) rfl ?_
    refine T_iconst (pc' := 8) dX12_doorAt_7 (by decide) rfl ?_
    refine T_iald (pc' := 9) dX12_doorAt_8 (by decide) rfl (by decide) (by decide) rfl ?_
    refine T_rng (fun _ z9 _ => ?_)
    have hB : r32 (M 85 2) := (ok_cons.mp z9).1
    unfold r32 at hB
    refine T_icmp_ge (pc' := 30) dX12_doorAt_9 (by decide) (pf := 12) rfl (fun c1 => ?_) (fun c1 => ?_)
    · exact absurd c1 (by omega)
    · skip
      have hw : wr32 (v2 + 1) = v2 + 1 := wr32_id (by unfold r32; omega)
      refine T_aload_n (i := 0) (pc' := 13) dX12_doorAt_12 rfl rfl rfl ?_
      refine U_gr (q := 90) (k := 33) (kI := 33) (pc' := 16) dX12_doorAt_13 rfl cl12 (by decide) rfl (by decide) flX12_86 rfl rfl rfl (G_at hG 90 rfl) (by decide) rfl ?_
      refine T_iload_n (i := 2) (pc' := 17) dX12_doorAt_16 rfl rfl rfl ?_
      refine T_iald (pc' := 18) dX12_doorAt_17 (by decide) rfl (n1).1 (n1).2 rfl ?_
      refine T_iload_n (i := 1) (pc' := 19) dX12_doorAt_18 rfl rfl rfl ?_
      refine T_icmp_ne (pc' := 24) dX12_doorAt_19 (by decide) (pf := 22) rfl (fun c2 => ?_) (fun c2 => ?_)
      · skip
        refine T_iinc (L' := [(2, 66), (0, v1), (0, (wr32 (v2 + 1)))]) (pc' := 27) dX12_doorAt_24 rfl (by decide) rfl rfl ?_
        refine T_goto (pc' := 2) dX12_doorAt_27 (by decide) ?_
        rw [hw]
        exact T_wk (ih _ (v2 + 1) _ (by omega) (by omega) (n2 c2) (by have q := hQ; try simp only [if_neg c2] at q; exact q) hG) ⟨Or.inr rfl, Or.inr rfl, Or.inr rfl, trivial⟩
      · skip
        refine T_iload_n (i := 2) (pc' := 23) dX12_doorAt_22 rfl rfl rfl ?_
        exact T_iret dX12_doorAt_23 rfl ⟨rfl, hG, (by have q := hQ; try simp only [if_pos c2] at q; exact q)⟩
def fX12_doorAt (M : Mem) (v1 : Int) : Int :=
  (lX12_doorAt_2 ((((M 85 2)) : Int) - 0).toNat v1 0 M)
def nX12_doorAt (M : Mem) (v1 : Int) : Prop :=
  ((nlX12_doorAt_2 ((((M 85 2)) : Int) - 0).toNat v1 0 M))
set_option maxRecDepth 100000 in
theorem pX12_doorAt {E : EV} {h : Int} {M : Mem} {v1 : Int} (hs : (nX12_doorAt M v1)) : C2 E miX12_doorAt 1 h [(2, 66), (0, v1)] M (fun r M' => r = some (0, (fX12_doorAt M v1)) ∧ M' = M) := by
  obtain ⟨Q, hQ0⟩ : ∃ Q : Option MV → Mem → Prop, Q = (fun r M' => r = some (0, (fX12_doorAt M v1)) ∧ M' = M) := ⟨_, rfl⟩
  rw [← hQ0]
  have hQ : Q (some (0, (lX12_doorAt_2 ((((M 85 2)) : Int) - 0).toNat v1 0 M))) M := by rw [hQ0]; exact ⟨rfl, rfl⟩
  have o1 := hs
  refine C2_of (L := [(2, 66), (0, v1), (3, 0)]) (by decide +kernel) (Nat.le_of_ble_eq_true rfl) rfl (fun hG => ?_)
  refine T_iconst (pc' := 1) dX12_doorAt_0 (by decide) rfl ?_
  refine T_istore_n (i := 2) (L' := [(2, 66), (0, v1), (0, 0)]) (pc' := 2) dX12_doorAt_1 rfl (by decide) rfl rfl ?_
  exact T_wk (qX12_doorAt_2  _ v1 0 _ (by first | decide | omega) rfl (o1) hQ hG) ⟨Or.inr rfl, Or.inr rfl, Or.inr rfl, trivial⟩
def lX12_isSomebody_37  : Nat → Int → Int → Mem → Int
  | 0, v1, v2, M => 0
  | k + 1, v1, v2, M => (if (M 89 (wr32 (3 * v2))) = v1 then 1 else (lX12_isSomebody_37 k v1 (v2 + 1) M))
def nlX12_isSomebody_37  : Nat → Int → Int → Mem → Prop
  | 0, v1, v2, M => True
  | k + 1, v1, v2, M => (0 ≤ (wr32 (3 * v2)) ∧ (wr32 (3 * v2)) < 24) ∧ (¬ ((M 89 (wr32 (3 * v2))) = v1) → (nlX12_isSomebody_37 k v1 (v2 + 1) M))
set_option maxRecDepth 100000 in
set_option maxHeartbeats 2000000 in
theorem qX12_isSomebody_37 {E : EV} {h : Int} {Q : Option MV → Mem → Prop}   : ∀ (k : Nat) (v1 v2 : Int) (M : Mem), 0 ≤ v2 → (((M 85 1)) - v2).toNat = k → (nlX12_isSomebody_37 k v1 v2 M) → Q (some (0, (lX12_isSomebody_37 k v1 v2 M))) M → G h M → TG E miX12_isSomebody 1 h Q 37 [(2, 66), (0, v1), (0, v2)] [] M := by
  intro k
  induction k with
  | zero =>
    intro v1 v2 M hv0 hk hs hQ hG
    have hQ : Q (some (0, 0)) M := hQ
    have hs : True := hs
    refine T_iload_n (i := 2) (pc' := 38) dX12_isSomebody_37 rfl rfl rfl ?_
    refine T_aload_n (i := 0) (pc' := 39) dX12_isSomebody_38 rfl rfl rfl ?_
    refine U_gr (q := 85) (k := 28) (kI := 28) (pc' := 42) dX12_isSomebody_39 rfl cl12 (by decide) rfl (by decide) flX12_69 rfl rfl rfl (G_at hG 85 rfl) (by decide) rfl ?_
    refine T_iconst (pc' := 43) dX12_isSomebody_42 (by decide) rfl ?_
    refine T_iald (pc' := 44) dX12_isSomebody_43 (by decide) rfl (by decide) (by decide) rfl ?_
    refine T_rng (fun _ z9 _ => ?_)
    have hB : r32 (M 85 1) := (ok_cons.mp z9).1
    unfold r32 at hB
    refine T_icmp_ge (pc' := 67) dX12_isSomebody_44 (by decide) (pf := 47) rfl (fun c1 => ?_) (fun c1 => ?_)
    · skip
      refine T_iconst (pc' := 68) dX12_isSomebody_67 (by decide) rfl ?_
      exact T_zret dX12_isSomebody_68 rfl (by decide) ⟨rfl, hG, hQ⟩
    · exact absurd c1 (by omega)
  | succ k ih =>
    intro v1 v2 M hv0 hk hs hQ hG
    have hQ : Q (some (0, (if (M 89 (wr32 (3 * v2))) = v1 then 1 else (lX12_isSomebody_37 k v1 (v2 + 1) M)))) M := hQ
    have hs : (0 ≤ (wr32 (3 * v2)) ∧ (wr32 (3 * v2)) < 24) ∧ (¬ ((M 89 (wr32 (3 * v2))) = v1) → (nlX12_isSomebody_37 k v1 (v2 + 1) M)) := hs
    obtain ⟨n1, n2⟩ := hs
    refine T_iload_n (i := 2) (pc' := 38) dX12_isSomebody_37 rfl rfl rfl ?_
    refine T_aload_n (i := 0) (pc' := 39) dX12_isSomebody_38 rfl rfl rfl ?_
    refine U_gr (q := 85) (k := 28) (kI := 28) (pc' := 42) dX12_isSomebody_39 rfl cl12 (by decide) rfl (by decide) flX12_69 rfl rfl rfl (G_at hG 85 rfl) (by decide) rfl ?_
    refine T_iconst (pc' := 43) dX12_isSomebody_42 (by decide) rfl ?_
    refine T_iald (pc' := 44) dX12_isSomebody_43 (by decide) rfl (by decide) (by decide) rfl ?_
    refine T_rng (fun _ z9 _ => ?_)
    have hB : r32 (M 85 1) := (ok_cons.mp z9).1
    unfold r32 at hB
    refine T_icmp_ge (pc' := 67) dX12_isSomebody_44 (by decide) (pf := 47) rfl (fun c1 => ?_) (fun c1 => ?_)
    · exact absurd c1 (by omega)
    · skip
      have hw : wr32 (v2 + 1) = v2 + 1 := wr32_id (by unfold r32; omega)
      refine T_aload_n (i := 0) (pc' := 48) dX12_isSomebody_47 rfl rfl rfl ?_
      refine U_gr (q := 89) (k := 32) (kI := 32) (pc' := 51) dX12_isSomebody_48 rfl cl12 (by decide) rfl (by decide) flX12_83 rfl rfl rfl (G_at hG 89 rfl) (by decide) rfl ?_
      refine T_iconst (pc' := 52) dX12_isSomebody_51 (by decide) rfl ?_
      refine T_iload_n (i := 2) (pc' := 53) dX12_isSomebody_52 rfl rfl rfl ?_
      refine T_imul (pc' := 54) dX12_isSomebody_53 rfl ?_
      refine T_iald (pc' := 55) dX12_isSomebody_54 (by decide) rfl (n1).1 (n1).2 rfl ?_
      refine T_iload_n (i := 1) (pc' := 56) dX12_isSomebody_55 rfl rfl rfl ?_
      refine T_icmp_ne (pc' := 61) dX12_isSomebody_56 (by decide) (pf := 59) rfl (fun c2 => ?_) (fun c2 => ?_)
      · skip
        refine T_iinc (L' := [(2, 66), (0, v1), (0, (wr32 (v2 + 1)))]) (pc' := 64) dX12_isSomebody_61 rfl (by decide) rfl rfl ?_
        refine T_goto (pc' := 37) dX12_isSomebody_64 (by decide) ?_
        rw [hw]
        exact T_wk (ih _ (v2 + 1) _ (by omega) (by omega) (n2 c2) (by have q := hQ; try simp only [if_neg c2] at q; exact q) hG) ⟨Or.inr rfl, Or.inr rfl, Or.inr rfl, trivial⟩
      · skip
        refine T_iconst (pc' := 60) dX12_isSomebody_59 (by decide) rfl ?_
        exact T_zret dX12_isSomebody_60 rfl (by decide) ⟨rfl, hG, (by have q := hQ; try simp only [if_pos c2] at q; exact q)⟩
def lX12_isSomebody_2  : Nat → Int → Int → Mem → Int
  | 0, v1, v2, M => (lX12_isSomebody_37 ((((M 85 1)) : Int) - 0).toNat v1 0 M)
  | k + 1, v1, v2, M => (if (M 88 (wr32 ((wr32 (18 * v2)) + 0))) = v1 then 1 else (lX12_isSomebody_2 k v1 (v2 + 1) M))
def nlX12_isSomebody_2  : Nat → Int → Int → Mem → Prop
  | 0, v1, v2, M => ((nlX12_isSomebody_37 ((((M 85 1)) : Int) - 0).toNat v1 0 M))
  | k + 1, v1, v2, M => (0 ≤ (wr32 ((wr32 (18 * v2)) + 0)) ∧ (wr32 ((wr32 (18 * v2)) + 0)) < 324) ∧ (¬ ((M 88 (wr32 ((wr32 (18 * v2)) + 0))) = v1) → (nlX12_isSomebody_2 k v1 (v2 + 1) M))
set_option maxRecDepth 100000 in
set_option maxHeartbeats 2000000 in
theorem qX12_isSomebody_2 {E : EV} {h : Int} {Q : Option MV → Mem → Prop}   : ∀ (k : Nat) (v1 v2 : Int) (M : Mem), 0 ≤ v2 → (((M 85 0)) - v2).toNat = k → (nlX12_isSomebody_2 k v1 v2 M) → Q (some (0, (lX12_isSomebody_2 k v1 v2 M))) M → G h M → TG E miX12_isSomebody 1 h Q 2 [(2, 66), (0, v1), (0, v2)] [] M := by
  intro k
  induction k with
  | zero =>
    intro v1 v2 M hv0 hk hs hQ hG
    have hQ : Q (some (0, (lX12_isSomebody_37 ((((M 85 1)) : Int) - 0).toNat v1 0 M))) M := hQ
    have hs : ((nlX12_isSomebody_37 ((((M 85 1)) : Int) - 0).toNat v1 0 M)) := hs
    have n1 := hs
    refine T_iload_n (i := 2) (pc' := 3) dX12_isSomebody_2 rfl rfl rfl ?_
    refine T_aload_n (i := 0) (pc' := 4) dX12_isSomebody_3 rfl rfl rfl ?_
    refine U_gr (q := 85) (k := 28) (kI := 28) (pc' := 7) dX12_isSomebody_4 rfl cl12 (by decide) rfl (by decide) flX12_69 rfl rfl rfl (G_at hG 85 rfl) (by decide) rfl ?_
    refine T_iconst (pc' := 8) dX12_isSomebody_7 (by decide) rfl ?_
    refine T_iald (pc' := 9) dX12_isSomebody_8 (by decide) rfl (by decide) (by decide) rfl ?_
    refine T_rng (fun _ z9 _ => ?_)
    have hB : r32 (M 85 0) := (ok_cons.mp z9).1
    unfold r32 at hB
    refine T_icmp_ge (pc' := 35) dX12_isSomebody_9 (by decide) (pf := 12) rfl (fun c1 => ?_) (fun c1 => ?_)
    · skip
      refine T_iconst (pc' := 36) dX12_isSomebody_35 (by decide) rfl ?_
      refine T_istore_n (i := 2) (L' := [(2, 66), (0, v1), (0, 0)]) (pc' := 37) dX12_isSomebody_36 rfl (by decide) rfl rfl ?_
      exact T_wk (qX12_isSomebody_37  _ v1 0 _ (by first | decide | omega) rfl (n1) hQ hG) ⟨Or.inr rfl, Or.inr rfl, Or.inr rfl, trivial⟩
    · exact absurd c1 (by omega)
  | succ k ih =>
    intro v1 v2 M hv0 hk hs hQ hG
    have hQ : Q (some (0, (if (M 88 (wr32 ((wr32 (18 * v2)) + 0))) = v1 then 1 else (lX12_isSomebody_2 k v1 (v2 + 1) M)))) M := hQ
    have hs : (0 ≤ (wr32 ((wr32 (18 * v2)) + 0)) ∧ (wr32 ((wr32 (18 * v2)) + 0)) < 324) ∧ (¬ ((M 88 (wr32 ((wr32 (18 * v2)) + 0))) = v1) → (nlX12_isSomebody_2 k v1 (v2 + 1) M)) := hs
    obtain ⟨n1, n2⟩ := hs
    refine T_iload_n (i := 2) (pc' := 3) dX12_isSomebody_2 rfl rfl rfl ?_
    refine T_aload_n (i := 0) (pc' := 4) dX12_isSomebody_3 rfl rfl rfl ?_
    refine U_gr (q := 85) (k := 28) (kI := 28) (pc' := 7) dX12_isSomebody_4 rfl cl12 (by decide) rfl (by decide) flX12_69 rfl rfl rfl (G_at hG 85 rfl) (by decide) rfl ?_
    refine T_iconst (pc' := 8) dX12_isSomebody_7 (by decide) rfl ?_
    refine T_iald (pc' := 9) dX12_isSomebody_8 (by decide) rfl (by decide) (by decide) rfl ?_
    refine T_rng (fun _ z9 _ => ?_)
    have hB : r32 (M 85 0) := (ok_cons.mp z9).1
    unfold r32 at hB
    refine T_icmp_ge (pc' := 35) dX12_isSomebody_9 (by decide) (pf := 12) rfl (fun c1 => ?_) (fun c1 => ?_)
    · exact absurd c1 (by omega)
    · skip
      have hw : wr32 (v2 + 1) = v2 + 1 := wr32_id (by unfold r32; omega)
      refine T_aload_n (i := 0) (pc' := 13) dX12_isSomebody_12 rfl rfl rfl ?_
      refine U_gr (q := 88) (k := 31) (kI := 31) (pc' := 16) dX12_isSomebody_13 rfl cl12 (by decide) rfl (by decide) flX12_80 rfl rfl rfl (G_at hG 88 rfl) (by decide) rfl ?_
      refine T_bipush (pc' := 18) dX12_isSomebody_16 rfl (by decide) rfl ?_
      refine T_iload_n (i := 2) (pc' := 19) dX12_isSomebody_18 rfl rfl rfl ?_
      refine T_imul (pc' := 20) dX12_isSomebody_19 rfl ?_
      refine T_iconst (pc' := 21) dX12_isSomebody_20 (by decide) rfl ?_
      refine T_iadd (pc' := 22) dX12_isSomebody_21 rfl ?_
      refine T_iald (pc' := 23) dX12_isSomebody_22 (by decide) rfl (n1).1 (n1).2 rfl ?_
      refine T_iload_n (i := 1) (pc' := 24) dX12_isSomebody_23 rfl rfl rfl ?_
      refine T_icmp_ne (pc' := 29) dX12_isSomebody_24 (by decide) (pf := 27) rfl (fun c2 => ?_) (fun c2 => ?_)
      · skip
        refine T_iinc (L' := [(2, 66), (0, v1), (0, (wr32 (v2 + 1)))]) (pc' := 32) dX12_isSomebody_29 rfl (by decide) rfl rfl ?_
        refine T_goto (pc' := 2) dX12_isSomebody_32 (by decide) ?_
        rw [hw]
        exact T_wk (ih _ (v2 + 1) _ (by omega) (by omega) (n2 c2) (by have q := hQ; try simp only [if_neg c2] at q; exact q) hG) ⟨Or.inr rfl, Or.inr rfl, Or.inr rfl, trivial⟩
      · skip
        refine T_iconst (pc' := 28) dX12_isSomebody_27 (by decide) rfl ?_
        exact T_zret dX12_isSomebody_28 rfl (by decide) ⟨rfl, hG, (by have q := hQ; try simp only [if_pos c2] at q; exact q)⟩
def fX12_isSomebody (M : Mem) (v1 : Int) : Int :=
  (lX12_isSomebody_2 ((((M 85 0)) : Int) - 0).toNat v1 0 M)
def nX12_isSomebody (M : Mem) (v1 : Int) : Prop :=
  ((nlX12_isSomebody_2 ((((M 85 0)) : Int) - 0).toNat v1 0 M))
set_option maxRecDepth 100000 in
theorem pX12_isSomebody {E : EV} {h : Int} {M : Mem} {v1 : Int} (hs : (nX12_isSomebody M v1)) : C2 E miX12_isSomebody 1 h [(2, 66), (0, v1)] M (fun r M' => r = some (0, (fX12_isSomebody M v1)) ∧ M' = M) := by
  obtain ⟨Q, hQ0⟩ : ∃ Q : Option MV → Mem → Prop, Q = (fun r M' => r = some (0, (fX12_isSomebody M v1)) ∧ M' = M) := ⟨_, rfl⟩
  rw [← hQ0]
  have hQ : Q (some (0, (lX12_isSomebody_2 ((((M 85 0)) : Int) - 0).toNat v1 0 M))) M := by rw [hQ0]; exact ⟨rfl, rfl⟩
  have o1 := hs
  refine C2_of (L := [(2, 66), (0, v1), (3, 0)]) (by decide +kernel) (Nat.le_of_ble_eq_true rfl) rfl (fun hG => ?_)
  refine T_iconst (pc' := 1) dX12_isSomebody_0 (by decide) rfl ?_
  refine T_istore_n (i := 2) (L' := [(2, 66), (0, v1), (0, 0)]) (pc' := 2) dX12_isSomebody_1 rfl (by decide) rfl rfl ?_
  exact T_wk (qX12_isSomebody_2  _ v1 0 _ (by first | decide | omega) rfl (o1) hQ hG) ⟨Or.inr rfl, Or.inr rfl, Or.inr rfl, trivial⟩
def fX12_stepOf (v0 : Int) : Int :=
  (if v0 = 110 then (0 : Int) else (if v0 = 101 then (1 : Int) else (if v0 = 115 then (2 : Int) else (if v0 = 119 then (3 : Int) else (if v0 = 120 then (4 : Int) else (-1))))))
set_option maxRecDepth 100000 in
theorem pX12_stepOf {E : EV} {h : Int} {M : Mem} {v0 : Int}  : C2 E miX12_stepOf 1 h [(0, v0)] M (fun r M' => r = some (0, (fX12_stepOf v0)) ∧ M' = M) := by
  obtain ⟨Q, hQ⟩ : ∃ Q : Option MV → Mem → Prop, Q = (fun r M' => r = some (0, (fX12_stepOf v0)) ∧ M' = M) := ⟨_, rfl⟩
  rw [← hQ]
  refine C2_of (L := [(0, v0)]) (by decide +kernel) (Nat.le_of_ble_eq_true rfl) rfl (fun hG => ?_)
  refine T_iload_n (i := 0) (pc' := 1) dX12_stepOf_0 rfl rfl rfl ?_
  refine T_bipush (pc' := 3) dX12_stepOf_1 rfl (by decide) rfl ?_
  have HJ1 : T E miX12_stepOf 1 126 0 0 (fun r S M' => S = S0 ∧ G h M' ∧ Q r M') 51 [(3, 0)] [(0, (if v0 = 110 then (0 : Int) else (if v0 = 101 then (1 : Int) else (if v0 = 115 then (2 : Int) else (if v0 = 119 then (3 : Int) else (if v0 = 120 then (4 : Int) else (-1)))))))] S0 M 0 0 := by
    exact T_iret dX12_stepOf_51 rfl ⟨rfl, hG, (by rw [hQ]; exact ⟨rfl, rfl⟩)⟩
  refine T_icmp_ne (pc' := 10) dX12_stepOf_3 (by decide) (pf := 6) rfl (fun c2 => ?_) (fun c2 => ?_)
  · skip
    refine T_iload_n (i := 0) (pc' := 11) dX12_stepOf_10 rfl rfl rfl ?_
    refine T_bipush (pc' := 13) dX12_stepOf_11 rfl (by decide) rfl ?_
    refine T_icmp_ne (pc' := 20) dX12_stepOf_13 (by decide) (pf := 16) rfl (fun c3 => ?_) (fun c3 => ?_)
    · skip
      refine T_iload_n (i := 0) (pc' := 21) dX12_stepOf_20 rfl rfl rfl ?_
      refine T_bipush (pc' := 23) dX12_stepOf_21 rfl (by decide) rfl ?_
      refine T_icmp_ne (pc' := 30) dX12_stepOf_23 (by decide) (pf := 26) rfl (fun c4 => ?_) (fun c4 => ?_)
      · skip
        refine T_iload_n (i := 0) (pc' := 31) dX12_stepOf_30 rfl rfl rfl ?_
        refine T_bipush (pc' := 33) dX12_stepOf_31 rfl (by decide) rfl ?_
        refine T_icmp_ne (pc' := 40) dX12_stepOf_33 (by decide) (pf := 36) rfl (fun c5 => ?_) (fun c5 => ?_)
        · skip
          refine T_iload_n (i := 0) (pc' := 41) dX12_stepOf_40 rfl rfl rfl ?_
          refine T_bipush (pc' := 43) dX12_stepOf_41 rfl (by decide) rfl ?_
          refine T_icmp_ne (pc' := 50) dX12_stepOf_43 (by decide) (pf := 46) rfl (fun c6 => ?_) (fun c6 => ?_)
          · skip
            refine T_iconst (pc' := 51) dX12_stepOf_50 (by decide) rfl ?_
            exact T_wk (L' := [(3, 0)]) (by have q := HJ1; try simp only [if_neg c2] at q; try simp only [if_neg c3] at q; try simp only [if_neg c4] at q; try simp only [if_neg c5] at q; try simp only [if_neg c6] at q; exact q) ⟨Or.inl rfl, trivial⟩
          · skip
            refine T_iconst (pc' := 47) dX12_stepOf_46 (by decide) rfl ?_
            refine T_goto (pc' := 51) dX12_stepOf_47 (by decide) ?_
            exact T_wk (L' := [(3, 0)]) (by have q := HJ1; try simp only [if_neg c2] at q; try simp only [if_neg c3] at q; try simp only [if_neg c4] at q; try simp only [if_neg c5] at q; try simp only [if_pos c6] at q; exact q) ⟨Or.inl rfl, trivial⟩
        · skip
          refine T_iconst (pc' := 37) dX12_stepOf_36 (by decide) rfl ?_
          refine T_goto (pc' := 51) dX12_stepOf_37 (by decide) ?_
          exact T_wk (L' := [(3, 0)]) (by have q := HJ1; try simp only [if_neg c2] at q; try simp only [if_neg c3] at q; try simp only [if_neg c4] at q; try simp only [if_pos c5] at q; exact q) ⟨Or.inl rfl, trivial⟩
      · skip
        refine T_iconst (pc' := 27) dX12_stepOf_26 (by decide) rfl ?_
        refine T_goto (pc' := 51) dX12_stepOf_27 (by decide) ?_
        exact T_wk (L' := [(3, 0)]) (by have q := HJ1; try simp only [if_neg c2] at q; try simp only [if_neg c3] at q; try simp only [if_pos c4] at q; exact q) ⟨Or.inl rfl, trivial⟩
    · skip
      refine T_iconst (pc' := 17) dX12_stepOf_16 (by decide) rfl ?_
      refine T_goto (pc' := 51) dX12_stepOf_17 (by decide) ?_
      exact T_wk (L' := [(3, 0)]) (by have q := HJ1; try simp only [if_neg c2] at q; try simp only [if_pos c3] at q; exact q) ⟨Or.inl rfl, trivial⟩
  · skip
    refine T_iconst (pc' := 7) dX12_stepOf_6 (by decide) rfl ?_
    refine T_goto (pc' := 51) dX12_stepOf_7 (by decide) ?_
    exact T_wk (L' := [(3, 0)]) (by have q := HJ1; try simp only [if_pos c2] at q; exact q) ⟨Or.inl rfl, trivial⟩
def lmX12_stands_199  : Nat → Int → Mem → Mem
  | 0, v1, M => (mset (mset M 66 42 (wr32 ((m_shl 1 (M 85 0)) - 1))) 66 54 0)
  | k + 1, v1, M => (lmX12_stands_199 k (v1 + 1) (mset M 91 (wr32 (4 + v1)) (M 91 v1)))
theorem frlX12_stands_199  {q : Int} (hq0 : q ≠ 66) (hq1 : q ≠ 91) : ∀ {k : Nat} {v1 : Int} {M : Mem}, (lmX12_stands_199  k v1 M) q = M q := by
  intro k
  induction k with
  | zero =>
    intro v1 M
    show (mset (mset M 66 42 (wr32 ((m_shl 1 (M 85 0)) - 1))) 66 54 0) q = M q
    exact ((mset_p hq0).trans ((mset_p hq0).trans rfl))
  | succ k ih =>
    intro v1 M
    show (lmX12_stands_199 k (v1 + 1) (mset M 91 (wr32 (4 + v1)) (M 91 v1))) q = M q
    exact ((ih).trans ((mset_p hq1).trans rfl))
theorem glX12_stands_199 {h : Int}   : ∀ {k : Nat} {v1 : Int} {M : Mem}, G h M → G h (lmX12_stands_199  k v1 M) := by
  intro k
  induction k with
  | zero =>
    intro v1 M hG
    show G h (mset (mset M 66 42 (wr32 ((m_shl 1 (M 85 0)) - 1))) 66 54 0)
    exact (G_fld (x := 66) (i := 54) (y := 0) rfl (by decide) (by decide) (by decide) (G_fld (x := 66) (i := 42) (y := (wr32 ((m_shl 1 (M 85 0)) - 1))) rfl (by decide) (by decide) (by decide) hG))
  | succ k ih =>
    intro v1 M hG
    show G h (lmX12_stands_199 k (v1 + 1) (mset M 91 (wr32 (4 + v1)) (M 91 v1)))
    exact (ih (G_arr (x := 91) (i := (wr32 (4 + v1))) (y := (M 91 v1)) rfl (by decide) hG))
def nlX12_stands_199  : Nat → Int → Mem → Prop
  | 0, v1, M => True
  | k + 1, v1, M => (0 ≤ v1 ∧ v1 < 8) ∧ (0 ≤ (wr32 (4 + v1)) ∧ (wr32 (4 + v1)) < 8) ∧ ((nlX12_stands_199 k (v1 + 1) (mset M 91 (wr32 (4 + v1)) (M 91 v1))))
set_option maxRecDepth 100000 in
set_option maxHeartbeats 2000000 in
theorem qX12_stands_199 {E : EV} {h : Int} {Q : Option MV → Mem → Prop}   : ∀ (k : Nat) (v1 : Int) (M : Mem), 0 ≤ v1 → ((4) - v1).toNat = k → (nlX12_stands_199 k v1 M) → Q none (lmX12_stands_199 k v1 M) → G h M → TG E miX12_stands 1 h Q 199 [(2, 66), (0, v1)] [] M := by
  intro k
  induction k with
  | zero =>
    intro v1 M hv0 hk hs hQ hG
    have hQ : Q none (mset (mset M 66 42 (wr32 ((m_shl 1 (M 85 0)) - 1))) 66 54 0) := hQ
    have hs : True := hs
    refine T_iload_n (i := 1) (pc' := 200) dX12_stands_199 rfl rfl rfl ?_
    refine T_iconst (pc' := 201) dX12_stands_200 (by decide) rfl ?_
    refine T_rng (fun _ z9 _ => ?_)
    have hB : r32 4 := (ok_cons.mp z9).1
    unfold r32 at hB
    refine T_icmp_ge (pc' := 224) dX12_stands_201 (by decide) (pf := 204) rfl (fun c1 => ?_) (fun c1 => ?_)
    · skip
      refine T_aload_n (i := 0) (pc' := 225) dX12_stands_224 rfl rfl rfl ?_
      refine T_iconst (pc' := 226) dX12_stands_225 (by decide) rfl ?_
      refine T_aload_n (i := 0) (pc' := 227) dX12_stands_226 rfl rfl rfl ?_
      refine U_gr (q := 85) (k := 28) (kI := 28) (pc' := 230) dX12_stands_227 rfl cl12 (by decide) rfl (by decide) flX12_69 rfl rfl rfl (G_at hG 85 rfl) (by decide) rfl ?_
      refine T_iconst (pc' := 231) dX12_stands_230 (by decide) rfl ?_
      refine T_iald (pc' := 232) dX12_stands_231 (by decide) rfl (by decide) (by decide) rfl ?_
      refine T_ishl (pc' := 233) dX12_stands_232 rfl ?_
      refine T_iconst (pc' := 234) dX12_stands_233 (by decide) rfl ?_
      refine T_isub (pc' := 235) dX12_stands_234 rfl ?_
      refine U_pf (y := (wr32 ((m_shl 1 (M 85 0)) - 1))) (k := 42) (kI := 42) (pc' := 238) dX12_stands_235 rfl cl12 (by decide) rfl (by decide) flX12_340 rfl rfl rfl rfl rfl (by decide) (fun z => z) rfl ?_
      refine T_aload_n (i := 0) (pc' := 239) dX12_stands_238 rfl rfl rfl ?_
      refine T_iconst (pc' := 240) dX12_stands_239 (by decide) rfl ?_
      refine U_pf (y := 0) (k := 54) (kI := 54) (pc' := 243) dX12_stands_240 rfl cl12 (by decide) rfl (by decide) flX12_343 rfl rfl rfl rfl rfl (by decide) (fun z => z) rfl ?_
      exact T_vret dX12_stands_243 rfl ⟨rfl, (G_fld (x := 66) (i := 54) (y := 0) rfl (by decide) (by decide) (by decide) (G_fld (x := 66) (i := 42) (y := (wr32 ((m_shl 1 (M 85 0)) - 1))) rfl (by decide) (by decide) (by decide) hG)), hQ⟩
    · exact absurd c1 (by omega)
  | succ k ih =>
    intro v1 M hv0 hk hs hQ hG
    have hQ : Q none (lmX12_stands_199 k (v1 + 1) (mset M 91 (wr32 (4 + v1)) (M 91 v1))) := hQ
    have hs : (0 ≤ v1 ∧ v1 < 8) ∧ (0 ≤ (wr32 (4 + v1)) ∧ (wr32 (4 + v1)) < 8) ∧ ((nlX12_stands_199 k (v1 + 1) (mset M 91 (wr32 (4 + v1)) (M 91 v1)))) := hs
    obtain ⟨n1, n2, n3⟩ := hs
    refine T_iload_n (i := 1) (pc' := 200) dX12_stands_199 rfl rfl rfl ?_
    refine T_iconst (pc' := 201) dX12_stands_200 (by decide) rfl ?_
    refine T_rng (fun _ z9 _ => ?_)
    have hB : r32 4 := (ok_cons.mp z9).1
    unfold r32 at hB
    refine T_icmp_ge (pc' := 224) dX12_stands_201 (by decide) (pf := 204) rfl (fun c1 => ?_) (fun c1 => ?_)
    · exact absurd c1 (by omega)
    · skip
      have hw : wr32 (v1 + 1) = v1 + 1 := wr32_id (by unfold r32; omega)
      refine T_aload_n (i := 0) (pc' := 205) dX12_stands_204 rfl rfl rfl ?_
      refine U_gr (q := 91) (k := 34) (kI := 34) (pc' := 208) dX12_stands_205 rfl cl12 (by decide) rfl (by decide) flX12_89 rfl rfl rfl (G_at hG 91 rfl) (by decide) rfl ?_
      refine T_iconst (pc' := 209) dX12_stands_208 (by decide) rfl ?_
      refine T_iload_n (i := 1) (pc' := 210) dX12_stands_209 rfl rfl rfl ?_
      refine T_iadd (pc' := 211) dX12_stands_210 rfl ?_
      refine T_aload_n (i := 0) (pc' := 212) dX12_stands_211 rfl rfl rfl ?_
      refine U_gr (q := 91) (k := 34) (kI := 34) (pc' := 215) dX12_stands_212 rfl cl12 (by decide) rfl (by decide) flX12_89 rfl rfl rfl (G_at hG 91 rfl) (by decide) rfl ?_
      refine T_iload_n (i := 1) (pc' := 216) dX12_stands_215 rfl rfl rfl ?_
      refine T_iald (pc' := 217) dX12_stands_216 (by decide) rfl (n1).1 (n1).2 rfl ?_
      refine T_iast (pc' := 218) dX12_stands_217 (by decide) rfl (n2).1 (n2).2 rfl ?_
      refine T_iinc (L' := [(2, 66), (0, (wr32 (v1 + 1)))]) (pc' := 221) dX12_stands_218 rfl (by decide) rfl rfl ?_
      refine T_goto (pc' := 199) dX12_stands_221 (by decide) ?_
      rw [hw]
      exact T_wk (ih (v1 + 1) _ (by omega) (by omega) (n3) hQ (G_arr (x := 91) (i := (wr32 (4 + v1))) (y := (M 91 v1)) rfl (by decide) hG)) ⟨Or.inr rfl, Or.inr rfl, trivial⟩
def lmX12_stands_163  : Nat → Int → Mem → Mem
  | 0, v1, M => (lmX12_stands_199 4 0 M)
  | k + 1, v1, M => (lmX12_stands_163 k (v1 + 1) (mset (mset M 90 (wr32 (6 + v1)) (M 90 v1)) 92 v1 0))
theorem frlX12_stands_163  {q : Int} (hq0 : q ≠ 90) (hq1 : q ≠ 92) (hq2 : q ≠ 66) (hq3 : q ≠ 91) : ∀ {k : Nat} {v1 : Int} {M : Mem}, (lmX12_stands_163  k v1 M) q = M q := by
  intro k
  induction k with
  | zero =>
    intro v1 M
    show (lmX12_stands_199 4 0 M) q = M q
    exact ((frlX12_stands_199 hq2 hq3).trans rfl)
  | succ k ih =>
    intro v1 M
    show (lmX12_stands_163 k (v1 + 1) (mset (mset M 90 (wr32 (6 + v1)) (M 90 v1)) 92 v1 0)) q = M q
    exact ((ih).trans ((mset_p hq1).trans ((mset_p hq0).trans rfl)))
theorem glX12_stands_163 {h : Int}   : ∀ {k : Nat} {v1 : Int} {M : Mem}, G h M → G h (lmX12_stands_163  k v1 M) := by
  intro k
  induction k with
  | zero =>
    intro v1 M hG
    show G h (lmX12_stands_199 4 0 M)
    exact (glX12_stands_199 hG)
  | succ k ih =>
    intro v1 M hG
    show G h (lmX12_stands_163 k (v1 + 1) (mset (mset M 90 (wr32 (6 + v1)) (M 90 v1)) 92 v1 0))
    exact (ih (G_arr (x := 92) (i := v1) (y := 0) rfl (by decide) (G_arr (x := 90) (i := (wr32 (6 + v1))) (y := (M 90 v1)) rfl (by decide) hG)))
def nlX12_stands_163  : Nat → Int → Mem → Prop
  | 0, v1, M => ((nlX12_stands_199 4 0 M))
  | k + 1, v1, M => (0 ≤ v1 ∧ v1 < 12) ∧ (0 ≤ (wr32 (6 + v1)) ∧ (wr32 (6 + v1)) < 12) ∧ (0 ≤ v1 ∧ v1 < 6) ∧ ((nlX12_stands_163 k (v1 + 1) (mset (mset M 90 (wr32 (6 + v1)) (M 90 v1)) 92 v1 0)))
set_option maxRecDepth 100000 in
set_option maxHeartbeats 2000000 in
theorem qX12_stands_163 {E : EV} {h : Int} {Q : Option MV → Mem → Prop}   : ∀ (k : Nat) (v1 : Int) (M : Mem), 0 ≤ v1 → ((6) - v1).toNat = k → (nlX12_stands_163 k v1 M) → Q none (lmX12_stands_163 k v1 M) → G h M → TG E miX12_stands 1 h Q 163 [(2, 66), (0, v1)] [] M := by
  intro k
  induction k with
  | zero =>
    intro v1 M hv0 hk hs hQ hG
    have hQ : Q none (lmX12_stands_199 4 0 M) := hQ
    have hs : ((nlX12_stands_199 4 0 M)) := hs
    have n1 := hs
    refine T_iload_n (i := 1) (pc' := 164) dX12_stands_163 rfl rfl rfl ?_
    refine T_bipush (pc' := 166) dX12_stands_164 rfl (by decide) rfl ?_
    refine T_rng (fun _ z9 _ => ?_)
    have hB : r32 6 := (ok_cons.mp z9).1
    unfold r32 at hB
    refine T_icmp_ge (pc' := 197) dX12_stands_166 (by decide) (pf := 169) rfl (fun c1 => ?_) (fun c1 => ?_)
    · skip
      refine T_iconst (pc' := 198) dX12_stands_197 (by decide) rfl ?_
      refine T_istore_n (i := 1) (L' := [(2, 66), (0, 0)]) (pc' := 199) dX12_stands_198 rfl (by decide) rfl rfl ?_
      exact T_wk (qX12_stands_199  4 0 _ (by first | decide | omega) rfl (n1) hQ hG) ⟨Or.inr rfl, Or.inr rfl, trivial⟩
    · exact absurd c1 (by omega)
  | succ k ih =>
    intro v1 M hv0 hk hs hQ hG
    have hQ : Q none (lmX12_stands_163 k (v1 + 1) (mset (mset M 90 (wr32 (6 + v1)) (M 90 v1)) 92 v1 0)) := hQ
    have hs : (0 ≤ v1 ∧ v1 < 12) ∧ (0 ≤ (wr32 (6 + v1)) ∧ (wr32 (6 + v1)) < 12) ∧ (0 ≤ v1 ∧ v1 < 6) ∧ ((nlX12_stands_163 k (v1 + 1) (mset (mset M 90 (wr32 (6 + v1)) (M 90 v1)) 92 v1 0))) := hs
    obtain ⟨n1, n2, n3, n4⟩ := hs
    refine T_iload_n (i := 1) (pc' := 164) dX12_stands_163 rfl rfl rfl ?_
    refine T_bipush (pc' := 166) dX12_stands_164 rfl (by decide) rfl ?_
    refine T_rng (fun _ z9 _ => ?_)
    have hB : r32 6 := (ok_cons.mp z9).1
    unfold r32 at hB
    refine T_icmp_ge (pc' := 197) dX12_stands_166 (by decide) (pf := 169) rfl (fun c1 => ?_) (fun c1 => ?_)
    · exact absurd c1 (by omega)
    · skip
      have hw : wr32 (v1 + 1) = v1 + 1 := wr32_id (by unfold r32; omega)
      refine T_aload_n (i := 0) (pc' := 170) dX12_stands_169 rfl rfl rfl ?_
      refine U_gr (q := 90) (k := 33) (kI := 33) (pc' := 173) dX12_stands_170 rfl cl12 (by decide) rfl (by decide) flX12_86 rfl rfl rfl (G_at hG 90 rfl) (by decide) rfl ?_
      refine T_bipush (pc' := 175) dX12_stands_173 rfl (by decide) rfl ?_
      refine T_iload_n (i := 1) (pc' := 176) dX12_stands_175 rfl rfl rfl ?_
      refine T_iadd (pc' := 177) dX12_stands_176 rfl ?_
      refine T_aload_n (i := 0) (pc' := 178) dX12_stands_177 rfl rfl rfl ?_
      refine U_gr (q := 90) (k := 33) (kI := 33) (pc' := 181) dX12_stands_178 rfl cl12 (by decide) rfl (by decide) flX12_86 rfl rfl rfl (G_at hG 90 rfl) (by decide) rfl ?_
      refine T_iload_n (i := 1) (pc' := 182) dX12_stands_181 rfl rfl rfl ?_
      refine T_iald (pc' := 183) dX12_stands_182 (by decide) rfl (n1).1 (n1).2 rfl ?_
      refine T_iast (pc' := 184) dX12_stands_183 (by decide) rfl (n2).1 (n2).2 rfl ?_
      refine T_aload_n (i := 0) (pc' := 185) dX12_stands_184 rfl rfl rfl ?_
      refine U_gr (q := 92) (k := 41) (kI := 41) (pc' := 188) dX12_stands_185 rfl cl12 (by decide) rfl (by decide) flX12_92 rfl rfl rfl (G_at (G_arr (x := 90) (i := (wr32 (6 + v1))) (y := (M 90 v1)) rfl (by decide) hG) 92 rfl) (by decide) rfl ?_
      refine T_iload_n (i := 1) (pc' := 189) dX12_stands_188 rfl rfl rfl ?_
      refine T_iconst (pc' := 190) dX12_stands_189 (by decide) rfl ?_
      refine T_iast (pc' := 191) dX12_stands_190 (by decide) rfl (n3).1 (n3).2 rfl ?_
      refine T_iinc (L' := [(2, 66), (0, (wr32 (v1 + 1)))]) (pc' := 194) dX12_stands_191 rfl (by decide) rfl rfl ?_
      refine T_goto (pc' := 163) dX12_stands_194 (by decide) ?_
      rw [hw]
      exact T_wk (ih (v1 + 1) _ (by omega) (by omega) (n4) hQ (G_arr (x := 92) (i := v1) (y := 0) rfl (by decide) (G_arr (x := 90) (i := (wr32 (6 + v1))) (y := (M 90 v1)) rfl (by decide) hG))) ⟨Or.inr rfl, Or.inr rfl, trivial⟩
def lmX12_stands_134  : Nat → Int → Mem → Mem
  | 0, v1, M => (lmX12_stands_163 6 0 M)
  | k + 1, v1, M => (lmX12_stands_134 k (v1 + 1) (mset M 89 (wr32 (12 + v1)) (M 89 v1)))
theorem frlX12_stands_134  {q : Int} (hq0 : q ≠ 89) (hq1 : q ≠ 90) (hq2 : q ≠ 92) (hq3 : q ≠ 66) (hq4 : q ≠ 91) : ∀ {k : Nat} {v1 : Int} {M : Mem}, (lmX12_stands_134  k v1 M) q = M q := by
  intro k
  induction k with
  | zero =>
    intro v1 M
    show (lmX12_stands_163 6 0 M) q = M q
    exact ((frlX12_stands_163 hq1 hq2 hq3 hq4).trans rfl)
  | succ k ih =>
    intro v1 M
    show (lmX12_stands_134 k (v1 + 1) (mset M 89 (wr32 (12 + v1)) (M 89 v1))) q = M q
    exact ((ih).trans ((mset_p hq0).trans rfl))
theorem glX12_stands_134 {h : Int}   : ∀ {k : Nat} {v1 : Int} {M : Mem}, G h M → G h (lmX12_stands_134  k v1 M) := by
  intro k
  induction k with
  | zero =>
    intro v1 M hG
    show G h (lmX12_stands_163 6 0 M)
    exact (glX12_stands_163 hG)
  | succ k ih =>
    intro v1 M hG
    show G h (lmX12_stands_134 k (v1 + 1) (mset M 89 (wr32 (12 + v1)) (M 89 v1)))
    exact (ih (G_arr (x := 89) (i := (wr32 (12 + v1))) (y := (M 89 v1)) rfl (by decide) hG))
def nlX12_stands_134  : Nat → Int → Mem → Prop
  | 0, v1, M => ((nlX12_stands_163 6 0 M))
  | k + 1, v1, M => (0 ≤ v1 ∧ v1 < 24) ∧ (0 ≤ (wr32 (12 + v1)) ∧ (wr32 (12 + v1)) < 24) ∧ ((nlX12_stands_134 k (v1 + 1) (mset M 89 (wr32 (12 + v1)) (M 89 v1))))
set_option maxRecDepth 100000 in
set_option maxHeartbeats 2000000 in
theorem qX12_stands_134 {E : EV} {h : Int} {Q : Option MV → Mem → Prop}   : ∀ (k : Nat) (v1 : Int) (M : Mem), 0 ≤ v1 → ((12) - v1).toNat = k → (nlX12_stands_134 k v1 M) → Q none (lmX12_stands_134 k v1 M) → G h M → TG E miX12_stands 1 h Q 134 [(2, 66), (0, v1)] [] M := by
  intro k
  induction k with
  | zero =>
    intro v1 M hv0 hk hs hQ hG
    have hQ : Q none (lmX12_stands_163 6 0 M) := hQ
    have hs : ((nlX12_stands_163 6 0 M)) := hs
    have n1 := hs
    refine T_iload_n (i := 1) (pc' := 135) dX12_stands_134 rfl rfl rfl ?_
    refine T_bipush (pc' := 137) dX12_stands_135 rfl (by decide) rfl ?_
    refine T_rng (fun _ z9 _ => ?_)
    have hB : r32 12 := (ok_cons.mp z9).1
    unfold r32 at hB
    refine T_icmp_ge (pc' := 161) dX12_stands_137 (by decide) (pf := 140) rfl (fun c1 => ?_) (fun c1 => ?_)
    · skip
      refine T_iconst (pc' := 162) dX12_stands_161 (by decide) rfl ?_
      refine T_istore_n (i := 1) (L' := [(2, 66), (0, 0)]) (pc' := 163) dX12_stands_162 rfl (by decide) rfl rfl ?_
      exact T_wk (qX12_stands_163  6 0 _ (by first | decide | omega) rfl (n1) hQ hG) ⟨Or.inr rfl, Or.inr rfl, trivial⟩
    · exact absurd c1 (by omega)
  | succ k ih =>
    intro v1 M hv0 hk hs hQ hG
    have hQ : Q none (lmX12_stands_134 k (v1 + 1) (mset M 89 (wr32 (12 + v1)) (M 89 v1))) := hQ
    have hs : (0 ≤ v1 ∧ v1 < 24) ∧ (0 ≤ (wr32 (12 + v1)) ∧ (wr32 (12 + v1)) < 24) ∧ ((nlX12_stands_134 k (v1 + 1) (mset M 89 (wr32 (12 + v1)) (M 89 v1)))) := hs
    obtain ⟨n1, n2, n3⟩ := hs
    refine T_iload_n (i := 1) (pc' := 135) dX12_stands_134 rfl rfl rfl ?_
    refine T_bipush (pc' := 137) dX12_stands_135 rfl (by decide) rfl ?_
    refine T_rng (fun _ z9 _ => ?_)
    have hB : r32 12 := (ok_cons.mp z9).1
    unfold r32 at hB
    refine T_icmp_ge (pc' := 161) dX12_stands_137 (by decide) (pf := 140) rfl (fun c1 => ?_) (fun c1 => ?_)
    · exact absurd c1 (by omega)
    · skip
      have hw : wr32 (v1 + 1) = v1 + 1 := wr32_id (by unfold r32; omega)
      refine T_aload_n (i := 0) (pc' := 141) dX12_stands_140 rfl rfl rfl ?_
      refine U_gr (q := 89) (k := 32) (kI := 32) (pc' := 144) dX12_stands_141 rfl cl12 (by decide) rfl (by decide) flX12_83 rfl rfl rfl (G_at hG 89 rfl) (by decide) rfl ?_
      refine T_bipush (pc' := 146) dX12_stands_144 rfl (by decide) rfl ?_
      refine T_iload_n (i := 1) (pc' := 147) dX12_stands_146 rfl rfl rfl ?_
      refine T_iadd (pc' := 148) dX12_stands_147 rfl ?_
      refine T_aload_n (i := 0) (pc' := 149) dX12_stands_148 rfl rfl rfl ?_
      refine U_gr (q := 89) (k := 32) (kI := 32) (pc' := 152) dX12_stands_149 rfl cl12 (by decide) rfl (by decide) flX12_83 rfl rfl rfl (G_at hG 89 rfl) (by decide) rfl ?_
      refine T_iload_n (i := 1) (pc' := 153) dX12_stands_152 rfl rfl rfl ?_
      refine T_iald (pc' := 154) dX12_stands_153 (by decide) rfl (n1).1 (n1).2 rfl ?_
      refine T_iast (pc' := 155) dX12_stands_154 (by decide) rfl (n2).1 (n2).2 rfl ?_
      refine T_iinc (L' := [(2, 66), (0, (wr32 (v1 + 1)))]) (pc' := 158) dX12_stands_155 rfl (by decide) rfl rfl ?_
      refine T_goto (pc' := 134) dX12_stands_158 (by decide) ?_
      rw [hw]
      exact T_wk (ih (v1 + 1) _ (by omega) (by omega) (n3) hQ (G_arr (x := 89) (i := (wr32 (12 + v1))) (y := (M 89 v1)) rfl (by decide) hG)) ⟨Or.inr rfl, Or.inr rfl, trivial⟩
def lmX12_stands_103  : Nat → Int → Mem → Mem
  | 0, v1, M => (lmX12_stands_134 12 0 M)
  | k + 1, v1, M => (lmX12_stands_103 k (v1 + 1) (mset M 88 (wr32 (162 + v1)) (M 88 v1)))
theorem frlX12_stands_103  {q : Int} (hq0 : q ≠ 88) (hq1 : q ≠ 89) (hq2 : q ≠ 90) (hq3 : q ≠ 92) (hq4 : q ≠ 66) (hq5 : q ≠ 91) : ∀ {k : Nat} {v1 : Int} {M : Mem}, (lmX12_stands_103  k v1 M) q = M q := by
  intro k
  induction k with
  | zero =>
    intro v1 M
    show (lmX12_stands_134 12 0 M) q = M q
    exact ((frlX12_stands_134 hq1 hq2 hq3 hq4 hq5).trans rfl)
  | succ k ih =>
    intro v1 M
    show (lmX12_stands_103 k (v1 + 1) (mset M 88 (wr32 (162 + v1)) (M 88 v1))) q = M q
    exact ((ih).trans ((mset_p hq0).trans rfl))
theorem glX12_stands_103 {h : Int}   : ∀ {k : Nat} {v1 : Int} {M : Mem}, G h M → G h (lmX12_stands_103  k v1 M) := by
  intro k
  induction k with
  | zero =>
    intro v1 M hG
    show G h (lmX12_stands_134 12 0 M)
    exact (glX12_stands_134 hG)
  | succ k ih =>
    intro v1 M hG
    show G h (lmX12_stands_103 k (v1 + 1) (mset M 88 (wr32 (162 + v1)) (M 88 v1)))
    exact (ih (G_arr (x := 88) (i := (wr32 (162 + v1))) (y := (M 88 v1)) rfl (by decide) hG))
def nlX12_stands_103  : Nat → Int → Mem → Prop
  | 0, v1, M => ((nlX12_stands_134 12 0 M))
  | k + 1, v1, M => (0 ≤ v1 ∧ v1 < 324) ∧ (0 ≤ (wr32 (162 + v1)) ∧ (wr32 (162 + v1)) < 324) ∧ ((nlX12_stands_103 k (v1 + 1) (mset M 88 (wr32 (162 + v1)) (M 88 v1))))
set_option maxRecDepth 100000 in
set_option maxHeartbeats 2000000 in
theorem qX12_stands_103 {E : EV} {h : Int} {Q : Option MV → Mem → Prop}   : ∀ (k : Nat) (v1 : Int) (M : Mem), 0 ≤ v1 → ((162) - v1).toNat = k → (nlX12_stands_103 k v1 M) → Q none (lmX12_stands_103 k v1 M) → G h M → TG E miX12_stands 1 h Q 103 [(2, 66), (0, v1)] [] M := by
  intro k
  induction k with
  | zero =>
    intro v1 M hv0 hk hs hQ hG
    have hQ : Q none (lmX12_stands_134 12 0 M) := hQ
    have hs : ((nlX12_stands_134 12 0 M)) := hs
    have n1 := hs
    refine T_iload_n (i := 1) (pc' := 104) dX12_stands_103 rfl rfl rfl ?_
    refine T_sipush (pc' := 107) dX12_stands_104 rfl (by decide) rfl ?_
    refine T_rng (fun _ z9 _ => ?_)
    have hB : r32 162 := (ok_cons.mp z9).1
    unfold r32 at hB
    refine T_icmp_ge (pc' := 132) dX12_stands_107 (by decide) (pf := 110) rfl (fun c1 => ?_) (fun c1 => ?_)
    · skip
      refine T_iconst (pc' := 133) dX12_stands_132 (by decide) rfl ?_
      refine T_istore_n (i := 1) (L' := [(2, 66), (0, 0)]) (pc' := 134) dX12_stands_133 rfl (by decide) rfl rfl ?_
      exact T_wk (qX12_stands_134  12 0 _ (by first | decide | omega) rfl (n1) hQ hG) ⟨Or.inr rfl, Or.inr rfl, trivial⟩
    · exact absurd c1 (by omega)
  | succ k ih =>
    intro v1 M hv0 hk hs hQ hG
    have hQ : Q none (lmX12_stands_103 k (v1 + 1) (mset M 88 (wr32 (162 + v1)) (M 88 v1))) := hQ
    have hs : (0 ≤ v1 ∧ v1 < 324) ∧ (0 ≤ (wr32 (162 + v1)) ∧ (wr32 (162 + v1)) < 324) ∧ ((nlX12_stands_103 k (v1 + 1) (mset M 88 (wr32 (162 + v1)) (M 88 v1)))) := hs
    obtain ⟨n1, n2, n3⟩ := hs
    refine T_iload_n (i := 1) (pc' := 104) dX12_stands_103 rfl rfl rfl ?_
    refine T_sipush (pc' := 107) dX12_stands_104 rfl (by decide) rfl ?_
    refine T_rng (fun _ z9 _ => ?_)
    have hB : r32 162 := (ok_cons.mp z9).1
    unfold r32 at hB
    refine T_icmp_ge (pc' := 132) dX12_stands_107 (by decide) (pf := 110) rfl (fun c1 => ?_) (fun c1 => ?_)
    · exact absurd c1 (by omega)
    · skip
      have hw : wr32 (v1 + 1) = v1 + 1 := wr32_id (by unfold r32; omega)
      refine T_aload_n (i := 0) (pc' := 111) dX12_stands_110 rfl rfl rfl ?_
      refine U_gr (q := 88) (k := 31) (kI := 31) (pc' := 114) dX12_stands_111 rfl cl12 (by decide) rfl (by decide) flX12_80 rfl rfl rfl (G_at hG 88 rfl) (by decide) rfl ?_
      refine T_sipush (pc' := 117) dX12_stands_114 rfl (by decide) rfl ?_
      refine T_iload_n (i := 1) (pc' := 118) dX12_stands_117 rfl rfl rfl ?_
      refine T_iadd (pc' := 119) dX12_stands_118 rfl ?_
      refine T_aload_n (i := 0) (pc' := 120) dX12_stands_119 rfl rfl rfl ?_
      refine U_gr (q := 88) (k := 31) (kI := 31) (pc' := 123) dX12_stands_120 rfl cl12 (by decide) rfl (by decide) flX12_80 rfl rfl rfl (G_at hG 88 rfl) (by decide) rfl ?_
      refine T_iload_n (i := 1) (pc' := 124) dX12_stands_123 rfl rfl rfl ?_
      refine T_iald (pc' := 125) dX12_stands_124 (by decide) rfl (n1).1 (n1).2 rfl ?_
      refine T_iast (pc' := 126) dX12_stands_125 (by decide) rfl (n2).1 (n2).2 rfl ?_
      refine T_iinc (L' := [(2, 66), (0, (wr32 (v1 + 1)))]) (pc' := 129) dX12_stands_126 rfl (by decide) rfl rfl ?_
      refine T_goto (pc' := 103) dX12_stands_129 (by decide) ?_
      rw [hw]
      exact T_wk (ih (v1 + 1) _ (by omega) (by omega) (n3) hQ (G_arr (x := 88) (i := (wr32 (162 + v1))) (y := (M 88 v1)) rfl (by decide) hG)) ⟨Or.inr rfl, Or.inr rfl, trivial⟩
def lmX12_stands_74  : Nat → Int → Mem → Mem
  | 0, v1, M => (lmX12_stands_103 162 0 M)
  | k + 1, v1, M => (lmX12_stands_74 k (v1 + 1) (mset M 87 (wr32 (54 + v1)) (M 87 v1)))
theorem frlX12_stands_74  {q : Int} (hq0 : q ≠ 87) (hq1 : q ≠ 88) (hq2 : q ≠ 89) (hq3 : q ≠ 90) (hq4 : q ≠ 92) (hq5 : q ≠ 66) (hq6 : q ≠ 91) : ∀ {k : Nat} {v1 : Int} {M : Mem}, (lmX12_stands_74  k v1 M) q = M q := by
  intro k
  induction k with
  | zero =>
    intro v1 M
    show (lmX12_stands_103 162 0 M) q = M q
    exact ((frlX12_stands_103 hq1 hq2 hq3 hq4 hq5 hq6).trans rfl)
  | succ k ih =>
    intro v1 M
    show (lmX12_stands_74 k (v1 + 1) (mset M 87 (wr32 (54 + v1)) (M 87 v1))) q = M q
    exact ((ih).trans ((mset_p hq0).trans rfl))
theorem glX12_stands_74 {h : Int}   : ∀ {k : Nat} {v1 : Int} {M : Mem}, G h M → G h (lmX12_stands_74  k v1 M) := by
  intro k
  induction k with
  | zero =>
    intro v1 M hG
    show G h (lmX12_stands_103 162 0 M)
    exact (glX12_stands_103 hG)
  | succ k ih =>
    intro v1 M hG
    show G h (lmX12_stands_74 k (v1 + 1) (mset M 87 (wr32 (54 + v1)) (M 87 v1)))
    exact (ih (G_arr (x := 87) (i := (wr32 (54 + v1))) (y := (M 87 v1)) rfl (by decide) hG))
def nlX12_stands_74  : Nat → Int → Mem → Prop
  | 0, v1, M => ((nlX12_stands_103 162 0 M))
  | k + 1, v1, M => (0 ≤ v1 ∧ v1 < 108) ∧ (0 ≤ (wr32 (54 + v1)) ∧ (wr32 (54 + v1)) < 108) ∧ ((0 ≤ (M 87 v1) ∧ (M 87 v1) ≤ 1)) ∧ ((nlX12_stands_74 k (v1 + 1) (mset M 87 (wr32 (54 + v1)) (M 87 v1))))
set_option maxRecDepth 100000 in
set_option maxHeartbeats 2000000 in
theorem qX12_stands_74 {E : EV} {h : Int} {Q : Option MV → Mem → Prop}   : ∀ (k : Nat) (v1 : Int) (M : Mem), 0 ≤ v1 → ((54) - v1).toNat = k → (nlX12_stands_74 k v1 M) → Q none (lmX12_stands_74 k v1 M) → G h M → TG E miX12_stands 1 h Q 74 [(2, 66), (0, v1)] [] M := by
  intro k
  induction k with
  | zero =>
    intro v1 M hv0 hk hs hQ hG
    have hQ : Q none (lmX12_stands_103 162 0 M) := hQ
    have hs : ((nlX12_stands_103 162 0 M)) := hs
    have n1 := hs
    refine T_iload_n (i := 1) (pc' := 75) dX12_stands_74 rfl rfl rfl ?_
    refine T_bipush (pc' := 77) dX12_stands_75 rfl (by decide) rfl ?_
    refine T_rng (fun _ z9 _ => ?_)
    have hB : r32 54 := (ok_cons.mp z9).1
    unfold r32 at hB
    refine T_icmp_ge (pc' := 101) dX12_stands_77 (by decide) (pf := 80) rfl (fun c1 => ?_) (fun c1 => ?_)
    · skip
      refine T_iconst (pc' := 102) dX12_stands_101 (by decide) rfl ?_
      refine T_istore_n (i := 1) (L' := [(2, 66), (0, 0)]) (pc' := 103) dX12_stands_102 rfl (by decide) rfl rfl ?_
      exact T_wk (qX12_stands_103  162 0 _ (by first | decide | omega) rfl (n1) hQ hG) ⟨Or.inr rfl, Or.inr rfl, trivial⟩
    · exact absurd c1 (by omega)
  | succ k ih =>
    intro v1 M hv0 hk hs hQ hG
    have hQ : Q none (lmX12_stands_74 k (v1 + 1) (mset M 87 (wr32 (54 + v1)) (M 87 v1))) := hQ
    have hs : (0 ≤ v1 ∧ v1 < 108) ∧ (0 ≤ (wr32 (54 + v1)) ∧ (wr32 (54 + v1)) < 108) ∧ ((0 ≤ (M 87 v1) ∧ (M 87 v1) ≤ 1)) ∧ ((nlX12_stands_74 k (v1 + 1) (mset M 87 (wr32 (54 + v1)) (M 87 v1)))) := hs
    obtain ⟨n1, n2, n3, n4⟩ := hs
    refine T_iload_n (i := 1) (pc' := 75) dX12_stands_74 rfl rfl rfl ?_
    refine T_bipush (pc' := 77) dX12_stands_75 rfl (by decide) rfl ?_
    refine T_rng (fun _ z9 _ => ?_)
    have hB : r32 54 := (ok_cons.mp z9).1
    unfold r32 at hB
    refine T_icmp_ge (pc' := 101) dX12_stands_77 (by decide) (pf := 80) rfl (fun c1 => ?_) (fun c1 => ?_)
    · exact absurd c1 (by omega)
    · skip
      have hw : wr32 (v1 + 1) = v1 + 1 := wr32_id (by unfold r32; omega)
      refine T_aload_n (i := 0) (pc' := 81) dX12_stands_80 rfl rfl rfl ?_
      refine U_gr (q := 87) (k := 30) (kI := 30) (pc' := 84) dX12_stands_81 rfl cl12 (by decide) rfl (by decide) flX12_76 rfl rfl rfl (G_at hG 87 rfl) (by decide) rfl ?_
      refine T_bipush (pc' := 86) dX12_stands_84 rfl (by decide) rfl ?_
      refine T_iload_n (i := 1) (pc' := 87) dX12_stands_86 rfl rfl rfl ?_
      refine T_iadd (pc' := 88) dX12_stands_87 rfl ?_
      refine T_aload_n (i := 0) (pc' := 89) dX12_stands_88 rfl rfl rfl ?_
      refine U_gr (q := 87) (k := 30) (kI := 30) (pc' := 92) dX12_stands_89 rfl cl12 (by decide) rfl (by decide) flX12_76 rfl rfl rfl (G_at hG 87 rfl) (by decide) rfl ?_
      refine T_iload_n (i := 1) (pc' := 93) dX12_stands_92 rfl rfl rfl ?_
      refine T_zald (pc' := 94) dX12_stands_93 (by decide) rfl (n1).1 (n1).2 rfl ?_
      refine T_zrng (x := 87) (i := v1) (n := 108) rfl (by decide) (n1).1 (fun zb2 => ?_)
      refine T_zast (pc' := 95) dX12_stands_94 (by decide) rfl (n2).1 (n2).2 (n3) rfl ?_
      refine T_iinc (L' := [(2, 66), (0, (wr32 (v1 + 1)))]) (pc' := 98) dX12_stands_95 rfl (by decide) rfl rfl ?_
      refine T_goto (pc' := 74) dX12_stands_98 (by decide) ?_
      rw [hw]
      exact T_wk (ih (v1 + 1) _ (by omega) (by omega) (n4) hQ (G_arr (x := 87) (i := (wr32 (54 + v1))) (y := (M 87 v1)) rfl (by decide) hG)) ⟨Or.inr rfl, Or.inr rfl, trivial⟩
def lmX12_stands_45  : Nat → Int → Mem → Mem
  | 0, v1, M => (lmX12_stands_74 54 0 M)
  | k + 1, v1, M => (lmX12_stands_45 k (v1 + 1) (mset M 86 (wr32 (20 + v1)) (M 86 v1)))
theorem frlX12_stands_45  {q : Int} (hq0 : q ≠ 86) (hq1 : q ≠ 87) (hq2 : q ≠ 88) (hq3 : q ≠ 89) (hq4 : q ≠ 90) (hq5 : q ≠ 92) (hq6 : q ≠ 66) (hq7 : q ≠ 91) : ∀ {k : Nat} {v1 : Int} {M : Mem}, (lmX12_stands_45  k v1 M) q = M q := by
  intro k
  induction k with
  | zero =>
    intro v1 M
    show (lmX12_stands_74 54 0 M) q = M q
    exact ((frlX12_stands_74 hq1 hq2 hq3 hq4 hq5 hq6 hq7).trans rfl)
  | succ k ih =>
    intro v1 M
    show (lmX12_stands_45 k (v1 + 1) (mset M 86 (wr32 (20 + v1)) (M 86 v1))) q = M q
    exact ((ih).trans ((mset_p hq0).trans rfl))
theorem glX12_stands_45 {h : Int}   : ∀ {k : Nat} {v1 : Int} {M : Mem}, G h M → G h (lmX12_stands_45  k v1 M) := by
  intro k
  induction k with
  | zero =>
    intro v1 M hG
    show G h (lmX12_stands_74 54 0 M)
    exact (glX12_stands_74 hG)
  | succ k ih =>
    intro v1 M hG
    show G h (lmX12_stands_45 k (v1 + 1) (mset M 86 (wr32 (20 + v1)) (M 86 v1)))
    exact (ih (G_arr (x := 86) (i := (wr32 (20 + v1))) (y := (M 86 v1)) rfl (by decide) hG))
def nlX12_stands_45  : Nat → Int → Mem → Prop
  | 0, v1, M => ((nlX12_stands_74 54 0 M))
  | k + 1, v1, M => (0 ≤ v1 ∧ v1 < 40) ∧ (0 ≤ (wr32 (20 + v1)) ∧ (wr32 (20 + v1)) < 40) ∧ ((nlX12_stands_45 k (v1 + 1) (mset M 86 (wr32 (20 + v1)) (M 86 v1))))
set_option maxRecDepth 100000 in
set_option maxHeartbeats 2000000 in
theorem qX12_stands_45 {E : EV} {h : Int} {Q : Option MV → Mem → Prop}   : ∀ (k : Nat) (v1 : Int) (M : Mem), 0 ≤ v1 → ((20) - v1).toNat = k → (nlX12_stands_45 k v1 M) → Q none (lmX12_stands_45 k v1 M) → G h M → TG E miX12_stands 1 h Q 45 [(2, 66), (0, v1)] [] M := by
  intro k
  induction k with
  | zero =>
    intro v1 M hv0 hk hs hQ hG
    have hQ : Q none (lmX12_stands_74 54 0 M) := hQ
    have hs : ((nlX12_stands_74 54 0 M)) := hs
    have n1 := hs
    refine T_iload_n (i := 1) (pc' := 46) dX12_stands_45 rfl rfl rfl ?_
    refine T_bipush (pc' := 48) dX12_stands_46 rfl (by decide) rfl ?_
    refine T_rng (fun _ z9 _ => ?_)
    have hB : r32 20 := (ok_cons.mp z9).1
    unfold r32 at hB
    refine T_icmp_ge (pc' := 72) dX12_stands_48 (by decide) (pf := 51) rfl (fun c1 => ?_) (fun c1 => ?_)
    · skip
      refine T_iconst (pc' := 73) dX12_stands_72 (by decide) rfl ?_
      refine T_istore_n (i := 1) (L' := [(2, 66), (0, 0)]) (pc' := 74) dX12_stands_73 rfl (by decide) rfl rfl ?_
      exact T_wk (qX12_stands_74  54 0 _ (by first | decide | omega) rfl (n1) hQ hG) ⟨Or.inr rfl, Or.inr rfl, trivial⟩
    · exact absurd c1 (by omega)
  | succ k ih =>
    intro v1 M hv0 hk hs hQ hG
    have hQ : Q none (lmX12_stands_45 k (v1 + 1) (mset M 86 (wr32 (20 + v1)) (M 86 v1))) := hQ
    have hs : (0 ≤ v1 ∧ v1 < 40) ∧ (0 ≤ (wr32 (20 + v1)) ∧ (wr32 (20 + v1)) < 40) ∧ ((nlX12_stands_45 k (v1 + 1) (mset M 86 (wr32 (20 + v1)) (M 86 v1)))) := hs
    obtain ⟨n1, n2, n3⟩ := hs
    refine T_iload_n (i := 1) (pc' := 46) dX12_stands_45 rfl rfl rfl ?_
    refine T_bipush (pc' := 48) dX12_stands_46 rfl (by decide) rfl ?_
    refine T_rng (fun _ z9 _ => ?_)
    have hB : r32 20 := (ok_cons.mp z9).1
    unfold r32 at hB
    refine T_icmp_ge (pc' := 72) dX12_stands_48 (by decide) (pf := 51) rfl (fun c1 => ?_) (fun c1 => ?_)
    · exact absurd c1 (by omega)
    · skip
      have hw : wr32 (v1 + 1) = v1 + 1 := wr32_id (by unfold r32; omega)
      refine T_aload_n (i := 0) (pc' := 52) dX12_stands_51 rfl rfl rfl ?_
      refine U_gr (q := 86) (k := 29) (kI := 29) (pc' := 55) dX12_stands_52 rfl cl12 (by decide) rfl (by decide) flX12_72 rfl rfl rfl (G_at hG 86 rfl) (by decide) rfl ?_
      refine T_bipush (pc' := 57) dX12_stands_55 rfl (by decide) rfl ?_
      refine T_iload_n (i := 1) (pc' := 58) dX12_stands_57 rfl rfl rfl ?_
      refine T_iadd (pc' := 59) dX12_stands_58 rfl ?_
      refine T_aload_n (i := 0) (pc' := 60) dX12_stands_59 rfl rfl rfl ?_
      refine U_gr (q := 86) (k := 29) (kI := 29) (pc' := 63) dX12_stands_60 rfl cl12 (by decide) rfl (by decide) flX12_72 rfl rfl rfl (G_at hG 86 rfl) (by decide) rfl ?_
      refine T_iload_n (i := 1) (pc' := 64) dX12_stands_63 rfl rfl rfl ?_
      refine T_lald (pc' := 65) dX12_stands_64 (by decide) rfl (n1).1 (n1).2 rfl ?_
      refine T_last (pc' := 66) dX12_stands_65 (by decide) rfl (n2).1 (n2).2 rfl ?_
      refine T_iinc (L' := [(2, 66), (0, (wr32 (v1 + 1)))]) (pc' := 69) dX12_stands_66 rfl (by decide) rfl rfl ?_
      refine T_goto (pc' := 45) dX12_stands_69 (by decide) ?_
      rw [hw]
      exact T_wk (ih (v1 + 1) _ (by omega) (by omega) (n3) hQ (G_arr (x := 86) (i := (wr32 (20 + v1))) (y := (M 86 v1)) rfl (by decide) hG)) ⟨Or.inr rfl, Or.inr rfl, trivial⟩
def lmX12_stands_18  : Nat → Int → Mem → Mem
  | 0, v1, M => (lmX12_stands_45 20 0 M)
  | k + 1, v1, M => (lmX12_stands_18 k (v1 + 1) (mset M 85 (wr32 (3 + v1)) (M 85 v1)))
theorem frlX12_stands_18  {q : Int} (hq0 : q ≠ 85) (hq1 : q ≠ 86) (hq2 : q ≠ 87) (hq3 : q ≠ 88) (hq4 : q ≠ 89) (hq5 : q ≠ 90) (hq6 : q ≠ 92) (hq7 : q ≠ 66) (hq8 : q ≠ 91) : ∀ {k : Nat} {v1 : Int} {M : Mem}, (lmX12_stands_18  k v1 M) q = M q := by
  intro k
  induction k with
  | zero =>
    intro v1 M
    show (lmX12_stands_45 20 0 M) q = M q
    exact ((frlX12_stands_45 hq1 hq2 hq3 hq4 hq5 hq6 hq7 hq8).trans rfl)
  | succ k ih =>
    intro v1 M
    show (lmX12_stands_18 k (v1 + 1) (mset M 85 (wr32 (3 + v1)) (M 85 v1))) q = M q
    exact ((ih).trans ((mset_p hq0).trans rfl))
theorem glX12_stands_18 {h : Int}   : ∀ {k : Nat} {v1 : Int} {M : Mem}, G h M → G h (lmX12_stands_18  k v1 M) := by
  intro k
  induction k with
  | zero =>
    intro v1 M hG
    show G h (lmX12_stands_45 20 0 M)
    exact (glX12_stands_45 hG)
  | succ k ih =>
    intro v1 M hG
    show G h (lmX12_stands_18 k (v1 + 1) (mset M 85 (wr32 (3 + v1)) (M 85 v1)))
    exact (ih (G_arr (x := 85) (i := (wr32 (3 + v1))) (y := (M 85 v1)) rfl (by decide) hG))
def nlX12_stands_18  : Nat → Int → Mem → Prop
  | 0, v1, M => ((nlX12_stands_45 20 0 M))
  | k + 1, v1, M => (0 ≤ v1 ∧ v1 < 6) ∧ (0 ≤ (wr32 (3 + v1)) ∧ (wr32 (3 + v1)) < 6) ∧ ((nlX12_stands_18 k (v1 + 1) (mset M 85 (wr32 (3 + v1)) (M 85 v1))))
set_option maxRecDepth 100000 in
set_option maxHeartbeats 2000000 in
theorem qX12_stands_18 {E : EV} {h : Int} {Q : Option MV → Mem → Prop}   : ∀ (k : Nat) (v1 : Int) (M : Mem), 0 ≤ v1 → ((3) - v1).toNat = k → (nlX12_stands_18 k v1 M) → Q none (lmX12_stands_18 k v1 M) → G h M → TG E miX12_stands 1 h Q 18 [(2, 66), (0, v1)] [] M := by
  intro k
  induction k with
  | zero =>
    intro v1 M hv0 hk hs hQ hG
    have hQ : Q none (lmX12_stands_45 20 0 M) := hQ
    have hs : ((nlX12_stands_45 20 0 M)) := hs
    have n1 := hs
    refine T_iload_n (i := 1) (pc' := 19) dX12_stands_18 rfl rfl rfl ?_
    refine T_iconst (pc' := 20) dX12_stands_19 (by decide) rfl ?_
    refine T_rng (fun _ z9 _ => ?_)
    have hB : r32 3 := (ok_cons.mp z9).1
    unfold r32 at hB
    refine T_icmp_ge (pc' := 43) dX12_stands_20 (by decide) (pf := 23) rfl (fun c1 => ?_) (fun c1 => ?_)
    · skip
      refine T_iconst (pc' := 44) dX12_stands_43 (by decide) rfl ?_
      refine T_istore_n (i := 1) (L' := [(2, 66), (0, 0)]) (pc' := 45) dX12_stands_44 rfl (by decide) rfl rfl ?_
      exact T_wk (qX12_stands_45  20 0 _ (by first | decide | omega) rfl (n1) hQ hG) ⟨Or.inr rfl, Or.inr rfl, trivial⟩
    · exact absurd c1 (by omega)
  | succ k ih =>
    intro v1 M hv0 hk hs hQ hG
    have hQ : Q none (lmX12_stands_18 k (v1 + 1) (mset M 85 (wr32 (3 + v1)) (M 85 v1))) := hQ
    have hs : (0 ≤ v1 ∧ v1 < 6) ∧ (0 ≤ (wr32 (3 + v1)) ∧ (wr32 (3 + v1)) < 6) ∧ ((nlX12_stands_18 k (v1 + 1) (mset M 85 (wr32 (3 + v1)) (M 85 v1)))) := hs
    obtain ⟨n1, n2, n3⟩ := hs
    refine T_iload_n (i := 1) (pc' := 19) dX12_stands_18 rfl rfl rfl ?_
    refine T_iconst (pc' := 20) dX12_stands_19 (by decide) rfl ?_
    refine T_rng (fun _ z9 _ => ?_)
    have hB : r32 3 := (ok_cons.mp z9).1
    unfold r32 at hB
    refine T_icmp_ge (pc' := 43) dX12_stands_20 (by decide) (pf := 23) rfl (fun c1 => ?_) (fun c1 => ?_)
    · exact absurd c1 (by omega)
    · skip
      have hw : wr32 (v1 + 1) = v1 + 1 := wr32_id (by unfold r32; omega)
      refine T_aload_n (i := 0) (pc' := 24) dX12_stands_23 rfl rfl rfl ?_
      refine U_gr (q := 85) (k := 28) (kI := 28) (pc' := 27) dX12_stands_24 rfl cl12 (by decide) rfl (by decide) flX12_69 rfl rfl rfl (G_at hG 85 rfl) (by decide) rfl ?_
      refine T_iconst (pc' := 28) dX12_stands_27 (by decide) rfl ?_
      refine T_iload_n (i := 1) (pc' := 29) dX12_stands_28 rfl rfl rfl ?_
      refine T_iadd (pc' := 30) dX12_stands_29 rfl ?_
      refine T_aload_n (i := 0) (pc' := 31) dX12_stands_30 rfl rfl rfl ?_
      refine U_gr (q := 85) (k := 28) (kI := 28) (pc' := 34) dX12_stands_31 rfl cl12 (by decide) rfl (by decide) flX12_69 rfl rfl rfl (G_at hG 85 rfl) (by decide) rfl ?_
      refine T_iload_n (i := 1) (pc' := 35) dX12_stands_34 rfl rfl rfl ?_
      refine T_iald (pc' := 36) dX12_stands_35 (by decide) rfl (n1).1 (n1).2 rfl ?_
      refine T_iast (pc' := 37) dX12_stands_36 (by decide) rfl (n2).1 (n2).2 rfl ?_
      refine T_iinc (L' := [(2, 66), (0, (wr32 (v1 + 1)))]) (pc' := 40) dX12_stands_37 rfl (by decide) rfl rfl ?_
      refine T_goto (pc' := 18) dX12_stands_40 (by decide) ?_
      rw [hw]
      exact T_wk (ih (v1 + 1) _ (by omega) (by omega) (n3) hQ (G_arr (x := 85) (i := (wr32 (3 + v1))) (y := (M 85 v1)) rfl (by decide) hG)) ⟨Or.inr rfl, Or.inr rfl, trivial⟩
def fmX12_stands (M : Mem) : Mem :=
  (lmX12_stands_18 3 0 (mset (mset M 66 38 (M 66 35)) 66 39 ((mset M 66 38 (M 66 35)) 66 36)))
def nX12_stands (M : Mem) : Prop :=
  ((nlX12_stands_18 3 0 (mset (mset M 66 38 (M 66 35)) 66 39 ((mset M 66 38 (M 66 35)) 66 36))))
theorem frX12_stands {M : Mem} {q : Int} (hq0 : q ≠ 66) (hq1 : q ≠ 85) (hq2 : q ≠ 86) (hq3 : q ≠ 87) (hq4 : q ≠ 88) (hq5 : q ≠ 89) (hq6 : q ≠ 90) (hq7 : q ≠ 92) (hq8 : q ≠ 91) : (fmX12_stands M) q = M q := by
  unfold fmX12_stands
  exact ((frlX12_stands_18 hq1 hq2 hq3 hq4 hq5 hq6 hq7 hq0 hq8).trans ((mset_p hq0).trans ((mset_p hq0).trans rfl)))
theorem gX12_stands {h : Int} {M : Mem}   (hG : G h M) : G h (fmX12_stands M) := by
  unfold fmX12_stands
  exact (glX12_stands_18 (G_fld (x := 66) (i := 39) (y := ((mset M 66 38 (M 66 35)) 66 36)) rfl (by decide) (by decide) (by decide) (G_fld (x := 66) (i := 38) (y := (M 66 35)) rfl (by decide) (by decide) (by decide) hG)))
set_option maxRecDepth 100000 in
theorem pX12_stands {E : EV} {h : Int} {M : Mem}  (hs : (nX12_stands M)) : C2 E miX12_stands 1 h [(2, 66)] M (fun r M' => r = none ∧ M' = (fmX12_stands M)) := by
  obtain ⟨Q, hQ0⟩ : ∃ Q : Option MV → Mem → Prop, Q = (fun r M' => r = none ∧ M' = (fmX12_stands M)) := ⟨_, rfl⟩
  rw [← hQ0]
  have hQ : Q none (lmX12_stands_18 3 0 (mset (mset M 66 38 (M 66 35)) 66 39 ((mset M 66 38 (M 66 35)) 66 36))) := by rw [hQ0]; exact ⟨rfl, rfl⟩
  have o1 := hs
  refine C2_of (L := [(2, 66), (3, 0)]) (by decide +kernel) (Nat.le_of_ble_eq_true rfl) rfl (fun hG => ?_)
  refine T_aload_n (i := 0) (pc' := 1) dX12_stands_0 rfl rfl rfl ?_
  refine T_aload_n (i := 0) (pc' := 2) dX12_stands_1 rfl rfl rfl ?_
  refine U_gf (v := (0, (M 66 35))) (k := 35) (kI := 35) (pc' := 5) dX12_stands_2 rfl cl12 (by decide) rfl (by decide) flX12_267 rfl rfl (by decide) rfl rfl ?_
  refine U_pf (y := (M 66 35)) (k := 38) (kI := 38) (pc' := 8) dX12_stands_5 rfl cl12 (by decide) rfl (by decide) flX12_334 rfl rfl rfl rfl rfl (by decide) (fun z => z) rfl ?_
  refine T_aload_n (i := 0) (pc' := 9) dX12_stands_8 rfl rfl rfl ?_
  refine T_aload_n (i := 0) (pc' := 10) dX12_stands_9 rfl rfl rfl ?_
  refine U_gf (v := (0, ((mset M 66 38 (M 66 35)) 66 36))) (k := 36) (kI := 36) (pc' := 13) dX12_stands_10 rfl cl12 (by decide) rfl (by decide) flX12_270 rfl rfl (by decide) rfl rfl ?_
  refine U_pf (y := ((mset M 66 38 (M 66 35)) 66 36)) (k := 39) (kI := 39) (pc' := 16) dX12_stands_13 rfl cl12 (by decide) rfl (by decide) flX12_337 rfl rfl rfl rfl rfl (by decide) (fun z => z) rfl ?_
  refine T_iconst (pc' := 17) dX12_stands_16 (by decide) rfl ?_
  refine T_istore_n (i := 1) (L' := [(2, 66), (0, 0)]) (pc' := 18) dX12_stands_17 rfl (by decide) rfl rfl ?_
  exact T_wk (qX12_stands_18  3 0 _ (by first | decide | omega) rfl (o1) hQ (G_fld (x := 66) (i := 39) (y := ((mset M 66 38 (M 66 35)) 66 36)) rfl (by decide) (by decide) (by decide) (G_fld (x := 66) (i := 38) (y := (M 66 35)) rfl (by decide) (by decide) (by decide) hG))) ⟨Or.inr rfl, Or.inr rfl, trivial⟩
def fX12_fault (M : Mem) (v1 : Int) : Int :=
  (if v1 = 0 then (M 66 7) else (if v1 = 1 then (M 66 8) else (-1)))
set_option maxRecDepth 100000 in
theorem pX12_fault {E : EV} {h : Int} {M : Mem} {v1 : Int}  : C2 E miX12_fault 1 h [(2, 66), (0, v1)] M (fun r M' => r = some (0, (fX12_fault M v1)) ∧ M' = M) := by
  obtain ⟨Q, hQ⟩ : ∃ Q : Option MV → Mem → Prop, Q = (fun r M' => r = some (0, (fX12_fault M v1)) ∧ M' = M) := ⟨_, rfl⟩
  rw [← hQ]
  refine C2_of (L := [(2, 66), (0, v1)]) (by decide +kernel) (Nat.le_of_ble_eq_true rfl) rfl (fun hG => ?_)
  refine T_iload_n (i := 1) (pc' := 1) dX12_fault_0 rfl rfl rfl ?_
  have HJ1 : T E miX12_fault 1 126 0 0 (fun r S M' => S = S0 ∧ G h M' ∧ Q r M') 24 [(3, 0), (3, 0)] [(0, (if v1 = 0 then (M 66 7) else (if v1 = 1 then (M 66 8) else (-1))))] S0 M 0 0 := by
    exact T_iret dX12_fault_24 rfl ⟨rfl, hG, (by rw [hQ]; exact ⟨rfl, rfl⟩)⟩
  refine T_if_ne (pc' := 11) dX12_fault_1 (by decide) (pf := 4) rfl (fun c2 => ?_) (fun c2 => ?_)
  · skip
    refine T_iload_n (i := 1) (pc' := 12) dX12_fault_11 rfl rfl rfl ?_
    refine T_iconst (pc' := 13) dX12_fault_12 (by decide) rfl ?_
    refine T_icmp_ne (pc' := 23) dX12_fault_13 (by decide) (pf := 16) rfl (fun c3 => ?_) (fun c3 => ?_)
    · skip
      refine T_iconst (pc' := 24) dX12_fault_23 (by decide) rfl ?_
      exact T_wk (L' := [(3, 0), (3, 0)]) (by have q := HJ1; try simp only [if_neg c2] at q; try simp only [if_neg c3] at q; exact q) ⟨Or.inl rfl, Or.inl rfl, trivial⟩
    · skip
      refine T_aload_n (i := 0) (pc' := 17) dX12_fault_16 rfl rfl rfl ?_
      refine U_gf (v := (0, (M 66 8))) (k := 8) (kI := 8) (pc' := 20) dX12_fault_17 rfl cl12 (by decide) rfl (by decide) flX12_13 rfl rfl (by decide) rfl rfl ?_
      refine T_goto (pc' := 24) dX12_fault_20 (by decide) ?_
      exact T_wk (L' := [(3, 0), (3, 0)]) (by have q := HJ1; try simp only [if_neg c2] at q; try simp only [if_pos c3] at q; exact q) ⟨Or.inl rfl, Or.inl rfl, trivial⟩
  · skip
    refine T_aload_n (i := 0) (pc' := 5) dX12_fault_4 rfl rfl rfl ?_
    refine U_gf (v := (0, (M 66 7))) (k := 7) (kI := 7) (pc' := 8) dX12_fault_5 rfl cl12 (by decide) rfl (by decide) flX12_328 rfl rfl (by decide) rfl rfl ?_
    refine T_goto (pc' := 24) dX12_fault_8 (by decide) ?_
    exact T_wk (L' := [(3, 0), (3, 0)]) (by have q := HJ1; try simp only [if_pos c2] at q; exact q) ⟨Or.inl rfl, Or.inl rfl, trivial⟩
def fX12_cells (M : Mem) : Int :=
  (wr32 ((M 66 38) * (M 66 39)))
set_option maxRecDepth 100000 in
theorem pX12_cells {E : EV} {h : Int} {M : Mem}   : C2 E miX12_cells 1 h [(2, 66)] M (fun r M' => r = some (0, (fX12_cells M)) ∧ M' = M) := by
  obtain ⟨Q, hQ⟩ : ∃ Q : Option MV → Mem → Prop, Q = (fun r M' => r = some (0, (fX12_cells M)) ∧ M' = M) := ⟨_, rfl⟩
  rw [← hQ]
  refine C2_of (L := [(2, 66)]) (by decide +kernel) (Nat.le_of_ble_eq_true rfl) rfl (fun hG => ?_)
  refine T_aload_n (i := 0) (pc' := 1) dX12_cells_0 rfl rfl rfl ?_
  refine U_gf (v := (0, (M 66 38))) (k := 38) (kI := 38) (pc' := 4) dX12_cells_1 rfl cl12 (by decide) rfl (by decide) flX12_334 rfl rfl (by decide) rfl rfl ?_
  refine T_aload_n (i := 0) (pc' := 5) dX12_cells_4 rfl rfl rfl ?_
  refine U_gf (v := (0, (M 66 39))) (k := 39) (kI := 39) (pc' := 8) dX12_cells_5 rfl cl12 (by decide) rfl (by decide) flX12_337 rfl rfl (by decide) rfl rfl ?_
  refine T_imul (pc' := 9) dX12_cells_8 rfl ?_
  exact T_iret dX12_cells_9 rfl ⟨rfl, hG, (by rw [hQ]; exact ⟨rfl, rfl⟩)⟩
def fX12_isCell (M : Mem) (v1 : Int) : Int :=
  (fX12_isIn v1 0 (wr32 ((fX12_cells M) - 1)))
set_option maxRecDepth 100000 in
theorem pX12_isCell {E : EV} {h : Int} {M : Mem} {v1 : Int}  : C2 E miX12_isCell 2 h [(2, 66), (0, v1)] M (fun r M' => r = some (0, (fX12_isCell M v1)) ∧ M' = M) := by
  obtain ⟨Q, hQ⟩ : ∃ Q : Option MV → Mem → Prop, Q = (fun r M' => r = some (0, (fX12_isCell M v1)) ∧ M' = M) := ⟨_, rfl⟩
  rw [← hQ]
  refine C2_of (L := [(2, 66), (0, v1)]) (by decide +kernel) (Nat.le_of_ble_eq_true rfl) rfl (fun hG => ?_)
  refine T_iload_n (i := 1) (pc' := 1) dX12_isCell_0 rfl rfl rfl ?_
  refine T_i2l (pc' := 2) dX12_isCell_1 rfl ?_
  refine T_lconst (v := 0) (pc' := 3) dX12_isCell_2 rfl (by decide) rfl ?_
  refine T_aload_n (i := 0) (pc' := 4) dX12_isCell_3 rfl rfl rfl ?_
  refine T_callV (av := []) (st := [(1, 0), (1, v1)]) (d2 := 1) (nc2 := 0) (ns2 := 0) (pc' := 7) dX12_isCell_4 rfl mtX12_cells mvX12_cells mlX12_346 cl12 rfl rfl rfl (Nat.le_of_ble_eq_true rfl) (by decide) ⟨by decide, by decide⟩ rfl (pX12_cells (E := E) (h := h) (M := M) hG) (kF (st2 := [(0, (fX12_cells M)), (1, 0), (1, v1)]) rfl (fun hG1 => ?_))
  refine T_iconst (pc' := 8) dX12_isCell_7 (by decide) rfl ?_
  refine T_isub (pc' := 9) dX12_isCell_8 rfl ?_
  refine T_i2l (pc' := 10) dX12_isCell_9 rfl ?_
  refine T_callS (av := [(1, v1), (1, 0), (1, (wr32 ((fX12_cells M) - 1)))]) (st := []) (d2 := 1) (nc2 := 0) (ns2 := 0) (pc' := 13) dX12_isCell_10 rfl mtX12_isIn mvX12_isIn mlX12_244 rfl rfl (Nat.le_of_ble_eq_true rfl) (by decide) ⟨by decide, by decide⟩ rfl (pX12_isIn (E := E) (h := h) (M := M) (v0 := v1) (v2 := 0) (v4 := (wr32 ((fX12_cells M) - 1))) hG) (kF (st2 := [(0, (fX12_isIn v1 0 (wr32 ((fX12_cells M) - 1))))]) rfl (fun hG2 => ?_))
  exact T_zret dX12_isCell_13 rfl (by repeat' (first | apply bi | exact Or.inl rfl | exact Or.inr rfl | apply fbX12_isIn)) ⟨rfl, hG, (by rw [hQ]; exact ⟨rfl, rfl⟩)⟩
theorem fbX12_isCell (M : Mem) (v1 : Int) : (fX12_isCell M v1) = 0 ∨ (fX12_isCell M v1) = 1 := by
  unfold fX12_isCell
  repeat' (first | apply bi | exact Or.inl rfl | exact Or.inr rfl | apply fbX12_isIn)
def fX12_peopleMany (M : Mem) : Int :=
  (M 85 3)
set_option maxRecDepth 100000 in
theorem pX12_peopleMany {E : EV} {h : Int} {M : Mem}   : C2 E miX12_peopleMany 1 h [(2, 66)] M (fun r M' => r = some (0, (fX12_peopleMany M)) ∧ M' = M) := by
  obtain ⟨Q, hQ⟩ : ∃ Q : Option MV → Mem → Prop, Q = (fun r M' => r = some (0, (fX12_peopleMany M)) ∧ M' = M) := ⟨_, rfl⟩
  rw [← hQ]
  refine C2_of (L := [(2, 66)]) (by decide +kernel) (Nat.le_of_ble_eq_true rfl) rfl (fun hG => ?_)
  refine T_aload_n (i := 0) (pc' := 1) dX12_peopleMany_0 rfl rfl rfl ?_
  refine U_gr (q := 85) (k := 28) (kI := 28) (pc' := 4) dX12_peopleMany_1 rfl cl12 (by decide) rfl (by decide) flX12_69 rfl rfl rfl (G_at hG 85 rfl) (by decide) rfl ?_
  refine T_iconst (pc' := 5) dX12_peopleMany_4 (by decide) rfl ?_
  refine T_iald (pc' := 6) dX12_peopleMany_5 (by decide) rfl (by decide) (by decide) rfl ?_
  exact T_iret dX12_peopleMany_6 rfl ⟨rfl, hG, (by rw [hQ]; exact ⟨rfl, rfl⟩)⟩
def fX12_guardMany (M : Mem) : Int :=
  (M 85 4)
set_option maxRecDepth 100000 in
theorem pX12_guardMany {E : EV} {h : Int} {M : Mem}   : C2 E miX12_guardMany 1 h [(2, 66)] M (fun r M' => r = some (0, (fX12_guardMany M)) ∧ M' = M) := by
  obtain ⟨Q, hQ⟩ : ∃ Q : Option MV → Mem → Prop, Q = (fun r M' => r = some (0, (fX12_guardMany M)) ∧ M' = M) := ⟨_, rfl⟩
  rw [← hQ]
  refine C2_of (L := [(2, 66)]) (by decide +kernel) (Nat.le_of_ble_eq_true rfl) rfl (fun hG => ?_)
  refine T_aload_n (i := 0) (pc' := 1) dX12_guardMany_0 rfl rfl rfl ?_
  refine U_gr (q := 85) (k := 28) (kI := 28) (pc' := 4) dX12_guardMany_1 rfl cl12 (by decide) rfl (by decide) flX12_69 rfl rfl rfl (G_at hG 85 rfl) (by decide) rfl ?_
  refine T_iconst (pc' := 5) dX12_guardMany_4 (by decide) rfl ?_
  refine T_iald (pc' := 6) dX12_guardMany_5 (by decide) rfl (by decide) (by decide) rfl ?_
  exact T_iret dX12_guardMany_6 rfl ⟨rfl, hG, (by rw [hQ]; exact ⟨rfl, rfl⟩)⟩
def fX12_doorMany (M : Mem) : Int :=
  (M 85 5)
set_option maxRecDepth 100000 in
theorem pX12_doorMany {E : EV} {h : Int} {M : Mem}   : C2 E miX12_doorMany 1 h [(2, 66)] M (fun r M' => r = some (0, (fX12_doorMany M)) ∧ M' = M) := by
  obtain ⟨Q, hQ⟩ : ∃ Q : Option MV → Mem → Prop, Q = (fun r M' => r = some (0, (fX12_doorMany M)) ∧ M' = M) := ⟨_, rfl⟩
  rw [← hQ]
  refine C2_of (L := [(2, 66)]) (by decide +kernel) (Nat.le_of_ble_eq_true rfl) rfl (fun hG => ?_)
  refine T_aload_n (i := 0) (pc' := 1) dX12_doorMany_0 rfl rfl rfl ?_
  refine U_gr (q := 85) (k := 28) (kI := 28) (pc' := 4) dX12_doorMany_1 rfl cl12 (by decide) rfl (by decide) flX12_69 rfl rfl rfl (G_at hG 85 rfl) (by decide) rfl ?_
  refine T_iconst (pc' := 5) dX12_doorMany_4 (by decide) rfl ?_
  refine T_iald (pc' := 6) dX12_doorMany_5 (by decide) rfl (by decide) (by decide) rfl ?_
  exact T_iret dX12_doorMany_6 rfl ⟨rfl, hG, (by rw [hQ]; exact ⟨rfl, rfl⟩)⟩
def fX12_isPerson (M : Mem) (v1 : Int) : Int :=
  (fX12_isIn v1 0 (wr32 ((fX12_peopleMany M) - 1)))
set_option maxRecDepth 100000 in
theorem pX12_isPerson {E : EV} {h : Int} {M : Mem} {v1 : Int}  : C2 E miX12_isPerson 2 h [(2, 66), (0, v1)] M (fun r M' => r = some (0, (fX12_isPerson M v1)) ∧ M' = M) := by
  obtain ⟨Q, hQ⟩ : ∃ Q : Option MV → Mem → Prop, Q = (fun r M' => r = some (0, (fX12_isPerson M v1)) ∧ M' = M) := ⟨_, rfl⟩
  rw [← hQ]
  refine C2_of (L := [(2, 66), (0, v1)]) (by decide +kernel) (Nat.le_of_ble_eq_true rfl) rfl (fun hG => ?_)
  refine T_iload_n (i := 1) (pc' := 1) dX12_isPerson_0 rfl rfl rfl ?_
  refine T_i2l (pc' := 2) dX12_isPerson_1 rfl ?_
  refine T_lconst (v := 0) (pc' := 3) dX12_isPerson_2 rfl (by decide) rfl ?_
  refine T_aload_n (i := 0) (pc' := 4) dX12_isPerson_3 rfl rfl rfl ?_
  refine T_callV (av := []) (st := [(1, 0), (1, v1)]) (d2 := 1) (nc2 := 0) (ns2 := 0) (pc' := 7) dX12_isPerson_4 rfl mtX12_peopleMany mvX12_peopleMany mlX12_349 cl12 rfl rfl rfl (Nat.le_of_ble_eq_true rfl) (by decide) ⟨by decide, by decide⟩ rfl (pX12_peopleMany (E := E) (h := h) (M := M) hG) (kF (st2 := [(0, (fX12_peopleMany M)), (1, 0), (1, v1)]) rfl (fun hG1 => ?_))
  refine T_iconst (pc' := 8) dX12_isPerson_7 (by decide) rfl ?_
  refine T_isub (pc' := 9) dX12_isPerson_8 rfl ?_
  refine T_i2l (pc' := 10) dX12_isPerson_9 rfl ?_
  refine T_callS (av := [(1, v1), (1, 0), (1, (wr32 ((fX12_peopleMany M) - 1)))]) (st := []) (d2 := 1) (nc2 := 0) (ns2 := 0) (pc' := 13) dX12_isPerson_10 rfl mtX12_isIn mvX12_isIn mlX12_244 rfl rfl (Nat.le_of_ble_eq_true rfl) (by decide) ⟨by decide, by decide⟩ rfl (pX12_isIn (E := E) (h := h) (M := M) (v0 := v1) (v2 := 0) (v4 := (wr32 ((fX12_peopleMany M) - 1))) hG) (kF (st2 := [(0, (fX12_isIn v1 0 (wr32 ((fX12_peopleMany M) - 1))))]) rfl (fun hG2 => ?_))
  exact T_zret dX12_isPerson_13 rfl (by repeat' (first | apply bi | exact Or.inl rfl | exact Or.inr rfl | apply fbX12_isIn)) ⟨rfl, hG, (by rw [hQ]; exact ⟨rfl, rfl⟩)⟩
theorem fbX12_isPerson (M : Mem) (v1 : Int) : (fX12_isPerson M v1) = 0 ∨ (fX12_isPerson M v1) = 1 := by
  unfold fX12_isPerson
  repeat' (first | apply bi | exact Or.inl rfl | exact Or.inr rfl | apply fbX12_isIn)
def fX12_isComing (M : Mem) (v1 : Int) : Int :=
  (if (fX12_isPerson M v1) = 0 then (0 : Int) else (if (m_and (m_shr (M 66 42) v1) 1) = 1 then (1 : Int) else 0))
set_option maxRecDepth 100000 in
theorem pX12_isComing {E : EV} {h : Int} {M : Mem} {v1 : Int}  : C2 E miX12_isComing 3 h [(2, 66), (0, v1)] M (fun r M' => r = some (0, (fX12_isComing M v1)) ∧ M' = M) := by
  obtain ⟨Q, hQ⟩ : ∃ Q : Option MV → Mem → Prop, Q = (fun r M' => r = some (0, (fX12_isComing M v1)) ∧ M' = M) := ⟨_, rfl⟩
  rw [← hQ]
  refine C2_of (L := [(2, 66), (0, v1)]) (by decide +kernel) (Nat.le_of_ble_eq_true rfl) rfl (fun hG => ?_)
  refine T_aload_n (i := 0) (pc' := 1) dX12_isComing_0 rfl rfl rfl ?_
  refine T_iload_n (i := 1) (pc' := 2) dX12_isComing_1 rfl rfl rfl ?_
  refine T_callV (av := [(0, v1)]) (st := []) (d2 := 2) (nc2 := 0) (ns2 := 0) (pc' := 5) dX12_isComing_2 rfl mtX12_isPerson mvX12_isPerson mlX12_352 cl12 rfl rfl rfl (Nat.le_of_ble_eq_true rfl) (by decide) ⟨by decide, by decide⟩ rfl (pX12_isPerson (E := E) (h := h) (M := M) (v1 := v1) hG) (kF (st2 := [(0, (fX12_isPerson M v1))]) rfl (fun hG1 => ?_))
  have HJ2 : T E miX12_isComing 3 126 0 0 (fun r S M' => S = S0 ∧ G h M' ∧ Q r M') 25 [(3, 0), (3, 0)] [(0, (if (fX12_isPerson M v1) = 0 then (0 : Int) else (if (m_and (m_shr (M 66 42) v1) 1) = 1 then (1 : Int) else 0)))] S0 M 0 0 := by
    exact T_zret dX12_isComing_25 rfl (by repeat' (first | apply bi | exact Or.inl rfl | exact Or.inr rfl | apply fbX12_isPerson)) ⟨rfl, hG, (by rw [hQ]; exact ⟨rfl, rfl⟩)⟩
  refine T_if_eq (pc' := 24) dX12_isComing_5 (by decide) (pf := 8) rfl (fun c3 => ?_) (fun c3 => ?_)
  · skip
    refine T_iconst (pc' := 25) dX12_isComing_24 (by decide) rfl ?_
    exact T_wk (L' := [(3, 0), (3, 0)]) (by have q := HJ2; try simp only [if_pos c3] at q; exact q) ⟨Or.inl rfl, Or.inl rfl, trivial⟩
  · skip
    refine T_aload_n (i := 0) (pc' := 9) dX12_isComing_8 rfl rfl rfl ?_
    refine U_gf (v := (0, (M 66 42))) (k := 42) (kI := 42) (pc' := 12) dX12_isComing_9 rfl cl12 (by decide) rfl (by decide) flX12_340 rfl rfl (by decide) rfl rfl ?_
    refine T_iload_n (i := 1) (pc' := 13) dX12_isComing_12 rfl rfl rfl ?_
    refine T_ishr (pc' := 14) dX12_isComing_13 rfl ?_
    refine T_iconst (pc' := 15) dX12_isComing_14 (by decide) rfl ?_
    refine T_iand (pc' := 16) dX12_isComing_15 rfl ?_
    refine T_iconst (pc' := 17) dX12_isComing_16 (by decide) rfl ?_
    refine T_icmp_ne (pc' := 24) dX12_isComing_17 (by decide) (pf := 20) rfl (fun c4 => ?_) (fun c4 => ?_)
    · skip
      refine T_iconst (pc' := 25) dX12_isComing_24 (by decide) rfl ?_
      exact T_wk (L' := [(3, 0), (3, 0)]) (by have q := HJ2; try simp only [if_neg c3] at q; try simp only [if_neg c4] at q; exact q) ⟨Or.inl rfl, Or.inl rfl, trivial⟩
    · skip
      refine T_iconst (pc' := 21) dX12_isComing_20 (by decide) rfl ?_
      refine T_goto (pc' := 25) dX12_isComing_21 (by decide) ?_
      exact T_wk (L' := [(3, 0), (3, 0)]) (by have q := HJ2; try simp only [if_neg c3] at q; try simp only [if_pos c4] at q; exact q) ⟨Or.inl rfl, Or.inl rfl, trivial⟩
theorem fbX12_isComing (M : Mem) (v1 : Int) : (fX12_isComing M v1) = 0 ∨ (fX12_isComing M v1) = 1 := by
  unfold fX12_isComing
  repeat' (first | apply bi | exact Or.inl rfl | exact Or.inr rfl | apply fbX12_isPerson)
def fX12_personOf (M : Mem) (v1 : Int) (v2 : Int) : Int :=
  (M 88 (wr32 ((wr32 (162 + (wr32 (18 * v1)))) + v2)))
def nX12_personOf (v1 : Int) (v2 : Int) : Prop :=
  (0 ≤ (wr32 ((wr32 (162 + (wr32 (18 * v1)))) + v2)) ∧ (wr32 ((wr32 (162 + (wr32 (18 * v1)))) + v2)) < 324)
set_option maxRecDepth 100000 in
theorem pX12_personOf {E : EV} {h : Int} {M : Mem} {v1 : Int} {v2 : Int} (hs : (nX12_personOf v1 v2)) : C2 E miX12_personOf 1 h [(2, 66), (0, v1), (0, v2)] M (fun r M' => r = some (0, (fX12_personOf M v1 v2)) ∧ M' = M) := by
  obtain ⟨Q, hQ⟩ : ∃ Q : Option MV → Mem → Prop, Q = (fun r M' => r = some (0, (fX12_personOf M v1 v2)) ∧ M' = M) := ⟨_, rfl⟩
  rw [← hQ]
  have o1 := hs
  refine C2_of (L := [(2, 66), (0, v1), (0, v2)]) (by decide +kernel) (Nat.le_of_ble_eq_true rfl) rfl (fun hG => ?_)
  refine T_aload_n (i := 0) (pc' := 1) dX12_personOf_0 rfl rfl rfl ?_
  refine U_gr (q := 88) (k := 31) (kI := 31) (pc' := 4) dX12_personOf_1 rfl cl12 (by decide) rfl (by decide) flX12_80 rfl rfl rfl (G_at hG 88 rfl) (by decide) rfl ?_
  refine T_sipush (pc' := 7) dX12_personOf_4 rfl (by decide) rfl ?_
  refine T_bipush (pc' := 9) dX12_personOf_7 rfl (by decide) rfl ?_
  refine T_iload_n (i := 1) (pc' := 10) dX12_personOf_9 rfl rfl rfl ?_
  refine T_imul (pc' := 11) dX12_personOf_10 rfl ?_
  refine T_iadd (pc' := 12) dX12_personOf_11 rfl ?_
  refine T_iload_n (i := 2) (pc' := 13) dX12_personOf_12 rfl rfl rfl ?_
  refine T_iadd (pc' := 14) dX12_personOf_13 rfl ?_
  refine T_iald (pc' := 15) dX12_personOf_14 (by decide) rfl (o1).1 (o1).2 rfl ?_
  exact T_iret dX12_personOf_15 rfl ⟨rfl, hG, (by rw [hQ]; exact ⟨rfl, rfl⟩)⟩
def fmX12_makes (M : Mem) (v1 : Int) (v2 : Int) (v3 : Int) : Mem :=
  (mset M 88 (wr32 ((wr32 (162 + (wr32 (18 * v1)))) + v2)) v3)
def nX12_makes (v1 : Int) (v2 : Int) : Prop :=
  (0 ≤ (wr32 ((wr32 (162 + (wr32 (18 * v1)))) + v2)) ∧ (wr32 ((wr32 (162 + (wr32 (18 * v1)))) + v2)) < 324)
theorem gX12_makes {h : Int} {M : Mem} {v1 : Int} {v2 : Int} {v3 : Int}  (hG : G h M) : G h (fmX12_makes M v1 v2 v3) := by
  unfold fmX12_makes
  exact (G_arr (x := 88) (i := (wr32 ((wr32 (162 + (wr32 (18 * v1)))) + v2))) (y := v3) rfl (by decide) hG)
set_option maxRecDepth 100000 in
theorem pX12_makes {E : EV} {h : Int} {M : Mem} {v1 : Int} {v2 : Int} {v3 : Int} (hs : (nX12_makes v1 v2)) : C2 E miX12_makes 1 h [(2, 66), (0, v1), (0, v2), (0, v3)] M (fun r M' => r = none ∧ M' = (fmX12_makes M v1 v2 v3)) := by
  obtain ⟨Q, hQ⟩ : ∃ Q : Option MV → Mem → Prop, Q = (fun r M' => r = none ∧ M' = (fmX12_makes M v1 v2 v3)) := ⟨_, rfl⟩
  rw [← hQ]
  have o1 := hs
  refine C2_of (L := [(2, 66), (0, v1), (0, v2), (0, v3)]) (by decide +kernel) (Nat.le_of_ble_eq_true rfl) rfl (fun hG => ?_)
  refine T_aload_n (i := 0) (pc' := 1) dX12_makes_0 rfl rfl rfl ?_
  refine U_gr (q := 88) (k := 31) (kI := 31) (pc' := 4) dX12_makes_1 rfl cl12 (by decide) rfl (by decide) flX12_80 rfl rfl rfl (G_at hG 88 rfl) (by decide) rfl ?_
  refine T_sipush (pc' := 7) dX12_makes_4 rfl (by decide) rfl ?_
  refine T_bipush (pc' := 9) dX12_makes_7 rfl (by decide) rfl ?_
  refine T_iload_n (i := 1) (pc' := 10) dX12_makes_9 rfl rfl rfl ?_
  refine T_imul (pc' := 11) dX12_makes_10 rfl ?_
  refine T_iadd (pc' := 12) dX12_makes_11 rfl ?_
  refine T_iload_n (i := 2) (pc' := 13) dX12_makes_12 rfl rfl rfl ?_
  refine T_iadd (pc' := 14) dX12_makes_13 rfl ?_
  refine T_iload_n (i := 3) (pc' := 15) dX12_makes_14 rfl rfl rfl ?_
  refine T_iast (pc' := 16) dX12_makes_15 (by decide) rfl (o1).1 (o1).2 rfl ?_
  exact T_vret dX12_makes_16 rfl ⟨rfl, (G_arr (x := 88) (i := (wr32 ((wr32 (162 + (wr32 (18 * v1)))) + v2))) (y := v3) rfl (by decide) hG), (by rw [hQ]; exact ⟨rfl, rfl⟩)⟩
theorem frX12_makes {M : Mem} {v1 : Int} {v2 : Int} {v3 : Int} {q : Int} (hq0 : q ≠ 88) : (fmX12_makes M v1 v2 v3) q = M q := by
  unfold fmX12_makes
  exact ((mset_p hq0).trans rfl)
def fX12_isWallNow (M : Mem) (v1 : Int) : Int :=
  (M 87 (wr32 (54 + v1)))
def nX12_isWallNow (v1 : Int) : Prop :=
  (0 ≤ (wr32 (54 + v1)) ∧ (wr32 (54 + v1)) < 108)
set_option maxRecDepth 100000 in
theorem pX12_isWallNow {E : EV} {h : Int} {M : Mem} {v1 : Int} (hs : (nX12_isWallNow v1)) : C2 E miX12_isWallNow 1 h [(2, 66), (0, v1)] M (fun r M' => r = some (0, (fX12_isWallNow M v1)) ∧ M' = M) := by
  obtain ⟨Q, hQ⟩ : ∃ Q : Option MV → Mem → Prop, Q = (fun r M' => r = some (0, (fX12_isWallNow M v1)) ∧ M' = M) := ⟨_, rfl⟩
  rw [← hQ]
  have o1 := hs
  refine C2_of (L := [(2, 66), (0, v1)]) (by decide +kernel) (Nat.le_of_ble_eq_true rfl) rfl (fun hG => ?_)
  refine T_aload_n (i := 0) (pc' := 1) dX12_isWallNow_0 rfl rfl rfl ?_
  refine U_gr (q := 87) (k := 30) (kI := 30) (pc' := 4) dX12_isWallNow_1 rfl cl12 (by decide) rfl (by decide) flX12_76 rfl rfl rfl (G_at hG 87 rfl) (by decide) rfl ?_
  refine T_bipush (pc' := 6) dX12_isWallNow_4 rfl (by decide) rfl ?_
  refine T_iload_n (i := 1) (pc' := 7) dX12_isWallNow_6 rfl rfl rfl ?_
  refine T_iadd (pc' := 8) dX12_isWallNow_7 rfl ?_
  refine T_zald (pc' := 9) dX12_isWallNow_8 (by decide) rfl (o1).1 (o1).2 rfl ?_
  refine T_zrng (x := 87) (i := (wr32 (54 + v1))) (n := 108) rfl (by decide) (o1).1 (fun zb1 => ?_)
  exact T_zret dX12_isWallNow_9 rfl (by repeat' (first | apply bi | exact Or.inl rfl | exact Or.inr rfl | exact zb1)) ⟨rfl, hG, (by rw [hQ]; exact ⟨rfl, rfl⟩)⟩
def fX12_stepped (M : Mem) (v1 : Int) (v2 : Int) : Int :=
  (if (fX12_isIn (wr32 ((Int.tmod v1 (M 66 38)) + (if v2 = 1 then (1 : Int) else (if v2 = 3 then ((-1) : Int) else 0)))) 0 (wr32 ((M 66 38) - 1))) = 0 then v1 else (if (fX12_isIn (wr32 ((wr32 (Int.tdiv v1 (M 66 38))) + (if v2 = 2 then (1 : Int) else (if v2 = 0 then ((-1) : Int) else 0)))) 0 (wr32 ((M 66 39) - 1))) = 0 then v1 else (if (fX12_isWallNow M (wr32 ((wr32 ((M 66 38) * (wr32 ((wr32 (Int.tdiv v1 (M 66 38))) + (if v2 = 2 then (1 : Int) else (if v2 = 0 then ((-1) : Int) else 0)))))) + (wr32 ((Int.tmod v1 (M 66 38)) + (if v2 = 1 then (1 : Int) else (if v2 = 3 then ((-1) : Int) else 0))))))) = 0 then (wr32 ((wr32 ((M 66 38) * (wr32 ((wr32 (Int.tdiv v1 (M 66 38))) + (if v2 = 2 then (1 : Int) else (if v2 = 0 then ((-1) : Int) else 0)))))) + (wr32 ((Int.tmod v1 (M 66 38)) + (if v2 = 1 then (1 : Int) else (if v2 = 3 then ((-1) : Int) else 0)))))) else v1)))
def nX12_stepped (M : Mem) (v1 : Int) (v2 : Int) : Prop :=
  (¬ (M 66 38) = 0) ∧ (¬ (M 66 38) = 0) ∧ (¬ ((fX12_isIn (wr32 ((Int.tmod v1 (M 66 38)) + (if v2 = 1 then (1 : Int) else (if v2 = 3 then ((-1) : Int) else 0)))) 0 (wr32 ((M 66 38) - 1))) = 0) → ¬ ((fX12_isIn (wr32 ((wr32 (Int.tdiv v1 (M 66 38))) + (if v2 = 2 then (1 : Int) else (if v2 = 0 then ((-1) : Int) else 0)))) 0 (wr32 ((M 66 39) - 1))) = 0) → (nX12_isWallNow (wr32 ((wr32 ((M 66 38) * (wr32 ((wr32 (Int.tdiv v1 (M 66 38))) + (if v2 = 2 then (1 : Int) else (if v2 = 0 then ((-1) : Int) else 0)))))) + (wr32 ((Int.tmod v1 (M 66 38)) + (if v2 = 1 then (1 : Int) else (if v2 = 3 then ((-1) : Int) else 0))))))))
set_option maxRecDepth 100000 in
theorem pX12_stepped {E : EV} {h : Int} {M : Mem} {v1 : Int} {v2 : Int} (hs : (nX12_stepped M v1 v2)) : C2 E miX12_stepped 2 h [(2, 66), (0, v1), (0, v2)] M (fun r M' => r = some (0, (fX12_stepped M v1 v2)) ∧ M' = M) := by
  obtain ⟨Q, hQ⟩ : ∃ Q : Option MV → Mem → Prop, Q = (fun r M' => r = some (0, (fX12_stepped M v1 v2)) ∧ M' = M) := ⟨_, rfl⟩
  rw [← hQ]
  obtain ⟨o1, o2, o3⟩ := hs
  refine C2_of (L := [(2, 66), (0, v1), (0, v2), (3, 0), (3, 0)]) (by decide +kernel) (Nat.le_of_ble_eq_true rfl) rfl (fun hG => ?_)
  refine T_iload_n (i := 1) (pc' := 1) dX12_stepped_0 rfl rfl rfl ?_
  refine T_aload_n (i := 0) (pc' := 2) dX12_stepped_1 rfl rfl rfl ?_
  refine U_gf (v := (0, (M 66 38))) (k := 38) (kI := 38) (pc' := 5) dX12_stepped_2 rfl cl12 (by decide) rfl (by decide) flX12_334 rfl rfl (by decide) rfl rfl ?_
  refine T_irem (pc' := 6) dX12_stepped_5 (o1) rfl ?_
  refine T_iload_n (i := 2) (pc' := 7) dX12_stepped_6 rfl rfl rfl ?_
  refine T_iconst (pc' := 8) dX12_stepped_7 (by decide) rfl ?_
  have HJ1 : T E miX12_stepped 2 126 0 0 (fun r S M' => S = S0 ∧ G h M' ∧ Q r M') 25 [(2, 66), (0, v1), (0, v2), (3, 0), (3, 0)] [(0, (if v2 = 1 then (1 : Int) else (if v2 = 3 then ((-1) : Int) else 0))), (0, (Int.tmod v1 (M 66 38)))] S0 M 0 0 := by
    refine T_iadd (pc' := 26) dX12_stepped_25 rfl ?_
    refine T_istore_n (i := 3) (L' := [(2, 66), (0, v1), (0, v2), (0, (wr32 ((Int.tmod v1 (M 66 38)) + (if v2 = 1 then (1 : Int) else (if v2 = 3 then ((-1) : Int) else 0))))), (3, 0)]) (pc' := 27) dX12_stepped_26 rfl (by decide) rfl rfl ?_
    refine T_iload_n (i := 1) (pc' := 28) dX12_stepped_27 rfl rfl rfl ?_
    refine T_aload_n (i := 0) (pc' := 29) dX12_stepped_28 rfl rfl rfl ?_
    refine U_gf (v := (0, (M 66 38))) (k := 38) (kI := 38) (pc' := 32) dX12_stepped_29 rfl cl12 (by decide) rfl (by decide) flX12_334 rfl rfl (by decide) rfl rfl ?_
    refine T_idiv (pc' := 33) dX12_stepped_32 (o2) rfl ?_
    refine T_iload_n (i := 2) (pc' := 34) dX12_stepped_33 rfl rfl rfl ?_
    refine T_iconst (pc' := 35) dX12_stepped_34 (by decide) rfl ?_
    have HJ2 : T E miX12_stepped 2 126 0 0 (fun r S M' => S = S0 ∧ G h M' ∧ Q r M') 51 [(2, 66), (0, v1), (3, 0), (0, (wr32 ((Int.tmod v1 (M 66 38)) + (if v2 = 1 then (1 : Int) else (if v2 = 3 then ((-1) : Int) else 0))))), (3, 0)] [(0, (if v2 = 2 then (1 : Int) else (if v2 = 0 then ((-1) : Int) else 0))), (0, (wr32 (Int.tdiv v1 (M 66 38))))] S0 M 0 0 := by
      refine T_iadd (pc' := 52) dX12_stepped_51 rfl ?_
      refine T_istore (i := 4) (L' := [(2, 66), (0, v1), (3, 0), (0, (wr32 ((Int.tmod v1 (M 66 38)) + (if v2 = 1 then (1 : Int) else (if v2 = 3 then ((-1) : Int) else 0))))), (0, (wr32 ((wr32 (Int.tdiv v1 (M 66 38))) + (if v2 = 2 then (1 : Int) else (if v2 = 0 then ((-1) : Int) else 0)))))]) (pc' := 54) dX12_stepped_52 (by decide) rfl rfl ?_
      refine T_iload_n (i := 3) (pc' := 55) dX12_stepped_54 rfl rfl rfl ?_
      refine T_i2l (pc' := 56) dX12_stepped_55 rfl ?_
      refine T_lconst (v := 0) (pc' := 57) dX12_stepped_56 rfl (by decide) rfl ?_
      refine T_aload_n (i := 0) (pc' := 58) dX12_stepped_57 rfl rfl rfl ?_
      refine U_gf (v := (0, (M 66 38))) (k := 38) (kI := 38) (pc' := 61) dX12_stepped_58 rfl cl12 (by decide) rfl (by decide) flX12_334 rfl rfl (by decide) rfl rfl ?_
      refine T_iconst (pc' := 62) dX12_stepped_61 (by decide) rfl ?_
      refine T_isub (pc' := 63) dX12_stepped_62 rfl ?_
      refine T_i2l (pc' := 64) dX12_stepped_63 rfl ?_
      refine T_callS (av := [(1, (wr32 ((Int.tmod v1 (M 66 38)) + (if v2 = 1 then (1 : Int) else (if v2 = 3 then ((-1) : Int) else 0))))), (1, 0), (1, (wr32 ((M 66 38) - 1)))]) (st := []) (d2 := 1) (nc2 := 0) (ns2 := 0) (pc' := 67) dX12_stepped_64 rfl mtX12_isIn mvX12_isIn mlX12_244 rfl rfl (Nat.le_of_ble_eq_true rfl) (by decide) ⟨by decide, by decide⟩ rfl (pX12_isIn (E := E) (h := h) (M := M) (v0 := (wr32 ((Int.tmod v1 (M 66 38)) + (if v2 = 1 then (1 : Int) else (if v2 = 3 then ((-1) : Int) else 0))))) (v2 := 0) (v4 := (wr32 ((M 66 38) - 1))) hG) (kF (st2 := [(0, (fX12_isIn (wr32 ((Int.tmod v1 (M 66 38)) + (if v2 = 1 then (1 : Int) else (if v2 = 3 then ((-1) : Int) else 0)))) 0 (wr32 ((M 66 38) - 1))))]) rfl (fun hG3 => ?_))
      refine T_if_eq (pc' := 103) dX12_stepped_67 (by decide) (pf := 70) rfl (fun c4 => ?_) (fun c4 => ?_)
      · skip
        refine T_iload_n (i := 1) (pc' := 104) dX12_stepped_103 rfl rfl rfl ?_
        exact T_iret dX12_stepped_104 rfl ⟨rfl, hG, (by rw [hQ]; exact ⟨(by unfold fX12_stepped; simp only [if_pos c4]), rfl⟩)⟩
      · skip
        refine T_iload (i := 4) (pc' := 72) dX12_stepped_70 rfl rfl ?_
        refine T_i2l (pc' := 73) dX12_stepped_72 rfl ?_
        refine T_lconst (v := 0) (pc' := 74) dX12_stepped_73 rfl (by decide) rfl ?_
        refine T_aload_n (i := 0) (pc' := 75) dX12_stepped_74 rfl rfl rfl ?_
        refine U_gf (v := (0, (M 66 39))) (k := 39) (kI := 39) (pc' := 78) dX12_stepped_75 rfl cl12 (by decide) rfl (by decide) flX12_337 rfl rfl (by decide) rfl rfl ?_
        refine T_iconst (pc' := 79) dX12_stepped_78 (by decide) rfl ?_
        refine T_isub (pc' := 80) dX12_stepped_79 rfl ?_
        refine T_i2l (pc' := 81) dX12_stepped_80 rfl ?_
        refine T_callS (av := [(1, (wr32 ((wr32 (Int.tdiv v1 (M 66 38))) + (if v2 = 2 then (1 : Int) else (if v2 = 0 then ((-1) : Int) else 0))))), (1, 0), (1, (wr32 ((M 66 39) - 1)))]) (st := []) (d2 := 1) (nc2 := 0) (ns2 := 0) (pc' := 84) dX12_stepped_81 rfl mtX12_isIn mvX12_isIn mlX12_244 rfl rfl (Nat.le_of_ble_eq_true rfl) (by decide) ⟨by decide, by decide⟩ rfl (pX12_isIn (E := E) (h := h) (M := M) (v0 := (wr32 ((wr32 (Int.tdiv v1 (M 66 38))) + (if v2 = 2 then (1 : Int) else (if v2 = 0 then ((-1) : Int) else 0))))) (v2 := 0) (v4 := (wr32 ((M 66 39) - 1))) hG) (kF (st2 := [(0, (fX12_isIn (wr32 ((wr32 (Int.tdiv v1 (M 66 38))) + (if v2 = 2 then (1 : Int) else (if v2 = 0 then ((-1) : Int) else 0)))) 0 (wr32 ((M 66 39) - 1))))]) rfl (fun hG5 => ?_))
        refine T_if_eq (pc' := 103) dX12_stepped_84 (by decide) (pf := 87) rfl (fun c6 => ?_) (fun c6 => ?_)
        · skip
          refine T_iload_n (i := 1) (pc' := 104) dX12_stepped_103 rfl rfl rfl ?_
          exact T_iret dX12_stepped_104 rfl ⟨rfl, hG, (by rw [hQ]; exact ⟨(by unfold fX12_stepped; simp only [if_neg c4, if_pos c6]), rfl⟩)⟩
        · skip
          refine T_aload_n (i := 0) (pc' := 88) dX12_stepped_87 rfl rfl rfl ?_
          refine T_aload_n (i := 0) (pc' := 89) dX12_stepped_88 rfl rfl rfl ?_
          refine U_gf (v := (0, (M 66 38))) (k := 38) (kI := 38) (pc' := 92) dX12_stepped_89 rfl cl12 (by decide) rfl (by decide) flX12_334 rfl rfl (by decide) rfl rfl ?_
          refine T_iload (i := 4) (pc' := 94) dX12_stepped_92 rfl rfl ?_
          refine T_imul (pc' := 95) dX12_stepped_94 rfl ?_
          refine T_iload_n (i := 3) (pc' := 96) dX12_stepped_95 rfl rfl rfl ?_
          refine T_iadd (pc' := 97) dX12_stepped_96 rfl ?_
          refine T_callV (av := [(0, (wr32 ((wr32 ((M 66 38) * (wr32 ((wr32 (Int.tdiv v1 (M 66 38))) + (if v2 = 2 then (1 : Int) else (if v2 = 0 then ((-1) : Int) else 0)))))) + (wr32 ((Int.tmod v1 (M 66 38)) + (if v2 = 1 then (1 : Int) else (if v2 = 3 then ((-1) : Int) else 0)))))))]) (st := []) (d2 := 1) (nc2 := 0) (ns2 := 0) (pc' := 100) dX12_stepped_97 rfl mtX12_isWallNow mvX12_isWallNow mlX12_355 cl12 rfl rfl rfl (Nat.le_of_ble_eq_true rfl) (by decide) ⟨by decide, by decide⟩ rfl (pX12_isWallNow (E := E) (h := h) (M := M) (v1 := (wr32 ((wr32 ((M 66 38) * (wr32 ((wr32 (Int.tdiv v1 (M 66 38))) + (if v2 = 2 then (1 : Int) else (if v2 = 0 then ((-1) : Int) else 0)))))) + (wr32 ((Int.tmod v1 (M 66 38)) + (if v2 = 1 then (1 : Int) else (if v2 = 3 then ((-1) : Int) else 0))))))) (o3 c4 c6) hG) (kF (st2 := [(0, (fX12_isWallNow M (wr32 ((wr32 ((M 66 38) * (wr32 ((wr32 (Int.tdiv v1 (M 66 38))) + (if v2 = 2 then (1 : Int) else (if v2 = 0 then ((-1) : Int) else 0)))))) + (wr32 ((Int.tmod v1 (M 66 38)) + (if v2 = 1 then (1 : Int) else (if v2 = 3 then ((-1) : Int) else 0))))))))]) rfl (fun hG7 => ?_))
          refine T_if_eq (pc' := 105) dX12_stepped_100 (by decide) (pf := 103) rfl (fun c8 => ?_) (fun c8 => ?_)
          · skip
            refine T_aload_n (i := 0) (pc' := 106) dX12_stepped_105 rfl rfl rfl ?_
            refine U_gf (v := (0, (M 66 38))) (k := 38) (kI := 38) (pc' := 109) dX12_stepped_106 rfl cl12 (by decide) rfl (by decide) flX12_334 rfl rfl (by decide) rfl rfl ?_
            refine T_iload (i := 4) (pc' := 111) dX12_stepped_109 rfl rfl ?_
            refine T_imul (pc' := 112) dX12_stepped_111 rfl ?_
            refine T_iload_n (i := 3) (pc' := 113) dX12_stepped_112 rfl rfl rfl ?_
            refine T_iadd (pc' := 114) dX12_stepped_113 rfl ?_
            exact T_iret dX12_stepped_114 rfl ⟨rfl, hG, (by rw [hQ]; exact ⟨(by unfold fX12_stepped; simp only [if_neg c4, if_neg c6, if_pos c8]), rfl⟩)⟩
          · skip
            refine T_iload_n (i := 1) (pc' := 104) dX12_stepped_103 rfl rfl rfl ?_
            exact T_iret dX12_stepped_104 rfl ⟨rfl, hG, (by rw [hQ]; exact ⟨(by unfold fX12_stepped; simp only [if_neg c4, if_neg c6, if_neg c8]), rfl⟩)⟩
    refine T_icmp_ne (pc' := 42) dX12_stepped_35 (by decide) (pf := 38) rfl (fun c9 => ?_) (fun c9 => ?_)
    · skip
      refine T_iload_n (i := 2) (pc' := 43) dX12_stepped_42 rfl rfl rfl ?_
      refine T_if_ne (pc' := 50) dX12_stepped_43 (by decide) (pf := 46) rfl (fun c10 => ?_) (fun c10 => ?_)
      · skip
        refine T_iconst (pc' := 51) dX12_stepped_50 (by decide) rfl ?_
        exact T_wk (L' := [(2, 66), (0, v1), (3, 0), (0, (wr32 ((Int.tmod v1 (M 66 38)) + (if v2 = 1 then (1 : Int) else (if v2 = 3 then ((-1) : Int) else 0))))), (3, 0)]) (by have q := HJ2; try simp only [if_neg c9] at q; try simp only [if_neg c10] at q; exact q) ⟨Or.inr rfl, Or.inr rfl, Or.inl rfl, Or.inr rfl, Or.inl rfl, trivial⟩
      · skip
        refine T_iconst (pc' := 47) dX12_stepped_46 (by decide) rfl ?_
        refine T_goto (pc' := 51) dX12_stepped_47 (by decide) ?_
        exact T_wk (L' := [(2, 66), (0, v1), (3, 0), (0, (wr32 ((Int.tmod v1 (M 66 38)) + (if v2 = 1 then (1 : Int) else (if v2 = 3 then ((-1) : Int) else 0))))), (3, 0)]) (by have q := HJ2; try simp only [if_neg c9] at q; try simp only [if_pos c10] at q; exact q) ⟨Or.inr rfl, Or.inr rfl, Or.inl rfl, Or.inr rfl, Or.inl rfl, trivial⟩
    · skip
      refine T_iconst (pc' := 39) dX12_stepped_38 (by decide) rfl ?_
      refine T_goto (pc' := 51) dX12_stepped_39 (by decide) ?_
      exact T_wk (L' := [(2, 66), (0, v1), (3, 0), (0, (wr32 ((Int.tmod v1 (M 66 38)) + (if v2 = 1 then (1 : Int) else (if v2 = 3 then ((-1) : Int) else 0))))), (3, 0)]) (by have q := HJ2; try simp only [if_pos c9] at q; exact q) ⟨Or.inr rfl, Or.inr rfl, Or.inl rfl, Or.inr rfl, Or.inl rfl, trivial⟩
  refine T_icmp_ne (pc' := 15) dX12_stepped_8 (by decide) (pf := 11) rfl (fun c11 => ?_) (fun c11 => ?_)
  · skip
    refine T_iload_n (i := 2) (pc' := 16) dX12_stepped_15 rfl rfl rfl ?_
    refine T_iconst (pc' := 17) dX12_stepped_16 (by decide) rfl ?_
    refine T_icmp_ne (pc' := 24) dX12_stepped_17 (by decide) (pf := 20) rfl (fun c12 => ?_) (fun c12 => ?_)
    · skip
      refine T_iconst (pc' := 25) dX12_stepped_24 (by decide) rfl ?_
      exact T_wk (L' := [(2, 66), (0, v1), (0, v2), (3, 0), (3, 0)]) (by have q := HJ1; try simp only [if_neg c11] at q; try simp only [if_neg c12] at q; exact q) ⟨Or.inr rfl, Or.inr rfl, Or.inr rfl, Or.inl rfl, Or.inl rfl, trivial⟩
    · skip
      refine T_iconst (pc' := 21) dX12_stepped_20 (by decide) rfl ?_
      refine T_goto (pc' := 25) dX12_stepped_21 (by decide) ?_
      exact T_wk (L' := [(2, 66), (0, v1), (0, v2), (3, 0), (3, 0)]) (by have q := HJ1; try simp only [if_neg c11] at q; try simp only [if_pos c12] at q; exact q) ⟨Or.inr rfl, Or.inr rfl, Or.inr rfl, Or.inl rfl, Or.inl rfl, trivial⟩
  · skip
    refine T_iconst (pc' := 12) dX12_stepped_11 (by decide) rfl ?_
    refine T_goto (pc' := 25) dX12_stepped_12 (by decide) ?_
    exact T_wk (L' := [(2, 66), (0, v1), (0, v2), (3, 0), (3, 0)]) (by have q := HJ1; try simp only [if_pos c11] at q; exact q) ⟨Or.inr rfl, Or.inr rfl, Or.inr rfl, Or.inl rfl, Or.inl rfl, trivial⟩
