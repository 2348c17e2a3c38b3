/-! methods as propositions, 3 -/
def PX7_run (g : Int) (v2 : Int) (v3 : Int) (M : Mem) (Q : Int → Mem → Prop) : Prop :=
  (∀ M2 : Mem, M2 = (fmX7_findFirst M g v2) → (∀ a3 : Int, a3 = (fX7_findFirst M g v2) → PX7_findAlarm g v2 a3 M2 (fun _ M5 => PX7_openAll g v2 a3 v3 M5 (fun _ M8 => Q 0 M8))))
set_option maxRecDepth 100000 in
set_option maxHeartbeats 2000000 in
theorem pX7_run {E : EV} {h : Int} {M : Mem} {g : Int} {v2 : Int} {v3 : Int} (hg : isG g) {Q : Int → Mem → Prop} (H : PX7_run g v2 v3 M Q) : C2 E miX7_run 5 h [(2, 9), (2, g), (0, v2), (0, v3)] M (RV Q) := by
  refine C2_of (L := [(2, 9), (2, g), (0, v2), (0, v3), (3, 0)]) (by decide +kernel) (Nat.le_of_ble_eq_true rfl) rfl (fun hG => ?_)
  refine T_aload_n (i := 0) (pc' := 1) dX7_run_0 rfl rfl rfl ?_
  refine T_aload_n (i := 1) (pc' := 2) dX7_run_1 rfl rfl rfl ?_
  refine T_iload_n (i := 2) (pc' := 3) dX7_run_2 rfl rfl rfl ?_
  refine T_callV (av := [(2, g), (0, v2)]) (st := []) (d2 := 2) (nc2 := 0) (ns2 := 0) (pc' := 6) dX7_run_3 rfl mtX7_findFirst mvX7_findFirst mlX7_99 cl7 rfl rfl rfl (Nat.le_of_ble_eq_true rfl) (by decide) ⟨by decide, by decide⟩ rfl (pX7_findFirst (E := E) (h := h) (M := M) (g := g) (v2 := v2) hg hG) (kF (st2 := [(0, (fX7_findFirst M g v2))]) rfl (fun hG1 => ?_))
  obtain ⟨M2, eM2⟩ : ∃ m : Mem, m = (fmX7_findFirst M g v2) := ⟨_, rfl⟩
  rw [← eM2] at hG1 ⊢
  replace H := H M2 eM2
  obtain ⟨a3, ea3⟩ : ∃ z : Int, z = (fX7_findFirst M g v2) := ⟨_, rfl⟩
  rw [← ea3]
  replace H := H a3 ea3
  refine T_istore (i := 4) (L' := [(2, 9), (2, g), (0, v2), (0, v3), (0, a3)]) (pc' := 8) dX7_run_6 (by decide) rfl rfl ?_
  refine T_aload_n (i := 0) (pc' := 9) dX7_run_8 rfl rfl rfl ?_
  refine T_aload_n (i := 1) (pc' := 10) dX7_run_9 rfl rfl rfl ?_
  refine T_iload_n (i := 2) (pc' := 11) dX7_run_10 rfl rfl rfl ?_
  refine T_iload (i := 4) (pc' := 13) dX7_run_11 rfl rfl ?_
  refine T_callV (av := [(2, g), (0, v2), (0, a3)]) (st := []) (d2 := 2) (nc2 := 0) (ns2 := 0) (pc' := 16) dX7_run_13 rfl mtX7_findAlarm mvX7_findAlarm mlX7_103 cl7 rfl rfl rfl (Nat.le_of_ble_eq_true rfl) (by decide) ⟨by decide, by decide⟩ rfl (pX7_findAlarm (E := E) (h := h) (M := M2) (g := g) (v2 := v2) (v3 := a3) hg H hG1) ?_
  rintro _ _ M5 ⟨rfl, hG6, rfl, H⟩ _
  refine T_aload_n (i := 0) (pc' := 17) dX7_run_16 rfl rfl rfl ?_
  refine T_aload_n (i := 1) (pc' := 18) dX7_run_17 rfl rfl rfl ?_
  refine T_iload_n (i := 2) (pc' := 19) dX7_run_18 rfl rfl rfl ?_
  refine T_iload (i := 4) (pc' := 21) dX7_run_19 rfl rfl ?_
  refine T_iload_n (i := 3) (pc' := 22) dX7_run_21 rfl rfl rfl ?_
  refine T_callV (av := [(2, g), (0, v2), (0, a3), (0, v3)]) (st := []) (d2 := 4) (nc2 := 0) (ns2 := 0) (pc' := 25) dX7_run_22 rfl mtX7_openAll mvX7_openAll mlX7_106 cl7 rfl rfl rfl (Nat.le_of_ble_eq_true rfl) (by decide) ⟨by decide, by decide⟩ rfl (pX7_openAll (E := E) (h := h) (M := M5) (g := g) (v2 := v2) (v3 := a3) (v4 := v3) hg H hG6) ?_
  rintro _ _ M8 ⟨rfl, hG9, rfl, H⟩ _
  exact T_vret dX7_run_25 rfl ⟨rfl, hG9, rfl, H⟩
def PX3_tell_39  (K : Mem → Prop) (Q : Int → Mem → Prop) : Nat → Int → Mem → Prop
  | 0 => fun _ _ => False
  | k + 1 => fun v4 M => ((804 ≤ v4 → K M) ∧ (¬ (804 ≤ v4) → 0 ≤ v4 ∧ v4 < 804 ∧ (∀ M3 : Mem, M3 = (mset M 18 v4 0) → PX3_tell_39  K Q k (wr32 (v4 + 1)) M3)))
def PX3_tell_71 (g : Int) (K : Mem → Prop) (Q : Int → Mem → Prop) : Nat → Int → Mem → Prop
  | 0 => fun _ _ => False
  | k + 1 => fun v4 M => ((9 ≤ v4 → K M) ∧ (¬ (9 ≤ v4) → (∀ M4 : Mem, M4 = (fmX11_put M 19 9 v4 (fX11_get M 13 9 v4)) → (∀ M7 : Mem, M7 = (fmX11_put M4 20 9 v4 (fX11_get M4 15 9 v4)) → (∀ M9 : Mem, M9 = (fmX11_put M7 21 9 v4 (-1)) → (∀ M11 : Mem, M11 = (fmX11_put M9 22 9 v4 (-1)) → (((fX11_hasBit (M11 16 8) v4) = 0 → PX3_tell_71 g K Q k (wr32 (v4 + 1)) M11) ∧ (¬ ((fX11_hasBit (M11 16 8) v4) = 0) → (∀ M15 : Mem, M15 = (fmX3_follow M11 g v4) → PX3_tell_71 g K Q k (wr32 (v4 + 1)) M15)))))))))
def PX3_tell (g : Int) (v3 : Int) (M : Mem) (Q : Int → Mem → Prop) : Prop :=
  PX7_run g v3 0 M (fun _ M2 => (∀ M5 : Mem, M5 = (mset M2 16 8 v3) → (∀ M7 : Mem, M7 = (mset M5 16 9 (M5 g 15)) → (∀ M9 : Mem, M9 = (mset M7 16 10 (M7 9 9)) → (∀ M11 : Mem, M11 = (mset M9 16 11 (M9 9 10)) → (∃ k12 : Nat, PX3_tell_39 (fun M13 => PX3_findWays g M13 (fun _ M16 => (∃ k18 : Nat, PX3_tell_71 g (fun M19 => Q 0 M19) Q k18 0 M16))) Q k12 0 M11))))))
set_option maxRecDepth 100000 in
set_option maxHeartbeats 2000000 in
theorem qX3_tell_39 {E : EV} {h : Int} {g : Int} (hg : isG g) {K : Mem → Prop} {Q : Int → Mem → Prop} (hK : ∀ (M : Mem), K M → G h M → TG E miX3_tell 6 h (RV Q) 63 [(2, 16), (2, g), (2, 9), (3, 0), (3, 0)] [] M) : ∀ (k : Nat) (v4 : Int) (M : Mem), PX3_tell_39  K Q k v4 M → G h M → TG E miX3_tell 6 h (RV Q) 39 [(2, 16), (2, g), (2, 9), (3, 0), (0, v4)] [] M := by
  intro k
  induction k with
  | zero =>
    intro v4 M H
    exact False.elim H
  | succ k ih =>
    intro v4 M H hG
    refine T_iload (i := 4) (pc' := 41) dX3_tell_39 rfl rfl ?_
    refine T_aload_n (i := 0) (pc' := 42) dX3_tell_41 rfl rfl rfl ?_
    refine U_gr (q := 18) (k := 1) (kI := 1) (pc' := 45) dX3_tell_42 rfl cl3 (by decide) rfl (by decide) flX3_15 rfl rfl rfl (G_at hG 23 rfl) (by decide) rfl ?_
    refine U_alen (nI := 804) (pc' := 46) dX3_tell_45 (by decide) (by decide) rfl rfl rfl ?_
    refine T_icmp_ge (pc' := 63) dX3_tell_46 (by decide) (pf := 49) rfl (fun c1 => ?_) (fun c1 => ?_)
    · skip
      replace H := H.1 c1
      exact T_wk (L' := [(2, 16), (2, g), (2, 9), (3, 0), (3, 0)]) (hK _ H hG) ⟨Or.inr rfl, Or.inr rfl, Or.inr rfl, Or.inl rfl, Or.inl rfl, trivial⟩
    · skip
      replace H := H.2 c1
      refine T_aload_n (i := 0) (pc' := 50) dX3_tell_49 rfl rfl rfl ?_
      refine U_gr (q := 18) (k := 1) (kI := 1) (pc' := 53) dX3_tell_50 rfl cl3 (by decide) rfl (by decide) flX3_15 rfl rfl rfl (G_at hG 23 rfl) (by decide) rfl ?_
      refine T_iload (i := 4) (pc' := 55) dX3_tell_53 rfl rfl ?_
      refine T_iconst (pc' := 56) dX3_tell_55 (by decide) rfl ?_
      obtain ⟨z1, z2, H⟩ := H
      refine T_iast (pc' := 57) dX3_tell_56 (by decide) rfl z1 z2 rfl ?_
      have hG2 := (G_arr (x := 18) (i := v4) (y := 0) rfl (by decide) hG)
      obtain ⟨M3, eM3⟩ : ∃ m : Mem, m = (mset M 18 v4 0) := ⟨_, rfl⟩
      rw [← eM3] at hG2 ⊢
      replace H := H M3 eM3
      refine T_iinc (L' := [(2, 16), (2, g), (2, 9), (3, 0), (0, (wr32 (v4 + 1)))]) (pc' := 60) dX3_tell_57 rfl (by decide) rfl rfl ?_
      refine T_goto (pc' := 39) dX3_tell_60 (by decide) ?_
      exact T_wk (L' := [(2, 16), (2, g), (2, 9), (3, 0), (0, (wr32 (v4 + 1)))]) (ih _ _ H hG2) ⟨Or.inr rfl, Or.inr rfl, Or.inr rfl, Or.inl rfl, Or.inr rfl, trivial⟩
set_option maxRecDepth 100000 in
set_option maxHeartbeats 2000000 in
theorem qX3_tell_71 {E : EV} {h : Int} {g : Int} (hg : isG g) {K : Mem → Prop} {Q : Int → Mem → Prop} (hK : ∀ (M : Mem), K M → G h M → TG E miX3_tell 6 h (RV Q) 160 [(2, 16), (3, 0), (3, 0), (3, 0), (3, 0)] [] M) : ∀ (k : Nat) (v4 : Int) (M : Mem), PX3_tell_71 g K Q k v4 M → G h M → TG E miX3_tell 6 h (RV Q) 71 [(2, 16), (2, g), (2, 9), (3, 0), (0, v4)] [] M := by
  intro k
  induction k with
  | zero =>
    intro v4 M H
    exact False.elim H
  | succ k ih =>
    intro v4 M H hG
    refine T_iload (i := 4) (pc' := 73) dX3_tell_71 rfl rfl ?_
    refine T_bipush (pc' := 75) dX3_tell_73 rfl (by decide) rfl ?_
    refine T_icmp_ge (pc' := 160) dX3_tell_75 (by decide) (pf := 78) rfl (fun c1 => ?_) (fun c1 => ?_)
    · skip
      replace H := H.1 c1
      exact T_wk (L' := [(2, 16), (3, 0), (3, 0), (3, 0), (3, 0)]) (hK _ H hG) ⟨Or.inr rfl, Or.inl rfl, Or.inl rfl, Or.inl rfl, Or.inl rfl, trivial⟩
    · skip
      replace H := H.2 c1
      refine T_aload_n (i := 0) (pc' := 79) dX3_tell_78 rfl rfl rfl ?_
      refine U_gr (q := 19) (k := 2) (kI := 2) (pc' := 82) dX3_tell_79 rfl cl3 (by decide) rfl (by decide) flX3_18 rfl rfl rfl (G_at hG 24 rfl) (by decide) rfl ?_
      refine T_iload (i := 4) (pc' := 84) dX3_tell_82 rfl rfl ?_
      refine T_aload_n (i := 2) (pc' := 85) dX3_tell_84 rfl rfl rfl ?_
      refine U_grN (q := 13) (k := 3) (kI := 3) (pc' := 88) dX3_tell_85 rfl cl7 (by decide) rfl (by decide) flX3_66 rfl rfl rfl (G_at hG 19 rfl) (by decide) rfl ?_
      refine T_iload (i := 4) (pc' := 90) dX3_tell_88 rfl rfl ?_
      refine T_callSN (av := [(2, 13), (0, v4)]) (st := [(0, v4), (2, 19)]) (d2 := 1) (nc2 := 0) (ns2 := 0) (pc' := 93) dX3_tell_90 rfl mtX11_get mvX11_get mlX3_67 rfl rfl (Nat.le_of_ble_eq_true rfl) (by decide) ⟨by decide, by decide⟩ rfl (pX11_get (E := E) (h := h) (M := M) (p0 := 13) (np0 := 9) (v1 := v4) (by decide) rfl (by decide) hG) (kF (st2 := [(0, (fX11_get M 13 9 v4)), (0, v4), (2, 19)]) rfl (fun hG2 => ?_))
      refine T_callSN (av := [(2, 19), (0, v4), (0, (fX11_get M 13 9 v4))]) (st := []) (d2 := 1) (nc2 := 0) (ns2 := 0) (pc' := 96) dX3_tell_93 rfl mtX11_put mvX11_put mlX3_71 rfl rfl (Nat.le_of_ble_eq_true rfl) (by decide) ⟨by decide, by decide⟩ rfl (pX11_put (E := E) (h := h) (M := M) (p0 := 19) (np0 := 9) (v1 := v4) (v2 := (fX11_get M 13 9 v4)) (by decide) rfl (by decide) hG) (kF (st2 := []) rfl (fun hG3 => ?_))
      obtain ⟨M4, eM4⟩ : ∃ m : Mem, m = (fmX11_put M 19 9 v4 (fX11_get M 13 9 v4)) := ⟨_, rfl⟩
      rw [← eM4] at hG3 ⊢
      replace H := H M4 eM4
      refine T_aload_n (i := 0) (pc' := 97) dX3_tell_96 rfl rfl rfl ?_
      refine U_gr (q := 20) (k := 3) (kI := 3) (pc' := 100) dX3_tell_97 rfl cl3 (by decide) rfl (by decide) flX3_21 rfl rfl rfl (G_at hG3 25 rfl) (by decide) rfl ?_
      refine T_iload (i := 4) (pc' := 102) dX3_tell_100 rfl rfl ?_
      refine T_aload_n (i := 2) (pc' := 103) dX3_tell_102 rfl rfl rfl ?_
      refine U_grN (q := 15) (k := 5) (kI := 5) (pc' := 106) dX3_tell_103 rfl cl7 (by decide) rfl (by decide) flX3_75 rfl rfl rfl (G_at hG3 21 rfl) (by decide) rfl ?_
      refine T_iload (i := 4) (pc' := 108) dX3_tell_106 rfl rfl ?_
      refine T_callSN (av := [(2, 15), (0, v4)]) (st := [(0, v4), (2, 20)]) (d2 := 1) (nc2 := 0) (ns2 := 0) (pc' := 111) dX3_tell_108 rfl mtX11_get mvX11_get mlX3_67 rfl rfl (Nat.le_of_ble_eq_true rfl) (by decide) ⟨by decide, by decide⟩ rfl (pX11_get (E := E) (h := h) (M := M4) (p0 := 15) (np0 := 9) (v1 := v4) (by decide) rfl (by decide) hG3) (kF (st2 := [(0, (fX11_get M4 15 9 v4)), (0, v4), (2, 20)]) rfl (fun hG5 => ?_))
      refine T_callSN (av := [(2, 20), (0, v4), (0, (fX11_get M4 15 9 v4))]) (st := []) (d2 := 1) (nc2 := 0) (ns2 := 0) (pc' := 114) dX3_tell_111 rfl mtX11_put mvX11_put mlX3_71 rfl rfl (Nat.le_of_ble_eq_true rfl) (by decide) ⟨by decide, by decide⟩ rfl (pX11_put (E := E) (h := h) (M := M4) (p0 := 20) (np0 := 9) (v1 := v4) (v2 := (fX11_get M4 15 9 v4)) (by decide) rfl (by decide) hG3) (kF (st2 := []) rfl (fun hG6 => ?_))
      obtain ⟨M7, eM7⟩ : ∃ m : Mem, m = (fmX11_put M4 20 9 v4 (fX11_get M4 15 9 v4)) := ⟨_, rfl⟩
      rw [← eM7] at hG6 ⊢
      replace H := H M7 eM7
      refine T_aload_n (i := 0) (pc' := 115) dX3_tell_114 rfl rfl rfl ?_
      refine U_gr (q := 21) (k := 4) (kI := 4) (pc' := 118) dX3_tell_115 rfl cl3 (by decide) rfl (by decide) flX3_24 rfl rfl rfl (G_at hG6 26 rfl) (by decide) rfl ?_
      refine T_iload (i := 4) (pc' := 120) dX3_tell_118 rfl rfl ?_
      refine T_iconst (pc' := 121) dX3_tell_120 (by decide) rfl ?_
      refine T_callSN (av := [(2, 21), (0, v4), (0, (-1))]) (st := []) (d2 := 1) (nc2 := 0) (ns2 := 0) (pc' := 124) dX3_tell_121 rfl mtX11_put mvX11_put mlX3_71 rfl rfl (Nat.le_of_ble_eq_true rfl) (by decide) ⟨by decide, by decide⟩ rfl (pX11_put (E := E) (h := h) (M := M7) (p0 := 21) (np0 := 9) (v1 := v4) (v2 := (-1)) (by decide) rfl (by decide) hG6) (kF (st2 := []) rfl (fun hG8 => ?_))
      obtain ⟨M9, eM9⟩ : ∃ m : Mem, m = (fmX11_put M7 21 9 v4 (-1)) := ⟨_, rfl⟩
      rw [← eM9] at hG8 ⊢
      replace H := H M9 eM9
      refine T_aload_n (i := 0) (pc' := 125) dX3_tell_124 rfl rfl rfl ?_
      refine U_gr (q := 22) (k := 5) (kI := 5) (pc' := 128) dX3_tell_125 rfl cl3 (by decide) rfl (by decide) flX3_27 rfl rfl rfl (G_at hG8 27 rfl) (by decide) rfl ?_
      refine T_iload (i := 4) (pc' := 130) dX3_tell_128 rfl rfl ?_
      refine T_iconst (pc' := 131) dX3_tell_130 (by decide) rfl ?_
      refine T_callSN (av := [(2, 22), (0, v4), (0, (-1))]) (st := []) (d2 := 1) (nc2 := 0) (ns2 := 0) (pc' := 134) dX3_tell_131 rfl mtX11_put mvX11_put mlX3_71 rfl rfl (Nat.le_of_ble_eq_true rfl) (by decide) ⟨by decide, by decide⟩ rfl (pX11_put (E := E) (h := h) (M := M9) (p0 := 22) (np0 := 9) (v1 := v4) (v2 := (-1)) (by decide) rfl (by decide) hG8) (kF (st2 := []) rfl (fun hG10 => ?_))
      obtain ⟨M11, eM11⟩ : ∃ m : Mem, m = (fmX11_put M9 22 9 v4 (-1)) := ⟨_, rfl⟩
      rw [← eM11] at hG10 ⊢
      replace H := H M11 eM11
      refine T_aload_n (i := 0) (pc' := 135) dX3_tell_134 rfl rfl rfl ?_
      refine U_gf (v := (0, (M11 16 8))) (k := 8) (kI := 8) (pc' := 138) dX3_tell_135 rfl cl3 (by decide) rfl (by decide) flX3_36 rfl rfl (by decide) rfl rfl ?_
      refine T_iload (i := 4) (pc' := 140) dX3_tell_138 rfl rfl ?_
      refine T_callSN (av := [(0, (M11 16 8)), (0, v4)]) (st := []) (d2 := 1) (nc2 := 0) (ns2 := 0) (pc' := 143) dX3_tell_140 rfl mtX11_hasBit mvX11_hasBit mlX3_76 rfl rfl (Nat.le_of_ble_eq_true rfl) (by decide) ⟨by decide, by decide⟩ rfl (pX11_hasBit (E := E) (h := h) (M := M11) (v0 := (M11 16 8)) (v1 := v4) hG10) (kF (st2 := [(0, (fX11_hasBit (M11 16 8) v4))]) rfl (fun hG12 => ?_))
      refine T_if_eq (pc' := 154) dX3_tell_143 (by decide) (pf := 146) rfl (fun c13 => ?_) (fun c13 => ?_)
      · skip
        replace H := H.1 c13
        refine T_iinc (L' := [(2, 16), (2, g), (2, 9), (3, 0), (0, (wr32 (v4 + 1)))]) (pc' := 157) dX3_tell_154 rfl (by decide) rfl rfl ?_
        refine T_goto (pc' := 71) dX3_tell_157 (by decide) ?_
        exact T_wk (L' := [(2, 16), (2, g), (2, 9), (3, 0), (0, (wr32 (v4 + 1)))]) (ih _ _ H hG10) ⟨Or.inr rfl, Or.inr rfl, Or.inr rfl, Or.inl rfl, Or.inr rfl, trivial⟩
      · skip
        replace H := H.2 c13
        refine T_aload_n (i := 0) (pc' := 147) dX3_tell_146 rfl rfl rfl ?_
        refine T_aload_n (i := 1) (pc' := 148) dX3_tell_147 rfl rfl rfl ?_
        refine T_aload_n (i := 2) (pc' := 149) dX3_tell_148 rfl rfl rfl ?_
        refine T_iload (i := 4) (pc' := 151) dX3_tell_149 rfl rfl ?_
        refine T_callV (av := [(2, g), (2, 9), (0, v4)]) (st := []) (d2 := 5) (nc2 := 0) (ns2 := 0) (pc' := 154) dX3_tell_151 rfl mtX3_follow mvX3_follow mlX3_80 cl3 rfl rfl rfl (Nat.le_of_ble_eq_true rfl) (by decide) ⟨by decide, by decide⟩ rfl (pX3_follow (E := E) (h := h) (M := M11) (g := g) (v3 := v4) hg hG10) (kF (st2 := []) rfl (fun hG14 => ?_))
        obtain ⟨M15, eM15⟩ : ∃ m : Mem, m = (fmX3_follow M11 g v4) := ⟨_, rfl⟩
        rw [← eM15] at hG14 ⊢
        replace H := H M15 eM15
        refine T_iinc (L' := [(2, 16), (2, g), (2, 9), (3, 0), (0, (wr32 (v4 + 1)))]) (pc' := 157) dX3_tell_154 rfl (by decide) rfl rfl ?_
        refine T_goto (pc' := 71) dX3_tell_157 (by decide) ?_
        exact T_wk (L' := [(2, 16), (2, g), (2, 9), (3, 0), (0, (wr32 (v4 + 1)))]) (ih _ _ H hG14) ⟨Or.inr rfl, Or.inr rfl, Or.inr rfl, Or.inl rfl, Or.inr rfl, trivial⟩
set_option maxRecDepth 100000 in
set_option maxHeartbeats 2000000 in
theorem pX3_tell {E : EV} {h : Int} {M : Mem} {g : Int} {v3 : Int} (hg : isG g) {Q : Int → Mem → Prop} (H : PX3_tell g v3 M Q) : C2 E miX3_tell 6 h [(2, 16), (2, g), (2, 9), (0, v3)] M (RV Q) := by
  refine C2_of (L := [(2, 16), (2, g), (2, 9), (0, v3), (3, 0)]) (by decide +kernel) (Nat.le_of_ble_eq_true rfl) rfl (fun hG => ?_)
  refine T_aload_n (i := 2) (pc' := 1) dX3_tell_0 rfl rfl rfl ?_
  refine T_aload_n (i := 1) (pc' := 2) dX3_tell_1 rfl rfl rfl ?_
  refine T_iload_n (i := 3) (pc' := 3) dX3_tell_2 rfl rfl rfl ?_
  refine T_iconst (pc' := 4) dX3_tell_3 (by decide) rfl ?_
  refine T_callV (av := [(2, g), (0, v3), (0, 0)]) (st := []) (d2 := 5) (nc2 := 0) (ns2 := 0) (pc' := 7) dX3_tell_4 rfl mtX7_run mvX7_run mlX3_49 cl7 rfl rfl rfl (Nat.le_of_ble_eq_true rfl) (by decide) ⟨by decide, by decide⟩ rfl (pX7_run (E := E) (h := h) (M := M) (g := g) (v2 := v3) (v3 := 0) hg H hG) ?_
  rintro _ _ M2 ⟨rfl, hG3, rfl, H⟩ _
  refine T_aload_n (i := 0) (pc' := 8) dX3_tell_7 rfl rfl rfl ?_
  refine T_iload_n (i := 3) (pc' := 9) dX3_tell_8 rfl rfl rfl ?_
  refine U_pf (y := v3) (k := 8) (kI := 8) (pc' := 12) dX3_tell_9 rfl cl3 (by decide) rfl (by decide) flX3_36 rfl rfl rfl rfl rfl (by decide) (fun z => z) rfl ?_
  have hG4 := (G_fld (x := 16) (i := 8) (y := v3) rfl (by decide) (by decide) (by decide) hG3)
  obtain ⟨M5, eM5⟩ : ∃ m : Mem, m = (mset M2 16 8 v3) := ⟨_, rfl⟩
  rw [← eM5] at hG4 ⊢
  replace H := H M5 eM5
  refine T_aload_n (i := 0) (pc' := 13) dX3_tell_12 rfl rfl rfl ?_
  refine T_aload_n (i := 1) (pc' := 14) dX3_tell_13 rfl rfl rfl ?_
  refine U_gfN (v := (0, (M5 g 15))) (k := 15) (kI := 15) (pc' := 17) dX3_tell_14 rfl cl1 (pog0 hg) (shg0 hg) (by decide) flX3_55 rfl rfl (by decide) rfl rfl ?_
  refine U_pf (y := (M5 g 15)) (k := 9) (kI := 9) (pc' := 20) dX3_tell_17 rfl cl3 (by decide) rfl (by decide) flX3_40 rfl rfl rfl rfl rfl (by decide) (fun z => z) rfl ?_
  have hG6 := (G_fld (x := 16) (i := 9) (y := (M5 g 15)) rfl (by decide) (by decide) (by decide) hG4)
  obtain ⟨M7, eM7⟩ : ∃ m : Mem, m = (mset M5 16 9 (M5 g 15)) := ⟨_, rfl⟩
  rw [← eM7] at hG6 ⊢
  replace H := H M7 eM7
  refine T_aload_n (i := 0) (pc' := 21) dX3_tell_20 rfl rfl rfl ?_
  refine T_aload_n (i := 2) (pc' := 22) dX3_tell_21 rfl rfl rfl ?_
  refine U_gfN (v := (0, (M7 9 9))) (k := 9) (kI := 9) (pc' := 25) dX3_tell_22 rfl cl7 (by decide) rfl (by decide) flX3_60 rfl rfl (by decide) rfl rfl ?_
  refine U_pf (y := (M7 9 9)) (k := 10) (kI := 10) (pc' := 28) dX3_tell_25 rfl cl3 (by decide) rfl (by decide) flX3_43 rfl rfl rfl rfl rfl (by decide) (fun z => z) rfl ?_
  have hG8 := (G_fld (x := 16) (i := 10) (y := (M7 9 9)) rfl (by decide) (by decide) (by decide) hG6)
  obtain ⟨M9, eM9⟩ : ∃ m : Mem, m = (mset M7 16 10 (M7 9 9)) := ⟨_, rfl⟩
  rw [← eM9] at hG8 ⊢
  replace H := H M9 eM9
  refine T_aload_n (i := 0) (pc' := 29) dX3_tell_28 rfl rfl rfl ?_
  refine T_aload_n (i := 2) (pc' := 30) dX3_tell_29 rfl rfl rfl ?_
  refine U_gfN (v := (0, (M9 9 10))) (k := 10) (kI := 10) (pc' := 33) dX3_tell_30 rfl cl7 (by decide) rfl (by decide) flX3_61 rfl rfl (by decide) rfl rfl ?_
  refine U_pf (y := (M9 9 10)) (k := 11) (kI := 11) (pc' := 36) dX3_tell_33 rfl cl3 (by decide) rfl (by decide) flX3_46 rfl rfl rfl rfl rfl (by decide) (fun z => z) rfl ?_
  have hG10 := (G_fld (x := 16) (i := 11) (y := (M9 9 10)) rfl (by decide) (by decide) (by decide) hG8)
  obtain ⟨M11, eM11⟩ : ∃ m : Mem, m = (mset M9 16 11 (M9 9 10)) := ⟨_, rfl⟩
  rw [← eM11] at hG10 ⊢
  replace H := H M11 eM11
  refine T_iconst (pc' := 37) dX3_tell_36 (by decide) rfl ?_
  refine T_istore (i := 4) (L' := [(2, 16), (2, g), (2, 9), (0, v3), (0, 0)]) (pc' := 39) dX3_tell_37 (by decide) rfl rfl ?_
  obtain ⟨k12, H⟩ := H
  refine T_wk (L' := [(2, 16), (2, g), (2, 9), (3, 0), (0, 0)]) (qX3_tell_39 hg (fun M13 H hG14 => ?_) _ _ _ H hG10) ⟨Or.inr rfl, Or.inr rfl, Or.inr rfl, Or.inl rfl, Or.inr rfl, trivial⟩
  refine T_aload_n (i := 0) (pc' := 64) dX3_tell_63 rfl rfl rfl ?_
  refine T_aload_n (i := 1) (pc' := 65) dX3_tell_64 rfl rfl rfl ?_
  refine T_callV (av := [(2, g)]) (st := []) (d2 := 4) (nc2 := 0) (ns2 := 0) (pc' := 68) dX3_tell_65 rfl mtX3_findWays mvX3_findWays mlX3_62 cl3 rfl rfl rfl (Nat.le_of_ble_eq_true rfl) (by decide) ⟨by decide, by decide⟩ rfl (pX3_findWays (E := E) (h := h) (M := M13) (g := g) hg H hG14) ?_
  rintro _ _ M16 ⟨rfl, hG17, rfl, H⟩ _
  refine T_iconst (pc' := 69) dX3_tell_68 (by decide) rfl ?_
  refine T_istore (i := 4) (L' := [(2, 16), (2, g), (2, 9), (3, 0), (0, 0)]) (pc' := 71) dX3_tell_69 (by decide) rfl rfl ?_
  obtain ⟨k18, H⟩ := H
  refine T_wk (L' := [(2, 16), (2, g), (2, 9), (3, 0), (0, 0)]) (qX3_tell_71 hg (fun M19 H hG20 => ?_) _ _ _ H hG17) ⟨Or.inr rfl, Or.inr rfl, Or.inr rfl, Or.inl rfl, Or.inr rfl, trivial⟩
  exact T_vret dX3_tell_160 rfl ⟨rfl, hG20, rfl, H⟩
def PX5_run_7 (v2 : Int) (K : Mem → Prop) (Q : Int → Mem → Prop) : Nat → Int → Mem → Prop
  | 0 => fun _ _ => False
  | k + 1 => fun v3 M => (((M 6 2) ≤ v3 → K M) ∧ (¬ ((M 6 2) ≤ v3) → ((1600 ≤ v3 → K M) ∧ (¬ (1600 ≤ v3) → (((wr32 (Int.tdiv (fX11_get M 7 1600 v3) 10000)) = 20 → (∀ M37 : Mem, M37 = (fmX5_push M (Int.tmod (fX11_get M 7 1600 v3) 10000)) → PX5_run_7 v2 K Q k (wr32 (v3 + 1)) M37)) ∧ (¬ ((wr32 (Int.tdiv (fX11_get M 7 1600 v3) 10000)) = 20) → ((5 < (wr32 (Int.tdiv (fX11_get M 7 1600 v3) 10000)) → (((wr32 (Int.tdiv (fX11_get M 7 1600 v3) 10000)) = 6 → (∀ M8 : Mem, M8 = (fmX5_pop M) → (∀ M11 : Mem, M11 = (fmX5_push M8 (fX5_ofOne M8 v2 (wr32 (Int.tdiv (fX11_get M 7 1600 v3) 10000)) (fX5_pop M))) → PX5_run_7 v2 K Q k (wr32 (v3 + 1)) M11))) ∧ (¬ ((wr32 (Int.tdiv (fX11_get M 7 1600 v3) 10000)) = 6) → (((wr32 (Int.tdiv (fX11_get M 7 1600 v3) 10000)) = 7 → (∀ M14 : Mem, M14 = (fmX5_pop M) → (∀ M17 : Mem, M17 = (fmX5_push M14 (fX5_ofOne M14 v2 (wr32 (Int.tdiv (fX11_get M 7 1600 v3) 10000)) (fX5_pop M))) → PX5_run_7 v2 K Q k (wr32 (v3 + 1)) M17))) ∧ (¬ ((wr32 (Int.tdiv (fX11_get M 7 1600 v3) 10000)) = 7) → (((wr32 (Int.tdiv (fX11_get M 7 1600 v3) 10000)) = 19 → (∀ M28 : Mem, M28 = (fmX5_pop M) → (∀ M31 : Mem, M31 = (fmX5_push M28 (fX5_ofOne M28 v2 (wr32 (Int.tdiv (fX11_get M 7 1600 v3) 10000)) (fX5_pop M))) → PX5_run_7 v2 K Q k (wr32 (v3 + 1)) M31))) ∧ (¬ ((wr32 (Int.tdiv (fX11_get M 7 1600 v3) 10000)) = 19) → (∀ M20 : Mem, M20 = (fmX5_pop M) → (∀ M22 : Mem, M22 = (fmX5_pop M20) → (∀ a24 : Int, a24 = (fX5_ofTwo (wr32 (Int.tdiv (fX11_get M 7 1600 v3) 10000)) (fX5_pop M20) (fX5_pop M)) → (∀ M26 : Mem, M26 = (fmX5_push M22 a24) → PX5_run_7 v2 K Q k (wr32 (v3 + 1)) M26))))))))))) ∧ (¬ (5 < (wr32 (Int.tdiv (fX11_get M 7 1600 v3) 10000))) → (∀ a33 : Int, a33 = (fX5_plain M v2 (wr32 (Int.tdiv (fX11_get M 7 1600 v3) 10000))) → (∀ M35 : Mem, M35 = (fmX5_push M a33) → PX5_run_7 v2 K Q k (wr32 (v3 + 1)) M35))))))))))
def PX5_run (v2 : Int) (M : Mem) (Q : Int → Mem → Prop) : Prop :=
  (∀ M2 : Mem, M2 = (mset M 6 3 0) → (∃ k3 : Nat, PX5_run_7 v2 (fun M4 => (∀ M7 : Mem, M7 = (fmX5_pop M4) → Q (fX5_pop M4) M7)) Q k3 0 M2))
set_option maxRecDepth 100000 in
set_option maxHeartbeats 2000000 in
theorem qX5_run_7 {E : EV} {h : Int} {v2 : Int}  {K : Mem → Prop} {Q : Int → Mem → Prop} (hK : ∀ (M : Mem), K M → G h M → TG E miX5_run 4 h (RI 0 Q) 150 [(2, 6), (3, 0), (3, 0), (3, 0), (3, 0), (3, 0), (3, 0), (3, 0)] [] M) : ∀ (k : Nat) (v3 : Int) (M : Mem), PX5_run_7 v2 K Q k v3 M → G h M → TG E miX5_run 4 h (RI 0 Q) 7 [(2, 6), (2, 16), (0, v2), (0, v3), (3, 0), (3, 0), (3, 0), (3, 0)] [] M := by
  intro k
  induction k with
  | zero =>
    intro v3 M H
    exact False.elim H
  | succ k ih =>
    intro v3 M H hG
    refine T_iload_n (i := 3) (pc' := 8) dX5_run_7 rfl rfl rfl ?_
    refine T_aload_n (i := 0) (pc' := 9) dX5_run_8 rfl rfl rfl ?_
    refine U_gf (v := (0, (M 6 2))) (k := 2) (kI := 2) (pc' := 12) dX5_run_9 rfl cl5 (by decide) rfl (by decide) flX5_18 rfl rfl (by decide) rfl rfl ?_
    refine T_icmp_ge (pc' := 150) dX5_run_12 (by decide) (pf := 15) rfl (fun c1 => ?_) (fun c1 => ?_)
    · skip
      replace H := H.1 c1
      exact T_wk (L' := [(2, 6), (3, 0), (3, 0), (3, 0), (3, 0), (3, 0), (3, 0), (3, 0)]) (hK _ H hG) ⟨Or.inr rfl, Or.inl rfl, Or.inl rfl, Or.inl rfl, Or.inl rfl, Or.inl rfl, Or.inl rfl, Or.inl rfl, trivial⟩
    · skip
      replace H := H.2 c1
      refine T_iload_n (i := 3) (pc' := 16) dX5_run_15 rfl rfl rfl ?_
      refine T_sipush (pc' := 19) dX5_run_16 rfl (by decide) rfl ?_
      refine T_icmp_ge (pc' := 150) dX5_run_19 (by decide) (pf := 22) rfl (fun c2 => ?_) (fun c2 => ?_)
      · skip
        replace H := H.1 c2
        exact T_wk (L' := [(2, 6), (3, 0), (3, 0), (3, 0), (3, 0), (3, 0), (3, 0), (3, 0)]) (hK _ H hG) ⟨Or.inr rfl, Or.inl rfl, Or.inl rfl, Or.inl rfl, Or.inl rfl, Or.inl rfl, Or.inl rfl, Or.inl rfl, trivial⟩
      · skip
        replace H := H.2 c2
        refine T_aload_n (i := 0) (pc' := 23) dX5_run_22 rfl rfl rfl ?_
        refine U_gr (q := 7) (k := 0) (kI := 0) (pc' := 26) dX5_run_23 rfl cl5 (by decide) rfl (by decide) flX5_9 rfl rfl rfl (G_at hG 14 rfl) (by decide) rfl ?_
        refine T_iload_n (i := 3) (pc' := 27) dX5_run_26 rfl rfl rfl ?_
        refine T_callSN (av := [(2, 7), (0, v3)]) (st := []) (d2 := 1) (nc2 := 0) (ns2 := 0) (pc' := 30) dX5_run_27 rfl mtX11_get mvX11_get mlX5_29 rfl rfl (Nat.le_of_ble_eq_true rfl) (by decide) ⟨by decide, by decide⟩ rfl (pX11_get (E := E) (h := h) (M := M) (p0 := 7) (np0 := 1600) (v1 := v3) (by decide) rfl (by decide) hG) (kF (st2 := [(0, (fX11_get M 7 1600 v3))]) rfl (fun hG3 => ?_))
        refine T_istore (i := 4) (L' := [(2, 6), (2, 16), (0, v2), (0, v3), (0, (fX11_get M 7 1600 v3)), (3, 0), (3, 0), (3, 0)]) (pc' := 32) dX5_run_30 (by decide) rfl rfl ?_
        refine T_iload (i := 4) (pc' := 34) dX5_run_32 rfl rfl ?_
        refine T_sipush (pc' := 37) dX5_run_34 rfl (by decide) rfl ?_
        refine T_idiv (pc' := 38) dX5_run_37 (by decide) rfl ?_
        refine T_istore (i := 5) (L' := [(2, 6), (2, 16), (0, v2), (0, v3), (0, (fX11_get M 7 1600 v3)), (0, (wr32 (Int.tdiv (fX11_get M 7 1600 v3) 10000))), (3, 0), (3, 0)]) (pc' := 40) dX5_run_38 (by decide) rfl rfl ?_
        refine T_iload (i := 5) (pc' := 42) dX5_run_40 rfl rfl ?_
        refine T_bipush (pc' := 44) dX5_run_42 rfl (by decide) rfl ?_
        refine T_icmp_ne (pc' := 60) dX5_run_44 (by decide) (pf := 47) rfl (fun c4 => ?_) (fun c4 => ?_)
        · skip
          replace H := H.2 c4
          refine T_iload (i := 5) (pc' := 62) dX5_run_60 rfl rfl ?_
          refine T_iconst (pc' := 63) dX5_run_62 (by decide) rfl ?_
          refine T_icmp_gt (pc' := 80) dX5_run_63 (by decide) (pf := 66) rfl (fun c5 => ?_) (fun c5 => ?_)
          · skip
            replace H := H.1 c5
            refine T_iload (i := 5) (pc' := 82) dX5_run_80 rfl rfl ?_
            refine T_bipush (pc' := 84) dX5_run_82 rfl (by decide) rfl ?_
            refine T_icmp_eq (pc' := 101) dX5_run_84 (by decide) (pf := 87) rfl (fun c6 => ?_) (fun c6 => ?_)
            · skip
              replace H := H.1 c6
              refine T_aload_n (i := 0) (pc' := 102) dX5_run_101 rfl rfl rfl ?_
              refine T_aload_n (i := 1) (pc' := 103) dX5_run_102 rfl rfl rfl ?_
              refine T_iload_n (i := 2) (pc' := 104) dX5_run_103 rfl rfl rfl ?_
              refine T_iload (i := 5) (pc' := 106) dX5_run_104 rfl rfl ?_
              refine T_aload_n (i := 0) (pc' := 107) dX5_run_106 rfl rfl rfl ?_
              refine T_callV (av := []) (st := [(0, (wr32 (Int.tdiv (fX11_get M 7 1600 v3) 10000))), (0, v2), (2, 16), (2, 6)]) (d2 := 2) (nc2 := 0) (ns2 := 0) (pc' := 110) dX5_run_107 rfl mtX5_pop mvX5_pop mlX5_41 cl5 rfl rfl rfl (Nat.le_of_ble_eq_true rfl) (by decide) ⟨by decide, by decide⟩ rfl (pX5_pop (E := E) (h := h) (M := M) hG) (kF (st2 := [(0, (fX5_pop M)), (0, (wr32 (Int.tdiv (fX11_get M 7 1600 v3) 10000))), (0, v2), (2, 16), (2, 6)]) rfl (fun hG7 => ?_))
              obtain ⟨M8, eM8⟩ : ∃ m : Mem, m = (fmX5_pop M) := ⟨_, rfl⟩
              rw [← eM8] at hG7 ⊢
              replace H := H M8 eM8
              refine T_callS (av := [(2, 16), (0, v2), (0, (wr32 (Int.tdiv (fX11_get M 7 1600 v3) 10000))), (0, (fX5_pop M))]) (st := [(2, 6)]) (d2 := 3) (nc2 := 0) (ns2 := 0) (pc' := 113) dX5_run_110 rfl mtX5_ofOne mvX5_ofOne mlX5_45 rfl rfl (Nat.le_of_ble_eq_true rfl) (by decide) ⟨by decide, by decide⟩ rfl (pX5_ofOne (E := E) (h := h) (M := M8) (v1 := v2) (v2 := (wr32 (Int.tdiv (fX11_get M 7 1600 v3) 10000))) (v3 := (fX5_pop M)) hG7) (kF (st2 := [(0, (fX5_ofOne M8 v2 (wr32 (Int.tdiv (fX11_get M 7 1600 v3) 10000)) (fX5_pop M))), (2, 6)]) rfl (fun hG9 => ?_))
              refine T_callV (av := [(0, (fX5_ofOne M8 v2 (wr32 (Int.tdiv (fX11_get M 7 1600 v3) 10000)) (fX5_pop M)))]) (st := []) (d2 := 2) (nc2 := 0) (ns2 := 0) (pc' := 116) dX5_run_113 rfl mtX5_push mvX5_push mlX5_33 cl5 rfl rfl rfl (Nat.le_of_ble_eq_true rfl) (by decide) ⟨by decide, by decide⟩ rfl (pX5_push (E := E) (h := h) (M := M8) (v1 := (fX5_ofOne M8 v2 (wr32 (Int.tdiv (fX11_get M 7 1600 v3) 10000)) (fX5_pop M))) hG7) (kF (st2 := []) rfl (fun hG10 => ?_))
              obtain ⟨M11, eM11⟩ : ∃ m : Mem, m = (fmX5_push M8 (fX5_ofOne M8 v2 (wr32 (Int.tdiv (fX11_get M 7 1600 v3) 10000)) (fX5_pop M))) := ⟨_, rfl⟩
              rw [← eM11] at hG10 ⊢
              replace H := H M11 eM11
              refine T_goto (pc' := 144) dX5_run_116 (by decide) ?_
              refine T_iinc (L' := [(2, 6), (2, 16), (0, v2), (0, (wr32 (v3 + 1))), (0, (fX11_get M 7 1600 v3)), (0, (wr32 (Int.tdiv (fX11_get M 7 1600 v3) 10000))), (3, 0), (3, 0)]) (pc' := 147) dX5_run_144 rfl (by decide) rfl rfl ?_
              refine T_goto (pc' := 7) dX5_run_147 (by decide) ?_
              exact T_wk (L' := [(2, 6), (2, 16), (0, v2), (0, (wr32 (v3 + 1))), (3, 0), (3, 0), (3, 0), (3, 0)]) (ih _ _ H hG10) ⟨Or.inr rfl, Or.inr rfl, Or.inr rfl, Or.inr rfl, Or.inl rfl, Or.inl rfl, Or.inl rfl, Or.inl rfl, trivial⟩
            · skip
              replace H := H.2 c6
              refine T_iload (i := 5) (pc' := 89) dX5_run_87 rfl rfl ?_
              refine T_bipush (pc' := 91) dX5_run_89 rfl (by decide) rfl ?_
              refine T_icmp_eq (pc' := 101) dX5_run_91 (by decide) (pf := 94) rfl (fun c12 => ?_) (fun c12 => ?_)
              · skip
                replace H := H.1 c12
                refine T_aload_n (i := 0) (pc' := 102) dX5_run_101 rfl rfl rfl ?_
                refine T_aload_n (i := 1) (pc' := 103) dX5_run_102 rfl rfl rfl ?_
                refine T_iload_n (i := 2) (pc' := 104) dX5_run_103 rfl rfl rfl ?_
                refine T_iload (i := 5) (pc' := 106) dX5_run_104 rfl rfl ?_
                refine T_aload_n (i := 0) (pc' := 107) dX5_run_106 rfl rfl rfl ?_
                refine T_callV (av := []) (st := [(0, (wr32 (Int.tdiv (fX11_get M 7 1600 v3) 10000))), (0, v2), (2, 16), (2, 6)]) (d2 := 2) (nc2 := 0) (ns2 := 0) (pc' := 110) dX5_run_107 rfl mtX5_pop mvX5_pop mlX5_41 cl5 rfl rfl rfl (Nat.le_of_ble_eq_true rfl) (by decide) ⟨by decide, by decide⟩ rfl (pX5_pop (E := E) (h := h) (M := M) hG) (kF (st2 := [(0, (fX5_pop M)), (0, (wr32 (Int.tdiv (fX11_get M 7 1600 v3) 10000))), (0, v2), (2, 16), (2, 6)]) rfl (fun hG13 => ?_))
                obtain ⟨M14, eM14⟩ : ∃ m : Mem, m = (fmX5_pop M) := ⟨_, rfl⟩
                rw [← eM14] at hG13 ⊢
                replace H := H M14 eM14
                refine T_callS (av := [(2, 16), (0, v2), (0, (wr32 (Int.tdiv (fX11_get M 7 1600 v3) 10000))), (0, (fX5_pop M))]) (st := [(2, 6)]) (d2 := 3) (nc2 := 0) (ns2 := 0) (pc' := 113) dX5_run_110 rfl mtX5_ofOne mvX5_ofOne mlX5_45 rfl rfl (Nat.le_of_ble_eq_true rfl) (by decide) ⟨by decide, by decide⟩ rfl (pX5_ofOne (E := E) (h := h) (M := M14) (v1 := v2) (v2 := (wr32 (Int.tdiv (fX11_get M 7 1600 v3) 10000))) (v3 := (fX5_pop M)) hG13) (kF (st2 := [(0, (fX5_ofOne M14 v2 (wr32 (Int.tdiv (fX11_get M 7 1600 v3) 10000)) (fX5_pop M))), (2, 6)]) rfl (fun hG15 => ?_))
                refine T_callV (av := [(0, (fX5_ofOne M14 v2 (wr32 (Int.tdiv (fX11_get M 7 1600 v3) 10000)) (fX5_pop M)))]) (st := []) (d2 := 2) (nc2 := 0) (ns2 := 0) (pc' := 116) dX5_run_113 rfl mtX5_push mvX5_push mlX5_33 cl5 rfl rfl rfl (Nat.le_of_ble_eq_true rfl) (by decide) ⟨by decide, by decide⟩ rfl (pX5_push (E := E) (h := h) (M := M14) (v1 := (fX5_ofOne M14 v2 (wr32 (Int.tdiv (fX11_get M 7 1600 v3) 10000)) (fX5_pop M))) hG13) (kF (st2 := []) rfl (fun hG16 => ?_))
                obtain ⟨M17, eM17⟩ : ∃ m : Mem, m = (fmX5_push M14 (fX5_ofOne M14 v2 (wr32 (Int.tdiv (fX11_get M 7 1600 v3) 10000)) (fX5_pop M))) := ⟨_, rfl⟩
                rw [← eM17] at hG16 ⊢
                replace H := H M17 eM17
                refine T_goto (pc' := 144) dX5_run_116 (by decide) ?_
                refine T_iinc (L' := [(2, 6), (2, 16), (0, v2), (0, (wr32 (v3 + 1))), (0, (fX11_get M 7 1600 v3)), (0, (wr32 (Int.tdiv (fX11_get M 7 1600 v3) 10000))), (3, 0), (3, 0)]) (pc' := 147) dX5_run_144 rfl (by decide) rfl rfl ?_
                refine T_goto (pc' := 7) dX5_run_147 (by decide) ?_
                exact T_wk (L' := [(2, 6), (2, 16), (0, v2), (0, (wr32 (v3 + 1))), (3, 0), (3, 0), (3, 0), (3, 0)]) (ih _ _ H hG16) ⟨Or.inr rfl, Or.inr rfl, Or.inr rfl, Or.inr rfl, Or.inl rfl, Or.inl rfl, Or.inl rfl, Or.inl rfl, trivial⟩
              · skip
                replace H := H.2 c12
                refine T_iload (i := 5) (pc' := 96) dX5_run_94 rfl rfl ?_
                refine T_bipush (pc' := 98) dX5_run_96 rfl (by decide) rfl ?_
                refine T_icmp_ne (pc' := 119) dX5_run_98 (by decide) (pf := 101) rfl (fun c18 => ?_) (fun c18 => ?_)
                · skip
                  replace H := H.2 c18
                  refine T_aload_n (i := 0) (pc' := 120) dX5_run_119 rfl rfl rfl ?_
                  refine T_callV (av := []) (st := []) (d2 := 2) (nc2 := 0) (ns2 := 0) (pc' := 123) dX5_run_120 rfl mtX5_pop mvX5_pop mlX5_41 cl5 rfl rfl rfl (Nat.le_of_ble_eq_true rfl) (by decide) ⟨by decide, by decide⟩ rfl (pX5_pop (E := E) (h := h) (M := M) hG) (kF (st2 := [(0, (fX5_pop M))]) rfl (fun hG19 => ?_))
                  obtain ⟨M20, eM20⟩ : ∃ m : Mem, m = (fmX5_pop M) := ⟨_, rfl⟩
                  rw [← eM20] at hG19 ⊢
                  replace H := H M20 eM20
                  refine T_istore (i := 6) (L' := [(2, 6), (2, 16), (0, v2), (0, v3), (0, (fX11_get M 7 1600 v3)), (0, (wr32 (Int.tdiv (fX11_get M 7 1600 v3) 10000))), (0, (fX5_pop M)), (3, 0)]) (pc' := 125) dX5_run_123 (by decide) rfl rfl ?_
                  refine T_aload_n (i := 0) (pc' := 126) dX5_run_125 rfl rfl rfl ?_
                  refine T_callV (av := []) (st := []) (d2 := 2) (nc2 := 0) (ns2 := 0) (pc' := 129) dX5_run_126 rfl mtX5_pop mvX5_pop mlX5_41 cl5 rfl rfl rfl (Nat.le_of_ble_eq_true rfl) (by decide) ⟨by decide, by decide⟩ rfl (pX5_pop (E := E) (h := h) (M := M20) hG19) (kF (st2 := [(0, (fX5_pop M20))]) rfl (fun hG21 => ?_))
                  obtain ⟨M22, eM22⟩ : ∃ m : Mem, m = (fmX5_pop M20) := ⟨_, rfl⟩
                  rw [← eM22] at hG21 ⊢
                  replace H := H M22 eM22
                  refine T_istore (i := 7) (L' := [(2, 6), (2, 16), (0, v2), (0, v3), (0, (fX11_get M 7 1600 v3)), (0, (wr32 (Int.tdiv (fX11_get M 7 1600 v3) 10000))), (0, (fX5_pop M)), (0, (fX5_pop M20))]) (pc' := 131) dX5_run_129 (by decide) rfl rfl ?_
                  refine T_aload_n (i := 0) (pc' := 132) dX5_run_131 rfl rfl rfl ?_
                  refine T_iload (i := 5) (pc' := 134) dX5_run_132 rfl rfl ?_
                  refine T_iload (i := 7) (pc' := 136) dX5_run_134 rfl rfl ?_
                  refine T_iload (i := 6) (pc' := 138) dX5_run_136 rfl rfl ?_
                  refine T_callS (av := [(0, (wr32 (Int.tdiv (fX11_get M 7 1600 v3) 10000))), (0, (fX5_pop M20)), (0, (fX5_pop M))]) (st := [(2, 6)]) (d2 := 3) (nc2 := 0) (ns2 := 0) (pc' := 141) dX5_run_138 rfl mtX5_ofTwo mvX5_ofTwo mlX5_49 rfl rfl (Nat.le_of_ble_eq_true rfl) (by decide) ⟨by decide, by decide⟩ rfl (pX5_ofTwo (E := E) (h := h) (M := M22) (v0 := (wr32 (Int.tdiv (fX11_get M 7 1600 v3) 10000))) (v1 := (fX5_pop M20)) (v2 := (fX5_pop M)) hG21) (kF (st2 := [(0, (fX5_ofTwo (wr32 (Int.tdiv (fX11_get M 7 1600 v3) 10000)) (fX5_pop M20) (fX5_pop M))), (2, 6)]) rfl (fun hG23 => ?_))
                  obtain ⟨a24, ea24⟩ : ∃ z : Int, z = (fX5_ofTwo (wr32 (Int.tdiv (fX11_get M 7 1600 v3) 10000)) (fX5_pop M20) (fX5_pop M)) := ⟨_, rfl⟩
                  rw [← ea24]
                  replace H := H a24 ea24
                  refine T_callV (av := [(0, a24)]) (st := []) (d2 := 2) (nc2 := 0) (ns2 := 0) (pc' := 144) dX5_run_141 rfl mtX5_push mvX5_push mlX5_33 cl5 rfl rfl rfl (Nat.le_of_ble_eq_true rfl) (by decide) ⟨by decide, by decide⟩ rfl (pX5_push (E := E) (h := h) (M := M22) (v1 := a24) hG21) (kF (st2 := []) rfl (fun hG25 => ?_))
                  obtain ⟨M26, eM26⟩ : ∃ m : Mem, m = (fmX5_push M22 a24) := ⟨_, rfl⟩
                  rw [← eM26] at hG25 ⊢
                  replace H := H M26 eM26
                  refine T_iinc (L' := [(2, 6), (2, 16), (0, v2), (0, (wr32 (v3 + 1))), (0, (fX11_get M 7 1600 v3)), (0, (wr32 (Int.tdiv (fX11_get M 7 1600 v3) 10000))), (0, (fX5_pop M)), (0, (fX5_pop M20))]) (pc' := 147) dX5_run_144 rfl (by decide) rfl rfl ?_
                  refine T_goto (pc' := 7) dX5_run_147 (by decide) ?_
                  exact T_wk (L' := [(2, 6), (2, 16), (0, v2), (0, (wr32 (v3 + 1))), (3, 0), (3, 0), (3, 0), (3, 0)]) (ih _ _ H hG25) ⟨Or.inr rfl, Or.inr rfl, Or.inr rfl, Or.inr rfl, Or.inl rfl, Or.inl rfl, Or.inl rfl, Or.inl rfl, trivial⟩
                · skip
                  replace H := H.1 c18
                  refine T_aload_n (i := 0) (pc' := 102) dX5_run_101 rfl rfl rfl ?_
                  refine T_aload_n (i := 1) (pc' := 103) dX5_run_102 rfl rfl rfl ?_
                  refine T_iload_n (i := 2) (pc' := 104) dX5_run_103 rfl rfl rfl ?_
                  refine T_iload (i := 5) (pc' := 106) dX5_run_104 rfl rfl ?_
                  refine T_aload_n (i := 0) (pc' := 107) dX5_run_106 rfl rfl rfl ?_
                  refine T_callV (av := []) (st := [(0, (wr32 (Int.tdiv (fX11_get M 7 1600 v3) 10000))), (0, v2), (2, 16), (2, 6)]) (d2 := 2) (nc2 := 0) (ns2 := 0) (pc' := 110) dX5_run_107 rfl mtX5_pop mvX5_pop mlX5_41 cl5 rfl rfl rfl (Nat.le_of_ble_eq_true rfl) (by decide) ⟨by decide, by decide⟩ rfl (pX5_pop (E := E) (h := h) (M := M) hG) (kF (st2 := [(0, (fX5_pop M)), (0, (wr32 (Int.tdiv (fX11_get M 7 1600 v3) 10000))), (0, v2), (2, 16), (2, 6)]) rfl (fun hG27 => ?_))
                  obtain ⟨M28, eM28⟩ : ∃ m : Mem, m = (fmX5_pop M) := ⟨_, rfl⟩
                  rw [← eM28] at hG27 ⊢
                  replace H := H M28 eM28
                  refine T_callS (av := [(2, 16), (0, v2), (0, (wr32 (Int.tdiv (fX11_get M 7 1600 v3) 10000))), (0, (fX5_pop M))]) (st := [(2, 6)]) (d2 := 3) (nc2 := 0) (ns2 := 0) (pc' := 113) dX5_run_110 rfl mtX5_ofOne mvX5_ofOne mlX5_45 rfl rfl (Nat.le_of_ble_eq_true rfl) (by decide) ⟨by decide, by decide⟩ rfl (pX5_ofOne (E := E) (h := h) (M := M28) (v1 := v2) (v2 := (wr32 (Int.tdiv (fX11_get M 7 1600 v3) 10000))) (v3 := (fX5_pop M)) hG27) (kF (st2 := [(0, (fX5_ofOne M28 v2 (wr32 (Int.tdiv (fX11_get M 7 1600 v3) 10000)) (fX5_pop M))), (2, 6)]) rfl (fun hG29 => ?_))
                  refine T_callV (av := [(0, (fX5_ofOne M28 v2 (wr32 (Int.tdiv (fX11_get M 7 1600 v3) 10000)) (fX5_pop M)))]) (st := []) (d2 := 2) (nc2 := 0) (ns2 := 0) (pc' := 116) dX5_run_113 rfl mtX5_push mvX5_push mlX5_33 cl5 rfl rfl rfl (Nat.le_of_ble_eq_true rfl) (by decide) ⟨by decide, by decide⟩ rfl (pX5_push (E := E) (h := h) (M := M28) (v1 := (fX5_ofOne M28 v2 (wr32 (Int.tdiv (fX11_get M 7 1600 v3) 10000)) (fX5_pop M))) hG27) (kF (st2 := []) rfl (fun hG30 => ?_))
                  obtain ⟨M31, eM31⟩ : ∃ m : Mem, m = (fmX5_push M28 (fX5_ofOne M28 v2 (wr32 (Int.tdiv (fX11_get M 7 1600 v3) 10000)) (fX5_pop M))) := ⟨_, rfl⟩
                  rw [← eM31] at hG30 ⊢
                  replace H := H M31 eM31
                  refine T_goto (pc' := 144) dX5_run_116 (by decide) ?_
                  refine T_iinc (L' := [(2, 6), (2, 16), (0, v2), (0, (wr32 (v3 + 1))), (0, (fX11_get M 7 1600 v3)), (0, (wr32 (Int.tdiv (fX11_get M 7 1600 v3) 10000))), (3, 0), (3, 0)]) (pc' := 147) dX5_run_144 rfl (by decide) rfl rfl ?_
                  refine T_goto (pc' := 7) dX5_run_147 (by decide) ?_
                  exact T_wk (L' := [(2, 6), (2, 16), (0, v2), (0, (wr32 (v3 + 1))), (3, 0), (3, 0), (3, 0), (3, 0)]) (ih _ _ H hG30) ⟨Or.inr rfl, Or.inr rfl, Or.inr rfl, Or.inr rfl, Or.inl rfl, Or.inl rfl, Or.inl rfl, Or.inl rfl, trivial⟩
          · skip
            replace H := H.2 c5
            refine T_aload_n (i := 0) (pc' := 67) dX5_run_66 rfl rfl rfl ?_
            refine T_aload_n (i := 1) (pc' := 68) dX5_run_67 rfl rfl rfl ?_
            refine T_iload_n (i := 2) (pc' := 69) dX5_run_68 rfl rfl rfl ?_
            refine T_iload (i := 5) (pc' := 71) dX5_run_69 rfl rfl ?_
            refine T_callS (av := [(2, 16), (0, v2), (0, (wr32 (Int.tdiv (fX11_get M 7 1600 v3) 10000)))]) (st := [(2, 6)]) (d2 := 3) (nc2 := 0) (ns2 := 0) (pc' := 74) dX5_run_71 rfl mtX5_plain mvX5_plain mlX5_37 rfl rfl (Nat.le_of_ble_eq_true rfl) (by decide) ⟨by decide, by decide⟩ rfl (pX5_plain (E := E) (h := h) (M := M) (v1 := v2) (v2 := (wr32 (Int.tdiv (fX11_get M 7 1600 v3) 10000))) hG) (kF (st2 := [(0, (fX5_plain M v2 (wr32 (Int.tdiv (fX11_get M 7 1600 v3) 10000)))), (2, 6)]) rfl (fun hG32 => ?_))
            obtain ⟨a33, ea33⟩ : ∃ z : Int, z = (fX5_plain M v2 (wr32 (Int.tdiv (fX11_get M 7 1600 v3) 10000))) := ⟨_, rfl⟩
            rw [← ea33]
            replace H := H a33 ea33
            refine T_callV (av := [(0, a33)]) (st := []) (d2 := 2) (nc2 := 0) (ns2 := 0) (pc' := 77) dX5_run_74 rfl mtX5_push mvX5_push mlX5_33 cl5 rfl rfl rfl (Nat.le_of_ble_eq_true rfl) (by decide) ⟨by decide, by decide⟩ rfl (pX5_push (E := E) (h := h) (M := M) (v1 := a33) hG) (kF (st2 := []) rfl (fun hG34 => ?_))
            obtain ⟨M35, eM35⟩ : ∃ m : Mem, m = (fmX5_push M a33) := ⟨_, rfl⟩
            rw [← eM35] at hG34 ⊢
            replace H := H M35 eM35
            refine T_goto (pc' := 144) dX5_run_77 (by decide) ?_
            refine T_iinc (L' := [(2, 6), (2, 16), (0, v2), (0, (wr32 (v3 + 1))), (0, (fX11_get M 7 1600 v3)), (0, (wr32 (Int.tdiv (fX11_get M 7 1600 v3) 10000))), (3, 0), (3, 0)]) (pc' := 147) dX5_run_144 rfl (by decide) rfl rfl ?_
            refine T_goto (pc' := 7) dX5_run_147 (by decide) ?_
            exact T_wk (L' := [(2, 6), (2, 16), (0, v2), (0, (wr32 (v3 + 1))), (3, 0), (3, 0), (3, 0), (3, 0)]) (ih _ _ H hG34) ⟨Or.inr rfl, Or.inr rfl, Or.inr rfl, Or.inr rfl, Or.inl rfl, Or.inl rfl, Or.inl rfl, Or.inl rfl, trivial⟩
        · skip
          replace H := H.1 c4
          refine T_aload_n (i := 0) (pc' := 48) dX5_run_47 rfl rfl rfl ?_
          refine T_iload (i := 4) (pc' := 50) dX5_run_48 rfl rfl ?_
          refine T_sipush (pc' := 53) dX5_run_50 rfl (by decide) rfl ?_
          refine T_irem (pc' := 54) dX5_run_53 (by decide) rfl ?_
          refine T_callV (av := [(0, (Int.tmod (fX11_get M 7 1600 v3) 10000))]) (st := []) (d2 := 2) (nc2 := 0) (ns2 := 0) (pc' := 57) dX5_run_54 rfl mtX5_push mvX5_push mlX5_33 cl5 rfl rfl rfl (Nat.le_of_ble_eq_true rfl) (by decide) ⟨by decide, by decide⟩ rfl (pX5_push (E := E) (h := h) (M := M) (v1 := (Int.tmod (fX11_get M 7 1600 v3) 10000)) hG) (kF (st2 := []) rfl (fun hG36 => ?_))
          obtain ⟨M37, eM37⟩ : ∃ m : Mem, m = (fmX5_push M (Int.tmod (fX11_get M 7 1600 v3) 10000)) := ⟨_, rfl⟩
          rw [← eM37] at hG36 ⊢
          replace H := H M37 eM37
          refine T_goto (pc' := 144) dX5_run_57 (by decide) ?_
          refine T_iinc (L' := [(2, 6), (2, 16), (0, v2), (0, (wr32 (v3 + 1))), (0, (fX11_get M 7 1600 v3)), (0, (wr32 (Int.tdiv (fX11_get M 7 1600 v3) 10000))), (3, 0), (3, 0)]) (pc' := 147) dX5_run_144 rfl (by decide) rfl rfl ?_
          refine T_goto (pc' := 7) dX5_run_147 (by decide) ?_
          exact T_wk (L' := [(2, 6), (2, 16), (0, v2), (0, (wr32 (v3 + 1))), (3, 0), (3, 0), (3, 0), (3, 0)]) (ih _ _ H hG36) ⟨Or.inr rfl, Or.inr rfl, Or.inr rfl, Or.inr rfl, Or.inl rfl, Or.inl rfl, Or.inl rfl, Or.inl rfl, trivial⟩
set_option maxRecDepth 100000 in
set_option maxHeartbeats 2000000 in
theorem pX5_run {E : EV} {h : Int} {M : Mem} {v2 : Int}  {Q : Int → Mem → Prop} (H : PX5_run v2 M Q) : C2 E miX5_run 4 h [(2, 6), (2, 16), (0, v2)] M (RI 0 Q) := by
  refine C2_of (L := [(2, 6), (2, 16), (0, v2), (3, 0), (3, 0), (3, 0), (3, 0), (3, 0)]) (by decide +kernel) (Nat.le_of_ble_eq_true rfl) rfl (fun hG => ?_)
  refine T_aload_n (i := 0) (pc' := 1) dX5_run_0 rfl rfl rfl ?_
  refine T_iconst (pc' := 2) dX5_run_1 (by decide) rfl ?_
  refine U_pf (y := 0) (k := 3) (kI := 3) (pc' := 5) dX5_run_2 rfl cl5 (by decide) rfl (by decide) flX5_22 rfl rfl rfl rfl rfl (by decide) (fun z => z) rfl ?_
  have hG1 := (G_fld (x := 6) (i := 3) (y := 0) rfl (by decide) (by decide) (by decide) hG)
  obtain ⟨M2, eM2⟩ : ∃ m : Mem, m = (mset M 6 3 0) := ⟨_, rfl⟩
  rw [← eM2] at hG1 ⊢
  replace H := H M2 eM2
  refine T_iconst (pc' := 6) dX5_run_5 (by decide) rfl ?_
  refine T_istore_n (i := 3) (L' := [(2, 6), (2, 16), (0, v2), (0, 0), (3, 0), (3, 0), (3, 0), (3, 0)]) (pc' := 7) dX5_run_6 rfl (by decide) rfl rfl ?_
  obtain ⟨k3, H⟩ := H
  refine T_wk (L' := [(2, 6), (2, 16), (0, v2), (0, 0), (3, 0), (3, 0), (3, 0), (3, 0)]) (qX5_run_7 (v2 := v2) (fun M4 H hG5 => ?_) _ _ _ H hG1) ⟨Or.inr rfl, Or.inr rfl, Or.inr rfl, Or.inr rfl, Or.inl rfl, Or.inl rfl, Or.inl rfl, Or.inl rfl, trivial⟩
  refine T_aload_n (i := 0) (pc' := 151) dX5_run_150 rfl rfl rfl ?_
  refine T_callV (av := []) (st := []) (d2 := 2) (nc2 := 0) (ns2 := 0) (pc' := 154) dX5_run_151 rfl mtX5_pop mvX5_pop mlX5_41 cl5 rfl rfl rfl (Nat.le_of_ble_eq_true rfl) (by decide) ⟨by decide, by decide⟩ rfl (pX5_pop (E := E) (h := h) (M := M4) hG5) (kF (st2 := [(0, (fX5_pop M4))]) rfl (fun hG6 => ?_))
  obtain ⟨M7, eM7⟩ : ∃ m : Mem, m = (fmX5_pop M4) := ⟨_, rfl⟩
  rw [← eM7] at hG6 ⊢
  replace H := H M7 eM7
  exact T_iret dX5_run_154 rfl ⟨rfl, hG6, _, rfl, H⟩
def PX6_takeOpening (v1 : Int) (M : Mem) (Q : Int → Mem → Prop) : Prop :=
  (((fX9_isSign M 40) = 0 → (∀ M10 : Mem, M10 = (fmX9_unasked M) → ((fX9_unasked : Int) = 0 ∨ (fX9_unasked : Int) = 1) ∧ Q fX9_unasked M10)) ∧ (¬ ((fX9_isSign M 40) = 0) → (∀ M4 : Mem, M4 = (fmX6_deeper M v1) → (((fX6_deeper v1) = 0 → Q 0 M4) ∧ (¬ ((fX6_deeper v1) = 0) → PX9_next M4 (fun _ M7 => Q 1 M7))))))
set_option maxRecDepth 100000 in
set_option maxHeartbeats 2000000 in
theorem pX6_takeOpening {E : EV} {h : Int} {M : Mem} {v1 : Int}  {Q : Int → Mem → Prop} (H : PX6_takeOpening v1 M Q) : C2 E miX6_takeOpening 3 h [(2, 5), (0, v1)] M (RI 0 Q) := by
  refine C2_of (L := [(2, 5), (0, v1)]) (by decide +kernel) (Nat.le_of_ble_eq_true rfl) rfl (fun hG => ?_)
  refine T_aload_n (i := 0) (pc' := 1) dX6_takeOpening_0 rfl rfl rfl ?_
  refine U_gr (q := 3) (k := 0) (kI := 0) (pc' := 4) dX6_takeOpening_1 rfl cl6 (by decide) rfl (by decide) flX6_9 rfl rfl rfl (G_at hG 12 rfl) (by decide) rfl ?_
  refine T_bipush (pc' := 6) dX6_takeOpening_4 rfl (by decide) rfl ?_
  refine T_callV (av := [(0, 40)]) (st := []) (d2 := 2) (nc2 := 0) (ns2 := 0) (pc' := 9) dX6_takeOpening_6 rfl mtX9_isSign mvX9_isSign mlX6_83 cl9 rfl rfl rfl (Nat.le_of_ble_eq_true rfl) (by decide) ⟨by decide, by decide⟩ rfl (pX9_isSign (E := E) (h := h) (M := M) (v1 := 40) hG) (kF (st2 := [(0, (fX9_isSign M 40))]) rfl (fun hG1 => ?_))
  refine T_if_ne (pc' := 20) dX6_takeOpening_9 (by decide) (pf := 12) rfl (fun c2 => ?_) (fun c2 => ?_)
  · skip
    replace H := H.2 c2
    refine T_aload_n (i := 0) (pc' := 21) dX6_takeOpening_20 rfl rfl rfl ?_
    refine T_iload_n (i := 1) (pc' := 22) dX6_takeOpening_21 rfl rfl rfl ?_
    refine T_callV (av := [(0, v1)]) (st := []) (d2 := 2) (nc2 := 0) (ns2 := 0) (pc' := 25) dX6_takeOpening_22 rfl mtX6_deeper mvX6_deeper mlX6_80 cl6 rfl rfl rfl (Nat.le_of_ble_eq_true rfl) (by decide) ⟨by decide, by decide⟩ rfl (pX6_deeper (E := E) (h := h) (M := M) (v1 := v1) hG) (kF (st2 := [(0, (fX6_deeper v1))]) rfl (fun hG3 => ?_))
    obtain ⟨M4, eM4⟩ : ∃ m : Mem, m = (fmX6_deeper M v1) := ⟨_, rfl⟩
    rw [← eM4] at hG3 ⊢
    replace H := H M4 eM4
    refine T_if_ne (pc' := 30) dX6_takeOpening_25 (by decide) (pf := 28) rfl (fun c5 => ?_) (fun c5 => ?_)
    · skip
      replace H := H.2 c5
      refine T_aload_n (i := 0) (pc' := 31) dX6_takeOpening_30 rfl rfl rfl ?_
      refine U_gr (q := 3) (k := 0) (kI := 0) (pc' := 34) dX6_takeOpening_31 rfl cl6 (by decide) rfl (by decide) flX6_9 rfl rfl rfl (G_at hG3 12 rfl) (by decide) rfl ?_
      refine T_callV (av := []) (st := []) (d2 := 2) (nc2 := 0) (ns2 := 0) (pc' := 37) dX6_takeOpening_34 rfl mtX9_next mvX9_next mlX6_44 cl9 rfl rfl rfl (Nat.le_of_ble_eq_true rfl) (by decide) ⟨by decide, by decide⟩ rfl (pX9_next (E := E) (h := h) (M := M4) H hG3) ?_
      rintro _ _ M7 ⟨rfl, hG8, rfl, H⟩ _
      refine T_iconst (pc' := 38) dX6_takeOpening_37 (by decide) rfl ?_
      exact T_zret dX6_takeOpening_38 rfl (by decide) ⟨rfl, hG8, _, rfl, H⟩
    · skip
      replace H := H.1 c5
      refine T_iconst (pc' := 29) dX6_takeOpening_28 (by decide) rfl ?_
      exact T_zret dX6_takeOpening_29 rfl (by decide) ⟨rfl, hG3, _, rfl, H⟩
  · skip
    replace H := H.1 c2
    refine T_aload_n (i := 0) (pc' := 13) dX6_takeOpening_12 rfl rfl rfl ?_
    refine U_gr (q := 3) (k := 0) (kI := 0) (pc' := 16) dX6_takeOpening_13 rfl cl6 (by decide) rfl (by decide) flX6_9 rfl rfl rfl (G_at hG 12 rfl) (by decide) rfl ?_
    refine T_callV (av := []) (st := []) (d2 := 2) (nc2 := 0) (ns2 := 0) (pc' := 19) dX6_takeOpening_16 rfl mtX9_unasked mvX9_unasked mlX6_40 cl9 rfl rfl rfl (Nat.le_of_ble_eq_true rfl) (by decide) ⟨by decide, by decide⟩ rfl (pX9_unasked (E := E) (h := h) (M := M) hG) (kF (st2 := [(0, fX9_unasked)]) rfl (fun hG9 => ?_))
    obtain ⟨M10, eM10⟩ : ∃ m : Mem, m = (fmX9_unasked M) := ⟨_, rfl⟩
    rw [← eM10] at hG9 ⊢
    replace H := H M10 eM10
    obtain ⟨z1, H⟩ := H
    exact T_zret dX6_takeOpening_19 rfl z1 ⟨rfl, hG9, _, rfl, H⟩
def PX6_takeTest_12 (v1 : Int) (R : Nat → Int → Mem → (Int → Mem → Prop) → Prop) (K : Mem → Prop) (Q : Int → Mem → Prop) : Nat → Int → Mem → Prop
  | 0 => fun _ _ => False
  | k + 1 => fun v2 M => ((1600 ≤ v2 → K M) ∧ (¬ (1600 ≤ v2) → (∀ a3 : Int, a3 = (fX9_find M 1014 14) → ((a3 = 0 → PX9_next M (fun _ M6 => R 1 v1 M6 (fun a8 M9 => ((a8 = 0 → Q 0 M9) ∧ (¬ (a8 = 0) → (∀ M13 : Mem, M13 = (fmX5_add M9 18 0) → PX6_takeTest_12 v1 R K Q k (wr32 (v2 + 1)) M13)))))) ∧ (¬ (a3 = 0) → K M)))))
def PX6_takeTest (R : Nat → Int → Mem → (Int → Mem → Prop) → Prop) (v1 : Int) (M : Mem) (Q : Int → Mem → Prop) : Prop :=
  R 1 v1 M (fun a1 M2 => ((a1 = 0 → Q 0 M2) ∧ (¬ (a1 = 0) → (∃ k5 : Nat, PX6_takeTest_12 v1 R (fun M6 => Q 1 M6) Q k5 0 M2))))
set_option maxRecDepth 100000 in
set_option maxHeartbeats 2000000 in
theorem qX6_takeTest_12 {E : EV} {h : Int} {v1 : Int} {R : Nat → Int → Mem → (Int → Mem → Prop) → Prop}  {D : Nat} (hD : 20 ≤ D) (hRX6_takeTest : ∀ v1 M (Q : Int → Mem → Prop), R 0 v1 M Q → C2 E miX6_takeTest D h [(2, 5), (0, v1)] M (RI 0 Q)) (hRX6_takeBoth : ∀ v1 M (Q : Int → Mem → Prop), R 1 v1 M Q → C2 E miX6_takeBoth D h [(2, 5), (0, v1)] M (RI 0 Q)) (hRX6_takeFact : ∀ v1 M (Q : Int → Mem → Prop), R 2 v1 M Q → C2 E miX6_takeFact D h [(2, 5), (0, v1)] M (RI 0 Q)) (hRX6_takeComparison : ∀ v1 M (Q : Int → Mem → Prop), R 3 v1 M Q → C2 E miX6_takeComparison D h [(2, 5), (0, v1)] M (RI 0 Q)) (hRX6_takeSum : ∀ v1 M (Q : Int → Mem → Prop), R 4 v1 M Q → C2 E miX6_takeSum D h [(2, 5), (0, v1)] M (RI 0 Q)) (hRX6_takeProduct : ∀ v1 M (Q : Int → Mem → Prop), R 5 v1 M Q → C2 E miX6_takeProduct D h [(2, 5), (0, v1)] M (RI 0 Q)) (hRX6_takePart : ∀ v1 M (Q : Int → Mem → Prop), R 6 v1 M Q → C2 E miX6_takePart D h [(2, 5), (0, v1)] M (RI 0 Q)) (hRX6_takePair : ∀ v1 M (Q : Int → Mem → Prop), R 7 v1 M Q → C2 E miX6_takePair D h [(2, 5), (0, v1)] M (RI 0 Q)) {K : Mem → Prop} {Q : Int → Mem → Prop} (hK : ∀ (M : Mem), K M → G h M → TG E miX6_takeTest (D + 1) h (RI 0 Q) 64 [(2, 5), (3, 0), (3, 0)] [] M) : ∀ (k : Nat) (v2 : Int) (M : Mem), PX6_takeTest_12 v1 R K Q k v2 M → G h M → TG E miX6_takeTest (D + 1) h (RI 0 Q) 12 [(2, 5), (0, v1), (0, v2)] [] M := by
  intro k
  induction k with
  | zero =>
    intro v2 M H
    exact False.elim H
  | succ k ih =>
    intro v2 M H hG
    refine T_iload_n (i := 2) (pc' := 13) dX6_takeTest_12 rfl rfl rfl ?_
    refine T_sipush (pc' := 16) dX6_takeTest_13 rfl (by decide) rfl ?_
    refine T_icmp_ge (pc' := 64) dX6_takeTest_16 (by decide) (pf := 19) rfl (fun c1 => ?_) (fun c1 => ?_)
    · skip
      replace H := H.1 c1
      exact T_wk (L' := [(2, 5), (3, 0), (3, 0)]) (hK _ H hG) ⟨Or.inr rfl, Or.inl rfl, Or.inl rfl, trivial⟩
    · skip
      replace H := H.2 c1
      refine T_aload_n (i := 0) (pc' := 20) dX6_takeTest_19 rfl rfl rfl ?_
      refine U_gr (q := 3) (k := 0) (kI := 0) (pc' := 23) dX6_takeTest_20 rfl cl6 (by decide) rfl (by decide) flX6_9 rfl rfl rfl (G_at hG 12 rfl) (by decide) rfl ?_
      refine T_ldcS (i := 14) (x := 1014) (pc' := 25) dX6_takeTest_23 rfl rfl rfl rfl ?_
      refine T_callV (av := [(2, 1014)]) (st := []) (d2 := 6) (nc2 := 0) (ns2 := 0) (pc' := 28) dX6_takeTest_25 rfl mtX9_find mvX9_find mlX6_36 cl9 rfl rfl rfl (Nat.le_of_ble_eq_true rfl) (by omega) ⟨by decide, by decide⟩ rfl (pX9_find (E := E) (h := h) (M := M) (p1 := 1014) (s1 := 14) (by decide) rfl hG) (kF (st2 := [(0, (fX9_find M 1014 14))]) rfl (fun hG2 => ?_))
      obtain ⟨a3, ea3⟩ : ∃ z : Int, z = (fX9_find M 1014 14) := ⟨_, rfl⟩
      rw [← ea3]
      replace H := H a3 ea3
      refine T_if_ne (pc' := 64) dX6_takeTest_28 (by decide) (pf := 31) rfl (fun c4 => ?_) (fun c4 => ?_)
      · skip
        replace H := H.2 c4
        exact T_wk (L' := [(2, 5), (3, 0), (3, 0)]) (hK _ H hG) ⟨Or.inr rfl, Or.inl rfl, Or.inl rfl, trivial⟩
      · skip
        replace H := H.1 c4
        refine T_aload_n (i := 0) (pc' := 32) dX6_takeTest_31 rfl rfl rfl ?_
        refine U_gr (q := 3) (k := 0) (kI := 0) (pc' := 35) dX6_takeTest_32 rfl cl6 (by decide) rfl (by decide) flX6_9 rfl rfl rfl (G_at hG 12 rfl) (by decide) rfl ?_
        refine T_callV (av := []) (st := []) (d2 := 2) (nc2 := 0) (ns2 := 0) (pc' := 38) dX6_takeTest_35 rfl mtX9_next mvX9_next mlX6_44 cl9 rfl rfl rfl (Nat.le_of_ble_eq_true rfl) (by omega) ⟨by decide, by decide⟩ rfl (pX9_next (E := E) (h := h) (M := M) H hG) ?_
        rintro _ _ M6 ⟨rfl, hG7, rfl, H⟩ _
        refine T_aload_n (i := 0) (pc' := 39) dX6_takeTest_38 rfl rfl rfl ?_
        refine T_iload_n (i := 1) (pc' := 40) dX6_takeTest_39 rfl rfl rfl ?_
        refine T_callV (av := [(0, v1)]) (st := []) (d2 := D) (nc2 := 0) (ns2 := 0) (pc' := 43) dX6_takeTest_40 rfl mtX6_takeBoth mvX6_takeBoth mlX6_64 cl6 rfl rfl rfl (Nat.le_of_ble_eq_true rfl) (by omega) ⟨by decide, by decide⟩ rfl (hRX6_takeBoth _ _ _ H hG7) ?_
        rintro _ _ M9 ⟨rfl, hG10, a8, rfl, H⟩ _
        refine T_if_ne (pc' := 48) dX6_takeTest_43 (by decide) (pf := 46) rfl (fun c11 => ?_) (fun c11 => ?_)
        · skip
          replace H := H.2 c11
          refine T_aload_n (i := 0) (pc' := 49) dX6_takeTest_48 rfl rfl rfl ?_
          refine U_gr (q := 6) (k := 1) (kI := 1) (pc' := 52) dX6_takeTest_49 rfl cl6 (by decide) rfl (by decide) flX6_18 rfl rfl rfl (G_at hG10 13 rfl) (by decide) rfl ?_
          refine T_bipush (pc' := 54) dX6_takeTest_52 rfl (by decide) rfl ?_
          refine T_iconst (pc' := 55) dX6_takeTest_54 (by decide) rfl ?_
          refine T_callV (av := [(0, 18), (0, 0)]) (st := []) (d2 := 2) (nc2 := 0) (ns2 := 0) (pc' := 58) dX6_takeTest_55 rfl mtX5_add mvX5_add mlX6_69 cl5 rfl rfl rfl (Nat.le_of_ble_eq_true rfl) (by omega) ⟨by decide, by decide⟩ rfl (pX5_add (E := E) (h := h) (M := M9) (v1 := 18) (v2 := 0) hG10) (kF (st2 := []) rfl (fun hG12 => ?_))
          obtain ⟨M13, eM13⟩ : ∃ m : Mem, m = (fmX5_add M9 18 0) := ⟨_, rfl⟩
          rw [← eM13] at hG12 ⊢
          replace H := H M13 eM13
          refine T_iinc (L' := [(2, 5), (0, v1), (0, (wr32 (v2 + 1)))]) (pc' := 61) dX6_takeTest_58 rfl (by decide) rfl rfl ?_
          refine T_goto (pc' := 12) dX6_takeTest_61 (by decide) ?_
          exact T_wk (L' := [(2, 5), (0, v1), (0, (wr32 (v2 + 1)))]) (ih _ _ H hG12) ⟨Or.inr rfl, Or.inr rfl, Or.inr rfl, trivial⟩
        · skip
          replace H := H.1 c11
          refine T_iconst (pc' := 47) dX6_takeTest_46 (by decide) rfl ?_
          exact T_zret dX6_takeTest_47 rfl (by decide) ⟨rfl, hG10, _, rfl, H⟩
set_option maxRecDepth 100000 in
set_option maxHeartbeats 2000000 in
theorem pX6_takeTest {E : EV} {h : Int} {M : Mem} {v1 : Int}  {R : Nat → Int → Mem → (Int → Mem → Prop) → Prop} {D : Nat} (hD : 20 ≤ D) (hRX6_takeTest : ∀ v1 M (Q : Int → Mem → Prop), R 0 v1 M Q → C2 E miX6_takeTest D h [(2, 5), (0, v1)] M (RI 0 Q)) (hRX6_takeBoth : ∀ v1 M (Q : Int → Mem → Prop), R 1 v1 M Q → C2 E miX6_takeBoth D h [(2, 5), (0, v1)] M (RI 0 Q)) (hRX6_takeFact : ∀ v1 M (Q : Int → Mem → Prop), R 2 v1 M Q → C2 E miX6_takeFact D h [(2, 5), (0, v1)] M (RI 0 Q)) (hRX6_takeComparison : ∀ v1 M (Q : Int → Mem → Prop), R 3 v1 M Q → C2 E miX6_takeComparison D h [(2, 5), (0, v1)] M (RI 0 Q)) (hRX6_takeSum : ∀ v1 M (Q : Int → Mem → Prop), R 4 v1 M Q → C2 E miX6_takeSum D h [(2, 5), (0, v1)] M (RI 0 Q)) (hRX6_takeProduct : ∀ v1 M (Q : Int → Mem → Prop), R 5 v1 M Q → C2 E miX6_takeProduct D h [(2, 5), (0, v1)] M (RI 0 Q)) (hRX6_takePart : ∀ v1 M (Q : Int → Mem → Prop), R 6 v1 M Q → C2 E miX6_takePart D h [(2, 5), (0, v1)] M (RI 0 Q)) (hRX6_takePair : ∀ v1 M (Q : Int → Mem → Prop), R 7 v1 M Q → C2 E miX6_takePair D h [(2, 5), (0, v1)] M (RI 0 Q)) {Q : Int → Mem → Prop} (H : PX6_takeTest R v1 M Q) : C2 E miX6_takeTest (D + 1) h [(2, 5), (0, v1)] M (RI 0 Q) := by
  refine C2_of (L := [(2, 5), (0, v1), (3, 0)]) (by decide +kernel) (Nat.le_of_ble_eq_true rfl) rfl (fun hG => ?_)
  refine T_aload_n (i := 0) (pc' := 1) dX6_takeTest_0 rfl rfl rfl ?_
  refine T_iload_n (i := 1) (pc' := 2) dX6_takeTest_1 rfl rfl rfl ?_
  refine T_callV (av := [(0, v1)]) (st := []) (d2 := D) (nc2 := 0) (ns2 := 0) (pc' := 5) dX6_takeTest_2 rfl mtX6_takeBoth mvX6_takeBoth mlX6_64 cl6 rfl rfl rfl (Nat.le_of_ble_eq_true rfl) (by omega) ⟨by decide, by decide⟩ rfl (hRX6_takeBoth _ _ _ H hG) ?_
  rintro _ _ M2 ⟨rfl, hG3, a1, rfl, H⟩ _
  refine T_if_ne (pc' := 10) dX6_takeTest_5 (by decide) (pf := 8) rfl (fun c4 => ?_) (fun c4 => ?_)
  · skip
    replace H := H.2 c4
    refine T_iconst (pc' := 11) dX6_takeTest_10 (by decide) rfl ?_
    refine T_istore_n (i := 2) (L' := [(2, 5), (0, v1), (0, 0)]) (pc' := 12) dX6_takeTest_11 rfl (by decide) rfl rfl ?_
    obtain ⟨k5, H⟩ := H
    refine T_wk (L' := [(2, 5), (0, v1), (0, 0)]) (qX6_takeTest_12 (v1 := v1) hD hRX6_takeTest hRX6_takeBoth hRX6_takeFact hRX6_takeComparison hRX6_takeSum hRX6_takeProduct hRX6_takePart hRX6_takePair (fun M6 H hG7 => ?_) _ _ _ H hG3) ⟨Or.inr rfl, Or.inr rfl, Or.inr rfl, trivial⟩
    refine T_iconst (pc' := 65) dX6_takeTest_64 (by decide) rfl ?_
    exact T_zret dX6_takeTest_65 rfl (by decide) ⟨rfl, hG7, _, rfl, H⟩
  · skip
    replace H := H.1 c4
    refine T_iconst (pc' := 9) dX6_takeTest_8 (by decide) rfl ?_
    exact T_zret dX6_takeTest_9 rfl (by decide) ⟨rfl, hG3, _, rfl, H⟩
def PX6_takeBoth_12 (v1 : Int) (R : Nat → Int → Mem → (Int → Mem → Prop) → Prop) (K : Mem → Prop) (Q : Int → Mem → Prop) : Nat → Int → Mem → Prop
  | 0 => fun _ _ => False
  | k + 1 => fun v2 M => ((1600 ≤ v2 → K M) ∧ (¬ (1600 ≤ v2) → (∀ a3 : Int, a3 = (fX9_find M 1013 13) → ((a3 = 0 → PX9_next M (fun _ M6 => R 2 v1 M6 (fun a8 M9 => ((a8 = 0 → Q 0 M9) ∧ (¬ (a8 = 0) → (∀ M13 : Mem, M13 = (fmX5_add M9 17 0) → PX6_takeBoth_12 v1 R K Q k (wr32 (v2 + 1)) M13)))))) ∧ (¬ (a3 = 0) → K M)))))
def PX6_takeBoth (R : Nat → Int → Mem → (Int → Mem → Prop) → Prop) (v1 : Int) (M : Mem) (Q : Int → Mem → Prop) : Prop :=
  R 2 v1 M (fun a1 M2 => ((a1 = 0 → Q 0 M2) ∧ (¬ (a1 = 0) → (∃ k5 : Nat, PX6_takeBoth_12 v1 R (fun M6 => Q 1 M6) Q k5 0 M2))))
set_option maxRecDepth 100000 in
set_option maxHeartbeats 2000000 in
theorem qX6_takeBoth_12 {E : EV} {h : Int} {v1 : Int} {R : Nat → Int → Mem → (Int → Mem → Prop) → Prop}  {D : Nat} (hD : 20 ≤ D) (hRX6_takeTest : ∀ v1 M (Q : Int → Mem → Prop), R 0 v1 M Q → C2 E miX6_takeTest D h [(2, 5), (0, v1)] M (RI 0 Q)) (hRX6_takeBoth : ∀ v1 M (Q : Int → Mem → Prop), R 1 v1 M Q → C2 E miX6_takeBoth D h [(2, 5), (0, v1)] M (RI 0 Q)) (hRX6_takeFact : ∀ v1 M (Q : Int → Mem → Prop), R 2 v1 M Q → C2 E miX6_takeFact D h [(2, 5), (0, v1)] M (RI 0 Q)) (hRX6_takeComparison : ∀ v1 M (Q : Int → Mem → Prop), R 3 v1 M Q → C2 E miX6_takeComparison D h [(2, 5), (0, v1)] M (RI 0 Q)) (hRX6_takeSum : ∀ v1 M (Q : Int → Mem → Prop), R 4 v1 M Q → C2 E miX6_takeSum D h [(2, 5), (0, v1)] M (RI 0 Q)) (hRX6_takeProduct : ∀ v1 M (Q : Int → Mem → Prop), R 5 v1 M Q → C2 E miX6_takeProduct D h [(2, 5), (0, v1)] M (RI 0 Q)) (hRX6_takePart : ∀ v1 M (Q : Int → Mem → Prop), R 6 v1 M Q → C2 E miX6_takePart D h [(2, 5), (0, v1)] M (RI 0 Q)) (hRX6_takePair : ∀ v1 M (Q : Int → Mem → Prop), R 7 v1 M Q → C2 E miX6_takePair D h [(2, 5), (0, v1)] M (RI 0 Q)) {K : Mem → Prop} {Q : Int → Mem → Prop} (hK : ∀ (M : Mem), K M → G h M → TG E miX6_takeBoth (D + 1) h (RI 0 Q) 64 [(2, 5), (3, 0), (3, 0)] [] M) : ∀ (k : Nat) (v2 : Int) (M : Mem), PX6_takeBoth_12 v1 R K Q k v2 M → G h M → TG E miX6_takeBoth (D + 1) h (RI 0 Q) 12 [(2, 5), (0, v1), (0, v2)] [] M := by
  intro k
  induction k with
  | zero =>
    intro v2 M H
    exact False.elim H
  | succ k ih =>
    intro v2 M H hG
    refine T_iload_n (i := 2) (pc' := 13) dX6_takeBoth_12 rfl rfl rfl ?_
    refine T_sipush (pc' := 16) dX6_takeBoth_13 rfl (by decide) rfl ?_
    refine T_icmp_ge (pc' := 64) dX6_takeBoth_16 (by decide) (pf := 19) rfl (fun c1 => ?_) (fun c1 => ?_)
    · skip
      replace H := H.1 c1
      exact T_wk (L' := [(2, 5), (3, 0), (3, 0)]) (hK _ H hG) ⟨Or.inr rfl, Or.inl rfl, Or.inl rfl, trivial⟩
    · skip
      replace H := H.2 c1
      refine T_aload_n (i := 0) (pc' := 20) dX6_takeBoth_19 rfl rfl rfl ?_
      refine U_gr (q := 3) (k := 0) (kI := 0) (pc' := 23) dX6_takeBoth_20 rfl cl6 (by decide) rfl (by decide) flX6_9 rfl rfl rfl (G_at hG 12 rfl) (by decide) rfl ?_
      refine T_ldcS (i := 13) (x := 1013) (pc' := 25) dX6_takeBoth_23 rfl rfl rfl rfl ?_
      refine T_callV (av := [(2, 1013)]) (st := []) (d2 := 6) (nc2 := 0) (ns2 := 0) (pc' := 28) dX6_takeBoth_25 rfl mtX9_find mvX9_find mlX6_36 cl9 rfl rfl rfl (Nat.le_of_ble_eq_true rfl) (by omega) ⟨by decide, by decide⟩ rfl (pX9_find (E := E) (h := h) (M := M) (p1 := 1013) (s1 := 13) (by decide) rfl hG) (kF (st2 := [(0, (fX9_find M 1013 13))]) rfl (fun hG2 => ?_))
      obtain ⟨a3, ea3⟩ : ∃ z : Int, z = (fX9_find M 1013 13) := ⟨_, rfl⟩
      rw [← ea3]
      replace H := H a3 ea3
      refine T_if_ne (pc' := 64) dX6_takeBoth_28 (by decide) (pf := 31) rfl (fun c4 => ?_) (fun c4 => ?_)
      · skip
        replace H := H.2 c4
        exact T_wk (L' := [(2, 5), (3, 0), (3, 0)]) (hK _ H hG) ⟨Or.inr rfl, Or.inl rfl, Or.inl rfl, trivial⟩
      · skip
        replace H := H.1 c4
        refine T_aload_n (i := 0) (pc' := 32) dX6_takeBoth_31 rfl rfl rfl ?_
        refine U_gr (q := 3) (k := 0) (kI := 0) (pc' := 35) dX6_takeBoth_32 rfl cl6 (by decide) rfl (by decide) flX6_9 rfl rfl rfl (G_at hG 12 rfl) (by decide) rfl ?_
        refine T_callV (av := []) (st := []) (d2 := 2) (nc2 := 0) (ns2 := 0) (pc' := 38) dX6_takeBoth_35 rfl mtX9_next mvX9_next mlX6_44 cl9 rfl rfl rfl (Nat.le_of_ble_eq_true rfl) (by omega) ⟨by decide, by decide⟩ rfl (pX9_next (E := E) (h := h) (M := M) H hG) ?_
        rintro _ _ M6 ⟨rfl, hG7, rfl, H⟩ _
        refine T_aload_n (i := 0) (pc' := 39) dX6_takeBoth_38 rfl rfl rfl ?_
        refine T_iload_n (i := 1) (pc' := 40) dX6_takeBoth_39 rfl rfl rfl ?_
        refine T_callV (av := [(0, v1)]) (st := []) (d2 := D) (nc2 := 0) (ns2 := 0) (pc' := 43) dX6_takeBoth_40 rfl mtX6_takeFact mvX6_takeFact mlX6_73 cl6 rfl rfl rfl (Nat.le_of_ble_eq_true rfl) (by omega) ⟨by decide, by decide⟩ rfl (hRX6_takeFact _ _ _ H hG7) ?_
        rintro _ _ M9 ⟨rfl, hG10, a8, rfl, H⟩ _
        refine T_if_ne (pc' := 48) dX6_takeBoth_43 (by decide) (pf := 46) rfl (fun c11 => ?_) (fun c11 => ?_)
        · skip
          replace H := H.2 c11
          refine T_aload_n (i := 0) (pc' := 49) dX6_takeBoth_48 rfl rfl rfl ?_
          refine U_gr (q := 6) (k := 1) (kI := 1) (pc' := 52) dX6_takeBoth_49 rfl cl6 (by decide) rfl (by decide) flX6_18 rfl rfl rfl (G_at hG10 13 rfl) (by decide) rfl ?_
          refine T_bipush (pc' := 54) dX6_takeBoth_52 rfl (by decide) rfl ?_
          refine T_iconst (pc' := 55) dX6_takeBoth_54 (by decide) rfl ?_
          refine T_callV (av := [(0, 17), (0, 0)]) (st := []) (d2 := 2) (nc2 := 0) (ns2 := 0) (pc' := 58) dX6_takeBoth_55 rfl mtX5_add mvX5_add mlX6_69 cl5 rfl rfl rfl (Nat.le_of_ble_eq_true rfl) (by omega) ⟨by decide, by decide⟩ rfl (pX5_add (E := E) (h := h) (M := M9) (v1 := 17) (v2 := 0) hG10) (kF (st2 := []) rfl (fun hG12 => ?_))
          obtain ⟨M13, eM13⟩ : ∃ m : Mem, m = (fmX5_add M9 17 0) := ⟨_, rfl⟩
          rw [← eM13] at hG12 ⊢
          replace H := H M13 eM13
          refine T_iinc (L' := [(2, 5), (0, v1), (0, (wr32 (v2 + 1)))]) (pc' := 61) dX6_takeBoth_58 rfl (by decide) rfl rfl ?_
          refine T_goto (pc' := 12) dX6_takeBoth_61 (by decide) ?_
          exact T_wk (L' := [(2, 5), (0, v1), (0, (wr32 (v2 + 1)))]) (ih _ _ H hG12) ⟨Or.inr rfl, Or.inr rfl, Or.inr rfl, trivial⟩
        · skip
          replace H := H.1 c11
          refine T_iconst (pc' := 47) dX6_takeBoth_46 (by decide) rfl ?_
          exact T_zret dX6_takeBoth_47 rfl (by decide) ⟨rfl, hG10, _, rfl, H⟩
set_option maxRecDepth 100000 in
set_option maxHeartbeats 2000000 in
theorem pX6_takeBoth {E : EV} {h : Int} {M : Mem} {v1 : Int}  {R : Nat → Int → Mem → (Int → Mem → Prop) → Prop} {D : Nat} (hD : 20 ≤ D) (hRX6_takeTest : ∀ v1 M (Q : Int → Mem → Prop), R 0 v1 M Q → C2 E miX6_takeTest D h [(2, 5), (0, v1)] M (RI 0 Q)) (hRX6_takeBoth : ∀ v1 M (Q : Int → Mem → Prop), R 1 v1 M Q → C2 E miX6_takeBoth D h [(2, 5), (0, v1)] M (RI 0 Q)) (hRX6_takeFact : ∀ v1 M (Q : Int → Mem → Prop), R 2 v1 M Q → C2 E miX6_takeFact D h [(2, 5), (0, v1)] M (RI 0 Q)) (hRX6_takeComparison : ∀ v1 M (Q : Int → Mem → Prop), R 3 v1 M Q → C2 E miX6_takeComparison D h [(2, 5), (0, v1)] M (RI 0 Q)) (hRX6_takeSum : ∀ v1 M (Q : Int → Mem → Prop), R 4 v1 M Q → C2 E miX6_takeSum D h [(2, 5), (0, v1)] M (RI 0 Q)) (hRX6_takeProduct : ∀ v1 M (Q : Int → Mem → Prop), R 5 v1 M Q → C2 E miX6_takeProduct D h [(2, 5), (0, v1)] M (RI 0 Q)) (hRX6_takePart : ∀ v1 M (Q : Int → Mem → Prop), R 6 v1 M Q → C2 E miX6_takePart D h [(2, 5), (0, v1)] M (RI 0 Q)) (hRX6_takePair : ∀ v1 M (Q : Int → Mem → Prop), R 7 v1 M Q → C2 E miX6_takePair D h [(2, 5), (0, v1)] M (RI 0 Q)) {Q : Int → Mem → Prop} (H : PX6_takeBoth R v1 M Q) : C2 E miX6_takeBoth (D + 1) h [(2, 5), (0, v1)] M (RI 0 Q) := by
  refine C2_of (L := [(2, 5), (0, v1), (3, 0)]) (by decide +kernel) (Nat.le_of_ble_eq_true rfl) rfl (fun hG => ?_)
  refine T_aload_n (i := 0) (pc' := 1) dX6_takeBoth_0 rfl rfl rfl ?_
  refine T_iload_n (i := 1) (pc' := 2) dX6_takeBoth_1 rfl rfl rfl ?_
  refine T_callV (av := [(0, v1)]) (st := []) (d2 := D) (nc2 := 0) (ns2 := 0) (pc' := 5) dX6_takeBoth_2 rfl mtX6_takeFact mvX6_takeFact mlX6_73 cl6 rfl rfl rfl (Nat.le_of_ble_eq_true rfl) (by omega) ⟨by decide, by decide⟩ rfl (hRX6_takeFact _ _ _ H hG) ?_
  rintro _ _ M2 ⟨rfl, hG3, a1, rfl, H⟩ _
  refine T_if_ne (pc' := 10) dX6_takeBoth_5 (by decide) (pf := 8) rfl (fun c4 => ?_) (fun c4 => ?_)
  · skip
    replace H := H.2 c4
    refine T_iconst (pc' := 11) dX6_takeBoth_10 (by decide) rfl ?_
    refine T_istore_n (i := 2) (L' := [(2, 5), (0, v1), (0, 0)]) (pc' := 12) dX6_takeBoth_11 rfl (by decide) rfl rfl ?_
    obtain ⟨k5, H⟩ := H
    refine T_wk (L' := [(2, 5), (0, v1), (0, 0)]) (qX6_takeBoth_12 (v1 := v1) hD hRX6_takeTest hRX6_takeBoth hRX6_takeFact hRX6_takeComparison hRX6_takeSum hRX6_takeProduct hRX6_takePart hRX6_takePair (fun M6 H hG7 => ?_) _ _ _ H hG3) ⟨Or.inr rfl, Or.inr rfl, Or.inr rfl, trivial⟩
    refine T_iconst (pc' := 65) dX6_takeBoth_64 (by decide) rfl ?_
    exact T_zret dX6_takeBoth_65 rfl (by decide) ⟨rfl, hG7, _, rfl, H⟩
  · skip
    replace H := H.1 c4
    refine T_iconst (pc' := 9) dX6_takeBoth_8 (by decide) rfl ?_
    exact T_zret dX6_takeBoth_9 rfl (by decide) ⟨rfl, hG3, _, rfl, H⟩
def PX6_takeFact (R : Nat → Int → Mem → (Int → Mem → Prop) → Prop) (v1 : Int) (M : Mem) (Q : Int → Mem → Prop) : Prop :=
  (∀ a2 : Int, a2 = (fX9_find M 1010 10) → ((a2 = 0 → (∀ M33 : Mem, M33 = (fmX6_deeper M v1) → (((fX6_deeper v1) = 0 → Q 0 M33) ∧ (¬ ((fX6_deeper v1) = 0) → PX9_next M33 (fun _ M36 => R 2 (wr32 (v1 + 1)) M36 (fun a38 M39 => ((a38 = 0 → Q 0 M39) ∧ (¬ (a38 = 0) → (∀ M43 : Mem, M43 = (fmX5_add M39 19 0) → Q 1 M43))))))))) ∧ (¬ (a2 = 0) → (((fX9_isSign M 91) = 0 → (∀ a7 : Int, a7 = (fX9_find M 1011 11) → ((a7 = 0 → PX9_next M (fun _ M13 => (∀ M16 : Mem, M16 = (fmX5_add M13 20 1) → Q 1 M16))) ∧ (¬ (a7 = 0) → R 3 v1 M (fun a9 M10 => ((a9 : Int) = 0 ∨ (a9 : Int) = 1) ∧ Q a9 M10))))) ∧ (¬ ((fX9_isSign M 91) = 0) → (∀ M18 : Mem, M18 = (fmX6_deeper M v1) → (((fX6_deeper v1) = 0 → Q 0 M18) ∧ (¬ ((fX6_deeper v1) = 0) → PX9_next M18 (fun _ M21 => R 0 (wr32 (v1 + 1)) M21 (fun a23 M24 => ((a23 = 0 → Q 0 M24) ∧ (¬ (a23 = 0) → PX9_takeSign 93 M24 (fun a27 M28 => (((if a27 = 0 then (0 : Int) else 1) : Int) = 0 ∨ ((if a27 = 0 then (0 : Int) else 1) : Int) = 1) ∧ Q (if a27 = 0 then (0 : Int) else 1) M28)))))))))))))
set_option maxRecDepth 100000 in
set_option maxHeartbeats 2000000 in
theorem pX6_takeFact {E : EV} {h : Int} {M : Mem} {v1 : Int}  {R : Nat → Int → Mem → (Int → Mem → Prop) → Prop} {D : Nat} (hD : 20 ≤ D) (hRX6_takeTest : ∀ v1 M (Q : Int → Mem → Prop), R 0 v1 M Q → C2 E miX6_takeTest D h [(2, 5), (0, v1)] M (RI 0 Q)) (hRX6_takeBoth : ∀ v1 M (Q : Int → Mem → Prop), R 1 v1 M Q → C2 E miX6_takeBoth D h [(2, 5), (0, v1)] M (RI 0 Q)) (hRX6_takeFact : ∀ v1 M (Q : Int → Mem → Prop), R 2 v1 M Q → C2 E miX6_takeFact D h [(2, 5), (0, v1)] M (RI 0 Q)) (hRX6_takeComparison : ∀ v1 M (Q : Int → Mem → Prop), R 3 v1 M Q → C2 E miX6_takeComparison D h [(2, 5), (0, v1)] M (RI 0 Q)) (hRX6_takeSum : ∀ v1 M (Q : Int → Mem → Prop), R 4 v1 M Q → C2 E miX6_takeSum D h [(2, 5), (0, v1)] M (RI 0 Q)) (hRX6_takeProduct : ∀ v1 M (Q : Int → Mem → Prop), R 5 v1 M Q → C2 E miX6_takeProduct D h [(2, 5), (0, v1)] M (RI 0 Q)) (hRX6_takePart : ∀ v1 M (Q : Int → Mem → Prop), R 6 v1 M Q → C2 E miX6_takePart D h [(2, 5), (0, v1)] M (RI 0 Q)) (hRX6_takePair : ∀ v1 M (Q : Int → Mem → Prop), R 7 v1 M Q → C2 E miX6_takePair D h [(2, 5), (0, v1)] M (RI 0 Q)) {Q : Int → Mem → Prop} (H : PX6_takeFact R v1 M Q) : C2 E miX6_takeFact (D + 1) h [(2, 5), (0, v1)] M (RI 0 Q) := by
  refine C2_of (L := [(2, 5), (0, v1)]) (by decide +kernel) (Nat.le_of_ble_eq_true rfl) rfl (fun hG => ?_)
  refine T_aload_n (i := 0) (pc' := 1) dX6_takeFact_0 rfl rfl rfl ?_
  refine U_gr (q := 3) (k := 0) (kI := 0) (pc' := 4) dX6_takeFact_1 rfl cl6 (by decide) rfl (by decide) flX6_9 rfl rfl rfl (G_at hG 12 rfl) (by decide) rfl ?_
  refine T_ldcS (i := 10) (x := 1010) (pc' := 6) dX6_takeFact_4 rfl rfl rfl rfl ?_
  refine T_callV (av := [(2, 1010)]) (st := []) (d2 := 6) (nc2 := 0) (ns2 := 0) (pc' := 9) dX6_takeFact_6 rfl mtX9_find mvX9_find mlX6_36 cl9 rfl rfl rfl (Nat.le_of_ble_eq_true rfl) (by omega) ⟨by decide, by decide⟩ rfl (pX9_find (E := E) (h := h) (M := M) (p1 := 1010) (s1 := 10) (by decide) rfl hG) (kF (st2 := [(0, (fX9_find M 1010 10))]) rfl (fun hG1 => ?_))
  obtain ⟨a2, ea2⟩ : ∃ z : Int, z = (fX9_find M 1010 10) := ⟨_, rfl⟩
  rw [← ea2]
  replace H := H a2 ea2
  refine T_if_ne (pc' := 53) dX6_takeFact_9 (by decide) (pf := 12) rfl (fun c3 => ?_) (fun c3 => ?_)
  · skip
    replace H := H.2 c3
    refine T_aload_n (i := 0) (pc' := 54) dX6_takeFact_53 rfl rfl rfl ?_
    refine U_gr (q := 3) (k := 0) (kI := 0) (pc' := 57) dX6_takeFact_54 rfl cl6 (by decide) rfl (by decide) flX6_9 rfl rfl rfl (G_at hG 12 rfl) (by decide) rfl ?_
    refine T_bipush (pc' := 59) dX6_takeFact_57 rfl (by decide) rfl ?_
    refine T_callV (av := [(0, 91)]) (st := []) (d2 := 2) (nc2 := 0) (ns2 := 0) (pc' := 62) dX6_takeFact_59 rfl mtX9_isSign mvX9_isSign mlX6_83 cl9 rfl rfl rfl (Nat.le_of_ble_eq_true rfl) (by omega) ⟨by decide, by decide⟩ rfl (pX9_isSign (E := E) (h := h) (M := M) (v1 := 91) hG) (kF (st2 := [(0, (fX9_isSign M 91))]) rfl (fun hG4 => ?_))
    refine T_if_eq (pc' := 110) dX6_takeFact_62 (by decide) (pf := 65) rfl (fun c5 => ?_) (fun c5 => ?_)
    · skip
      replace H := H.1 c5
      refine T_aload_n (i := 0) (pc' := 111) dX6_takeFact_110 rfl rfl rfl ?_
      refine U_gr (q := 3) (k := 0) (kI := 0) (pc' := 114) dX6_takeFact_111 rfl cl6 (by decide) rfl (by decide) flX6_9 rfl rfl rfl (G_at hG 12 rfl) (by decide) rfl ?_
      refine T_ldcS (i := 11) (x := 1011) (pc' := 116) dX6_takeFact_114 rfl rfl rfl rfl ?_
      refine T_callV (av := [(2, 1011)]) (st := []) (d2 := 6) (nc2 := 0) (ns2 := 0) (pc' := 119) dX6_takeFact_116 rfl mtX9_find mvX9_find mlX6_36 cl9 rfl rfl rfl (Nat.le_of_ble_eq_true rfl) (by omega) ⟨by decide, by decide⟩ rfl (pX9_find (E := E) (h := h) (M := M) (p1 := 1011) (s1 := 11) (by decide) rfl hG) (kF (st2 := [(0, (fX9_find M 1011 11))]) rfl (fun hG6 => ?_))
      obtain ⟨a7, ea7⟩ : ∃ z : Int, z = (fX9_find M 1011 11) := ⟨_, rfl⟩
      rw [← ea7]
      replace H := H a7 ea7
      refine T_if_ne (pc' := 141) dX6_takeFact_119 (by decide) (pf := 122) rfl (fun c8 => ?_) (fun c8 => ?_)
      · skip
        replace H := H.2 c8
        refine T_aload_n (i := 0) (pc' := 142) dX6_takeFact_141 rfl rfl rfl ?_
        refine T_iload_n (i := 1) (pc' := 143) dX6_takeFact_142 rfl rfl rfl ?_
        refine T_callV (av := [(0, v1)]) (st := []) (d2 := D) (nc2 := 0) (ns2 := 0) (pc' := 146) dX6_takeFact_143 rfl mtX6_takeComparison mvX6_takeComparison mlX6_92 cl6 rfl rfl rfl (Nat.le_of_ble_eq_true rfl) (by omega) ⟨by decide, by decide⟩ rfl (hRX6_takeComparison _ _ _ H hG) ?_
        rintro _ _ M10 ⟨rfl, hG11, a9, rfl, H⟩ _
        obtain ⟨z1, H⟩ := H
        exact T_zret dX6_takeFact_146 rfl z1 ⟨rfl, hG11, _, rfl, H⟩
      · skip
        replace H := H.1 c8
        refine T_aload_n (i := 0) (pc' := 123) dX6_takeFact_122 rfl rfl rfl ?_
        refine U_gr (q := 3) (k := 0) (kI := 0) (pc' := 126) dX6_takeFact_123 rfl cl6 (by decide) rfl (by decide) flX6_9 rfl rfl rfl (G_at hG 12 rfl) (by decide) rfl ?_
        refine T_callV (av := []) (st := []) (d2 := 2) (nc2 := 0) (ns2 := 0) (pc' := 129) dX6_takeFact_126 rfl mtX9_next mvX9_next mlX6_44 cl9 rfl rfl rfl (Nat.le_of_ble_eq_true rfl) (by omega) ⟨by decide, by decide⟩ rfl (pX9_next (E := E) (h := h) (M := M) H hG) ?_
        rintro _ _ M13 ⟨rfl, hG14, rfl, H⟩ _
        refine T_aload_n (i := 0) (pc' := 130) dX6_takeFact_129 rfl rfl rfl ?_
        refine U_gr (q := 6) (k := 1) (kI := 1) (pc' := 133) dX6_takeFact_130 rfl cl6 (by decide) rfl (by decide) flX6_18 rfl rfl rfl (G_at hG14 13 rfl) (by decide) rfl ?_
        refine T_bipush (pc' := 135) dX6_takeFact_133 rfl (by decide) rfl ?_
        refine T_iconst (pc' := 136) dX6_takeFact_135 (by decide) rfl ?_
        refine T_callV (av := [(0, 20), (0, 1)]) (st := []) (d2 := 2) (nc2 := 0) (ns2 := 0) (pc' := 139) dX6_takeFact_136 rfl mtX5_add mvX5_add mlX6_69 cl5 rfl rfl rfl (Nat.le_of_ble_eq_true rfl) (by omega) ⟨by decide, by decide⟩ rfl (pX5_add (E := E) (h := h) (M := M13) (v1 := 20) (v2 := 1) hG14) (kF (st2 := []) rfl (fun hG15 => ?_))
        obtain ⟨M16, eM16⟩ : ∃ m : Mem, m = (fmX5_add M13 20 1) := ⟨_, rfl⟩
        rw [← eM16] at hG15 ⊢
        replace H := H M16 eM16
        refine T_iconst (pc' := 140) dX6_takeFact_139 (by decide) rfl ?_
        exact T_zret dX6_takeFact_140 rfl (by decide) ⟨rfl, hG15, _, rfl, H⟩
    · skip
      replace H := H.2 c5
      refine T_aload_n (i := 0) (pc' := 66) dX6_takeFact_65 rfl rfl rfl ?_
      refine T_iload_n (i := 1) (pc' := 67) dX6_takeFact_66 rfl rfl rfl ?_
      refine T_callV (av := [(0, v1)]) (st := []) (d2 := 2) (nc2 := 0) (ns2 := 0) (pc' := 70) dX6_takeFact_67 rfl mtX6_deeper mvX6_deeper mlX6_80 cl6 rfl rfl rfl (Nat.le_of_ble_eq_true rfl) (by omega) ⟨by decide, by decide⟩ rfl (pX6_deeper (E := E) (h := h) (M := M) (v1 := v1) hG) (kF (st2 := [(0, (fX6_deeper v1))]) rfl (fun hG17 => ?_))
      obtain ⟨M18, eM18⟩ : ∃ m : Mem, m = (fmX6_deeper M v1) := ⟨_, rfl⟩
      rw [← eM18] at hG17 ⊢
      replace H := H M18 eM18
      refine T_if_ne (pc' := 75) dX6_takeFact_70 (by decide) (pf := 73) rfl (fun c19 => ?_) (fun c19 => ?_)
      · skip
        replace H := H.2 c19
        refine T_aload_n (i := 0) (pc' := 76) dX6_takeFact_75 rfl rfl rfl ?_
        refine U_gr (q := 3) (k := 0) (kI := 0) (pc' := 79) dX6_takeFact_76 rfl cl6 (by decide) rfl (by decide) flX6_9 rfl rfl rfl (G_at hG17 12 rfl) (by decide) rfl ?_
        refine T_callV (av := []) (st := []) (d2 := 2) (nc2 := 0) (ns2 := 0) (pc' := 82) dX6_takeFact_79 rfl mtX9_next mvX9_next mlX6_44 cl9 rfl rfl rfl (Nat.le_of_ble_eq_true rfl) (by omega) ⟨by decide, by decide⟩ rfl (pX9_next (E := E) (h := h) (M := M18) H hG17) ?_
        rintro _ _ M21 ⟨rfl, hG22, rfl, H⟩ _
        refine T_aload_n (i := 0) (pc' := 83) dX6_takeFact_82 rfl rfl rfl ?_
        refine T_iload_n (i := 1) (pc' := 84) dX6_takeFact_83 rfl rfl rfl ?_
        refine T_iconst (pc' := 85) dX6_takeFact_84 (by decide) rfl ?_
        refine T_iadd (pc' := 86) dX6_takeFact_85 rfl ?_
        refine T_callV (av := [(0, (wr32 (v1 + 1)))]) (st := []) (d2 := D) (nc2 := 0) (ns2 := 0) (pc' := 89) dX6_takeFact_86 rfl mtX6_takeTest mvX6_takeTest mlX6_47 cl6 rfl rfl rfl (Nat.le_of_ble_eq_true rfl) (by omega) ⟨by decide, by decide⟩ rfl (hRX6_takeTest _ _ _ H hG22) ?_
        rintro _ _ M24 ⟨rfl, hG25, a23, rfl, H⟩ _
        refine T_if_eq (pc' := 108) dX6_takeFact_89 (by decide) (pf := 92) rfl (fun c26 => ?_) (fun c26 => ?_)
        · skip
          replace H := H.1 c26
          refine T_iconst (pc' := 109) dX6_takeFact_108 (by decide) rfl ?_
          exact T_zret dX6_takeFact_109 rfl (by decide) ⟨rfl, hG25, _, rfl, H⟩
        · skip
          replace H := H.2 c26
          refine T_aload_n (i := 0) (pc' := 93) dX6_takeFact_92 rfl rfl rfl ?_
          refine U_gr (q := 3) (k := 0) (kI := 0) (pc' := 96) dX6_takeFact_93 rfl cl6 (by decide) rfl (by decide) flX6_9 rfl rfl rfl (G_at hG25 12 rfl) (by decide) rfl ?_
          refine T_bipush (pc' := 98) dX6_takeFact_96 rfl (by decide) rfl ?_
          refine T_callV (av := [(0, 93)]) (st := []) (d2 := 3) (nc2 := 0) (ns2 := 0) (pc' := 101) dX6_takeFact_98 rfl mtX9_takeSign mvX9_takeSign mlX6_87 cl9 rfl rfl rfl (Nat.le_of_ble_eq_true rfl) (by omega) ⟨by decide, by decide⟩ rfl (pX9_takeSign (E := E) (h := h) (M := M24) (v1 := 93) H hG25) ?_
          rintro _ _ M28 ⟨rfl, hG29, a27, rfl, H⟩ _
          have HJ30 : T E miX6_takeFact (D + 1) 126 0 0 (fun r S M' => S = S0 ∧ G h M' ∧ RI 0 Q r M') 109 [(3, 0), (3, 0)] [(0, (if a27 = 0 then (0 : Int) else 1))] S0 M28 0 0 := by
            obtain ⟨z1, H⟩ := H
            exact T_zret dX6_takeFact_109 rfl z1 ⟨rfl, hG29, _, rfl, H⟩
          refine T_if_eq (pc' := 108) dX6_takeFact_101 (by decide) (pf := 104) rfl (fun c31 => ?_) (fun c31 => ?_)
          · skip
            refine T_iconst (pc' := 109) dX6_takeFact_108 (by decide) rfl ?_
            exact T_wk (L' := [(3, 0), (3, 0)]) (by have q := HJ30; try simp only [if_pos c31] at q ⊢; exact q) ⟨Or.inl rfl, Or.inl rfl, trivial⟩
          · skip
            refine T_iconst (pc' := 105) dX6_takeFact_104 (by decide) rfl ?_
            refine T_goto (pc' := 109) dX6_takeFact_105 (by decide) ?_
            exact T_wk (L' := [(3, 0), (3, 0)]) (by have q := HJ30; try simp only [if_neg c31] at q ⊢; exact q) ⟨Or.inl rfl, Or.inl rfl, trivial⟩
      · skip
        replace H := H.1 c19
        refine T_iconst (pc' := 74) dX6_takeFact_73 (by decide) rfl ?_
        exact T_zret dX6_takeFact_74 rfl (by decide) ⟨rfl, hG17, _, rfl, H⟩
  · skip
    replace H := H.1 c3
    refine T_aload_n (i := 0) (pc' := 13) dX6_takeFact_12 rfl rfl rfl ?_
    refine T_iload_n (i := 1) (pc' := 14) dX6_takeFact_13 rfl rfl rfl ?_
    refine T_callV (av := [(0, v1)]) (st := []) (d2 := 2) (nc2 := 0) (ns2 := 0) (pc' := 17) dX6_takeFact_14 rfl mtX6_deeper mvX6_deeper mlX6_80 cl6 rfl rfl rfl (Nat.le_of_ble_eq_true rfl) (by omega) ⟨by decide, by decide⟩ rfl (pX6_deeper (E := E) (h := h) (M := M) (v1 := v1) hG) (kF (st2 := [(0, (fX6_deeper v1))]) rfl (fun hG32 => ?_))
    obtain ⟨M33, eM33⟩ : ∃ m : Mem, m = (fmX6_deeper M v1) := ⟨_, rfl⟩
    rw [← eM33] at hG32 ⊢
    replace H := H M33 eM33
    refine T_if_ne (pc' := 22) dX6_takeFact_17 (by decide) (pf := 20) rfl (fun c34 => ?_) (fun c34 => ?_)
    · skip
      replace H := H.2 c34
      refine T_aload_n (i := 0) (pc' := 23) dX6_takeFact_22 rfl rfl rfl ?_
      refine U_gr (q := 3) (k := 0) (kI := 0) (pc' := 26) dX6_takeFact_23 rfl cl6 (by decide) rfl (by decide) flX6_9 rfl rfl rfl (G_at hG32 12 rfl) (by decide) rfl ?_
      refine T_callV (av := []) (st := []) (d2 := 2) (nc2 := 0) (ns2 := 0) (pc' := 29) dX6_takeFact_26 rfl mtX9_next mvX9_next mlX6_44 cl9 rfl rfl rfl (Nat.le_of_ble_eq_true rfl) (by omega) ⟨by decide, by decide⟩ rfl (pX9_next (E := E) (h := h) (M := M33) H hG32) ?_
      rintro _ _ M36 ⟨rfl, hG37, rfl, H⟩ _
      refine T_aload_n (i := 0) (pc' := 30) dX6_takeFact_29 rfl rfl rfl ?_
      refine T_iload_n (i := 1) (pc' := 31) dX6_takeFact_30 rfl rfl rfl ?_
      refine T_iconst (pc' := 32) dX6_takeFact_31 (by decide) rfl ?_
      refine T_iadd (pc' := 33) dX6_takeFact_32 rfl ?_
      refine T_callV (av := [(0, (wr32 (v1 + 1)))]) (st := []) (d2 := D) (nc2 := 0) (ns2 := 0) (pc' := 36) dX6_takeFact_33 rfl mtX6_takeFact mvX6_takeFact mlX6_73 cl6 rfl rfl rfl (Nat.le_of_ble_eq_true rfl) (by omega) ⟨by decide, by decide⟩ rfl (hRX6_takeFact _ _ _ H hG37) ?_
      rintro _ _ M39 ⟨rfl, hG40, a38, rfl, H⟩ _
      refine T_if_ne (pc' := 41) dX6_takeFact_36 (by decide) (pf := 39) rfl (fun c41 => ?_) (fun c41 => ?_)
      · skip
        replace H := H.2 c41
        refine T_aload_n (i := 0) (pc' := 42) dX6_takeFact_41 rfl rfl rfl ?_
        refine U_gr (q := 6) (k := 1) (kI := 1) (pc' := 45) dX6_takeFact_42 rfl cl6 (by decide) rfl (by decide) flX6_18 rfl rfl rfl (G_at hG40 13 rfl) (by decide) rfl ?_
        refine T_bipush (pc' := 47) dX6_takeFact_45 rfl (by decide) rfl ?_
        refine T_iconst (pc' := 48) dX6_takeFact_47 (by decide) rfl ?_
        refine T_callV (av := [(0, 19), (0, 0)]) (st := []) (d2 := 2) (nc2 := 0) (ns2 := 0) (pc' := 51) dX6_takeFact_48 rfl mtX5_add mvX5_add mlX6_69 cl5 rfl rfl rfl (Nat.le_of_ble_eq_true rfl) (by omega) ⟨by decide, by decide⟩ rfl (pX5_add (E := E) (h := h) (M := M39) (v1 := 19) (v2 := 0) hG40) (kF (st2 := []) rfl (fun hG42 => ?_))
        obtain ⟨M43, eM43⟩ : ∃ m : Mem, m = (fmX5_add M39 19 0) := ⟨_, rfl⟩
        rw [← eM43] at hG42 ⊢
        replace H := H M43 eM43
        refine T_iconst (pc' := 52) dX6_takeFact_51 (by decide) rfl ?_
        exact T_zret dX6_takeFact_52 rfl (by decide) ⟨rfl, hG42, _, rfl, H⟩
      · skip
        replace H := H.1 c41
        refine T_iconst (pc' := 40) dX6_takeFact_39 (by decide) rfl ?_
        exact T_zret dX6_takeFact_40 rfl (by decide) ⟨rfl, hG40, _, rfl, H⟩
    · skip
      replace H := H.1 c34
      refine T_iconst (pc' := 21) dX6_takeFact_20 (by decide) rfl ?_
      exact T_zret dX6_takeFact_21 rfl (by decide) ⟨rfl, hG32, _, rfl, H⟩
def PX6_takeComparison (R : Nat → Int → Mem → (Int → Mem → Prop) → Prop) (v1 : Int) (M : Mem) (Q : Int → Mem → Prop) : Prop :=
  R 4 v1 M (fun a1 M2 => ((a1 = 0 → Q 0 M2) ∧ (¬ (a1 = 0) → (((if (fX9_isSign M2 60) = 0 then (if (fX9_isSign M2 62) = 0 then (if (fX9_isSign M2 61) = 0 then ((-1) : Int) else 16) else 15) else 14) = (-1) → (∀ M18 : Mem, M18 = (fmX9_unasked M2) → ((fX9_unasked : Int) = 0 ∨ (fX9_unasked : Int) = 1) ∧ Q fX9_unasked M18)) ∧ (¬ ((if (fX9_isSign M2 60) = 0 then (if (fX9_isSign M2 62) = 0 then (if (fX9_isSign M2 61) = 0 then ((-1) : Int) else 16) else 15) else 14) = (-1)) → PX9_next M2 (fun _ M9 => R 4 v1 M9 (fun a11 M12 => ((a11 = 0 → Q 0 M12) ∧ (¬ (a11 = 0) → (∀ M16 : Mem, M16 = (fmX5_add M12 (if (fX9_isSign M2 60) = 0 then (if (fX9_isSign M2 62) = 0 then (if (fX9_isSign M2 61) = 0 then ((-1) : Int) else 16) else 15) else 14) 0) → Q 1 M16))))))))))
set_option maxRecDepth 100000 in
set_option maxHeartbeats 2000000 in
theorem pX6_takeComparison {E : EV} {h : Int} {M : Mem} {v1 : Int}  {R : Nat → Int → Mem → (Int → Mem → Prop) → Prop} {D : Nat} (hD : 20 ≤ D) (hRX6_takeTest : ∀ v1 M (Q : Int → Mem → Prop), R 0 v1 M Q → C2 E miX6_takeTest D h [(2, 5), (0, v1)] M (RI 0 Q)) (hRX6_takeBoth : ∀ v1 M (Q : Int → Mem → Prop), R 1 v1 M Q → C2 E miX6_takeBoth D h [(2, 5), (0, v1)] M (RI 0 Q)) (hRX6_takeFact : ∀ v1 M (Q : Int → Mem → Prop), R 2 v1 M Q → C2 E miX6_takeFact D h [(2, 5), (0, v1)] M (RI 0 Q)) (hRX6_takeComparison : ∀ v1 M (Q : Int → Mem → Prop), R 3 v1 M Q → C2 E miX6_takeComparison D h [(2, 5), (0, v1)] M (RI 0 Q)) (hRX6_takeSum : ∀ v1 M (Q : Int → Mem → Prop), R 4 v1 M Q → C2 E miX6_takeSum D h [(2, 5), (0, v1)] M (RI 0 Q)) (hRX6_takeProduct : ∀ v1 M (Q : Int → Mem → Prop), R 5 v1 M Q → C2 E miX6_takeProduct D h [(2, 5), (0, v1)] M (RI 0 Q)) (hRX6_takePart : ∀ v1 M (Q : Int → Mem → Prop), R 6 v1 M Q → C2 E miX6_takePart D h [(2, 5), (0, v1)] M (RI 0 Q)) (hRX6_takePair : ∀ v1 M (Q : Int → Mem → Prop), R 7 v1 M Q → C2 E miX6_takePair D h [(2, 5), (0, v1)] M (RI 0 Q)) {Q : Int → Mem → Prop} (H : PX6_takeComparison R v1 M Q) : C2 E miX6_takeComparison (D + 1) h [(2, 5), (0, v1)] M (RI 0 Q) := by
  refine C2_of (L := [(2, 5), (0, v1), (3, 0)]) (by decide +kernel) (Nat.le_of_ble_eq_true rfl) rfl (fun hG => ?_)
  refine T_aload_n (i := 0) (pc' := 1) dX6_takeComparison_0 rfl rfl rfl ?_
  refine T_iload_n (i := 1) (pc' := 2) dX6_takeComparison_1 rfl rfl rfl ?_
  refine T_callV (av := [(0, v1)]) (st := []) (d2 := D) (nc2 := 0) (ns2 := 0) (pc' := 5) dX6_takeComparison_2 rfl mtX6_takeSum mvX6_takeSum mlX6_51 cl6 rfl rfl rfl (Nat.le_of_ble_eq_true rfl) (by omega) ⟨by decide, by decide⟩ rfl (hRX6_takeSum _ _ _ H hG) ?_
  rintro _ _ M2 ⟨rfl, hG3, a1, rfl, H⟩ _
  refine T_if_ne (pc' := 10) dX6_takeComparison_5 (by decide) (pf := 8) rfl (fun c4 => ?_) (fun c4 => ?_)
  · skip
    replace H := H.2 c4
    refine T_aload_n (i := 0) (pc' := 11) dX6_takeComparison_10 rfl rfl rfl ?_
    refine U_gr (q := 3) (k := 0) (kI := 0) (pc' := 14) dX6_takeComparison_11 rfl cl6 (by decide) rfl (by decide) flX6_9 rfl rfl rfl (G_at hG3 12 rfl) (by decide) rfl ?_
    refine T_bipush (pc' := 16) dX6_takeComparison_14 rfl (by decide) rfl ?_
    refine T_callV (av := [(0, 60)]) (st := []) (d2 := 2) (nc2 := 0) (ns2 := 0) (pc' := 19) dX6_takeComparison_16 rfl mtX9_isSign mvX9_isSign mlX6_83 cl9 rfl rfl rfl (Nat.le_of_ble_eq_true rfl) (by omega) ⟨by decide, by decide⟩ rfl (pX9_isSign (E := E) (h := h) (M := M2) (v1 := 60) hG3) (kF (st2 := [(0, (fX9_isSign M2 60))]) rfl (fun hG5 => ?_))
    have HJ6 : T E miX6_takeComparison (D + 1) 126 0 0 (fun r S M' => S = S0 ∧ G h M' ∧ RI 0 Q r M') 62 [(2, 5), (0, v1), (3, 0)] [(0, (if (fX9_isSign M2 60) = 0 then (if (fX9_isSign M2 62) = 0 then (if (fX9_isSign M2 61) = 0 then ((-1) : Int) else 16) else 15) else 14))] S0 M2 0 0 := by
      refine T_istore_n (i := 2) (L' := [(2, 5), (0, v1), (0, (if (fX9_isSign M2 60) = 0 then (if (fX9_isSign M2 62) = 0 then (if (fX9_isSign M2 61) = 0 then ((-1) : Int) else 16) else 15) else 14))]) (pc' := 63) dX6_takeComparison_62 rfl (by decide) rfl rfl ?_
      refine T_iload_n (i := 2) (pc' := 64) dX6_takeComparison_63 rfl rfl rfl ?_
      refine T_iconst (pc' := 65) dX6_takeComparison_64 (by decide) rfl ?_
      refine T_icmp_ne (pc' := 76) dX6_takeComparison_65 (by decide) (pf := 68) rfl (fun c7 => ?_) (fun c7 => ?_)
      · skip
        replace H := H.2 c7
        refine T_aload_n (i := 0) (pc' := 77) dX6_takeComparison_76 rfl rfl rfl ?_
        refine U_gr (q := 3) (k := 0) (kI := 0) (pc' := 80) dX6_takeComparison_77 rfl cl6 (by decide) rfl (by decide) flX6_9 rfl rfl rfl (G_at hG3 12 rfl) (by decide) rfl ?_
        refine T_callV (av := []) (st := []) (d2 := 2) (nc2 := 0) (ns2 := 0) (pc' := 83) dX6_takeComparison_80 rfl mtX9_next mvX9_next mlX6_44 cl9 rfl rfl rfl (Nat.le_of_ble_eq_true rfl) (by omega) ⟨by decide, by decide⟩ rfl (pX9_next (E := E) (h := h) (M := M2) H hG3) ?_
        rintro _ _ M9 ⟨rfl, hG10, rfl, H⟩ _
        refine T_aload_n (i := 0) (pc' := 84) dX6_takeComparison_83 rfl rfl rfl ?_
        refine T_iload_n (i := 1) (pc' := 85) dX6_takeComparison_84 rfl rfl rfl ?_
        refine T_callV (av := [(0, v1)]) (st := []) (d2 := D) (nc2 := 0) (ns2 := 0) (pc' := 88) dX6_takeComparison_85 rfl mtX6_takeSum mvX6_takeSum mlX6_51 cl6 rfl rfl rfl (Nat.le_of_ble_eq_true rfl) (by omega) ⟨by decide, by decide⟩ rfl (hRX6_takeSum _ _ _ H hG10) ?_
        rintro _ _ M12 ⟨rfl, hG13, a11, rfl, H⟩ _
        refine T_if_ne (pc' := 93) dX6_takeComparison_88 (by decide) (pf := 91) rfl (fun c14 => ?_) (fun c14 => ?_)
        · skip
          replace H := H.2 c14
          refine T_aload_n (i := 0) (pc' := 94) dX6_takeComparison_93 rfl rfl rfl ?_
          refine U_gr (q := 6) (k := 1) (kI := 1) (pc' := 97) dX6_takeComparison_94 rfl cl6 (by decide) rfl (by decide) flX6_18 rfl rfl rfl (G_at hG13 13 rfl) (by decide) rfl ?_
          refine T_iload_n (i := 2) (pc' := 98) dX6_takeComparison_97 rfl rfl rfl ?_
          refine T_iconst (pc' := 99) dX6_takeComparison_98 (by decide) rfl ?_
          refine T_callV (av := [(0, (if (fX9_isSign M2 60) = 0 then (if (fX9_isSign M2 62) = 0 then (if (fX9_isSign M2 61) = 0 then ((-1) : Int) else 16) else 15) else 14)), (0, 0)]) (st := []) (d2 := 2) (nc2 := 0) (ns2 := 0) (pc' := 102) dX6_takeComparison_99 rfl mtX5_add mvX5_add mlX6_69 cl5 rfl rfl rfl (Nat.le_of_ble_eq_true rfl) (by omega) ⟨by decide, by decide⟩ rfl (pX5_add (E := E) (h := h) (M := M12) (v1 := (if (fX9_isSign M2 60) = 0 then (if (fX9_isSign M2 62) = 0 then (if (fX9_isSign M2 61) = 0 then ((-1) : Int) else 16) else 15) else 14)) (v2 := 0) hG13) (kF (st2 := []) rfl (fun hG15 => ?_))
          obtain ⟨M16, eM16⟩ : ∃ m : Mem, m = (fmX5_add M12 (if (fX9_isSign M2 60) = 0 then (if (fX9_isSign M2 62) = 0 then (if (fX9_isSign M2 61) = 0 then ((-1) : Int) else 16) else 15) else 14) 0) := ⟨_, rfl⟩
          rw [← eM16] at hG15 ⊢
          replace H := H M16 eM16
          refine T_iconst (pc' := 103) dX6_takeComparison_102 (by decide) rfl ?_
          exact T_zret dX6_takeComparison_103 rfl (by decide) ⟨rfl, hG15, _, rfl, H⟩
        · skip
          replace H := H.1 c14
          refine T_iconst (pc' := 92) dX6_takeComparison_91 (by decide) rfl ?_
          exact T_zret dX6_takeComparison_92 rfl (by decide) ⟨rfl, hG13, _, rfl, H⟩
      · skip
        replace H := H.1 c7
        refine T_aload_n (i := 0) (pc' := 69) dX6_takeComparison_68 rfl rfl rfl ?_
        refine U_gr (q := 3) (k := 0) (kI := 0) (pc' := 72) dX6_takeComparison_69 rfl cl6 (by decide) rfl (by decide) flX6_9 rfl rfl rfl (G_at hG3 12 rfl) (by decide) rfl ?_
        refine T_callV (av := []) (st := []) (d2 := 2) (nc2 := 0) (ns2 := 0) (pc' := 75) dX6_takeComparison_72 rfl mtX9_unasked mvX9_unasked mlX6_40 cl9 rfl rfl rfl (Nat.le_of_ble_eq_true rfl) (by omega) ⟨by decide, by decide⟩ rfl (pX9_unasked (E := E) (h := h) (M := M2) hG3) (kF (st2 := [(0, fX9_unasked)]) rfl (fun hG17 => ?_))
        obtain ⟨M18, eM18⟩ : ∃ m : Mem, m = (fmX9_unasked M2) := ⟨_, rfl⟩
        rw [← eM18] at hG17 ⊢
        replace H := H M18 eM18
        obtain ⟨z1, H⟩ := H
        exact T_zret dX6_takeComparison_75 rfl z1 ⟨rfl, hG17, _, rfl, H⟩
    refine T_if_eq (pc' := 27) dX6_takeComparison_19 (by decide) (pf := 22) rfl (fun c19 => ?_) (fun c19 => ?_)
    · skip
      refine T_aload_n (i := 0) (pc' := 28) dX6_takeComparison_27 rfl rfl rfl ?_
      refine U_gr (q := 3) (k := 0) (kI := 0) (pc' := 31) dX6_takeComparison_28 rfl cl6 (by decide) rfl (by decide) flX6_9 rfl rfl rfl (G_at hG3 12 rfl) (by decide) rfl ?_
      refine T_bipush (pc' := 33) dX6_takeComparison_31 rfl (by decide) rfl ?_
      refine T_callV (av := [(0, 62)]) (st := []) (d2 := 2) (nc2 := 0) (ns2 := 0) (pc' := 36) dX6_takeComparison_33 rfl mtX9_isSign mvX9_isSign mlX6_83 cl9 rfl rfl rfl (Nat.le_of_ble_eq_true rfl) (by omega) ⟨by decide, by decide⟩ rfl (pX9_isSign (E := E) (h := h) (M := M2) (v1 := 62) hG3) (kF (st2 := [(0, (fX9_isSign M2 62))]) rfl (fun hG20 => ?_))
      refine T_if_eq (pc' := 44) dX6_takeComparison_36 (by decide) (pf := 39) rfl (fun c21 => ?_) (fun c21 => ?_)
      · skip
        refine T_aload_n (i := 0) (pc' := 45) dX6_takeComparison_44 rfl rfl rfl ?_
        refine U_gr (q := 3) (k := 0) (kI := 0) (pc' := 48) dX6_takeComparison_45 rfl cl6 (by decide) rfl (by decide) flX6_9 rfl rfl rfl (G_at hG3 12 rfl) (by decide) rfl ?_
        refine T_bipush (pc' := 50) dX6_takeComparison_48 rfl (by decide) rfl ?_
        refine T_callV (av := [(0, 61)]) (st := []) (d2 := 2) (nc2 := 0) (ns2 := 0) (pc' := 53) dX6_takeComparison_50 rfl mtX9_isSign mvX9_isSign mlX6_83 cl9 rfl rfl rfl (Nat.le_of_ble_eq_true rfl) (by omega) ⟨by decide, by decide⟩ rfl (pX9_isSign (E := E) (h := h) (M := M2) (v1 := 61) hG3) (kF (st2 := [(0, (fX9_isSign M2 61))]) rfl (fun hG22 => ?_))
        refine T_if_eq (pc' := 61) dX6_takeComparison_53 (by decide) (pf := 56) rfl (fun c23 => ?_) (fun c23 => ?_)
        · skip
          refine T_iconst (pc' := 62) dX6_takeComparison_61 (by decide) rfl ?_
          exact T_wk (L' := [(2, 5), (0, v1), (3, 0)]) (by have q := HJ6; try simp only [if_pos c19] at q ⊢; try simp only [if_pos c21] at q ⊢; try simp only [if_pos c23] at q ⊢; exact q) ⟨Or.inr rfl, Or.inr rfl, Or.inl rfl, trivial⟩
        · skip
          refine T_bipush (pc' := 58) dX6_takeComparison_56 rfl (by decide) rfl ?_
          refine T_goto (pc' := 62) dX6_takeComparison_58 (by decide) ?_
          exact T_wk (L' := [(2, 5), (0, v1), (3, 0)]) (by have q := HJ6; try simp only [if_pos c19] at q ⊢; try simp only [if_pos c21] at q ⊢; try simp only [if_neg c23] at q ⊢; exact q) ⟨Or.inr rfl, Or.inr rfl, Or.inl rfl, trivial⟩
      · skip
        refine T_bipush (pc' := 41) dX6_takeComparison_39 rfl (by decide) rfl ?_
        refine T_goto (pc' := 62) dX6_takeComparison_41 (by decide) ?_
        exact T_wk (L' := [(2, 5), (0, v1), (3, 0)]) (by have q := HJ6; try simp only [if_pos c19] at q ⊢; try simp only [if_neg c21] at q ⊢; exact q) ⟨Or.inr rfl, Or.inr rfl, Or.inl rfl, trivial⟩
    · skip
      refine T_bipush (pc' := 24) dX6_takeComparison_22 rfl (by decide) rfl ?_
      refine T_goto (pc' := 62) dX6_takeComparison_24 (by decide) ?_
      exact T_wk (L' := [(2, 5), (0, v1), (3, 0)]) (by have q := HJ6; try simp only [if_neg c19] at q ⊢; exact q) ⟨Or.inr rfl, Or.inr rfl, Or.inl rfl, trivial⟩
  · skip
    replace H := H.1 c4
    refine T_iconst (pc' := 9) dX6_takeComparison_8 (by decide) rfl ?_
    exact T_zret dX6_takeComparison_9 rfl (by decide) ⟨rfl, hG3, _, rfl, H⟩
def PX6_takeSum_12 (v1 : Int) (R : Nat → Int → Mem → (Int → Mem → Prop) → Prop) (K : Mem → Prop) (Q : Int → Mem → Prop) : Nat → Int → Mem → Prop
  | 0 => fun _ _ => False
  | k + 1 => fun v2 M => ((1600 ≤ v2 → K M) ∧ (¬ (1600 ≤ v2) → (((fX9_isSign M 43) = 0 → (((fX9_isSign M 45) = 0 → K M) ∧ (¬ ((fX9_isSign M 45) = 0) → PX9_next M (fun _ M21 => R 5 v1 M21 (fun a23 M24 => ((a23 = 0 → Q 0 M24) ∧ (¬ (a23 = 0) → (∀ M28 : Mem, M28 = (fmX5_add M24 (if (fX9_isSign M 43) = 0 then (11 : Int) else 10) 0) → PX6_takeSum_12 v1 R K Q k (wr32 (v2 + 1)) M28)))))))) ∧ (¬ ((fX9_isSign M 43) = 0) → PX9_next M (fun _ M7 => R 5 v1 M7 (fun a9 M10 => ((a9 = 0 → Q 0 M10) ∧ (¬ (a9 = 0) → (∀ M14 : Mem, M14 = (fmX5_add M10 (if (fX9_isSign M 43) = 0 then (11 : Int) else 10) 0) → PX6_takeSum_12 v1 R K Q k (wr32 (v2 + 1)) M14)))))))))
def PX6_takeSum (R : Nat → Int → Mem → (Int → Mem → Prop) → Prop) (v1 : Int) (M : Mem) (Q : Int → Mem → Prop) : Prop :=
  R 5 v1 M (fun a1 M2 => ((a1 = 0 → Q 0 M2) ∧ (¬ (a1 = 0) → (∃ k5 : Nat, PX6_takeSum_12 v1 R (fun M6 => Q 1 M6) Q k5 0 M2))))
set_option maxRecDepth 100000 in
set_option maxHeartbeats 2000000 in
theorem qX6_takeSum_12 {E : EV} {h : Int} {v1 : Int} {R : Nat → Int → Mem → (Int → Mem → Prop) → Prop}  {D : Nat} (hD : 20 ≤ D) (hRX6_takeTest : ∀ v1 M (Q : Int → Mem → Prop), R 0 v1 M Q → C2 E miX6_takeTest D h [(2, 5), (0, v1)] M (RI 0 Q)) (hRX6_takeBoth : ∀ v1 M (Q : Int → Mem → Prop), R 1 v1 M Q → C2 E miX6_takeBoth D h [(2, 5), (0, v1)] M (RI 0 Q)) (hRX6_takeFact : ∀ v1 M (Q : Int → Mem → Prop), R 2 v1 M Q → C2 E miX6_takeFact D h [(2, 5), (0, v1)] M (RI 0 Q)) (hRX6_takeComparison : ∀ v1 M (Q : Int → Mem → Prop), R 3 v1 M Q → C2 E miX6_takeComparison D h [(2, 5), (0, v1)] M (RI 0 Q)) (hRX6_takeSum : ∀ v1 M (Q : Int → Mem → Prop), R 4 v1 M Q → C2 E miX6_takeSum D h [(2, 5), (0, v1)] M (RI 0 Q)) (hRX6_takeProduct : ∀ v1 M (Q : Int → Mem → Prop), R 5 v1 M Q → C2 E miX6_takeProduct D h [(2, 5), (0, v1)] M (RI 0 Q)) (hRX6_takePart : ∀ v1 M (Q : Int → Mem → Prop), R 6 v1 M Q → C2 E miX6_takePart D h [(2, 5), (0, v1)] M (RI 0 Q)) (hRX6_takePair : ∀ v1 M (Q : Int → Mem → Prop), R 7 v1 M Q → C2 E miX6_takePair D h [(2, 5), (0, v1)] M (RI 0 Q)) {K : Mem → Prop} {Q : Int → Mem → Prop} (hK : ∀ (M : Mem), K M → G h M → TG E miX6_takeSum (D + 1) h (RI 0 Q) 95 [(2, 5), (3, 0), (3, 0), (3, 0)] [] M) : ∀ (k : Nat) (v2 : Int) (M : Mem), PX6_takeSum_12 v1 R K Q k v2 M → G h M → TG E miX6_takeSum (D + 1) h (RI 0 Q) 12 [(2, 5), (0, v1), (0, v2), (3, 0)] [] M := by
  intro k
  induction k with
  | zero =>
    intro v2 M H
    exact False.elim H
  | succ k ih =>
    intro v2 M H hG
    refine T_iload_n (i := 2) (pc' := 13) dX6_takeSum_12 rfl rfl rfl ?_
    refine T_sipush (pc' := 16) dX6_takeSum_13 rfl (by decide) rfl ?_
    refine T_icmp_ge (pc' := 95) dX6_takeSum_16 (by decide) (pf := 19) rfl (fun c1 => ?_) (fun c1 => ?_)
    · skip
      replace H := H.1 c1
      exact T_wk (L' := [(2, 5), (3, 0), (3, 0), (3, 0)]) (hK _ H hG) ⟨Or.inr rfl, Or.inl rfl, Or.inl rfl, Or.inl rfl, trivial⟩
    · skip
      replace H := H.2 c1
      refine T_aload_n (i := 0) (pc' := 20) dX6_takeSum_19 rfl rfl rfl ?_
      refine U_gr (q := 3) (k := 0) (kI := 0) (pc' := 23) dX6_takeSum_20 rfl cl6 (by decide) rfl (by decide) flX6_9 rfl rfl rfl (G_at hG 12 rfl) (by decide) rfl ?_
      refine T_bipush (pc' := 25) dX6_takeSum_23 rfl (by decide) rfl ?_
      refine T_callV (av := [(0, 43)]) (st := []) (d2 := 2) (nc2 := 0) (ns2 := 0) (pc' := 28) dX6_takeSum_25 rfl mtX9_isSign mvX9_isSign mlX6_83 cl9 rfl rfl rfl (Nat.le_of_ble_eq_true rfl) (by omega) ⟨by decide, by decide⟩ rfl (pX9_isSign (E := E) (h := h) (M := M) (v1 := 43) hG) (kF (st2 := [(0, (fX9_isSign M 43))]) rfl (fun hG2 => ?_))
      refine T_if_ne (pc' := 43) dX6_takeSum_28 (by decide) (pf := 31) rfl (fun c3 => ?_) (fun c3 => ?_)
      · skip
        replace H := H.2 c3
        refine T_aload_n (i := 0) (pc' := 44) dX6_takeSum_43 rfl rfl rfl ?_
        refine U_gr (q := 3) (k := 0) (kI := 0) (pc' := 47) dX6_takeSum_44 rfl cl6 (by decide) rfl (by decide) flX6_9 rfl rfl rfl (G_at hG 12 rfl) (by decide) rfl ?_
        refine T_bipush (pc' := 49) dX6_takeSum_47 rfl (by decide) rfl ?_
        refine T_callV (av := [(0, 43)]) (st := []) (d2 := 2) (nc2 := 0) (ns2 := 0) (pc' := 52) dX6_takeSum_49 rfl mtX9_isSign mvX9_isSign mlX6_83 cl9 rfl rfl rfl (Nat.le_of_ble_eq_true rfl) (by omega) ⟨by decide, by decide⟩ rfl (pX9_isSign (E := E) (h := h) (M := M) (v1 := 43) hG) (kF (st2 := [(0, (fX9_isSign M 43))]) rfl (fun hG4 => ?_))
        have HJ5 : T E miX6_takeSum (D + 1) 126 0 0 (fun r S M' => S = S0 ∧ G h M' ∧ RI 0 Q r M') 62 [(2, 5), (0, v1), (0, v2), (3, 0)] [(0, (if (fX9_isSign M 43) = 0 then (11 : Int) else 10))] S0 M 0 0 := by
          refine T_istore_n (i := 3) (L' := [(2, 5), (0, v1), (0, v2), (0, (if (fX9_isSign M 43) = 0 then (11 : Int) else 10))]) (pc' := 63) dX6_takeSum_62 rfl (by decide) rfl rfl ?_
          refine T_aload_n (i := 0) (pc' := 64) dX6_takeSum_63 rfl rfl rfl ?_
          refine U_gr (q := 3) (k := 0) (kI := 0) (pc' := 67) dX6_takeSum_64 rfl cl6 (by decide) rfl (by decide) flX6_9 rfl rfl rfl (G_at hG 12 rfl) (by decide) rfl ?_
          refine T_callV (av := []) (st := []) (d2 := 2) (nc2 := 0) (ns2 := 0) (pc' := 70) dX6_takeSum_67 rfl mtX9_next mvX9_next mlX6_44 cl9 rfl rfl rfl (Nat.le_of_ble_eq_true rfl) (by omega) ⟨by decide, by decide⟩ rfl (pX9_next (E := E) (h := h) (M := M) H hG) ?_
          rintro _ _ M7 ⟨rfl, hG8, rfl, H⟩ _
          refine T_aload_n (i := 0) (pc' := 71) dX6_takeSum_70 rfl rfl rfl ?_
          refine T_iload_n (i := 1) (pc' := 72) dX6_takeSum_71 rfl rfl rfl ?_
          refine T_callV (av := [(0, v1)]) (st := []) (d2 := D) (nc2 := 0) (ns2 := 0) (pc' := 75) dX6_takeSum_72 rfl mtX6_takeProduct mvX6_takeProduct mlX6_95 cl6 rfl rfl rfl (Nat.le_of_ble_eq_true rfl) (by omega) ⟨by decide, by decide⟩ rfl (hRX6_takeProduct _ _ _ H hG8) ?_
          rintro _ _ M10 ⟨rfl, hG11, a9, rfl, H⟩ _
          refine T_if_ne (pc' := 80) dX6_takeSum_75 (by decide) (pf := 78) rfl (fun c12 => ?_) (fun c12 => ?_)
          · skip
            replace H := H.2 c12
            refine T_aload_n (i := 0) (pc' := 81) dX6_takeSum_80 rfl rfl rfl ?_
            refine U_gr (q := 6) (k := 1) (kI := 1) (pc' := 84) dX6_takeSum_81 rfl cl6 (by decide) rfl (by decide) flX6_18 rfl rfl rfl (G_at hG11 13 rfl) (by decide) rfl ?_
            refine T_iload_n (i := 3) (pc' := 85) dX6_takeSum_84 rfl rfl rfl ?_
            refine T_iconst (pc' := 86) dX6_takeSum_85 (by decide) rfl ?_
            refine T_callV (av := [(0, (if (fX9_isSign M 43) = 0 then (11 : Int) else 10)), (0, 0)]) (st := []) (d2 := 2) (nc2 := 0) (ns2 := 0) (pc' := 89) dX6_takeSum_86 rfl mtX5_add mvX5_add mlX6_69 cl5 rfl rfl rfl (Nat.le_of_ble_eq_true rfl) (by omega) ⟨by decide, by decide⟩ rfl (pX5_add (E := E) (h := h) (M := M10) (v1 := (if (fX9_isSign M 43) = 0 then (11 : Int) else 10)) (v2 := 0) hG11) (kF (st2 := []) rfl (fun hG13 => ?_))
            obtain ⟨M14, eM14⟩ : ∃ m : Mem, m = (fmX5_add M10 (if (fX9_isSign M 43) = 0 then (11 : Int) else 10) 0) := ⟨_, rfl⟩
            rw [← eM14] at hG13 ⊢
            replace H := H M14 eM14
            refine T_iinc (L' := [(2, 5), (0, v1), (0, (wr32 (v2 + 1))), (0, (if (fX9_isSign M 43) = 0 then (11 : Int) else 10))]) (pc' := 92) dX6_takeSum_89 rfl (by decide) rfl rfl ?_
            refine T_goto (pc' := 12) dX6_takeSum_92 (by decide) ?_
            exact T_wk (L' := [(2, 5), (0, v1), (0, (wr32 (v2 + 1))), (3, 0)]) (ih _ _ H hG13) ⟨Or.inr rfl, Or.inr rfl, Or.inr rfl, Or.inl rfl, trivial⟩
          · skip
            replace H := H.1 c12
            refine T_iconst (pc' := 79) dX6_takeSum_78 (by decide) rfl ?_
            exact T_zret dX6_takeSum_79 rfl (by decide) ⟨rfl, hG11, _, rfl, H⟩
        refine T_if_eq (pc' := 60) dX6_takeSum_52 (by decide) (pf := 55) rfl (fun c15 => ?_) (fun c15 => ?_)
        · skip
          refine T_bipush (pc' := 62) dX6_takeSum_60 rfl (by decide) rfl ?_
          exact T_wk (L' := [(2, 5), (0, v1), (0, v2), (3, 0)]) (by have q := HJ5; try simp only [if_pos c15] at q ⊢; exact q) ⟨Or.inr rfl, Or.inr rfl, Or.inr rfl, Or.inl rfl, trivial⟩
        · skip
          refine T_bipush (pc' := 57) dX6_takeSum_55 rfl (by decide) rfl ?_
          refine T_goto (pc' := 62) dX6_takeSum_57 (by decide) ?_
          exact T_wk (L' := [(2, 5), (0, v1), (0, v2), (3, 0)]) (by have q := HJ5; try simp only [if_neg c15] at q ⊢; exact q) ⟨Or.inr rfl, Or.inr rfl, Or.inr rfl, Or.inl rfl, trivial⟩
      · skip
        replace H := H.1 c3
        refine T_aload_n (i := 0) (pc' := 32) dX6_takeSum_31 rfl rfl rfl ?_
        refine U_gr (q := 3) (k := 0) (kI := 0) (pc' := 35) dX6_takeSum_32 rfl cl6 (by decide) rfl (by decide) flX6_9 rfl rfl rfl (G_at hG 12 rfl) (by decide) rfl ?_
        refine T_bipush (pc' := 37) dX6_takeSum_35 rfl (by decide) rfl ?_
        refine T_callV (av := [(0, 45)]) (st := []) (d2 := 2) (nc2 := 0) (ns2 := 0) (pc' := 40) dX6_takeSum_37 rfl mtX9_isSign mvX9_isSign mlX6_83 cl9 rfl rfl rfl (Nat.le_of_ble_eq_true rfl) (by omega) ⟨by decide, by decide⟩ rfl (pX9_isSign (E := E) (h := h) (M := M) (v1 := 45) hG) (kF (st2 := [(0, (fX9_isSign M 45))]) rfl (fun hG16 => ?_))
        refine T_if_eq (pc' := 95) dX6_takeSum_40 (by decide) (pf := 43) rfl (fun c17 => ?_) (fun c17 => ?_)
        · skip
          replace H := H.1 c17
          exact T_wk (L' := [(2, 5), (3, 0), (3, 0), (3, 0)]) (hK _ H hG) ⟨Or.inr rfl, Or.inl rfl, Or.inl rfl, Or.inl rfl, trivial⟩
        · skip
          replace H := H.2 c17
          refine T_aload_n (i := 0) (pc' := 44) dX6_takeSum_43 rfl rfl rfl ?_
          refine U_gr (q := 3) (k := 0) (kI := 0) (pc' := 47) dX6_takeSum_44 rfl cl6 (by decide) rfl (by decide) flX6_9 rfl rfl rfl (G_at hG 12 rfl) (by decide) rfl ?_
          refine T_bipush (pc' := 49) dX6_takeSum_47 rfl (by decide) rfl ?_
          refine T_callV (av := [(0, 43)]) (st := []) (d2 := 2) (nc2 := 0) (ns2 := 0) (pc' := 52) dX6_takeSum_49 rfl mtX9_isSign mvX9_isSign mlX6_83 cl9 rfl rfl rfl (Nat.le_of_ble_eq_true rfl) (by omega) ⟨by decide, by decide⟩ rfl (pX9_isSign (E := E) (h := h) (M := M) (v1 := 43) hG) (kF (st2 := [(0, (fX9_isSign M 43))]) rfl (fun hG18 => ?_))
          have HJ19 : T E miX6_takeSum (D + 1) 126 0 0 (fun r S M' => S = S0 ∧ G h M' ∧ RI 0 Q r M') 62 [(2, 5), (0, v1), (0, v2), (3, 0)] [(0, (if (fX9_isSign M 43) = 0 then (11 : Int) else 10))] S0 M 0 0 := by
            refine T_istore_n (i := 3) (L' := [(2, 5), (0, v1), (0, v2), (0, (if (fX9_isSign M 43) = 0 then (11 : Int) else 10))]) (pc' := 63) dX6_takeSum_62 rfl (by decide) rfl rfl ?_
            refine T_aload_n (i := 0) (pc' := 64) dX6_takeSum_63 rfl rfl rfl ?_
            refine U_gr (q := 3) (k := 0) (kI := 0) (pc' := 67) dX6_takeSum_64 rfl cl6 (by decide) rfl (by decide) flX6_9 rfl rfl rfl (G_at hG 12 rfl) (by decide) rfl ?_
            refine T_callV (av := []) (st := []) (d2 := 2) (nc2 := 0) (ns2 := 0) (pc' := 70) dX6_takeSum_67 rfl mtX9_next mvX9_next mlX6_44 cl9 rfl rfl rfl (Nat.le_of_ble_eq_true rfl) (by omega) ⟨by decide, by decide⟩ rfl (pX9_next (E := E) (h := h) (M := M) H hG) ?_
            rintro _ _ M21 ⟨rfl, hG22, rfl, H⟩ _
            refine T_aload_n (i := 0) (pc' := 71) dX6_takeSum_70 rfl rfl rfl ?_
            refine T_iload_n (i := 1) (pc' := 72) dX6_takeSum_71 rfl rfl rfl ?_
            refine T_callV (av := [(0, v1)]) (st := []) (d2 := D) (nc2 := 0) (ns2 := 0) (pc' := 75) dX6_takeSum_72 rfl mtX6_takeProduct mvX6_takeProduct mlX6_95 cl6 rfl rfl rfl (Nat.le_of_ble_eq_true rfl) (by omega) ⟨by decide, by decide⟩ rfl (hRX6_takeProduct _ _ _ H hG22) ?_
            rintro _ _ M24 ⟨rfl, hG25, a23, rfl, H⟩ _
            refine T_if_ne (pc' := 80) dX6_takeSum_75 (by decide) (pf := 78) rfl (fun c26 => ?_) (fun c26 => ?_)
            · skip
              replace H := H.2 c26
              refine T_aload_n (i := 0) (pc' := 81) dX6_takeSum_80 rfl rfl rfl ?_
              refine U_gr (q := 6) (k := 1) (kI := 1) (pc' := 84) dX6_takeSum_81 rfl cl6 (by decide) rfl (by decide) flX6_18 rfl rfl rfl (G_at hG25 13 rfl) (by decide) rfl ?_
              refine T_iload_n (i := 3) (pc' := 85) dX6_takeSum_84 rfl rfl rfl ?_
              refine T_iconst (pc' := 86) dX6_takeSum_85 (by decide) rfl ?_
              refine T_callV (av := [(0, (if (fX9_isSign M 43) = 0 then (11 : Int) else 10)), (0, 0)]) (st := []) (d2 := 2) (nc2 := 0) (ns2 := 0) (pc' := 89) dX6_takeSum_86 rfl mtX5_add mvX5_add mlX6_69 cl5 rfl rfl rfl (Nat.le_of_ble_eq_true rfl) (by omega) ⟨by decide, by decide⟩ rfl (pX5_add (E := E) (h := h) (M := M24) (v1 := (if (fX9_isSign M 43) = 0 then (11 : Int) else 10)) (v2 := 0) hG25) (kF (st2 := []) rfl (fun hG27 => ?_))
              obtain ⟨M28, eM28⟩ : ∃ m : Mem, m = (fmX5_add M24 (if (fX9_isSign M 43) = 0 then (11 : Int) else 10) 0) := ⟨_, rfl⟩
              rw [← eM28] at hG27 ⊢
              replace H := H M28 eM28
              refine T_iinc (L' := [(2, 5), (0, v1), (0, (wr32 (v2 + 1))), (0, (if (fX9_isSign M 43) = 0 then (11 : Int) else 10))]) (pc' := 92) dX6_takeSum_89 rfl (by decide) rfl rfl ?_
              refine T_goto (pc' := 12) dX6_takeSum_92 (by decide) ?_
              exact T_wk (L' := [(2, 5), (0, v1), (0, (wr32 (v2 + 1))), (3, 0)]) (ih _ _ H hG27) ⟨Or.inr rfl, Or.inr rfl, Or.inr rfl, Or.inl rfl, trivial⟩
            · skip
              replace H := H.1 c26
              refine T_iconst (pc' := 79) dX6_takeSum_78 (by decide) rfl ?_
              exact T_zret dX6_takeSum_79 rfl (by decide) ⟨rfl, hG25, _, rfl, H⟩
          refine T_if_eq (pc' := 60) dX6_takeSum_52 (by decide) (pf := 55) rfl (fun c29 => ?_) (fun c29 => ?_)
          · skip
            refine T_bipush (pc' := 62) dX6_takeSum_60 rfl (by decide) rfl ?_
            exact T_wk (L' := [(2, 5), (0, v1), (0, v2), (3, 0)]) (by have q := HJ19; try simp only [if_pos c29] at q ⊢; exact q) ⟨Or.inr rfl, Or.inr rfl, Or.inr rfl, Or.inl rfl, trivial⟩
          · skip
            refine T_bipush (pc' := 57) dX6_takeSum_55 rfl (by decide) rfl ?_
            refine T_goto (pc' := 62) dX6_takeSum_57 (by decide) ?_
            exact T_wk (L' := [(2, 5), (0, v1), (0, v2), (3, 0)]) (by have q := HJ19; try simp only [if_neg c29] at q ⊢; exact q) ⟨Or.inr rfl, Or.inr rfl, Or.inr rfl, Or.inl rfl, trivial⟩
set_option maxRecDepth 100000 in
set_option maxHeartbeats 2000000 in
theorem pX6_takeSum {E : EV} {h : Int} {M : Mem} {v1 : Int}  {R : Nat → Int → Mem → (Int → Mem → Prop) → Prop} {D : Nat} (hD : 20 ≤ D) (hRX6_takeTest : ∀ v1 M (Q : Int → Mem → Prop), R 0 v1 M Q → C2 E miX6_takeTest D h [(2, 5), (0, v1)] M (RI 0 Q)) (hRX6_takeBoth : ∀ v1 M (Q : Int → Mem → Prop), R 1 v1 M Q → C2 E miX6_takeBoth D h [(2, 5), (0, v1)] M (RI 0 Q)) (hRX6_takeFact : ∀ v1 M (Q : Int → Mem → Prop), R 2 v1 M Q → C2 E miX6_takeFact D h [(2, 5), (0, v1)] M (RI 0 Q)) (hRX6_takeComparison : ∀ v1 M (Q : Int → Mem → Prop), R 3 v1 M Q → C2 E miX6_takeComparison D h [(2, 5), (0, v1)] M (RI 0 Q)) (hRX6_takeSum : ∀ v1 M (Q : Int → Mem → Prop), R 4 v1 M Q → C2 E miX6_takeSum D h [(2, 5), (0, v1)] M (RI 0 Q)) (hRX6_takeProduct : ∀ v1 M (Q : Int → Mem → Prop), R 5 v1 M Q → C2 E miX6_takeProduct D h [(2, 5), (0, v1)] M (RI 0 Q)) (hRX6_takePart : ∀ v1 M (Q : Int → Mem → Prop), R 6 v1 M Q → C2 E miX6_takePart D h [(2, 5), (0, v1)] M (RI 0 Q)) (hRX6_takePair : ∀ v1 M (Q : Int → Mem → Prop), R 7 v1 M Q → C2 E miX6_takePair D h [(2, 5), (0, v1)] M (RI 0 Q)) {Q : Int → Mem → Prop} (H : PX6_takeSum R v1 M Q) : C2 E miX6_takeSum (D + 1) h [(2, 5), (0, v1)] M (RI 0 Q) := by
  refine C2_of (L := [(2, 5), (0, v1), (3, 0), (3, 0)]) (by decide +kernel) (Nat.le_of_ble_eq_true rfl) rfl (fun hG => ?_)
  refine T_aload_n (i := 0) (pc' := 1) dX6_takeSum_0 rfl rfl rfl ?_
  refine T_iload_n (i := 1) (pc' := 2) dX6_takeSum_1 rfl rfl rfl ?_
  refine T_callV (av := [(0, v1)]) (st := []) (d2 := D) (nc2 := 0) (ns2 := 0) (pc' := 5) dX6_takeSum_2 rfl mtX6_takeProduct mvX6_takeProduct mlX6_95 cl6 rfl rfl rfl (Nat.le_of_ble_eq_true rfl) (by omega) ⟨by decide, by decide⟩ rfl (hRX6_takeProduct _ _ _ H hG) ?_
  rintro _ _ M2 ⟨rfl, hG3, a1, rfl, H⟩ _
  refine T_if_ne (pc' := 10) dX6_takeSum_5 (by decide) (pf := 8) rfl (fun c4 => ?_) (fun c4 => ?_)
  · skip
    replace H := H.2 c4
    refine T_iconst (pc' := 11) dX6_takeSum_10 (by decide) rfl ?_
    refine T_istore_n (i := 2) (L' := [(2, 5), (0, v1), (0, 0), (3, 0)]) (pc' := 12) dX6_takeSum_11 rfl (by decide) rfl rfl ?_
    obtain ⟨k5, H⟩ := H
    refine T_wk (L' := [(2, 5), (0, v1), (0, 0), (3, 0)]) (qX6_takeSum_12 (v1 := v1) hD hRX6_takeTest hRX6_takeBoth hRX6_takeFact hRX6_takeComparison hRX6_takeSum hRX6_takeProduct hRX6_takePart hRX6_takePair (fun M6 H hG7 => ?_) _ _ _ H hG3) ⟨Or.inr rfl, Or.inr rfl, Or.inr rfl, Or.inl rfl, trivial⟩
    refine T_iconst (pc' := 96) dX6_takeSum_95 (by decide) rfl ?_
    exact T_zret dX6_takeSum_96 rfl (by decide) ⟨rfl, hG7, _, rfl, H⟩
  · skip
    replace H := H.1 c4
    refine T_iconst (pc' := 9) dX6_takeSum_8 (by decide) rfl ?_
    exact T_zret dX6_takeSum_9 rfl (by decide) ⟨rfl, hG3, _, rfl, H⟩
def PX6_takeProduct_12 (v1 : Int) (R : Nat → Int → Mem → (Int → Mem → Prop) → Prop) (K : Mem → Prop) (Q : Int → Mem → Prop) : Nat → Int → Mem → Prop
  | 0 => fun _ _ => False
  | k + 1 => fun v2 M => ((1600 ≤ v2 → K M) ∧ (¬ (1600 ≤ v2) → (((fX9_isSign M 42) = 0 → (((fX9_isSign M 47) = 0 → K M) ∧ (¬ ((fX9_isSign M 47) = 0) → PX9_next M (fun _ M21 => R 6 v1 M21 (fun a23 M24 => ((a23 = 0 → Q 0 M24) ∧ (¬ (a23 = 0) → (∀ M28 : Mem, M28 = (fmX5_add M24 (if (fX9_isSign M 42) = 0 then (13 : Int) else 12) 0) → PX6_takeProduct_12 v1 R K Q k (wr32 (v2 + 1)) M28)))))))) ∧ (¬ ((fX9_isSign M 42) = 0) → PX9_next M (fun _ M7 => R 6 v1 M7 (fun a9 M10 => ((a9 = 0 → Q 0 M10) ∧ (¬ (a9 = 0) → (∀ M14 : Mem, M14 = (fmX5_add M10 (if (fX9_isSign M 42) = 0 then (13 : Int) else 12) 0) → PX6_takeProduct_12 v1 R K Q k (wr32 (v2 + 1)) M14)))))))))
def PX6_takeProduct (R : Nat → Int → Mem → (Int → Mem → Prop) → Prop) (v1 : Int) (M : Mem) (Q : Int → Mem → Prop) : Prop :=
  R 6 v1 M (fun a1 M2 => ((a1 = 0 → Q 0 M2) ∧ (¬ (a1 = 0) → (∃ k5 : Nat, PX6_takeProduct_12 v1 R (fun M6 => Q 1 M6) Q k5 0 M2))))
set_option maxRecDepth 100000 in
set_option maxHeartbeats 2000000 in
theorem qX6_takeProduct_12 {E : EV} {h : Int} {v1 : Int} {R : Nat → Int → Mem → (Int → Mem → Prop) → Prop}  {D : Nat} (hD : 20 ≤ D) (hRX6_takeTest : ∀ v1 M (Q : Int → Mem → Prop), R 0 v1 M Q → C2 E miX6_takeTest D h [(2, 5), (0, v1)] M (RI 0 Q)) (hRX6_takeBoth : ∀ v1 M (Q : Int → Mem → Prop), R 1 v1 M Q → C2 E miX6_takeBoth D h [(2, 5), (0, v1)] M (RI 0 Q)) (hRX6_takeFact : ∀ v1 M (Q : Int → Mem → Prop), R 2 v1 M Q → C2 E miX6_takeFact D h [(2, 5), (0, v1)] M (RI 0 Q)) (hRX6_takeComparison : ∀ v1 M (Q : Int → Mem → Prop), R 3 v1 M Q → C2 E miX6_takeComparison D h [(2, 5), (0, v1)] M (RI 0 Q)) (hRX6_takeSum : ∀ v1 M (Q : Int → Mem → Prop), R 4 v1 M Q → C2 E miX6_takeSum D h [(2, 5), (0, v1)] M (RI 0 Q)) (hRX6_takeProduct : ∀ v1 M (Q : Int → Mem → Prop), R 5 v1 M Q → C2 E miX6_takeProduct D h [(2, 5), (0, v1)] M (RI 0 Q)) (hRX6_takePart : ∀ v1 M (Q : Int → Mem → Prop), R 6 v1 M Q → C2 E miX6_takePart D h [(2, 5), (0, v1)] M (RI 0 Q)) (hRX6_takePair : ∀ v1 M (Q : Int → Mem → Prop), R 7 v1 M Q → C2 E miX6_takePair D h [(2, 5), (0, v1)] M (RI 0 Q)) {K : Mem → Prop} {Q : Int → Mem → Prop} (hK : ∀ (M : Mem), K M → G h M → TG E miX6_takeProduct (D + 1) h (RI 0 Q) 95 [(2, 5), (3, 0), (3, 0), (3, 0)] [] M) : ∀ (k : Nat) (v2 : Int) (M : Mem), PX6_takeProduct_12 v1 R K Q k v2 M → G h M → TG E miX6_takeProduct (D + 1) h (RI 0 Q) 12 [(2, 5), (0, v1), (0, v2), (3, 0)] [] M := by
  intro k
  induction k with
  | zero =>
    intro v2 M H
    exact False.elim H
  | succ k ih =>
    intro v2 M H hG
    refine T_iload_n (i := 2) (pc' := 13) dX6_takeProduct_12 rfl rfl rfl ?_
    refine T_sipush (pc' := 16) dX6_takeProduct_13 rfl (by decide) rfl ?_
    refine T_icmp_ge (pc' := 95) dX6_takeProduct_16 (by decide) (pf := 19) rfl (fun c1 => ?_) (fun c1 => ?_)
    · skip
      replace H := H.1 c1
      exact T_wk (L' := [(2, 5), (3, 0), (3, 0), (3, 0)]) (hK _ H hG) ⟨Or.inr rfl, Or.inl rfl, Or.inl rfl, Or.inl rfl, trivial⟩
    · skip
      replace H := H.2 c1
      refine T_aload_n (i := 0) (pc' := 20) dX6_takeProduct_19 rfl rfl rfl ?_
      refine U_gr (q := 3) (k := 0) (kI := 0) (pc' := 23) dX6_takeProduct_20 rfl cl6 (by decide) rfl (by decide) flX6_9 rfl rfl rfl (G_at hG 12 rfl) (by decide) rfl ?_
      refine T_bipush (pc' := 25) dX6_takeProduct_23 rfl (by decide) rfl ?_
      refine T_callV (av := [(0, 42)]) (st := []) (d2 := 2) (nc2 := 0) (ns2 := 0) (pc' := 28) dX6_takeProduct_25 rfl mtX9_isSign mvX9_isSign mlX6_83 cl9 rfl rfl rfl (Nat.le_of_ble_eq_true rfl) (by omega) ⟨by decide, by decide⟩ rfl (pX9_isSign (E := E) (h := h) (M := M) (v1 := 42) hG) (kF (st2 := [(0, (fX9_isSign M 42))]) rfl (fun hG2 => ?_))
      refine T_if_ne (pc' := 43) dX6_takeProduct_28 (by decide) (pf := 31) rfl (fun c3 => ?_) (fun c3 => ?_)
      · skip
        replace H := H.2 c3
        refine T_aload_n (i := 0) (pc' := 44) dX6_takeProduct_43 rfl rfl rfl ?_
        refine U_gr (q := 3) (k := 0) (kI := 0) (pc' := 47) dX6_takeProduct_44 rfl cl6 (by decide) rfl (by decide) flX6_9 rfl rfl rfl (G_at hG 12 rfl) (by decide) rfl ?_
        refine T_bipush (pc' := 49) dX6_takeProduct_47 rfl (by decide) rfl ?_
        refine T_callV (av := [(0, 42)]) (st := []) (d2 := 2) (nc2 := 0) (ns2 := 0) (pc' := 52) dX6_takeProduct_49 rfl mtX9_isSign mvX9_isSign mlX6_83 cl9 rfl rfl rfl (Nat.le_of_ble_eq_true rfl) (by omega) ⟨by decide, by decide⟩ rfl (pX9_isSign (E := E) (h := h) (M := M) (v1 := 42) hG) (kF (st2 := [(0, (fX9_isSign M 42))]) rfl (fun hG4 => ?_))
        have HJ5 : T E miX6_takeProduct (D + 1) 126 0 0 (fun r S M' => S = S0 ∧ G h M' ∧ RI 0 Q r M') 62 [(2, 5), (0, v1), (0, v2), (3, 0)] [(0, (if (fX9_isSign M 42) = 0 then (13 : Int) else 12))] S0 M 0 0 := by
          refine T_istore_n (i := 3) (L' := [(2, 5), (0, v1), (0, v2), (0, (if (fX9_isSign M 42) = 0 then (13 : Int) else 12))]) (pc' := 63) dX6_takeProduct_62 rfl (by decide) rfl rfl ?_
          refine T_aload_n (i := 0) (pc' := 64) dX6_takeProduct_63 rfl rfl rfl ?_
          refine U_gr (q := 3) (k := 0) (kI := 0) (pc' := 67) dX6_takeProduct_64 rfl cl6 (by decide) rfl (by decide) flX6_9 rfl rfl rfl (G_at hG 12 rfl) (by decide) rfl ?_
          refine T_callV (av := []) (st := []) (d2 := 2) (nc2 := 0) (ns2 := 0) (pc' := 70) dX6_takeProduct_67 rfl mtX9_next mvX9_next mlX6_44 cl9 rfl rfl rfl (Nat.le_of_ble_eq_true rfl) (by omega) ⟨by decide, by decide⟩ rfl (pX9_next (E := E) (h := h) (M := M) H hG) ?_
          rintro _ _ M7 ⟨rfl, hG8, rfl, H⟩ _
          refine T_aload_n (i := 0) (pc' := 71) dX6_takeProduct_70 rfl rfl rfl ?_
          refine T_iload_n (i := 1) (pc' := 72) dX6_takeProduct_71 rfl rfl rfl ?_
          refine T_callV (av := [(0, v1)]) (st := []) (d2 := D) (nc2 := 0) (ns2 := 0) (pc' := 75) dX6_takeProduct_72 rfl mtX6_takePart mvX6_takePart mlX6_98 cl6 rfl rfl rfl (Nat.le_of_ble_eq_true rfl) (by omega) ⟨by decide, by decide⟩ rfl (hRX6_takePart _ _ _ H hG8) ?_
          rintro _ _ M10 ⟨rfl, hG11, a9, rfl, H⟩ _
          refine T_if_ne (pc' := 80) dX6_takeProduct_75 (by decide) (pf := 78) rfl (fun c12 => ?_) (fun c12 => ?_)
          · skip
            replace H := H.2 c12
            refine T_aload_n (i := 0) (pc' := 81) dX6_takeProduct_80 rfl rfl rfl ?_
            refine U_gr (q := 6) (k := 1) (kI := 1) (pc' := 84) dX6_takeProduct_81 rfl cl6 (by decide) rfl (by decide) flX6_18 rfl rfl rfl (G_at hG11 13 rfl) (by decide) rfl ?_
            refine T_iload_n (i := 3) (pc' := 85) dX6_takeProduct_84 rfl rfl rfl ?_
            refine T_iconst (pc' := 86) dX6_takeProduct_85 (by decide) rfl ?_
            refine T_callV (av := [(0, (if (fX9_isSign M 42) = 0 then (13 : Int) else 12)), (0, 0)]) (st := []) (d2 := 2) (nc2 := 0) (ns2 := 0) (pc' := 89) dX6_takeProduct_86 rfl mtX5_add mvX5_add mlX6_69 cl5 rfl rfl rfl (Nat.le_of_ble_eq_true rfl) (by omega) ⟨by decide, by decide⟩ rfl (pX5_add (E := E) (h := h) (M := M10) (v1 := (if (fX9_isSign M 42) = 0 then (13 : Int) else 12)) (v2 := 0) hG11) (kF (st2 := []) rfl (fun hG13 => ?_))
            obtain ⟨M14, eM14⟩ : ∃ m : Mem, m = (fmX5_add M10 (if (fX9_isSign M 42) = 0 then (13 : Int) else 12) 0) := ⟨_, rfl⟩
            rw [← eM14] at hG13 ⊢
            replace H := H M14 eM14
            refine T_iinc (L' := [(2, 5), (0, v1), (0, (wr32 (v2 + 1))), (0, (if (fX9_isSign M 42) = 0 then (13 : Int) else 12))]) (pc' := 92) dX6_takeProduct_89 rfl (by decide) rfl rfl ?_
            refine T_goto (pc' := 12) dX6_takeProduct_92 (by decide) ?_
            exact T_wk (L' := [(2, 5), (0, v1), (0, (wr32 (v2 + 1))), (3, 0)]) (ih _ _ H hG13) ⟨Or.inr rfl, Or.inr rfl, Or.inr rfl, Or.inl rfl, trivial⟩
          · skip
            replace H := H.1 c12
            refine T_iconst (pc' := 79) dX6_takeProduct_78 (by decide) rfl ?_
            exact T_zret dX6_takeProduct_79 rfl (by decide) ⟨rfl, hG11, _, rfl, H⟩
        refine T_if_eq (pc' := 60) dX6_takeProduct_52 (by decide) (pf := 55) rfl (fun c15 => ?_) (fun c15 => ?_)
        · skip
          refine T_bipush (pc' := 62) dX6_takeProduct_60 rfl (by decide) rfl ?_
          exact T_wk (L' := [(2, 5), (0, v1), (0, v2), (3, 0)]) (by have q := HJ5; try simp only [if_pos c15] at q ⊢; exact q) ⟨Or.inr rfl, Or.inr rfl, Or.inr rfl, Or.inl rfl, trivial⟩
        · skip
          refine T_bipush (pc' := 57) dX6_takeProduct_55 rfl (by decide) rfl ?_
          refine T_goto (pc' := 62) dX6_takeProduct_57 (by decide) ?_
          exact T_wk (L' := [(2, 5), (0, v1), (0, v2), (3, 0)]) (by have q := HJ5; try simp only [if_neg c15] at q ⊢; exact q) ⟨Or.inr rfl, Or.inr rfl, Or.inr rfl, Or.inl rfl, trivial⟩
      · skip
        replace H := H.1 c3
        refine T_aload_n (i := 0) (pc' := 32) dX6_takeProduct_31 rfl rfl rfl ?_
        refine U_gr (q := 3) (k := 0) (kI := 0) (pc' := 35) dX6_takeProduct_32 rfl cl6 (by decide) rfl (by decide) flX6_9 rfl rfl rfl (G_at hG 12 rfl) (by decide) rfl ?_
        refine T_bipush (pc' := 37) dX6_takeProduct_35 rfl (by decide) rfl ?_
        refine T_callV (av := [(0, 47)]) (st := []) (d2 := 2) (nc2 := 0) (ns2 := 0) (pc' := 40) dX6_takeProduct_37 rfl mtX9_isSign mvX9_isSign mlX6_83 cl9 rfl rfl rfl (Nat.le_of_ble_eq_true rfl) (by omega) ⟨by decide, by decide⟩ rfl (pX9_isSign (E := E) (h := h) (M := M) (v1 := 47) hG) (kF (st2 := [(0, (fX9_isSign M 47))]) rfl (fun hG16 => ?_))
        refine T_if_eq (pc' := 95) dX6_takeProduct_40 (by decide) (pf := 43) rfl (fun c17 => ?_) (fun c17 => ?_)
        · skip
          replace H := H.1 c17
          exact T_wk (L' := [(2, 5), (3, 0), (3, 0), (3, 0)]) (hK _ H hG) ⟨Or.inr rfl, Or.inl rfl, Or.inl rfl, Or.inl rfl, trivial⟩
        · skip
          replace H := H.2 c17
          refine T_aload_n (i := 0) (pc' := 44) dX6_takeProduct_43 rfl rfl rfl ?_
          refine U_gr (q := 3) (k := 0) (kI := 0) (pc' := 47) dX6_takeProduct_44 rfl cl6 (by decide) rfl (by decide) flX6_9 rfl rfl rfl (G_at hG 12 rfl) (by decide) rfl ?_
          refine T_bipush (pc' := 49) dX6_takeProduct_47 rfl (by decide) rfl ?_
          refine T_callV (av := [(0, 42)]) (st := []) (d2 := 2) (nc2 := 0) (ns2 := 0) (pc' := 52) dX6_takeProduct_49 rfl mtX9_isSign mvX9_isSign mlX6_83 cl9 rfl rfl rfl (Nat.le_of_ble_eq_true rfl) (by omega) ⟨by decide, by decide⟩ rfl (pX9_isSign (E := E) (h := h) (M := M) (v1 := 42) hG) (kF (st2 := [(0, (fX9_isSign M 42))]) rfl (fun hG18 => ?_))
          have HJ19 : T E miX6_takeProduct (D + 1) 126 0 0 (fun r S M' => S = S0 ∧ G h M' ∧ RI 0 Q r M') 62 [(2, 5), (0, v1), (0, v2), (3, 0)] [(0, (if (fX9_isSign M 42) = 0 then (13 : Int) else 12))] S0 M 0 0 := by
            refine T_istore_n (i := 3) (L' := [(2, 5), (0, v1), (0, v2), (0, (if (fX9_isSign M 42) = 0 then (13 : Int) else 12))]) (pc' := 63) dX6_takeProduct_62 rfl (by decide) rfl rfl ?_
            refine T_aload_n (i := 0) (pc' := 64) dX6_takeProduct_63 rfl rfl rfl ?_
            refine U_gr (q := 3) (k := 0) (kI := 0) (pc' := 67) dX6_takeProduct_64 rfl cl6 (by decide) rfl (by decide) flX6_9 rfl rfl rfl (G_at hG 12 rfl) (by decide) rfl ?_
            refine T_callV (av := []) (st := []) (d2 := 2) (nc2 := 0) (ns2 := 0) (pc' := 70) dX6_takeProduct_67 rfl mtX9_next mvX9_next mlX6_44 cl9 rfl rfl rfl (Nat.le_of_ble_eq_true rfl) (by omega) ⟨by decide, by decide⟩ rfl (pX9_next (E := E) (h := h) (M := M) H hG) ?_
            rintro _ _ M21 ⟨rfl, hG22, rfl, H⟩ _
            refine T_aload_n (i := 0) (pc' := 71) dX6_takeProduct_70 rfl rfl rfl ?_
            refine T_iload_n (i := 1) (pc' := 72) dX6_takeProduct_71 rfl rfl rfl ?_
            refine T_callV (av := [(0, v1)]) (st := []) (d2 := D) (nc2 := 0) (ns2 := 0) (pc' := 75) dX6_takeProduct_72 rfl mtX6_takePart mvX6_takePart mlX6_98 cl6 rfl rfl rfl (Nat.le_of_ble_eq_true rfl) (by omega) ⟨by decide, by decide⟩ rfl (hRX6_takePart _ _ _ H hG22) ?_
            rintro _ _ M24 ⟨rfl, hG25, a23, rfl, H⟩ _
            refine T_if_ne (pc' := 80) dX6_takeProduct_75 (by decide) (pf := 78) rfl (fun c26 => ?_) (fun c26 => ?_)
            · skip
              replace H := H.2 c26
              refine T_aload_n (i := 0) (pc' := 81) dX6_takeProduct_80 rfl rfl rfl ?_
              refine U_gr (q := 6) (k := 1) (kI := 1) (pc' := 84) dX6_takeProduct_81 rfl cl6 (by decide) rfl (by decide) flX6_18 rfl rfl rfl (G_at hG25 13 rfl) (by decide) rfl ?_
              refine T_iload_n (i := 3) (pc' := 85) dX6_takeProduct_84 rfl rfl rfl ?_
              refine T_iconst (pc' := 86) dX6_takeProduct_85 (by decide) rfl ?_
              refine T_callV (av := [(0, (if (fX9_isSign M 42) = 0 then (13 : Int) else 12)), (0, 0)]) (st := []) (d2 := 2) (nc2 := 0) (ns2 := 0) (pc' := 89) dX6_takeProduct_86 rfl mtX5_add mvX5_add mlX6_69 cl5 rfl rfl rfl (Nat.le_of_ble_eq_true rfl) (by omega) ⟨by decide, by decide⟩ rfl (pX5_add (E := E) (h := h) (M := M24) (v1 := (if (fX9_isSign M 42) = 0 then (13 : Int) else 12)) (v2 := 0) hG25) (kF (st2 := []) rfl (fun hG27 => ?_))
              obtain ⟨M28, eM28⟩ : ∃ m : Mem, m = (fmX5_add M24 (if (fX9_isSign M 42) = 0 then (13 : Int) else 12) 0) := ⟨_, rfl⟩
              rw [← eM28] at hG27 ⊢
              replace H := H M28 eM28
              refine T_iinc (L' := [(2, 5), (0, v1), (0, (wr32 (v2 + 1))), (0, (if (fX9_isSign M 42) = 0 then (13 : Int) else 12))]) (pc' := 92) dX6_takeProduct_89 rfl (by decide) rfl rfl ?_
              refine T_goto (pc' := 12) dX6_takeProduct_92 (by decide) ?_
              exact T_wk (L' := [(2, 5), (0, v1), (0, (wr32 (v2 + 1))), (3, 0)]) (ih _ _ H hG27) ⟨Or.inr rfl, Or.inr rfl, Or.inr rfl, Or.inl rfl, trivial⟩
            · skip
              replace H := H.1 c26
              refine T_iconst (pc' := 79) dX6_takeProduct_78 (by decide) rfl ?_
              exact T_zret dX6_takeProduct_79 rfl (by decide) ⟨rfl, hG25, _, rfl, H⟩
          refine T_if_eq (pc' := 60) dX6_takeProduct_52 (by decide) (pf := 55) rfl (fun c29 => ?_) (fun c29 => ?_)
          · skip
            refine T_bipush (pc' := 62) dX6_takeProduct_60 rfl (by decide) rfl ?_
            exact T_wk (L' := [(2, 5), (0, v1), (0, v2), (3, 0)]) (by have q := HJ19; try simp only [if_pos c29] at q ⊢; exact q) ⟨Or.inr rfl, Or.inr rfl, Or.inr rfl, Or.inl rfl, trivial⟩
          · skip
            refine T_bipush (pc' := 57) dX6_takeProduct_55 rfl (by decide) rfl ?_
            refine T_goto (pc' := 62) dX6_takeProduct_57 (by decide) ?_
            exact T_wk (L' := [(2, 5), (0, v1), (0, v2), (3, 0)]) (by have q := HJ19; try simp only [if_neg c29] at q ⊢; exact q) ⟨Or.inr rfl, Or.inr rfl, Or.inr rfl, Or.inl rfl, trivial⟩
set_option maxRecDepth 100000 in
set_option maxHeartbeats 2000000 in
theorem pX6_takeProduct {E : EV} {h : Int} {M : Mem} {v1 : Int}  {R : Nat → Int → Mem → (Int → Mem → Prop) → Prop} {D : Nat} (hD : 20 ≤ D) (hRX6_takeTest : ∀ v1 M (Q : Int → Mem → Prop), R 0 v1 M Q → C2 E miX6_takeTest D h [(2, 5), (0, v1)] M (RI 0 Q)) (hRX6_takeBoth : ∀ v1 M (Q : Int → Mem → Prop), R 1 v1 M Q → C2 E miX6_takeBoth D h [(2, 5), (0, v1)] M (RI 0 Q)) (hRX6_takeFact : ∀ v1 M (Q : Int → Mem → Prop), R 2 v1 M Q → C2 E miX6_takeFact D h [(2, 5), (0, v1)] M (RI 0 Q)) (hRX6_takeComparison : ∀ v1 M (Q : Int → Mem → Prop), R 3 v1 M Q → C2 E miX6_takeComparison D h [(2, 5), (0, v1)] M (RI 0 Q)) (hRX6_takeSum : ∀ v1 M (Q : Int → Mem → Prop), R 4 v1 M Q → C2 E miX6_takeSum D h [(2, 5), (0, v1)] M (RI 0 Q)) (hRX6_takeProduct : ∀ v1 M (Q : Int → Mem → Prop), R 5 v1 M Q → C2 E miX6_takeProduct D h [(2, 5), (0, v1)] M (RI 0 Q)) (hRX6_takePart : ∀ v1 M (Q : Int → Mem → Prop), R 6 v1 M Q → C2 E miX6_takePart D h [(2, 5), (0, v1)] M (RI 0 Q)) (hRX6_takePair : ∀ v1 M (Q : Int → Mem → Prop), R 7 v1 M Q → C2 E miX6_takePair D h [(2, 5), (0, v1)] M (RI 0 Q)) {Q : Int → Mem → Prop} (H : PX6_takeProduct R v1 M Q) : C2 E miX6_takeProduct (D + 1) h [(2, 5), (0, v1)] M (RI 0 Q) := by
  refine C2_of (L := [(2, 5), (0, v1), (3, 0), (3, 0)]) (by decide +kernel) (Nat.le_of_ble_eq_true rfl) rfl (fun hG => ?_)
  refine T_aload_n (i := 0) (pc' := 1) dX6_takeProduct_0 rfl rfl rfl ?_
  refine T_iload_n (i := 1) (pc' := 2) dX6_takeProduct_1 rfl rfl rfl ?_
  refine T_callV (av := [(0, v1)]) (st := []) (d2 := D) (nc2 := 0) (ns2 := 0) (pc' := 5) dX6_takeProduct_2 rfl mtX6_takePart mvX6_takePart mlX6_98 cl6 rfl rfl rfl (Nat.le_of_ble_eq_true rfl) (by omega) ⟨by decide, by decide⟩ rfl (hRX6_takePart _ _ _ H hG) ?_
  rintro _ _ M2 ⟨rfl, hG3, a1, rfl, H⟩ _
  refine T_if_ne (pc' := 10) dX6_takeProduct_5 (by decide) (pf := 8) rfl (fun c4 => ?_) (fun c4 => ?_)
  · skip
    replace H := H.2 c4
    refine T_iconst (pc' := 11) dX6_takeProduct_10 (by decide) rfl ?_
    refine T_istore_n (i := 2) (L' := [(2, 5), (0, v1), (0, 0), (3, 0)]) (pc' := 12) dX6_takeProduct_11 rfl (by decide) rfl rfl ?_
    obtain ⟨k5, H⟩ := H
    refine T_wk (L' := [(2, 5), (0, v1), (0, 0), (3, 0)]) (qX6_takeProduct_12 (v1 := v1) hD hRX6_takeTest hRX6_takeBoth hRX6_takeFact hRX6_takeComparison hRX6_takeSum hRX6_takeProduct hRX6_takePart hRX6_takePair (fun M6 H hG7 => ?_) _ _ _ H hG3) ⟨Or.inr rfl, Or.inr rfl, Or.inr rfl, Or.inl rfl, trivial⟩
    refine T_iconst (pc' := 96) dX6_takeProduct_95 (by decide) rfl ?_
    exact T_zret dX6_takeProduct_96 rfl (by decide) ⟨rfl, hG7, _, rfl, H⟩
  · skip
    replace H := H.1 c4
    refine T_iconst (pc' := 9) dX6_takeProduct_8 (by decide) rfl ?_
    exact T_zret dX6_takeProduct_9 rfl (by decide) ⟨rfl, hG3, _, rfl, H⟩
def PX6_takePart (R : Nat → Int → Mem → (Int → Mem → Prop) → Prop) (v1 : Int) (M : Mem) (Q : Int → Mem → Prop) : Prop :=
  (((M 3 1) = 2 → PX9_takeNumber 0 9999 (M 3 2) M (fun a60 M61 => (∀ M64 : Mem, M64 = (fmX5_add M61 20 a60) → (((if a60 = (-1) then (0 : Int) else 1) : Int) = 0 ∨ ((if a60 = (-1) then (0 : Int) else 1) : Int) = 1) ∧ Q (if a60 = (-1) then (0 : Int) else 1) M64))) ∧ (¬ ((M 3 1) = 2) → (((fX9_isSign M 40) = 0 → (∀ a5 : Int, a5 = (fX9_find M 1012 12) → ((a5 = (-1) → (∀ M46 : Mem, M46 = (fmX9_unasked M) → ((fX9_unasked : Int) = 0 ∨ (fX9_unasked : Int) = 1) ∧ Q fX9_unasked M46)) ∧ (¬ (a5 = (-1)) → ((a5 = 6 → (∀ M9 : Mem, M9 = (fmX6_deeper M v1) → (((fX6_deeper v1) = 0 → Q 0 M9) ∧ (¬ ((fX6_deeper v1) = 0) → PX9_next M9 (fun _ M12 => R 6 (wr32 (v1 + 1)) M12 (fun a14 M15 => ((a14 = 0 → Q 0 M15) ∧ (¬ (a14 = 0) → (∀ M19 : Mem, M19 = (fmX5_add M15 a5 0) → Q 1 M19))))))))) ∧ (¬ (a5 = 6) → ((a5 = 7 → (∀ M34 : Mem, M34 = (fmX6_deeper M v1) → (((fX6_deeper v1) = 0 → Q 0 M34) ∧ (¬ ((fX6_deeper v1) = 0) → PX9_next M34 (fun _ M37 => R 6 (wr32 (v1 + 1)) M37 (fun a39 M40 => ((a39 = 0 → Q 0 M40) ∧ (¬ (a39 = 0) → (∀ M44 : Mem, M44 = (fmX5_add M40 a5 0) → Q 1 M44))))))))) ∧ (¬ (a5 = 7) → PX9_next M (fun _ M22 => ((a5 < 8 → (∀ M26 : Mem, M26 = (fmX5_add M22 a5 0) → Q 1 M26)) ∧ (¬ (a5 < 8) → R 7 v1 M22 (fun a27 M28 => ((a27 = 0 → Q 0 M28) ∧ (¬ (a27 = 0) → (∀ M32 : Mem, M32 = (fmX5_add M28 a5 0) → Q 1 M32))))))))))))))) ∧ (¬ ((fX9_isSign M 40) = 0) → PX6_takeOpening v1 M (fun a47 M48 => ((a47 = 0 → Q 0 M48) ∧ (¬ (a47 = 0) → R 4 (wr32 (v1 + 1)) M48 (fun a51 M52 => ((a51 = 0 → Q 0 M52) ∧ (¬ (a51 = 0) → PX9_takeSign 41 M52 (fun a55 M56 => (((if a55 = 0 then (0 : Int) else 1) : Int) = 0 ∨ ((if a55 = 0 then (0 : Int) else 1) : Int) = 1) ∧ Q (if a55 = 0 then (0 : Int) else 1) M56)))))))))))
set_option maxRecDepth 100000 in
set_option maxHeartbeats 2000000 in
theorem pX6_takePart {E : EV} {h : Int} {M : Mem} {v1 : Int}  {R : Nat → Int → Mem → (Int → Mem → Prop) → Prop} {D : Nat} (hD : 20 ≤ D) (hRX6_takeTest : ∀ v1 M (Q : Int → Mem → Prop), R 0 v1 M Q → C2 E miX6_takeTest D h [(2, 5), (0, v1)] M (RI 0 Q)) (hRX6_takeBoth : ∀ v1 M (Q : Int → Mem → Prop), R 1 v1 M Q → C2 E miX6_takeBoth D h [(2, 5), (0, v1)] M (RI 0 Q)) (hRX6_takeFact : ∀ v1 M (Q : Int → Mem → Prop), R 2 v1 M Q → C2 E miX6_takeFact D h [(2, 5), (0, v1)] M (RI 0 Q)) (hRX6_takeComparison : ∀ v1 M (Q : Int → Mem → Prop), R 3 v1 M Q → C2 E miX6_takeComparison D h [(2, 5), (0, v1)] M (RI 0 Q)) (hRX6_takeSum : ∀ v1 M (Q : Int → Mem → Prop), R 4 v1 M Q → C2 E miX6_takeSum D h [(2, 5), (0, v1)] M (RI 0 Q)) (hRX6_takeProduct : ∀ v1 M (Q : Int → Mem → Prop), R 5 v1 M Q → C2 E miX6_takeProduct D h [(2, 5), (0, v1)] M (RI 0 Q)) (hRX6_takePart : ∀ v1 M (Q : Int → Mem → Prop), R 6 v1 M Q → C2 E miX6_takePart D h [(2, 5), (0, v1)] M (RI 0 Q)) (hRX6_takePair : ∀ v1 M (Q : Int → Mem → Prop), R 7 v1 M Q → C2 E miX6_takePair D h [(2, 5), (0, v1)] M (RI 0 Q)) {Q : Int → Mem → Prop} (H : PX6_takePart R v1 M Q) : C2 E miX6_takePart (D + 1) h [(2, 5), (0, v1)] M (RI 0 Q) := by
  refine C2_of (L := [(2, 5), (0, v1), (3, 0)]) (by decide +kernel) (Nat.le_of_ble_eq_true rfl) rfl (fun hG => ?_)
  refine T_aload_n (i := 0) (pc' := 1) dX6_takePart_0 rfl rfl rfl ?_
  refine U_gr (q := 3) (k := 0) (kI := 0) (pc' := 4) dX6_takePart_1 rfl cl6 (by decide) rfl (by decide) flX6_9 rfl rfl rfl (G_at hG 12 rfl) (by decide) rfl ?_
  refine U_gfN (v := (0, (M 3 1))) (k := 1) (kI := 1) (pc' := 7) dX6_takePart_4 rfl cl9 (by decide) rfl (by decide) flX6_54 rfl rfl (by decide) rfl rfl ?_
  refine T_iconst (pc' := 8) dX6_takePart_7 (by decide) rfl ?_
  refine T_icmp_ne (pc' := 51) dX6_takePart_8 (by decide) (pf := 11) rfl (fun c1 => ?_) (fun c1 => ?_)
  · skip
    replace H := H.2 c1
    refine T_aload_n (i := 0) (pc' := 52) dX6_takePart_51 rfl rfl rfl ?_
    refine U_gr (q := 3) (k := 0) (kI := 0) (pc' := 55) dX6_takePart_52 rfl cl6 (by decide) rfl (by decide) flX6_9 rfl rfl rfl (G_at hG 12 rfl) (by decide) rfl ?_
    refine T_bipush (pc' := 57) dX6_takePart_55 rfl (by decide) rfl ?_
    refine T_callV (av := [(0, 40)]) (st := []) (d2 := 2) (nc2 := 0) (ns2 := 0) (pc' := 60) dX6_takePart_57 rfl mtX9_isSign mvX9_isSign mlX6_83 cl9 rfl rfl rfl (Nat.le_of_ble_eq_true rfl) (by omega) ⟨by decide, by decide⟩ rfl (pX9_isSign (E := E) (h := h) (M := M) (v1 := 40) hG) (kF (st2 := [(0, (fX9_isSign M 40))]) rfl (fun hG2 => ?_))
    refine T_if_eq (pc' := 99) dX6_takePart_60 (by decide) (pf := 63) rfl (fun c3 => ?_) (fun c3 => ?_)
    · skip
      replace H := H.1 c3
      refine T_aload_n (i := 0) (pc' := 100) dX6_takePart_99 rfl rfl rfl ?_
      refine U_gr (q := 3) (k := 0) (kI := 0) (pc' := 103) dX6_takePart_100 rfl cl6 (by decide) rfl (by decide) flX6_9 rfl rfl rfl (G_at hG 12 rfl) (by decide) rfl ?_
      refine T_ldcS (i := 12) (x := 1012) (pc' := 105) dX6_takePart_103 rfl rfl rfl rfl ?_
      refine T_callV (av := [(2, 1012)]) (st := []) (d2 := 6) (nc2 := 0) (ns2 := 0) (pc' := 108) dX6_takePart_105 rfl mtX9_find mvX9_find mlX6_36 cl9 rfl rfl rfl (Nat.le_of_ble_eq_true rfl) (by omega) ⟨by decide, by decide⟩ rfl (pX9_find (E := E) (h := h) (M := M) (p1 := 1012) (s1 := 12) (by decide) rfl hG) (kF (st2 := [(0, (fX9_find M 1012 12))]) rfl (fun hG4 => ?_))
      obtain ⟨a5, ea5⟩ : ∃ z : Int, z = (fX9_find M 1012 12) := ⟨_, rfl⟩
      rw [← ea5]
      replace H := H a5 ea5
      refine T_istore_n (i := 2) (L' := [(2, 5), (0, v1), (0, a5)]) (pc' := 109) dX6_takePart_108 rfl (by decide) rfl rfl ?_
      refine T_iload_n (i := 2) (pc' := 110) dX6_takePart_109 rfl rfl rfl ?_
      refine T_iconst (pc' := 111) dX6_takePart_110 (by decide) rfl ?_
      refine T_icmp_ne (pc' := 122) dX6_takePart_111 (by decide) (pf := 114) rfl (fun c6 => ?_) (fun c6 => ?_)
      · skip
        replace H := H.2 c6
        refine T_iload_n (i := 2) (pc' := 123) dX6_takePart_122 rfl rfl rfl ?_
        refine T_bipush (pc' := 125) dX6_takePart_123 rfl (by decide) rfl ?_
        refine T_icmp_eq (pc' := 134) dX6_takePart_125 (by decide) (pf := 128) rfl (fun c7 => ?_) (fun c7 => ?_)
        · skip
          replace H := H.1 c7
          refine T_aload_n (i := 0) (pc' := 135) dX6_takePart_134 rfl rfl rfl ?_
          refine T_iload_n (i := 1) (pc' := 136) dX6_takePart_135 rfl rfl rfl ?_
          refine T_callV (av := [(0, v1)]) (st := []) (d2 := 2) (nc2 := 0) (ns2 := 0) (pc' := 139) dX6_takePart_136 rfl mtX6_deeper mvX6_deeper mlX6_80 cl6 rfl rfl rfl (Nat.le_of_ble_eq_true rfl) (by omega) ⟨by decide, by decide⟩ rfl (pX6_deeper (E := E) (h := h) (M := M) (v1 := v1) hG) (kF (st2 := [(0, (fX6_deeper v1))]) rfl (fun hG8 => ?_))
          obtain ⟨M9, eM9⟩ : ∃ m : Mem, m = (fmX6_deeper M v1) := ⟨_, rfl⟩
          rw [← eM9] at hG8 ⊢
          replace H := H M9 eM9
          refine T_if_ne (pc' := 144) dX6_takePart_139 (by decide) (pf := 142) rfl (fun c10 => ?_) (fun c10 => ?_)
          · skip
            replace H := H.2 c10
            refine T_aload_n (i := 0) (pc' := 145) dX6_takePart_144 rfl rfl rfl ?_
            refine U_gr (q := 3) (k := 0) (kI := 0) (pc' := 148) dX6_takePart_145 rfl cl6 (by decide) rfl (by decide) flX6_9 rfl rfl rfl (G_at hG8 12 rfl) (by decide) rfl ?_
            refine T_callV (av := []) (st := []) (d2 := 2) (nc2 := 0) (ns2 := 0) (pc' := 151) dX6_takePart_148 rfl mtX9_next mvX9_next mlX6_44 cl9 rfl rfl rfl (Nat.le_of_ble_eq_true rfl) (by omega) ⟨by decide, by decide⟩ rfl (pX9_next (E := E) (h := h) (M := M9) H hG8) ?_
            rintro _ _ M12 ⟨rfl, hG13, rfl, H⟩ _
            refine T_aload_n (i := 0) (pc' := 152) dX6_takePart_151 rfl rfl rfl ?_
            refine T_iload_n (i := 1) (pc' := 153) dX6_takePart_152 rfl rfl rfl ?_
            refine T_iconst (pc' := 154) dX6_takePart_153 (by decide) rfl ?_
            refine T_iadd (pc' := 155) dX6_takePart_154 rfl ?_
            refine T_callV (av := [(0, (wr32 (v1 + 1)))]) (st := []) (d2 := D) (nc2 := 0) (ns2 := 0) (pc' := 158) dX6_takePart_155 rfl mtX6_takePart mvX6_takePart mlX6_98 cl6 rfl rfl rfl (Nat.le_of_ble_eq_true rfl) (by omega) ⟨by decide, by decide⟩ rfl (hRX6_takePart _ _ _ H hG13) ?_
            rintro _ _ M15 ⟨rfl, hG16, a14, rfl, H⟩ _
            refine T_if_ne (pc' := 186) dX6_takePart_158 (by decide) (pf := 161) rfl (fun c17 => ?_) (fun c17 => ?_)
            · skip
              replace H := H.2 c17
              refine T_aload_n (i := 0) (pc' := 187) dX6_takePart_186 rfl rfl rfl ?_
              refine U_gr (q := 6) (k := 1) (kI := 1) (pc' := 190) dX6_takePart_187 rfl cl6 (by decide) rfl (by decide) flX6_18 rfl rfl rfl (G_at hG16 13 rfl) (by decide) rfl ?_
              refine T_iload_n (i := 2) (pc' := 191) dX6_takePart_190 rfl rfl rfl ?_
              refine T_iconst (pc' := 192) dX6_takePart_191 (by decide) rfl ?_
              refine T_callV (av := [(0, a5), (0, 0)]) (st := []) (d2 := 2) (nc2 := 0) (ns2 := 0) (pc' := 195) dX6_takePart_192 rfl mtX5_add mvX5_add mlX6_69 cl5 rfl rfl rfl (Nat.le_of_ble_eq_true rfl) (by omega) ⟨by decide, by decide⟩ rfl (pX5_add (E := E) (h := h) (M := M15) (v1 := a5) (v2 := 0) hG16) (kF (st2 := []) rfl (fun hG18 => ?_))
              obtain ⟨M19, eM19⟩ : ∃ m : Mem, m = (fmX5_add M15 a5 0) := ⟨_, rfl⟩
              rw [← eM19] at hG18 ⊢
              replace H := H M19 eM19
              refine T_iconst (pc' := 196) dX6_takePart_195 (by decide) rfl ?_
              exact T_zret dX6_takePart_196 rfl (by decide) ⟨rfl, hG18, _, rfl, H⟩
            · skip
              replace H := H.1 c17
              refine T_iconst (pc' := 162) dX6_takePart_161 (by decide) rfl ?_
              exact T_zret dX6_takePart_162 rfl (by decide) ⟨rfl, hG16, _, rfl, H⟩
          · skip
            replace H := H.1 c10
            refine T_iconst (pc' := 143) dX6_takePart_142 (by decide) rfl ?_
            exact T_zret dX6_takePart_143 rfl (by decide) ⟨rfl, hG8, _, rfl, H⟩
        · skip
          replace H := H.2 c7
          refine T_iload_n (i := 2) (pc' := 129) dX6_takePart_128 rfl rfl rfl ?_
          refine T_bipush (pc' := 131) dX6_takePart_129 rfl (by decide) rfl ?_
          refine T_icmp_ne (pc' := 163) dX6_takePart_131 (by decide) (pf := 134) rfl (fun c20 => ?_) (fun c20 => ?_)
          · skip
            replace H := H.2 c20
            refine T_aload_n (i := 0) (pc' := 164) dX6_takePart_163 rfl rfl rfl ?_
            refine U_gr (q := 3) (k := 0) (kI := 0) (pc' := 167) dX6_takePart_164 rfl cl6 (by decide) rfl (by decide) flX6_9 rfl rfl rfl (G_at hG 12 rfl) (by decide) rfl ?_
            refine T_callV (av := []) (st := []) (d2 := 2) (nc2 := 0) (ns2 := 0) (pc' := 170) dX6_takePart_167 rfl mtX9_next mvX9_next mlX6_44 cl9 rfl rfl rfl (Nat.le_of_ble_eq_true rfl) (by omega) ⟨by decide, by decide⟩ rfl (pX9_next (E := E) (h := h) (M := M) H hG) ?_
            rintro _ _ M22 ⟨rfl, hG23, rfl, H⟩ _
            refine T_iload_n (i := 2) (pc' := 171) dX6_takePart_170 rfl rfl rfl ?_
            refine T_bipush (pc' := 173) dX6_takePart_171 rfl (by decide) rfl ?_
            refine T_icmp_lt (pc' := 186) dX6_takePart_173 (by decide) (pf := 176) rfl (fun c24 => ?_) (fun c24 => ?_)
            · skip
              replace H := H.1 c24
              refine T_aload_n (i := 0) (pc' := 187) dX6_takePart_186 rfl rfl rfl ?_
              refine U_gr (q := 6) (k := 1) (kI := 1) (pc' := 190) dX6_takePart_187 rfl cl6 (by decide) rfl (by decide) flX6_18 rfl rfl rfl (G_at hG23 13 rfl) (by decide) rfl ?_
              refine T_iload_n (i := 2) (pc' := 191) dX6_takePart_190 rfl rfl rfl ?_
              refine T_iconst (pc' := 192) dX6_takePart_191 (by decide) rfl ?_
              refine T_callV (av := [(0, a5), (0, 0)]) (st := []) (d2 := 2) (nc2 := 0) (ns2 := 0) (pc' := 195) dX6_takePart_192 rfl mtX5_add mvX5_add mlX6_69 cl5 rfl rfl rfl (Nat.le_of_ble_eq_true rfl) (by omega) ⟨by decide, by decide⟩ rfl (pX5_add (E := E) (h := h) (M := M22) (v1 := a5) (v2 := 0) hG23) (kF (st2 := []) rfl (fun hG25 => ?_))
              obtain ⟨M26, eM26⟩ : ∃ m : Mem, m = (fmX5_add M22 a5 0) := ⟨_, rfl⟩
              rw [← eM26] at hG25 ⊢
              replace H := H M26 eM26
              refine T_iconst (pc' := 196) dX6_takePart_195 (by decide) rfl ?_
              exact T_zret dX6_takePart_196 rfl (by decide) ⟨rfl, hG25, _, rfl, H⟩
            · skip
              replace H := H.2 c24
              refine T_aload_n (i := 0) (pc' := 177) dX6_takePart_176 rfl rfl rfl ?_
              refine T_iload_n (i := 1) (pc' := 178) dX6_takePart_177 rfl rfl rfl ?_
              refine T_callV (av := [(0, v1)]) (st := []) (d2 := D) (nc2 := 0) (ns2 := 0) (pc' := 181) dX6_takePart_178 rfl mtX6_takePair mvX6_takePair mlX6_110 cl6 rfl rfl rfl (Nat.le_of_ble_eq_true rfl) (by omega) ⟨by decide, by decide⟩ rfl (hRX6_takePair _ _ _ H hG23) ?_
              rintro _ _ M28 ⟨rfl, hG29, a27, rfl, H⟩ _
              refine T_if_ne (pc' := 186) dX6_takePart_181 (by decide) (pf := 184) rfl (fun c30 => ?_) (fun c30 => ?_)
              · skip
                replace H := H.2 c30
                refine T_aload_n (i := 0) (pc' := 187) dX6_takePart_186 rfl rfl rfl ?_
                refine U_gr (q := 6) (k := 1) (kI := 1) (pc' := 190) dX6_takePart_187 rfl cl6 (by decide) rfl (by decide) flX6_18 rfl rfl rfl (G_at hG29 13 rfl) (by decide) rfl ?_
                refine T_iload_n (i := 2) (pc' := 191) dX6_takePart_190 rfl rfl rfl ?_
                refine T_iconst (pc' := 192) dX6_takePart_191 (by decide) rfl ?_
                refine T_callV (av := [(0, a5), (0, 0)]) (st := []) (d2 := 2) (nc2 := 0) (ns2 := 0) (pc' := 195) dX6_takePart_192 rfl mtX5_add mvX5_add mlX6_69 cl5 rfl rfl rfl (Nat.le_of_ble_eq_true rfl) (by omega) ⟨by decide, by decide⟩ rfl (pX5_add (E := E) (h := h) (M := M28) (v1 := a5) (v2 := 0) hG29) (kF (st2 := []) rfl (fun hG31 => ?_))
                obtain ⟨M32, eM32⟩ : ∃ m : Mem, m = (fmX5_add M28 a5 0) := ⟨_, rfl⟩
                rw [← eM32] at hG31 ⊢
                replace H := H M32 eM32
                refine T_iconst (pc' := 196) dX6_takePart_195 (by decide) rfl ?_
                exact T_zret dX6_takePart_196 rfl (by decide) ⟨rfl, hG31, _, rfl, H⟩
              · skip
                replace H := H.1 c30
                refine T_iconst (pc' := 185) dX6_takePart_184 (by decide) rfl ?_
                exact T_zret dX6_takePart_185 rfl (by decide) ⟨rfl, hG29, _, rfl, H⟩
          · skip
            replace H := H.1 c20
            refine T_aload_n (i := 0) (pc' := 135) dX6_takePart_134 rfl rfl rfl ?_
            refine T_iload_n (i := 1) (pc' := 136) dX6_takePart_135 rfl rfl rfl ?_
            refine T_callV (av := [(0, v1)]) (st := []) (d2 := 2) (nc2 := 0) (ns2 := 0) (pc' := 139) dX6_takePart_136 rfl mtX6_deeper mvX6_deeper mlX6_80 cl6 rfl rfl rfl (Nat.le_of_ble_eq_true rfl) (by omega) ⟨by decide, by decide⟩ rfl (pX6_deeper (E := E) (h := h) (M := M) (v1 := v1) hG) (kF (st2 := [(0, (fX6_deeper v1))]) rfl (fun hG33 => ?_))
            obtain ⟨M34, eM34⟩ : ∃ m : Mem, m = (fmX6_deeper M v1) := ⟨_, rfl⟩
            rw [← eM34] at hG33 ⊢
            replace H := H M34 eM34
            refine T_if_ne (pc' := 144) dX6_takePart_139 (by decide) (pf := 142) rfl (fun c35 => ?_) (fun c35 => ?_)
            · skip
              replace H := H.2 c35
              refine T_aload_n (i := 0) (pc' := 145) dX6_takePart_144 rfl rfl rfl ?_
              refine U_gr (q := 3) (k := 0) (kI := 0) (pc' := 148) dX6_takePart_145 rfl cl6 (by decide) rfl (by decide) flX6_9 rfl rfl rfl (G_at hG33 12 rfl) (by decide) rfl ?_
              refine T_callV (av := []) (st := []) (d2 := 2) (nc2 := 0) (ns2 := 0) (pc' := 151) dX6_takePart_148 rfl mtX9_next mvX9_next mlX6_44 cl9 rfl rfl rfl (Nat.le_of_ble_eq_true rfl) (by omega) ⟨by decide, by decide⟩ rfl (pX9_next (E := E) (h := h) (M := M34) H hG33) ?_
              rintro _ _ M37 ⟨rfl, hG38, rfl, H⟩ _
              refine T_aload_n (i := 0) (pc' := 152) dX6_takePart_151 rfl rfl rfl ?_
              refine T_iload_n (i := 1) (pc' := 153) dX6_takePart_152 rfl rfl rfl ?_
              refine T_iconst (pc' := 154) dX6_takePart_153 (by decide) rfl ?_
              refine T_iadd (pc' := 155) dX6_takePart_154 rfl ?_
              refine T_callV (av := [(0, (wr32 (v1 + 1)))]) (st := []) (d2 := D) (nc2 := 0) (ns2 := 0) (pc' := 158) dX6_takePart_155 rfl mtX6_takePart mvX6_takePart mlX6_98 cl6 rfl rfl rfl (Nat.le_of_ble_eq_true rfl) (by omega) ⟨by decide, by decide⟩ rfl (hRX6_takePart _ _ _ H hG38) ?_
              rintro _ _ M40 ⟨rfl, hG41, a39, rfl, H⟩ _
              refine T_if_ne (pc' := 186) dX6_takePart_158 (by decide) (pf := 161) rfl (fun c42 => ?_) (fun c42 => ?_)
              · skip
                replace H := H.2 c42
                refine T_aload_n (i := 0) (pc' := 187) dX6_takePart_186 rfl rfl rfl ?_
                refine U_gr (q := 6) (k := 1) (kI := 1) (pc' := 190) dX6_takePart_187 rfl cl6 (by decide) rfl (by decide) flX6_18 rfl rfl rfl (G_at hG41 13 rfl) (by decide) rfl ?_
                refine T_iload_n (i := 2) (pc' := 191) dX6_takePart_190 rfl rfl rfl ?_
                refine T_iconst (pc' := 192) dX6_takePart_191 (by decide) rfl ?_
                refine T_callV (av := [(0, a5), (0, 0)]) (st := []) (d2 := 2) (nc2 := 0) (ns2 := 0) (pc' := 195) dX6_takePart_192 rfl mtX5_add mvX5_add mlX6_69 cl5 rfl rfl rfl (Nat.le_of_ble_eq_true rfl) (by omega) ⟨by decide, by decide⟩ rfl (pX5_add (E := E) (h := h) (M := M40) (v1 := a5) (v2 := 0) hG41) (kF (st2 := []) rfl (fun hG43 => ?_))
                obtain ⟨M44, eM44⟩ : ∃ m : Mem, m = (fmX5_add M40 a5 0) := ⟨_, rfl⟩
                rw [← eM44] at hG43 ⊢
                replace H := H M44 eM44
                refine T_iconst (pc' := 196) dX6_takePart_195 (by decide) rfl ?_
                exact T_zret dX6_takePart_196 rfl (by decide) ⟨rfl, hG43, _, rfl, H⟩
              · skip
                replace H := H.1 c42
                refine T_iconst (pc' := 162) dX6_takePart_161 (by decide) rfl ?_
                exact T_zret dX6_takePart_162 rfl (by decide) ⟨rfl, hG41, _, rfl, H⟩
            · skip
              replace H := H.1 c35
              refine T_iconst (pc' := 143) dX6_takePart_142 (by decide) rfl ?_
              exact T_zret dX6_takePart_143 rfl (by decide) ⟨rfl, hG33, _, rfl, H⟩
      · skip
        replace H := H.1 c6
        refine T_aload_n (i := 0) (pc' := 115) dX6_takePart_114 rfl rfl rfl ?_
        refine U_gr (q := 3) (k := 0) (kI := 0) (pc' := 118) dX6_takePart_115 rfl cl6 (by decide) rfl (by decide) flX6_9 rfl rfl rfl (G_at hG 12 rfl) (by decide) rfl ?_
        refine T_callV (av := []) (st := []) (d2 := 2) (nc2 := 0) (ns2 := 0) (pc' := 121) dX6_takePart_118 rfl mtX9_unasked mvX9_unasked mlX6_40 cl9 rfl rfl rfl (Nat.le_of_ble_eq_true rfl) (by omega) ⟨by decide, by decide⟩ rfl (pX9_unasked (E := E) (h := h) (M := M) hG) (kF (st2 := [(0, fX9_unasked)]) rfl (fun hG45 => ?_))
        obtain ⟨M46, eM46⟩ : ∃ m : Mem, m = (fmX9_unasked M) := ⟨_, rfl⟩
        rw [← eM46] at hG45 ⊢
        replace H := H M46 eM46
        obtain ⟨z1, H⟩ := H
        exact T_zret dX6_takePart_121 rfl z1 ⟨rfl, hG45, _, rfl, H⟩
    · skip
      replace H := H.2 c3
      refine T_aload_n (i := 0) (pc' := 64) dX6_takePart_63 rfl rfl rfl ?_
      refine T_iload_n (i := 1) (pc' := 65) dX6_takePart_64 rfl rfl rfl ?_
      refine T_callV (av := [(0, v1)]) (st := []) (d2 := 3) (nc2 := 0) (ns2 := 0) (pc' := 68) dX6_takePart_65 rfl mtX6_takeOpening mvX6_takeOpening mlX6_105 cl6 rfl rfl rfl (Nat.le_of_ble_eq_true rfl) (by omega) ⟨by decide, by decide⟩ rfl (pX6_takeOpening (E := E) (h := h) (M := M) (v1 := v1) H hG) ?_
      rintro _ _ M48 ⟨rfl, hG49, a47, rfl, H⟩ _
      refine T_if_eq (pc' := 97) dX6_takePart_68 (by decide) (pf := 71) rfl (fun c50 => ?_) (fun c50 => ?_)
      · skip
        replace H := H.1 c50
        refine T_iconst (pc' := 98) dX6_takePart_97 (by decide) rfl ?_
        exact T_zret dX6_takePart_98 rfl (by decide) ⟨rfl, hG49, _, rfl, H⟩
      · skip
        replace H := H.2 c50
        refine T_aload_n (i := 0) (pc' := 72) dX6_takePart_71 rfl rfl rfl ?_
        refine T_iload_n (i := 1) (pc' := 73) dX6_takePart_72 rfl rfl rfl ?_
        refine T_iconst (pc' := 74) dX6_takePart_73 (by decide) rfl ?_
        refine T_iadd (pc' := 75) dX6_takePart_74 rfl ?_
        refine T_callV (av := [(0, (wr32 (v1 + 1)))]) (st := []) (d2 := D) (nc2 := 0) (ns2 := 0) (pc' := 78) dX6_takePart_75 rfl mtX6_takeSum mvX6_takeSum mlX6_51 cl6 rfl rfl rfl (Nat.le_of_ble_eq_true rfl) (by omega) ⟨by decide, by decide⟩ rfl (hRX6_takeSum _ _ _ H hG49) ?_
        rintro _ _ M52 ⟨rfl, hG53, a51, rfl, H⟩ _
        refine T_if_eq (pc' := 97) dX6_takePart_78 (by decide) (pf := 81) rfl (fun c54 => ?_) (fun c54 => ?_)
        · skip
          replace H := H.1 c54
          refine T_iconst (pc' := 98) dX6_takePart_97 (by decide) rfl ?_
          exact T_zret dX6_takePart_98 rfl (by decide) ⟨rfl, hG53, _, rfl, H⟩
        · skip
          replace H := H.2 c54
          refine T_aload_n (i := 0) (pc' := 82) dX6_takePart_81 rfl rfl rfl ?_
          refine U_gr (q := 3) (k := 0) (kI := 0) (pc' := 85) dX6_takePart_82 rfl cl6 (by decide) rfl (by decide) flX6_9 rfl rfl rfl (G_at hG53 12 rfl) (by decide) rfl ?_
          refine T_bipush (pc' := 87) dX6_takePart_85 rfl (by decide) rfl ?_
          refine T_callV (av := [(0, 41)]) (st := []) (d2 := 3) (nc2 := 0) (ns2 := 0) (pc' := 90) dX6_takePart_87 rfl mtX9_takeSign mvX9_takeSign mlX6_87 cl9 rfl rfl rfl (Nat.le_of_ble_eq_true rfl) (by omega) ⟨by decide, by decide⟩ rfl (pX9_takeSign (E := E) (h := h) (M := M52) (v1 := 41) H hG53) ?_
          rintro _ _ M56 ⟨rfl, hG57, a55, rfl, H⟩ _
          have HJ58 : T E miX6_takePart (D + 1) 126 0 0 (fun r S M' => S = S0 ∧ G h M' ∧ RI 0 Q r M') 98 [(3, 0), (3, 0), (3, 0)] [(0, (if a55 = 0 then (0 : Int) else 1))] S0 M56 0 0 := by
            obtain ⟨z1, H⟩ := H
            exact T_zret dX6_takePart_98 rfl z1 ⟨rfl, hG57, _, rfl, H⟩
          refine T_if_eq (pc' := 97) dX6_takePart_90 (by decide) (pf := 93) rfl (fun c59 => ?_) (fun c59 => ?_)
          · skip
            refine T_iconst (pc' := 98) dX6_takePart_97 (by decide) rfl ?_
            exact T_wk (L' := [(3, 0), (3, 0), (3, 0)]) (by have q := HJ58; try simp only [if_pos c59] at q ⊢; exact q) ⟨Or.inl rfl, Or.inl rfl, Or.inl rfl, trivial⟩
          · skip
            refine T_iconst (pc' := 94) dX6_takePart_93 (by decide) rfl ?_
            refine T_goto (pc' := 98) dX6_takePart_94 (by decide) ?_
            exact T_wk (L' := [(3, 0), (3, 0), (3, 0)]) (by have q := HJ58; try simp only [if_neg c59] at q ⊢; exact q) ⟨Or.inl rfl, Or.inl rfl, Or.inl rfl, trivial⟩
  · skip
    replace H := H.1 c1
    refine T_aload_n (i := 0) (pc' := 12) dX6_takePart_11 rfl rfl rfl ?_
    refine U_gr (q := 3) (k := 0) (kI := 0) (pc' := 15) dX6_takePart_12 rfl cl6 (by decide) rfl (by decide) flX6_9 rfl rfl rfl (G_at hG 12 rfl) (by decide) rfl ?_
    refine T_iconst (pc' := 16) dX6_takePart_15 (by decide) rfl ?_
    refine T_sipush (pc' := 19) dX6_takePart_16 rfl (by decide) rfl ?_
    refine T_aload_n (i := 0) (pc' := 20) dX6_takePart_19 rfl rfl rfl ?_
    refine U_gr (q := 3) (k := 0) (kI := 0) (pc' := 23) dX6_takePart_20 rfl cl6 (by decide) rfl (by decide) flX6_9 rfl rfl rfl (G_at hG 12 rfl) (by decide) rfl ?_
    refine U_gfN (v := (0, (M 3 2))) (k := 2) (kI := 2) (pc' := 26) dX6_takePart_23 rfl cl9 (by decide) rfl (by decide) flX6_57 rfl rfl (by decide) rfl rfl ?_
    refine T_callV (av := [(0, 0), (0, 9999), (0, (M 3 2))]) (st := []) (d2 := 3) (nc2 := 0) (ns2 := 0) (pc' := 29) dX6_takePart_26 rfl mtX9_takeNumber mvX9_takeNumber mlX6_101 cl9 rfl rfl rfl (Nat.le_of_ble_eq_true rfl) (by omega) ⟨by decide, by decide⟩ rfl (pX9_takeNumber (E := E) (h := h) (M := M) (v1 := 0) (v2 := 9999) (v3 := (M 3 2)) H hG) ?_
    rintro _ _ M61 ⟨rfl, hG62, a60, rfl, H⟩ _
    refine T_istore_n (i := 2) (L' := [(2, 5), (0, v1), (0, a60)]) (pc' := 30) dX6_takePart_29 rfl (by decide) rfl rfl ?_
    refine T_aload_n (i := 0) (pc' := 31) dX6_takePart_30 rfl rfl rfl ?_
    refine U_gr (q := 6) (k := 1) (kI := 1) (pc' := 34) dX6_takePart_31 rfl cl6 (by decide) rfl (by decide) flX6_18 rfl rfl rfl (G_at hG62 13 rfl) (by decide) rfl ?_
    refine T_bipush (pc' := 36) dX6_takePart_34 rfl (by decide) rfl ?_
    refine T_iload_n (i := 2) (pc' := 37) dX6_takePart_36 rfl rfl rfl ?_
    refine T_callV (av := [(0, 20), (0, a60)]) (st := []) (d2 := 2) (nc2 := 0) (ns2 := 0) (pc' := 40) dX6_takePart_37 rfl mtX5_add mvX5_add mlX6_69 cl5 rfl rfl rfl (Nat.le_of_ble_eq_true rfl) (by omega) ⟨by decide, by decide⟩ rfl (pX5_add (E := E) (h := h) (M := M61) (v1 := 20) (v2 := a60) hG62) (kF (st2 := []) rfl (fun hG63 => ?_))
    obtain ⟨M64, eM64⟩ : ∃ m : Mem, m = (fmX5_add M61 20 a60) := ⟨_, rfl⟩
    rw [← eM64] at hG63 ⊢
    replace H := H M64 eM64
    refine T_iload_n (i := 2) (pc' := 41) dX6_takePart_40 rfl rfl rfl ?_
    refine T_iconst (pc' := 42) dX6_takePart_41 (by decide) rfl ?_
    have HJ65 : T E miX6_takePart (D + 1) 126 0 0 (fun r S M' => S = S0 ∧ G h M' ∧ RI 0 Q r M') 50 [(3, 0), (3, 0), (3, 0)] [(0, (if a60 = (-1) then (0 : Int) else 1))] S0 M64 0 0 := by
      obtain ⟨z1, H⟩ := H
      exact T_zret dX6_takePart_50 rfl z1 ⟨rfl, hG63, _, rfl, H⟩
    refine T_icmp_eq (pc' := 49) dX6_takePart_42 (by decide) (pf := 45) rfl (fun c66 => ?_) (fun c66 => ?_)
    · skip
      refine T_iconst (pc' := 50) dX6_takePart_49 (by decide) rfl ?_
      exact T_wk (L' := [(3, 0), (3, 0), (3, 0)]) (by have q := HJ65; try simp only [if_pos c66] at q ⊢; exact q) ⟨Or.inl rfl, Or.inl rfl, Or.inl rfl, trivial⟩
    · skip
      refine T_iconst (pc' := 46) dX6_takePart_45 (by decide) rfl ?_
      refine T_goto (pc' := 50) dX6_takePart_46 (by decide) ?_
      exact T_wk (L' := [(3, 0), (3, 0), (3, 0)]) (by have q := HJ65; try simp only [if_neg c66] at q ⊢; exact q) ⟨Or.inl rfl, Or.inl rfl, Or.inl rfl, trivial⟩
def PX6_takePair (R : Nat → Int → Mem → (Int → Mem → Prop) → Prop) (v1 : Int) (M : Mem) (Q : Int → Mem → Prop) : Prop :=
  PX6_takeOpening v1 M (fun a1 M2 => ((a1 = 0 → Q 0 M2) ∧ (¬ (a1 = 0) → R 4 (wr32 (v1 + 1)) M2 (fun a5 M6 => ((a5 = 0 → Q 0 M6) ∧ (¬ (a5 = 0) → PX9_takeSign 44 M6 (fun a9 M10 => ((a9 = 0 → Q 0 M10) ∧ (¬ (a9 = 0) → R 4 (wr32 (v1 + 1)) M10 (fun a13 M14 => ((a13 = 0 → Q 0 M14) ∧ (¬ (a13 = 0) → PX9_takeSign 41 M14 (fun a17 M18 => (((if a17 = 0 then (0 : Int) else 1) : Int) = 0 ∨ ((if a17 = 0 then (0 : Int) else 1) : Int) = 1) ∧ Q (if a17 = 0 then (0 : Int) else 1) M18)))))))))))))
set_option maxRecDepth 100000 in
set_option maxHeartbeats 2000000 in
theorem pX6_takePair {E : EV} {h : Int} {M : Mem} {v1 : Int}  {R : Nat → Int → Mem → (Int → Mem → Prop) → Prop} {D : Nat} (hD : 20 ≤ D) (hRX6_takeTest : ∀ v1 M (Q : Int → Mem → Prop), R 0 v1 M Q → C2 E miX6_takeTest D h [(2, 5), (0, v1)] M (RI 0 Q)) (hRX6_takeBoth : ∀ v1 M (Q : Int → Mem → Prop), R 1 v1 M Q → C2 E miX6_takeBoth D h [(2, 5), (0, v1)] M (RI 0 Q)) (hRX6_takeFact : ∀ v1 M (Q : Int → Mem → Prop), R 2 v1 M Q → C2 E miX6_takeFact D h [(2, 5), (0, v1)] M (RI 0 Q)) (hRX6_takeComparison : ∀ v1 M (Q : Int → Mem → Prop), R 3 v1 M Q → C2 E miX6_takeComparison D h [(2, 5), (0, v1)] M (RI 0 Q)) (hRX6_takeSum : ∀ v1 M (Q : Int → Mem → Prop), R 4 v1 M Q → C2 E miX6_takeSum D h [(2, 5), (0, v1)] M (RI 0 Q)) (hRX6_takeProduct : ∀ v1 M (Q : Int → Mem → Prop), R 5 v1 M Q → C2 E miX6_takeProduct D h [(2, 5), (0, v1)] M (RI 0 Q)) (hRX6_takePart : ∀ v1 M (Q : Int → Mem → Prop), R 6 v1 M Q → C2 E miX6_takePart D h [(2, 5), (0, v1)] M (RI 0 Q)) (hRX6_takePair : ∀ v1 M (Q : Int → Mem → Prop), R 7 v1 M Q → C2 E miX6_takePair D h [(2, 5), (0, v1)] M (RI 0 Q)) {Q : Int → Mem → Prop} (H : PX6_takePair R v1 M Q) : C2 E miX6_takePair (D + 1) h [(2, 5), (0, v1)] M (RI 0 Q) := by
  refine C2_of (L := [(2, 5), (0, v1)]) (by decide +kernel) (Nat.le_of_ble_eq_true rfl) rfl (fun hG => ?_)
  refine T_aload_n (i := 0) (pc' := 1) dX6_takePair_0 rfl rfl rfl ?_
  refine T_iload_n (i := 1) (pc' := 2) dX6_takePair_1 rfl rfl rfl ?_
  refine T_callV (av := [(0, v1)]) (st := []) (d2 := 3) (nc2 := 0) (ns2 := 0) (pc' := 5) dX6_takePair_2 rfl mtX6_takeOpening mvX6_takeOpening mlX6_105 cl6 rfl rfl rfl (Nat.le_of_ble_eq_true rfl) (by omega) ⟨by decide, by decide⟩ rfl (pX6_takeOpening (E := E) (h := h) (M := M) (v1 := v1) H hG) ?_
  rintro _ _ M2 ⟨rfl, hG3, a1, rfl, H⟩ _
  refine T_if_eq (pc' := 56) dX6_takePair_5 (by decide) (pf := 8) rfl (fun c4 => ?_) (fun c4 => ?_)
  · skip
    replace H := H.1 c4
    refine T_iconst (pc' := 57) dX6_takePair_56 (by decide) rfl ?_
    exact T_zret dX6_takePair_57 rfl (by decide) ⟨rfl, hG3, _, rfl, H⟩
  · skip
    replace H := H.2 c4
    refine T_aload_n (i := 0) (pc' := 9) dX6_takePair_8 rfl rfl rfl ?_
    refine T_iload_n (i := 1) (pc' := 10) dX6_takePair_9 rfl rfl rfl ?_
    refine T_iconst (pc' := 11) dX6_takePair_10 (by decide) rfl ?_
    refine T_iadd (pc' := 12) dX6_takePair_11 rfl ?_
    refine T_callV (av := [(0, (wr32 (v1 + 1)))]) (st := []) (d2 := D) (nc2 := 0) (ns2 := 0) (pc' := 15) dX6_takePair_12 rfl mtX6_takeSum mvX6_takeSum mlX6_51 cl6 rfl rfl rfl (Nat.le_of_ble_eq_true rfl) (by omega) ⟨by decide, by decide⟩ rfl (hRX6_takeSum _ _ _ H hG3) ?_
    rintro _ _ M6 ⟨rfl, hG7, a5, rfl, H⟩ _
    refine T_if_eq (pc' := 56) dX6_takePair_15 (by decide) (pf := 18) rfl (fun c8 => ?_) (fun c8 => ?_)
    · skip
      replace H := H.1 c8
      refine T_iconst (pc' := 57) dX6_takePair_56 (by decide) rfl ?_
      exact T_zret dX6_takePair_57 rfl (by decide) ⟨rfl, hG7, _, rfl, H⟩
    · skip
      replace H := H.2 c8
      refine T_aload_n (i := 0) (pc' := 19) dX6_takePair_18 rfl rfl rfl ?_
      refine U_gr (q := 3) (k := 0) (kI := 0) (pc' := 22) dX6_takePair_19 rfl cl6 (by decide) rfl (by decide) flX6_9 rfl rfl rfl (G_at hG7 12 rfl) (by decide) rfl ?_
      refine T_bipush (pc' := 24) dX6_takePair_22 rfl (by decide) rfl ?_
      refine T_callV (av := [(0, 44)]) (st := []) (d2 := 3) (nc2 := 0) (ns2 := 0) (pc' := 27) dX6_takePair_24 rfl mtX9_takeSign mvX9_takeSign mlX6_87 cl9 rfl rfl rfl (Nat.le_of_ble_eq_true rfl) (by omega) ⟨by decide, by decide⟩ rfl (pX9_takeSign (E := E) (h := h) (M := M6) (v1 := 44) H hG7) ?_
      rintro _ _ M10 ⟨rfl, hG11, a9, rfl, H⟩ _
      refine T_if_eq (pc' := 56) dX6_takePair_27 (by decide) (pf := 30) rfl (fun c12 => ?_) (fun c12 => ?_)
      · skip
        replace H := H.1 c12
        refine T_iconst (pc' := 57) dX6_takePair_56 (by decide) rfl ?_
        exact T_zret dX6_takePair_57 rfl (by decide) ⟨rfl, hG11, _, rfl, H⟩
      · skip
        replace H := H.2 c12
        refine T_aload_n (i := 0) (pc' := 31) dX6_takePair_30 rfl rfl rfl ?_
        refine T_iload_n (i := 1) (pc' := 32) dX6_takePair_31 rfl rfl rfl ?_
        refine T_iconst (pc' := 33) dX6_takePair_32 (by decide) rfl ?_
        refine T_iadd (pc' := 34) dX6_takePair_33 rfl ?_
        refine T_callV (av := [(0, (wr32 (v1 + 1)))]) (st := []) (d2 := D) (nc2 := 0) (ns2 := 0) (pc' := 37) dX6_takePair_34 rfl mtX6_takeSum mvX6_takeSum mlX6_51 cl6 rfl rfl rfl (Nat.le_of_ble_eq_true rfl) (by omega) ⟨by decide, by decide⟩ rfl (hRX6_takeSum _ _ _ H hG11) ?_
        rintro _ _ M14 ⟨rfl, hG15, a13, rfl, H⟩ _
        refine T_if_eq (pc' := 56) dX6_takePair_37 (by decide) (pf := 40) rfl (fun c16 => ?_) (fun c16 => ?_)
        · skip
          replace H := H.1 c16
          refine T_iconst (pc' := 57) dX6_takePair_56 (by decide) rfl ?_
          exact T_zret dX6_takePair_57 rfl (by decide) ⟨rfl, hG15, _, rfl, H⟩
        · skip
          replace H := H.2 c16
          refine T_aload_n (i := 0) (pc' := 41) dX6_takePair_40 rfl rfl rfl ?_
          refine U_gr (q := 3) (k := 0) (kI := 0) (pc' := 44) dX6_takePair_41 rfl cl6 (by decide) rfl (by decide) flX6_9 rfl rfl rfl (G_at hG15 12 rfl) (by decide) rfl ?_
          refine T_bipush (pc' := 46) dX6_takePair_44 rfl (by decide) rfl ?_
          refine T_callV (av := [(0, 41)]) (st := []) (d2 := 3) (nc2 := 0) (ns2 := 0) (pc' := 49) dX6_takePair_46 rfl mtX9_takeSign mvX9_takeSign mlX6_87 cl9 rfl rfl rfl (Nat.le_of_ble_eq_true rfl) (by omega) ⟨by decide, by decide⟩ rfl (pX9_takeSign (E := E) (h := h) (M := M14) (v1 := 41) H hG15) ?_
          rintro _ _ M18 ⟨rfl, hG19, a17, rfl, H⟩ _
          have HJ20 : T E miX6_takePair (D + 1) 126 0 0 (fun r S M' => S = S0 ∧ G h M' ∧ RI 0 Q r M') 57 [(3, 0), (3, 0)] [(0, (if a17 = 0 then (0 : Int) else 1))] S0 M18 0 0 := by
            obtain ⟨z1, H⟩ := H
            exact T_zret dX6_takePair_57 rfl z1 ⟨rfl, hG19, _, rfl, H⟩
          refine T_if_eq (pc' := 56) dX6_takePair_49 (by decide) (pf := 52) rfl (fun c21 => ?_) (fun c21 => ?_)
          · skip
            refine T_iconst (pc' := 57) dX6_takePair_56 (by decide) rfl ?_
            exact T_wk (L' := [(3, 0), (3, 0)]) (by have q := HJ20; try simp only [if_pos c21] at q ⊢; exact q) ⟨Or.inl rfl, Or.inl rfl, trivial⟩
          · skip
            refine T_iconst (pc' := 53) dX6_takePair_52 (by decide) rfl ?_
            refine T_goto (pc' := 57) dX6_takePair_53 (by decide) ?_
            exact T_wk (L' := [(3, 0), (3, 0)]) (by have q := HJ20; try simp only [if_neg c21] at q ⊢; exact q) ⟨Or.inl rfl, Or.inl rfl, trivial⟩
def PRq : Nat → Nat → Int → Mem → (Int → Mem → Prop) → Prop
  | 0 => fun _ _ _ _ => False
  | n + 1 => fun tag v1 M Q => if tag = 0 then PX6_takeTest (PRq n) v1 M Q else if tag = 1 then PX6_takeBoth (PRq n) v1 M Q else if tag = 2 then PX6_takeFact (PRq n) v1 M Q else if tag = 3 then PX6_takeComparison (PRq n) v1 M Q else if tag = 4 then PX6_takeSum (PRq n) v1 M Q else if tag = 5 then PX6_takeProduct (PRq n) v1 M Q else if tag = 6 then PX6_takePart (PRq n) v1 M Q else PX6_takePair (PRq n) v1 M Q
theorem PRq_all {E : EV} {h : Int} : ∀ n : Nat, (∀ v1 M (Q : Int → Mem → Prop), PRq n 0 v1 M Q → C2 E miX6_takeTest (20 + n) h [(2, 5), (0, v1)] M (RI 0 Q)) ∧ (∀ v1 M (Q : Int → Mem → Prop), PRq n 1 v1 M Q → C2 E miX6_takeBoth (20 + n) h [(2, 5), (0, v1)] M (RI 0 Q)) ∧ (∀ v1 M (Q : Int → Mem → Prop), PRq n 2 v1 M Q → C2 E miX6_takeFact (20 + n) h [(2, 5), (0, v1)] M (RI 0 Q)) ∧ (∀ v1 M (Q : Int → Mem → Prop), PRq n 3 v1 M Q → C2 E miX6_takeComparison (20 + n) h [(2, 5), (0, v1)] M (RI 0 Q)) ∧ (∀ v1 M (Q : Int → Mem → Prop), PRq n 4 v1 M Q → C2 E miX6_takeSum (20 + n) h [(2, 5), (0, v1)] M (RI 0 Q)) ∧ (∀ v1 M (Q : Int → Mem → Prop), PRq n 5 v1 M Q → C2 E miX6_takeProduct (20 + n) h [(2, 5), (0, v1)] M (RI 0 Q)) ∧ (∀ v1 M (Q : Int → Mem → Prop), PRq n 6 v1 M Q → C2 E miX6_takePart (20 + n) h [(2, 5), (0, v1)] M (RI 0 Q)) ∧ (∀ v1 M (Q : Int → Mem → Prop), PRq n 7 v1 M Q → C2 E miX6_takePair (20 + n) h [(2, 5), (0, v1)] M (RI 0 Q)) := by
  intro n
  induction n with
  | zero => exact ⟨fun _ _ _ H => False.elim H, fun _ _ _ H => False.elim H, fun _ _ _ H => False.elim H, fun _ _ _ H => False.elim H, fun _ _ _ H => False.elim H, fun _ _ _ H => False.elim H, fun _ _ _ H => False.elim H, fun _ _ _ H => False.elim H⟩
  | succ n ih => exact ⟨fun v1 M Q H => pX6_takeTest (Nat.le_add_right 20 n) ih.1 ih.2.1 ih.2.2.1 ih.2.2.2.1 ih.2.2.2.2.1 ih.2.2.2.2.2.1 ih.2.2.2.2.2.2.1 ih.2.2.2.2.2.2.2 (H : PX6_takeTest (PRq n) v1 M Q), fun v1 M Q H => pX6_takeBoth (Nat.le_add_right 20 n) ih.1 ih.2.1 ih.2.2.1 ih.2.2.2.1 ih.2.2.2.2.1 ih.2.2.2.2.2.1 ih.2.2.2.2.2.2.1 ih.2.2.2.2.2.2.2 (H : PX6_takeBoth (PRq n) v1 M Q), fun v1 M Q H => pX6_takeFact (Nat.le_add_right 20 n) ih.1 ih.2.1 ih.2.2.1 ih.2.2.2.1 ih.2.2.2.2.1 ih.2.2.2.2.2.1 ih.2.2.2.2.2.2.1 ih.2.2.2.2.2.2.2 (H : PX6_takeFact (PRq n) v1 M Q), fun v1 M Q H => pX6_takeComparison (Nat.le_add_right 20 n) ih.1 ih.2.1 ih.2.2.1 ih.2.2.2.1 ih.2.2.2.2.1 ih.2.2.2.2.2.1 ih.2.2.2.2.2.2.1 ih.2.2.2.2.2.2.2 (H : PX6_takeComparison (PRq n) v1 M Q), fun v1 M Q H => pX6_takeSum (Nat.le_add_right 20 n) ih.1 ih.2.1 ih.2.2.1 ih.2.2.2.1 ih.2.2.2.2.1 ih.2.2.2.2.2.1 ih.2.2.2.2.2.2.1 ih.2.2.2.2.2.2.2 (H : PX6_takeSum (PRq n) v1 M Q), fun v1 M Q H => pX6_takeProduct (Nat.le_add_right 20 n) ih.1 ih.2.1 ih.2.2.1 ih.2.2.2.1 ih.2.2.2.2.1 ih.2.2.2.2.2.1 ih.2.2.2.2.2.2.1 ih.2.2.2.2.2.2.2 (H : PX6_takeProduct (PRq n) v1 M Q), fun v1 M Q H => pX6_takePart (Nat.le_add_right 20 n) ih.1 ih.2.1 ih.2.2.1 ih.2.2.2.1 ih.2.2.2.2.1 ih.2.2.2.2.2.1 ih.2.2.2.2.2.2.1 ih.2.2.2.2.2.2.2 (H : PX6_takePart (PRq n) v1 M Q), fun v1 M Q H => pX6_takePair (Nat.le_add_right 20 n) ih.1 ih.2.1 ih.2.2.1 ih.2.2.2.1 ih.2.2.2.2.1 ih.2.2.2.2.2.1 ih.2.2.2.2.2.2.1 ih.2.2.2.2.2.2.2 (H : PX6_takePair (PRq n) v1 M Q)⟩
theorem prX6_takeTest {E : EV} {h : Int} {M : Mem} {v1 : Int} {Q : Int → Mem → Prop} (H : PRq 60 0 v1 M Q) : C2 E miX6_takeTest 80 h [(2, 5), (0, v1)] M (RI 0 Q) := (PRq_all 60).1 v1 M Q H
theorem prX6_takeBoth {E : EV} {h : Int} {M : Mem} {v1 : Int} {Q : Int → Mem → Prop} (H : PRq 60 1 v1 M Q) : C2 E miX6_takeBoth 80 h [(2, 5), (0, v1)] M (RI 0 Q) := (PRq_all 60).2.1 v1 M Q H
theorem prX6_takeFact {E : EV} {h : Int} {M : Mem} {v1 : Int} {Q : Int → Mem → Prop} (H : PRq 60 2 v1 M Q) : C2 E miX6_takeFact 80 h [(2, 5), (0, v1)] M (RI 0 Q) := (PRq_all 60).2.2.1 v1 M Q H
theorem prX6_takeComparison {E : EV} {h : Int} {M : Mem} {v1 : Int} {Q : Int → Mem → Prop} (H : PRq 60 3 v1 M Q) : C2 E miX6_takeComparison 80 h [(2, 5), (0, v1)] M (RI 0 Q) := (PRq_all 60).2.2.2.1 v1 M Q H
theorem prX6_takeSum {E : EV} {h : Int} {M : Mem} {v1 : Int} {Q : Int → Mem → Prop} (H : PRq 60 4 v1 M Q) : C2 E miX6_takeSum 80 h [(2, 5), (0, v1)] M (RI 0 Q) := (PRq_all 60).2.2.2.2.1 v1 M Q H
theorem prX6_takeProduct {E : EV} {h : Int} {M : Mem} {v1 : Int} {Q : Int → Mem → Prop} (H : PRq 60 5 v1 M Q) : C2 E miX6_takeProduct 80 h [(2, 5), (0, v1)] M (RI 0 Q) := (PRq_all 60).2.2.2.2.2.1 v1 M Q H
theorem prX6_takePart {E : EV} {h : Int} {M : Mem} {v1 : Int} {Q : Int → Mem → Prop} (H : PRq 60 6 v1 M Q) : C2 E miX6_takePart 80 h [(2, 5), (0, v1)] M (RI 0 Q) := (PRq_all 60).2.2.2.2.2.2.1 v1 M Q H
theorem prX6_takePair {E : EV} {h : Int} {M : Mem} {v1 : Int} {Q : Int → Mem → Prop} (H : PRq 60 7 v1 M Q) : C2 E miX6_takePair 80 h [(2, 5), (0, v1)] M (RI 0 Q) := (PRq_all 60).2.2.2.2.2.2.2 v1 M Q H
