/-! methods as propositions, 2 -/
def PX2_takeRule (g : Int) (v2 : Int) (M : Mem) (Q : Int → Mem → Prop) : Prop :=
  ((v2 = 5 → PX9_takeNumber 1 99 (M 3 2) M (fun a2 M3 => (∀ M6 : Mem, M6 = (mset M3 g 14 a2) → (((if (M6 g 14) = (-1) then (0 : Int) else 1) : Int) = 0 ∨ ((if (M6 g 14) = (-1) then (0 : Int) else 1) : Int) = 1) ∧ Q (if (M6 g 14) = (-1) then (0 : Int) else 1) M6))) ∧ (¬ (v2 = 5) → ((v2 = 6 → PX9_takeNumber 1 30 (M 3 2) M (fun a10 M11 => (∀ M14 : Mem, M14 = (mset M11 g 15 a10) → (((if (M14 g 15) = (-1) then (0 : Int) else 1) : Int) = 0 ∨ ((if (M14 g 15) = (-1) then (0 : Int) else 1) : Int) = 1) ∧ Q (if (M14 g 15) = (-1) then (0 : Int) else 1) M14))) ∧ (¬ (v2 = 6) → ((v2 = 7 → PX9_takeNumber 1 5 (M 3 2) M (fun a18 M19 => (∀ M22 : Mem, M22 = (mset M19 g 16 a18) → (((if (M22 g 16) = (-1) then (0 : Int) else 1) : Int) = 0 ∨ ((if (M22 g 16) = (-1) then (0 : Int) else 1) : Int) = 1) ∧ Q (if (M22 g 16) = (-1) then (0 : Int) else 1) M22))) ∧ (¬ (v2 = 7) → PX9_takeNumber 1 9 (M 3 2) M (fun a25 M26 => (∀ M29 : Mem, M29 = (mset M26 g 17 a25) → (((if (M29 g 17) = (-1) then (0 : Int) else 1) : Int) = 0 ∨ ((if (M29 g 17) = (-1) then (0 : Int) else 1) : Int) = 1) ∧ Q (if (M29 g 17) = (-1) then (0 : Int) else 1) M29))))))))
set_option maxRecDepth 100000 in
set_option maxHeartbeats 2000000 in
theorem pX2_takeRule {E : EV} {h : Int} {M : Mem} {g : Int} {v2 : Int} (hg : isG g) {Q : Int → Mem → Prop} (H : PX2_takeRule g v2 M Q) : C2 E miX2_takeRule 4 h [(2, 4), (2, g), (0, v2)] M (RI 0 Q) := by
  refine C2_of (L := [(2, 4), (2, g), (0, v2)]) (by decide +kernel) (Nat.le_of_ble_eq_true rfl) rfl (fun hG => ?_)
  refine T_iload_n (i := 2) (pc' := 1) dX2_takeRule_0 rfl rfl rfl ?_
  by_cases c1 : v2 = 5
  · skip
    replace H := H.1 c1
    refine T_tableIn (pc' := 28) dX2_takeRule_1 (by omega) (by omega) (by rw [c1]; rfl) (by decide) ?_
    refine T_aload_n (i := 1) (pc' := 29) dX2_takeRule_28 rfl rfl rfl ?_
    refine T_aload_n (i := 0) (pc' := 30) dX2_takeRule_29 rfl rfl rfl ?_
    refine U_gr (q := 3) (k := 0) (kI := 0) (pc' := 33) dX2_takeRule_30 rfl cl2 (by decide) rfl (by decide) flX2_9 rfl rfl rfl (G_at hG 11 rfl) (by decide) rfl ?_
    refine T_iconst (pc' := 34) dX2_takeRule_33 (by decide) rfl ?_
    refine T_bipush (pc' := 36) dX2_takeRule_34 rfl (by decide) rfl ?_
    refine T_aload_n (i := 0) (pc' := 37) dX2_takeRule_36 rfl rfl rfl ?_
    refine U_gr (q := 3) (k := 0) (kI := 0) (pc' := 40) dX2_takeRule_37 rfl cl2 (by decide) rfl (by decide) flX2_9 rfl rfl rfl (G_at hG 11 rfl) (by decide) rfl ?_
    refine U_gfN (v := (0, (M 3 2))) (k := 2) (kI := 2) (pc' := 43) dX2_takeRule_40 rfl cl9 (by decide) rfl (by decide) flX2_36 rfl rfl (by decide) rfl rfl ?_
    refine T_callV (av := [(0, 1), (0, 99), (0, (M 3 2))]) (st := [(2, g)]) (d2 := 3) (nc2 := 0) (ns2 := 0) (pc' := 46) dX2_takeRule_43 rfl mtX9_takeNumber mvX9_takeNumber mlX2_107 cl9 rfl rfl rfl (Nat.le_of_ble_eq_true rfl) (by decide) ⟨by decide, by decide⟩ rfl (pX9_takeNumber (E := E) (h := h) (M := M) (v1 := 1) (v2 := 99) (v3 := (M 3 2)) H hG) ?_
    rintro _ _ M3 ⟨rfl, hG4, a2, rfl, H⟩ _
    refine U_pfN (y := a2) (k := 14) (kI := 14) (pc' := 49) dX2_takeRule_46 rfl cl1 (pog0 hg) (shg0 hg) (by decide) flX2_117 rfl rfl rfl rfl rfl (by decide) (fun z => z) rfl ?_
    have hG5 := (G_fld (x := g) (i := 14) (y := a2) (shg0 hg) (by decide) (by decide) (pog0 hg) hG4)
    obtain ⟨M6, eM6⟩ : ∃ m : Mem, m = (mset M3 g 14 a2) := ⟨_, rfl⟩
    rw [← eM6] at hG5 ⊢
    replace H := H M6 eM6
    refine T_aload_n (i := 1) (pc' := 50) dX2_takeRule_49 rfl rfl rfl ?_
    refine U_gfN (v := (0, (M6 g 14))) (k := 14) (kI := 14) (pc' := 53) dX2_takeRule_50 rfl cl1 (pog0 hg) (shg0 hg) (by decide) flX2_117 rfl rfl (by decide) rfl rfl ?_
    refine T_iconst (pc' := 54) dX2_takeRule_53 (by decide) rfl ?_
    have HJ7 : T E miX2_takeRule 4 126 0 0 (fun r S M' => S = S0 ∧ G h M' ∧ RI 0 Q r M') 62 [(3, 0), (3, 0), (3, 0)] [(0, (if (M6 g 14) = (-1) then (0 : Int) else 1))] S0 M6 0 0 := by
      obtain ⟨z1, H⟩ := H
      exact T_zret dX2_takeRule_62 rfl z1 ⟨rfl, hG5, _, rfl, H⟩
    refine T_icmp_eq (pc' := 61) dX2_takeRule_54 (by decide) (pf := 57) rfl (fun c8 => ?_) (fun c8 => ?_)
    · skip
      refine T_iconst (pc' := 62) dX2_takeRule_61 (by decide) rfl ?_
      exact T_wk (L' := [(3, 0), (3, 0), (3, 0)]) (by have q := HJ7; try simp only [if_pos c8] at q ⊢; exact q) ⟨Or.inl rfl, Or.inl rfl, Or.inl rfl, trivial⟩
    · skip
      refine T_iconst (pc' := 58) dX2_takeRule_57 (by decide) rfl ?_
      refine T_goto (pc' := 62) dX2_takeRule_58 (by decide) ?_
      exact T_wk (L' := [(3, 0), (3, 0), (3, 0)]) (by have q := HJ7; try simp only [if_neg c8] at q ⊢; exact q) ⟨Or.inl rfl, Or.inl rfl, Or.inl rfl, trivial⟩
  · skip
    replace H := H.2 c1
    by_cases c9 : v2 = 6
    · skip
      replace H := H.1 c9
      refine T_tableIn (pc' := 63) dX2_takeRule_1 (by omega) (by omega) (by rw [c9]; rfl) (by decide) ?_
      refine T_aload_n (i := 1) (pc' := 64) dX2_takeRule_63 rfl rfl rfl ?_
      refine T_aload_n (i := 0) (pc' := 65) dX2_takeRule_64 rfl rfl rfl ?_
      refine U_gr (q := 3) (k := 0) (kI := 0) (pc' := 68) dX2_takeRule_65 rfl cl2 (by decide) rfl (by decide) flX2_9 rfl rfl rfl (G_at hG 11 rfl) (by decide) rfl ?_
      refine T_iconst (pc' := 69) dX2_takeRule_68 (by decide) rfl ?_
      refine T_bipush (pc' := 71) dX2_takeRule_69 rfl (by decide) rfl ?_
      refine T_aload_n (i := 0) (pc' := 72) dX2_takeRule_71 rfl rfl rfl ?_
      refine U_gr (q := 3) (k := 0) (kI := 0) (pc' := 75) dX2_takeRule_72 rfl cl2 (by decide) rfl (by decide) flX2_9 rfl rfl rfl (G_at hG 11 rfl) (by decide) rfl ?_
      refine U_gfN (v := (0, (M 3 2))) (k := 2) (kI := 2) (pc' := 78) dX2_takeRule_75 rfl cl9 (by decide) rfl (by decide) flX2_36 rfl rfl (by decide) rfl rfl ?_
      refine T_callV (av := [(0, 1), (0, 30), (0, (M 3 2))]) (st := [(2, g)]) (d2 := 3) (nc2 := 0) (ns2 := 0) (pc' := 81) dX2_takeRule_78 rfl mtX9_takeNumber mvX9_takeNumber mlX2_107 cl9 rfl rfl rfl (Nat.le_of_ble_eq_true rfl) (by decide) ⟨by decide, by decide⟩ rfl (pX9_takeNumber (E := E) (h := h) (M := M) (v1 := 1) (v2 := 30) (v3 := (M 3 2)) H hG) ?_
      rintro _ _ M11 ⟨rfl, hG12, a10, rfl, H⟩ _
      refine U_pfN (y := a10) (k := 15) (kI := 15) (pc' := 84) dX2_takeRule_81 rfl cl1 (pog0 hg) (shg0 hg) (by decide) flX2_120 rfl rfl rfl rfl rfl (by decide) (fun z => z) rfl ?_
      have hG13 := (G_fld (x := g) (i := 15) (y := a10) (shg0 hg) (by decide) (by decide) (pog0 hg) hG12)
      obtain ⟨M14, eM14⟩ : ∃ m : Mem, m = (mset M11 g 15 a10) := ⟨_, rfl⟩
      rw [← eM14] at hG13 ⊢
      replace H := H M14 eM14
      refine T_aload_n (i := 1) (pc' := 85) dX2_takeRule_84 rfl rfl rfl ?_
      refine U_gfN (v := (0, (M14 g 15))) (k := 15) (kI := 15) (pc' := 88) dX2_takeRule_85 rfl cl1 (pog0 hg) (shg0 hg) (by decide) flX2_120 rfl rfl (by decide) rfl rfl ?_
      refine T_iconst (pc' := 89) dX2_takeRule_88 (by decide) rfl ?_
      have HJ15 : T E miX2_takeRule 4 126 0 0 (fun r S M' => S = S0 ∧ G h M' ∧ RI 0 Q r M') 97 [(3, 0), (3, 0), (3, 0)] [(0, (if (M14 g 15) = (-1) then (0 : Int) else 1))] S0 M14 0 0 := by
        obtain ⟨z1, H⟩ := H
        exact T_zret dX2_takeRule_97 rfl z1 ⟨rfl, hG13, _, rfl, H⟩
      refine T_icmp_eq (pc' := 96) dX2_takeRule_89 (by decide) (pf := 92) rfl (fun c16 => ?_) (fun c16 => ?_)
      · skip
        refine T_iconst (pc' := 97) dX2_takeRule_96 (by decide) rfl ?_
        exact T_wk (L' := [(3, 0), (3, 0), (3, 0)]) (by have q := HJ15; try simp only [if_pos c16] at q ⊢; exact q) ⟨Or.inl rfl, Or.inl rfl, Or.inl rfl, trivial⟩
      · skip
        refine T_iconst (pc' := 93) dX2_takeRule_92 (by decide) rfl ?_
        refine T_goto (pc' := 97) dX2_takeRule_93 (by decide) ?_
        exact T_wk (L' := [(3, 0), (3, 0), (3, 0)]) (by have q := HJ15; try simp only [if_neg c16] at q ⊢; exact q) ⟨Or.inl rfl, Or.inl rfl, Or.inl rfl, trivial⟩
    · skip
      replace H := H.2 c9
      by_cases c17 : v2 = 7
      · skip
        replace H := H.1 c17
        refine T_tableIn (pc' := 98) dX2_takeRule_1 (by omega) (by omega) (by rw [c17]; rfl) (by decide) ?_
        refine T_aload_n (i := 1) (pc' := 99) dX2_takeRule_98 rfl rfl rfl ?_
        refine T_aload_n (i := 0) (pc' := 100) dX2_takeRule_99 rfl rfl rfl ?_
        refine U_gr (q := 3) (k := 0) (kI := 0) (pc' := 103) dX2_takeRule_100 rfl cl2 (by decide) rfl (by decide) flX2_9 rfl rfl rfl (G_at hG 11 rfl) (by decide) rfl ?_
        refine T_iconst (pc' := 104) dX2_takeRule_103 (by decide) rfl ?_
        refine T_iconst (pc' := 105) dX2_takeRule_104 (by decide) rfl ?_
        refine T_aload_n (i := 0) (pc' := 106) dX2_takeRule_105 rfl rfl rfl ?_
        refine U_gr (q := 3) (k := 0) (kI := 0) (pc' := 109) dX2_takeRule_106 rfl cl2 (by decide) rfl (by decide) flX2_9 rfl rfl rfl (G_at hG 11 rfl) (by decide) rfl ?_
        refine U_gfN (v := (0, (M 3 2))) (k := 2) (kI := 2) (pc' := 112) dX2_takeRule_109 rfl cl9 (by decide) rfl (by decide) flX2_36 rfl rfl (by decide) rfl rfl ?_
        refine T_callV (av := [(0, 1), (0, 5), (0, (M 3 2))]) (st := [(2, g)]) (d2 := 3) (nc2 := 0) (ns2 := 0) (pc' := 115) dX2_takeRule_112 rfl mtX9_takeNumber mvX9_takeNumber mlX2_107 cl9 rfl rfl rfl (Nat.le_of_ble_eq_true rfl) (by decide) ⟨by decide, by decide⟩ rfl (pX9_takeNumber (E := E) (h := h) (M := M) (v1 := 1) (v2 := 5) (v3 := (M 3 2)) H hG) ?_
        rintro _ _ M19 ⟨rfl, hG20, a18, rfl, H⟩ _
        refine U_pfN (y := a18) (k := 16) (kI := 16) (pc' := 118) dX2_takeRule_115 rfl cl1 (pog0 hg) (shg0 hg) (by decide) flX2_123 rfl rfl rfl rfl rfl (by decide) (fun z => z) rfl ?_
        have hG21 := (G_fld (x := g) (i := 16) (y := a18) (shg0 hg) (by decide) (by decide) (pog0 hg) hG20)
        obtain ⟨M22, eM22⟩ : ∃ m : Mem, m = (mset M19 g 16 a18) := ⟨_, rfl⟩
        rw [← eM22] at hG21 ⊢
        replace H := H M22 eM22
        refine T_aload_n (i := 1) (pc' := 119) dX2_takeRule_118 rfl rfl rfl ?_
        refine U_gfN (v := (0, (M22 g 16))) (k := 16) (kI := 16) (pc' := 122) dX2_takeRule_119 rfl cl1 (pog0 hg) (shg0 hg) (by decide) flX2_123 rfl rfl (by decide) rfl rfl ?_
        refine T_iconst (pc' := 123) dX2_takeRule_122 (by decide) rfl ?_
        have HJ23 : T E miX2_takeRule 4 126 0 0 (fun r S M' => S = S0 ∧ G h M' ∧ RI 0 Q r M') 131 [(3, 0), (3, 0), (3, 0)] [(0, (if (M22 g 16) = (-1) then (0 : Int) else 1))] S0 M22 0 0 := by
          obtain ⟨z1, H⟩ := H
          exact T_zret dX2_takeRule_131 rfl z1 ⟨rfl, hG21, _, rfl, H⟩
        refine T_icmp_eq (pc' := 130) dX2_takeRule_123 (by decide) (pf := 126) rfl (fun c24 => ?_) (fun c24 => ?_)
        · skip
          refine T_iconst (pc' := 131) dX2_takeRule_130 (by decide) rfl ?_
          exact T_wk (L' := [(3, 0), (3, 0), (3, 0)]) (by have q := HJ23; try simp only [if_pos c24] at q ⊢; exact q) ⟨Or.inl rfl, Or.inl rfl, Or.inl rfl, trivial⟩
        · skip
          refine T_iconst (pc' := 127) dX2_takeRule_126 (by decide) rfl ?_
          refine T_goto (pc' := 131) dX2_takeRule_127 (by decide) ?_
          exact T_wk (L' := [(3, 0), (3, 0), (3, 0)]) (by have q := HJ23; try simp only [if_neg c24] at q ⊢; exact q) ⟨Or.inl rfl, Or.inl rfl, Or.inl rfl, trivial⟩
      · skip
        replace H := H.2 c17
        refine T_tableOut (pc' := 132) dX2_takeRule_1 (by omega) (by decide) ?_
        refine T_aload_n (i := 1) (pc' := 133) dX2_takeRule_132 rfl rfl rfl ?_
        refine T_aload_n (i := 0) (pc' := 134) dX2_takeRule_133 rfl rfl rfl ?_
        refine U_gr (q := 3) (k := 0) (kI := 0) (pc' := 137) dX2_takeRule_134 rfl cl2 (by decide) rfl (by decide) flX2_9 rfl rfl rfl (G_at hG 11 rfl) (by decide) rfl ?_
        refine T_iconst (pc' := 138) dX2_takeRule_137 (by decide) rfl ?_
        refine T_bipush (pc' := 140) dX2_takeRule_138 rfl (by decide) rfl ?_
        refine T_aload_n (i := 0) (pc' := 141) dX2_takeRule_140 rfl rfl rfl ?_
        refine U_gr (q := 3) (k := 0) (kI := 0) (pc' := 144) dX2_takeRule_141 rfl cl2 (by decide) rfl (by decide) flX2_9 rfl rfl rfl (G_at hG 11 rfl) (by decide) rfl ?_
        refine U_gfN (v := (0, (M 3 2))) (k := 2) (kI := 2) (pc' := 147) dX2_takeRule_144 rfl cl9 (by decide) rfl (by decide) flX2_36 rfl rfl (by decide) rfl rfl ?_
        refine T_callV (av := [(0, 1), (0, 9), (0, (M 3 2))]) (st := [(2, g)]) (d2 := 3) (nc2 := 0) (ns2 := 0) (pc' := 150) dX2_takeRule_147 rfl mtX9_takeNumber mvX9_takeNumber mlX2_107 cl9 rfl rfl rfl (Nat.le_of_ble_eq_true rfl) (by decide) ⟨by decide, by decide⟩ rfl (pX9_takeNumber (E := E) (h := h) (M := M) (v1 := 1) (v2 := 9) (v3 := (M 3 2)) H hG) ?_
        rintro _ _ M26 ⟨rfl, hG27, a25, rfl, H⟩ _
        refine U_pfN (y := a25) (k := 17) (kI := 17) (pc' := 153) dX2_takeRule_150 rfl cl1 (pog0 hg) (shg0 hg) (by decide) flX2_126 rfl rfl rfl rfl rfl (by decide) (fun z => z) rfl ?_
        have hG28 := (G_fld (x := g) (i := 17) (y := a25) (shg0 hg) (by decide) (by decide) (pog0 hg) hG27)
        obtain ⟨M29, eM29⟩ : ∃ m : Mem, m = (mset M26 g 17 a25) := ⟨_, rfl⟩
        rw [← eM29] at hG28 ⊢
        replace H := H M29 eM29
        refine T_aload_n (i := 1) (pc' := 154) dX2_takeRule_153 rfl rfl rfl ?_
        refine U_gfN (v := (0, (M29 g 17))) (k := 17) (kI := 17) (pc' := 157) dX2_takeRule_154 rfl cl1 (pog0 hg) (shg0 hg) (by decide) flX2_126 rfl rfl (by decide) rfl rfl ?_
        refine T_iconst (pc' := 158) dX2_takeRule_157 (by decide) rfl ?_
        have HJ30 : T E miX2_takeRule 4 126 0 0 (fun r S M' => S = S0 ∧ G h M' ∧ RI 0 Q r M') 166 [(3, 0), (3, 0), (3, 0)] [(0, (if (M29 g 17) = (-1) then (0 : Int) else 1))] S0 M29 0 0 := by
          obtain ⟨z1, H⟩ := H
          exact T_zret dX2_takeRule_166 rfl z1 ⟨rfl, hG28, _, rfl, H⟩
        refine T_icmp_eq (pc' := 165) dX2_takeRule_158 (by decide) (pf := 161) rfl (fun c31 => ?_) (fun c31 => ?_)
        · skip
          refine T_iconst (pc' := 166) dX2_takeRule_165 (by decide) rfl ?_
          exact T_wk (L' := [(3, 0), (3, 0), (3, 0)]) (by have q := HJ30; try simp only [if_pos c31] at q ⊢; exact q) ⟨Or.inl rfl, Or.inl rfl, Or.inl rfl, trivial⟩
        · skip
          refine T_iconst (pc' := 162) dX2_takeRule_161 (by decide) rfl ?_
          refine T_goto (pc' := 166) dX2_takeRule_162 (by decide) ?_
          exact T_wk (L' := [(3, 0), (3, 0), (3, 0)]) (by have q := HJ30; try simp only [if_neg c31] at q ⊢; exact q) ⟨Or.inl rfl, Or.inl rfl, Or.inl rfl, trivial⟩
def PX2_takeSize (g : Int) (M : Mem) (Q : Int → Mem → Prop) : Prop :=
  PX9_takeNumber 2 9 (M 3 2) M (fun a1 M2 => (∀ M5 : Mem, M5 = (mset M2 g 9 a1) → (((M5 g 9) = (-1) → Q 0 M5) ∧ (¬ ((M5 g 9) = (-1)) → PX9_takeNumber 2 6 (M5 3 2) M5 (fun a7 M8 => (∀ M11 : Mem, M11 = (mset M8 g 10 a7) → (((if (M11 g 10) = (-1) then (0 : Int) else 1) : Int) = 0 ∨ ((if (M11 g 10) = (-1) then (0 : Int) else 1) : Int) = 1) ∧ Q (if (M11 g 10) = (-1) then (0 : Int) else 1) M11))))))
set_option maxRecDepth 100000 in
set_option maxHeartbeats 2000000 in
theorem pX2_takeSize {E : EV} {h : Int} {M : Mem} {g : Int} (hg : isG g) {Q : Int → Mem → Prop} (H : PX2_takeSize g M Q) : C2 E miX2_takeSize 4 h [(2, 4), (2, g)] M (RI 0 Q) := by
  refine C2_of (L := [(2, 4), (2, g)]) (by decide +kernel) (Nat.le_of_ble_eq_true rfl) rfl (fun hG => ?_)
  refine T_aload_n (i := 1) (pc' := 1) dX2_takeSize_0 rfl rfl rfl ?_
  refine T_aload_n (i := 0) (pc' := 2) dX2_takeSize_1 rfl rfl rfl ?_
  refine U_gr (q := 3) (k := 0) (kI := 0) (pc' := 5) dX2_takeSize_2 rfl cl2 (by decide) rfl (by decide) flX2_9 rfl rfl rfl (G_at hG 11 rfl) (by decide) rfl ?_
  refine T_iconst (pc' := 6) dX2_takeSize_5 (by decide) rfl ?_
  refine T_bipush (pc' := 8) dX2_takeSize_6 rfl (by decide) rfl ?_
  refine T_aload_n (i := 0) (pc' := 9) dX2_takeSize_8 rfl rfl rfl ?_
  refine U_gr (q := 3) (k := 0) (kI := 0) (pc' := 12) dX2_takeSize_9 rfl cl2 (by decide) rfl (by decide) flX2_9 rfl rfl rfl (G_at hG 11 rfl) (by decide) rfl ?_
  refine U_gfN (v := (0, (M 3 2))) (k := 2) (kI := 2) (pc' := 15) dX2_takeSize_12 rfl cl9 (by decide) rfl (by decide) flX2_36 rfl rfl (by decide) rfl rfl ?_
  refine T_callV (av := [(0, 2), (0, 9), (0, (M 3 2))]) (st := [(2, g)]) (d2 := 3) (nc2 := 0) (ns2 := 0) (pc' := 18) dX2_takeSize_15 rfl mtX9_takeNumber mvX9_takeNumber mlX2_107 cl9 rfl rfl rfl (Nat.le_of_ble_eq_true rfl) (by decide) ⟨by decide, by decide⟩ rfl (pX9_takeNumber (E := E) (h := h) (M := M) (v1 := 2) (v2 := 9) (v3 := (M 3 2)) H hG) ?_
  rintro _ _ M2 ⟨rfl, hG3, a1, rfl, H⟩ _
  refine U_pfN (y := a1) (k := 9) (kI := 9) (pc' := 21) dX2_takeSize_18 rfl cl1 (pog0 hg) (shg0 hg) (by decide) flX2_111 rfl rfl rfl rfl rfl (by decide) (fun z => z) rfl ?_
  have hG4 := (G_fld (x := g) (i := 9) (y := a1) (shg0 hg) (by decide) (by decide) (pog0 hg) hG3)
  obtain ⟨M5, eM5⟩ : ∃ m : Mem, m = (mset M2 g 9 a1) := ⟨_, rfl⟩
  rw [← eM5] at hG4 ⊢
  replace H := H M5 eM5
  refine T_aload_n (i := 1) (pc' := 22) dX2_takeSize_21 rfl rfl rfl ?_
  refine U_gfN (v := (0, (M5 g 9))) (k := 9) (kI := 9) (pc' := 25) dX2_takeSize_22 rfl cl1 (pog0 hg) (shg0 hg) (by decide) flX2_111 rfl rfl (by decide) rfl rfl ?_
  refine T_iconst (pc' := 26) dX2_takeSize_25 (by decide) rfl ?_
  refine T_icmp_ne (pc' := 31) dX2_takeSize_26 (by decide) (pf := 29) rfl (fun c6 => ?_) (fun c6 => ?_)
  · skip
    replace H := H.2 c6
    refine T_aload_n (i := 1) (pc' := 32) dX2_takeSize_31 rfl rfl rfl ?_
    refine T_aload_n (i := 0) (pc' := 33) dX2_takeSize_32 rfl rfl rfl ?_
    refine U_gr (q := 3) (k := 0) (kI := 0) (pc' := 36) dX2_takeSize_33 rfl cl2 (by decide) rfl (by decide) flX2_9 rfl rfl rfl (G_at hG4 11 rfl) (by decide) rfl ?_
    refine T_iconst (pc' := 37) dX2_takeSize_36 (by decide) rfl ?_
    refine T_bipush (pc' := 39) dX2_takeSize_37 rfl (by decide) rfl ?_
    refine T_aload_n (i := 0) (pc' := 40) dX2_takeSize_39 rfl rfl rfl ?_
    refine U_gr (q := 3) (k := 0) (kI := 0) (pc' := 43) dX2_takeSize_40 rfl cl2 (by decide) rfl (by decide) flX2_9 rfl rfl rfl (G_at hG4 11 rfl) (by decide) rfl ?_
    refine U_gfN (v := (0, (M5 3 2))) (k := 2) (kI := 2) (pc' := 46) dX2_takeSize_43 rfl cl9 (by decide) rfl (by decide) flX2_36 rfl rfl (by decide) rfl rfl ?_
    refine T_callV (av := [(0, 2), (0, 6), (0, (M5 3 2))]) (st := [(2, g)]) (d2 := 3) (nc2 := 0) (ns2 := 0) (pc' := 49) dX2_takeSize_46 rfl mtX9_takeNumber mvX9_takeNumber mlX2_107 cl9 rfl rfl rfl (Nat.le_of_ble_eq_true rfl) (by decide) ⟨by decide, by decide⟩ rfl (pX9_takeNumber (E := E) (h := h) (M := M5) (v1 := 2) (v2 := 6) (v3 := (M5 3 2)) H hG4) ?_
    rintro _ _ M8 ⟨rfl, hG9, a7, rfl, H⟩ _
    refine U_pfN (y := a7) (k := 10) (kI := 10) (pc' := 52) dX2_takeSize_49 rfl cl1 (pog0 hg) (shg0 hg) (by decide) flX2_114 rfl rfl rfl rfl rfl (by decide) (fun z => z) rfl ?_
    have hG10 := (G_fld (x := g) (i := 10) (y := a7) (shg0 hg) (by decide) (by decide) (pog0 hg) hG9)
    obtain ⟨M11, eM11⟩ : ∃ m : Mem, m = (mset M8 g 10 a7) := ⟨_, rfl⟩
    rw [← eM11] at hG10 ⊢
    replace H := H M11 eM11
    refine T_aload_n (i := 1) (pc' := 53) dX2_takeSize_52 rfl rfl rfl ?_
    refine U_gfN (v := (0, (M11 g 10))) (k := 10) (kI := 10) (pc' := 56) dX2_takeSize_53 rfl cl1 (pog0 hg) (shg0 hg) (by decide) flX2_114 rfl rfl (by decide) rfl rfl ?_
    refine T_iconst (pc' := 57) dX2_takeSize_56 (by decide) rfl ?_
    have HJ12 : T E miX2_takeSize 4 126 0 0 (fun r S M' => S = S0 ∧ G h M' ∧ RI 0 Q r M') 65 [(3, 0), (3, 0)] [(0, (if (M11 g 10) = (-1) then (0 : Int) else 1))] S0 M11 0 0 := by
      obtain ⟨z1, H⟩ := H
      exact T_zret dX2_takeSize_65 rfl z1 ⟨rfl, hG10, _, rfl, H⟩
    refine T_icmp_eq (pc' := 64) dX2_takeSize_57 (by decide) (pf := 60) rfl (fun c13 => ?_) (fun c13 => ?_)
    · skip
      refine T_iconst (pc' := 65) dX2_takeSize_64 (by decide) rfl ?_
      exact T_wk (L' := [(3, 0), (3, 0)]) (by have q := HJ12; try simp only [if_pos c13] at q ⊢; exact q) ⟨Or.inl rfl, Or.inl rfl, trivial⟩
    · skip
      refine T_iconst (pc' := 61) dX2_takeSize_60 (by decide) rfl ?_
      refine T_goto (pc' := 65) dX2_takeSize_61 (by decide) ?_
      exact T_wk (L' := [(3, 0), (3, 0)]) (by have q := HJ12; try simp only [if_neg c13] at q ⊢; exact q) ⟨Or.inl rfl, Or.inl rfl, trivial⟩
  · skip
    replace H := H.1 c6
    refine T_iconst (pc' := 30) dX2_takeSize_29 (by decide) rfl ?_
    exact T_zret dX2_takeSize_30 rfl (by decide) ⟨rfl, hG4, _, rfl, H⟩
def PX2_takeWall (g : Int) (M : Mem) (Q : Int → Mem → Prop) : Prop :=
  PX2_takeCell g 1 M (fun a1 M2 => ((a1 = (-1) → Q 0 M2) ∧ (¬ (a1 = (-1)) → (∀ M6 : Mem, M6 = (fmX11_put M2 (g + 9) 54 a1 1) → (∀ M8 : Mem, M8 = (mset M6 g 11 (wr32 ((M6 g 11) + 1))) → Q 1 M8)))))
set_option maxRecDepth 100000 in
set_option maxHeartbeats 2000000 in
theorem pX2_takeWall {E : EV} {h : Int} {M : Mem} {g : Int} (hg : isG g) {Q : Int → Mem → Prop} (H : PX2_takeWall g M Q) : C2 E miX2_takeWall 5 h [(2, 4), (2, g)] M (RI 0 Q) := by
  refine C2_of (L := [(2, 4), (2, g), (3, 0)]) (by decide +kernel) (Nat.le_of_ble_eq_true rfl) rfl (fun hG => ?_)
  refine T_aload_n (i := 0) (pc' := 1) dX2_takeWall_0 rfl rfl rfl ?_
  refine T_aload_n (i := 1) (pc' := 2) dX2_takeWall_1 rfl rfl rfl ?_
  refine T_iconst (pc' := 3) dX2_takeWall_2 (by decide) rfl ?_
  refine T_callV (av := [(2, g), (0, 1)]) (st := []) (d2 := 4) (nc2 := 0) (ns2 := 0) (pc' := 6) dX2_takeWall_3 rfl mtX2_takeCell mvX2_takeCell mlX2_144 cl2 rfl rfl rfl (Nat.le_of_ble_eq_true rfl) (by decide) ⟨by decide, by decide⟩ rfl (pX2_takeCell (E := E) (h := h) (M := M) (g := g) (v2 := 1) hg H hG) ?_
  rintro _ _ M2 ⟨rfl, hG3, a1, rfl, H⟩ _
  refine T_istore_n (i := 2) (L' := [(2, 4), (2, g), (0, a1)]) (pc' := 7) dX2_takeWall_6 rfl (by decide) rfl rfl ?_
  refine T_iload_n (i := 2) (pc' := 8) dX2_takeWall_7 rfl rfl rfl ?_
  refine T_iconst (pc' := 9) dX2_takeWall_8 (by decide) rfl ?_
  refine T_icmp_ne (pc' := 14) dX2_takeWall_9 (by decide) (pf := 12) rfl (fun c4 => ?_) (fun c4 => ?_)
  · skip
    replace H := H.2 c4
    refine T_aload_n (i := 1) (pc' := 15) dX2_takeWall_14 rfl rfl rfl ?_
    refine U_grN (q := (g + 9)) (k := 1) (kI := 1) (pc' := 18) dX2_takeWall_15 rfl cl1 (pog0 hg) (shg0 hg) (by decide) flX2_148 rfl rfl rfl (grg0_1 hg hG3) (pog9 hg) rfl ?_
    refine T_iload_n (i := 2) (pc' := 19) dX2_takeWall_18 rfl rfl rfl ?_
    refine T_iconst (pc' := 20) dX2_takeWall_19 (by decide) rfl ?_
    refine T_callSN (av := [(2, (g + 9)), (0, a1), (0, 1)]) (st := []) (d2 := 1) (nc2 := 0) (ns2 := 0) (pc' := 23) dX2_takeWall_20 rfl mtX11_put mvX11_put mlX2_152 rfl rfl (Nat.le_of_ble_eq_true rfl) (by decide) ⟨by decide, by decide⟩ rfl (pX11_put (E := E) (h := h) (M := M2) (p0 := (g + 9)) (np0 := 54) (v1 := a1) (v2 := 1) (pog9 hg) (shg9 hg) (by decide) hG3) (kF (st2 := []) rfl (fun hG5 => ?_))
    obtain ⟨M6, eM6⟩ : ∃ m : Mem, m = (fmX11_put M2 (g + 9) 54 a1 1) := ⟨_, rfl⟩
    rw [← eM6] at hG5 ⊢
    replace H := H M6 eM6
    refine T_aload_n (i := 1) (pc' := 24) dX2_takeWall_23 rfl rfl rfl ?_
    refine T_dup (pc' := 25) dX2_takeWall_24 (Nat.ne_of_beq_eq_false rfl) rfl ?_
    refine U_gfN (v := (0, (M6 g 11))) (k := 11) (kI := 11) (pc' := 28) dX2_takeWall_25 rfl cl1 (pog0 hg) (shg0 hg) (by decide) flX2_85 rfl rfl (by decide) rfl rfl ?_
    refine T_iconst (pc' := 29) dX2_takeWall_28 (by decide) rfl ?_
    refine T_iadd (pc' := 30) dX2_takeWall_29 rfl ?_
    refine U_pfN (y := (wr32 ((M6 g 11) + 1))) (k := 11) (kI := 11) (pc' := 33) dX2_takeWall_30 rfl cl1 (pog0 hg) (shg0 hg) (by decide) flX2_85 rfl rfl rfl rfl rfl (by decide) (fun z => z) rfl ?_
    have hG7 := (G_fld (x := g) (i := 11) (y := (wr32 ((M6 g 11) + 1))) (shg0 hg) (by decide) (by decide) (pog0 hg) hG5)
    obtain ⟨M8, eM8⟩ : ∃ m : Mem, m = (mset M6 g 11 (wr32 ((M6 g 11) + 1))) := ⟨_, rfl⟩
    rw [← eM8] at hG7 ⊢
    replace H := H M8 eM8
    refine T_iconst (pc' := 34) dX2_takeWall_33 (by decide) rfl ?_
    exact T_zret dX2_takeWall_34 rfl (by decide) ⟨rfl, hG7, _, rfl, H⟩
  · skip
    replace H := H.1 c4
    refine T_iconst (pc' := 13) dX2_takeWall_12 (by decide) rfl ?_
    exact T_zret dX2_takeWall_13 rfl (by decide) ⟨rfl, hG3, _, rfl, H⟩
def PX9_takeSign (v1 : Int) (M : Mem) (Q : Int → Mem → Prop) : Prop :=
  (((fX9_isSign M v1) = 0 → (∀ M7 : Mem, M7 = (fmX9_unasked M) → ((fX9_unasked : Int) = 0 ∨ (fX9_unasked : Int) = 1) ∧ Q fX9_unasked M7)) ∧ (¬ ((fX9_isSign M v1) = 0) → PX9_next M (fun _ M4 => Q 1 M4)))
set_option maxRecDepth 100000 in
set_option maxHeartbeats 2000000 in
theorem pX9_takeSign {E : EV} {h : Int} {M : Mem} {v1 : Int}  {Q : Int → Mem → Prop} (H : PX9_takeSign v1 M Q) : C2 E miX9_takeSign 3 h [(2, 3), (0, v1)] M (RI 0 Q) := by
  refine C2_of (L := [(2, 3), (0, v1)]) (by decide +kernel) (Nat.le_of_ble_eq_true rfl) rfl (fun hG => ?_)
  refine T_aload_n (i := 0) (pc' := 1) dX9_takeSign_0 rfl rfl rfl ?_
  refine T_iload_n (i := 1) (pc' := 2) dX9_takeSign_1 rfl rfl rfl ?_
  refine T_callV (av := [(0, v1)]) (st := []) (d2 := 2) (nc2 := 0) (ns2 := 0) (pc' := 5) dX9_takeSign_2 rfl mtX9_isSign mvX9_isSign mlX9_66 cl9 rfl rfl rfl (Nat.le_of_ble_eq_true rfl) (by decide) ⟨by decide, by decide⟩ rfl (pX9_isSign (E := E) (h := h) (M := M) (v1 := v1) hG) (kF (st2 := [(0, (fX9_isSign M v1))]) rfl (fun hG1 => ?_))
  refine T_if_ne (pc' := 13) dX9_takeSign_5 (by decide) (pf := 8) rfl (fun c2 => ?_) (fun c2 => ?_)
  · skip
    replace H := H.2 c2
    refine T_aload_n (i := 0) (pc' := 14) dX9_takeSign_13 rfl rfl rfl ?_
    refine T_callV (av := []) (st := []) (d2 := 2) (nc2 := 0) (ns2 := 0) (pc' := 17) dX9_takeSign_14 rfl mtX9_next mvX9_next mlX9_31 cl9 rfl rfl rfl (Nat.le_of_ble_eq_true rfl) (by decide) ⟨by decide, by decide⟩ rfl (pX9_next (E := E) (h := h) (M := M) H hG) ?_
    rintro _ _ M4 ⟨rfl, hG5, rfl, H⟩ _
    refine T_iconst (pc' := 18) dX9_takeSign_17 (by decide) rfl ?_
    exact T_zret dX9_takeSign_18 rfl (by decide) ⟨rfl, hG5, _, rfl, H⟩
  · skip
    replace H := H.1 c2
    refine T_aload_n (i := 0) (pc' := 9) dX9_takeSign_8 rfl rfl rfl ?_
    refine T_callV (av := []) (st := []) (d2 := 2) (nc2 := 0) (ns2 := 0) (pc' := 12) dX9_takeSign_9 rfl mtX9_unasked mvX9_unasked mlX9_70 cl9 rfl rfl rfl (Nat.le_of_ble_eq_true rfl) (by decide) ⟨by decide, by decide⟩ rfl (pX9_unasked (E := E) (h := h) (M := M) hG) (kF (st2 := [(0, fX9_unasked)]) rfl (fun hG6 => ?_))
    obtain ⟨M7, eM7⟩ : ∃ m : Mem, m = (fmX9_unasked M) := ⟨_, rfl⟩
    rw [← eM7] at hG6 ⊢
    replace H := H M7 eM7
    obtain ⟨z1, H⟩ := H
    exact T_zret dX9_takeSign_12 rfl z1 ⟨rfl, hG6, _, rfl, H⟩
def PX2_takeStatement (g : Int) (M : Mem) (Q : Int → Mem → Prop) : Prop :=
  (∀ a2 : Int, a2 = (fX9_find M 1000 0) → ((a2 < 0 → (∀ M5 : Mem, M5 = (fmX9_unasked M) → ((fX9_unasked : Int) = 0 ∨ (fX9_unasked : Int) = 1) ∧ Q fX9_unasked M5)) ∧ (¬ (a2 < 0) → ((8 < a2 → (∀ M8 : Mem, M8 = (fmX9_unasked M) → ((fX9_unasked : Int) = 0 ∨ (fX9_unasked : Int) = 1) ∧ Q fX9_unasked M8)) ∧ (¬ (8 < a2) → (((if a2 = 0 then (1 : Int) else 0) = (if (M 4 1) = 0 then (1 : Int) else 0) → (((fX2_isFull M g a2) = 0 → PX9_next M (fun _ M15 => ((a2 = 0 → PX2_takeSize g M15 (fun a18 M19 => ((a18 = 0 → Q 0 M19) ∧ (¬ (a18 = 0) → PX9_takeSign 59 M19 (fun a22 M23 => (((if a22 = 0 then (0 : Int) else 1) : Int) = 0 ∨ ((if a22 = 0 then (0 : Int) else 1) : Int) = 1) ∧ Q (if a22 = 0 then (0 : Int) else 1) M23))))) ∧ (¬ (a2 = 0) → ((a2 = 1 → PX2_takeWall g M15 (fun a28 M29 => ((a28 = 0 → Q 0 M29) ∧ (¬ (a28 = 0) → PX9_takeSign 59 M29 (fun a32 M33 => (((if a32 = 0 then (0 : Int) else 1) : Int) = 0 ∨ ((if a32 = 0 then (0 : Int) else 1) : Int) = 1) ∧ Q (if a32 = 0 then (0 : Int) else 1) M33))))) ∧ (¬ (a2 = 1) → ((a2 = 2 → PX2_takeDoor g M15 (fun a38 M39 => ((a38 = 0 → Q 0 M39) ∧ (¬ (a38 = 0) → PX9_takeSign 59 M39 (fun a42 M43 => (((if a42 = 0 then (0 : Int) else 1) : Int) = 0 ∨ ((if a42 = 0 then (0 : Int) else 1) : Int) = 1) ∧ Q (if a42 = 0 then (0 : Int) else 1) M43))))) ∧ (¬ (a2 = 2) → ((a2 = 3 → PX2_takePerson g M15 (fun a48 M49 => ((a48 = 0 → Q 0 M49) ∧ (¬ (a48 = 0) → PX9_takeSign 59 M49 (fun a52 M53 => (((if a52 = 0 then (0 : Int) else 1) : Int) = 0 ∨ ((if a52 = 0 then (0 : Int) else 1) : Int) = 1) ∧ Q (if a52 = 0 then (0 : Int) else 1) M53))))) ∧ (¬ (a2 = 3) → ((a2 = 4 → PX2_takeGuard g M15 (fun a58 M59 => ((a58 = 0 → Q 0 M59) ∧ (¬ (a58 = 0) → PX9_takeSign 59 M59 (fun a62 M63 => (((if a62 = 0 then (0 : Int) else 1) : Int) = 0 ∨ ((if a62 = 0 then (0 : Int) else 1) : Int) = 1) ∧ Q (if a62 = 0 then (0 : Int) else 1) M63))))) ∧ (¬ (a2 = 4) → PX2_takeRule g a2 M15 (fun a67 M68 => ((a67 = 0 → Q 0 M68) ∧ (¬ (a67 = 0) → PX9_takeSign 59 M68 (fun a71 M72 => (((if a71 = 0 then (0 : Int) else 1) : Int) = 0 ∨ ((if a71 = 0 then (0 : Int) else 1) : Int) = 1) ∧ Q (if a71 = 0 then (0 : Int) else 1) M72)))))))))))))))) ∧ (¬ ((fX2_isFull M g a2) = 0) → (∀ M77 : Mem, M77 = (fmX9_fail M 5 (M 3 2)) → ((fX9_fail : Int) = 0 ∨ (fX9_fail : Int) = 1) ∧ Q fX9_fail M77)))) ∧ (¬ ((if a2 = 0 then (1 : Int) else 0) = (if (M 4 1) = 0 then (1 : Int) else 0)) → (∀ M79 : Mem, M79 = (fmX9_unasked M) → ((fX9_unasked : Int) = 0 ∨ (fX9_unasked : Int) = 1) ∧ Q fX9_unasked M79))))))))
set_option maxRecDepth 100000 in
set_option maxHeartbeats 2000000 in
theorem pX2_takeStatement {E : EV} {h : Int} {M : Mem} {g : Int} (hg : isG g) {Q : Int → Mem → Prop} (H : PX2_takeStatement g M Q) : C2 E miX2_takeStatement 10 h [(2, 4), (2, g)] M (RI 0 Q) := by
  refine C2_of (L := [(2, 4), (2, g), (3, 0), (3, 0)]) (by decide +kernel) (Nat.le_of_ble_eq_true rfl) rfl (fun hG => ?_)
  refine T_aload_n (i := 0) (pc' := 1) dX2_takeStatement_0 rfl rfl rfl ?_
  refine U_gr (q := 3) (k := 0) (kI := 0) (pc' := 4) dX2_takeStatement_1 rfl cl2 (by decide) rfl (by decide) flX2_9 rfl rfl rfl (G_at hG 11 rfl) (by decide) rfl ?_
  refine T_ldcS (i := 0) (x := 1000) (pc' := 6) dX2_takeStatement_4 rfl rfl rfl rfl ?_
  refine T_callV (av := [(2, 1000)]) (st := []) (d2 := 6) (nc2 := 0) (ns2 := 0) (pc' := 9) dX2_takeStatement_6 rfl mtX9_find mvX9_find mlX2_52 cl9 rfl rfl rfl (Nat.le_of_ble_eq_true rfl) (by decide) ⟨by decide, by decide⟩ rfl (pX9_find (E := E) (h := h) (M := M) (p1 := 1000) (s1 := 0) (by decide) rfl hG) (kF (st2 := [(0, (fX9_find M 1000 0))]) rfl (fun hG1 => ?_))
  obtain ⟨a2, ea2⟩ : ∃ z : Int, z = (fX9_find M 1000 0) := ⟨_, rfl⟩
  rw [← ea2]
  replace H := H a2 ea2
  refine T_istore_n (i := 2) (L' := [(2, 4), (2, g), (0, a2), (3, 0)]) (pc' := 10) dX2_takeStatement_9 rfl (by decide) rfl rfl ?_
  refine T_iload_n (i := 2) (pc' := 11) dX2_takeStatement_10 rfl rfl rfl ?_
  refine T_if_lt (pc' := 44) dX2_takeStatement_11 (by decide) (pf := 14) rfl (fun c3 => ?_) (fun c3 => ?_)
  · skip
    replace H := H.1 c3
    refine T_aload_n (i := 0) (pc' := 45) dX2_takeStatement_44 rfl rfl rfl ?_
    refine U_gr (q := 3) (k := 0) (kI := 0) (pc' := 48) dX2_takeStatement_45 rfl cl2 (by decide) rfl (by decide) flX2_9 rfl rfl rfl (G_at hG 11 rfl) (by decide) rfl ?_
    refine T_callV (av := []) (st := []) (d2 := 2) (nc2 := 0) (ns2 := 0) (pc' := 51) dX2_takeStatement_48 rfl mtX9_unasked mvX9_unasked mlX2_43 cl9 rfl rfl rfl (Nat.le_of_ble_eq_true rfl) (by decide) ⟨by decide, by decide⟩ rfl (pX9_unasked (E := E) (h := h) (M := M) hG) (kF (st2 := [(0, fX9_unasked)]) rfl (fun hG4 => ?_))
    obtain ⟨M5, eM5⟩ : ∃ m : Mem, m = (fmX9_unasked M) := ⟨_, rfl⟩
    rw [← eM5] at hG4 ⊢
    replace H := H M5 eM5
    obtain ⟨z1, H⟩ := H
    exact T_zret dX2_takeStatement_51 rfl z1 ⟨rfl, hG4, _, rfl, H⟩
  · skip
    replace H := H.2 c3
    refine T_iload_n (i := 2) (pc' := 15) dX2_takeStatement_14 rfl rfl rfl ?_
    refine T_bipush (pc' := 17) dX2_takeStatement_15 rfl (by decide) rfl ?_
    refine T_icmp_gt (pc' := 44) dX2_takeStatement_17 (by decide) (pf := 20) rfl (fun c6 => ?_) (fun c6 => ?_)
    · skip
      replace H := H.1 c6
      refine T_aload_n (i := 0) (pc' := 45) dX2_takeStatement_44 rfl rfl rfl ?_
      refine U_gr (q := 3) (k := 0) (kI := 0) (pc' := 48) dX2_takeStatement_45 rfl cl2 (by decide) rfl (by decide) flX2_9 rfl rfl rfl (G_at hG 11 rfl) (by decide) rfl ?_
      refine T_callV (av := []) (st := []) (d2 := 2) (nc2 := 0) (ns2 := 0) (pc' := 51) dX2_takeStatement_48 rfl mtX9_unasked mvX9_unasked mlX2_43 cl9 rfl rfl rfl (Nat.le_of_ble_eq_true rfl) (by decide) ⟨by decide, by decide⟩ rfl (pX9_unasked (E := E) (h := h) (M := M) hG) (kF (st2 := [(0, fX9_unasked)]) rfl (fun hG7 => ?_))
      obtain ⟨M8, eM8⟩ : ∃ m : Mem, m = (fmX9_unasked M) := ⟨_, rfl⟩
      rw [← eM8] at hG7 ⊢
      replace H := H M8 eM8
      obtain ⟨z1, H⟩ := H
      exact T_zret dX2_takeStatement_51 rfl z1 ⟨rfl, hG7, _, rfl, H⟩
    · skip
      replace H := H.2 c6
      refine T_iload_n (i := 2) (pc' := 21) dX2_takeStatement_20 rfl rfl rfl ?_
      have HJ9 : T E miX2_takeStatement 10 126 0 0 (fun r S M' => S = S0 ∧ G h M' ∧ RI 0 Q r M') 29 [(2, 4), (2, g), (0, a2), (3, 0)] [(0, (if a2 = 0 then (1 : Int) else 0))] S0 M 0 0 := by
        refine T_aload_n (i := 0) (pc' := 30) dX2_takeStatement_29 rfl rfl rfl ?_
        refine U_gf (v := (0, (M 4 1))) (k := 1) (kI := 1) (pc' := 33) dX2_takeStatement_30 rfl cl2 (by decide) rfl (by decide) flX2_15 rfl rfl (by decide) rfl rfl ?_
        have HJ10 : T E miX2_takeStatement 10 126 0 0 (fun r S M' => S = S0 ∧ G h M' ∧ RI 0 Q r M') 41 [(2, 4), (2, g), (0, a2), (3, 0)] [(0, (if (M 4 1) = 0 then (1 : Int) else 0)), (0, (if a2 = 0 then (1 : Int) else 0))] S0 M 0 0 := by
          refine T_icmp_eq (pc' := 52) dX2_takeStatement_41 (by decide) (pf := 44) rfl (fun c11 => ?_) (fun c11 => ?_)
          · skip
            replace H := H.1 c11
            refine T_aload_n (i := 1) (pc' := 53) dX2_takeStatement_52 rfl rfl rfl ?_
            refine T_iload_n (i := 2) (pc' := 54) dX2_takeStatement_53 rfl rfl rfl ?_
            refine T_callS (av := [(2, g), (0, a2)]) (st := []) (d2 := 1) (nc2 := 0) (ns2 := 0) (pc' := 57) dX2_takeStatement_54 rfl mtX2_isFull mvX2_isFull mlX2_56 rfl rfl (Nat.le_of_ble_eq_true rfl) (by decide) ⟨by decide, by decide⟩ rfl (pX2_isFull (E := E) (h := h) (M := M) (g := g) (v1 := a2) hg hG) (kF (st2 := [(0, (fX2_isFull M g a2))]) rfl (fun hG12 => ?_))
            refine T_if_eq (pc' := 76) dX2_takeStatement_57 (by decide) (pf := 60) rfl (fun c13 => ?_) (fun c13 => ?_)
            · skip
              replace H := H.1 c13
              refine T_aload_n (i := 0) (pc' := 77) dX2_takeStatement_76 rfl rfl rfl ?_
              refine U_gr (q := 3) (k := 0) (kI := 0) (pc' := 80) dX2_takeStatement_77 rfl cl2 (by decide) rfl (by decide) flX2_9 rfl rfl rfl (G_at hG 11 rfl) (by decide) rfl ?_
              refine T_callV (av := []) (st := []) (d2 := 2) (nc2 := 0) (ns2 := 0) (pc' := 83) dX2_takeStatement_80 rfl mtX9_next mvX9_next mlX2_60 cl9 rfl rfl rfl (Nat.le_of_ble_eq_true rfl) (by decide) ⟨by decide, by decide⟩ rfl (pX9_next (E := E) (h := h) (M := M) H hG) ?_
              rintro _ _ M15 ⟨rfl, hG16, rfl, H⟩ _
              refine T_iload_n (i := 2) (pc' := 84) dX2_takeStatement_83 rfl rfl rfl ?_
              by_cases c17 : a2 = 0
              · skip
                replace H := H.1 c17
                refine T_tableIn (pc' := 120) dX2_takeStatement_84 (by omega) (by omega) (by rw [c17]; rfl) (by decide) ?_
                refine T_aload_n (i := 0) (pc' := 121) dX2_takeStatement_120 rfl rfl rfl ?_
                refine T_aload_n (i := 1) (pc' := 122) dX2_takeStatement_121 rfl rfl rfl ?_
                refine T_callV (av := [(2, g)]) (st := []) (d2 := 4) (nc2 := 0) (ns2 := 0) (pc' := 125) dX2_takeStatement_122 rfl mtX2_takeSize mvX2_takeSize mlX2_63 cl2 rfl rfl rfl (Nat.le_of_ble_eq_true rfl) (by decide) ⟨by decide, by decide⟩ rfl (pX2_takeSize (E := E) (h := h) (M := M15) (g := g) hg H hG16) ?_
                rintro _ _ M19 ⟨rfl, hG20, a18, rfl, H⟩ _
                refine T_istore_n (i := 3) (L' := [(2, 4), (2, g), (0, a2), (0, a18)]) (pc' := 126) dX2_takeStatement_125 rfl (by decide) rfl rfl ?_
                refine T_goto (pc' := 172) dX2_takeStatement_126 (by decide) ?_
                refine T_iload_n (i := 3) (pc' := 173) dX2_takeStatement_172 rfl rfl rfl ?_
                refine T_if_eq (pc' := 192) dX2_takeStatement_173 (by decide) (pf := 176) rfl (fun c21 => ?_) (fun c21 => ?_)
                · skip
                  replace H := H.1 c21
                  refine T_iconst (pc' := 193) dX2_takeStatement_192 (by decide) rfl ?_
                  exact T_zret dX2_takeStatement_193 rfl (by decide) ⟨rfl, hG20, _, rfl, H⟩
                · skip
                  replace H := H.2 c21
                  refine T_aload_n (i := 0) (pc' := 177) dX2_takeStatement_176 rfl rfl rfl ?_
                  refine U_gr (q := 3) (k := 0) (kI := 0) (pc' := 180) dX2_takeStatement_177 rfl cl2 (by decide) rfl (by decide) flX2_9 rfl rfl rfl (G_at hG20 11 rfl) (by decide) rfl ?_
                  refine T_bipush (pc' := 182) dX2_takeStatement_180 rfl (by decide) rfl ?_
                  refine T_callV (av := [(0, 59)]) (st := []) (d2 := 3) (nc2 := 0) (ns2 := 0) (pc' := 185) dX2_takeStatement_182 rfl mtX9_takeSign mvX9_takeSign mlX2_81 cl9 rfl rfl rfl (Nat.le_of_ble_eq_true rfl) (by decide) ⟨by decide, by decide⟩ rfl (pX9_takeSign (E := E) (h := h) (M := M19) (v1 := 59) H hG20) ?_
                  rintro _ _ M23 ⟨rfl, hG24, a22, rfl, H⟩ _
                  have HJ25 : T E miX2_takeStatement 10 126 0 0 (fun r S M' => S = S0 ∧ G h M' ∧ RI 0 Q r M') 193 [(3, 0), (3, 0), (3, 0), (3, 0)] [(0, (if a22 = 0 then (0 : Int) else 1))] S0 M23 0 0 := by
                    obtain ⟨z1, H⟩ := H
                    exact T_zret dX2_takeStatement_193 rfl z1 ⟨rfl, hG24, _, rfl, H⟩
                  refine T_if_eq (pc' := 192) dX2_takeStatement_185 (by decide) (pf := 188) rfl (fun c26 => ?_) (fun c26 => ?_)
                  · skip
                    refine T_iconst (pc' := 193) dX2_takeStatement_192 (by decide) rfl ?_
                    exact T_wk (L' := [(3, 0), (3, 0), (3, 0), (3, 0)]) (by have q := HJ25; try simp only [if_pos c26] at q ⊢; exact q) ⟨Or.inl rfl, Or.inl rfl, Or.inl rfl, Or.inl rfl, trivial⟩
                  · skip
                    refine T_iconst (pc' := 189) dX2_takeStatement_188 (by decide) rfl ?_
                    refine T_goto (pc' := 193) dX2_takeStatement_189 (by decide) ?_
                    exact T_wk (L' := [(3, 0), (3, 0), (3, 0), (3, 0)]) (by have q := HJ25; try simp only [if_neg c26] at q ⊢; exact q) ⟨Or.inl rfl, Or.inl rfl, Or.inl rfl, Or.inl rfl, trivial⟩
              · skip
                replace H := H.2 c17
                by_cases c27 : a2 = 1
                · skip
                  replace H := H.1 c27
                  refine T_tableIn (pc' := 129) dX2_takeStatement_84 (by omega) (by omega) (by rw [c27]; rfl) (by decide) ?_
                  refine T_aload_n (i := 0) (pc' := 130) dX2_takeStatement_129 rfl rfl rfl ?_
                  refine T_aload_n (i := 1) (pc' := 131) dX2_takeStatement_130 rfl rfl rfl ?_
                  refine T_callV (av := [(2, g)]) (st := []) (d2 := 5) (nc2 := 0) (ns2 := 0) (pc' := 134) dX2_takeStatement_131 rfl mtX2_takeWall mvX2_takeWall mlX2_66 cl2 rfl rfl rfl (Nat.le_of_ble_eq_true rfl) (by decide) ⟨by decide, by decide⟩ rfl (pX2_takeWall (E := E) (h := h) (M := M15) (g := g) hg H hG16) ?_
                  rintro _ _ M29 ⟨rfl, hG30, a28, rfl, H⟩ _
                  refine T_istore_n (i := 3) (L' := [(2, 4), (2, g), (0, a2), (0, a28)]) (pc' := 135) dX2_takeStatement_134 rfl (by decide) rfl rfl ?_
                  refine T_goto (pc' := 172) dX2_takeStatement_135 (by decide) ?_
                  refine T_iload_n (i := 3) (pc' := 173) dX2_takeStatement_172 rfl rfl rfl ?_
                  refine T_if_eq (pc' := 192) dX2_takeStatement_173 (by decide) (pf := 176) rfl (fun c31 => ?_) (fun c31 => ?_)
                  · skip
                    replace H := H.1 c31
                    refine T_iconst (pc' := 193) dX2_takeStatement_192 (by decide) rfl ?_
                    exact T_zret dX2_takeStatement_193 rfl (by decide) ⟨rfl, hG30, _, rfl, H⟩
                  · skip
                    replace H := H.2 c31
                    refine T_aload_n (i := 0) (pc' := 177) dX2_takeStatement_176 rfl rfl rfl ?_
                    refine U_gr (q := 3) (k := 0) (kI := 0) (pc' := 180) dX2_takeStatement_177 rfl cl2 (by decide) rfl (by decide) flX2_9 rfl rfl rfl (G_at hG30 11 rfl) (by decide) rfl ?_
                    refine T_bipush (pc' := 182) dX2_takeStatement_180 rfl (by decide) rfl ?_
                    refine T_callV (av := [(0, 59)]) (st := []) (d2 := 3) (nc2 := 0) (ns2 := 0) (pc' := 185) dX2_takeStatement_182 rfl mtX9_takeSign mvX9_takeSign mlX2_81 cl9 rfl rfl rfl (Nat.le_of_ble_eq_true rfl) (by decide) ⟨by decide, by decide⟩ rfl (pX9_takeSign (E := E) (h := h) (M := M29) (v1 := 59) H hG30) ?_
                    rintro _ _ M33 ⟨rfl, hG34, a32, rfl, H⟩ _
                    have HJ35 : T E miX2_takeStatement 10 126 0 0 (fun r S M' => S = S0 ∧ G h M' ∧ RI 0 Q r M') 193 [(3, 0), (3, 0), (3, 0), (3, 0)] [(0, (if a32 = 0 then (0 : Int) else 1))] S0 M33 0 0 := by
                      obtain ⟨z1, H⟩ := H
                      exact T_zret dX2_takeStatement_193 rfl z1 ⟨rfl, hG34, _, rfl, H⟩
                    refine T_if_eq (pc' := 192) dX2_takeStatement_185 (by decide) (pf := 188) rfl (fun c36 => ?_) (fun c36 => ?_)
                    · skip
                      refine T_iconst (pc' := 193) dX2_takeStatement_192 (by decide) rfl ?_
                      exact T_wk (L' := [(3, 0), (3, 0), (3, 0), (3, 0)]) (by have q := HJ35; try simp only [if_pos c36] at q ⊢; exact q) ⟨Or.inl rfl, Or.inl rfl, Or.inl rfl, Or.inl rfl, trivial⟩
                    · skip
                      refine T_iconst (pc' := 189) dX2_takeStatement_188 (by decide) rfl ?_
                      refine T_goto (pc' := 193) dX2_takeStatement_189 (by decide) ?_
                      exact T_wk (L' := [(3, 0), (3, 0), (3, 0), (3, 0)]) (by have q := HJ35; try simp only [if_neg c36] at q ⊢; exact q) ⟨Or.inl rfl, Or.inl rfl, Or.inl rfl, Or.inl rfl, trivial⟩
                · skip
                  replace H := H.2 c27
                  by_cases c37 : a2 = 2
                  · skip
                    replace H := H.1 c37
                    refine T_tableIn (pc' := 138) dX2_takeStatement_84 (by omega) (by omega) (by rw [c37]; rfl) (by decide) ?_
                    refine T_aload_n (i := 0) (pc' := 139) dX2_takeStatement_138 rfl rfl rfl ?_
                    refine T_aload_n (i := 1) (pc' := 140) dX2_takeStatement_139 rfl rfl rfl ?_
                    refine T_callV (av := [(2, g)]) (st := []) (d2 := 5) (nc2 := 0) (ns2 := 0) (pc' := 143) dX2_takeStatement_140 rfl mtX2_takeDoor mvX2_takeDoor mlX2_69 cl2 rfl rfl rfl (Nat.le_of_ble_eq_true rfl) (by decide) ⟨by decide, by decide⟩ rfl (pX2_takeDoor (E := E) (h := h) (M := M15) (g := g) hg H hG16) ?_
                    rintro _ _ M39 ⟨rfl, hG40, a38, rfl, H⟩ _
                    refine T_istore_n (i := 3) (L' := [(2, 4), (2, g), (0, a2), (0, a38)]) (pc' := 144) dX2_takeStatement_143 rfl (by decide) rfl rfl ?_
                    refine T_goto (pc' := 172) dX2_takeStatement_144 (by decide) ?_
                    refine T_iload_n (i := 3) (pc' := 173) dX2_takeStatement_172 rfl rfl rfl ?_
                    refine T_if_eq (pc' := 192) dX2_takeStatement_173 (by decide) (pf := 176) rfl (fun c41 => ?_) (fun c41 => ?_)
                    · skip
                      replace H := H.1 c41
                      refine T_iconst (pc' := 193) dX2_takeStatement_192 (by decide) rfl ?_
                      exact T_zret dX2_takeStatement_193 rfl (by decide) ⟨rfl, hG40, _, rfl, H⟩
                    · skip
                      replace H := H.2 c41
                      refine T_aload_n (i := 0) (pc' := 177) dX2_takeStatement_176 rfl rfl rfl ?_
                      refine U_gr (q := 3) (k := 0) (kI := 0) (pc' := 180) dX2_takeStatement_177 rfl cl2 (by decide) rfl (by decide) flX2_9 rfl rfl rfl (G_at hG40 11 rfl) (by decide) rfl ?_
                      refine T_bipush (pc' := 182) dX2_takeStatement_180 rfl (by decide) rfl ?_
                      refine T_callV (av := [(0, 59)]) (st := []) (d2 := 3) (nc2 := 0) (ns2 := 0) (pc' := 185) dX2_takeStatement_182 rfl mtX9_takeSign mvX9_takeSign mlX2_81 cl9 rfl rfl rfl (Nat.le_of_ble_eq_true rfl) (by decide) ⟨by decide, by decide⟩ rfl (pX9_takeSign (E := E) (h := h) (M := M39) (v1 := 59) H hG40) ?_
                      rintro _ _ M43 ⟨rfl, hG44, a42, rfl, H⟩ _
                      have HJ45 : T E miX2_takeStatement 10 126 0 0 (fun r S M' => S = S0 ∧ G h M' ∧ RI 0 Q r M') 193 [(3, 0), (3, 0), (3, 0), (3, 0)] [(0, (if a42 = 0 then (0 : Int) else 1))] S0 M43 0 0 := by
                        obtain ⟨z1, H⟩ := H
                        exact T_zret dX2_takeStatement_193 rfl z1 ⟨rfl, hG44, _, rfl, H⟩
                      refine T_if_eq (pc' := 192) dX2_takeStatement_185 (by decide) (pf := 188) rfl (fun c46 => ?_) (fun c46 => ?_)
                      · skip
                        refine T_iconst (pc' := 193) dX2_takeStatement_192 (by decide) rfl ?_
                        exact T_wk (L' := [(3, 0), (3, 0), (3, 0), (3, 0)]) (by have q := HJ45; try simp only [if_pos c46] at q ⊢; exact q) ⟨Or.inl rfl, Or.inl rfl, Or.inl rfl, Or.inl rfl, trivial⟩
                      · skip
                        refine T_iconst (pc' := 189) dX2_takeStatement_188 (by decide) rfl ?_
                        refine T_goto (pc' := 193) dX2_takeStatement_189 (by decide) ?_
                        exact T_wk (L' := [(3, 0), (3, 0), (3, 0), (3, 0)]) (by have q := HJ45; try simp only [if_neg c46] at q ⊢; exact q) ⟨Or.inl rfl, Or.inl rfl, Or.inl rfl, Or.inl rfl, trivial⟩
                  · skip
                    replace H := H.2 c37
                    by_cases c47 : a2 = 3
                    · skip
                      replace H := H.1 c47
                      refine T_tableIn (pc' := 147) dX2_takeStatement_84 (by omega) (by omega) (by rw [c47]; rfl) (by decide) ?_
                      refine T_aload_n (i := 0) (pc' := 148) dX2_takeStatement_147 rfl rfl rfl ?_
                      refine T_aload_n (i := 1) (pc' := 149) dX2_takeStatement_148 rfl rfl rfl ?_
                      refine T_callV (av := [(2, g)]) (st := []) (d2 := 9) (nc2 := 0) (ns2 := 0) (pc' := 152) dX2_takeStatement_149 rfl mtX2_takePerson mvX2_takePerson mlX2_72 cl2 rfl rfl rfl (Nat.le_of_ble_eq_true rfl) (by decide) ⟨by decide, by decide⟩ rfl (pX2_takePerson (E := E) (h := h) (M := M15) (g := g) hg H hG16) ?_
                      rintro _ _ M49 ⟨rfl, hG50, a48, rfl, H⟩ _
                      refine T_istore_n (i := 3) (L' := [(2, 4), (2, g), (0, a2), (0, a48)]) (pc' := 153) dX2_takeStatement_152 rfl (by decide) rfl rfl ?_
                      refine T_goto (pc' := 172) dX2_takeStatement_153 (by decide) ?_
                      refine T_iload_n (i := 3) (pc' := 173) dX2_takeStatement_172 rfl rfl rfl ?_
                      refine T_if_eq (pc' := 192) dX2_takeStatement_173 (by decide) (pf := 176) rfl (fun c51 => ?_) (fun c51 => ?_)
                      · skip
                        replace H := H.1 c51
                        refine T_iconst (pc' := 193) dX2_takeStatement_192 (by decide) rfl ?_
                        exact T_zret dX2_takeStatement_193 rfl (by decide) ⟨rfl, hG50, _, rfl, H⟩
                      · skip
                        replace H := H.2 c51
                        refine T_aload_n (i := 0) (pc' := 177) dX2_takeStatement_176 rfl rfl rfl ?_
                        refine U_gr (q := 3) (k := 0) (kI := 0) (pc' := 180) dX2_takeStatement_177 rfl cl2 (by decide) rfl (by decide) flX2_9 rfl rfl rfl (G_at hG50 11 rfl) (by decide) rfl ?_
                        refine T_bipush (pc' := 182) dX2_takeStatement_180 rfl (by decide) rfl ?_
                        refine T_callV (av := [(0, 59)]) (st := []) (d2 := 3) (nc2 := 0) (ns2 := 0) (pc' := 185) dX2_takeStatement_182 rfl mtX9_takeSign mvX9_takeSign mlX2_81 cl9 rfl rfl rfl (Nat.le_of_ble_eq_true rfl) (by decide) ⟨by decide, by decide⟩ rfl (pX9_takeSign (E := E) (h := h) (M := M49) (v1 := 59) H hG50) ?_
                        rintro _ _ M53 ⟨rfl, hG54, a52, rfl, H⟩ _
                        have HJ55 : T E miX2_takeStatement 10 126 0 0 (fun r S M' => S = S0 ∧ G h M' ∧ RI 0 Q r M') 193 [(3, 0), (3, 0), (3, 0), (3, 0)] [(0, (if a52 = 0 then (0 : Int) else 1))] S0 M53 0 0 := by
                          obtain ⟨z1, H⟩ := H
                          exact T_zret dX2_takeStatement_193 rfl z1 ⟨rfl, hG54, _, rfl, H⟩
                        refine T_if_eq (pc' := 192) dX2_takeStatement_185 (by decide) (pf := 188) rfl (fun c56 => ?_) (fun c56 => ?_)
                        · skip
                          refine T_iconst (pc' := 193) dX2_takeStatement_192 (by decide) rfl ?_
                          exact T_wk (L' := [(3, 0), (3, 0), (3, 0), (3, 0)]) (by have q := HJ55; try simp only [if_pos c56] at q ⊢; exact q) ⟨Or.inl rfl, Or.inl rfl, Or.inl rfl, Or.inl rfl, trivial⟩
                        · skip
                          refine T_iconst (pc' := 189) dX2_takeStatement_188 (by decide) rfl ?_
                          refine T_goto (pc' := 193) dX2_takeStatement_189 (by decide) ?_
                          exact T_wk (L' := [(3, 0), (3, 0), (3, 0), (3, 0)]) (by have q := HJ55; try simp only [if_neg c56] at q ⊢; exact q) ⟨Or.inl rfl, Or.inl rfl, Or.inl rfl, Or.inl rfl, trivial⟩
                    · skip
                      replace H := H.2 c47
                      by_cases c57 : a2 = 4
                      · skip
                        replace H := H.1 c57
                        refine T_tableIn (pc' := 156) dX2_takeStatement_84 (by omega) (by omega) (by rw [c57]; rfl) (by decide) ?_
                        refine T_aload_n (i := 0) (pc' := 157) dX2_takeStatement_156 rfl rfl rfl ?_
                        refine T_aload_n (i := 1) (pc' := 158) dX2_takeStatement_157 rfl rfl rfl ?_
                        refine T_callV (av := [(2, g)]) (st := []) (d2 := 9) (nc2 := 0) (ns2 := 0) (pc' := 161) dX2_takeStatement_158 rfl mtX2_takeGuard mvX2_takeGuard mlX2_75 cl2 rfl rfl rfl (Nat.le_of_ble_eq_true rfl) (by decide) ⟨by decide, by decide⟩ rfl (pX2_takeGuard (E := E) (h := h) (M := M15) (g := g) hg H hG16) ?_
                        rintro _ _ M59 ⟨rfl, hG60, a58, rfl, H⟩ _
                        refine T_istore_n (i := 3) (L' := [(2, 4), (2, g), (0, a2), (0, a58)]) (pc' := 162) dX2_takeStatement_161 rfl (by decide) rfl rfl ?_
                        refine T_goto (pc' := 172) dX2_takeStatement_162 (by decide) ?_
                        refine T_iload_n (i := 3) (pc' := 173) dX2_takeStatement_172 rfl rfl rfl ?_
                        refine T_if_eq (pc' := 192) dX2_takeStatement_173 (by decide) (pf := 176) rfl (fun c61 => ?_) (fun c61 => ?_)
                        · skip
                          replace H := H.1 c61
                          refine T_iconst (pc' := 193) dX2_takeStatement_192 (by decide) rfl ?_
                          exact T_zret dX2_takeStatement_193 rfl (by decide) ⟨rfl, hG60, _, rfl, H⟩
                        · skip
                          replace H := H.2 c61
                          refine T_aload_n (i := 0) (pc' := 177) dX2_takeStatement_176 rfl rfl rfl ?_
                          refine U_gr (q := 3) (k := 0) (kI := 0) (pc' := 180) dX2_takeStatement_177 rfl cl2 (by decide) rfl (by decide) flX2_9 rfl rfl rfl (G_at hG60 11 rfl) (by decide) rfl ?_
                          refine T_bipush (pc' := 182) dX2_takeStatement_180 rfl (by decide) rfl ?_
                          refine T_callV (av := [(0, 59)]) (st := []) (d2 := 3) (nc2 := 0) (ns2 := 0) (pc' := 185) dX2_takeStatement_182 rfl mtX9_takeSign mvX9_takeSign mlX2_81 cl9 rfl rfl rfl (Nat.le_of_ble_eq_true rfl) (by decide) ⟨by decide, by decide⟩ rfl (pX9_takeSign (E := E) (h := h) (M := M59) (v1 := 59) H hG60) ?_
                          rintro _ _ M63 ⟨rfl, hG64, a62, rfl, H⟩ _
                          have HJ65 : T E miX2_takeStatement 10 126 0 0 (fun r S M' => S = S0 ∧ G h M' ∧ RI 0 Q r M') 193 [(3, 0), (3, 0), (3, 0), (3, 0)] [(0, (if a62 = 0 then (0 : Int) else 1))] S0 M63 0 0 := by
                            obtain ⟨z1, H⟩ := H
                            exact T_zret dX2_takeStatement_193 rfl z1 ⟨rfl, hG64, _, rfl, H⟩
                          refine T_if_eq (pc' := 192) dX2_takeStatement_185 (by decide) (pf := 188) rfl (fun c66 => ?_) (fun c66 => ?_)
                          · skip
                            refine T_iconst (pc' := 193) dX2_takeStatement_192 (by decide) rfl ?_
                            exact T_wk (L' := [(3, 0), (3, 0), (3, 0), (3, 0)]) (by have q := HJ65; try simp only [if_pos c66] at q ⊢; exact q) ⟨Or.inl rfl, Or.inl rfl, Or.inl rfl, Or.inl rfl, trivial⟩
                          · skip
                            refine T_iconst (pc' := 189) dX2_takeStatement_188 (by decide) rfl ?_
                            refine T_goto (pc' := 193) dX2_takeStatement_189 (by decide) ?_
                            exact T_wk (L' := [(3, 0), (3, 0), (3, 0), (3, 0)]) (by have q := HJ65; try simp only [if_neg c66] at q ⊢; exact q) ⟨Or.inl rfl, Or.inl rfl, Or.inl rfl, Or.inl rfl, trivial⟩
                      · skip
                        replace H := H.2 c57
                        refine T_tableOut (pc' := 165) dX2_takeStatement_84 (by omega) (by decide) ?_
                        refine T_aload_n (i := 0) (pc' := 166) dX2_takeStatement_165 rfl rfl rfl ?_
                        refine T_aload_n (i := 1) (pc' := 167) dX2_takeStatement_166 rfl rfl rfl ?_
                        refine T_iload_n (i := 2) (pc' := 168) dX2_takeStatement_167 rfl rfl rfl ?_
                        refine T_callV (av := [(2, g), (0, a2)]) (st := []) (d2 := 4) (nc2 := 0) (ns2 := 0) (pc' := 171) dX2_takeStatement_168 rfl mtX2_takeRule mvX2_takeRule mlX2_78 cl2 rfl rfl rfl (Nat.le_of_ble_eq_true rfl) (by decide) ⟨by decide, by decide⟩ rfl (pX2_takeRule (E := E) (h := h) (M := M15) (g := g) (v2 := a2) hg H hG16) ?_
                        rintro _ _ M68 ⟨rfl, hG69, a67, rfl, H⟩ _
                        refine T_istore_n (i := 3) (L' := [(2, 4), (2, g), (0, a2), (0, a67)]) (pc' := 172) dX2_takeStatement_171 rfl (by decide) rfl rfl ?_
                        refine T_iload_n (i := 3) (pc' := 173) dX2_takeStatement_172 rfl rfl rfl ?_
                        refine T_if_eq (pc' := 192) dX2_takeStatement_173 (by decide) (pf := 176) rfl (fun c70 => ?_) (fun c70 => ?_)
                        · skip
                          replace H := H.1 c70
                          refine T_iconst (pc' := 193) dX2_takeStatement_192 (by decide) rfl ?_
                          exact T_zret dX2_takeStatement_193 rfl (by decide) ⟨rfl, hG69, _, rfl, H⟩
                        · skip
                          replace H := H.2 c70
                          refine T_aload_n (i := 0) (pc' := 177) dX2_takeStatement_176 rfl rfl rfl ?_
                          refine U_gr (q := 3) (k := 0) (kI := 0) (pc' := 180) dX2_takeStatement_177 rfl cl2 (by decide) rfl (by decide) flX2_9 rfl rfl rfl (G_at hG69 11 rfl) (by decide) rfl ?_
                          refine T_bipush (pc' := 182) dX2_takeStatement_180 rfl (by decide) rfl ?_
                          refine T_callV (av := [(0, 59)]) (st := []) (d2 := 3) (nc2 := 0) (ns2 := 0) (pc' := 185) dX2_takeStatement_182 rfl mtX9_takeSign mvX9_takeSign mlX2_81 cl9 rfl rfl rfl (Nat.le_of_ble_eq_true rfl) (by decide) ⟨by decide, by decide⟩ rfl (pX9_takeSign (E := E) (h := h) (M := M68) (v1 := 59) H hG69) ?_
                          rintro _ _ M72 ⟨rfl, hG73, a71, rfl, H⟩ _
                          have HJ74 : T E miX2_takeStatement 10 126 0 0 (fun r S M' => S = S0 ∧ G h M' ∧ RI 0 Q r M') 193 [(3, 0), (3, 0), (3, 0), (3, 0)] [(0, (if a71 = 0 then (0 : Int) else 1))] S0 M72 0 0 := by
                            obtain ⟨z1, H⟩ := H
                            exact T_zret dX2_takeStatement_193 rfl z1 ⟨rfl, hG73, _, rfl, H⟩
                          refine T_if_eq (pc' := 192) dX2_takeStatement_185 (by decide) (pf := 188) rfl (fun c75 => ?_) (fun c75 => ?_)
                          · skip
                            refine T_iconst (pc' := 193) dX2_takeStatement_192 (by decide) rfl ?_
                            exact T_wk (L' := [(3, 0), (3, 0), (3, 0), (3, 0)]) (by have q := HJ74; try simp only [if_pos c75] at q ⊢; exact q) ⟨Or.inl rfl, Or.inl rfl, Or.inl rfl, Or.inl rfl, trivial⟩
                          · skip
                            refine T_iconst (pc' := 189) dX2_takeStatement_188 (by decide) rfl ?_
                            refine T_goto (pc' := 193) dX2_takeStatement_189 (by decide) ?_
                            exact T_wk (L' := [(3, 0), (3, 0), (3, 0), (3, 0)]) (by have q := HJ74; try simp only [if_neg c75] at q ⊢; exact q) ⟨Or.inl rfl, Or.inl rfl, Or.inl rfl, Or.inl rfl, trivial⟩
            · skip
              replace H := H.2 c13
              refine T_aload_n (i := 0) (pc' := 61) dX2_takeStatement_60 rfl rfl rfl ?_
              refine U_gr (q := 3) (k := 0) (kI := 0) (pc' := 64) dX2_takeStatement_61 rfl cl2 (by decide) rfl (by decide) flX2_9 rfl rfl rfl (G_at hG 11 rfl) (by decide) rfl ?_
              refine T_iconst (pc' := 65) dX2_takeStatement_64 (by decide) rfl ?_
              refine T_aload_n (i := 0) (pc' := 66) dX2_takeStatement_65 rfl rfl rfl ?_
              refine U_gr (q := 3) (k := 0) (kI := 0) (pc' := 69) dX2_takeStatement_66 rfl cl2 (by decide) rfl (by decide) flX2_9 rfl rfl rfl (G_at hG 11 rfl) (by decide) rfl ?_
              refine U_gfN (v := (0, (M 3 2))) (k := 2) (kI := 2) (pc' := 72) dX2_takeStatement_69 rfl cl9 (by decide) rfl (by decide) flX2_36 rfl rfl (by decide) rfl rfl ?_
              refine T_callV (av := [(0, 5), (0, (M 3 2))]) (st := []) (d2 := 1) (nc2 := 0) (ns2 := 0) (pc' := 75) dX2_takeStatement_72 rfl mtX9_fail mvX9_fail mlX2_39 cl9 rfl rfl rfl (Nat.le_of_ble_eq_true rfl) (by decide) ⟨by decide, by decide⟩ rfl (pX9_fail (E := E) (h := h) (M := M) (v1 := 5) (v2 := (M 3 2)) hG) (kF (st2 := [(0, fX9_fail)]) rfl (fun hG76 => ?_))
              obtain ⟨M77, eM77⟩ : ∃ m : Mem, m = (fmX9_fail M 5 (M 3 2)) := ⟨_, rfl⟩
              rw [← eM77] at hG76 ⊢
              replace H := H M77 eM77
              obtain ⟨z1, H⟩ := H
              exact T_zret dX2_takeStatement_75 rfl z1 ⟨rfl, hG76, _, rfl, H⟩
          · skip
            replace H := H.2 c11
            refine T_aload_n (i := 0) (pc' := 45) dX2_takeStatement_44 rfl rfl rfl ?_
            refine U_gr (q := 3) (k := 0) (kI := 0) (pc' := 48) dX2_takeStatement_45 rfl cl2 (by decide) rfl (by decide) flX2_9 rfl rfl rfl (G_at hG 11 rfl) (by decide) rfl ?_
            refine T_callV (av := []) (st := []) (d2 := 2) (nc2 := 0) (ns2 := 0) (pc' := 51) dX2_takeStatement_48 rfl mtX9_unasked mvX9_unasked mlX2_43 cl9 rfl rfl rfl (Nat.le_of_ble_eq_true rfl) (by decide) ⟨by decide, by decide⟩ rfl (pX9_unasked (E := E) (h := h) (M := M) hG) (kF (st2 := [(0, fX9_unasked)]) rfl (fun hG78 => ?_))
            obtain ⟨M79, eM79⟩ : ∃ m : Mem, m = (fmX9_unasked M) := ⟨_, rfl⟩
            rw [← eM79] at hG78 ⊢
            replace H := H M79 eM79
            obtain ⟨z1, H⟩ := H
            exact T_zret dX2_takeStatement_51 rfl z1 ⟨rfl, hG78, _, rfl, H⟩
        refine T_if_ne (pc' := 40) dX2_takeStatement_33 (by decide) (pf := 36) rfl (fun c80 => ?_) (fun c80 => ?_)
        · skip
          refine T_iconst (pc' := 41) dX2_takeStatement_40 (by decide) rfl ?_
          exact T_wk (L' := [(2, 4), (2, g), (0, a2), (3, 0)]) (by have q := HJ10; try simp only [if_neg c80] at q ⊢; exact q) ⟨Or.inr rfl, Or.inr rfl, Or.inr rfl, Or.inl rfl, trivial⟩
        · skip
          refine T_iconst (pc' := 37) dX2_takeStatement_36 (by decide) rfl ?_
          refine T_goto (pc' := 41) dX2_takeStatement_37 (by decide) ?_
          exact T_wk (L' := [(2, 4), (2, g), (0, a2), (3, 0)]) (by have q := HJ10; try simp only [if_pos c80] at q ⊢; exact q) ⟨Or.inr rfl, Or.inr rfl, Or.inr rfl, Or.inl rfl, trivial⟩
      refine T_if_ne (pc' := 28) dX2_takeStatement_21 (by decide) (pf := 24) rfl (fun c81 => ?_) (fun c81 => ?_)
      · skip
        refine T_iconst (pc' := 29) dX2_takeStatement_28 (by decide) rfl ?_
        exact T_wk (L' := [(2, 4), (2, g), (0, a2), (3, 0)]) (by have q := HJ9; try simp only [if_neg c81] at q ⊢; exact q) ⟨Or.inr rfl, Or.inr rfl, Or.inr rfl, Or.inl rfl, trivial⟩
      · skip
        refine T_iconst (pc' := 25) dX2_takeStatement_24 (by decide) rfl ?_
        refine T_goto (pc' := 29) dX2_takeStatement_25 (by decide) ?_
        exact T_wk (L' := [(2, 4), (2, g), (0, a2), (3, 0)]) (by have q := HJ9; try simp only [if_pos c81] at q ⊢; exact q) ⟨Or.inr rfl, Or.inr rfl, Or.inr rfl, Or.inl rfl, trivial⟩
def PX9_begin  (M : Mem) (Q : Int → Mem → Prop) : Prop :=
  (∀ M2 : Mem, M2 = (mset M 3 4 0) → (∀ M4 : Mem, M4 = (mset M2 3 5 (-1)) → (∀ M6 : Mem, M6 = (mset M4 3 1 3) → (∀ M8 : Mem, M8 = (mset M6 3 3 0) → PX9_next M8 (fun _ M10 => Q 0 M10)))))
set_option maxRecDepth 100000 in
set_option maxHeartbeats 2000000 in
theorem pX9_begin {E : EV} {h : Int} {M : Mem}   {Q : Int → Mem → Prop} (H : PX9_begin  M Q) : C2 E miX9_begin 3 h [(2, 3)] M (RV Q) := by
  refine C2_of (L := [(2, 3)]) (by decide +kernel) (Nat.le_of_ble_eq_true rfl) rfl (fun hG => ?_)
  refine T_aload_n (i := 0) (pc' := 1) dX9_begin_0 rfl rfl rfl ?_
  refine T_iconst (pc' := 2) dX9_begin_1 (by decide) rfl ?_
  refine U_pf (y := 0) (k := 4) (kI := 4) (pc' := 5) dX9_begin_2 rfl cl9 (by decide) rfl (by decide) flX9_25 rfl rfl rfl rfl rfl (by decide) (fun z => z) rfl ?_
  have hG1 := (G_fld (x := 3) (i := 4) (y := 0) rfl (by decide) (by decide) (by decide) hG)
  obtain ⟨M2, eM2⟩ : ∃ m : Mem, m = (mset M 3 4 0) := ⟨_, rfl⟩
  rw [← eM2] at hG1 ⊢
  replace H := H M2 eM2
  refine T_aload_n (i := 0) (pc' := 6) dX9_begin_5 rfl rfl rfl ?_
  refine T_iconst (pc' := 7) dX9_begin_6 (by decide) rfl ?_
  refine U_pf (y := (-1)) (k := 5) (kI := 5) (pc' := 10) dX9_begin_7 rfl cl9 (by decide) rfl (by decide) flX9_28 rfl rfl rfl rfl rfl (by decide) (fun z => z) rfl ?_
  have hG3 := (G_fld (x := 3) (i := 5) (y := (-1)) rfl (by decide) (by decide) (by decide) hG1)
  obtain ⟨M4, eM4⟩ : ∃ m : Mem, m = (mset M2 3 5 (-1)) := ⟨_, rfl⟩
  rw [← eM4] at hG3 ⊢
  replace H := H M4 eM4
  refine T_aload_n (i := 0) (pc' := 11) dX9_begin_10 rfl rfl rfl ?_
  refine T_iconst (pc' := 12) dX9_begin_11 (by decide) rfl ?_
  refine U_pf (y := 3) (k := 1) (kI := 1) (pc' := 15) dX9_begin_12 rfl cl9 (by decide) rfl (by decide) flX9_15 rfl rfl rfl rfl rfl (by decide) (fun z => z) rfl ?_
  have hG5 := (G_fld (x := 3) (i := 1) (y := 3) rfl (by decide) (by decide) (by decide) hG3)
  obtain ⟨M6, eM6⟩ : ∃ m : Mem, m = (mset M4 3 1 3) := ⟨_, rfl⟩
  rw [← eM6] at hG5 ⊢
  replace H := H M6 eM6
  refine T_aload_n (i := 0) (pc' := 16) dX9_begin_15 rfl rfl rfl ?_
  refine T_iconst (pc' := 17) dX9_begin_16 (by decide) rfl ?_
  refine U_pf (y := 0) (k := 3) (kI := 3) (pc' := 20) dX9_begin_17 rfl cl9 (by decide) rfl (by decide) flX9_22 rfl rfl rfl rfl rfl (by decide) (fun z => z) rfl ?_
  have hG7 := (G_fld (x := 3) (i := 3) (y := 0) rfl (by decide) (by decide) (by decide) hG5)
  obtain ⟨M8, eM8⟩ : ∃ m : Mem, m = (mset M6 3 3 0) := ⟨_, rfl⟩
  rw [← eM8] at hG7 ⊢
  replace H := H M8 eM8
  refine T_aload_n (i := 0) (pc' := 21) dX9_begin_20 rfl rfl rfl ?_
  refine T_callV (av := []) (st := []) (d2 := 2) (nc2 := 0) (ns2 := 0) (pc' := 24) dX9_begin_21 rfl mtX9_next mvX9_next mlX9_31 cl9 rfl rfl rfl (Nat.le_of_ble_eq_true rfl) (by decide) ⟨by decide, by decide⟩ rfl (pX9_next (E := E) (h := h) (M := M8) H hG7) ?_
  rintro _ _ M10 ⟨rfl, hG11, rfl, H⟩ _
  exact T_vret dX9_begin_24 rfl ⟨rfl, hG11, rfl, H⟩
def PX2_read_16 (g : Int) (K : Mem → Prop) (Q : Int → Mem → Prop) : Nat → Mem → Prop
  | 0 => fun _ => False
  | k + 1 => fun M => ((70 ≤ (M 4 1) → K M) ∧ (¬ (70 ≤ (M 4 1)) → (((M 3 1) = 0 → K M) ∧ (¬ ((M 3 1) = 0) → PX2_takeStatement g M (fun a3 M4 => ((a3 = 0 → Q 0 M4) ∧ (¬ (a3 = 0) → (∀ M8 : Mem, M8 = (mset M4 4 1 (wr32 ((M4 4 1) + 1))) → PX2_read_16 g K Q k M8))))))))
def PX2_read (g : Int) (M : Mem) (Q : Int → Mem → Prop) : Prop :=
  (∀ M2 : Mem, M2 = (fmX1_clear M g) → (∀ M4 : Mem, M4 = (mset M2 4 1 0) → PX9_begin M4 (fun _ M6 => (∃ k8 : Nat, PX2_read_16 g (fun M9 => (((M9 3 1) = 0 → (((M9 4 1) = 0 → (∀ M16 : Mem, M16 = (fmX9_unasked M9) → ((fX9_unasked : Int) = 0 ∨ (fX9_unasked : Int) = 1) ∧ Q fX9_unasked M16)) ∧ (¬ ((M9 4 1) = 0) → (∀ M14 : Mem, M14 = (fmX1_findNearCells M9 g) → Q 1 M14)))) ∧ (¬ ((M9 3 1) = 0) → (∀ M18 : Mem, M18 = (fmX9_fail M9 5 (M9 3 2)) → ((fX9_fail : Int) = 0 ∨ (fX9_fail : Int) = 1) ∧ Q fX9_fail M18)))) Q k8 M6))))
set_option maxRecDepth 100000 in
set_option maxHeartbeats 2000000 in
theorem qX2_read_16 {E : EV} {h : Int} {g : Int} (hg : isG g) {K : Mem → Prop} {Q : Int → Mem → Prop} (hK : ∀ (M : Mem), K M → G h M → TG E miX2_read 11 h (RI 0 Q) 58 [(2, 4), (2, g)] [] M) : ∀ (k : Nat) (M : Mem), PX2_read_16 g K Q k M → G h M → TG E miX2_read 11 h (RI 0 Q) 16 [(2, 4), (2, g)] [] M := by
  intro k
  induction k with
  | zero =>
    intro M H
    exact False.elim H
  | succ k ih =>
    intro M H hG
    refine T_aload_n (i := 0) (pc' := 17) dX2_read_16 rfl rfl rfl ?_
    refine U_gf (v := (0, (M 4 1))) (k := 1) (kI := 1) (pc' := 20) dX2_read_17 rfl cl2 (by decide) rfl (by decide) flX2_15 rfl rfl (by decide) rfl rfl ?_
    refine T_bipush (pc' := 22) dX2_read_20 rfl (by decide) rfl ?_
    refine T_icmp_ge (pc' := 58) dX2_read_22 (by decide) (pf := 25) rfl (fun c1 => ?_) (fun c1 => ?_)
    · skip
      replace H := H.1 c1
      exact T_wk (L' := [(2, 4), (2, g)]) (hK _ H hG) ⟨Or.inr rfl, Or.inr rfl, trivial⟩
    · skip
      replace H := H.2 c1
      refine T_aload_n (i := 0) (pc' := 26) dX2_read_25 rfl rfl rfl ?_
      refine U_gr (q := 3) (k := 0) (kI := 0) (pc' := 29) dX2_read_26 rfl cl2 (by decide) rfl (by decide) flX2_9 rfl rfl rfl (G_at hG 11 rfl) (by decide) rfl ?_
      refine U_gfN (v := (0, (M 3 1))) (k := 1) (kI := 1) (pc' := 32) dX2_read_29 rfl cl9 (by decide) rfl (by decide) flX2_29 rfl rfl (by decide) rfl rfl ?_
      refine T_if_eq (pc' := 58) dX2_read_32 (by decide) (pf := 35) rfl (fun c2 => ?_) (fun c2 => ?_)
      · skip
        replace H := H.1 c2
        exact T_wk (L' := [(2, 4), (2, g)]) (hK _ H hG) ⟨Or.inr rfl, Or.inr rfl, trivial⟩
      · skip
        replace H := H.2 c2
        refine T_aload_n (i := 0) (pc' := 36) dX2_read_35 rfl rfl rfl ?_
        refine T_aload_n (i := 1) (pc' := 37) dX2_read_36 rfl rfl rfl ?_
        refine T_callV (av := [(2, g)]) (st := []) (d2 := 10) (nc2 := 0) (ns2 := 0) (pc' := 40) dX2_read_37 rfl mtX2_takeStatement mvX2_takeStatement mlX2_32 cl2 rfl rfl rfl (Nat.le_of_ble_eq_true rfl) (by decide) ⟨by decide, by decide⟩ rfl (pX2_takeStatement (E := E) (h := h) (M := M) (g := g) hg H hG) ?_
        rintro _ _ M4 ⟨rfl, hG5, a3, rfl, H⟩ _
        refine T_if_ne (pc' := 45) dX2_read_40 (by decide) (pf := 43) rfl (fun c6 => ?_) (fun c6 => ?_)
        · skip
          replace H := H.2 c6
          refine T_aload_n (i := 0) (pc' := 46) dX2_read_45 rfl rfl rfl ?_
          refine T_dup (pc' := 47) dX2_read_46 (Nat.ne_of_beq_eq_false rfl) rfl ?_
          refine U_gf (v := (0, (M4 4 1))) (k := 1) (kI := 1) (pc' := 50) dX2_read_47 rfl cl2 (by decide) rfl (by decide) flX2_15 rfl rfl (by decide) rfl rfl ?_
          refine T_iconst (pc' := 51) dX2_read_50 (by decide) rfl ?_
          refine T_iadd (pc' := 52) dX2_read_51 rfl ?_
          refine U_pf (y := (wr32 ((M4 4 1) + 1))) (k := 1) (kI := 1) (pc' := 55) dX2_read_52 rfl cl2 (by decide) rfl (by decide) flX2_15 rfl rfl rfl rfl rfl (by decide) (fun z => z) rfl ?_
          have hG7 := (G_fld (x := 4) (i := 1) (y := (wr32 ((M4 4 1) + 1))) rfl (by decide) (by decide) (by decide) hG5)
          obtain ⟨M8, eM8⟩ : ∃ m : Mem, m = (mset M4 4 1 (wr32 ((M4 4 1) + 1))) := ⟨_, rfl⟩
          rw [← eM8] at hG7 ⊢
          replace H := H M8 eM8
          refine T_goto (pc' := 16) dX2_read_55 (by decide) ?_
          exact T_wk (L' := [(2, 4), (2, g)]) (ih _ H hG7) ⟨Or.inr rfl, Or.inr rfl, trivial⟩
        · skip
          replace H := H.1 c6
          refine T_iconst (pc' := 44) dX2_read_43 (by decide) rfl ?_
          exact T_zret dX2_read_44 rfl (by decide) ⟨rfl, hG5, _, rfl, H⟩
set_option maxRecDepth 100000 in
set_option maxHeartbeats 2000000 in
theorem pX2_read {E : EV} {h : Int} {M : Mem} {g : Int} (hg : isG g) {Q : Int → Mem → Prop} (H : PX2_read g M Q) : C2 E miX2_read 11 h [(2, 4), (2, g)] M (RI 0 Q) := by
  refine C2_of (L := [(2, 4), (2, g)]) (by decide +kernel) (Nat.le_of_ble_eq_true rfl) rfl (fun hG => ?_)
  refine T_aload_n (i := 1) (pc' := 1) dX2_read_0 rfl rfl rfl ?_
  refine T_callV (av := []) (st := []) (d2 := 2) (nc2 := 0) (ns2 := 0) (pc' := 4) dX2_read_1 rfl mtX1_clear mvX1_clear mlX2_19 cl1 (shg0 hg) rfl rfl (Nat.le_of_ble_eq_true rfl) (by decide) ⟨by decide, by decide⟩ rfl (pX1_clear (E := E) (h := h) (M := M) (g := g) hg hG) (kF (st2 := []) rfl (fun hG1 => ?_))
  obtain ⟨M2, eM2⟩ : ∃ m : Mem, m = (fmX1_clear M g) := ⟨_, rfl⟩
  rw [← eM2] at hG1 ⊢
  replace H := H M2 eM2
  refine T_aload_n (i := 0) (pc' := 5) dX2_read_4 rfl rfl rfl ?_
  refine T_iconst (pc' := 6) dX2_read_5 (by decide) rfl ?_
  refine U_pf (y := 0) (k := 1) (kI := 1) (pc' := 9) dX2_read_6 rfl cl2 (by decide) rfl (by decide) flX2_15 rfl rfl rfl rfl rfl (by decide) (fun z => z) rfl ?_
  have hG3 := (G_fld (x := 4) (i := 1) (y := 0) rfl (by decide) (by decide) (by decide) hG1)
  obtain ⟨M4, eM4⟩ : ∃ m : Mem, m = (mset M2 4 1 0) := ⟨_, rfl⟩
  rw [← eM4] at hG3 ⊢
  replace H := H M4 eM4
  refine T_aload_n (i := 0) (pc' := 10) dX2_read_9 rfl rfl rfl ?_
  refine U_gr (q := 3) (k := 0) (kI := 0) (pc' := 13) dX2_read_10 rfl cl2 (by decide) rfl (by decide) flX2_9 rfl rfl rfl (G_at hG3 11 rfl) (by decide) rfl ?_
  refine T_callV (av := []) (st := []) (d2 := 3) (nc2 := 0) (ns2 := 0) (pc' := 16) dX2_read_13 rfl mtX9_begin mvX9_begin mlX2_24 cl9 rfl rfl rfl (Nat.le_of_ble_eq_true rfl) (by decide) ⟨by decide, by decide⟩ rfl (pX9_begin (E := E) (h := h) (M := M4) H hG3) ?_
  rintro _ _ M6 ⟨rfl, hG7, rfl, H⟩ _
  obtain ⟨k8, H⟩ := H
  refine T_wk (L' := [(2, 4), (2, g)]) (qX2_read_16 hg (fun M9 H hG10 => ?_) _ _ H hG7) ⟨Or.inr rfl, Or.inr rfl, trivial⟩
  refine T_aload_n (i := 0) (pc' := 59) dX2_read_58 rfl rfl rfl ?_
  refine U_gr (q := 3) (k := 0) (kI := 0) (pc' := 62) dX2_read_59 rfl cl2 (by decide) rfl (by decide) flX2_9 rfl rfl rfl (G_at hG10 11 rfl) (by decide) rfl ?_
  refine U_gfN (v := (0, (M9 3 1))) (k := 1) (kI := 1) (pc' := 65) dX2_read_62 rfl cl9 (by decide) rfl (by decide) flX2_29 rfl rfl (by decide) rfl rfl ?_
  refine T_if_eq (pc' := 84) dX2_read_65 (by decide) (pf := 68) rfl (fun c11 => ?_) (fun c11 => ?_)
  · skip
    replace H := H.1 c11
    refine T_aload_n (i := 0) (pc' := 85) dX2_read_84 rfl rfl rfl ?_
    refine U_gf (v := (0, (M9 4 1))) (k := 1) (kI := 1) (pc' := 88) dX2_read_85 rfl cl2 (by decide) rfl (by decide) flX2_15 rfl rfl (by decide) rfl rfl ?_
    refine T_if_ne (pc' := 99) dX2_read_88 (by decide) (pf := 91) rfl (fun c12 => ?_) (fun c12 => ?_)
    · skip
      replace H := H.2 c12
      refine T_aload_n (i := 1) (pc' := 100) dX2_read_99 rfl rfl rfl ?_
      refine T_callV (av := []) (st := []) (d2 := 4) (nc2 := 0) (ns2 := 0) (pc' := 103) dX2_read_100 rfl mtX1_findNearCells mvX1_findNearCells mlX2_47 cl1 (shg0 hg) rfl rfl (Nat.le_of_ble_eq_true rfl) (by decide) ⟨by decide, by decide⟩ rfl (pX1_findNearCells (E := E) (h := h) (M := M9) (g := g) hg hG10) (kF (st2 := []) rfl (fun hG13 => ?_))
      obtain ⟨M14, eM14⟩ : ∃ m : Mem, m = (fmX1_findNearCells M9 g) := ⟨_, rfl⟩
      rw [← eM14] at hG13 ⊢
      replace H := H M14 eM14
      refine T_iconst (pc' := 104) dX2_read_103 (by decide) rfl ?_
      exact T_zret dX2_read_104 rfl (by decide) ⟨rfl, hG13, _, rfl, H⟩
    · skip
      replace H := H.1 c12
      refine T_aload_n (i := 0) (pc' := 92) dX2_read_91 rfl rfl rfl ?_
      refine U_gr (q := 3) (k := 0) (kI := 0) (pc' := 95) dX2_read_92 rfl cl2 (by decide) rfl (by decide) flX2_9 rfl rfl rfl (G_at hG10 11 rfl) (by decide) rfl ?_
      refine T_callV (av := []) (st := []) (d2 := 2) (nc2 := 0) (ns2 := 0) (pc' := 98) dX2_read_95 rfl mtX9_unasked mvX9_unasked mlX2_43 cl9 rfl rfl rfl (Nat.le_of_ble_eq_true rfl) (by decide) ⟨by decide, by decide⟩ rfl (pX9_unasked (E := E) (h := h) (M := M9) hG10) (kF (st2 := [(0, fX9_unasked)]) rfl (fun hG15 => ?_))
      obtain ⟨M16, eM16⟩ : ∃ m : Mem, m = (fmX9_unasked M9) := ⟨_, rfl⟩
      rw [← eM16] at hG15 ⊢
      replace H := H M16 eM16
      obtain ⟨z1, H⟩ := H
      exact T_zret dX2_read_98 rfl z1 ⟨rfl, hG15, _, rfl, H⟩
  · skip
    replace H := H.2 c11
    refine T_aload_n (i := 0) (pc' := 69) dX2_read_68 rfl rfl rfl ?_
    refine U_gr (q := 3) (k := 0) (kI := 0) (pc' := 72) dX2_read_69 rfl cl2 (by decide) rfl (by decide) flX2_9 rfl rfl rfl (G_at hG10 11 rfl) (by decide) rfl ?_
    refine T_iconst (pc' := 73) dX2_read_72 (by decide) rfl ?_
    refine T_aload_n (i := 0) (pc' := 74) dX2_read_73 rfl rfl rfl ?_
    refine U_gr (q := 3) (k := 0) (kI := 0) (pc' := 77) dX2_read_74 rfl cl2 (by decide) rfl (by decide) flX2_9 rfl rfl rfl (G_at hG10 11 rfl) (by decide) rfl ?_
    refine U_gfN (v := (0, (M9 3 2))) (k := 2) (kI := 2) (pc' := 80) dX2_read_77 rfl cl9 (by decide) rfl (by decide) flX2_36 rfl rfl (by decide) rfl rfl ?_
    refine T_callV (av := [(0, 5), (0, (M9 3 2))]) (st := []) (d2 := 1) (nc2 := 0) (ns2 := 0) (pc' := 83) dX2_read_80 rfl mtX9_fail mvX9_fail mlX2_39 cl9 rfl rfl rfl (Nat.le_of_ble_eq_true rfl) (by decide) ⟨by decide, by decide⟩ rfl (pX9_fail (E := E) (h := h) (M := M9) (v1 := 5) (v2 := (M9 3 2)) hG10) (kF (st2 := [(0, fX9_fail)]) rfl (fun hG17 => ?_))
    obtain ⟨M18, eM18⟩ : ∃ m : Mem, m = (fmX9_fail M9 5 (M9 3 2)) := ⟨_, rfl⟩
    rw [← eM18] at hG17 ⊢
    replace H := H M18 eM18
    obtain ⟨z1, H⟩ := H
    exact T_zret dX2_read_83 rfl z1 ⟨rfl, hG17, _, rfl, H⟩
def PX3_findWays_4  (K : Mem → Prop) (Q : Int → Mem → Prop) : Nat → Int → Mem → Prop
  | 0 => fun _ _ => False
  | k + 1 => fun v3 M => ((54 ≤ v3 → K M) ∧ (¬ (54 ≤ v3) → (∀ M3 : Mem, M3 = (fmX11_put M 23 54 v3 (-1)) → PX3_findWays_4  K Q k (wr32 (v3 + 1)) M3)))
def PX3_findWays_27 (g : Int) (K : Int → Mem → Prop) (Q : Int → Mem → Prop) : Nat → Int → Int → Mem → Prop
  | 0 => fun _ _ _ => False
  | k + 1 => fun v2 v3 M => (((M g 12) ≤ v3 → K v2 M) ∧ (¬ ((M g 12) ≤ v3) → (((fX11_get M (g + 11) 6 v3) = 0 → (∀ M6 : Mem, M6 = (fmX11_put M 23 54 (fX11_get M (g + 10) 6 v3) 0) → (∀ M9 : Mem, M9 = (fmX11_put M6 24 54 v2 (fX11_get M6 (g + 10) 6 v3)) → PX3_findWays_27 g K Q k (wr32 (v2 + 1)) (wr32 (v3 + 1)) M9))) ∧ (¬ ((fX11_get M (g + 11) 6 v3) = 0) → PX3_findWays_27 g K Q k v2 (wr32 (v3 + 1)) M))))
def PX3_findWays_113 (g : Int) (v4 : Int) (K : Int → Mem → Prop) (Q : Int → Mem → Prop) : Nat → Int → Int → Mem → Prop
  | 0 => fun _ _ _ => False
  | k + 1 => fun v2 v5 M => ((3 < v5 → K v2 M) ∧ (¬ (3 < v5) → (∀ a3 : Int, a3 = (fX1_stepFrom M g v4 v5) → ((a3 = (-1) → PX3_findWays_113 g v4 K Q k v2 (wr32 (v5 + 1)) M) ∧ (¬ (a3 = (-1)) → (((fX11_get M 23 54 a3) = (-1) → (∀ M9 : Mem, M9 = (fmX11_put M 23 54 a3 (wr32 ((fX11_get M 23 54 v4) + 1))) → (∀ M11 : Mem, M11 = (fmX11_put M9 24 54 v2 a3) → PX3_findWays_113 g v4 K Q k (wr32 (v2 + 1)) (wr32 (v5 + 1)) M11))) ∧ (¬ ((fX11_get M 23 54 a3) = (-1)) → PX3_findWays_113 g v4 K Q k v2 (wr32 (v5 + 1)) M)))))))
def PX3_findWays_89 (g : Int) (K : Mem → Prop) (Q : Int → Mem → Prop) : Nat → Int → Int → Mem → Prop
  | 0 => fun _ _ _ => False
  | k + 1 => fun v2 v3 M => ((v2 ≤ v3 → K M) ∧ (¬ (v2 ≤ v3) → ((54 ≤ v3 → K M) ∧ (¬ (54 ≤ v3) → (∃ k4 : Nat, PX3_findWays_113 g (fX11_get M 24 54 v3) (fun u5 M6 => PX3_findWays_89 g K Q k u5 (wr32 (v3 + 1)) M6) Q k4 v2 0 M)))))
def PX3_findWays (g : Int) (M : Mem) (Q : Int → Mem → Prop) : Prop :=
  (∃ k1 : Nat, PX3_findWays_4 (fun M2 => (∃ k4 : Nat, PX3_findWays_27 g (fun u5 M6 => (∃ k8 : Nat, PX3_findWays_89 g (fun M9 => Q 0 M9) Q k8 u5 0 M6)) Q k4 0 0 M2)) Q k1 0 M)
set_option maxRecDepth 100000 in
set_option maxHeartbeats 2000000 in
theorem qX3_findWays_4 {E : EV} {h : Int} {g : Int} (hg : isG g) {K : Mem → Prop} {Q : Int → Mem → Prop} (hK : ∀ (M : Mem), K M → G h M → TG E miX3_findWays 4 h (RV Q) 25 [(2, 16), (2, g), (0, 0), (3, 0), (3, 0), (3, 0), (3, 0)] [] M) : ∀ (k : Nat) (v3 : Int) (M : Mem), PX3_findWays_4  K Q k v3 M → G h M → TG E miX3_findWays 4 h (RV Q) 4 [(2, 16), (2, g), (0, 0), (0, v3), (3, 0), (3, 0), (3, 0)] [] M := by
  intro k
  induction k with
  | zero =>
    intro v3 M H
    exact False.elim H
  | succ k ih =>
    intro v3 M H hG
    refine T_iload_n (i := 3) (pc' := 5) dX3_findWays_4 rfl rfl rfl ?_
    refine T_bipush (pc' := 7) dX3_findWays_5 rfl (by decide) rfl ?_
    refine T_icmp_ge (pc' := 25) dX3_findWays_7 (by decide) (pf := 10) rfl (fun c1 => ?_) (fun c1 => ?_)
    · skip
      replace H := H.1 c1
      exact T_wk (L' := [(2, 16), (2, g), (0, 0), (3, 0), (3, 0), (3, 0), (3, 0)]) (hK _ H hG) ⟨Or.inr rfl, Or.inr rfl, Or.inr rfl, Or.inl rfl, Or.inl rfl, Or.inl rfl, Or.inl rfl, trivial⟩
    · skip
      replace H := H.2 c1
      refine T_aload_n (i := 0) (pc' := 11) dX3_findWays_10 rfl rfl rfl ?_
      refine U_gr (q := 23) (k := 6) (kI := 6) (pc' := 14) dX3_findWays_11 rfl cl3 (by decide) rfl (by decide) flX3_30 rfl rfl rfl (G_at hG 28 rfl) (by decide) rfl ?_
      refine T_iload_n (i := 3) (pc' := 15) dX3_findWays_14 rfl rfl rfl ?_
      refine T_iconst (pc' := 16) dX3_findWays_15 (by decide) rfl ?_
      refine T_callSN (av := [(2, 23), (0, v3), (0, (-1))]) (st := []) (d2 := 1) (nc2 := 0) (ns2 := 0) (pc' := 19) dX3_findWays_16 rfl mtX11_put mvX11_put mlX3_71 rfl rfl (Nat.le_of_ble_eq_true rfl) (by decide) ⟨by decide, by decide⟩ rfl (pX11_put (E := E) (h := h) (M := M) (p0 := 23) (np0 := 54) (v1 := v3) (v2 := (-1)) (by decide) rfl (by decide) hG) (kF (st2 := []) rfl (fun hG2 => ?_))
      obtain ⟨M3, eM3⟩ : ∃ m : Mem, m = (fmX11_put M 23 54 v3 (-1)) := ⟨_, rfl⟩
      rw [← eM3] at hG2 ⊢
      replace H := H M3 eM3
      refine T_iinc (L' := [(2, 16), (2, g), (0, 0), (0, (wr32 (v3 + 1))), (3, 0), (3, 0), (3, 0)]) (pc' := 22) dX3_findWays_19 rfl (by decide) rfl rfl ?_
      refine T_goto (pc' := 4) dX3_findWays_22 (by decide) ?_
      exact T_wk (L' := [(2, 16), (2, g), (0, 0), (0, (wr32 (v3 + 1))), (3, 0), (3, 0), (3, 0)]) (ih _ _ H hG2) ⟨Or.inr rfl, Or.inr rfl, Or.inr rfl, Or.inr rfl, Or.inl rfl, Or.inl rfl, Or.inl rfl, trivial⟩
set_option maxRecDepth 100000 in
set_option maxHeartbeats 2000000 in
theorem qX3_findWays_27 {E : EV} {h : Int} {g : Int} (hg : isG g) {K : Int → Mem → Prop} {Q : Int → Mem → Prop} (hK : ∀ (v2 : Int) (M : Mem), K v2 M → G h M → TG E miX3_findWays 4 h (RV Q) 87 [(2, 16), (2, g), (0, v2), (3, 0), (3, 0), (3, 0), (3, 0)] [] M) : ∀ (k : Nat) (v2 v3 : Int) (M : Mem), PX3_findWays_27 g K Q k v2 v3 M → G h M → TG E miX3_findWays 4 h (RV Q) 27 [(2, 16), (2, g), (0, v2), (0, v3), (3, 0), (3, 0), (3, 0)] [] M := by
  intro k
  induction k with
  | zero =>
    intro v2 v3 M H
    exact False.elim H
  | succ k ih =>
    intro v2 v3 M H hG
    refine T_iload_n (i := 3) (pc' := 28) dX3_findWays_27 rfl rfl rfl ?_
    refine T_aload_n (i := 1) (pc' := 29) dX3_findWays_28 rfl rfl rfl ?_
    refine U_gfN (v := (0, (M g 12))) (k := 12) (kI := 12) (pc' := 32) dX3_findWays_29 rfl cl1 (pog0 hg) (shg0 hg) (by decide) flX3_84 rfl rfl (by decide) rfl rfl ?_
    refine T_icmp_ge (pc' := 87) dX3_findWays_32 (by decide) (pf := 35) rfl (fun c1 => ?_) (fun c1 => ?_)
    · skip
      replace H := H.1 c1
      exact T_wk (L' := [(2, 16), (2, g), (0, v2), (3, 0), (3, 0), (3, 0), (3, 0)]) (hK _ _ H hG) ⟨Or.inr rfl, Or.inr rfl, Or.inr rfl, Or.inl rfl, Or.inl rfl, Or.inl rfl, Or.inl rfl, trivial⟩
    · skip
      replace H := H.2 c1
      refine T_aload_n (i := 1) (pc' := 36) dX3_findWays_35 rfl rfl rfl ?_
      refine U_grN (q := (g + 11)) (k := 3) (kI := 3) (pc' := 39) dX3_findWays_36 rfl cl1 (pog0 hg) (shg0 hg) (by decide) flX3_87 rfl rfl rfl (grg0_3 hg hG) (pog11 hg) rfl ?_
      refine T_iload_n (i := 3) (pc' := 40) dX3_findWays_39 rfl rfl rfl ?_
      refine T_callSN (av := [(2, (g + 11)), (0, v3)]) (st := []) (d2 := 1) (nc2 := 0) (ns2 := 0) (pc' := 43) dX3_findWays_40 rfl mtX11_get mvX11_get mlX3_67 rfl rfl (Nat.le_of_ble_eq_true rfl) (by decide) ⟨by decide, by decide⟩ rfl (pX11_get (E := E) (h := h) (M := M) (p0 := (g + 11)) (np0 := 6) (v1 := v3) (pog11 hg) (shg11 hg) (by decide) hG) (kF (st2 := [(0, (fX11_get M (g + 11) 6 v3))]) rfl (fun hG2 => ?_))
      refine T_if_ne (pc' := 81) dX3_findWays_43 (by decide) (pf := 46) rfl (fun c3 => ?_) (fun c3 => ?_)
      · skip
        replace H := H.2 c3
        refine T_iinc (L' := [(2, 16), (2, g), (0, v2), (0, (wr32 (v3 + 1))), (3, 0), (3, 0), (3, 0)]) (pc' := 84) dX3_findWays_81 rfl (by decide) rfl rfl ?_
        refine T_goto (pc' := 27) dX3_findWays_84 (by decide) ?_
        exact T_wk (L' := [(2, 16), (2, g), (0, v2), (0, (wr32 (v3 + 1))), (3, 0), (3, 0), (3, 0)]) (ih _ _ _ H hG) ⟨Or.inr rfl, Or.inr rfl, Or.inr rfl, Or.inr rfl, Or.inl rfl, Or.inl rfl, Or.inl rfl, trivial⟩
      · skip
        replace H := H.1 c3
        refine T_aload_n (i := 0) (pc' := 47) dX3_findWays_46 rfl rfl rfl ?_
        refine U_gr (q := 23) (k := 6) (kI := 6) (pc' := 50) dX3_findWays_47 rfl cl3 (by decide) rfl (by decide) flX3_30 rfl rfl rfl (G_at hG 28 rfl) (by decide) rfl ?_
        refine T_aload_n (i := 1) (pc' := 51) dX3_findWays_50 rfl rfl rfl ?_
        refine U_grN (q := (g + 10)) (k := 2) (kI := 2) (pc' := 54) dX3_findWays_51 rfl cl1 (pog0 hg) (shg0 hg) (by decide) flX3_90 rfl rfl rfl (grg0_2 hg hG) (pog10 hg) rfl ?_
        refine T_iload_n (i := 3) (pc' := 55) dX3_findWays_54 rfl rfl rfl ?_
        refine T_callSN (av := [(2, (g + 10)), (0, v3)]) (st := [(2, 23)]) (d2 := 1) (nc2 := 0) (ns2 := 0) (pc' := 58) dX3_findWays_55 rfl mtX11_get mvX11_get mlX3_67 rfl rfl (Nat.le_of_ble_eq_true rfl) (by decide) ⟨by decide, by decide⟩ rfl (pX11_get (E := E) (h := h) (M := M) (p0 := (g + 10)) (np0 := 6) (v1 := v3) (pog10 hg) (shg10 hg) (by decide) hG) (kF (st2 := [(0, (fX11_get M (g + 10) 6 v3)), (2, 23)]) rfl (fun hG4 => ?_))
        refine T_iconst (pc' := 59) dX3_findWays_58 (by decide) rfl ?_
        refine T_callSN (av := [(2, 23), (0, (fX11_get M (g + 10) 6 v3)), (0, 0)]) (st := []) (d2 := 1) (nc2 := 0) (ns2 := 0) (pc' := 62) dX3_findWays_59 rfl mtX11_put mvX11_put mlX3_71 rfl rfl (Nat.le_of_ble_eq_true rfl) (by decide) ⟨by decide, by decide⟩ rfl (pX11_put (E := E) (h := h) (M := M) (p0 := 23) (np0 := 54) (v1 := (fX11_get M (g + 10) 6 v3)) (v2 := 0) (by decide) rfl (by decide) hG) (kF (st2 := []) rfl (fun hG5 => ?_))
        obtain ⟨M6, eM6⟩ : ∃ m : Mem, m = (fmX11_put M 23 54 (fX11_get M (g + 10) 6 v3) 0) := ⟨_, rfl⟩
        rw [← eM6] at hG5 ⊢
        replace H := H M6 eM6
        refine T_aload_n (i := 0) (pc' := 63) dX3_findWays_62 rfl rfl rfl ?_
        refine U_gr (q := 24) (k := 7) (kI := 7) (pc' := 66) dX3_findWays_63 rfl cl3 (by decide) rfl (by decide) flX3_33 rfl rfl rfl (G_at hG5 29 rfl) (by decide) rfl ?_
        refine T_iload_n (i := 2) (pc' := 67) dX3_findWays_66 rfl rfl rfl ?_
        refine T_aload_n (i := 1) (pc' := 68) dX3_findWays_67 rfl rfl rfl ?_
        refine U_grN (q := (g + 10)) (k := 2) (kI := 2) (pc' := 71) dX3_findWays_68 rfl cl1 (pog0 hg) (shg0 hg) (by decide) flX3_90 rfl rfl rfl (grg0_2 hg hG5) (pog10 hg) rfl ?_
        refine T_iload_n (i := 3) (pc' := 72) dX3_findWays_71 rfl rfl rfl ?_
        refine T_callSN (av := [(2, (g + 10)), (0, v3)]) (st := [(0, v2), (2, 24)]) (d2 := 1) (nc2 := 0) (ns2 := 0) (pc' := 75) dX3_findWays_72 rfl mtX11_get mvX11_get mlX3_67 rfl rfl (Nat.le_of_ble_eq_true rfl) (by decide) ⟨by decide, by decide⟩ rfl (pX11_get (E := E) (h := h) (M := M6) (p0 := (g + 10)) (np0 := 6) (v1 := v3) (pog10 hg) (shg10 hg) (by decide) hG5) (kF (st2 := [(0, (fX11_get M6 (g + 10) 6 v3)), (0, v2), (2, 24)]) rfl (fun hG7 => ?_))
        refine T_callSN (av := [(2, 24), (0, v2), (0, (fX11_get M6 (g + 10) 6 v3))]) (st := []) (d2 := 1) (nc2 := 0) (ns2 := 0) (pc' := 78) dX3_findWays_75 rfl mtX11_put mvX11_put mlX3_71 rfl rfl (Nat.le_of_ble_eq_true rfl) (by decide) ⟨by decide, by decide⟩ rfl (pX11_put (E := E) (h := h) (M := M6) (p0 := 24) (np0 := 54) (v1 := v2) (v2 := (fX11_get M6 (g + 10) 6 v3)) (by decide) rfl (by decide) hG5) (kF (st2 := []) rfl (fun hG8 => ?_))
        obtain ⟨M9, eM9⟩ : ∃ m : Mem, m = (fmX11_put M6 24 54 v2 (fX11_get M6 (g + 10) 6 v3)) := ⟨_, rfl⟩
        rw [← eM9] at hG8 ⊢
        replace H := H M9 eM9
        refine T_iinc (L' := [(2, 16), (2, g), (0, (wr32 (v2 + 1))), (0, v3), (3, 0), (3, 0), (3, 0)]) (pc' := 81) dX3_findWays_78 rfl (by decide) rfl rfl ?_
        refine T_iinc (L' := [(2, 16), (2, g), (0, (wr32 (v2 + 1))), (0, (wr32 (v3 + 1))), (3, 0), (3, 0), (3, 0)]) (pc' := 84) dX3_findWays_81 rfl (by decide) rfl rfl ?_
        refine T_goto (pc' := 27) dX3_findWays_84 (by decide) ?_
        exact T_wk (L' := [(2, 16), (2, g), (0, (wr32 (v2 + 1))), (0, (wr32 (v3 + 1))), (3, 0), (3, 0), (3, 0)]) (ih _ _ _ H hG8) ⟨Or.inr rfl, Or.inr rfl, Or.inr rfl, Or.inr rfl, Or.inl rfl, Or.inl rfl, Or.inl rfl, trivial⟩
set_option maxRecDepth 100000 in
set_option maxHeartbeats 2000000 in
theorem qX3_findWays_113 {E : EV} {h : Int} {g : Int} {v3 : Int} {v4 : Int} (hg : isG g) {K : Int → Mem → Prop} {Q : Int → Mem → Prop} (hK : ∀ (v2 : Int) (M : Mem), K v2 M → G h M → TG E miX3_findWays 4 h (RV Q) 187 [(2, 16), (2, g), (0, v2), (0, v3), (3, 0), (3, 0), (3, 0)] [] M) : ∀ (k : Nat) (v2 v5 : Int) (M : Mem), PX3_findWays_113 g v4 K Q k v2 v5 M → G h M → TG E miX3_findWays 4 h (RV Q) 113 [(2, 16), (2, g), (0, v2), (0, v3), (0, v4), (0, v5), (3, 0)] [] M := by
  intro k
  induction k with
  | zero =>
    intro v2 v5 M H
    exact False.elim H
  | succ k ih =>
    intro v2 v5 M H hG
    refine T_iload (i := 5) (pc' := 115) dX3_findWays_113 rfl rfl ?_
    refine T_iconst (pc' := 116) dX3_findWays_115 (by decide) rfl ?_
    refine T_icmp_gt (pc' := 187) dX3_findWays_116 (by decide) (pf := 119) rfl (fun c1 => ?_) (fun c1 => ?_)
    · skip
      replace H := H.1 c1
      exact T_wk (L' := [(2, 16), (2, g), (0, v2), (0, v3), (3, 0), (3, 0), (3, 0)]) (hK _ _ H hG) ⟨Or.inr rfl, Or.inr rfl, Or.inr rfl, Or.inr rfl, Or.inl rfl, Or.inl rfl, Or.inl rfl, trivial⟩
    · skip
      replace H := H.2 c1
      refine T_aload_n (i := 1) (pc' := 120) dX3_findWays_119 rfl rfl rfl ?_
      refine T_iload (i := 4) (pc' := 122) dX3_findWays_120 rfl rfl ?_
      refine T_iload (i := 5) (pc' := 124) dX3_findWays_122 rfl rfl ?_
      refine T_callV (av := [(0, v4), (0, v5)]) (st := []) (d2 := 3) (nc2 := 0) (ns2 := 0) (pc' := 127) dX3_findWays_124 rfl mtX1_stepFrom mvX1_stepFrom mlX3_93 cl1 (shg0 hg) rfl rfl (Nat.le_of_ble_eq_true rfl) (by decide) ⟨by decide, by decide⟩ rfl (pX1_stepFrom (E := E) (h := h) (M := M) (g := g) (v1 := v4) (v2 := v5) hg hG) (kF (st2 := [(0, (fX1_stepFrom M g v4 v5))]) rfl (fun hG2 => ?_))
      obtain ⟨a3, ea3⟩ : ∃ z : Int, z = (fX1_stepFrom M g v4 v5) := ⟨_, rfl⟩
      rw [← ea3]
      replace H := H a3 ea3
      refine T_istore (i := 6) (L' := [(2, 16), (2, g), (0, v2), (0, v3), (0, v4), (0, v5), (0, a3)]) (pc' := 129) dX3_findWays_127 (by decide) rfl rfl ?_
      refine T_iload (i := 6) (pc' := 131) dX3_findWays_129 rfl rfl ?_
      refine T_iconst (pc' := 132) dX3_findWays_131 (by decide) rfl ?_
      refine T_icmp_eq (pc' := 181) dX3_findWays_132 (by decide) (pf := 135) rfl (fun c4 => ?_) (fun c4 => ?_)
      · skip
        replace H := H.1 c4
        refine T_iinc (L' := [(2, 16), (2, g), (0, v2), (0, v3), (0, v4), (0, (wr32 (v5 + 1))), (0, a3)]) (pc' := 184) dX3_findWays_181 rfl (by decide) rfl rfl ?_
        refine T_goto (pc' := 113) dX3_findWays_184 (by decide) ?_
        exact T_wk (L' := [(2, 16), (2, g), (0, v2), (0, v3), (0, v4), (0, (wr32 (v5 + 1))), (3, 0)]) (ih _ _ _ H hG) ⟨Or.inr rfl, Or.inr rfl, Or.inr rfl, Or.inr rfl, Or.inr rfl, Or.inr rfl, Or.inl rfl, trivial⟩
      · skip
        replace H := H.2 c4
        refine T_aload_n (i := 0) (pc' := 136) dX3_findWays_135 rfl rfl rfl ?_
        refine U_gr (q := 23) (k := 6) (kI := 6) (pc' := 139) dX3_findWays_136 rfl cl3 (by decide) rfl (by decide) flX3_30 rfl rfl rfl (G_at hG 28 rfl) (by decide) rfl ?_
        refine T_iload (i := 6) (pc' := 141) dX3_findWays_139 rfl rfl ?_
        refine T_callSN (av := [(2, 23), (0, a3)]) (st := []) (d2 := 1) (nc2 := 0) (ns2 := 0) (pc' := 144) dX3_findWays_141 rfl mtX11_get mvX11_get mlX3_67 rfl rfl (Nat.le_of_ble_eq_true rfl) (by decide) ⟨by decide, by decide⟩ rfl (pX11_get (E := E) (h := h) (M := M) (p0 := 23) (np0 := 54) (v1 := a3) (by decide) rfl (by decide) hG) (kF (st2 := [(0, (fX11_get M 23 54 a3))]) rfl (fun hG5 => ?_))
        refine T_iconst (pc' := 145) dX3_findWays_144 (by decide) rfl ?_
        refine T_icmp_ne (pc' := 181) dX3_findWays_145 (by decide) (pf := 148) rfl (fun c6 => ?_) (fun c6 => ?_)
        · skip
          replace H := H.2 c6
          refine T_iinc (L' := [(2, 16), (2, g), (0, v2), (0, v3), (0, v4), (0, (wr32 (v5 + 1))), (0, a3)]) (pc' := 184) dX3_findWays_181 rfl (by decide) rfl rfl ?_
          refine T_goto (pc' := 113) dX3_findWays_184 (by decide) ?_
          exact T_wk (L' := [(2, 16), (2, g), (0, v2), (0, v3), (0, v4), (0, (wr32 (v5 + 1))), (3, 0)]) (ih _ _ _ H hG) ⟨Or.inr rfl, Or.inr rfl, Or.inr rfl, Or.inr rfl, Or.inr rfl, Or.inr rfl, Or.inl rfl, trivial⟩
        · skip
          replace H := H.1 c6
          refine T_aload_n (i := 0) (pc' := 149) dX3_findWays_148 rfl rfl rfl ?_
          refine U_gr (q := 23) (k := 6) (kI := 6) (pc' := 152) dX3_findWays_149 rfl cl3 (by decide) rfl (by decide) flX3_30 rfl rfl rfl (G_at hG 28 rfl) (by decide) rfl ?_
          refine T_iload (i := 6) (pc' := 154) dX3_findWays_152 rfl rfl ?_
          refine T_aload_n (i := 0) (pc' := 155) dX3_findWays_154 rfl rfl rfl ?_
          refine U_gr (q := 23) (k := 6) (kI := 6) (pc' := 158) dX3_findWays_155 rfl cl3 (by decide) rfl (by decide) flX3_30 rfl rfl rfl (G_at hG 28 rfl) (by decide) rfl ?_
          refine T_iload (i := 4) (pc' := 160) dX3_findWays_158 rfl rfl ?_
          refine T_callSN (av := [(2, 23), (0, v4)]) (st := [(0, a3), (2, 23)]) (d2 := 1) (nc2 := 0) (ns2 := 0) (pc' := 163) dX3_findWays_160 rfl mtX11_get mvX11_get mlX3_67 rfl rfl (Nat.le_of_ble_eq_true rfl) (by decide) ⟨by decide, by decide⟩ rfl (pX11_get (E := E) (h := h) (M := M) (p0 := 23) (np0 := 54) (v1 := v4) (by decide) rfl (by decide) hG) (kF (st2 := [(0, (fX11_get M 23 54 v4)), (0, a3), (2, 23)]) rfl (fun hG7 => ?_))
          refine T_iconst (pc' := 164) dX3_findWays_163 (by decide) rfl ?_
          refine T_iadd (pc' := 165) dX3_findWays_164 rfl ?_
          refine T_callSN (av := [(2, 23), (0, a3), (0, (wr32 ((fX11_get M 23 54 v4) + 1)))]) (st := []) (d2 := 1) (nc2 := 0) (ns2 := 0) (pc' := 168) dX3_findWays_165 rfl mtX11_put mvX11_put mlX3_71 rfl rfl (Nat.le_of_ble_eq_true rfl) (by decide) ⟨by decide, by decide⟩ rfl (pX11_put (E := E) (h := h) (M := M) (p0 := 23) (np0 := 54) (v1 := a3) (v2 := (wr32 ((fX11_get M 23 54 v4) + 1))) (by decide) rfl (by decide) hG) (kF (st2 := []) rfl (fun hG8 => ?_))
          obtain ⟨M9, eM9⟩ : ∃ m : Mem, m = (fmX11_put M 23 54 a3 (wr32 ((fX11_get M 23 54 v4) + 1))) := ⟨_, rfl⟩
          rw [← eM9] at hG8 ⊢
          replace H := H M9 eM9
          refine T_aload_n (i := 0) (pc' := 169) dX3_findWays_168 rfl rfl rfl ?_
          refine U_gr (q := 24) (k := 7) (kI := 7) (pc' := 172) dX3_findWays_169 rfl cl3 (by decide) rfl (by decide) flX3_33 rfl rfl rfl (G_at hG8 29 rfl) (by decide) rfl ?_
          refine T_iload_n (i := 2) (pc' := 173) dX3_findWays_172 rfl rfl rfl ?_
          refine T_iload (i := 6) (pc' := 175) dX3_findWays_173 rfl rfl ?_
          refine T_callSN (av := [(2, 24), (0, v2), (0, a3)]) (st := []) (d2 := 1) (nc2 := 0) (ns2 := 0) (pc' := 178) dX3_findWays_175 rfl mtX11_put mvX11_put mlX3_71 rfl rfl (Nat.le_of_ble_eq_true rfl) (by decide) ⟨by decide, by decide⟩ rfl (pX11_put (E := E) (h := h) (M := M9) (p0 := 24) (np0 := 54) (v1 := v2) (v2 := a3) (by decide) rfl (by decide) hG8) (kF (st2 := []) rfl (fun hG10 => ?_))
          obtain ⟨M11, eM11⟩ : ∃ m : Mem, m = (fmX11_put M9 24 54 v2 a3) := ⟨_, rfl⟩
          rw [← eM11] at hG10 ⊢
          replace H := H M11 eM11
          refine T_iinc (L' := [(2, 16), (2, g), (0, (wr32 (v2 + 1))), (0, v3), (0, v4), (0, v5), (0, a3)]) (pc' := 181) dX3_findWays_178 rfl (by decide) rfl rfl ?_
          refine T_iinc (L' := [(2, 16), (2, g), (0, (wr32 (v2 + 1))), (0, v3), (0, v4), (0, (wr32 (v5 + 1))), (0, a3)]) (pc' := 184) dX3_findWays_181 rfl (by decide) rfl rfl ?_
          refine T_goto (pc' := 113) dX3_findWays_184 (by decide) ?_
          exact T_wk (L' := [(2, 16), (2, g), (0, (wr32 (v2 + 1))), (0, v3), (0, v4), (0, (wr32 (v5 + 1))), (3, 0)]) (ih _ _ _ H hG10) ⟨Or.inr rfl, Or.inr rfl, Or.inr rfl, Or.inr rfl, Or.inr rfl, Or.inr rfl, Or.inl rfl, trivial⟩
set_option maxRecDepth 100000 in
set_option maxHeartbeats 2000000 in
theorem qX3_findWays_89 {E : EV} {h : Int} {g : Int} (hg : isG g) {K : Mem → Prop} {Q : Int → Mem → Prop} (hK : ∀ (M : Mem), K M → G h M → TG E miX3_findWays 4 h (RV Q) 193 [(2, 16), (3, 0), (3, 0), (3, 0), (3, 0), (3, 0), (3, 0)] [] M) : ∀ (k : Nat) (v2 v3 : Int) (M : Mem), PX3_findWays_89 g K Q k v2 v3 M → G h M → TG E miX3_findWays 4 h (RV Q) 89 [(2, 16), (2, g), (0, v2), (0, v3), (3, 0), (3, 0), (3, 0)] [] M := by
  intro k
  induction k with
  | zero =>
    intro v2 v3 M H
    exact False.elim H
  | succ k ih =>
    intro v2 v3 M H hG
    refine T_iload_n (i := 3) (pc' := 90) dX3_findWays_89 rfl rfl rfl ?_
    refine T_iload_n (i := 2) (pc' := 91) dX3_findWays_90 rfl rfl rfl ?_
    refine T_icmp_ge (pc' := 193) dX3_findWays_91 (by decide) (pf := 94) rfl (fun c1 => ?_) (fun c1 => ?_)
    · skip
      replace H := H.1 c1
      exact T_wk (L' := [(2, 16), (3, 0), (3, 0), (3, 0), (3, 0), (3, 0), (3, 0)]) (hK _ H hG) ⟨Or.inr rfl, Or.inl rfl, Or.inl rfl, Or.inl rfl, Or.inl rfl, Or.inl rfl, Or.inl rfl, trivial⟩
    · skip
      replace H := H.2 c1
      refine T_iload_n (i := 3) (pc' := 95) dX3_findWays_94 rfl rfl rfl ?_
      refine T_bipush (pc' := 97) dX3_findWays_95 rfl (by decide) rfl ?_
      refine T_icmp_ge (pc' := 193) dX3_findWays_97 (by decide) (pf := 100) rfl (fun c2 => ?_) (fun c2 => ?_)
      · skip
        replace H := H.1 c2
        exact T_wk (L' := [(2, 16), (3, 0), (3, 0), (3, 0), (3, 0), (3, 0), (3, 0)]) (hK _ H hG) ⟨Or.inr rfl, Or.inl rfl, Or.inl rfl, Or.inl rfl, Or.inl rfl, Or.inl rfl, Or.inl rfl, trivial⟩
      · skip
        replace H := H.2 c2
        refine T_aload_n (i := 0) (pc' := 101) dX3_findWays_100 rfl rfl rfl ?_
        refine U_gr (q := 24) (k := 7) (kI := 7) (pc' := 104) dX3_findWays_101 rfl cl3 (by decide) rfl (by decide) flX3_33 rfl rfl rfl (G_at hG 29 rfl) (by decide) rfl ?_
        refine T_iload_n (i := 3) (pc' := 105) dX3_findWays_104 rfl rfl rfl ?_
        refine T_callSN (av := [(2, 24), (0, v3)]) (st := []) (d2 := 1) (nc2 := 0) (ns2 := 0) (pc' := 108) dX3_findWays_105 rfl mtX11_get mvX11_get mlX3_67 rfl rfl (Nat.le_of_ble_eq_true rfl) (by decide) ⟨by decide, by decide⟩ rfl (pX11_get (E := E) (h := h) (M := M) (p0 := 24) (np0 := 54) (v1 := v3) (by decide) rfl (by decide) hG) (kF (st2 := [(0, (fX11_get M 24 54 v3))]) rfl (fun hG3 => ?_))
        refine T_istore (i := 4) (L' := [(2, 16), (2, g), (0, v2), (0, v3), (0, (fX11_get M 24 54 v3)), (3, 0), (3, 0)]) (pc' := 110) dX3_findWays_108 (by decide) rfl rfl ?_
        refine T_iconst (pc' := 111) dX3_findWays_110 (by decide) rfl ?_
        refine T_istore (i := 5) (L' := [(2, 16), (2, g), (0, v2), (0, v3), (0, (fX11_get M 24 54 v3)), (0, 0), (3, 0)]) (pc' := 113) dX3_findWays_111 (by decide) rfl rfl ?_
        obtain ⟨k4, H⟩ := H
        refine T_wk (L' := [(2, 16), (2, g), (0, v2), (0, v3), (0, (fX11_get M 24 54 v3)), (0, 0), (3, 0)]) (qX3_findWays_113 (v3 := v3) (v4 := (fX11_get M 24 54 v3)) hg (fun u5 M6 H hG7 => ?_) _ _ _ _ H hG) ⟨Or.inr rfl, Or.inr rfl, Or.inr rfl, Or.inr rfl, Or.inr rfl, Or.inr rfl, Or.inl rfl, trivial⟩
        refine T_iinc (L' := [(2, 16), (2, g), (0, u5), (0, (wr32 (v3 + 1))), (3, 0), (3, 0), (3, 0)]) (pc' := 190) dX3_findWays_187 rfl (by decide) rfl rfl ?_
        refine T_goto (pc' := 89) dX3_findWays_190 (by decide) ?_
        exact T_wk (L' := [(2, 16), (2, g), (0, u5), (0, (wr32 (v3 + 1))), (3, 0), (3, 0), (3, 0)]) (ih _ _ _ H hG7) ⟨Or.inr rfl, Or.inr rfl, Or.inr rfl, Or.inr rfl, Or.inl rfl, Or.inl rfl, Or.inl rfl, trivial⟩
set_option maxRecDepth 100000 in
set_option maxHeartbeats 2000000 in
theorem pX3_findWays {E : EV} {h : Int} {M : Mem} {g : Int} (hg : isG g) {Q : Int → Mem → Prop} (H : PX3_findWays g M Q) : C2 E miX3_findWays 4 h [(2, 16), (2, g)] M (RV Q) := by
  refine C2_of (L := [(2, 16), (2, g), (3, 0), (3, 0), (3, 0), (3, 0), (3, 0)]) (by decide +kernel) (Nat.le_of_ble_eq_true rfl) rfl (fun hG => ?_)
  refine T_iconst (pc' := 1) dX3_findWays_0 (by decide) rfl ?_
  refine T_istore_n (i := 2) (L' := [(2, 16), (2, g), (0, 0), (3, 0), (3, 0), (3, 0), (3, 0)]) (pc' := 2) dX3_findWays_1 rfl (by decide) rfl rfl ?_
  refine T_iconst (pc' := 3) dX3_findWays_2 (by decide) rfl ?_
  refine T_istore_n (i := 3) (L' := [(2, 16), (2, g), (0, 0), (0, 0), (3, 0), (3, 0), (3, 0)]) (pc' := 4) dX3_findWays_3 rfl (by decide) rfl rfl ?_
  obtain ⟨k1, H⟩ := H
  refine T_wk (L' := [(2, 16), (2, g), (0, 0), (0, 0), (3, 0), (3, 0), (3, 0)]) (qX3_findWays_4 hg (fun M2 H hG3 => ?_) _ _ _ H hG) ⟨Or.inr rfl, Or.inr rfl, Or.inr rfl, Or.inr rfl, Or.inl rfl, Or.inl rfl, Or.inl rfl, trivial⟩
  refine T_iconst (pc' := 26) dX3_findWays_25 (by decide) rfl ?_
  refine T_istore_n (i := 3) (L' := [(2, 16), (2, g), (0, 0), (0, 0), (3, 0), (3, 0), (3, 0)]) (pc' := 27) dX3_findWays_26 rfl (by decide) rfl rfl ?_
  obtain ⟨k4, H⟩ := H
  refine T_wk (L' := [(2, 16), (2, g), (0, 0), (0, 0), (3, 0), (3, 0), (3, 0)]) (qX3_findWays_27 hg (fun u5 M6 H hG7 => ?_) _ _ _ _ H hG3) ⟨Or.inr rfl, Or.inr rfl, Or.inr rfl, Or.inr rfl, Or.inl rfl, Or.inl rfl, Or.inl rfl, trivial⟩
  refine T_iconst (pc' := 88) dX3_findWays_87 (by decide) rfl ?_
  refine T_istore_n (i := 3) (L' := [(2, 16), (2, g), (0, u5), (0, 0), (3, 0), (3, 0), (3, 0)]) (pc' := 89) dX3_findWays_88 rfl (by decide) rfl rfl ?_
  obtain ⟨k8, H⟩ := H
  refine T_wk (L' := [(2, 16), (2, g), (0, u5), (0, 0), (3, 0), (3, 0), (3, 0)]) (qX3_findWays_89 hg (fun M9 H hG10 => ?_) _ _ _ _ H hG7) ⟨Or.inr rfl, Or.inr rfl, Or.inr rfl, Or.inr rfl, Or.inl rfl, Or.inl rfl, Or.inl rfl, trivial⟩
  exact T_vret dX3_findWays_193 rfl ⟨rfl, hG10, rfl, H⟩
def PX7_findAlarm_30 (g : Int) (v2 : Int) (v4 : Int) (K : Mem → Prop) (Q : Int → Mem → Prop) : Nat → Int → Mem → Prop
  | 0 => fun _ _ => False
  | k + 1 => fun v5 M => (((M g 13) ≤ v5 → K M) ∧ (¬ ((M g 13) ≤ v5) → (((M 9 9) = (-1) → (∀ a5 : Int, a5 = (fJ6_bitCount_0f7a4 (m_and (fX11_get M 11 804 (wr32 ((wr32 (v5 * 201)) + v4))) v2)) → ((a5 < (fX11_get M (g + 15) 4 v5) → PX7_findAlarm_30 g v2 v4 K Q k (wr32 (v5 + 1)) M) ∧ (¬ (a5 < (fX11_get M (g + 15) 4 v5)) → (∀ M9 : Mem, M9 = (mset M 9 9 v4) → (∀ M11 : Mem, M11 = (mset M9 9 10 v5) → PX7_findAlarm_30 g v2 v4 K Q k (wr32 (v5 + 1)) M11)))))) ∧ (¬ ((M 9 9) = (-1)) → K M))))
def PX7_findAlarm_13 (g : Int) (v2 : Int) (v3 : Int) (K : Mem → Prop) (Q : Int → Mem → Prop) : Nat → Int → Mem → Prop
  | 0 => fun _ _ => False
  | k + 1 => fun v4 M => ((v3 ≤ v4 → K M) ∧ (¬ (v3 ≤ v4) → (((M 9 9) = (-1) → (∃ k3 : Nat, PX7_findAlarm_30 g v2 v4 (fun M4 => PX7_findAlarm_13 g v2 v3 K Q k (wr32 (v4 + 1)) M4) Q k3 0 M)) ∧ (¬ ((M 9 9) = (-1)) → K M))))
def PX7_findAlarm (g : Int) (v2 : Int) (v3 : Int) (M : Mem) (Q : Int → Mem → Prop) : Prop :=
  (∀ M2 : Mem, M2 = (mset M 9 9 (-1)) → (∀ M4 : Mem, M4 = (mset M2 9 10 (-1)) → (∃ k5 : Nat, PX7_findAlarm_13 g v2 v3 (fun M6 => Q 0 M6) Q k5 0 M4)))
set_option maxRecDepth 100000 in
set_option maxHeartbeats 2000000 in
theorem qX7_findAlarm_30 {E : EV} {h : Int} {g : Int} {v2 : Int} {v3 : Int} {v4 : Int} (hg : isG g) {K : Mem → Prop} {Q : Int → Mem → Prop} (hK : ∀ (M : Mem), K M → G h M → TG E miX7_findAlarm 2 h (RV Q) 102 [(2, 9), (2, g), (0, v2), (0, v3), (0, v4), (3, 0), (3, 0)] [] M) : ∀ (k : Nat) (v5 : Int) (M : Mem), PX7_findAlarm_30 g v2 v4 K Q k v5 M → G h M → TG E miX7_findAlarm 2 h (RV Q) 30 [(2, 9), (2, g), (0, v2), (0, v3), (0, v4), (0, v5), (3, 0)] [] M := by
  intro k
  induction k with
  | zero =>
    intro v5 M H
    exact False.elim H
  | succ k ih =>
    intro v5 M H hG
    refine T_iload (i := 5) (pc' := 32) dX7_findAlarm_30 rfl rfl ?_
    refine T_aload_n (i := 1) (pc' := 33) dX7_findAlarm_32 rfl rfl rfl ?_
    refine U_gfN (v := (0, (M g 13))) (k := 13) (kI := 13) (pc' := 36) dX7_findAlarm_33 rfl cl1 (pog0 hg) (shg0 hg) (by decide) flX7_61 rfl rfl (by decide) rfl rfl ?_
    refine T_icmp_ge (pc' := 102) dX7_findAlarm_36 (by decide) (pf := 39) rfl (fun c1 => ?_) (fun c1 => ?_)
    · skip
      replace H := H.1 c1
      exact T_wk (L' := [(2, 9), (2, g), (0, v2), (0, v3), (0, v4), (3, 0), (3, 0)]) (hK _ H hG) ⟨Or.inr rfl, Or.inr rfl, Or.inr rfl, Or.inr rfl, Or.inr rfl, Or.inl rfl, Or.inl rfl, trivial⟩
    · skip
      replace H := H.2 c1
      refine T_aload_n (i := 0) (pc' := 40) dX7_findAlarm_39 rfl rfl rfl ?_
      refine U_gf (v := (0, (M 9 9))) (k := 9) (kI := 9) (pc' := 43) dX7_findAlarm_40 rfl cl7 (by decide) rfl (by decide) flX7_40 rfl rfl (by decide) rfl rfl ?_
      refine T_iconst (pc' := 44) dX7_findAlarm_43 (by decide) rfl ?_
      refine T_icmp_ne (pc' := 102) dX7_findAlarm_44 (by decide) (pf := 47) rfl (fun c2 => ?_) (fun c2 => ?_)
      · skip
        replace H := H.2 c2
        exact T_wk (L' := [(2, 9), (2, g), (0, v2), (0, v3), (0, v4), (3, 0), (3, 0)]) (hK _ H hG) ⟨Or.inr rfl, Or.inr rfl, Or.inr rfl, Or.inr rfl, Or.inr rfl, Or.inl rfl, Or.inl rfl, trivial⟩
      · skip
        replace H := H.1 c2
        refine T_aload_n (i := 0) (pc' := 48) dX7_findAlarm_47 rfl rfl rfl ?_
        refine U_gr (q := 11) (k := 1) (kI := 1) (pc' := 51) dX7_findAlarm_48 rfl cl7 (by decide) rfl (by decide) flX7_15 rfl rfl rfl (G_at hG 17 rfl) (by decide) rfl ?_
        refine T_iload (i := 5) (pc' := 53) dX7_findAlarm_51 rfl rfl ?_
        refine T_sipush (pc' := 56) dX7_findAlarm_53 rfl (by decide) rfl ?_
        refine T_imul (pc' := 57) dX7_findAlarm_56 rfl ?_
        refine T_iload (i := 4) (pc' := 59) dX7_findAlarm_57 rfl rfl ?_
        refine T_iadd (pc' := 60) dX7_findAlarm_59 rfl ?_
        refine T_callSN (av := [(2, 11), (0, (wr32 ((wr32 (v5 * 201)) + v4)))]) (st := []) (d2 := 1) (nc2 := 0) (ns2 := 0) (pc' := 63) dX7_findAlarm_60 rfl mtX11_get mvX11_get mlX7_71 rfl rfl (Nat.le_of_ble_eq_true rfl) (by decide) ⟨by decide, by decide⟩ rfl (pX11_get (E := E) (h := h) (M := M) (p0 := 11) (np0 := 804) (v1 := (wr32 ((wr32 (v5 * 201)) + v4))) (by decide) rfl (by decide) hG) (kF (st2 := [(0, (fX11_get M 11 804 (wr32 ((wr32 (v5 * 201)) + v4))))]) rfl (fun hG3 => ?_))
        refine T_iload_n (i := 2) (pc' := 64) dX7_findAlarm_63 rfl rfl rfl ?_
        refine T_iand (pc' := 65) dX7_findAlarm_64 rfl ?_
        refine T_callS (av := [(0, (m_and (fX11_get M 11 804 (wr32 ((wr32 (v5 * 201)) + v4))) v2))]) (st := []) (d2 := 1) (nc2 := 0) (ns2 := 0) (pc' := 68) dX7_findAlarm_65 rfl mtJ6_bitCount_0f7a4 mvJ6_bitCount_0f7a4 mlX7_138 rfl rfl (Nat.le_of_ble_eq_true rfl) (by decide) ⟨by decide, by decide⟩ rfl (pJ6_bitCount_0f7a4 (E := E) (h := h) (M := M) (v0 := (m_and (fX11_get M 11 804 (wr32 ((wr32 (v5 * 201)) + v4))) v2)) hG) (kF (st2 := [(0, (fJ6_bitCount_0f7a4 (m_and (fX11_get M 11 804 (wr32 ((wr32 (v5 * 201)) + v4))) v2)))]) rfl (fun hG4 => ?_))
        obtain ⟨a5, ea5⟩ : ∃ z : Int, z = (fJ6_bitCount_0f7a4 (m_and (fX11_get M 11 804 (wr32 ((wr32 (v5 * 201)) + v4))) v2)) := ⟨_, rfl⟩
        rw [← ea5]
        replace H := H a5 ea5
        refine T_istore (i := 6) (L' := [(2, 9), (2, g), (0, v2), (0, v3), (0, v4), (0, v5), (0, a5)]) (pc' := 70) dX7_findAlarm_68 (by decide) rfl rfl ?_
        refine T_iload (i := 6) (pc' := 72) dX7_findAlarm_70 rfl rfl ?_
        refine T_aload_n (i := 1) (pc' := 73) dX7_findAlarm_72 rfl rfl rfl ?_
        refine U_grN (q := (g + 15)) (k := 7) (kI := 7) (pc' := 76) dX7_findAlarm_73 rfl cl1 (pog0 hg) (shg0 hg) (by decide) flX7_144 rfl rfl rfl (grg0_7 hg hG) (pog15 hg) rfl ?_
        refine T_iload (i := 5) (pc' := 78) dX7_findAlarm_76 rfl rfl ?_
        refine T_callSN (av := [(2, (g + 15)), (0, v5)]) (st := [(0, a5)]) (d2 := 1) (nc2 := 0) (ns2 := 0) (pc' := 81) dX7_findAlarm_78 rfl mtX11_get mvX11_get mlX7_71 rfl rfl (Nat.le_of_ble_eq_true rfl) (by decide) ⟨by decide, by decide⟩ rfl (pX11_get (E := E) (h := h) (M := M) (p0 := (g + 15)) (np0 := 4) (v1 := v5) (pog15 hg) (shg15 hg) (by decide) hG) (kF (st2 := [(0, (fX11_get M (g + 15) 4 v5)), (0, a5)]) rfl (fun hG6 => ?_))
        refine T_icmp_lt (pc' := 96) dX7_findAlarm_81 (by decide) (pf := 84) rfl (fun c7 => ?_) (fun c7 => ?_)
        · skip
          replace H := H.1 c7
          refine T_iinc (L' := [(2, 9), (2, g), (0, v2), (0, v3), (0, v4), (0, (wr32 (v5 + 1))), (0, a5)]) (pc' := 99) dX7_findAlarm_96 rfl (by decide) rfl rfl ?_
          refine T_goto (pc' := 30) dX7_findAlarm_99 (by decide) ?_
          exact T_wk (L' := [(2, 9), (2, g), (0, v2), (0, v3), (0, v4), (0, (wr32 (v5 + 1))), (3, 0)]) (ih _ _ H hG) ⟨Or.inr rfl, Or.inr rfl, Or.inr rfl, Or.inr rfl, Or.inr rfl, Or.inr rfl, Or.inl rfl, trivial⟩
        · skip
          replace H := H.2 c7
          refine T_aload_n (i := 0) (pc' := 85) dX7_findAlarm_84 rfl rfl rfl ?_
          refine T_iload (i := 4) (pc' := 87) dX7_findAlarm_85 rfl rfl ?_
          refine U_pf (y := v4) (k := 9) (kI := 9) (pc' := 90) dX7_findAlarm_87 rfl cl7 (by decide) rfl (by decide) flX7_40 rfl rfl rfl rfl rfl (by decide) (fun z => z) rfl ?_
          have hG8 := (G_fld (x := 9) (i := 9) (y := v4) rfl (by decide) (by decide) (by decide) hG)
          obtain ⟨M9, eM9⟩ : ∃ m : Mem, m = (mset M 9 9 v4) := ⟨_, rfl⟩
          rw [← eM9] at hG8 ⊢
          replace H := H M9 eM9
          refine T_aload_n (i := 0) (pc' := 91) dX7_findAlarm_90 rfl rfl rfl ?_
          refine T_iload (i := 5) (pc' := 93) dX7_findAlarm_91 rfl rfl ?_
          refine U_pf (y := v5) (k := 10) (kI := 10) (pc' := 96) dX7_findAlarm_93 rfl cl7 (by decide) rfl (by decide) flX7_43 rfl rfl rfl rfl rfl (by decide) (fun z => z) rfl ?_
          have hG10 := (G_fld (x := 9) (i := 10) (y := v5) rfl (by decide) (by decide) (by decide) hG8)
          obtain ⟨M11, eM11⟩ : ∃ m : Mem, m = (mset M9 9 10 v5) := ⟨_, rfl⟩
          rw [← eM11] at hG10 ⊢
          replace H := H M11 eM11
          refine T_iinc (L' := [(2, 9), (2, g), (0, v2), (0, v3), (0, v4), (0, (wr32 (v5 + 1))), (0, a5)]) (pc' := 99) dX7_findAlarm_96 rfl (by decide) rfl rfl ?_
          refine T_goto (pc' := 30) dX7_findAlarm_99 (by decide) ?_
          exact T_wk (L' := [(2, 9), (2, g), (0, v2), (0, v3), (0, v4), (0, (wr32 (v5 + 1))), (3, 0)]) (ih _ _ H hG10) ⟨Or.inr rfl, Or.inr rfl, Or.inr rfl, Or.inr rfl, Or.inr rfl, Or.inr rfl, Or.inl rfl, trivial⟩
set_option maxRecDepth 100000 in
set_option maxHeartbeats 2000000 in
theorem qX7_findAlarm_13 {E : EV} {h : Int} {g : Int} {v2 : Int} {v3 : Int} (hg : isG g) {K : Mem → Prop} {Q : Int → Mem → Prop} (hK : ∀ (M : Mem), K M → G h M → TG E miX7_findAlarm 2 h (RV Q) 108 [(2, 9), (3, 0), (3, 0), (3, 0), (3, 0), (3, 0), (3, 0)] [] M) : ∀ (k : Nat) (v4 : Int) (M : Mem), PX7_findAlarm_13 g v2 v3 K Q k v4 M → G h M → TG E miX7_findAlarm 2 h (RV Q) 13 [(2, 9), (2, g), (0, v2), (0, v3), (0, v4), (3, 0), (3, 0)] [] M := by
  intro k
  induction k with
  | zero =>
    intro v4 M H
    exact False.elim H
  | succ k ih =>
    intro v4 M H hG
    refine T_iload (i := 4) (pc' := 15) dX7_findAlarm_13 rfl rfl ?_
    refine T_iload_n (i := 3) (pc' := 16) dX7_findAlarm_15 rfl rfl rfl ?_
    refine T_icmp_ge (pc' := 108) dX7_findAlarm_16 (by decide) (pf := 19) rfl (fun c1 => ?_) (fun c1 => ?_)
    · skip
      replace H := H.1 c1
      exact T_wk (L' := [(2, 9), (3, 0), (3, 0), (3, 0), (3, 0), (3, 0), (3, 0)]) (hK _ H hG) ⟨Or.inr rfl, Or.inl rfl, Or.inl rfl, Or.inl rfl, Or.inl rfl, Or.inl rfl, Or.inl rfl, trivial⟩
    · skip
      replace H := H.2 c1
      refine T_aload_n (i := 0) (pc' := 20) dX7_findAlarm_19 rfl rfl rfl ?_
      refine U_gf (v := (0, (M 9 9))) (k := 9) (kI := 9) (pc' := 23) dX7_findAlarm_20 rfl cl7 (by decide) rfl (by decide) flX7_40 rfl rfl (by decide) rfl rfl ?_
      refine T_iconst (pc' := 24) dX7_findAlarm_23 (by decide) rfl ?_
      refine T_icmp_ne (pc' := 108) dX7_findAlarm_24 (by decide) (pf := 27) rfl (fun c2 => ?_) (fun c2 => ?_)
      · skip
        replace H := H.2 c2
        exact T_wk (L' := [(2, 9), (3, 0), (3, 0), (3, 0), (3, 0), (3, 0), (3, 0)]) (hK _ H hG) ⟨Or.inr rfl, Or.inl rfl, Or.inl rfl, Or.inl rfl, Or.inl rfl, Or.inl rfl, Or.inl rfl, trivial⟩
      · skip
        replace H := H.1 c2
        refine T_iconst (pc' := 28) dX7_findAlarm_27 (by decide) rfl ?_
        refine T_istore (i := 5) (L' := [(2, 9), (2, g), (0, v2), (0, v3), (0, v4), (0, 0), (3, 0)]) (pc' := 30) dX7_findAlarm_28 (by decide) rfl rfl ?_
        obtain ⟨k3, H⟩ := H
        refine T_wk (L' := [(2, 9), (2, g), (0, v2), (0, v3), (0, v4), (0, 0), (3, 0)]) (qX7_findAlarm_30 (v2 := v2) (v3 := v3) (v4 := v4) hg (fun M4 H hG5 => ?_) _ _ _ H hG) ⟨Or.inr rfl, Or.inr rfl, Or.inr rfl, Or.inr rfl, Or.inr rfl, Or.inr rfl, Or.inl rfl, trivial⟩
        refine T_iinc (L' := [(2, 9), (2, g), (0, v2), (0, v3), (0, (wr32 (v4 + 1))), (3, 0), (3, 0)]) (pc' := 105) dX7_findAlarm_102 rfl (by decide) rfl rfl ?_
        refine T_goto (pc' := 13) dX7_findAlarm_105 (by decide) ?_
        exact T_wk (L' := [(2, 9), (2, g), (0, v2), (0, v3), (0, (wr32 (v4 + 1))), (3, 0), (3, 0)]) (ih _ _ H hG5) ⟨Or.inr rfl, Or.inr rfl, Or.inr rfl, Or.inr rfl, Or.inr rfl, Or.inl rfl, Or.inl rfl, trivial⟩
set_option maxRecDepth 100000 in
set_option maxHeartbeats 2000000 in
theorem pX7_findAlarm {E : EV} {h : Int} {M : Mem} {g : Int} {v2 : Int} {v3 : Int} (hg : isG g) {Q : Int → Mem → Prop} (H : PX7_findAlarm g v2 v3 M Q) : C2 E miX7_findAlarm 2 h [(2, 9), (2, g), (0, v2), (0, v3)] M (RV Q) := by
  refine C2_of (L := [(2, 9), (2, g), (0, v2), (0, v3), (3, 0), (3, 0), (3, 0)]) (by decide +kernel) (Nat.le_of_ble_eq_true rfl) rfl (fun hG => ?_)
  refine T_aload_n (i := 0) (pc' := 1) dX7_findAlarm_0 rfl rfl rfl ?_
  refine T_iconst (pc' := 2) dX7_findAlarm_1 (by decide) rfl ?_
  refine U_pf (y := (-1)) (k := 9) (kI := 9) (pc' := 5) dX7_findAlarm_2 rfl cl7 (by decide) rfl (by decide) flX7_40 rfl rfl rfl rfl rfl (by decide) (fun z => z) rfl ?_
  have hG1 := (G_fld (x := 9) (i := 9) (y := (-1)) rfl (by decide) (by decide) (by decide) hG)
  obtain ⟨M2, eM2⟩ : ∃ m : Mem, m = (mset M 9 9 (-1)) := ⟨_, rfl⟩
  rw [← eM2] at hG1 ⊢
  replace H := H M2 eM2
  refine T_aload_n (i := 0) (pc' := 6) dX7_findAlarm_5 rfl rfl rfl ?_
  refine T_iconst (pc' := 7) dX7_findAlarm_6 (by decide) rfl ?_
  refine U_pf (y := (-1)) (k := 10) (kI := 10) (pc' := 10) dX7_findAlarm_7 rfl cl7 (by decide) rfl (by decide) flX7_43 rfl rfl rfl rfl rfl (by decide) (fun z => z) rfl ?_
  have hG3 := (G_fld (x := 9) (i := 10) (y := (-1)) rfl (by decide) (by decide) (by decide) hG1)
  obtain ⟨M4, eM4⟩ : ∃ m : Mem, m = (mset M2 9 10 (-1)) := ⟨_, rfl⟩
  rw [← eM4] at hG3 ⊢
  replace H := H M4 eM4
  refine T_iconst (pc' := 11) dX7_findAlarm_10 (by decide) rfl ?_
  refine T_istore (i := 4) (L' := [(2, 9), (2, g), (0, v2), (0, v3), (0, 0), (3, 0), (3, 0)]) (pc' := 13) dX7_findAlarm_11 (by decide) rfl rfl ?_
  obtain ⟨k5, H⟩ := H
  refine T_wk (L' := [(2, 9), (2, g), (0, v2), (0, v3), (0, 0), (3, 0), (3, 0)]) (qX7_findAlarm_13 (v2 := v2) (v3 := v3) hg (fun M6 H hG7 => ?_) _ _ _ H hG3) ⟨Or.inr rfl, Or.inr rfl, Or.inr rfl, Or.inr rfl, Or.inr rfl, Or.inl rfl, Or.inl rfl, trivial⟩
  exact T_vret dX7_findAlarm_108 rfl ⟨rfl, hG7, rfl, H⟩
def PX7_openAll_18  (K : Mem → Prop) (Q : Int → Mem → Prop) : Nat → Int → Mem → Prop
  | 0 => fun _ _ => False
  | k + 1 => fun v5 M => ((9 ≤ v5 → K M) ∧ (¬ (9 ≤ v5) → (∀ M3 : Mem, M3 = (fmX11_put M 13 9 v5 (-1)) → (∀ M5 : Mem, M5 = (fmX11_put M3 15 9 v5 0) → PX7_openAll_18  K Q k (wr32 (v5 + 1)) M5))))
def PX7_openAll_63 (g : Int) (v4 : Int) (K : Mem → Prop) (Q : Int → Mem → Prop) : Nat → Int → Mem → Prop
  | 0 => fun _ _ => False
  | k + 1 => fun v5 M => ((201 ≤ v5 → K M) ∧ (¬ (201 ≤ v5) → (∀ M3 : Mem, M3 = (fmX7_goOn M g v5) → ((v4 = 0 → PX7_openAll_63 g v4 K Q k (wr32 ((if (M3 9 7) = 0 then (if v5 < (wr32 ((fX7_nextStrike M3 g) - 1)) then (wr32 ((fX7_nextStrike M3 g) - 1)) else v5) else v5) + 1)) M3) ∧ (¬ (v4 = 0) → (((M3 9 8) = 0 → PX7_openAll_63 g v4 K Q k (wr32 ((if (M3 9 7) = 0 then (if v5 < (wr32 ((fX7_nextStrike M3 g) - 1)) then (wr32 ((fX7_nextStrike M3 g) - 1)) else v5) else v5) + 1)) M3) ∧ (¬ ((M3 9 8) = 0) → Q 0 M3)))))))
def PX7_openAll (g : Int) (v2 : Int) (v3 : Int) (v4 : Int) (M : Mem) (Q : Int → Mem → Prop) : Prop :=
  (∀ M2 : Mem, M2 = (mset M 9 6 v2) → (∀ M4 : Mem, M4 = (mset M2 9 7 0) → (∀ M6 : Mem, M6 = (mset M4 9 8 0) → (∃ k7 : Nat, PX7_openAll_18 (fun M8 => (((M8 9 9) = (-1) → (∃ k11 : Nat, PX7_openAll_63 g v4 (fun M12 => Q 0 M12) Q k11 v3 M8)) ∧ (¬ ((M8 9 9) = (-1)) → Q 0 M8))) Q k7 0 M6))))
set_option maxRecDepth 100000 in
set_option maxHeartbeats 2000000 in
theorem qX7_openAll_18 {E : EV} {h : Int} {g : Int} {v3 : Int} {v4 : Int} (hg : isG g) {K : Mem → Prop} {Q : Int → Mem → Prop} (hK : ∀ (M : Mem), K M → G h M → TG E miX7_openAll 4 h (RV Q) 51 [(2, 9), (2, g), (3, 0), (0, v3), (0, v4), (3, 0)] [] M) : ∀ (k : Nat) (v5 : Int) (M : Mem), PX7_openAll_18  K Q k v5 M → G h M → TG E miX7_openAll 4 h (RV Q) 18 [(2, 9), (2, g), (3, 0), (0, v3), (0, v4), (0, v5)] [] M := by
  intro k
  induction k with
  | zero =>
    intro v5 M H
    exact False.elim H
  | succ k ih =>
    intro v5 M H hG
    refine T_iload (i := 5) (pc' := 20) dX7_openAll_18 rfl rfl ?_
    refine T_bipush (pc' := 22) dX7_openAll_20 rfl (by decide) rfl ?_
    refine T_icmp_ge (pc' := 51) dX7_openAll_22 (by decide) (pf := 25) rfl (fun c1 => ?_) (fun c1 => ?_)
    · skip
      replace H := H.1 c1
      exact T_wk (L' := [(2, 9), (2, g), (3, 0), (0, v3), (0, v4), (3, 0)]) (hK _ H hG) ⟨Or.inr rfl, Or.inr rfl, Or.inl rfl, Or.inr rfl, Or.inr rfl, Or.inl rfl, trivial⟩
    · skip
      replace H := H.2 c1
      refine T_aload_n (i := 0) (pc' := 26) dX7_openAll_25 rfl rfl rfl ?_
      refine U_gr (q := 13) (k := 3) (kI := 3) (pc' := 29) dX7_openAll_26 rfl cl7 (by decide) rfl (by decide) flX7_21 rfl rfl rfl (G_at hG 19 rfl) (by decide) rfl ?_
      refine T_iload (i := 5) (pc' := 31) dX7_openAll_29 rfl rfl ?_
      refine T_iconst (pc' := 32) dX7_openAll_31 (by decide) rfl ?_
      refine T_callSN (av := [(2, 13), (0, v5), (0, (-1))]) (st := []) (d2 := 1) (nc2 := 0) (ns2 := 0) (pc' := 35) dX7_openAll_32 rfl mtX11_put mvX11_put mlX7_75 rfl rfl (Nat.le_of_ble_eq_true rfl) (by decide) ⟨by decide, by decide⟩ rfl (pX11_put (E := E) (h := h) (M := M) (p0 := 13) (np0 := 9) (v1 := v5) (v2 := (-1)) (by decide) rfl (by decide) hG) (kF (st2 := []) rfl (fun hG2 => ?_))
      obtain ⟨M3, eM3⟩ : ∃ m : Mem, m = (fmX11_put M 13 9 v5 (-1)) := ⟨_, rfl⟩
      rw [← eM3] at hG2 ⊢
      replace H := H M3 eM3
      refine T_aload_n (i := 0) (pc' := 36) dX7_openAll_35 rfl rfl rfl ?_
      refine U_gr (q := 15) (k := 5) (kI := 5) (pc' := 39) dX7_openAll_36 rfl cl7 (by decide) rfl (by decide) flX7_27 rfl rfl rfl (G_at hG2 21 rfl) (by decide) rfl ?_
      refine T_iload (i := 5) (pc' := 41) dX7_openAll_39 rfl rfl ?_
      refine T_iconst (pc' := 42) dX7_openAll_41 (by decide) rfl ?_
      refine T_callSN (av := [(2, 15), (0, v5), (0, 0)]) (st := []) (d2 := 1) (nc2 := 0) (ns2 := 0) (pc' := 45) dX7_openAll_42 rfl mtX11_put mvX11_put mlX7_75 rfl rfl (Nat.le_of_ble_eq_true rfl) (by decide) ⟨by decide, by decide⟩ rfl (pX11_put (E := E) (h := h) (M := M3) (p0 := 15) (np0 := 9) (v1 := v5) (v2 := 0) (by decide) rfl (by decide) hG2) (kF (st2 := []) rfl (fun hG4 => ?_))
      obtain ⟨M5, eM5⟩ : ∃ m : Mem, m = (fmX11_put M3 15 9 v5 0) := ⟨_, rfl⟩
      rw [← eM5] at hG4 ⊢
      replace H := H M5 eM5
      refine T_iinc (L' := [(2, 9), (2, g), (3, 0), (0, v3), (0, v4), (0, (wr32 (v5 + 1)))]) (pc' := 48) dX7_openAll_45 rfl (by decide) rfl rfl ?_
      refine T_goto (pc' := 18) dX7_openAll_48 (by decide) ?_
      exact T_wk (L' := [(2, 9), (2, g), (3, 0), (0, v3), (0, v4), (0, (wr32 (v5 + 1)))]) (ih _ _ H hG4) ⟨Or.inr rfl, Or.inr rfl, Or.inl rfl, Or.inr rfl, Or.inr rfl, Or.inr rfl, trivial⟩
set_option maxRecDepth 100000 in
set_option maxHeartbeats 2000000 in
theorem qX7_openAll_63 {E : EV} {h : Int} {g : Int} {v4 : Int} (hg : isG g) {K : Mem → Prop} {Q : Int → Mem → Prop} (hK : ∀ (M : Mem), K M → G h M → TG E miX7_openAll 4 h (RV Q) 118 [(2, 9), (3, 0), (3, 0), (3, 0), (3, 0), (3, 0)] [] M) : ∀ (k : Nat) (v5 : Int) (M : Mem), PX7_openAll_63 g v4 K Q k v5 M → G h M → TG E miX7_openAll 4 h (RV Q) 63 [(2, 9), (2, g), (3, 0), (3, 0), (0, v4), (0, v5)] [] M := by
  intro k
  induction k with
  | zero =>
    intro v5 M H
    exact False.elim H
  | succ k ih =>
    intro v5 M H hG
    refine T_iload (i := 5) (pc' := 65) dX7_openAll_63 rfl rfl ?_
    refine T_sipush (pc' := 68) dX7_openAll_65 rfl (by decide) rfl ?_
    refine T_icmp_ge (pc' := 118) dX7_openAll_68 (by decide) (pf := 71) rfl (fun c1 => ?_) (fun c1 => ?_)
    · skip
      replace H := H.1 c1
      exact T_wk (L' := [(2, 9), (3, 0), (3, 0), (3, 0), (3, 0), (3, 0)]) (hK _ H hG) ⟨Or.inr rfl, Or.inl rfl, Or.inl rfl, Or.inl rfl, Or.inl rfl, Or.inl rfl, trivial⟩
    · skip
      replace H := H.2 c1
      refine T_aload_n (i := 0) (pc' := 72) dX7_openAll_71 rfl rfl rfl ?_
      refine T_aload_n (i := 1) (pc' := 73) dX7_openAll_72 rfl rfl rfl ?_
      refine T_iload (i := 5) (pc' := 75) dX7_openAll_73 rfl rfl ?_
      refine T_callV (av := [(2, g), (0, v5)]) (st := []) (d2 := 3) (nc2 := 0) (ns2 := 0) (pc' := 78) dX7_openAll_75 rfl mtX7_goOn mvX7_goOn mlX7_110 cl7 rfl rfl rfl (Nat.le_of_ble_eq_true rfl) (by decide) ⟨by decide, by decide⟩ rfl (pX7_goOn (E := E) (h := h) (M := M) (g := g) (v2 := v5) hg hG) (kF (st2 := []) rfl (fun hG2 => ?_))
      obtain ⟨M3, eM3⟩ : ∃ m : Mem, m = (fmX7_goOn M g v5) := ⟨_, rfl⟩
      rw [← eM3] at hG2 ⊢
      replace H := H M3 eM3
      refine T_iload (i := 4) (pc' := 80) dX7_openAll_78 rfl rfl ?_
      refine T_if_eq (pc' := 91) dX7_openAll_80 (by decide) (pf := 83) rfl (fun c4 => ?_) (fun c4 => ?_)
      · skip
        replace H := H.1 c4
        refine T_aload_n (i := 0) (pc' := 92) dX7_openAll_91 rfl rfl rfl ?_
        refine U_gf (v := (0, (M3 9 7))) (k := 7) (kI := 7) (pc' := 95) dX7_openAll_92 rfl cl7 (by decide) rfl (by decide) flX7_34 rfl rfl (by decide) rfl rfl ?_
        have HJ5 : T E miX7_openAll 4 126 0 0 (fun r S M' => S = S0 ∧ G h M' ∧ RV Q r M') 112 [(2, 9), (2, g), (3, 0), (3, 0), (0, v4), (0, (if (M3 9 7) = 0 then (if v5 < (wr32 ((fX7_nextStrike M3 g) - 1)) then (wr32 ((fX7_nextStrike M3 g) - 1)) else v5) else v5))] [] S0 M3 0 0 := by
          refine T_iinc (L' := [(2, 9), (2, g), (3, 0), (3, 0), (0, v4), (0, (wr32 ((if (M3 9 7) = 0 then (if v5 < (wr32 ((fX7_nextStrike M3 g) - 1)) then (wr32 ((fX7_nextStrike M3 g) - 1)) else v5) else v5) + 1)))]) (pc' := 115) dX7_openAll_112 rfl (by decide) rfl rfl ?_
          refine T_goto (pc' := 63) dX7_openAll_115 (by decide) ?_
          exact T_wk (L' := [(2, 9), (2, g), (3, 0), (3, 0), (0, v4), (0, (wr32 ((if (M3 9 7) = 0 then (if v5 < (wr32 ((fX7_nextStrike M3 g) - 1)) then (wr32 ((fX7_nextStrike M3 g) - 1)) else v5) else v5) + 1)))]) (ih _ _ H hG2) ⟨Or.inr rfl, Or.inr rfl, Or.inl rfl, Or.inl rfl, Or.inr rfl, Or.inr rfl, trivial⟩
        refine T_if_ne (pc' := 112) dX7_openAll_95 (by decide) (pf := 98) rfl (fun c6 => ?_) (fun c6 => ?_)
        · skip
          exact T_wk (L' := [(2, 9), (2, g), (3, 0), (3, 0), (0, v4), (0, v5)]) (by have q := HJ5; try simp only [if_neg c6] at q ⊢; exact q) ⟨Or.inr rfl, Or.inr rfl, Or.inl rfl, Or.inl rfl, Or.inr rfl, Or.inr rfl, trivial⟩
        · skip
          refine T_iload (i := 5) (pc' := 100) dX7_openAll_98 rfl rfl ?_
          refine T_aload_n (i := 0) (pc' := 101) dX7_openAll_100 rfl rfl rfl ?_
          refine T_aload_n (i := 1) (pc' := 102) dX7_openAll_101 rfl rfl rfl ?_
          refine T_callV (av := [(2, g)]) (st := [(0, v5)]) (d2 := 2) (nc2 := 0) (ns2 := 0) (pc' := 105) dX7_openAll_102 rfl mtX7_nextStrike mvX7_nextStrike mlX7_113 cl7 rfl rfl rfl (Nat.le_of_ble_eq_true rfl) (by decide) ⟨by decide, by decide⟩ rfl (pX7_nextStrike (E := E) (h := h) (M := M3) (g := g) hg hG2) (kF (st2 := [(0, (fX7_nextStrike M3 g)), (0, v5)]) rfl (fun hG7 => ?_))
          refine T_iconst (pc' := 106) dX7_openAll_105 (by decide) rfl ?_
          refine T_isub (pc' := 107) dX7_openAll_106 rfl ?_
          refine U_mmax (pc' := 110) dX7_openAll_107 rfl mlX7_117 (Nat.le_of_ble_eq_true rfl) (by decide) ⟨by decide, by decide⟩ rfl ?_
          refine T_istore (i := 5) (L' := [(2, 9), (2, g), (3, 0), (3, 0), (0, v4), (0, (if v5 < (wr32 ((fX7_nextStrike M3 g) - 1)) then (wr32 ((fX7_nextStrike M3 g) - 1)) else v5))]) (pc' := 112) dX7_openAll_110 (by decide) rfl rfl ?_
          exact T_wk (L' := [(2, 9), (2, g), (3, 0), (3, 0), (0, v4), (0, (if v5 < (wr32 ((fX7_nextStrike M3 g) - 1)) then (wr32 ((fX7_nextStrike M3 g) - 1)) else v5))]) (by have q := HJ5; try simp only [if_pos c6] at q ⊢; exact q) ⟨Or.inr rfl, Or.inr rfl, Or.inl rfl, Or.inl rfl, Or.inr rfl, Or.inr rfl, trivial⟩
      · skip
        replace H := H.2 c4
        refine T_aload_n (i := 0) (pc' := 84) dX7_openAll_83 rfl rfl rfl ?_
        refine U_gf (v := (0, (M3 9 8))) (k := 8) (kI := 8) (pc' := 87) dX7_openAll_84 rfl cl7 (by decide) rfl (by decide) flX7_37 rfl rfl (by decide) rfl rfl ?_
        refine T_if_eq (pc' := 91) dX7_openAll_87 (by decide) (pf := 90) rfl (fun c8 => ?_) (fun c8 => ?_)
        · skip
          replace H := H.1 c8
          refine T_aload_n (i := 0) (pc' := 92) dX7_openAll_91 rfl rfl rfl ?_
          refine U_gf (v := (0, (M3 9 7))) (k := 7) (kI := 7) (pc' := 95) dX7_openAll_92 rfl cl7 (by decide) rfl (by decide) flX7_34 rfl rfl (by decide) rfl rfl ?_
          have HJ9 : T E miX7_openAll 4 126 0 0 (fun r S M' => S = S0 ∧ G h M' ∧ RV Q r M') 112 [(2, 9), (2, g), (3, 0), (3, 0), (0, v4), (0, (if (M3 9 7) = 0 then (if v5 < (wr32 ((fX7_nextStrike M3 g) - 1)) then (wr32 ((fX7_nextStrike M3 g) - 1)) else v5) else v5))] [] S0 M3 0 0 := by
            refine T_iinc (L' := [(2, 9), (2, g), (3, 0), (3, 0), (0, v4), (0, (wr32 ((if (M3 9 7) = 0 then (if v5 < (wr32 ((fX7_nextStrike M3 g) - 1)) then (wr32 ((fX7_nextStrike M3 g) - 1)) else v5) else v5) + 1)))]) (pc' := 115) dX7_openAll_112 rfl (by decide) rfl rfl ?_
            refine T_goto (pc' := 63) dX7_openAll_115 (by decide) ?_
            exact T_wk (L' := [(2, 9), (2, g), (3, 0), (3, 0), (0, v4), (0, (wr32 ((if (M3 9 7) = 0 then (if v5 < (wr32 ((fX7_nextStrike M3 g) - 1)) then (wr32 ((fX7_nextStrike M3 g) - 1)) else v5) else v5) + 1)))]) (ih _ _ H hG2) ⟨Or.inr rfl, Or.inr rfl, Or.inl rfl, Or.inl rfl, Or.inr rfl, Or.inr rfl, trivial⟩
          refine T_if_ne (pc' := 112) dX7_openAll_95 (by decide) (pf := 98) rfl (fun c10 => ?_) (fun c10 => ?_)
          · skip
            exact T_wk (L' := [(2, 9), (2, g), (3, 0), (3, 0), (0, v4), (0, v5)]) (by have q := HJ9; try simp only [if_neg c10] at q ⊢; exact q) ⟨Or.inr rfl, Or.inr rfl, Or.inl rfl, Or.inl rfl, Or.inr rfl, Or.inr rfl, trivial⟩
          · skip
            refine T_iload (i := 5) (pc' := 100) dX7_openAll_98 rfl rfl ?_
            refine T_aload_n (i := 0) (pc' := 101) dX7_openAll_100 rfl rfl rfl ?_
            refine T_aload_n (i := 1) (pc' := 102) dX7_openAll_101 rfl rfl rfl ?_
            refine T_callV (av := [(2, g)]) (st := [(0, v5)]) (d2 := 2) (nc2 := 0) (ns2 := 0) (pc' := 105) dX7_openAll_102 rfl mtX7_nextStrike mvX7_nextStrike mlX7_113 cl7 rfl rfl rfl (Nat.le_of_ble_eq_true rfl) (by decide) ⟨by decide, by decide⟩ rfl (pX7_nextStrike (E := E) (h := h) (M := M3) (g := g) hg hG2) (kF (st2 := [(0, (fX7_nextStrike M3 g)), (0, v5)]) rfl (fun hG11 => ?_))
            refine T_iconst (pc' := 106) dX7_openAll_105 (by decide) rfl ?_
            refine T_isub (pc' := 107) dX7_openAll_106 rfl ?_
            refine U_mmax (pc' := 110) dX7_openAll_107 rfl mlX7_117 (Nat.le_of_ble_eq_true rfl) (by decide) ⟨by decide, by decide⟩ rfl ?_
            refine T_istore (i := 5) (L' := [(2, 9), (2, g), (3, 0), (3, 0), (0, v4), (0, (if v5 < (wr32 ((fX7_nextStrike M3 g) - 1)) then (wr32 ((fX7_nextStrike M3 g) - 1)) else v5))]) (pc' := 112) dX7_openAll_110 (by decide) rfl rfl ?_
            exact T_wk (L' := [(2, 9), (2, g), (3, 0), (3, 0), (0, v4), (0, (if v5 < (wr32 ((fX7_nextStrike M3 g) - 1)) then (wr32 ((fX7_nextStrike M3 g) - 1)) else v5))]) (by have q := HJ9; try simp only [if_pos c10] at q ⊢; exact q) ⟨Or.inr rfl, Or.inr rfl, Or.inl rfl, Or.inl rfl, Or.inr rfl, Or.inr rfl, trivial⟩
        · skip
          replace H := H.2 c8
          exact T_vret dX7_openAll_90 rfl ⟨rfl, hG2, rfl, H⟩
set_option maxRecDepth 100000 in
set_option maxHeartbeats 2000000 in
theorem pX7_openAll {E : EV} {h : Int} {M : Mem} {g : Int} {v2 : Int} {v3 : Int} {v4 : Int} (hg : isG g) {Q : Int → Mem → Prop} (H : PX7_openAll g v2 v3 v4 M Q) : C2 E miX7_openAll 4 h [(2, 9), (2, g), (0, v2), (0, v3), (0, v4)] M (RV Q) := by
  refine C2_of (L := [(2, 9), (2, g), (0, v2), (0, v3), (0, v4), (3, 0)]) (by decide +kernel) (Nat.le_of_ble_eq_true rfl) rfl (fun hG => ?_)
  refine T_aload_n (i := 0) (pc' := 1) dX7_openAll_0 rfl rfl rfl ?_
  refine T_iload_n (i := 2) (pc' := 2) dX7_openAll_1 rfl rfl rfl ?_
  refine U_pf (y := v2) (k := 6) (kI := 6) (pc' := 5) dX7_openAll_2 rfl cl7 (by decide) rfl (by decide) flX7_30 rfl rfl rfl rfl rfl (by decide) (fun z => z) rfl ?_
  have hG1 := (G_fld (x := 9) (i := 6) (y := v2) rfl (by decide) (by decide) (by decide) hG)
  obtain ⟨M2, eM2⟩ : ∃ m : Mem, m = (mset M 9 6 v2) := ⟨_, rfl⟩
  rw [← eM2] at hG1 ⊢
  replace H := H M2 eM2
  refine T_aload_n (i := 0) (pc' := 6) dX7_openAll_5 rfl rfl rfl ?_
  refine T_iconst (pc' := 7) dX7_openAll_6 (by decide) rfl ?_
  refine U_pf (y := 0) (k := 7) (kI := 7) (pc' := 10) dX7_openAll_7 rfl cl7 (by decide) rfl (by decide) flX7_34 rfl rfl rfl rfl rfl (by decide) (fun z => z) rfl ?_
  have hG3 := (G_fld (x := 9) (i := 7) (y := 0) rfl (by decide) (by decide) (by decide) hG1)
  obtain ⟨M4, eM4⟩ : ∃ m : Mem, m = (mset M2 9 7 0) := ⟨_, rfl⟩
  rw [← eM4] at hG3 ⊢
  replace H := H M4 eM4
  refine T_aload_n (i := 0) (pc' := 11) dX7_openAll_10 rfl rfl rfl ?_
  refine T_iconst (pc' := 12) dX7_openAll_11 (by decide) rfl ?_
  refine U_pf (y := 0) (k := 8) (kI := 8) (pc' := 15) dX7_openAll_12 rfl cl7 (by decide) rfl (by decide) flX7_37 rfl rfl rfl rfl rfl (by decide) (fun z => z) rfl ?_
  have hG5 := (G_fld (x := 9) (i := 8) (y := 0) rfl (by decide) (by decide) (by decide) hG3)
  obtain ⟨M6, eM6⟩ : ∃ m : Mem, m = (mset M4 9 8 0) := ⟨_, rfl⟩
  rw [← eM6] at hG5 ⊢
  replace H := H M6 eM6
  refine T_iconst (pc' := 16) dX7_openAll_15 (by decide) rfl ?_
  refine T_istore (i := 5) (L' := [(2, 9), (2, g), (0, v2), (0, v3), (0, v4), (0, 0)]) (pc' := 18) dX7_openAll_16 (by decide) rfl rfl ?_
  obtain ⟨k7, H⟩ := H
  refine T_wk (L' := [(2, 9), (2, g), (3, 0), (0, v3), (0, v4), (0, 0)]) (qX7_openAll_18 (v3 := v3) (v4 := v4) hg (fun M8 H hG9 => ?_) _ _ _ H hG5) ⟨Or.inr rfl, Or.inr rfl, Or.inl rfl, Or.inr rfl, Or.inr rfl, Or.inr rfl, trivial⟩
  refine T_aload_n (i := 0) (pc' := 52) dX7_openAll_51 rfl rfl rfl ?_
  refine U_gf (v := (0, (M8 9 9))) (k := 9) (kI := 9) (pc' := 55) dX7_openAll_52 rfl cl7 (by decide) rfl (by decide) flX7_40 rfl rfl (by decide) rfl rfl ?_
  refine T_iconst (pc' := 56) dX7_openAll_55 (by decide) rfl ?_
  refine T_icmp_eq (pc' := 60) dX7_openAll_56 (by decide) (pf := 59) rfl (fun c10 => ?_) (fun c10 => ?_)
  · skip
    replace H := H.1 c10
    refine T_iload_n (i := 3) (pc' := 61) dX7_openAll_60 rfl rfl rfl ?_
    refine T_istore (i := 5) (L' := [(2, 9), (2, g), (3, 0), (0, v3), (0, v4), (0, v3)]) (pc' := 63) dX7_openAll_61 (by decide) rfl rfl ?_
    obtain ⟨k11, H⟩ := H
    refine T_wk (L' := [(2, 9), (2, g), (3, 0), (3, 0), (0, v4), (0, v3)]) (qX7_openAll_63 (v4 := v4) hg (fun M12 H hG13 => ?_) _ _ _ H hG9) ⟨Or.inr rfl, Or.inr rfl, Or.inl rfl, Or.inl rfl, Or.inr rfl, Or.inr rfl, trivial⟩
    exact T_vret dX7_openAll_118 rfl ⟨rfl, hG13, rfl, H⟩
  · skip
    replace H := H.2 c10
    exact T_vret dX7_openAll_59 rfl ⟨rfl, hG9, rfl, H⟩
