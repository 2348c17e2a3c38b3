/-! the text of a hall: a statement of the class, and all of them -/
section
variable {b : Int → Int} {n p e g w : Int} {H : Hal} {M M' : Mem} {Q : Int → Mem → Prop}
theorem fdx_ge : ∀ (is : List Nat) (k : Int), fdx b n p e is k = -1 ∨ (k ≤ fdx b n p e is k ∧ fdx b n p e is k < k + is.length)
  | [], _ => Or.inl rfl
  | i :: is, k => by
    have e2 : fdx b n p e (i :: is) k = if iswd b n p e (wd i) = true then k else fdx b n p e is (k + 1) := rfl
    have l1 : (((i :: is).length : Nat) : Int) = (is.length : Int) + 1 := by show ((is.length + 1 : Nat) : Int) = _; omega
    rw [e2, l1]
    by_cases z : iswd b n p e (wd i) = true
    · rw [if_pos z]; exact Or.inr ⟨Int.le_refl _, by omega⟩
    · rw [if_neg z]
      rcases fdx_ge is (k + 1) with u | u
      · exact Or.inl u
      · exact Or.inr ⟨by omega, by omega⟩
theorem fdx_k {is : List Nat} {k : Int} (h : fdx b n p e is k ≠ -1) : knd b n p e = 1 := Classical.byContradiction (fun z => h (fdx_no z is k))
theorem full_c {k : Int} (hD : Dc g H w M) : fX2_isFull M g k = if full H w k = true then 1 else 0 := by
  obtain ⟨⟨c1, _⟩, d1, _⟩ := hD
  unfold fX2_isFull full
  rw [d1, c1.2.2.1, c1.2.2.2.1, c1.2.2.2.2.1]
  have one : ∀ x m : Int, (if x < m then (0 : Int) else 1) = if decide (m ≤ x) = true then 1 else 0 := by
    intro x m
    by_cases z : x < m
    · rw [if_pos z, if_neg (fun y => by have := of_decide_eq_true y; omega)]
    · rw [if_neg z, if_pos (decide_eq_true (by omega))]
  by_cases a1 : k = 1
  · rw [if_pos a1, if_pos a1]; exact one _ _
  rw [if_neg a1, if_neg a1]
  by_cases a2 : k = 2
  · rw [if_pos a2, if_pos a2]; exact one _ _
  rw [if_neg a2, if_neg a2]
  by_cases a3 : k = 3
  · rw [if_pos a3, if_pos a3]; exact one _ _
  rw [if_neg a3, if_neg a3]
  by_cases a4 : k = 4
  · rw [if_pos a4, if_pos a4]; exact one _ _
  rw [if_neg a4, if_neg a4, if_neg (by decide)]
theorem full_1 (h : ¬ full H w 1 = true) : w < 15 := by
  unfold full at h
  rw [if_pos rfl, decide_eq_true_iff] at h
  omega
theorem full_2 (h : ¬ full H w 2 = true) : H 0 2 < 6 := by
  unfold full at h
  rw [if_neg (by decide), if_pos rfl, decide_eq_true_iff] at h
  omega
theorem full_3 (h : ¬ full H w 3 = true) : H 0 4 < 9 := by
  unfold full at h
  rw [if_neg (by decide), if_neg (by decide), if_pos rfl, decide_eq_true_iff] at h
  omega
theorem full_4 (h : ¬ full H w 4 = true) : H 0 3 < 4 := by
  unfold full at h
  rw [if_neg (by decide), if_neg (by decide), if_neg (by decide), if_pos rfl, decide_eq_true_iff] at h
  omega
theorem sta_c (hg : isG g) (hd : DOK H w) (hT : cK b n p e M) (hD : Dc g H w M) (hs : ¬ M 4 1 = 0) (hF : ∀ f pl, pA b n p e H w = Sum.inl (f, pl) → ∀ M' : Mem, tfr g M M' → cFl f pl M' → Q 0 M') (hO : ∀ x, pA b n p e H w = Sum.inr x → ∀ M' : Mem, tfr g M M' → cK b n x.2.1 x.2.2 M' → Dc g x.1.1 x.1.2 M' → Q 1 M') : PX2_takeStatement g M Q := by
  have hh : 31 < g := by rcases hg with rfl | rfl <;> decide
  have un := una_c hT
  intro a2 h2
  rw [find_c hT.1 (by decide)] at h2
  have bad : (a2 < 1 ∨ 8 < a2) → ∀ M5 : Mem, M5 = fmX9_unasked M → ((fX9_unasked : Int) = 0 ∨ (fX9_unasked : Int) = 1) ∧ Q fX9_unasked M5 := by
    intro z M5 h5
    rw [h5]
    refine ⟨Or.inl rfl, hF 1 p ?_ _ (tfr_c un.1) un.2⟩
    unfold pA
    rw [← h2, if_pos z]
  refine ⟨fun z => bad (Or.inl (by omega)), fun z => ⟨fun y => bad (Or.inr y), fun y => ⟨fun x => ?_, fun x => bad (Or.inl ?_)⟩⟩⟩
  · -- a statement
    rw [if_neg hs] at x
    have n0 : ¬ a2 = 0 := fun v => by rw [if_pos v] at x; exact absurd x (by decide)
    rw [full_c hD]
    by_cases fu : full H w a2 = true
    · rw [if_pos fu]
      refine ⟨fun v => absurd v (by decide), fun _ M77 h77 => ?_⟩
      rw [hT.1.2.2.2.2.1] at h77
      have fc := fail_c hT 5 p
      rw [h77]
      refine ⟨Or.inl rfl, hF 5 p ?_ _ (tfr_c fc.1) fc.2⟩
      unfold pA
      rw [← h2, if_neg (by omega), if_pos fu]
    · rw [if_neg fu]
      refine ⟨fun _ => ?_, fun v => absurd rfl v⟩
      have k1 : knd b n p e = 1 := fdx_k (is := fl 0) (k := 0) (by rw [← h2]; omega)
      have eA : pA b n p e H w = bnd (pB b n (nxp b n p) (nxe b n p) H w a2) (fun x => bnd (pS b n x.2.1 x.2.2 59) (fun t => Sum.inr (x.1, t.1, t.2))) := by
        unfold pA
        rw [← h2, if_neg (by omega), if_neg fu]
      rw [eA] at hF hO
      refine nx_k hT (Or.inl k1) (fun M15 r15 k15 => ?_)
      have D15 := Dc_fr hg r15 hD
      have tail : ∀ x, pB b n (nxp b n p) (nxe b n p) H w a2 = Sum.inr x → ∀ N : Mem, tfr g M15 N → cK b n x.2.1 x.2.2 N → Dc g x.1.1 x.1.2 N → PX9_takeSign 59 N (fun a32 M33 => (((if a32 = 0 then (0 : Int) else 1) : Int) = 0 ∨ ((if a32 = 0 then (0 : Int) else 1) : Int) = 1) ∧ Q (if a32 = 0 then (0 : Int) else 1) M33) := by
        intro x hx N t kN dN
        refine S_c kN (fun f pl h M33 r33 c33 => ⟨Or.inl rfl, hF f pl (by rw [bnd_r hx]; exact bnd_l h) M33 (tfr_t (tfr_t (tfr_c r15) t) (tfr_c r33)) c33⟩) (fun y hy M33 r33 k33 => ⟨Or.inr rfl, hO (x.1, y.1, y.2) (by rw [bnd_r hx]; exact bnd_r hy) M33 (tfr_t (tfr_t (tfr_c r15) t) (tfr_c r33)) k33 (Dc_fr hg r33 dN)⟩)
      have ff : ∀ f pl, pB b n (nxp b n p) (nxe b n p) H w a2 = Sum.inl (f, pl) → ∀ N : Mem, tfr g M15 N → cFl f pl N → Q 0 N := fun f pl h N t c => hF f pl (bnd_l h) N (tfr_t (tfr_c r15) t) c
      refine ⟨fun v => absurd v n0, fun _ => ⟨fun v => ?_, fun v1 => ⟨fun v => ?_, fun v2 => ⟨fun v => ?_, fun v3 => ⟨fun v => ?_, fun v4 => ?_⟩⟩⟩⟩⟩
      · rw [v] at fu tail ff
        exact wal_c hg hd (full_1 fu) k15 D15 (fun f pl h N t c => ⟨fun _ => ff f pl h N t c, fun u => absurd rfl u⟩) (fun x h N t kN dN => ⟨fun u => absurd u (by decide), fun _ => tail x h N t kN dN⟩)
      · rw [v] at fu tail ff
        exact dor_c hg hd (full_2 fu) k15 D15 (fun f pl h N t c => ⟨fun _ => ff f pl h N t c, fun u => absurd rfl u⟩) (fun x h N t kN dN => ⟨fun u => absurd u (by decide), fun _ => tail x h N t kN dN⟩)
      · rw [v] at fu tail ff
        exact prs_c hg hd (full_3 fu) k15 D15 (fun f pl h N t c => ⟨fun _ => ff f pl h N t c, fun u => absurd rfl u⟩) (fun x h N t kN dN => ⟨fun u => absurd u (by decide), fun _ => tail x h N t kN dN⟩)
      · rw [v] at fu tail ff
        exact grd_c hg hd (full_4 fu) k15 D15 (fun f pl h N t c => ⟨fun _ => ff f pl h N t c, fun u => absurd rfl u⟩) (fun x h N t kN dN => ⟨fun u => absurd u (by decide), fun _ => tail x h N t kN dN⟩)
      · exact rul_c (by omega) hg k15 D15 (fun f pl h N t c => ⟨fun _ => ff f pl h N t c, fun u => absurd rfl u⟩) (fun x h N t kN dN => ⟨fun u => absurd u (by decide), fun _ => tail x h N t kN dN⟩)
  · rw [if_neg hs] at x
    by_cases v : a2 = 0
    · omega
    · rw [if_neg v] at x
      exact absurd rfl x
theorem bnd_i {A B : Type} {x : Sum (Int × Int) A} {f : A → Sum (Int × Int) B} {y : B} (h : bnd x f = Sum.inr y) : ∃ a, x = Sum.inr a ∧ f a = Sum.inr y := by
  cases x with
  | inl e =>
    have h2 : (Sum.inl e : Sum (Int × Int) B) = Sum.inr y := h
    cases h2
  | inr a => exact ⟨a, rfl, h⟩
theorem pL_v {x : Int × Int × Int} (h : pL b n p e = Sum.inr x) : 0 ≤ x.1 ∧ x.1 ≤ 120 := by
  unfold pL at h
  by_cases z : isg b n p e 45 = true
  · rw [if_pos z] at h
    obtain ⟨v, h1, h2⟩ := bnd_i h
    have vv := pN_v h1
    have e2 : (60 - v.1, v.2.1, v.2.2) = x := by injection h2
    rw [← e2]
    show 0 ≤ 60 - v.1 ∧ 60 - v.1 ≤ 120
    omega
  · rw [if_neg z] at h
    obtain ⟨v, h1, h2⟩ := bnd_i h
    have vv := pN_v h1
    have e2 : (60 + v.1, v.2.1, v.2.2) = x := by injection h2
    rw [← e2]
    show 0 ≤ 60 + v.1 ∧ 60 + v.1 ≤ 120
    omega
theorem pT_v {x : Int × Int × Int} (h : pT b n p e = Sum.inr x) : (1 ≤ x.1 ∧ x.1 ≤ 12) ∧ ∀ i, 0 ≤ i → i < x.1 → 0 ≤ wof (b (p + i)) ∧ wof (b (p + i)) ≤ 4 := by
  unfold pT at h
  by_cases z : knd b n p e = 1 ∧ tnd b n p - p ≤ 12 ∧ allw b p (tnd b n p - p).toNat = true
  · rw [if_pos z] at h
    have e2 : (tnd b n p - p, nxp b n p, nxe b n p) = x := by injection h
    have k1 := knd_1.mp z.1
    have gt : p < tnd b n p := by
      unfold tnd
      rw [if_neg (by have := k1.1; omega), if_pos k1.2.1, fwd_1 k1.1 k1.2.1]
      have s := fwd_s (f := ltr) (b := b) (n := n) (i := p + 1) (by have := k1.1; omega)
      omega
    rw [← e2]
    refine ⟨⟨by show 1 ≤ tnd b n p - p; omega, z.2.1⟩, fun i i0 i1 => ?_⟩
    have i1' : i < tnd b n p - p := i1
    have aw := allw_i z.2.2 i.toNat (by omega)
    rw [show ((i.toNat : Nat) : Int) = i by omega] at aw
    rcases wof_b (b (p + i)) with u | u
    · exact absurd u aw
    · exact u
  · rw [if_neg z] at h; cases h
theorem pP_ok (hd : DOK H w) (ok : bOK b n p) (hw : H 0 4 < 9) {y : Hal × Int × Int} (h0 : pP b n p e H = Sum.inr y) : DOK y.1 w := by
  unfold pP at h0
  obtain ⟨a, h1, h0⟩ := bnd_i h0
  obtain ⟨t1, h2, h0⟩ := bnd_i h0
  obtain ⟨c, h3, h0⟩ := bnd_i h0
  obtain ⟨t2, h4, h0⟩ := bnd_i h0
  obtain ⟨wt, h5, h0⟩ := bnd_i h0
  obtain ⟨t3, h6, h0⟩ := bnd_i h0
  obtain ⟨d, h7, h0⟩ := bnd_i h0
  obtain ⟨t4, h8, h0⟩ := bnd_i h0
  obtain ⟨m, h9, h0⟩ := bnd_i h0
  obtain ⟨t5, h10, h0⟩ := bnd_i h0
  obtain ⟨q, h11, h0⟩ := bnd_i h0
  have av := (pM_v ok h1).1
  have cv := pC_b hd h3
  have c1 := mst_3 (by decide) (by decide) cv.2
  have dv := pN_v h7
  have mv := pN_v h9
  have wv := pL_v h5
  have qv := pT_v h11
  have both : ∀ k : Int, (k = 0 ∨ k = 1) → DOK (uP H a.1 a.2.1 c.1 wt.1 d.1 m.1 (fun k => wof (b (t5.1 + k))) q.1 k) w := fun k hk => uP_ok hd hw ⟨cv.1.1, cv.1.2, c1⟩ wv dv mv hk qv.1 qv.2 av
  clear h1 h2 h3 h4 h5 h6 h7 h8 h9 h10 h11 av cv c1 dv mv wv qv
  by_cases z : iswd b n q.2.1 q.2.2 (wd 77) = true
  · have h0' : (if iswd b n q.2.1 q.2.2 (wd 77) = true then (Sum.inr (uP H a.1 a.2.1 c.1 wt.1 d.1 m.1 (fun k => wof (b (t5.1 + k))) q.1 1, nxp b n q.2.1, nxe b n q.2.1) : Sum (Int × Int) (Hal × Int × Int)) else Sum.inr (uP H a.1 a.2.1 c.1 wt.1 d.1 m.1 (fun k => wof (b (t5.1 + k))) q.1 0, q.2.1, q.2.2)) = Sum.inr y := h0
    rw [if_pos z] at h0'
    injection h0' with h0'
    rw [← h0']
    exact both 1 (Or.inr rfl)
  · have h0' : (if iswd b n q.2.1 q.2.2 (wd 77) = true then (Sum.inr (uP H a.1 a.2.1 c.1 wt.1 d.1 m.1 (fun k => wof (b (t5.1 + k))) q.1 1, nxp b n q.2.1, nxe b n q.2.1) : Sum (Int × Int) (Hal × Int × Int)) else Sum.inr (uP H a.1 a.2.1 c.1 wt.1 d.1 m.1 (fun k => wof (b (t5.1 + k))) q.1 0, q.2.1, q.2.2)) = Sum.inr y := h0
    rw [if_neg z] at h0'
    injection h0' with h0'
    rw [← h0']
    exact both 0 (Or.inl rfl)
theorem pG_ok (hd : DOK H w) (ok : bOK b n p) (hw : H 0 3 < 4) {y : Hal × Int × Int} (h0 : pG b n p e H = Sum.inr y) : DOK y.1 w := by
  unfold pG at h0
  obtain ⟨a, h1, h0⟩ := bnd_i h0
  obtain ⟨t1, h2, h0⟩ := bnd_i h0
  obtain ⟨c, h3, h0⟩ := bnd_i h0
  obtain ⟨t2, h4, h0⟩ := bnd_i h0
  obtain ⟨s, h5, h0⟩ := bnd_i h0
  obtain ⟨t3, h6, h0⟩ := bnd_i h0
  obtain ⟨l, h7, h0⟩ := bnd_i h0
  have cv := pC_b hd h3
  have res := uG_ok hd hw (c := c.1) ⟨cv.1.1, cv.1.2, mst_3 (by decide) (by decide) cv.2⟩ (pN_v h5) (pN_v h7) (pM_v ok h1).1
  clear h1 h2 h3 h4 h5 h6 h7 cv
  injection h0 with h0
  rw [← h0]
  exact res
theorem pB_ok (hd : DOK H w) (ok : bOK b n p) {k : Int} (hk : 1 ≤ k ∧ k ≤ 8) (hf : ¬ full H w k = true) {x : (Hal × Int) × Int × Int} (h : pB b n p e H w k = Sum.inr x) : DOK x.1.1 x.1.2 := by
  unfold pB at h
  by_cases k1 : k = 1
  · subst k1
    rw [if_pos rfl] at h
    obtain ⟨c, h1, h⟩ := bnd_i h
    have cv := pC_b hd h1
    have res := uW_ok hd (full_1 hf) cv.1 cv.2
    injection h with h
    rw [← h]
    exact res
  rw [if_neg k1] at h
  by_cases k2 : k = 2
  · subst k2
    rw [if_pos rfl] at h
    obtain ⟨c, h1, h⟩ := bnd_i h
    have cv := pC_b hd h1
    have res := uD_ok hd (full_2 hf) cv.1 cv.2
    injection h with h
    rw [← h]
    exact res
  rw [if_neg k2] at h
  by_cases k3 : k = 3
  · subst k3
    rw [if_pos rfl] at h
    obtain ⟨c, h1, h⟩ := bnd_i h
    have res := pP_ok hd ok (full_3 hf) h1
    injection h with h
    rw [← h]
    exact res
  rw [if_neg k3] at h
  by_cases k4 : k = 4
  · subst k4
    rw [if_pos rfl] at h
    obtain ⟨c, h1, h⟩ := bnd_i h
    have res := pG_ok hd ok (full_4 hf) h1
    injection h with h
    rw [← h]
    exact res
  rw [if_neg k4] at h
  obtain ⟨v, h1, h⟩ := bnd_i h
  have vv := pN_v h1
  have res := uR_ok hd (k := k) (v := v.1) (by omega) vv.1 vv.2
  injection h with h
  rw [← h]
  exact res
theorem pA_ok (hd : DOK H w) (ok : bOK b n p) {x : (Hal × Int) × Int × Int} (h : pA b n p e H w = Sum.inr x) : DOK x.1.1 x.1.2 := by
  unfold pA at h
  by_cases a : fdx b n p e (fl 0) 0 < 1 ∨ 8 < fdx b n p e (fl 0) 0
  · rw [if_pos a] at h; cases h
  rw [if_neg a] at h
  by_cases c : full H w (fdx b n p e (fl 0) 0) = true
  · rw [if_pos c] at h; cases h
  rw [if_neg c] at h
  cases h1 : pB b n (nxp b n p) (nxe b n p) H w (fdx b n p e (fl 0) 0) with
  | inl f => rw [bnd_l h1] at h; cases h
  | inr y =>
    rw [bnd_r h1] at h
    cases h2 : pS b n y.2.1 y.2.2 59 with
    | inl f => rw [bnd_l h2] at h; cases h
    | inr t =>
      rw [bnd_r h2] at h
      have e1 : (y.1, t.1, t.2) = x := by injection h
      rw [← e1]
      have r := pB_ok hd (nx_ok ok).1 (by omega) c h1
      exact r
end
