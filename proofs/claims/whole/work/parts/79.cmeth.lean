/-! the text of a hall: the class's methods -/
section
variable {b : Int → Int} {n p e g w : Int} {H : Hal} {M M' : Mem} {Q : Int → Mem → Prop}
theorem lt_all (hk : knd b n p e = 1) (h : bOK b n p) : ∀ j : Nat, j < (tnd b n p - p).toNat → ltr (b (p + j)) = true := by
  have k1 := knd_1.mp hk
  have e1 : tnd b n p = fwd ltr b n p := by unfold tnd; rw [if_neg (by have := k1.1; omega), if_pos k1.2.1]
  have s := fwd_s (f := ltr) (b := b) (n := n) (i := p) h.2.2.2.2.1
  intro j hj
  rw [e1] at hj
  exact s.2.2.1 _ (by omega) (by omega)
theorem lts_b (hk : knd b n p e = 1) (h : bOK b n p) : ∀ j : Nat, j < (tnd b n p - p).toNat → 1 ≤ lts b p j ∧ lts b p j ≤ 26 := by
  intro j hj
  have l := ltr_b (lt_all hk h j hj)
  unfold lts
  omega
theorem n32_b {l : Nat → Int} {t : Nat} (hl : ∀ j, j < t → 1 ≤ l j ∧ l j ≤ 26) : ∀ k : Nat, 0 ≤ n32 l t k ∧ n32 l t k < 32 ^ k
  | 0 => ⟨by show (0 : Int) ≤ 0; decide, by show (0 : Int) < 1; decide⟩
  | k + 1 => by
    have ih := n32_b hl k
    have e : n32 l t (k + 1) = 32 * n32 l t k + if k < t then l k else 0 := rfl
    rw [e, Int.pow_succ]
    obtain ⟨x, hx⟩ : ∃ x, x = n32 l t k := ⟨_, rfl⟩
    obtain ⟨y, hy⟩ : ∃ y : Int, y = 32 ^ k := ⟨_, rfl⟩
    rw [← hx, ← hy] at ih ⊢
    by_cases z : k < t
    · rw [if_pos z]
      have := hl k z
      omega
    · rw [if_neg z]
      omega
theorem p32 : ∀ k : Fin 7, (32 : Int) ^ (k : Nat) ≤ 1073741824 := by decide
theorem n32_c {l : Nat → Int} {t : Nat} (hl : ∀ j, j < t → 1 ≤ l j ∧ l j ≤ 26) {k : Nat} (hk : k ≤ 6) : 0 ≤ n32 l t k ∧ n32 l t k < 1073741824 := by
  have a := n32_b hl k
  have c := p32 ⟨k, by omega⟩
  have c' : (32 : Int) ^ k ≤ 1073741824 := c
  omega
theorem nm71 {K : Int → Mem → Prop} (hT : cT b n p e M) (hk : knd b n p e = 1) (h6 : tnd b n p - p ≤ 6) (hK : K (n32 (lts b p) (tnd b n p - p).toNat 6) M) : ∀ (k m : Nat), m ≤ 6 → 6 < m + k → PX2_takeName_71 K Q k (n32 (lts b p) (tnd b n p - p).toNat m) m M := by
  obtain ⟨ok, t1, t2, t3, t4, t5⟩ := hT
  have tb := tnd_b ok
  have la := lts_b hk ok
  have lz := lt_all hk ok
  obtain ⟨h1, h2, h3, hp0, h5, h6'⟩ := id ok
  have hl : fX9_letters M = tnd b n p - p := by
    unfold fX9_letters
    rw [t4, t5, wsu (by omega) (by omega)]
  obtain ⟨t, ht⟩ : ∃ t, t = tnd b n p := ⟨_, rfl⟩
  rw [← ht] at hl h6 hK la lz tb ⊢
  intro k
  induction k with
  | zero => intro m a c; omega
  | succ k ih =>
    intro m a c
    refine ⟨fun z => ?_, fun z => ?_⟩
    · have e : m = 6 := by omega
      rw [e]
      exact hK
    · have nb := n32_c la (k := m) (by omega)
      have i := ih (m + 1) (by omega) (by omega)
      have en : n32 (lts b p) (t - p).toNat (m + 1) = 32 * n32 (lts b p) (t - p).toNat m + if m < (t - p).toNat then lts b p m else 0 := rfl
      have nb1 := n32_c la (k := m + 1) (by omega)
      rw [en, show (((m + 1 : Nat)) : Int) = (m : Int) + 1 by omega] at i
      rw [en] at nb1
      have key : (if (fX9_letters M) ≤ (m : Int) then (0 : Int) else (wr32 ((wr32 ((fX9_byteIn M m) - 97)) + 1))) = if m < (t - p).toNat then lts b p m else 0 := by
        rw [hl]
        by_cases y : m < (t - p).toNat
        · have by_ := byte_c (b := b) (M := M) ⟨h1, h2⟩ t1 t2 (k := p + m) (by omega)
          have l := ltr_b (lz m y)
          rw [if_neg (by omega), if_pos y]
          unfold fX9_byteIn
          rw [t4, wad (a := p) (by omega) (by omega), by_, if_neg (by omega), wsu (by omega) (by omega), wad (by omega) (by omega)]
          unfold lts
          omega
        · rw [if_pos (by omega), if_neg y]
      rw [key]
      clear en key
      obtain ⟨x, hx⟩ : ∃ x, x = n32 (lts b p) (t - p).toNat m := ⟨_, rfl⟩
      obtain ⟨y, hy⟩ : ∃ y, y = if m < (t - p).toNat then lts b p m else 0 := ⟨_, rfl⟩
      have hy0 : 0 ≤ y ∧ y ≤ 26 := by
        rw [hy]
        by_cases v : m < (t - p).toNat
        · rw [if_pos v]; have := la m v; omega
        · rw [if_neg v]; omega
      rw [← hx, ← hy] at i nb1 ⊢
      rw [← hx] at nb
      clear hx hy
      rw [wmu (a := 32) (by omega) (by omega), wad (a := 32 * x) (by omega) (by omega), wad (a := (m : Int)) (by omega) (by omega)]
      exact i
theorem nam_c (hg : isG g) (hd : DOK H w) (hT : cK b n p e M) (hD : Dc g H w M) (hF : ∀ f pl, pM b n p e H = Sum.inl (f, pl) → ∀ M' : Mem, cfr M M' → cFl f pl M' → Q (-1) M') (hO : ∀ x, pM b n p e H = Sum.inr x → ∀ M' : Mem, cfr M M' → cK b n x.2.2.1 x.2.2.2 M' → Q x.1 M') : PX2_takeName g M Q := by
  obtain ⟨ok, t1, t2, t3, t4, t5⟩ := id hT.1
  have tb := tnd_b ok
  obtain ⟨h1, h2, h3, hp0, h5, h6⟩ := id ok
  have hl : fX9_letters M = tnd b n p - p := by
    unfold fX9_letters
    rw [t4, t5, wsu (by omega) (by omega)]
  have un := una_c hT
  have bad : ¬ (knd b n p e = 1 ∧ fdx b n p e (fl 0) 0 = -1) → ∀ M3 : Mem, M3 = fmX9_unasked M → Q (-1) M3 := by
    intro z M3 h3'
    rw [h3']
    refine hF 1 p ?_ _ un.1 un.2
    unfold pM
    rw [if_neg z]
  refine ⟨fun z a5 h5' => ⟨fun y => ?_, fun y => bad (fun w => y (h5'.trans ((find_c hT.1 (by decide)).trans w.2)))⟩, fun z => bad (fun w => z (t3.trans w.1))⟩
  have k1 : knd b n p e = 1 := t3.symm.trans z
  have fd : fdx b n p e (fl 0) 0 = -1 := ((find_c hT.1 (by decide)).symm.trans h5'.symm).trans y
  rw [hl]
  have ep : pM b n p e H = if tnd b n p - p ≤ 6 then (if hnm H (n32 (lts b p) (tnd b n p - p).toNat 6) = true then Sum.inl (3, p) else Sum.inr (n32 (lts b p) (tnd b n p - p).toNat 6, n27 (lts b p) (tnd b n p - p).toNat, nxp b n p, nxe b n p)) else Sum.inl (1, p + 6) := by
    unfold pM
    rw [if_pos ⟨k1, fd⟩]
  rw [ep] at hF hO
  refine ⟨fun v => ⟨7, nm71 hT.1 k1 v ?_ 7 0 (by decide) (by decide)⟩, fun v M22 h22 => ?_⟩
  · rw [if_pos v] at hF hO
    intro a14 h14
    rw [hnm_c hd.1 hD.1] at h14
    refine ⟨fun u => ?_, fun u M20 h20 => ?_⟩
    · have nh : ¬ hnm H (n32 (lts b p) (tnd b n p - p).toNat 6) = true := fun q => by
        rw [if_pos q] at h14
        rw [h14] at u
        exact absurd u (by decide)
      rw [if_neg nh] at hO
      exact nx_k hT (Or.inl k1) (fun M' f1 f2 => hO _ rfl M' f1 f2)
    · have nh : hnm H (n32 (lts b p) (tnd b n p - p).toNat 6) = true := Classical.byContradiction (fun q => u (by rw [h14, if_neg q]))
      rw [if_pos nh] at hF
      rw [t4] at h20
      have fc := fail_c hT 3 p
      rw [h20]
      exact hF 3 p rfl _ fc.1 fc.2
  · rw [if_neg v] at hF
    rw [t4, wad (by omega) (by omega)] at h22
    have fc := fail_c hT 1 (p + 6)
    rw [h22]
    exact hF 1 (p + 6) rfl _ fc.1 fc.2
theorem pM_v (h : bOK b n p) {x : Int × Int × Int × Int} (hx : pM b n p e H = Sum.inr x) : nmr x.1 x.2.1 ∧ 0 ≤ x.1 ∧ hnm H x.1 = false ∧ knd b n p e = 1 := by
  unfold pM at hx
  by_cases z : knd b n p e = 1 ∧ fdx b n p e (fl 0) 0 = -1
  · rw [if_pos z] at hx
    by_cases y : tnd b n p - p ≤ 6
    · rw [if_pos y] at hx
      by_cases v : hnm H (n32 (lts b p) (tnd b n p - p).toNat 6) = true
      · rw [if_pos v] at hx; cases hx
      · rw [if_neg v] at hx
        have e1 : (n32 (lts b p) (tnd b n p - p).toNat 6, n27 (lts b p) (tnd b n p - p).toNat, nxp b n p, nxe b n p) = x := by injection hx
        rw [← e1]
        have tb := tnd_b h
        have k1 := knd_1.mp z.1
        have la := lts_b z.1 h
        exact ⟨⟨(tnd b n p - p).toNat, lts b p, by have := tb.2.2 k1.1; omega, by omega, la, rfl, rfl⟩, (n32_c la (by decide)).1, Bool.eq_false_iff.mpr v, z.1⟩
    · rw [if_neg y] at hx; cases hx
  · rw [if_neg z] at hx; cases hx
theorem W_c {i s : Nat} {pp : Int} (hs : s < 15) (hf : fl s = [i]) (hT : cK b n p e M) (hF : ∀ f pl, pW b n p e i = Sum.inl (f, pl) → ∀ M' : Mem, cfr M M' → cFl f pl M' → Q 0 M') (hO : ∀ x, pW b n p e i = Sum.inr x → ∀ M' : Mem, cfr M M' → cK b n x.1 x.2 M' → Q 1 M') : PX9_takeWord pp s M Q :=
  tw_c hs hf hT (fun h M' r x => hF 1 p (by unfold pW; rw [if_neg (by rw [h]; decide)]) M' r x) (fun h M' r k => hO _ (by unfold pW; rw [if_pos h]) M' r k)
theorem S_c {c : Int} (hT : cK b n p e M) (hF : ∀ f pl, pS b n p e c = Sum.inl (f, pl) → ∀ M' : Mem, cfr M M' → cFl f pl M' → Q 0 M') (hO : ∀ x, pS b n p e c = Sum.inr x → ∀ M' : Mem, cfr M M' → cK b n x.1 x.2 M' → Q 1 M') : PX9_takeSign c M Q :=
  sg_c hT (fun h M' r x => hF 1 p (by unfold pS; rw [if_neg (by rw [h]; decide)]) M' r x) (fun h M' r k => hO _ (by unfold pS; rw [if_pos h]) M' r k)
theorem N_c {l m w : Int} (hT : cK b n p e M) (hF : ∀ f pl, pN b n p e l m w = Sum.inl (f, pl) → ∀ M' : Mem, cfr M M' → cFl f pl M' → Q (-1) M') (hO : ∀ x, pN b n p e l m w = Sum.inr x → ∀ M' : Mem, cfr M M' → cK b n x.2.1 x.2.2 M' → Q x.1 M') : PX9_takeNumber l m w M Q :=
  num_c hT (fun f pl h M' r x => hF f pl (pN_l.mpr h) M' r x) (fun v h M' r k => hO _ (pN_r h) M' r k)
/-- a number behind a word -/
theorem nb_c {i s : Nat} {pp l m : Int} (hs : s < 15) (hf : fl s = [i]) (hT : cK b n p e M) (hF : ∀ f pl, bnd (pW b n p e i) (fun t => pN b n t.1 t.2 l m t.1) = Sum.inl (f, pl) → ∀ M' : Mem, cfr M M' → cFl f pl M' → Q (-1) M') (hO : ∀ t, pW b n p e i = Sum.inr t → ∀ x, pN b n t.1 t.2 l m t.1 = Sum.inr x → ∀ M' : Mem, cfr M M' → cK b n x.2.1 x.2.2 M' → Q x.1 M') : PX2_numberBehind pp s l m M Q := by
  refine W_c hs hf hT (fun f pl h M2 r x => ⟨fun _ => hF f pl (bnd_l h) M2 r x, fun z => absurd rfl z⟩) (fun t h M2 r k2 => ⟨fun z => absurd z (by decide), fun _ => ?_⟩)
  rw [k2.1.2.2.2.2.1]
  exact N_c k2 (fun f pl h' M6 r6 x => hF f pl (by rw [bnd_r h]; exact h') M6 (cfr_t r r6) x) (fun x h' M6 r6 k6 => hO t h x h' M6 (cfr_t r r6) k6)
theorem wy (x : Int) : fX2_wayOf x = wof x := by
  unfold fX2_wayOf wof
  by_cases a : x = 110
  · subst a; decide
  by_cases c : x = 101
  · subst c; decide
  rw [if_neg c, if_neg a, if_neg a, if_neg c]
theorem wof_b (x : Int) : wof x = -1 ∨ (0 ≤ wof x ∧ wof x ≤ 4) := by
  unfold wof
  by_cases a : x = 110
  · rw [if_pos a]; omega
  by_cases c : x = 101
  · rw [if_neg a, if_pos c]; omega
  by_cases d : x = 115
  · rw [if_neg a, if_neg c, if_pos d]; omega
  by_cases e : x = 119
  · rw [if_neg a, if_neg c, if_neg d, if_pos e]; omega
  by_cases f : x = 120
  · rw [if_neg a, if_neg c, if_neg d, if_neg e, if_pos f]; omega
  · rw [if_neg a, if_neg c, if_neg d, if_neg e, if_neg f]; omega
theorem allw_i : ∀ {k : Nat}, allw b p k = true → ∀ j : Nat, j < k → wof (b (p + j)) ≠ -1
  | 0, _, j, h => by omega
  | k + 1, h, j, hj => by
    have e : allw b p (k + 1) = (allw b p k && decide (wof (b (p + k)) ≠ -1)) := rfl
    rw [e, Bool.and_eq_true] at h
    by_cases z : j = k
    · rw [z]; exact of_decide_eq_true h.2
    · exact allw_i h.1 j (by omega)
theorem allw_n : ∀ {k m : Nat}, m < k → wof (b (p + m)) = -1 → allw b p k = false
  | 0, m, h, _ => by omega
  | k + 1, m, h, hm => by
    have e : allw b p (k + 1) = (allw b p k && decide (wof (b (p + k)) ≠ -1)) := rfl
    rw [e]
    by_cases z : m = k
    · rw [← z, decide_eq_false (fun y => y hm), Bool.and_false]
    · rw [allw_n (k := k) (by omega) hm, Bool.false_and]
/-- the steps -/
theorem stp_lp {K : Mem → Prop} {P : Int} (hg : isG g) (hT : cK b n p e M) (hk : knd b n p e = 1) (P0 : 0 ≤ P) (P1 : P < 9) (hl : tnd b n p - p ≤ 12) (hF : pT b n p e = Sum.inl (1, p) → ∀ M' : Mem, tfr g M M' → cFl 1 p M' → Q 0 M') (hK : allw b p (tnd b n p - p).toNat = true → ∀ N : Mem, (∀ q, q ≠ g + 8 → N q = M q) → (∀ i, i < 12 * P → N (g + 8) i = M (g + 8) i) → (∀ i, 0 ≤ i → i < tnd b n p - p → N (g + 8) (12 * P + i) = wof (b (p + i))) → K N) : ∀ (k m : Nat) (N : Mem), (m : Int) ≤ tnd b n p - p → tnd b n p - p < (m : Int) + k → (∀ q, q ≠ g + 8 → N q = M q) → (∀ i, i < 12 * P → N (g + 8) i = M (g + 8) i) → (∀ i, 0 ≤ i → i < (m : Int) → N (g + 8) (12 * P + i) = wof (b (p + i))) → allw b p m = true → PX2_takeSteps_50 g P (tnd b n p - p) K Q k m N := by
  have hh : 31 < g := by rcases hg with rfl | rfl <;> decide
  obtain ⟨ok, t1, t2, t3, t4, t5⟩ := id hT.1
  have tb := tnd_b ok
  obtain ⟨h1, h2, h3, hp0, h5, h6⟩ := id ok
  intro k
  induction k with
  | zero => intro m N a c; omega
  | succ k ih =>
    intro m N a c e1 e2 e3 aw
    have hT' : cK b n p e N := cK_d hT (fun q x => e1 q (by omega))
    refine ⟨fun z => ?_, fun z => ?_⟩
    · have em : m = (tnd b n p - p).toNat := by omega
      rw [em] at aw e3
      exact hK aw N e1 e2 (fun i x y => e3 i x (by omega))
    · have by_ : fX9_byteIn N m = b (p + m) := by
        unfold fX9_byteIn
        have t4' : N 3 2 = p := by rw [e1 3 (by omega)]; exact t4
        rw [t4', wad (a := p) (by omega) (by omega), byte_c (b := b) (M := N) ⟨h1, h2⟩ (by rw [e1 1 (by omega)]; exact t1) (fun k x y => by rw [e1 2 (by omega)]; exact t2 k x y) (k := p + m) (by omega), if_neg (by omega)]
      rw [by_, wy]
      clear by_
      refine ⟨fun y M8 h8 => ?_, fun y => ?_⟩
      · have un := una_c hT'
        rw [h8]
        refine ⟨Or.inl rfl, hF ?_ _ (fun q x x2 => ?_) un.2⟩
        · unfold pT
          rw [if_neg (fun v => by
            rw [allw_n (k := (tnd b n p - p).toNat) (m := m) (by omega) y] at v
            exact absurd v.2.2 (by decide))]
        · rw [un.1 q x, e1 q (by omega)]
      · intro M6 h6'
        have ei : Hid (wr32 (wr32 (P * 12) + (m : Int)) = 12 * P + m) := hid (by rw [wmu (by omega) (by omega), wad (by omega) (by omega)]; omega)
        have e4 : Hid (wr32 ((m : Int) + 1) = ((m + 1 : Nat) : Int)) := hid (by rw [wad (by omega) (by omega)]; omega)
        rw [ei.out, rd_put (by omega) (by omega)] at h6'
        rw [e4.out]
        refine ih (m + 1) M6 (by omega) (by omega) (fun q x => by rw [h6', mset_p x]; exact e1 q x) (fun i x => by rw [h6', mset_k (by omega)]; exact e2 i x) (fun i x x2 => ?_) ?_
        · by_cases v : i = (m : Int)
          · rw [v, h6', mset_e]
          · rw [h6', mset_k (by omega)]; exact e3 i x (by omega)
        · show (allw b p m && decide (wof (b (p + m)) ≠ -1)) = true
          rw [aw, decide_eq_true y]; rfl
theorem tst_c {P : Int} (hg : isG g) (hT : cK b n p e M) (P0 : 0 ≤ P) (P1 : P < 9) (hF : ∀ f pl, bnd (pW b n p e 76) (fun t => pT b n t.1 t.2) = Sum.inl (f, pl) → ∀ M' : Mem, tfr g M M' → cFl f pl M' → Q 0 M') (hO : ∀ t, pW b n p e 76 = Sum.inr t → ∀ x, pT b n t.1 t.2 = Sum.inr x → ∀ M' : Mem, (∀ q, q ≠ 3 → q ≠ g + 7 → q ≠ g + 8 → M' q = M q) → (∀ i, i ≠ P → M' (g + 7) i = M (g + 7) i) → M' (g + 7) P = x.1 → (∀ i, i < 12 * P → M' (g + 8) i = M (g + 8) i) → (∀ i, 0 ≤ i → i < x.1 → M' (g + 8) (12 * P + i) = wof (b (t.1 + i))) → cK b n x.2.1 x.2.2 M' → Q 1 M') : PX2_takeSteps g P M Q := by
  have hh : 31 < g := by rcases hg with rfl | rfl <;> decide
  refine W_c (i := 76) (by decide) rfl hT (fun f pl h M2 r x => ⟨fun _ => hF f pl (bnd_l h) M2 (tfr_c r) x, fun z => absurd rfl z⟩) (fun t h M2 r k2 => ⟨fun z => absurd z (by decide), fun _ => ?_⟩)
  obtain ⟨ok, t1, t2, t3, t4, t5⟩ := id k2.1
  have tb := tnd_b ok
  obtain ⟨h1, h2, h3, hp0, h5, h6⟩ := id ok
  have hl : fX9_letters M2 = tnd b n t.1 - t.1 := by
    unfold fX9_letters
    rw [t4, t5, wsu (by omega) (by omega)]
  have un := una_c k2
  have bad : pT b n t.1 t.2 = Sum.inl (1, t.1) → ∀ M8 : Mem, M8 = fmX9_unasked M2 → ((fX9_unasked : Int) = 0 ∨ (fX9_unasked : Int) = 1) ∧ Q fX9_unasked M8 := by
    intro z M8 h8
    rw [h8]
    exact ⟨Or.inl rfl, hF 1 t.1 (by rw [bnd_r h]; exact z) _ (tfr_c (cfr_t r un.1)) un.2⟩
  rw [t3, hl]
  refine ⟨fun z => ⟨fun y => ⟨14, ?_⟩, fun y => bad ?_⟩, fun z => bad ?_⟩
  · refine stp_lp hg k2 z P0 P1 y (fun hp M' f x => hF 1 t.1 (by rw [bnd_r h]; exact hp) M' (tfr_t (tfr_c r) f) x) (fun aw N e1 e2 e3 => ?_) 14 0 M2 (by omega) (by omega) (fun _ _ => rfl) (fun _ _ => rfl) (fun i x y => by omega) rfl
    intro M14 h14
    rw [rd_put P0 (by omega)] at h14
    have k14 : cK b n t.1 t.2 M14 := cK_d k2 (fun q x => by rw [h14, mset_p (by omega)]; exact e1 q (by omega))
    have ep : pT b n t.1 t.2 = Sum.inr (tnd b n t.1 - t.1, nxp b n t.1, nxe b n t.1) := by
      unfold pT
      rw [if_pos ⟨z, y, aw⟩]
    refine nx_k k14 (Or.inl z) (fun M16 r16 k16 => hO t h _ ep M16 (fun q x x7 x8 => by rw [r16 q x, h14, mset_p x7, e1 q x8]; exact r q x) (fun i x => by rw [r16 (g + 7) (by omega), h14, mset_k x, e1 (g + 7) (by omega), r (g + 7) (by omega)]) (by rw [r16 (g + 7) (by omega), h14, mset_e]) (fun i x => by rw [r16 (g + 8) (by omega), h14, mset_o (by omega), e2 i x, r (g + 8) (by omega)]) (fun i x x2 => by rw [r16 (g + 8) (by omega), h14, mset_o (by omega)]; exact e3 i x x2) k16)
  · unfold pT
    rw [if_neg (fun v => y v.2.1)]
  · unfold pT
    rw [if_neg (fun v => z v.1)]
/-- the watch -/
theorem slw_c {P : Int} (hg : isG g) (hT : cK b n p e M) (P0 : 0 ≤ P) (P1 : P < 9) (hF : ∀ f pl, bnd (pW b n p e 73) (fun t => pL b n t.1 t.2) = Sum.inl (f, pl) → ∀ M' : Mem, cfr M M' → cFl f pl M' → Q 0 M') (hO : ∀ t, pW b n p e 73 = Sum.inr t → ∀ x, pL b n t.1 t.2 = Sum.inr x → ∀ M' : Mem, (∀ q, q ≠ 3 → q ≠ g + 4 → M' q = M q) → (∀ i, i ≠ P → M' (g + 4) i = M (g + 4) i) → M' (g + 4) P = x.1 → cK b n x.2.1 x.2.2 M' → Q 1 M') : PX2_takeSlow g P M Q := by
  have hh : 31 < g := by rcases hg with rfl | rfl <;> decide
  refine W_c (i := 73) (by decide) rfl hT (fun f pl h M2 r x => ⟨fun _ => hF f pl (bnd_l h) M2 r x, fun z => absurd rfl z⟩) (fun t h M2 r k2 => ⟨fun z => absurd z (by decide), fun _ => ?_⟩)
  have sg := isSign_c (c := 45) k2.1
  have e32 : M2 3 2 = t.1 := k2.1.2.2.2.2.1
  by_cases z : isg b n t.1 t.2 45 = true
  · rw [if_pos z] at sg
    rw [sg, e32]
    have eL : pL b n t.1 t.2 = bnd (pN b n (nxp b n t.1) (nxe b n t.1) 0 60 t.1) (fun v => Sum.inr (60 - v.1, v.2.1, v.2.2)) := by unfold pL; rw [if_pos z]
    refine ⟨fun M7 => cfr M M7 ∧ cK b n (nxp b n t.1) (nxe b n t.1) M7, fun M7 j => ?_, fun y => absurd y (by decide), fun _ => nx_k k2 (Or.inr (Or.inr (isg_k z).1)) (fun M19 r19 k19 => ⟨cfr_t r r19, k19⟩)⟩
    refine N_c j.2 (fun f pl h' M10 r10 x => ⟨fun _ => hF f pl (by rw [bnd_r h, eL]; exact bnd_l h') M10 (cfr_t j.1 r10) x, fun y => absurd rfl y⟩) (fun x h' M10 r10 k10 => ?_)
    have v := pN_v h'
    refine ⟨fun y => by omega, fun _ M15 h15 => ?_⟩
    rw [rd_put P0 (by omega), if_neg (show ¬ (1 : Int) = 0 by decide), wsu (by omega) (by omega)] at h15
    exact hO t h (60 - x.1, x.2.1, x.2.2) (by rw [eL]; exact bnd_r h') M15 (fun q x x4 => by rw [h15, mset_p x4, r10 q x]; exact j.1 q x) (fun i x => by rw [h15, mset_k x, r10 (g + 4) (by omega), j.1 (g + 4) (by omega)]) (by rw [h15, mset_e]) (cK_d k10 (fun q x => by rw [h15, mset_p (by omega)]))
  · rw [if_neg z] at sg
    rw [sg, e32]
    have eL : pL b n t.1 t.2 = bnd (pN b n t.1 t.2 0 60 t.1) (fun v => Sum.inr (60 + v.1, v.2.1, v.2.2)) := by unfold pL; rw [if_neg z]
    refine ⟨fun M7 => M7 = M2, fun M7 j => ?_, fun _ => rfl, fun y => absurd rfl y⟩
    rw [j]
    refine N_c k2 (fun f pl h' M10 r10 x => ⟨fun _ => hF f pl (by rw [bnd_r h, eL]; exact bnd_l h') M10 (cfr_t r r10) x, fun y => absurd rfl y⟩) (fun x h' M10 r10 k10 => ?_)
    have v := pN_v h'
    refine ⟨fun y => by omega, fun _ M15 h15 => ?_⟩
    rw [rd_put P0 (by omega), if_pos (rfl : (0 : Int) = 0), wad (by omega) (by omega)] at h15
    exact hO t h (60 + x.1, x.2.1, x.2.2) (by rw [eL]; exact bnd_r h') M15 (fun q x x4 => by rw [h15, mset_p x4, r10 q x]; exact r q x) (fun i x => by rw [h15, mset_k x, r10 (g + 4) (by omega), r (g + 4) (by omega)]) (by rw [h15, mset_e]) (cK_d k10 (fun q x => by rw [h15, mset_p (by omega)]))
end
