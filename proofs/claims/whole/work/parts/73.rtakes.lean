/-! what the reference takes of a tape -/
def rT (b : Int → Int) (n p e : Int) (M : Mem) : Prop := bOK b n p ∧ M 66 3 = n ∧ (∀ k, 0 ≤ k → k < n → M 67 k = b k) ∧ 0 ≤ M 66 2 ∧ M 66 2 ≤ p ∧ (∀ j, M 66 2 ≤ j → j < p → blk (b j) = true) ∧ (M 66 4 = p ↔ e = p) ∧ M 66 4 ≤ p
def rK (b : Int → Int) (n p e : Int) (M : Mem) : Prop := rT b n p e M ∧ M 66 5 = 0 ∧ M 66 6 = -1
def rfr (M M' : Mem) : Prop := (∀ q, q ≠ 66 → M' q = M q) ∧ (∀ j, j ≠ 2 → j ≠ 4 → j ≠ 5 → j ≠ 6 → j ≠ 9 → j ≠ 27 → M' 66 j = M 66 j)
def rFl (f pl : Int) (M : Mem) : Prop := M 66 5 = f ∧ M 66 6 = pl
theorem rfr_r (M : Mem) : rfr M M := ⟨fun _ _ => rfl, fun _ _ _ _ _ _ _ => rfl⟩
theorem rfr_t {M N O : Mem} (h1 : rfr M N) (h2 : rfr N O) : rfr M O := ⟨fun q x => (h2.1 q x).trans (h1.1 q x), fun j a b c d e f => (h2.2 j a b c d e f).trans (h1.2 j a b c d e f)⟩
theorem cfr_r (M : Mem) : cfr M M := fun _ _ => rfl
theorem cfr_t {M N O : Mem} (h1 : cfr M N) (h2 : cfr N O) : cfr M O := fun q x => (h2 q x).trans (h1 q x)
section
variable {b : Int → Int} {n p e : Int} {M : Mem} {Q : Int → Mem → Prop}
theorem lk0 {K : Mem → Prop} (hT : rT b n p e M) (hK : ∀ M' : Mem, (∀ q, q ≠ 66 → M' q = M q) → (∀ j, j ≠ 2 → M' 66 j = M 66 j) → M' 66 2 = p → K M') : ∀ (k : Nat) (N : Mem), (∀ q, q ≠ 66 → N q = M q) → (∀ j, j ≠ 2 → N 66 j = M 66 j) → M 66 2 ≤ N 66 2 → N 66 2 ≤ p → p < N 66 2 + k → PX12_look_0 K Q k N := by
  obtain ⟨ok, t1, t2, t3, t4, t5, t6, t7⟩ := hT
  obtain ⟨h1, h2, h3, hp0, h5, h6⟩ := id ok
  intro k
  induction k with
  | zero => intro N _ _ a b c; omega
  | succ k ih =>
    intro N e1 e2 a c d
    have n3 : N 66 3 = n := by rw [e2 3 (by decide)]; exact t1
    have n67 : ∀ k, 0 ≤ k → k < n → N 67 k = b k := fun k x y => by rw [e1 67 (by decide)]; exact t2 k x y
    have es : wr32 (N 66 2 + 1) = N 66 2 + 1 := wad (by omega) (by omega)
    have nx : blk (b (N 66 2)) = true → N 66 2 < n → ∀ M4 : Mem, M4 = mset N 66 2 (wr32 (N 66 2 + 1)) → PX12_look_0 K Q k M4 := by
      intro hb lt M4 h4
      rw [es] at h4
      have lp : N 66 2 < p := by
        refine Classical.byContradiction (fun z => ?_)
        have e0 : N 66 2 = p := by omega
        rw [e0] at hb lt
        rw [h6 lt] at hb
        exact absurd hb (by decide)
      have e4 : M4 66 2 = N 66 2 + 1 := by rw [h4, mset_e]
      refine ih M4 (fun q x => by rw [h4, mset_p x]; exact e1 q x) (fun j x => by rw [h4, mset_k x]; exact e2 j x) (by omega) (by omega) (by omega)
    clear es
    have stop : (N 66 2 < n → blk (b (N 66 2)) = false) → K N := by
      intro hb
      refine hK N e1 e2 ?_
      refine Classical.byContradiction (fun z => ?_)
      have lt : N 66 2 < p := by omega
      have := t5 (N 66 2) a lt
      rw [hb (by omega)] at this
      exact absurd this (by decide)
    refine ⟨fun z => stop (fun y => by omega), fun z => ?_⟩
    have n0 : 0 ≤ N 66 2 ∧ N 66 2 < n := ⟨by omega, by omega⟩
    rw [n67 _ n0.1 n0.2]
    have b1 : N 66 2 < 1600 := by omega
    refine ⟨n0.1, b1, fun y => nx (decide_eq_true (Or.inl y)) n0.2, fun y => ⟨n0.1, b1, fun w => nx (decide_eq_true (Or.inr w)) n0.2, fun w => stop (fun _ => decide_eq_false (fun v => ?_))⟩⟩
    rcases v with v | v
    · exact y v
    · exact w v
theorem rT_at (hT : rT b n p e M) {M' : Mem} (f1 : ∀ q, q ≠ 66 → M' q = M q) (f2 : ∀ j, j ≠ 2 → M' 66 j = M 66 j) (f3 : M' 66 2 = p) : rT b n p e M' := by
  obtain ⟨ok, t1, t2, t3, t4, t5, t6, t7⟩ := hT
  refine ⟨ok, by rw [f2 3 (by decide)]; exact t1, fun k x y => by rw [f1 67 (by decide)]; exact t2 k x y, by rw [f3]; exact ok.2.2.2.1, by rw [f3]; exact Int.le_refl _, fun j x y => ?_, by rw [f2 4 (by decide)]; exact t6, by rw [f2 4 (by decide)]; exact t7⟩
  rw [f3] at x
  omega
theorem rK_at (hT : rK b n p e M) {M' : Mem} (f1 : ∀ q, q ≠ 66 → M' q = M q) (f2 : ∀ j, j ≠ 2 → M' 66 j = M 66 j) (f3 : M' 66 2 = p) : rK b n p e M' ∧ rfr M M' := ⟨⟨rT_at hT.1 f1 f2 f3, by rw [f2 5 (by decide)]; exact hT.2.1, by rw [f2 6 (by decide)]; exact hT.2.2⟩, f1, fun j a _ _ _ _ _ => f2 j a⟩
theorem look_r (hT : rK b n p e M) (hQ : ∀ M' : Mem, rfr M M' → rK b n p e M' → M' 66 2 = p → Q (if n ≤ p then -1 else b p) M') : PX12_look M Q := by
  obtain ⟨ok, t1, t2, t3, t4, t5, t6, t7⟩ := id hT.1
  obtain ⟨h1, h2, h3, hp0, h5, h6⟩ := id ok
  refine ⟨1602, lk0 hT.1 (fun M' f1 f2 f3 => ?_) 1602 M (fun _ _ => rfl) (fun _ _ => rfl) (Int.le_refl _) t4 (by omega)⟩
  have r := rK_at hT f1 f2 f3
  have hq := hQ M' r.2 r.1 f3
  have n3 : M' 66 3 = n := by rw [f2 3 (by decide)]; exact t1
  rw [f3, n3]
  refine ⟨fun z => ?_, fun z => ⟨hp0, by omega, ?_⟩⟩
  · rw [if_pos z] at hq; exact hq
  · rw [if_neg z] at hq
    rw [f1 67 (by decide), t2 p hp0 (by omega)]
    exact hq
theorem isl_r (x : Int) : fX12_isLetter x = if ltr x = true then 1 else 0 := by
  unfold fX12_isLetter
  by_cases l : ltr x = true
  · have a := ltr_b l
    rw [if_pos l, if_neg (by omega), if_neg (by omega)]
  · have a := ltr_n l
    rw [if_neg l]
    by_cases u : x < 97
    · rw [if_pos u]
    · rw [if_neg u, if_pos (by omega)]
theorem isd_r (x : Int) : fX12_isDigit x = if dgt x = true then 1 else 0 := by
  unfold fX12_isDigit
  by_cases l : dgt x = true
  · have a := dgt_b l
    rw [if_pos l, if_neg (by omega), if_neg (by omega)]
  · have a := dgt_n l
    rw [if_neg l]
    by_cases u : x < 48
    · rw [if_pos u]
    · rw [if_neg u, if_pos (by omega)]
theorem ltr_m1 : ¬ ltr (-1) = true := by decide
theorem dgt_m1 : ¬ dgt (-1) = true := by decide
theorem h35 {K : Int → Mem → Prop} {N : Mem} (ok : bOK b n p) (n3 : N 66 3 = n) (n67 : ∀ k, 0 ≤ k → k < n → N 67 k = b k) (hK : K (fwd ltr b n p) N) : ∀ (k : Nat) (v : Int), p ≤ v → v ≤ n → n < v + k → fwd ltr b n v = fwd ltr b n p → PX12_isHere_35 K Q k v N := by
  obtain ⟨h1, h2, h3, hp0, h5, h6⟩ := id ok
  have hK := hid hK
  intro k
  induction k with
  | zero => intro v a c d _; omega
  | succ k ih =>
    intro v a c d f
    have f := hid f
    have stop : (v < n → ltr (b v) = false) → K v N := by
      intro z
      have : fwd ltr b n v = v := fwd_u (Int.le_refl _) c (fun j x y => by omega) z
      have e : v = fwd ltr b n p := this.symm.trans f.out
      rw [e]
      exact hK.out
    refine ⟨fun z => stop (fun y => by omega), fun z => ⟨by omega, by omega, ?_⟩⟩
    rw [n67 v (by omega) (by omega), isl_r]
    refine ⟨fun y => stop (fun _ => ?_), fun y => ?_⟩
    · cases l : ltr (b v) with
      | false => rfl
      | true => rw [if_pos l] at y; exact absurd y (by decide)
    · have l : ltr (b v) = true := Classical.byContradiction (fun w => y (by rw [if_neg w]))
      have i := ih (v + 1) (by omega) (by omega) (by omega) ((fwd_1 (by omega) l).symm.trans f.out)
      rw [wad (by omega) (by omega)]
      exact i
theorem h76 {K : Mem → Prop} {i : Int} {w : List Int} {N : Mem} (ok : bOK b n p) (n2 : N 66 2 = p) (n67 : ∀ k, 0 ≤ k → k < n → N 67 k = b k) (hw : ∀ j : Nat, j < w.length → N i j = w.getD j 0) (hl : p + w.length ≤ n) (hK : allq b p w = true → K N) (hQ0 : allq b p w = false → Q 0 N) : ∀ (k m : Nat), m ≤ w.length → w.length < m + k → allq b (p + m) (w.drop m) = allq b p w → PX12_isHere_76 i w.length K Q k m N := by
  obtain ⟨h1, h2, h3, hp0, h5, h6⟩ := id ok
  intro k
  induction k with
  | zero => intro m a c d; omega
  | succ k ih =>
    intro m a c d
    refine ⟨fun z => ?_, fun z => ?_⟩
    · have e : m = w.length := by omega
      rw [e, List.drop_length] at d
      exact hK d.symm
    · have hm : m < w.length := by omega
      have e1 : wr32 (N 66 2 + (m : Int)) = p + m := by rw [n2, wad (by omega) (by omega)]
      have e2 : wr32 ((m : Int) + 1) = ((m + 1 : Nat) : Int) := by rw [wad (by omega) (by omega)]; omega
      have dd : w.drop m = w.getD m 0 :: w.drop (m + 1) := by
        rw [List.drop_eq_getElem_cons hm]
        simp [List.getD, hm]
      rw [dd] at d
      have d2 : (decide (b (p + m) = w.getD m 0) && allq b (p + m + 1) (w.drop (m + 1))) = allq b p w := d
      rw [e1, e2]
      clear e1 e2
      rw [n67 (p + m) (by omega) (by omega), hw m hm]
      refine ⟨by omega, by omega, by omega, by omega, fun y => ?_, fun y => ?_⟩
      · rw [decide_eq_true y, Bool.true_and, show p + (m : Int) + 1 = p + ((m + 1 : Nat) : Int) by omega] at d2
        exact ih (m + 1) (by omega) (by omega) d2
      · rw [decide_eq_false y, Bool.false_and] at d2
        exact hQ0 d2.symm
theorem here_r {i : Int} {w : List Int} (hT : rK b n p e M) (hw : ∀ j : Nat, j < w.length → M i j = w.getD j 0) (hi : i ≠ 66) (hQ : ∀ M' : Mem, rfr M M' → rK b n p e M' → M' 66 2 = p → Q (if iswd b n p e w = true then 1 else 0) M') : PX12_isHere i w.length M Q := by
  have tb := tnd_b hT.1.1
  obtain ⟨h1, h2, h3, hp0, h5, h6⟩ := id hT.1.1
  refine ⟨fun _ => ?_, fun z => absurd hT.2.1 z⟩
  refine look_r hT (fun M3 r k3 at3 => ?_)
  have hq := hQ M3 r k3 at3
  have no : iswd b n p e w = false → Q 0 M3 := by
    intro z
    rw [if_neg (by rw [z]; decide)] at hq
    exact hq
  obtain ⟨ok, t1, t2, t3, t4, t5, t6, t7⟩ := id k3.1
  rw [isl_r, at3]
  refine ⟨fun z => no (iswd_no (fun k1 => ?_)), fun z => ⟨fun y => no (iswd_no (fun k1 => ?_)), fun y => ⟨1602, ?_⟩⟩⟩
  · have k := knd_1.mp k1
    rw [if_neg (show ¬ n ≤ p by have := k.1; omega), if_pos k.2.1] at z
    exact absurd z (by decide)
  · have k := knd_1.mp k1
    exact k.2.2 ((t6.mp y.symm).symm)
  · have lt : ¬ n ≤ p := fun w => z (by rw [if_pos w, if_neg ltr_m1])
    rw [if_neg lt] at z
    have l : ltr (b p) = true := Classical.byContradiction (fun w => z (by rw [if_neg w]))
    have k1 : knd b n p e = 1 := knd_1.mpr ⟨by omega, l, fun w => y (t6.mpr w.symm).symm⟩
    have et : tnd b n p = fwd ltr b n p := by unfold tnd; rw [if_neg lt, if_pos l]
    refine h35 ok t1 t2 ?_ 1602 p (Int.le_refl _) h5 (by omega) rfl
    rw [← et, at3, wsu (by omega) (by omega)]
    have et := hid et
    have iw : iswd b n p e w = (decide (tnd b n p - p = w.length) && allq b p w) := by
      unfold iswd
      rw [decide_eq_true k1, Bool.true_and]
    refine ⟨fun x => ⟨w.length + 1, ?_⟩, fun x => no ?_⟩
    · rw [decide_eq_true x, Bool.true_and] at iw
      refine h76 ok at3 t2 (fun j hj => by rw [r.1 i hi]; exact hw j hj) (by omega) (fun y => ?_) (fun y => no (iw.trans y)) (w.length + 1) 0 (by omega) (by omega) ?_
      · rw [if_pos (iw.trans y)] at hq
        exact hq
      · rw [show p + ((0 : Nat) : Int) = p by omega]
        rfl
    · rw [iw, decide_eq_false x, Bool.false_and]
/-- behind a word or a number -/
theorem rK_nx (hT : rK b n p e M) (hk : knd b n p e = 1 ∨ knd b n p e = 2) {M' : Mem} (f1 : ∀ q, q ≠ 66 → M' q = M q) (f3 : M' 66 3 = M 66 3) (f5 : M' 66 5 = M 66 5) (f6 : M' 66 6 = M 66 6) (h2 : M' 66 2 = tnd b n p) (h4 : M' 66 4 = tnd b n p) : rK b n (nxp b n p) (nxe b n p) M' := by
  obtain ⟨ok, t1, t2, t3, t4, t5, t6, t7⟩ := id hT.1
  have tb := tnd_b ok
  have nb := nx_ok ok
  have he : nxe b n p = tnd b n p := by
    unfold nxe
    rcases hk with u | u
    · rw [if_pos (Or.inl (knd_1.mp u).2.1)]
    · rw [if_pos (Or.inr (knd_2.mp u).2.1)]
  have s := fwd_s (f := blk) (b := b) (n := n) (i := tnd b n p) tb.2.1
  refine ⟨⟨nb.1, by rw [f3]; exact t1, fun k x y => by rw [f1 67 (by decide)]; exact t2 k x y, by rw [h2]; exact Int.le_trans ok.2.2.2.1 tb.1, by rw [h2]; exact nb.2.1, fun j x y => ?_, by rw [h4, he], by rw [h4]; exact nb.2.1⟩, by rw [f5]; exact hT.2.1, by rw [f6]; exact hT.2.2⟩
  rw [h2] at x
  exact s.2.2.1 j x y
theorem rK_sg (hT : rK b n p e M) (hk : knd b n p e = 3) {M' : Mem} (f1 : ∀ q, q ≠ 66 → M' q = M q) (f2 : ∀ j, j ≠ 2 → M' 66 j = M 66 j) (h2 : M' 66 2 = p + 1) : rK b n (nxp b n p) (nxe b n p) M' := by
  obtain ⟨ok, t1, t2, t3, t4, t5, t6, t7⟩ := id hT.1
  have k3 := knd_3.mp hk
  have nb := nx_ok ok
  have tb := tnd_b ok
  have et : tnd b n p = p + 1 := by unfold tnd; rw [if_neg (by have := k3.1; omega), if_neg k3.2.1, if_neg k3.2.2]
  have he : nxe b n p = -1 := by
    unfold nxe
    rw [if_neg (fun w => by rcases w with w | w; exact k3.2.1 w; exact k3.2.2 w)]
  have s := fwd_s (f := blk) (b := b) (n := n) (i := tnd b n p) tb.2.1
  have lt := nb.2.2 k3.1
  have p0 := ok.2.2.2.1
  refine ⟨⟨nb.1, by rw [f2 3 (by decide)]; exact t1, fun k x y => by rw [f1 67 (by decide)]; exact t2 k x y, by rw [h2]; exact Int.le_trans p0 (Int.le_add_one (Int.le_refl _)), by rw [h2, ← et]; exact nb.2.1, fun j x y => ?_, ?_, by rw [f2 4 (by decide)]; exact Int.le_trans t7 (Int.le_of_lt lt)⟩, by rw [f2 5 (by decide)]; exact hT.2.1, by rw [f2 6 (by decide)]; exact hT.2.2⟩
  · rw [h2, ← et] at x
    exact s.2.2.1 j x y
  · rw [f2 4 (by decide), he]
    constructor
    · intro z
      rw [z] at t7
      exact absurd (Int.lt_of_lt_of_le lt t7) (Int.lt_irrefl _)
    · intro z
      rw [← z] at lt
      exact absurd (Int.le_trans p0 (Int.le_of_lt lt)) (by decide)
theorem rfail (hT : rK b n p e M) (f pl : Int) : rfr M (fmX12_fail M f pl) ∧ rFl f pl (fmX12_fail M f pl) := by
  unfold fmX12_fail
  rw [if_pos hT.2.1]
  exact ⟨⟨fun q x => by rw [mset_p x, mset_p x], fun j a b c d e f => by rw [mset_k d, mset_k c]⟩, by rw [mset_k (by decide), mset_e], mset_e⟩
theorem iswd_k {w : List Int} (h : iswd b n p e w = true) : knd b n p e = 1 ∧ tnd b n p - p = w.length := by
  unfold iswd at h
  rw [Bool.and_eq_true, Bool.and_eq_true] at h
  exact ⟨of_decide_eq_true h.1, of_decide_eq_true h.2.1⟩
theorem takes_r {i : Int} {w : List Int} (hT : rK b n p e M) (hw : ∀ j : Nat, j < w.length → M i j = w.getD j 0) (hi : i ≠ 66) (hF : iswd b n p e w = false → ∀ M' : Mem, rfr M M' → rK b n p e M' → M' 66 2 = p → Q 0 M') (hO : iswd b n p e w = true → ∀ M' : Mem, rfr M M' → rK b n (nxp b n p) (nxe b n p) M' → Q 1 M') : PX12_takes i w.length M Q := by
  refine here_r hT hw hi (fun M2 r k2 at2 => ⟨fun z => ?_, fun z => ?_⟩)
  · cases h : iswd b n p e w with
    | false => exact hF h M2 r k2 at2
    | true => rw [if_pos h] at z; exact absurd z (by decide)
  · cases h : iswd b n p e w with
    | false => rw [if_neg (by rw [h]; decide)] at z; exact absurd rfl z
    | true =>
      have ik := iswd_k h
      have tb := tnd_b hT.1.1
      have o := hT.1.1
      intro M6 h6 M8 h8
      have e6 : wr32 (M2 66 2 + (w.length : Int)) = tnd b n p := by
        rw [at2, wad (by have := o.1; have := o.2.1; have := o.2.2.2.1; omega) (by have := o.1; have := o.2.1; have := o.2.2.2.1; omega)]
        omega
      rw [e6] at h6
      have m2 : M6 66 2 = tnd b n p := by rw [h6, mset_e]
      rw [m2] at h8
      refine hO h M8 (rfr_t r ⟨fun q x => by rw [h8, mset_p x, h6, mset_p x], fun j a c _ _ _ _ => by rw [h8, mset_k c, h6, mset_k a]⟩) (rK_nx k2 (Or.inl ik.1) (fun q x => by rw [h8, mset_p x, h6, mset_p x]) (by rw [h8, mset_k (by decide), h6, mset_k (by decide)]) (by rw [h8, mset_k (by decide), h6, mset_k (by decide)]) (by rw [h8, mset_k (by decide), h6, mset_k (by decide)]) (by rw [h8, mset_k (by decide)]; exact m2) (by rw [h8, mset_e]))
theorem asks_r {i : Int} {w : List Int} (hT : rK b n p e M) (hw : ∀ j : Nat, j < w.length → M i j = w.getD j 0) (hi : i ≠ 66) (hF : iswd b n p e w = false → ∀ M' : Mem, rfr M M' → rFl 1 p M' → Q 0 M') (hO : iswd b n p e w = true → ∀ M' : Mem, rfr M M' → rK b n (nxp b n p) (nxe b n p) M' → Q 0 M') : PX12_asks i w.length M Q := by
  refine ⟨fun _ => takes_r hT hw hi (fun h M3 r k3 at3 => ⟨fun _ M7 h7 => ?_, fun z => absurd rfl z⟩) (fun h M3 r k3 => ⟨fun z => absurd z (by decide), fun _ => hO h M3 r k3⟩), fun z => absurd hT.2.1 z⟩
  rw [at3] at h7
  have f := rfail k3 1 p
  rw [h7]
  exact hF h _ (rfr_t r f.1) f.2
theorem isg_eq {c : Int} (hc : c ≠ -1) (hl : ¬ ltr c = true) (hd : ¬ dgt c = true) : isg b n p e c = true ↔ (if n ≤ p then -1 else b p) = c := by
  constructor
  · intro h
    have k := isg_k h
    have k3 := knd_3.mp k.1
    rw [if_neg (by have := k3.1; omega)]
    exact k.2
  · intro h
    by_cases z : n ≤ p
    · rw [if_pos z] at h
      exact absurd h.symm hc
    · rw [if_neg z] at h
      unfold isg
      rw [decide_eq_true h, decide_eq_true (knd_3.mpr ⟨by omega, by rw [h]; exact hl, by rw [h]; exact hd⟩)]
      rfl
theorem tsign_r {c : Int} (hc : c ≠ -1) (hl : ¬ ltr c = true) (hd : ¬ dgt c = true) (hT : rK b n p e M) (hF : isg b n p e c = false → ∀ M' : Mem, rfr M M' → rK b n p e M' → M' 66 2 = p → Q 0 M') (hO : isg b n p e c = true → ∀ M' : Mem, rfr M M' → rK b n (nxp b n p) (nxe b n p) M' → M' 66 2 = p + 1 → Q 1 M') : PX12_takesSign c M Q := by
  refine ⟨fun _ => look_r hT (fun M3 r k3 at3 => ?_), fun z => absurd hT.2.1 z⟩
  have o := hT.1.1
  rw [show ((if n ≤ p then -1 else b p) = c) = (isg b n p e c = true) from propext (isg_eq hc hl hd).symm]
  refine ⟨fun z M7 h7 => ?_, fun z => hF (Bool.eq_false_iff.mpr z) M3 r k3 at3⟩
  have es : wr32 (M3 66 2 + 1) = p + 1 := by rw [at3, wad (by have := o.1; have := o.2.1; have := o.2.2.2.1; have := o.2.2.2.2.1; omega) (by have := o.1; have := o.2.1; have := o.2.2.2.1; have := o.2.2.2.2.1; omega)]
  rw [es] at h7
  refine hO z M7 (rfr_t r ⟨fun q x => by rw [h7, mset_p x], fun j a _ _ _ _ _ => by rw [h7, mset_k a]⟩) (rK_sg k3 (isg_k z).1 (fun q x => by rw [h7, mset_p x]) (fun j a => by rw [h7, mset_k a]) (by rw [h7, mset_e])) (by rw [h7, mset_e])
theorem asign_r {c : Int} (hc : c ≠ -1) (hl : ¬ ltr c = true) (hd : ¬ dgt c = true) (hT : rK b n p e M) (hF : isg b n p e c = false → ∀ M' : Mem, rfr M M' → rFl 1 p M' → Q 0 M') (hO : isg b n p e c = true → ∀ M' : Mem, rfr M M' → rK b n (nxp b n p) (nxe b n p) M' → Q 0 M') : PX12_asksSign c M Q := by
  refine ⟨fun _ => tsign_r hc hl hd hT (fun h M3 r k3 at3 => ⟨fun _ M7 h7 => ?_, fun z => absurd rfl z⟩) (fun h M3 r k3 _ => ⟨fun z => absurd z (by decide), fun _ => hO h M3 r k3⟩), fun z => absurd hT.2.1 z⟩
  rw [at3] at h7
  have f := rfail k3 1 p
  rw [h7]
  exact hF h _ (rfr_t r f.1) f.2
end
