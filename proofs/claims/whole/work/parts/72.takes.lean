/-! what the class takes of a tape -/
def cK (b : Int → Int) (n p e : Int) (M : Mem) : Prop := cT b n p e M ∧ M 3 4 = 0 ∧ M 3 5 = -1
def cfr (M M' : Mem) : Prop := ∀ q, q ≠ 3 → M' q = M q
def cFl (f pl : Int) (M : Mem) : Prop := M 3 4 = f ∧ M 3 5 = pl
def isg (b : Int → Int) (n p e c : Int) : Bool := decide (knd b n p e = 3) && decide (b p = c)
def nvl (b : Int → Int) (p : Int) : Nat → Int
  | 0 => 0
  | k + 1 => 10 * nvl b p k + b (p + k) - 48
def pnm (b : Int → Int) (n p e l m w : Int) : Sum (Int × Int) Int := if knd b n p e = 2 then (if tnd b n p - p ≤ 4 then (if l ≤ nvl b p (tnd b n p - p).toNat ∧ nvl b p (tnd b n p - p).toNat ≤ m then Sum.inr (nvl b p (tnd b n p - p).toNat) else Sum.inl (2, w)) else Sum.inl (1, p + 4)) else Sum.inl (1, p)
section
variable {b : Int → Int} {n p e : Int} {M : Mem} {Q : Int → Mem → Prop}
theorem cK_n (hT : cK b n p e M) {M' : Mem} (h2 : ∀ j, j ≠ 1 → j ≠ 2 → j ≠ 3 → M' 3 j = M 3 j) {p' e' : Int} (h : cT b n p' e' M') : cK b n p' e' M' := ⟨h, by rw [h2 4 (by decide) (by decide) (by decide)]; exact hT.2.1, by rw [h2 5 (by decide) (by decide) (by decide)]; exact hT.2.2⟩
theorem nx_k (hT : cK b n p e M) (hk : knd b n p e = 1 ∨ knd b n p e = 2 ∨ knd b n p e = 3) (hQ : ∀ M' : Mem, cfr M M' → cK b n (nxp b n p) (nxe b n p) M' → Q 0 M') : PX9_next M Q :=
  nx_c hT.1 hk (fun M' f1 f2 f3 => hQ M' f1 (cK_n hT f2 f3))
theorem fail_c (hT : cK b n p e M) (f pl : Int) : cfr M (fmX9_fail M f pl) ∧ cFl f pl (fmX9_fail M f pl) := by
  unfold fmX9_fail
  rw [if_pos hT.2.1]
  exact ⟨fun q x => by rw [mset_p x, mset_p x], by rw [mset_k (by decide), mset_e], mset_e⟩
theorem una_c (hT : cK b n p e M) : cfr M (fmX9_unasked M) ∧ cFl 1 p (fmX9_unasked M) := by
  unfold fmX9_unasked
  rw [hT.1.2.2.2.2.1]
  exact fail_c hT 1 p
theorem fdx_1 (i : Nat) (k : Int) : fdx b n p e [i] k = if iswd b n p e (wd i) = true then k else -1 := rfl
theorem tw_c {i s : Nat} {pp : Int} (hs : s < 15) (hf : fl s = [i]) (hT : cK b n p e M) (hF : iswd b n p e (wd i) = false → ∀ M' : Mem, cfr M M' → cFl 1 p M' → Q 0 M') (hO : iswd b n p e (wd i) = true → ∀ M' : Mem, cfr M M' → cK b n (nxp b n p) (nxe b n p) M' → Q 1 M') : PX9_takeWord pp s M Q := by
  intro a2 h2
  rw [find_c hT.1 hs, hf, fdx_1] at h2
  refine ⟨fun z => ?_, fun z => ?_⟩
  · have w : iswd b n p e (wd i) = true := by
      refine Classical.byContradiction (fun w => ?_)
      rw [if_neg w] at h2
      rw [h2] at z
      exact absurd z (by decide)
    have k1 : knd b n p e = 1 := by
      unfold iswd at w
      rw [Bool.and_eq_true] at w
      exact of_decide_eq_true w.1
    exact nx_k hT (Or.inl k1) (fun M' f1 f2 => hO w M' f1 f2)
  · have w : iswd b n p e (wd i) = false := by
      refine Bool.eq_false_iff.mpr (fun w => z ?_)
      rw [if_pos w] at h2
      exact h2
    intro M8 h8
    have u := una_c hT
    rw [← h8] at u
    exact ⟨Or.inl rfl, hF w M8 u.1 u.2⟩
theorem isg_k {c : Int} (h : isg b n p e c = true) : knd b n p e = 3 ∧ b p = c := by
  unfold isg at h
  rw [Bool.and_eq_true] at h
  exact ⟨of_decide_eq_true h.1, of_decide_eq_true h.2⟩
theorem isSign_c {c : Int} (hT : cT b n p e M) : fX9_isSign M c = if isg b n p e c = true then 1 else 0 := by
  obtain ⟨ok, t1, t2, t3, t4, t5⟩ := hT
  obtain ⟨h1, h2, h3, h4, h5, h6⟩ := id ok
  unfold fX9_isSign isg
  rw [t3, t4, byte_c ⟨h1, h2⟩ t1 t2 h4]
  by_cases k : knd b n p e = 3
  · have lt := (knd_3.mp k).1
    rw [if_pos k, decide_eq_true k, Bool.true_and, if_neg (show ¬ n ≤ p by omega)]
    by_cases z : b p = c
    · rw [if_pos z, if_pos (decide_eq_true z)]
    · rw [if_neg z, if_neg (fun w => z (of_decide_eq_true w))]
  · rw [if_neg k, decide_eq_false k, Bool.false_and, if_neg (by decide)]
theorem sg_c {c : Int} (hT : cK b n p e M) (hF : isg b n p e c = false → ∀ M' : Mem, cfr M M' → cFl 1 p M' → Q 0 M') (hO : isg b n p e c = true → ∀ M' : Mem, cfr M M' → cK b n (nxp b n p) (nxe b n p) M' → Q 1 M') : PX9_takeSign c M Q := by
  have s := isSign_c (c := c) hT.1
  refine ⟨fun z => ?_, fun z => ?_⟩
  · have w : isg b n p e c = false := by
      refine Bool.eq_false_iff.mpr (fun w => ?_)
      rw [s, if_pos w] at z
      exact absurd z (by decide)
    intro M8 h8
    have u := una_c hT
    rw [← h8] at u
    exact ⟨Or.inl rfl, hF w M8 u.1 u.2⟩
  · have w : isg b n p e c = true := Classical.byContradiction (fun w => z (by rw [s, if_neg w]))
    exact nx_k hT (Or.inr (Or.inr (isg_k w).1)) (fun M' f1 f2 => hO w M' f1 f2)
theorem nvl_b {k : Nat} (hd : ∀ j : Nat, j < k → dgt (b (p + j)) = true) (hk : k ≤ 4) : 0 ≤ nvl b p k ∧ nvl b p k ≤ 9999 ∧ (k ≤ 3 → nvl b p k ≤ 999) ∧ (k ≤ 2 → nvl b p k ≤ 99) ∧ (k ≤ 1 → nvl b p k ≤ 9) ∧ (k = 0 → nvl b p k = 0) := by
  induction k with
  | zero =>
    show (0 : Int) ≤ 0 ∧ (0 : Int) ≤ 9999 ∧ (_ → (0 : Int) ≤ 999) ∧ (_ → (0 : Int) ≤ 99) ∧ (_ → (0 : Int) ≤ 9) ∧ (_ → (0 : Int) = 0)
    omega
  | succ k ih =>
    have i := ih (fun j hj => hd j (by omega)) (by omega)
    have d := dgt_b (hd k (by omega))
    have e : nvl b p (k + 1) = 10 * nvl b p k + b (p + k) - 48 := rfl
    rw [e]
    obtain ⟨x, hx⟩ : ∃ x, x = nvl b p k := ⟨_, rfl⟩
    obtain ⟨y, hy⟩ : ∃ y, y = b (p + k) := ⟨_, rfl⟩
    rw [← hx] at i ⊢
    rw [← hy] at d ⊢
    omega
theorem dg_all (hk : knd b n p e = 2) (h : bOK b n p) : ∀ j : Nat, j < (tnd b n p - p).toNat → dgt (b (p + j)) = true := by
  have k2 := knd_2.mp hk
  have nl : ¬ ltr (b p) = true := fun w => ltr_dgt w k2.2.1
  have e1 : tnd b n p = fwd dgt b n p := by unfold tnd; rw [if_neg (by have := k2.1; omega), if_neg nl, if_pos k2.2.1]
  have s := fwd_s (f := dgt) (b := b) (n := n) (i := p) h.2.2.2.2.1
  intro j hj
  rw [e1] at hj
  exact s.2.2.1 _ (by omega) (by omega)
theorem n43 {K : Int → Mem → Prop} (hT : cT b n p e M) (hk : knd b n p e = 2) (h4 : tnd b n p - p ≤ 4) (hK : K (nvl b p (tnd b n p - p).toNat) M) : ∀ (k m : Nat), (m : Int) ≤ tnd b n p - p → tnd b n p - p < (m : Int) + k → PX9_takeNumber_43 K Q k (nvl b p m) m M := by
  obtain ⟨ok, t1, t2, t3, t4, t5⟩ := hT
  have tb := tnd_b ok
  have da := dg_all hk ok
  obtain ⟨h1, h2, h3, hp0, h5, h6⟩ := id ok
  have hl : fX9_letters M = tnd b n p - p := by
    unfold fX9_letters
    rw [t4, t5, wsu (by omega) (by omega)]
  obtain ⟨t, ht⟩ : ∃ t, t = tnd b n p := ⟨_, rfl⟩
  rw [← ht] at hl h4 hK da tb ⊢
  intro k
  induction k with
  | zero => intro m a c; omega
  | succ k ih =>
    intro m a c
    refine ⟨fun z => ?_, fun z => ?_⟩
    · rw [hl] at z
      have e : m = (t - p).toNat := by omega
      rw [e]
      exact hK
    · rw [hl] at z
      have nb := nvl_b (b := b) (p := p) (k := m) (fun j hj => da j (by omega)) (by omega)
      have d := dgt_b (da m (by omega))
      have by_ := hid (byte_c (b := b) (M := M) ⟨h1, h2⟩ t1 t2 (k := p + m) (by omega))
      have e1 : wr32 (M 3 2 + (m : Int)) = p + m := by rw [t4, wad (by omega) (by omega)]
      have i := ih (m + 1) (by omega) (by omega)
      have en : nvl b p (m + 1) = 10 * nvl b p m + b (p + m) - 48 := rfl
      rw [en, show (((m + 1 : Nat)) : Int) = (m : Int) + 1 by omega] at i
      rw [e1, by_.out, if_neg (show ¬ n ≤ p + m by clear e1 en i; omega)]
      clear e1 en by_
      obtain ⟨x, hx⟩ : ∃ x, x = nvl b p m := ⟨_, rfl⟩
      obtain ⟨y, hy⟩ : ∃ y, y = b (p + m) := ⟨_, rfl⟩
      rw [← hx] at nb ⊢
      rw [← hx] at i
      rw [← hy] at d i ⊢
      rw [wmu (a := 10) (by omega) (by omega), wad (a := 10 * x) (by omega) (by omega), wsu (a := 10 * x + y) (by omega) (by omega), wad (a := (m : Int)) (by omega) (by omega)]
      exact i
theorem num_c {l m w : Int} (hT : cK b n p e M) (hF : ∀ f pl, pnm b n p e l m w = Sum.inl (f, pl) → ∀ M' : Mem, cfr M M' → cFl f pl M' → Q (-1) M') (hO : ∀ v, pnm b n p e l m w = Sum.inr v → ∀ M' : Mem, cfr M M' → cK b n (nxp b n p) (nxe b n p) M' → Q v M') : PX9_takeNumber l m w M Q := by
  obtain ⟨ok, t1, t2, t3, t4, t5⟩ := id hT.1
  have tb := tnd_b ok
  obtain ⟨h1, h2, h3, hp0, h5, h6⟩ := id ok
  have hl : fX9_letters M = tnd b n p - p := by
    unfold fX9_letters
    rw [t4, t5, wsu (by omega) (by omega)]
  refine ⟨fun z => ⟨fun y => ⟨6, ?_⟩, fun y => ?_⟩, fun z => ?_⟩
  · rw [t3] at z
    rw [hl] at y
    refine n43 hT.1 z y ?_ 6 0 (by omega) (by omega)
    have ep : pnm b n p e l m w = if l ≤ nvl b p (tnd b n p - p).toNat ∧ nvl b p (tnd b n p - p).toNat ≤ m then Sum.inr (nvl b p (tnd b n p - p).toNat) else Sum.inl (2, w) := by
      unfold pnm
      rw [if_pos z, if_pos y]
    rw [ep] at hF hO
    clear hl ep
    obtain ⟨v, hv⟩ : ∃ v, v = nvl b p (tnd b n p - p).toNat := ⟨_, rfl⟩
    rw [← hv] at hF hO ⊢
    have u := fail_c hT 2 w
    refine ⟨fun a M10 h10 => ?_, fun a => ⟨fun c => ?_, fun c M16 h16 => ?_⟩⟩
    · rw [h10]
      exact hF 2 w (by rw [if_neg (by omega)]) _ u.1 u.2
    · exact nx_k hT (Or.inr (Or.inl z)) (fun M' f1 f2 => hO v (by rw [if_pos ⟨by omega, c⟩]) M' f1 f2)
    · rw [h16]
      exact hF 2 w (by rw [if_neg (by omega)]) _ u.1 u.2
  · rw [t3] at z
    rw [hl] at y
    intro M18 h18
    rw [t4, wad (by omega) (by omega)] at h18
    have u := fail_c hT 1 (p + 4)
    rw [h18]
    refine hF 1 (p + 4) ?_ _ u.1 u.2
    unfold pnm
    rw [if_pos z, if_neg y]
  · rw [t3] at z
    intro M20 h20
    have u := una_c hT
    rw [h20]
    refine hF 1 p ?_ _ u.1 u.2
    unfold pnm
    rw [if_neg z]
end
