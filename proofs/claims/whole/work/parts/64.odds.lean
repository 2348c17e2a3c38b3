/-! what would be: how likely it is -/
theorem cmp_le (a : Int) : m_cmp a 0 ≤ 0 ↔ a ≤ 0 := by
  unfold m_cmp
  by_cases x : a < 0
  · rw [if_pos x]; omega
  · rw [if_neg x]
    by_cases y : a = 0
    · rw [if_pos y]; omega
    · rw [if_neg y]; omega
theorem four_b : ∀ n : Fin 10, (1 : Int) ≤ 4 ^ (n : Nat) ∧ (4 : Int) ^ (n : Nat) ≤ 262144 := by decide
theorem four_p {n : Nat} (h : n ≤ 9) : (1 : Int) ≤ 4 ^ n ∧ (4 : Int) ^ n ≤ 262144 := four_b ⟨n, by omega⟩
def wgt (H : Hal) (c : Int) : Nat → Int
  | 0 => 1
  | n + 1 => wgt H c n * (if bt c n = true then H 10 n else 4 - H 10 n)
theorem wgt_b {H : Hal} (ho : Hok H) (c : Int) : ∀ n : Nat, (n : Int) ≤ H 0 4 → 0 ≤ wgt H c n ∧ wgt H c n ≤ 4 ^ n
  | 0, _ => ⟨by show (0 : Int) ≤ 1; decide, by show (1 : Int) ≤ 1; decide⟩
  | n + 1, h => by
    have ih := wgt_b ho c n (by omega)
    have o := (ho.2.2.2.2.2.2.1 n (by omega) (by omega)).2.2.2.2.2
    have e : wgt H c (n + 1) = wgt H c n * (if bt c n = true then H 10 n else 4 - H 10 n) := rfl
    obtain ⟨x, hx⟩ : ∃ x : Int, x = if bt c n = true then H 10 n else 4 - H 10 n := ⟨_, rfl⟩
    have x0 : 0 ≤ x ∧ x ≤ 4 := by
      by_cases b : bt c n = true
      · rw [if_pos b] at hx; omega
      · rw [if_neg b] at hx; omega
    rw [e, ← hx, Int.pow_succ]
    have h1 : 0 ≤ wgt H c n * x := Int.mul_nonneg ih.1 x0.1
    have h2 : wgt H c n * x ≤ wgt H c n * 4 := Int.mul_le_mul_of_nonneg_left x0.2 ih.1
    omega
def osum (H : Hal) : Nat → Nat → Int → Int
  | 0, _, a => a
  | k + 1, c, a => osum H k (c + 1) (if 0 < wgt H c (H 0 4).toNat ∧ ofv H c ≠ -1 then a + wgt H c (H 0 4).toNat else a)
def aod (H : Hal) : Int := if H 0 0 = 0 then -1 else wr32 (1000 * osum H (2 ^ (H 0 4).toNat) 0 0 / 4 ^ (H 0 4).toNat)
theorem bits_b {H : Hal} (ho : Hok H) : 2 ^ (H 0 4).toNat ≤ 512 := by
  have hbd := ho.2.1
  have := Nat.pow_le_pow_right (show 0 < 2 by decide) (show (H 0 4).toNat ≤ 9 by omega)
  omega
theorem osum_b {H : Hal} (ho : Hok H) : ∀ (k c : Nat) (a : Int), c + k = 2 ^ (H 0 4).toNat → 0 ≤ a → a ≤ 262144 * (c : Int) → 0 ≤ osum H k c a ∧ osum H k c a ≤ 134217728
  | 0, c, a, h, a0, a1 => by
    have := bits_b ho
    show 0 ≤ a ∧ a ≤ _
    omega
  | k + 1, c, a, h, a0, a1 => by
    have hbd := ho.2.1
    have w := wgt_b ho (c : Int) (H 0 4).toNat (by omega)
    have f := four_p (n := (H 0 4).toNat) (by omega)
    show 0 ≤ osum H k (c + 1) (if 0 < wgt H c (H 0 4).toNat ∧ ofv H c ≠ -1 then a + wgt H c (H 0 4).toNat else a) ∧ osum H k (c + 1) (if 0 < wgt H c (H 0 4).toNat ∧ ofv H c ≠ -1 then a + wgt H c (H 0 4).toNat else a) ≤ _
    refine osum_b ho k (c + 1) _ (by omega) ?_ ?_
    · by_cases z : 0 < wgt H c (H 0 4).toNat ∧ ofv H c ≠ -1
      · rw [if_pos z]; omega
      · rw [if_neg z]; exact a0
    · by_cases z : 0 < wgt H c (H 0 4).toNat ∧ ofv H c ≠ -1
      · rw [if_pos z]; omega
      · rw [if_neg z]; omega
theorem pow_c {H : Hal} (ho : Hok H) {c : Nat} (h : c < 2 ^ (H 0 4).toNat) : (0 : Int) ≤ (c : Int) ∧ (c : Int) < 512 ∧ (c : Int) < 2 ^ (H 0 4).toNat := by
  have := bits_b ho
  rw [two_pow_int]
  omega
section
variable {h : Int} {H : Hal} {M B : Mem} {Q : Int → Mem → Prop} {C : Int}
theorem off_few (ho : Hok H) {c : Nat} (h : c < 2 ^ (H 0 4).toNat) (hf : fJ6_bitCount_0f7a4 (c : Int) < H 0 8) : ¬ offb H c := by
  have hbd := ho.2.1
  intro z
  obtain ⟨t, _, w⟩ := (off_iff ho).mp z
  rw [bc_p (P := (H 0 4).toNat) (by omega) h] at hf
  have := cnt_le (f := fun p => decide (doing H (c : Int) p t = 2)) (h := fun p => c.testBit p.toNat) (fun i hi => by
    have d := of_decide_eq_true hi
    cases hb : bt (c : Int) i with
    | false =>
      unfold doing at d
      rw [if_pos hb] at d
      exact absurd d (by decide)
    | true =>
      rw [bt_n] at hb
      exact hb) (H 0 4).toNat
  have e : many H (c : Int) 2 t = cnt (fun p => decide (doing H (c : Int) p t = 2)) (H 0 4).toNat := rfl
  rw [e] at w
  omega
theorem wof_c (ho : Hok H) (hc : Ch h H M) {c : Nat} (hcb : c < 2 ^ (H 0 4).toNat) : ∀ (k n : Nat), n + k = (H 0 4).toNat → lX10_weightOf_5 h k c (wgt H c n) n M = wgt H c (H 0 4).toNat := by
  have hbd := ho.2.1
  have b5 := bits_b ho
  intro k
  induction k with
  | zero =>
    intro n hn
    rw [← hn]
    rfl
  | succ k ih =>
    intro n hn
    have c5 := (hc.2.2.2.2.1 n (by omega) (by omega)).2.2.2.1
    have o := (ho.2.2.2.2.2.2.1 n (by omega) (by omega)).2.2.2.2.2
    have w1 := wgt_b ho (c : Int) (n + 1) (by omega)
    have f := four_p (n := n + 1) (by omega)
    have e1 : wgt H c (n + 1) = wgt H c n * (if bt c n = true then H 10 n else 4 - H 10 n) := rfl
    have key : (wr64 (wgt H c n * (if (fX11_hasBit c n) = 0 then (wr32 (4 - (fX11_get M (h + 6) 9 n))) else (fX11_get M (h + 6) 9 n)))) = wgt H c (n + 1) := by
      rw [hasBit_eq (by omega) (by omega) (by omega) (by omega), rd_get (by omega) (by omega), c5, wsu (by omega) (by omega)]
      have : (if (if bt (c : Int) n = true then (1 : Int) else 0) = 0 then 4 - H 10 n else H 10 n) = if bt c n = true then H 10 n else 4 - H 10 n := by
        by_cases b : bt (c : Int) n = true
        · rw [if_pos b, if_pos b, if_neg (by decide)]
        · rw [if_neg b, if_neg b, if_pos rfl]
      rw [this, ← e1]
      exact wr64_id (by unfold r64; omega)
    show lX10_weightOf_5 h k c _ _ M = _
    rw [key, show (n : Int) + 1 = ((n + 1 : Nat) : Int) by omega]
    exact ih (n + 1) (by omega)
theorem coff_c (hg : isG h) (ho : Hok H) (hc : Ch h H M) (hn : nOK h H M) (hw : wOK H M) {c : Nat} (hcb : c < 2 ^ (H 0 4).toNat) (hQ : ∀ M' : Mem, (∀ q, q ≠ 9 → q ≠ 12 → q ≠ 13 → q ≠ 14 → q ≠ 15 → M' q = M q) → Q (if ofv H c ≠ -1 then 1 else 0) M') : PX10_comesOff h c M Q := by
  intro a2 h2
  have pc := pow_c ho hcb
  refine ⟨fun z => ?_, fun z => ?_⟩
  · refine run_s hg ho pc.1 pc.2.2 hc hn hw (fun M5 f1 f2 f3 => ?_)
    have hq := hQ M5 f1
    have e := f3.2.2.1
    refine ⟨?_, ?_⟩
    · by_cases y : M5 9 8 = 0
      · rw [if_pos y]; exact Or.inl rfl
      · rw [if_neg y]; exact Or.inr rfl
    · by_cases y : M5 9 8 = 0
      · rw [if_neg (fun w => (e.mpr ((ofv_iff ho).mp w)) y)] at hq
        rw [if_pos y]
        exact hq
      · rw [if_pos ((ofv_iff ho).mpr (e.mp y))] at hq
        rw [if_neg y]
        exact hq
  · rw [h2, hc.1.2.2.2.2.2.2.2.2] at z
    have hq := hQ M (fun _ _ _ _ _ _ => rfl)
    rw [if_neg (fun w => off_few ho hcb (by omega) ((ofv_iff ho).mp w))] at hq
    exact hq
theorem th5 {K : Int → Mem → Prop} (hg : isG h) (ho : Hok H) (hc : Ch h H B) (hn : nOK h H B) (hw : wOK H B) (hK : ∀ M' : Mem, (∀ q, q ≠ 9 → q ≠ 12 → q ≠ 13 → q ≠ 14 → q ≠ 15 → M' q = B q) → K (osum H (2 ^ (H 0 4).toNat) 0 0) M') : ∀ (k j c : Nat) (a : Int) (M : Mem), c + j = 2 ^ (H 0 4).toNat → j < k → 0 ≤ a → a ≤ 262144 * (c : Int) → osum H j c a = osum H (2 ^ (H 0 4).toNat) 0 0 → (∀ q, q ≠ 9 → q ≠ 12 → q ≠ 13 → q ≠ 14 → q ≠ 15 → M q = B q) → PX10_thousandths_5 h K Q k a c M := by
  have hbd := ho.2.1
  have b5 := bits_b ho
  have hh : 26 < h := by rcases hg with rfl | rfl <;> decide
  intro k
  induction k with
  | zero => intro j c a M _ b; omega
  | succ k ih =>
    intro j c a M a1 a2 a3 a4 a5 e
    have hcM : Ch h H M := Ch_fr2 hg (fun q x y => e q (by omega) (by omega) (by omega) (by omega) (by omega)) hc
    have hnM : nOK h H M := by
      unfold nOK fX1_isNear at hn ⊢
      rw [e (h + 16) (by omega) (by omega) (by omega) (by omega) (by omega)]
      exact hn
    have hwM : wOK H M := wOK_fr hw (e 10 (by decide) (by decide) (by decide) (by decide) (by decide)) (e 11 (by decide) (by decide) (by decide) (by decide) (by decide))
    have al := all_eq ho hcM
    have p1 : 1 ≤ 2 ^ (H 0 4).toNat := Nat.one_le_two_pow
    refine ⟨fun z => ?_, fun z => ?_⟩
    · rw [al] at z
      have j0 : j = 0 := by omega
      rw [j0] at a5
      have : osum H 0 c a = a := rfl
      rw [this] at a5
      rw [a5]
      exact hK M e
    · rw [al] at z
      obtain ⟨j, rfl⟩ : ∃ i, j = i + 1 := ⟨j - 1, by omega⟩
      have hcb : c < 2 ^ (H 0 4).toNat := by omega
      have e3 : Hid (wr32 ((c : Int) + 1) = ((c + 1 : Nat) : Int)) := hid (by rw [wad (by omega) (by omega)]; omega)
      have eo : osum H (j + 1) c a = osum H j (c + 1) (if 0 < wgt H c (H 0 4).toNat ∧ ofv H c ≠ -1 then a + wgt H c (H 0 4).toNat else a) := rfl
      rw [eo] at a5
      have w := wgt_b ho (c : Int) (H 0 4).toNat (by omega)
      have f := four_p (n := (H 0 4).toNat) (by omega)
      have wo : fX10_weightOf M h c = wgt H c (H 0 4).toNat := by
        unfold fX10_weightOf
        rw [hcM.1.2.2.2.2.1, Int.sub_zero]
        exact wof_c ho hcM hcb (H 0 4).toNat 0 (by omega)
      intro a4' h4
      rw [wo] at h4
      rw [h4, cmp_le, e3.out]
      refine ⟨fun y => ?_, fun y => ?_⟩
      · rw [if_neg (fun v => by have := v.1; omega)] at a5
        exact ih j (c + 1) a M (by omega) (by omega) a3 (by omega) a5 e
      · refine coff_c hg ho hcM hnM hwM hcb (fun M7 f1 => ?_)
        have g : ∀ q, q ≠ 9 → q ≠ 12 → q ≠ 13 → q ≠ 14 → q ≠ 15 → M7 q = B q := fun q x1 x2 x3 x4 x5 => by rw [f1 q x1 x2 x3 x4 x5]; exact e q x1 x2 x3 x4 x5
        by_cases o : ofv H c ≠ -1
        · rw [if_pos ⟨by omega, o⟩] at a5
          rw [if_pos o, if_neg (show ¬ (1 : Int) = 0 by decide), wr64_id (by unfold r64; omega)]
          exact ih j (c + 1) _ M7 (by omega) (by omega) (by omega) (by omega) a5 g
        · rw [if_neg (fun v => o v.2)] at a5
          rw [if_neg o, if_pos rfl]
          exact ih j (c + 1) a M7 (by omega) (by omega) a3 (by omega) a5 g
theorem four_two (n : Nat) : ((2 ^ (2 * n) : Nat) : Int) = 4 ^ n := by
  rw [Nat.pow_mul]
  norm_cast
theorem odd_c (hg : isG h) (hI : InvH h H M) (hQ : ∀ M' : Mem, InvH h H M' → M' 0 12 = M 0 12 → Q (aod H) M') : PX11_odds h M Q := by
  obtain ⟨hok, hc, hr, hT, hF, hK, hC, hS, hO, hA, hW⟩ := id hI
  have hbd := hok.2.1
  have h0 := H00 hok
  have ti : fX1_isTold M h = if H 0 0 ≤ 0 then 0 else 1 := by unfold fX1_isTold; rw [hc.1.1]
  refine ⟨fun z => ?_, fun z => ?_⟩
  · rw [ti] at z
    have e : aod H = -1 := by
      unfold aod
      rw [if_pos]
      refine Classical.byContradiction (fun w => ?_)
      rw [if_neg (by omega)] at z
      exact absurd z (by decide)
    rw [← e]
    exact hQ M hI rfl
  · have z1 : ¬ H 0 0 = 0 := fun w => z (by rw [ti, if_pos (by omega)])
    refine fw_q hg hI (fun M4 i4 w4 e4 o4 => ?_)
    obtain ⟨_, hc4, hr4, _, _, _, hC4, _, _, _, hW4⟩ := id i4
    have ob := osum_b hok (2 ^ (H 0 4).toNat) 0 0 (by omega) (by decide) (by decide)
    have hh : 26 < h := by rcases hg with rfl | rfl <;> decide
    refine ⟨2 ^ (H 0 4).toNat + 1, ?_⟩
    have l := th5 (h := h) (H := H) (B := M4) (Q := Q) (K := fun u2 M3 => Q (wr32 (m_lshr (wr64 (1000 * u2)) (wr32 (2 * (M3 (h + 1) 8))))) M3) hg hok hc4 hW4.2.2.1 w4 (fun N f1 => ?_) (2 ^ (H 0 4).toNat + 1) (2 ^ (H 0 4).toNat) 0 0 M4 (by omega) (by omega) (by decide) (by decide) rfl (fun _ _ _ _ _ _ => rfl)
    · exact l
    · have i8 : InvH h H N := inv_cs hg i4 o4 (fun q x => f1 q (by omega) (by omega) (by omega) (by omega) (by omega)) (wOK_fr w4 (f1 10 (by decide) (by decide) (by decide) (by decide) (by decide)) (f1 11 (by decide) (by decide) (by decide) (by decide) (by decide)))
      have hq := hQ N i8 (by rw [f1 0 (by decide) (by decide) (by decide) (by decide) (by decide)]; exact e4)
      unfold aod at hq
      rw [if_neg z1] at hq
      obtain ⟨s, hs⟩ : ∃ s : Nat, (s : Int) = osum H (2 ^ (H 0 4).toNat) 0 0 := ⟨(osum H (2 ^ (H 0 4).toNat) 0 0).toNat, by omega⟩
      have e8 : N (h + 1) 8 = (((H 0 4).toNat : Nat) : Int) := by rw [i8.2.1.1.2.2.2.2.1]; omega
      rw [← hs] at hq ob ⊢
      have ew : Hid (wr64 (1000 * (s : Int)) = ((1000 * s : Nat) : Int)) := hid (by rw [wr64_id (by unfold r64; omega)]; omega)
      have e2 : Hid (wr32 (2 * (((H 0 4).toNat : Nat) : Int)) = ((2 * (H 0 4).toNat : Nat) : Int)) := hid (by rw [wmu (by omega) (by omega)]; omega)
      rw [e8, e2.out, ew.out, lshr_nat (by omega) (by omega), Int.natCast_ediv, four_two, show (((1000 * s : Nat)) : Int) = 1000 * (s : Int) by omega]
      exact hq
/-- the same of the reference -/
theorem or22 {K : Int → Mem → Prop} (ho : Hok H) (hr : Rh H M) (hK : K (4 ^ (H 0 4).toNat) M) : ∀ k n : Nat, n ≤ (H 0 4).toNat → (H 0 4).toNat < n + k → PX12_odds_22 K Q k (4 ^ n) n M := by
  have hbd := ho.2.1
  intro k
  induction k with
  | zero => intro n a b; omega
  | succ k ih =>
    intro n a b
    refine ⟨fun z => ?_, fun z => ?_⟩
    · rw [pMany hr] at z
      have e : n = (H 0 4).toNat := by omega
      rw [e]
      exact hK
    · rw [pMany hr] at z
      have f := four_p (n := n) (by omega)
      have e3 : Hid (wr32 ((n : Int) + 1) = ((n + 1 : Nat) : Int)) := hid (by rw [wad (by omega) (by omega)]; omega)
      rw [wr64_id (by unfold r64; omega), ← Int.pow_succ, e3.out]
      exact ih (n + 1) (by omega) (by omega)
theorem or65 {K : Int → Mem → Prop} (ho : Hok H) (hr : Rh H M) {c : Nat} (hcb : c < 2 ^ (H 0 4).toNat) (hK : K (wgt H c (H 0 4).toNat) M) : ∀ k n : Nat, n ≤ (H 0 4).toNat → (H 0 4).toNat < n + k → PX12_odds_65 c K Q k (wgt H c n) n M := by
  have hbd := ho.2.1
  have b5 := bits_b ho
  intro k
  induction k with
  | zero => intro n a b; omega
  | succ k ih =>
    intro n a b
    refine ⟨fun z => ?_, fun z => ?_⟩
    · rw [pMany hr] at z
      have e : n = (H 0 4).toNat := by omega
      rw [e]
      exact hK
    · rw [pMany hr] at z
      have n4 : (n : Int) < H 0 4 := by omega
      have po := pOf (M := M) (p := (n : Int)) (k := 3) (by omega) (by omega) (by omega) (by omega)
      have e10 : M 88 (162 + 18 * (n : Int) + 3) = H 10 n := (hr.2.2.2.2.1 n (by omega) n4).2.2.2.1
      have o := (ho.2.2.2.2.2.2.1 n (by omega) n4).2.2.2.2.2
      have w1 := wgt_b ho (c : Int) (n + 1) (by omega)
      have f := four_p (n := n + 1) (by omega)
      have e1 : wgt H c (n + 1) = wgt H c n * (if bt c n = true then H 10 n else 4 - H 10 n) := rfl
      have e3 : Hid (wr32 ((n : Int) + 1) = ((n + 1 : Nat) : Int)) := hid (by rw [wad (by omega) (by omega)]; omega)
      have ba := bit_at (a := c) (p := n) (by omega) (by omega)
      have i := ih (n + 1) (by omega) (by omega)
      rw [e3.out, po.1, e10, wsu (by omega) (by omega)]
      refine ⟨fun y => ⟨po.2, ?_⟩, fun y => ⟨po.2, ?_⟩⟩
      · have hb : bt (c : Int) n = true := by rw [bt_n, Int.toNat_natCast]; exact ba.mp y
        rw [if_pos hb] at e1
        rw [← e1, wr64_id (by unfold r64; omega)]
        exact i
      · have hb : ¬ bt (c : Int) n = true := fun w => y (by rw [bt_n, Int.toNat_natCast] at w; exact ba.mpr w)
        rw [if_neg hb] at e1
        rw [← e1, wr64_id (by unfold r64; omega)]
        exact i
theorem dco_r (ho : Hok H) (hr : Rh H M) (C0 : 0 ≤ C) (C1 : C < 512) (hC : M 66 42 = C) (hQ : ∀ M' : Mem, rPl H C M M' → Q (if ofv H C ≠ -1 then 1 else 0) M') : PX12_doesComeOff M Q := by
  refine pl_s ho hr C0 C1 hC (fun M2 r => ?_)
  have r2 : Rh H M2 := Rh_93 (fun q x => r.1 q (by omega)) (r.2.1 38 (by decide) (by decide) (by decide)) (r.2.1 39 (by decide) (by decide) (by decide)) hr
  have of := off_r ho r2 C0 C1 (by rw [r.2.1 42 (by decide) (by decide) (by decide)]; exact hC) r 201 0
  have of1 : fX12_offIn M2 = ofv H C := of.1
  have of2 : nX12_offIn M2 := of.2
  have hq := hQ M2 r
  refine ⟨of2, fun a6 h6 => ?_⟩
  rw [h6, of1]
  by_cases z : ofv H C = -1
  · rw [if_pos z]
    rw [if_neg (fun w => w z)] at hq
    exact ⟨Or.inl rfl, hq⟩
  · rw [if_neg z]
    rw [if_pos z] at hq
    exact ⟨Or.inr rfl, hq⟩
theorem or48 {K : Int → Mem → Prop} (ho : Hok H) (hr : Rh H B) (hK : ∀ M' : Mem, (∀ q, (q < 66 ∨ (66 < q ∧ q < 93) ∨ 99 < q) → M' q = B q) → (∀ j, j ≠ 42 → j ≠ 50 → j ≠ 51 → j ≠ 52 → M' 66 j = B 66 j) → K (osum H (2 ^ (H 0 4).toNat) 0 0) M') : ∀ (k j c : Nat) (a : Int) (M : Mem), c + j = 2 ^ (H 0 4).toNat → j < k → 0 ≤ a → a ≤ 262144 * (c : Int) → osum H j c a = osum H (2 ^ (H 0 4).toNat) 0 0 → (∀ q, (q < 66 ∨ (66 < q ∧ q < 93) ∨ 99 < q) → M q = B q) → (∀ j, j ≠ 42 → j ≠ 50 → j ≠ 51 → j ≠ 52 → M 66 j = B 66 j) → PX12_odds_48 K Q k a c M := by
  have hbd := ho.2.1
  have b5 := bits_b ho
  intro k
  induction k with
  | zero => intro j c a M _ b; omega
  | succ k ih =>
    intro j c a M a1 a2 a3 a4 a5 e1 e2
    have hrM : Rh H M := Rh_93 (fun q x => e1 q (by omega)) (e2 38 (by decide) (by decide) (by decide) (by decide)) (e2 39 (by decide) (by decide) (by decide) (by decide)) hr
    have sh : m_shl 1 (fX12_peopleMany M) = ((2 ^ (H 0 4).toNat : Nat) : Int) := by rw [pMany hrM, shl_one (by omega) (by omega)]
    refine ⟨fun z => ?_, fun z => ?_⟩
    · rw [sh] at z
      have j0 : j = 0 := by omega
      rw [j0] at a5
      have : osum H 0 c a = a := rfl
      rw [this] at a5
      rw [a5]
      exact hK M e1 e2
    · rw [sh] at z
      obtain ⟨j, rfl⟩ : ∃ i, j = i + 1 := ⟨j - 1, by omega⟩
      have hcb : c < 2 ^ (H 0 4).toNat := by omega
      have pc := pow_c ho hcb
      have e3 : Hid (wr32 ((c : Int) + 1) = ((c + 1 : Nat) : Int)) := hid (by rw [wad (by omega) (by omega)]; omega)
      have eo : osum H (j + 1) c a = osum H j (c + 1) (if 0 < wgt H c (H 0 4).toNat ∧ ofv H c ≠ -1 then a + wgt H c (H 0 4).toNat else a) := rfl
      rw [eo] at a5
      have w := wgt_b ho (c : Int) (H 0 4).toNat (by omega)
      have f := four_p (n := (H 0 4).toNat) (by omega)
      rw [e3.out]
      refine ⟨10, or65 (n := 0) ho hrM hcb ?_ 10 (by omega) (by omega)⟩
      intro M8 h8
      have g1 : ∀ q, (q < 66 ∨ (66 < q ∧ q < 93) ∨ 99 < q) → M8 q = B q := fun q x => by rw [h8, mset_p (by omega)]; exact e1 q x
      have g2 : ∀ j, j ≠ 42 → j ≠ 50 → j ≠ 51 → j ≠ 52 → M8 66 j = B 66 j := fun j x1 x2 x3 x4 => by rw [h8, mset_k x1]; exact e2 j x1 x2 x3 x4
      have hr8 : Rh H M8 := Rh_93 (fun q x => g1 q (by omega)) (g2 38 (by decide) (by decide) (by decide) (by decide)) (g2 39 (by decide) (by decide) (by decide) (by decide)) hr
      rw [cmp_le]
      refine ⟨fun y => ?_, fun y => ?_⟩
      · rw [if_neg (fun v => by have := v.1; omega)] at a5
        exact ih j (c + 1) a M8 (by omega) (by omega) a3 (by omega) a5 g1 g2
      · refine dco_r (C := (c : Int)) ho hr8 pc.1 pc.2.1 (by rw [h8, mset_e]) (fun M11 r => ?_)
        have k1 : ∀ q, (q < 66 ∨ (66 < q ∧ q < 93) ∨ 99 < q) → M11 q = B q := fun q x => by rw [r.1 q x]; exact g1 q x
        have k2 : ∀ j, j ≠ 42 → j ≠ 50 → j ≠ 51 → j ≠ 52 → M11 66 j = B 66 j := fun j x1 x2 x3 x4 => by rw [r.2.1 j x2 x3 x4]; exact g2 j x1 x2 x3 x4
        by_cases o : ofv H c ≠ -1
        · rw [if_pos ⟨by omega, o⟩] at a5
          rw [if_pos o, if_neg (show ¬ (1 : Int) = 0 by decide), wr64_id (by unfold r64; omega)]
          exact ih j (c + 1) _ M11 (by omega) (by omega) (by omega) (by omega) a5 k1 k2
        · rw [if_neg (fun v => o v.2)] at a5
          rw [if_neg o, if_pos rfl]
          exact ih j (c + 1) a M11 (by omega) (by omega) a3 (by omega) a5 k1 k2
theorem odd_r (hg : isG h) (hI : InvH h H M) (hQ : ∀ M' : Mem, InvH h H M' → Q (aod H) M') : PX12_odds M Q := by
  obtain ⟨hok, hc, hr, hT, hF, hK, hC, hS, hO, hA, hW⟩ := id hI
  have hbd := hok.2.1
  have f := four_p (n := (H 0 4).toNat) (by omega)
  refine ⟨fun z => ?_, fun z => ?_⟩
  · rw [hr.1.1] at z
    have e : aod H = -1 := by unfold aod; rw [if_pos z]
    rw [← e]
    exact hQ M hI
  · rw [hr.1.1] at z
    have ob := osum_b hok (2 ^ (H 0 4).toNat) 0 0 (by omega) (by decide) (by decide)
    refine ⟨10, ?_⟩
    have l22 := or22 (H := H) (M := M) (Q := Q) (K := fun u3 M4 => (∃ k6 : Nat, PX12_odds_48 (fun u7 M8 => (∀ M11 : Mem, M11 = (mset M8 66 42 (M 66 42)) → ¬ u3 = 0 ∧ Q (wr32 (wr64 (Int.tdiv (wr64 (1000 * u7)) u3))) M11)) Q k6 0 0 M4)) hok hr ?_ 10 0 (by omega) (by omega)
    · exact l22
    · refine ⟨2 ^ (H 0 4).toNat + 1, ?_⟩
      have l := or48 (H := H) (B := M) (Q := Q) (K := fun u7 M8 => (∀ M11 : Mem, M11 = (mset M8 66 42 (M 66 42)) → ¬ ((4 : Int) ^ (H 0 4).toNat) = 0 ∧ Q (wr32 (wr64 (Int.tdiv (wr64 (1000 * u7)) (4 ^ (H 0 4).toNat)))) M11)) hok hr (fun N f1 f2 => ?_) (2 ^ (H 0 4).toNat + 1) (2 ^ (H 0 4).toNat) 0 0 M (by omega) (by omega) (by decide) (by decide) rfl (fun _ _ => rfl) (fun _ _ _ _ _ => rfl)
      · exact l
      · intro M11 h11
        have i8 : InvH h H M11 := by
          refine inv_rf hg hI (fun q x => by rw [h11, mset_p (by omega)]; exact f1 q x) (fun j a b c => ?_)
          rw [h11]
          by_cases e : j = 42
          · rw [e, mset_e]
          · rw [mset_k e]; exact f2 j e a b c
        have hq := hQ M11 i8
        unfold aod at hq
        rw [if_neg z] at hq
        refine ⟨by omega, ?_⟩
        obtain ⟨s, hs⟩ : ∃ s : Int, s = osum H (2 ^ (H 0 4).toNat) 0 0 := ⟨_, rfl⟩
        rw [← hs] at hq ob ⊢
        obtain ⟨u, hu⟩ : ∃ u : Int, u = 4 ^ (H 0 4).toNat := ⟨_, rfl⟩
        rw [← hu] at hq f ⊢
        have ed := ediv_b (a := 1000 * s) (b := u) (by omega) (by omega)
        rw [wr64_id (x := 1000 * s) (by unfold r64; omega), Int.tdiv_eq_ediv_of_nonneg (by omega), wr64_id (by unfold r64; omega)]
        exact hq
theorem inv_odds : ∀ E, Two_odds E Inv := by
  intro E
  refine two_odds (fun M hI _ => ?_)
  obtain ⟨h, H, hG, hI⟩ := hI
  have hh := hG.2.2.2
  refine ⟨h, hG, odd_c hh hI (fun M1 i1 e hG1 => odd_r hh i1 (fun M2 i2 hG2 => ⟨rfl, h, H, hG2, i2⟩))⟩
end
