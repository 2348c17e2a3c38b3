section
variable {b : Int → Int} {n p e w : Int} {H : Hal} {M M' : Mem} {Q : Int → Mem → Prop}
theorem lt_end (hk : knd b n p e = 1) (h : bOK b n p) : (tnd b n p < n → ltr (b (tnd b n p)) = false) ∧ p < tnd b n p := by
  have k1 := knd_1.mp hk
  have e1 : tnd b n p = fwd ltr b n p := by unfold tnd; rw [if_neg (by have := k1.1; omega), if_pos k1.2.1]
  have s := fwd_s (f := ltr) (b := b) (n := n) (i := p) h.2.2.2.2.1
  have tb := tnd_b h
  refine ⟨?_, tb.2.2 k1.1⟩
  rw [e1]
  exact s.2.2.2
theorem n27_c {l : Nat → Int} {t : Nat} (hl : ∀ i, i < t → 1 ≤ l i ∧ l i ≤ 26) (ht : t ≤ 6) {j : Nat} (hj : j ≤ t) : 0 ≤ n27 l j ∧ n27 l j < 1000000000 := n27_s hl ht hj
theorem nm58 {K : Int → Mem → Prop} {t : Int} (ok : bOK b n p) (n3 : M 66 3 = n) (a27 : M 66 27 = p) (n67 : ∀ k, 0 ≤ k → k < n → M 67 k = b k) (tp : p < t) (tn : t ≤ n) (da : ∀ j : Nat, j < (t - p).toNat → ltr (b (p + j)) = true) (de : t < n → ltr (b t) = false)
    (hK : t - p ≤ 6 → ∀ N : Mem, (∀ q, q ≠ 66 → N q = M q) → (∀ j, j ≠ 2 → N 66 j = M 66 j) → N 66 2 = t → K (n27 (lts b p) (t - p).toNat) N) (hF : 6 < t - p → ∀ N : Mem, (∀ q, q ≠ 66 → N q = M q) → (∀ j, j ≠ 2 → N 66 j = M 66 j) → N 66 2 = p + 6 → Q 0 (fmX12_fail N 1 (p + 6))) :
    ∀ (k m : Nat) (N : Mem), (∀ q, q ≠ 66 → N q = M q) → (∀ j, j ≠ 2 → N 66 j = M 66 j) → N 66 2 = p + m → m ≤ 6 → (m : Int) ≤ t - p → 6 < m + k → PX12_name_58 K Q k (n27 (lts b p) m) N := by
  obtain ⟨h1, h2, h3, hp0, h5, h6⟩ := id ok
  intro k
  induction k with
  | zero => intro m N _ _ _ a _ c; omega
  | succ k ih =>
    intro m N e1 e2 e3 a c d
    have m3 : N 66 3 = n := by rw [e2 3 (by decide)]; exact n3
    have m27 : N 66 27 = p := by rw [e2 27 (by decide)]; exact a27
    have m67 : ∀ k, 0 ≤ k → k < n → N 67 k = b k := fun k x y => by rw [e1 67 (by decide)]; exact n67 k x y
    have stop : (m : Int) = t - p → K (n27 (lts b p) m) N := by
      intro z
      have em : m = (t - p).toNat := by omega
      rw [em]
      exact hK (by omega) N e1 e2 (by rw [e3]; omega)
    refine ⟨fun z => stop (by omega), fun z => ⟨by omega, by omega, ?_⟩⟩
    have lt : p + (m : Int) < n := by omega
    rw [e3, m67 (p + m) (by omega) lt, isl_r, m27]
    refine ⟨fun y => stop ?_, fun y => ?_⟩
    · refine Classical.byContradiction (fun w => ?_)
      rw [if_pos (da m (by omega))] at y
      exact absurd y (by decide)
    · have hd : ltr (b (p + m)) = true := Classical.byContradiction (fun w => y (by rw [if_neg w]))
      have ml : (m : Int) < t - p := by
        refine Classical.byContradiction (fun w => ?_)
        have et : p + (m : Int) = t := by omega
        rw [et] at hd lt
        rw [de lt] at hd
        exact absurd hd (by decide)
      have es : Hid (wr32 (p + (m : Int) - p) = (m : Int)) := hid (by rw [wsu (by omega) (by omega)]; omega)
      rw [es.out]
      refine ⟨fun w M8 h8 => ?_, fun w => ⟨by omega, by omega, ?_⟩⟩
      · have e4 : p + (m : Int) = p + 6 := by omega
        rw [e4] at h8
        rw [h8]
        exact hF (by omega) N e1 e2 (by rw [e3, e4])
      · intro M6 h6'
        have es2 : Hid (wr32 (p + (m : Int) + 1) = p + ((m + 1 : Nat) : Int)) := hid (by rw [wad (by omega) (by omega)]; omega)
        rw [es2.out] at h6'
        have lz : ∀ i : Nat, i < m + 1 → 1 ≤ lts b p i ∧ lts b p i ≤ 26 := by
          intro i hi
          have l := ltr_b (da i (by omega))
          unfold lts
          omega
        have nb := n27_c lz (by omega) (j := m) (by omega)
        have dd := ltr_b hd
        have i := ih (m + 1) M6 (fun q x => by rw [h6', mset_p x]; exact e1 q x) (fun j x => by rw [h6', mset_k x]; exact e2 j x) (by rw [h6', mset_e]) (by omega) (by omega) (by omega)
        have en : n27 (lts b p) (m + 1) = 27 * n27 (lts b p) m + (b (p + m) - 96) := rfl
        rw [en] at i
        clear en
        obtain ⟨x, hx⟩ : ∃ x, x = n27 (lts b p) m := ⟨_, rfl⟩
        obtain ⟨y', hy⟩ : ∃ y, y = b (p + m) := ⟨_, rfl⟩
        rw [← hx] at nb i ⊢
        rw [← hy] at dd i ⊢
        have ev : Hid (wr64 (wr64 (wr64 (wr64 (27 * x) + y') - 97) + 1) = 27 * x + (y' - 96)) := hid (by
          rw [wr64_id (x := 27 * x) (by unfold r64; omega), wr64_id (x := 27 * x + y') (by unfold r64; omega), wr64_id (x := 27 * x + y' - 97) (by unfold r64; omega), wr64_id (by unfold r64; omega)]
          omega)
        rw [ev.out]
        exact i
theorem nam_r (hK : iK M) (hT : rK b n p e M) (hF : ∀ f pl, (∀ H, pM b n p e H = Sum.inl (f, pl)) → ∀ M' : Mem, rfr M M' → rX f pl M' → Q 0 M') (hO : (∀ H, pM b n p e H = if hnm H (n32 (lts b p) (tnd b n p - p).toNat 6) = true then Sum.inl (3, p) else Sum.inr (n32 (lts b p) (tnd b n p - p).toNat 6, n27 (lts b p) (tnd b n p - p).toNat, nxp b n p, nxe b n p)) → nmr (n32 (lts b p) (tnd b n p - p).toNat 6) (n27 (lts b p) (tnd b n p - p).toNat) → ∀ M' : Mem, rfr M M' → rK b n (nxp b n p) (nxe b n p) M' → M' 66 27 = p → Q (n27 (lts b p) (tnd b n p - p).toNat) M') : PX12_name M Q := by
  refine ⟨fun _ => look_r hT (fun M3 r k3 at3 => ?_), fun z => absurd hT.2.1 z⟩
  obtain ⟨ok, t1, t2, t3, t4, t5, t6, t7⟩ := id k3.1
  obtain ⟨h1, h2, h3, hp0, h5, h6⟩ := id ok
  have bad : ¬ (knd b n p e = 1 ∧ fdx b n p e (fl 0) 0 = -1) → ∀ N : Mem, rfr M N → rK b n p e N → ∀ M8 : Mem, M8 = fmX12_fail N 1 p → Q 0 M8 := by
    intro z N rN kN M8 h8
    have f1 := rfail kN 1 p
    rw [h8]
    refine hF 1 p (fun H => ?_) _ (rfr_t rN f1.1) ⟨f1.2.1, f1.2.2, by decide⟩
    unfold pM
    rw [if_neg z]
  rw [isl_r, at3]
  refine ⟨fun z => bad (fun k => ?_) M3 r k3, fun z => ⟨fun y => bad (fun k => ?_) M3 r k3, fun y => ?_⟩⟩
  · have k1 := knd_1.mp k.1
    rw [if_neg (show ¬ n ≤ p by have := k1.1; omega), if_pos k1.2.1] at z
    exact absurd z (by decide)
  · have k1 := knd_1.mp k.1
    exact k1.2.2 (t6.mp y.symm).symm
  · have lt : ¬ n ≤ p := fun w => z (by rw [if_pos w, if_neg ltr_m1])
    rw [if_neg lt] at z
    have l' : ltr (b p) = true := Classical.byContradiction (fun w => z (by rw [if_neg w]))
    have k1 : knd b n p e = 1 := knd_1.mpr ⟨by omega, l', fun w => y (t6.mpr w.symm).symm⟩
    have iK3 : iK M3 := iK_fr (fun q hq => r.1 q (by omega)) hK
    refine own_r iK3 k3 (fun M13 r13 k13 a13 => ?_)
    have R13 := rfr_t r r13
    rw [a13]
    by_cases fd : fdx b n p e (fl 0) 0 = -1
    · rw [if_pos fd]
      refine ⟨fun _ M17 h17 => ⟨8, ?_⟩, fun v => absurd rfl v⟩
      have q17 : ∀ q, q ≠ 66 → M17 q = M13 q := fun q x => by rw [h17, mset_p x]
      have j17 : ∀ j, j ≠ 27 → M17 66 j = M13 66 j := fun j x => by rw [h17, mset_k x]
      have tb := tnd_b ok
      have de := lt_end k1 ok
      obtain ⟨ok', u1, u2, _⟩ := id k13.1
      refine nm58 (M := M17) (t := tnd b n p) ok (by rw [j17 3 (by decide)]; exact u1) (by rw [h17, mset_e]) (fun k x y => by rw [q17 67 (by decide)]; exact u2 k x y) de.2 tb.2.1 (lt_all k1 ok) de.1 (fun hl N e1 e2 e3 => ?_) (fun hl N e1 e2 e3 => ?_) 8 0 M17 (fun _ _ => rfl) (fun _ _ => rfl) (by rw [j17 2 (by decide), a13]; omega) (by decide) (by have := de.2; omega) (by decide)
      · intro M23 h23
        rw [e3] at h23
        have q23 : ∀ q, q ≠ 66 → M23 q = M13 q := fun q x => by rw [h23, mset_p x, e1 q x]; exact q17 q x
        have j23 : ∀ j, j ≠ 2 → j ≠ 4 → j ≠ 27 → M23 66 j = M13 66 j := fun j a c d => by rw [h23, mset_k c, e2 j a]; exact j17 j d
        have k23 : rK b n (nxp b n p) (nxe b n p) M23 := rK_nx k13 (Or.inl k1) q23 (j23 3 (by decide) (by decide) (by decide)) (j23 5 (by decide) (by decide) (by decide)) (j23 6 (by decide) (by decide) (by decide)) (by rw [h23, mset_k (by decide)]; exact e3) (by rw [h23, mset_e])
        refine hO (fun H => ?_) ⟨(tnd b n p - p).toNat, lts b p, by have := de.2; omega, by omega, lts_b k1 ok, rfl, rfl⟩ M23 (rfr_t R13 ⟨q23, fun j a c d f g i => j23 j a c i⟩) k23 (by rw [h23, mset_k (by decide), e2 27 (by decide), h17, mset_e])
        unfold pM
        rw [if_pos ⟨k1, fd⟩, if_pos hl]
      · have k5 : N 66 5 = 0 := by rw [e2 5 (by decide), j17 5 (by decide)]; exact k13.2.1
        unfold fmX12_fail
        rw [if_pos k5]
        refine hF 1 (p + 6) (fun H => ?_) _ (rfr_t R13 ⟨fun q x => by rw [mset_p x, mset_p x, e1 q x]; exact q17 q x, fun j a c d f g i => by rw [mset_k f, mset_k d, e2 j a]; exact j17 j i⟩) ⟨by rw [mset_k (by decide), mset_e], mset_e, by decide⟩
        unfold pM
        rw [if_pos ⟨k1, fd⟩, if_neg (by omega)]
    · rw [if_neg fd]
      exact ⟨fun v => absurd v (by decide), fun _ => bad (fun v => fd v.2) M13 R13 k13⟩
theorem cmp_eq {a c : Int} : m_cmp a c = 0 ↔ a = c := by
  unfold m_cmp
  by_cases x : a < c
  · rw [if_pos x]; omega
  · rw [if_neg x]
    by_cases y : a = c
    · rw [if_pos y]; omega
    · rw [if_neg y]; omega
theorem nn7b {v : Int} {K : Mem → Prop} (hb : M 66 5 ≠ 0) (h9 : M 85 0 ≤ 9) (hK : K M) : ∀ k m : Nat, m ≤ 9 → 9 < m + k → PX12_newName_7 v K Q k m M := by
  intro k
  induction k with
  | zero => intro m a c; omega
  | succ k ih =>
    intro m a c
    refine ⟨fun _ => hK, fun z => ⟨fun y => absurd y hb, fun _ => ?_⟩⟩
    rw [wad (by omega) (by omega)]
    exact ih (m + 1) (by omega) (by omega)
theorem nn52b {v : Int} {K : Mem → Prop} (hb : M 66 5 ≠ 0) (h9 : M 85 1 ≤ 9) (hK : K M) : ∀ k m : Nat, m ≤ 9 → 9 < m + k → PX12_newName_52 v K Q k m M := by
  intro k
  induction k with
  | zero => intro m a c; omega
  | succ k ih =>
    intro m a c
    refine ⟨fun _ => hK, fun z => ⟨fun y => absurd y hb, fun _ => ?_⟩⟩
    rw [wad (by omega) (by omega)]
    exact ih (m + 1) (by omega) (by omega)
theorem nn7 {v P : Int} {K : Mem → Prop} (hg : M 66 5 = 0) (hP : M 85 0 = P) (P1 : P ≤ 9) (hN : (∀ i, 0 ≤ i → i < P → M 86 i ≠ v) → K M) (hY : (∃ i, 0 ≤ i ∧ i < P ∧ M 86 i = v) → K (fmX12_fail M 3 (M 66 27))) : ∀ k m : Nat, (m : Int) ≤ 9 → 9 < m + k → (∀ i : Int, 0 ≤ i → i < (m : Int) → M 86 i ≠ v) → PX12_newName_7 v K Q k m M := by
  intro k
  induction k with
  | zero => intro m a c; omega
  | succ k ih =>
    intro m a c d
    refine ⟨fun z => hN (fun i x y => d i x (by omega)), fun z => ⟨fun _ => ⟨by omega, by omega, fun y M5 h5 => ?_, fun y => ?_⟩, fun y => absurd hg y⟩⟩
    · rw [cmp_eq] at y
      have b5 : M5 66 5 ≠ 0 := by
        rw [h5]
        unfold fmX12_fail
        rw [if_pos hg, mset_k (by decide), mset_e]
        decide
      have e85 : M5 85 0 = M 85 0 := by
        rw [h5]
        unfold fmX12_fail
        rw [if_pos hg, mset_o (by decide), mset_o (by decide)]
      have kk := hY ⟨m, by omega, by omega, y⟩
      rw [← h5] at kk
      rw [wad (by omega) (by omega)]
      exact nn7b b5 (by rw [e85]; omega) kk k (m + 1) (by omega) (by omega)
    · rw [cmp_eq] at y
      rw [wad (by omega) (by omega)]
      refine ih (m + 1) (by omega) (by omega) (fun i x x2 => ?_)
      by_cases e : i = (m : Int)
      · rw [e]; exact y
      · exact d i x (by omega)
theorem nn52 {v P : Int} {K : Mem → Prop} (hg : M 66 5 = 0) (hP : M 85 1 = P) (P1 : P ≤ 9) (hN : (∀ i, 0 ≤ i → i < P → M 86 (10 + i) ≠ v) → K M) (hY : (∃ i, 0 ≤ i ∧ i < P ∧ M 86 (10 + i) = v) → K (fmX12_fail M 3 (M 66 27))) : ∀ k m : Nat, (m : Int) ≤ 9 → 9 < m + k → (∀ i : Int, 0 ≤ i → i < (m : Int) → M 86 (10 + i) ≠ v) → PX12_newName_52 v K Q k m M := by
  intro k
  induction k with
  | zero => intro m a c; omega
  | succ k ih =>
    intro m a c d
    have ei : Hid (wr32 (10 + (m : Int)) = 10 + m) := hid (wad (by omega) (by omega))
    refine ⟨fun z => hN (fun i x y => d i x (by omega)), fun z => ⟨fun _ => ?_, fun y => absurd hg y⟩⟩
    rw [ei.out]
    refine ⟨by omega, by omega, fun y M5 h5 => ?_, fun y => ?_⟩
    · rw [cmp_eq] at y
      have b5 : M5 66 5 ≠ 0 := by
        rw [h5]
        unfold fmX12_fail
        rw [if_pos hg, mset_k (by decide), mset_e]
        decide
      have e85 : M5 85 1 = M 85 1 := by
        rw [h5]
        unfold fmX12_fail
        rw [if_pos hg, mset_o (by decide), mset_o (by decide)]
      have kk := hY ⟨m, by omega, by omega, y⟩
      rw [← h5] at kk
      rw [wad (by omega) (by omega)]
      exact nn52b b5 (by rw [e85]; omega) kk k (m + 1) (by omega) (by omega)
    · rw [cmp_eq] at y
      rw [wad (by omega) (by omega)]
      refine ih (m + 1) (by omega) (by omega) (fun i x x2 => ?_)
      by_cases e : i = (m : Int)
      · rw [e]; exact y
      · exact d i x (by omega)
theorem hnm_iff (ho : Hok H) {a : Int} : hnm H a = true ↔ (∃ i, 0 ≤ i ∧ i < H 0 4 ∧ H 14 i = a) ∨ (∃ i, 0 ≤ i ∧ i < H 0 3 ∧ H 15 i = a) := by
  have hb := ho.2.1
  unfold hnm
  rw [Bool.or_eq_true, decide_eq_true_iff, decide_eq_true_iff]
  have gen : ∀ (f : Int → Int) (P : Int), 0 ≤ P → (fst1 (fun p => decide (f p = a)) 0 P.toNat ≠ -1 ↔ ∃ i, 0 ≤ i ∧ i < P ∧ f i = a) := by
    intro f P hP
    have s := fst1_s (f := fun p => decide (f p = a)) P.toNat 0 (by omega)
    constructor
    · intro z
      rcases s with u | u
      · exact absurd u.1 z
      · exact ⟨_, u.1, by omega, of_decide_eq_true u.2.2.1⟩
    · rintro ⟨i, i0, i1, i2⟩ z
      rcases s with u | u
      · have := of_decide_eq_false (u.2 i i0 (by omega))
        exact this i2
      · omega
  rw [gen (H 14) (H 0 4) (by omega), gen (H 15) (H 0 3) (by omega)]
theorem nnm_r (hd : DOK H w) (hK : iK M) (hT : rK b n p e M) (hD : Dr H w M) (hF : ∀ f pl, pM b n p e H = Sum.inl (f, pl) → ∀ (M' : Mem) (x : Int), rfr M M' → rX f pl M' → Q x M') (hO : ∀ x, pM b n p e H = Sum.inr x → ∀ M' : Mem, rfr M M' → rK b n x.2.2.1 x.2.2.2 M' → Q x.2.1 M') : PX12_newName M Q := by
  have hb := hd.1.2.1
  refine nam_r hK hT (fun f pl h M2 r c => ⟨11, ?_⟩) (fun h hn M2 r k2 a27 => ⟨11, ?_⟩)
  · have D2 := Dr_f r hD
    have bad : M2 66 5 ≠ 0 := by rw [c.1]; exact c.2.2
    exact nn7b bad (by rw [D2.1.2.2.2.2.2.1]; omega) ⟨11, nn52b bad (by rw [D2.1.2.2.2.2.1]; omega) (hF f pl (h H) M2 0 r c) 11 0 (by decide) (by decide)⟩ 11 0 (by decide) (by decide)
  · have D2 := Dr_f r hD
    have hH := h H
    obtain ⟨A, hA⟩ : ∃ A, A = n32 (lts b p) (tnd b n p - p).toNat 6 := ⟨_, rfl⟩
    obtain ⟨A', hA'⟩ : ∃ A', A' = n27 (lts b p) (tnd b n p - p).toNat := ⟨_, rfl⟩
    rw [← hA, ← hA'] at hH hn
    rw [← hA']
    clear hA hA' h
    have hi := hnm_iff (a := A) hd.1
    have e1 : ∀ i, 0 ≤ i → i < H 0 4 → (M2 86 i = A' ↔ H 14 i = A) := fun i x y => by
      rw [(D2.2.2.2.2.1 i x y).2.2.2.2.2.2]
      exact (nmr_inj (hd.1.2.2.2.2.2.2.1 i x y).2.2.2.2.2.2.2.2.2.2 hn).symm
    have e2 : ∀ i, 0 ≤ i → i < H 0 3 → (M2 86 (10 + i) = A' ↔ H 15 i = A) := fun i x y => by
      rw [(D2.2.2.2.1 i x y).2.2.2]
      exact (nmr_inj (hd.1.2.2.2.2.2.1 i x y).2.2.2.2.2 hn).symm
    have fl3 := rfail k2 3 p
    have yes : hnm H A = true → Q A' (fmX12_fail M2 3 p) := by
      intro z
      rw [if_pos z] at hH
      exact hF 3 p hH _ A' (rfr_t r fl3.1) ⟨fl3.2.1, fl3.2.2, by decide⟩
    refine nn7 k2.2.1 D2.1.2.2.2.2.2.1 (by omega) (fun no => ⟨11, ?_⟩) (fun ye => ⟨11, ?_⟩) 11 0 (by decide) (by decide) (fun i x y => by omega)
    · refine nn52 k2.2.1 D2.1.2.2.2.2.1 (by omega) (fun no2 => ?_) (fun ye => ?_) 11 0 (by decide) (by decide) (fun i x y => by omega)
      · have nh : ¬ hnm H A = true := by
          intro z
          rcases hi.mp z with ⟨i, x, y, v⟩ | ⟨i, x, y, v⟩
          · exact no i x y ((e1 i x y).mpr v)
          · exact no2 i x y ((e2 i x y).mpr v)
        rw [if_neg nh] at hH
        exact hO _ hH M2 r k2
      · obtain ⟨i, x, y, v⟩ := ye
        rw [a27]
        exact yes (hi.mpr (Or.inr ⟨i, x, y, (e2 i x y).mp v⟩))
    · obtain ⟨i, x, y, v⟩ := ye
      rw [a27]
      have D3 := Dr_f fl3.1 D2
      exact nn52b (by rw [fl3.2.1]; decide) (by rw [D3.1.2.2.2.2.1]; omega) (yes (hi.mpr (Or.inl ⟨i, x, y, (e1 i x y).mp v⟩))) 11 0 (by decide) (by decide)
end
