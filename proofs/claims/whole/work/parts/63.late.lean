/-! what would be: whether it comes off, and how late one may be -/
section
variable {H : Hal} {C : Int}
theorem hit_ex {p : Int} : ∀ s : Nat, hitb H C p s = true ↔ ∃ t : Nat, 1 ≤ t ∧ t ≤ s ∧ isop H (opn H C t) p t = true ∧ H 0 8 ≤ opc H C t := by
  intro s
  induction s with
  | zero =>
    refine ⟨fun z => ?_, fun z => ?_⟩
    · exact absurd (show false = true from z) (by decide)
    · obtain ⟨t, a, b, _⟩ := z
      omega
  | succ s ih =>
    have e : hitb H C p (s + 1) = (hitb H C p s || (isop H (opn H C (s + 1)) p ((s + 1 : Nat) : Int) && decide (H 0 8 ≤ opc H C (s + 1)))) := rfl
    rw [e, Bool.or_eq_true, Bool.and_eq_true, decide_eq_true_iff, ih]
    constructor
    · rintro (⟨t, a, b, c⟩ | ⟨a, b⟩)
      · exact ⟨t, a, by omega, c⟩
      · exact ⟨s + 1, by omega, by omega, a, b⟩
    · rintro ⟨t, a, b, c, d⟩
      by_cases z : t = s + 1
      · rw [z] at c d
        exact Or.inr ⟨c, d⟩
      · exact Or.inl ⟨t, a, by omega, c, d⟩
theorem isop_d (al : alrm H C = -1) {t : Nat} (ht : t ≤ 200) (p : Int) : isop H (opn H C t) p t = decide (doing H C p t = 2) := by
  have eo : oo H C p = opn H C 200 p := by unfold oo; rw [if_pos al]
  have on := opn_n (H := H) (C := C) (p := p) ht
  cases hb : bt C p with
  | false =>
    have d0 : doing H C p t = 0 := by unfold doing; rw [if_pos hb]
    have o := opn_out (H := H) (C := C) (p := p) (fun z => by rw [hb] at z; exact absurd z.2.2 (by decide)) t
    unfold isop
    rw [o, d0, decide_eq_false (fun z => z.1 rfl), decide_eq_false (by decide)]
  | true =>
    have d := doing_o (H := H) (t := (t : Int)) hb
    rw [eo] at d
    unfold isop
    rw [on]
    by_cases c : opn H C 200 p ≠ -1 ∧ opn H C 200 p ≤ (t : Int)
    · rw [if_pos c]
      by_cases e : doing H C p t = 2
      · rw [decide_eq_true e, decide_eq_true (d.mp e)]
      · rw [decide_eq_false e, decide_eq_false (fun z => e (d.mpr z))]
    · rw [if_neg c, decide_eq_false (fun z => z.1 rfl), decide_eq_false (fun z => c ⟨(d.mp z).1, (d.mp z).2.1⟩)]
theorem opc_m (al : alrm H C = -1) {t : Nat} (ht : t ≤ 200) : opc H C t = many H C 2 t := cnt_c _ (fun i _ _ => isop_d al ht i)
theorem thn_iff {p : Int} : (alrm H C = -1 ∧ hitb H C p 200 = true) ↔ ∃ t : Nat, t ≤ 200 ∧ doing H C p t = 2 ∧ H 0 8 ≤ many H C 2 t := by
  constructor
  · rintro ⟨al, z⟩
    obtain ⟨t, a, b, c, d⟩ := (hit_ex 200).mp z
    rw [isop_d al b] at c
    rw [opc_m al b] at d
    exact ⟨t, b, of_decide_eq_true c, d⟩
  · rintro ⟨t, a, b, c⟩
    have hb : bt C p = true := by
      cases hb : bt C p with
      | true => rfl
      | false =>
        unfold doing at b
        rw [if_pos hb] at b
        exact absurd b (by decide)
    have d := (doing_o hb).mp b
    have al : alrm H C = -1 := by
      refine Classical.byContradiction (fun z => d.1 ?_)
      unfold oo
      rw [if_neg z]
    have ob := oo_b (H := H) (C := C) (p := p)
    have t1 : 1 ≤ t := by
      have := d.2.1
      have := d.1
      clear c b
      omega
    refine ⟨al, (hit_ex 200).mpr ⟨t, t1, a, ?_, ?_⟩⟩
    · rw [isop_d al a]
      exact decide_eq_true b
    · rw [opc_m al a]
      exact c
theorem off_iff (ho : Hok H) : offb H C ↔ ∃ t : Nat, t ≤ 200 ∧ H 0 8 ≤ many H C 2 t := by
  have hbd := ho.2.1
  constructor
  · rintro ⟨al, p, _, _, z⟩
    obtain ⟨t, a, _, c⟩ := thn_iff.mp ⟨al, z⟩
    exact ⟨t, a, c⟩
  · rintro ⟨t, a, c⟩
    obtain ⟨p, p0, p1, z⟩ := cnt_ex (f := fun p => decide (doing H C p t = 2)) (n := (H 0 4).toNat) (by show 0 < many H C 2 t; omega)
    have y := thn_iff.mpr ⟨t, a, of_decide_eq_true z, c⟩
    exact ⟨y.1, p, p0, by omega, y.2⟩
theorem ofp_s {f : Int → Int} {e : Int} : ∀ (k : Nat) (v : Int), 0 ≤ v → (ofp f e k v = -1 ∧ ∀ t : Int, v ≤ t → t < v + k → f t < e) ∨ (v ≤ ofp f e k v ∧ ofp f e k v < v + k ∧ e ≤ f (ofp f e k v))
  | 0, v, _ => Or.inl ⟨rfl, fun t a b => by omega⟩
  | k + 1, v, h => by
    have ee : ofp f e (k + 1) v = if f v < e then ofp f e k (v + 1) else v := rfl
    have ih := ofp_s (f := f) (e := e) k (v + 1) (by omega)
    rw [ee]
    by_cases z : f v < e
    · rw [if_pos z]
      rcases ih with u | u
      · refine Or.inl ⟨u.1, fun t a b => ?_⟩
        by_cases w : t = v
        · rw [w]; exact z
        · exact u.2 t (by omega) (by omega)
      · exact Or.inr ⟨by omega, by omega, u.2.2⟩
    · rw [if_neg z]
      exact Or.inr ⟨by omega, by omega, by omega⟩
theorem ofv_iff (ho : Hok H) : ofv H C ≠ -1 ↔ offb H C := by
  rw [off_iff ho]
  have s := ofp_s (f := many H C 2) (e := H 0 8) 201 0 (by decide)
  have e : ofv H C = ofp (many H C 2) (H 0 8) 201 0 := rfl
  rw [← e] at s
  constructor
  · intro z
    rcases s with u | u
    · exact absurd u.1 z
    · refine ⟨(ofv H C).toNat, by omega, ?_⟩
      rw [show (((ofv H C).toNat : Nat) : Int) = ofv H C by omega]
      exact u.2.2
  · rintro ⟨t, a, c⟩ z
    rcases s with u | u
    · have := u.2 (t : Int) (by omega) (by omega)
      omega
    · omega
end
def thb (H : Hal) (C p : Int) : Bool := decide (alrm H C = -1) && hitb H C p 200
def lat (f : Int → Bool) : Nat → Int
  | 0 => -1
  | k + 1 => if f k = true then (k : Int) else lat f k
def ate (H : Hal) (C p : Int) : Int := if (0 ≤ p ∧ p < H 0 4 ∧ bt C p = true) ∧ H 11 p ≠ 1 then lat (fun n => thb (hwt H p n) C p) 121 else -1
theorem lat_b (f : Int → Bool) : ∀ k : Nat, -1 ≤ lat f k
  | 0 => Int.le_refl _
  | k + 1 => by
    have := lat_b f k
    show -1 ≤ if f k = true then (k : Int) else lat f k
    by_cases z : f k = true
    · rw [if_pos z]; omega
    · rw [if_neg z]; exact this
section
variable {h : Int} {H : Hal} {M B : Mem} {Q : Int → Mem → Prop} {C : Int}
theorem lt20 {K : Int → Mem → Prop} {p : Int} (hg : isG h) (ho : Hok H) (hc : Ch h H B) (hn : nOK h H B) (hw : wOK H B) (C0 : 0 ≤ C) (C1 : C < 2 ^ (H 0 4).toNat) (p0 : 0 ≤ p) (p1 : p < H 0 4)
    (hK : ∀ M' : Mem, (∀ q, q ≠ 9 → q ≠ 12 → q ≠ 13 → q ≠ 14 → q ≠ 15 → q ≠ h + 4 → M' q = B q) → (∀ j, j ≠ p → M' (h + 4) j = B (h + 4) j) → K (lat (fun n => thb (hwt H p n) C p) 121) M') : ∀ (k n : Nat) (v5 : Int) (M : Mem), n ≤ 121 → n + 2 ≤ k + (if v5 = -1 then 0 else n) → (v5 = -1 → lat (fun n => thb (hwt H p n) C p) 121 = lat (fun n => thb (hwt H p n) C p) n) → (v5 ≠ -1 → lat (fun n => thb (hwt H p n) C p) 121 = v5) →
    (∀ q, q ≠ 9 → q ≠ 12 → q ≠ 13 → q ≠ 14 → q ≠ 15 → q ≠ h + 4 → M q = B q) → (∀ j, j ≠ p → M (h + 4) j = B (h + 4) j) → PX10_latest_20 h C p K Q k v5 ((n : Int) - 1) M := by
  have hbd := ho.2.1
  have hh : 26 < h := by rcases hg with rfl | rfl <;> decide
  intro k
  induction k with
  | zero =>
    intro n v5 M a b
    by_cases z : v5 = -1
    · rw [if_pos z] at b; omega
    · rw [if_neg z] at b; omega
  | succ k ih =>
    intro n v5 M a b c d e1 e2
    refine ⟨fun z => ?_, fun z => ⟨fun y => ?_, fun y => ?_⟩⟩
    · have n0 : n = 0 := by omega
      by_cases y : v5 = -1
      · have := hK M e1 e2
        rw [c y, n0] at this
        rw [y]
        exact this
      · have := hK M e1 e2
        rw [d y] at this
        exact this
    · obtain ⟨m, rfl⟩ : ∃ m, n = m + 1 := ⟨n - 1, by omega⟩
      rw [if_pos y] at b
      have em : (((m + 1 : Nat)) : Int) - 1 = (m : Int) := by omega
      rw [em]
      intro M4 h4
      rw [rd_put p0 (by omega)] at h4
      have c4 : Ch h (hwt H p m) M4 := hwt_c hg hc (fun q x y z => by rw [h4, mset_p z]; exact e1 q (by omega) (by omega) (by omega) (by omega) (by omega) z) (fun j x => by rw [h4, mset_k x]; exact e2 j x) (by rw [h4, mset_e])
      have w4 : wOK (hwt H p m) M4 := hwt_w hw (by rw [h4, mset_p (by omega)]; exact e1 10 (by decide) (by decide) (by decide) (by decide) (by decide) (by omega)) (by rw [h4, mset_p (by omega)]; exact e1 11 (by decide) (by decide) (by decide) (by decide) (by decide) (by omega))
      have n4 : nOK h (hwt H p m) M4 := hwt_n hn (by rw [h4, mset_p (by omega)]; exact e1 (h + 16) (by omega) (by omega) (by omega) (by omega) (by omega) (by omega))
      have ok4 := hwt_ok (p := p) (n := (m : Int)) ho (by omega) (by omega)
      refine run_s hg ok4 C0 C1 c4 n4 w4 (fun M6 f1 f2 f3 => ?_)
      have bm := (f3.2.2.2 rfl).2
      have hbit : fX11_hasBit (M6 9 8) p = if thb (hwt H p m) C p = true then 1 else 0 := by
        obtain ⟨w, w1, w2, w3⟩ := bm
        have w5 : w < 2 ^ 9 := Nat.lt_of_lt_of_le w2 (Nat.pow_le_pow_right (by decide) (by show (H 0 4).toNat ≤ 9; omega))
        rw [w1, hasBit_n (by omega) p0 (by omega), w3 p p0 (by show p < (((H 0 4).toNat : Nat) : Int); omega)]
        rfl
      have e3 : Hid (wr32 ((m : Int) + (-1)) = (m : Int) - 1) := hid (by rw [wad (by omega) (by omega)]; omega)
      rw [hbit, e3.out]
      have le : lat (fun n => thb (hwt H p n) C p) (m + 1) = if thb (hwt H p m) C p = true then (m : Int) else lat (fun n => thb (hwt H p n) C p) m := rfl
      have cc := c y
      rw [le] at cc
      have g1 : ∀ q, q ≠ 9 → q ≠ 12 → q ≠ 13 → q ≠ 14 → q ≠ 15 → q ≠ h + 4 → M6 q = B q := fun q x1 x2 x3 x4 x5 x6 => by rw [f1 q x1 x2 x3 x4 x5, h4, mset_p x6]; exact e1 q x1 x2 x3 x4 x5 x6
      have g2 : ∀ j, j ≠ p → M6 (h + 4) j = B (h + 4) j := fun j x => by rw [f1 (h + 4) (by omega) (by omega) (by omega) (by omega) (by omega), h4, mset_k x]; exact e2 j x
      by_cases t : thb (hwt H p m) C p = true
      · rw [if_pos t] at cc
        rw [if_pos t, if_neg (show ¬ (1 : Int) = 0 by decide)]
        exact ih m m M6 (by omega) (by rw [if_neg (show ¬ (m : Int) = -1 by omega)]; omega) (fun w => by omega) (fun _ => cc) g1 g2
      · rw [if_neg t] at cc
        rw [if_neg t, if_pos rfl]
        exact ih m (-1) M6 (by omega) (by rw [if_pos rfl]; omega) (fun _ => cc) (fun w => absurd rfl w) g1 g2
    · have := hK M e1 e2
      rw [d y] at this
      exact this
theorem lte_c (hg : isG h) (hI : InvH h H M) (v1 : Int) (hQ : ∀ M' : Mem, InvH h H M' → M' 0 12 = M 0 12 → Q (ate H (M 0 12) v1) M') : PX11_late h v1 M Q := by
  obtain ⟨hok, hc, hr, hT, hF, hK, hC, hS, hO, hA, hW⟩ := id hI
  have hbd := hok.2.1
  have hh : 26 < h := by rcases hg with rfl | rfl <;> decide
  refine ⟨fun z => ?_, fun z => ?_⟩
  · rw [hasWatch_c hok hc hC] at z
    have e : ate H (M 0 12) v1 = -1 := by
      unfold ate
      rw [if_neg]
      intro w
      rw [if_pos w] at z
      exact absurd z (by decide)
    rw [← e]
    exact hQ M hI rfl
  · rw [hasWatch_c hok hc hC] at z
    have z1 : (0 ≤ v1 ∧ v1 < H 0 4 ∧ bt (M 0 12) v1 = true) ∧ H 11 v1 ≠ 1 := Classical.byContradiction (fun w => z (by rw [if_neg w]))
    refine fw_q hg hI (fun M4 i4 w4 e4 o4 => ?_)
    rw [e4]
    obtain ⟨_, hc4, hr4, _, _, _, hC4, _, _, _, hW4⟩ := id i4
    refine ⟨123, ?_⟩
    have l := lt20 (h := h) (H := H) (B := M4) (Q := Q) (C := M 0 12) (p := v1) (K := fun u3 N => (∀ M7 : Mem, M7 = (fmX11_put N (h + 4) 9 v1 (fX11_get M4 (h + 4) 9 v1)) → Q u3 M7)) hg hok hc4 hW4.2.2.1 w4 hC.2.1 hC.2.2 z1.1.1 z1.1.2.1 (fun N f1 f2 => ?_) 123 121 (-1) M4 (by omega) (by rw [if_pos rfl]; omega) (fun _ => rfl) (fun w => absurd rfl w) (fun _ _ _ _ _ _ _ => rfl) (fun _ _ => rfl)
    · exact l
    · intro M7 h7
      rw [rd_put z1.1.1 (by omega), rd_get z1.1.1 (by omega)] at h7
      have g8 : ∀ q, (q < 9 ∨ (15 < q ∧ q ≠ 25 ∧ q ≠ 26)) → M7 q = M4 q := by
        intro q x
        rw [h7]
        by_cases e : q = h + 4
        · rw [e]
          exact back_row f2 rfl
        · rw [mset_p e, f1 q (by omega) (by omega) (by omega) (by omega) (by omega) e]
      have i8 : InvH h H M7 := inv_cs hg i4 o4 g8 (wOK_fr w4 (by rw [h7, mset_p (by omega)]; exact f1 10 (by decide) (by decide) (by decide) (by decide) (by decide) (by omega)) (by rw [h7, mset_p (by omega)]; exact f1 11 (by decide) (by decide) (by decide) (by decide) (by decide) (by omega)))
      have hq := hQ M7 i8 (by rw [g8 0 (by decide)]; exact e4)
      unfold ate at hq
      rw [if_pos z1] at hq
      exact hq
/-- is he open when it has come off -/
theorem it6 {N : Mem} {p : Int} (ho : Hok H) (hr : Rh H N) (C0 : 0 ≤ C) (C1 : C < 512) (hC : N 66 42 = C) (r : rPl H C B N) (p0 : 0 ≤ p) (p1 : p < H 0 4) (hb : bt C p = true) (hQ0 : (¬ ∃ t : Nat, t ≤ 200 ∧ doing H C p t = 2 ∧ H 0 8 ≤ many H C 2 t) → Q 0 N) (hQ1 : (∃ t : Nat, t ≤ 200 ∧ doing H C p t = 2 ∧ H 0 8 ≤ many H C 2 t) → Q 1 N) : ∀ k n : Nat, n ≤ 201 → 201 < n + k → (∀ t : Nat, t < n → ¬ (doing H C p t = 2 ∧ H 0 8 ≤ many H C 2 t)) → PX12_isOpenThen_6 p (fun M5 => Q 0 M5) Q k n N := by
  have hbd := ho.2.1
  intro k
  induction k with
  | zero => intro n a b; omega
  | succ k ih =>
    intro n a b c
    have e3 : Hid (wr32 ((n : Int) + 1) = ((n + 1 : Nat) : Int)) := hid (by rw [wad (by omega) (by omega)]; omega)
    refine ⟨fun z => hQ0 (fun w => ?_), fun z => ?_⟩
    · obtain ⟨t, t0, t1⟩ := w
      exact c t (by omega) t1
    · have io := isOpn_r ho hr r p0 (show p < 9 by omega) (n : Int)
      have d2 := doing_o (H := H) (t := (n : Int)) hb
      have om := om_r ho hr C0 C1 hC r (n : Int)
      have r91 : N 91 7 = H 0 8 := hr.1.2.2.2.2.2.2.2.2
      rw [e3.out]
      have nx : ¬ (doing H C p n = 2 ∧ H 0 8 ≤ many H C 2 n) → PX12_isOpenThen_6 p (fun M5 => Q 0 M5) Q k ((n + 1 : Nat) : Int) N := by
        intro y
        refine ih (n + 1) (by omega) (by omega) (fun t ht => ?_)
        by_cases e : t = n
        · rw [e]; exact y
        · exact c t (by omega)
      refine ⟨io.2, fun y => nx (fun w => ?_), fun y => ⟨om.2, fun a7 h7 => ⟨fun w => nx (fun v => ?_), fun w => ?_⟩⟩⟩
      · rw [io.1, if_pos (d2.mp w.1)] at y
        exact absurd y (by decide)
      · rw [h7, om.1, r91] at w
        have := v.2
        omega
      · have dd : doing H C p n = 2 := d2.mpr (Classical.byContradiction (fun v => y (by rw [io.1, if_neg v])))
        rw [h7, om.1, r91] at w
        exact hQ1 ⟨n, by omega, dd, by omega⟩
theorem then_r {p : Int} (ho : Hok H) (hr : Rh H M) (C0 : 0 ≤ C) (C1 : C < 512) (hC : M 66 42 = C) (p0 : 0 ≤ p) (p1 : p < H 0 4) (hb : bt C p = true) (hQ : ∀ M' : Mem, rPl H C M M' → Q (if thb H C p = true then 1 else 0) M') : PX12_isOpenThen p M Q := by
  refine pl_s ho hr C0 C1 hC (fun M2 r => ⟨202, ?_⟩)
  have r2 : Rh H M2 := Rh_93 (fun q x => r.1 q (by omega)) (r.2.1 38 (by decide) (by decide) (by decide)) (r.2.1 39 (by decide) (by decide) (by decide)) hr
  have c2 : M2 66 42 = C := by rw [r.2.1 42 (by decide) (by decide) (by decide)]; exact hC
  have tt : thb H C p = true ↔ ∃ t : Nat, t ≤ 200 ∧ doing H C p t = 2 ∧ H 0 8 ≤ many H C 2 t := by
    rw [← thn_iff]
    unfold thb
    rw [Bool.and_eq_true, decide_eq_true_iff]
  have hq := hQ M2 r
  refine it6 ho r2 C0 C1 c2 r p0 p1 hb (fun z => ?_) (fun z => ?_) 202 0 (by omega) (by omega) (fun t ht => by omega)
  · rw [if_neg (fun w => z (tt.mp w))] at hq
    exact hq
  · rw [if_pos (tt.mpr z)] at hq
    exact hq
theorem lt33 {K : Int → Mem → Prop} {p : Int} (ho : Hok H) (hr : Rh H B) (C0 : 0 ≤ C) (C1 : C < 512) (hC : B 66 42 = C) (p0 : 0 ≤ p) (p1 : p < H 0 4) (hb : bt C p = true)
    (hK : ∀ M' : Mem, (∀ q, q ≠ 88 → (q < 66 ∨ (66 < q ∧ q < 93) ∨ 99 < q) → M' q = B q) → (∀ j, j ≠ 50 → j ≠ 51 → j ≠ 52 → M' 66 j = B 66 j) → (∀ j, j ≠ 162 + 18 * p + 1 → M' 88 j = B 88 j) → K (lat (fun n => thb (hwt H p n) C p) 121) M') : ∀ (k n : Nat) (v3 : Int) (M : Mem), n ≤ 121 → n + 2 ≤ k + (if v3 = -1 then 0 else n) → (v3 = -1 → lat (fun n => thb (hwt H p n) C p) 121 = lat (fun n => thb (hwt H p n) C p) n) → (v3 ≠ -1 → lat (fun n => thb (hwt H p n) C p) 121 = v3) →
    (∀ q, q ≠ 88 → (q < 66 ∨ (66 < q ∧ q < 93) ∨ 99 < q) → M q = B q) → (∀ j, j ≠ 50 → j ≠ 51 → j ≠ 52 → M 66 j = B 66 j) → (∀ j, j ≠ 162 + 18 * p + 1 → M 88 j = B 88 j) → PX12_late_33 p K Q k v3 ((n : Int) - 61) M := by
  have hbd := ho.2.1
  intro k
  induction k with
  | zero =>
    intro n v3 M a b
    by_cases z : v3 = -1
    · rw [if_pos z] at b; omega
    · rw [if_neg z] at b; omega
  | succ k ih =>
    intro n v3 M a b c d e1 e2 e3
    refine ⟨fun z => ?_, fun z => ⟨fun y => ⟨nmk p0 (by omega) (by omega) (by omega), ?_⟩, fun y => ?_⟩⟩
    · have n0 : n = 0 := by omega
      by_cases y : v3 = -1
      · have := hK M e1 e2 e3
        rw [c y, n0] at this
        rw [y]
        exact this
      · have := hK M e1 e2 e3
        rw [d y] at this
        exact this
    · obtain ⟨m, rfl⟩ : ∃ m, n = m + 1 := ⟨n - 1, by omega⟩
      rw [if_pos y] at b
      have em : (((m + 1 : Nat)) : Int) - 61 = (m : Int) - 60 := by omega
      rw [em]
      intro M5 h5
      rw [(mk_eq p0 (by omega) (by omega) (by omega)).1] at h5
      have r5 : Rh (hwt H p m) M5 := hwt_r ho hr p0 (by rw [h5, mset_o (by decide)]; exact e2 38 (by decide) (by decide) (by decide)) (by rw [h5, mset_o (by decide)]; exact e2 39 (by decide) (by decide) (by decide)) (fun q x y z => by rw [h5, mset_p z]; exact e1 q z (by omega)) (fun j x => by rw [h5, mset_k x]; exact e3 j x) (by rw [h5, mset_e])
      have ok5 := hwt_ok (p := p) (n := (m : Int)) ho (by omega) (by omega)
      refine then_r (H := hwt H p m) ok5 r5 C0 C1 (by rw [h5, mset_o (by decide), e2 42 (by decide) (by decide) (by decide)]; exact hC) p0 p1 hb (fun M7 r => ?_)
      have f3 : Hid (wr32 ((m : Int) - 60 + (-1)) = (m : Int) - 61) := hid (by rw [wad (by omega) (by omega)]; omega)
      have f4 : Hid (wr32 (60 + ((m : Int) - 60)) = (m : Int)) := hid (by rw [wad (by omega) (by omega)]; omega)
      rw [f3.out, f4.out]
      have le : lat (fun n => thb (hwt H p n) C p) (m + 1) = if thb (hwt H p m) C p = true then (m : Int) else lat (fun n => thb (hwt H p n) C p) m := rfl
      have cc := c y
      rw [le] at cc
      have g1 : ∀ q, q ≠ 88 → (q < 66 ∨ (66 < q ∧ q < 93) ∨ 99 < q) → M7 q = B q := fun q x1 x2 => by rw [r.1 q x2, h5, mset_p x1]; exact e1 q x1 x2
      have g2 : ∀ j, j ≠ 50 → j ≠ 51 → j ≠ 52 → M7 66 j = B 66 j := fun j x1 x2 x3 => by rw [r.2.1 j x1 x2 x3, h5, mset_o (by decide)]; exact e2 j x1 x2 x3
      have g3 : ∀ j, j ≠ 162 + 18 * p + 1 → M7 88 j = B 88 j := fun j x => by rw [r.1 88 (by decide), h5, mset_k x]; exact e3 j x
      by_cases t : thb (hwt H p m) C p = true
      · rw [if_pos t] at cc
        rw [if_pos t, if_neg (show ¬ (1 : Int) = 0 by decide)]
        exact ih m m M7 (by omega) (by rw [if_neg (show ¬ (m : Int) = -1 by omega)]; omega) (fun w => by omega) (fun _ => cc) g1 g2 g3
      · rw [if_neg t] at cc
        rw [if_neg t, if_pos rfl, y]
        exact ih m (-1) M7 (by omega) (by rw [if_pos rfl]; omega) (fun _ => cc) (fun w => absurd rfl w) g1 g2 g3
    · have := hK M e1 e2 e3
      rw [d y] at this
      exact this
theorem lte_r (hg : isG h) (hI : InvH h H M) (v1 : Int) (hQ : ∀ M' : Mem, InvH h H M' → Q (ate H (M 0 12) v1) M') : PX12_late v1 M Q := by
  obtain ⟨hok, hc, hr, hT, hF, hK, hC, hS, hO, hA, hW⟩ := id hI
  have hbd := hok.2.1
  have cb := C_b hok hC
  refine ⟨fun y => ?_, fun y => ?_⟩
  · rw [coming_r hok hr hC] at y
    have e : ate H (M 0 12) v1 = -1 := by
      unfold ate
      rw [if_neg]
      intro w
      rw [if_pos w.1] at y
      exact absurd y (by decide)
    rw [← e]
    exact hQ M hI
  · rw [coming_r hok hr hC] at y
    have y1 : 0 ≤ v1 ∧ v1 < H 0 4 ∧ bt (M 0 12) v1 = true := Classical.byContradiction (fun w => y (by rw [if_neg w]))
    have v9 : v1 < 9 := by omega
    have p4 := pOf (M := M) (k := 4) y1.1 v9 (by omega) (by omega)
    have e4 : M 88 (162 + 18 * v1 + 4) = H 11 v1 := (hr.2.2.2.2.1 v1 y1.1 y1.2.1).2.2.2.2.1
    refine ⟨p4.2, fun z => ?_, fun z => ⟨nPOf y1.1 v9 (by omega) (by omega), ?_⟩⟩
    · rw [p4.1, e4] at z
      have e : ate H (M 0 12) v1 = -1 := by
        unfold ate
        rw [if_neg (fun w => w.2 z)]
      rw [← e]
      exact hQ M hI
    · rw [p4.1, e4] at z
      refine ⟨123, ?_⟩
      have l := lt33 (H := H) (B := M) (Q := Q) (C := M 0 12) (p := v1) (K := fun u9 N => (nX12_makes v1 1) ∧ (∀ M14 : Mem, M14 = (fmX12_makes N v1 1 (fX12_personOf M v1 1)) → Q u9 M14)) hok hr cb.1 cb.2 hC.1 y1.1 y1.2.1 y1.2.2 (fun N f1 f2 f3 => ⟨nmk y1.1 v9 (by omega) (by omega), ?_⟩) 123 121 (-1) M (by omega) (by rw [if_pos rfl]; omega) (fun _ => rfl) (fun w => absurd rfl w) (fun _ _ _ => rfl) (fun _ _ _ _ => rfl) (fun _ _ => rfl)
      · exact l
      · intro M14 h14
        rw [(mk_eq y1.1 v9 (by omega) (by omega)).1, (pOf y1.1 v9 (by omega) (by omega)).1] at h14
        have i14 : InvH h H M14 := by
          refine inv_rf hg hI (fun q x => ?_) (fun j a b c => by rw [h14, mset_o (by decide)]; exact f2 j a b c)
          rw [h14]
          by_cases e : q = 88
          · rw [e]
            exact back_row f3 rfl
          · rw [mset_p e, f1 q e x]
        have hq := hQ M14 i14
        unfold ate at hq
        rw [if_pos ⟨y1, z⟩] at hq
        exact hq
theorem inv_late : ∀ E, Two_late E Inv := by
  intro E
  refine two_late (fun v1 M hI _ _ => ?_)
  obtain ⟨h, H, hG, hI⟩ := hI
  have hh := hG.2.2.2
  refine ⟨h, hG, lte_c hh hI v1 (fun M1 i1 e hG1 => lte_r hh i1 v1 (fun M2 i2 hG2 => ⟨by rw [e], h, H, hG2, i2⟩))⟩
end
