/-! a run of strokes -/
def offb (H : Hal) (C : Int) : Prop := alrm H C = -1 ∧ ∃ p, 0 ≤ p ∧ p < H 0 4 ∧ hitb H C p 200 = true
def rOK (H : Hal) (C v4 : Int) (M : Mem) : Prop := M 9 9 = alrm H C ∧ M 9 10 = algd H C ∧ (M 9 8 ≠ 0 ↔ offb H C) ∧
  (v4 = 0 → (∀ p, 0 ≤ p → p < 9 → M 13 p = oo H C p ∧ M 15 p = hw H C p) ∧ bmask (H 0 4).toNat (M 9 8) (fun p => decide (alrm H C = -1) && hitb H C p 200))
theorem alrU_ff (H : Hal) (C : Int) (h : ff H C ≤ 201) : alrU H C (ff H C) = alrm H C := rfl
theorem run_s {g : Int} {H : Hal} {C v4 : Int} {M : Mem} {Q : Int → Mem → Prop} (hg : isG g) (ho : Hok H) (C0 : 0 ≤ C) (C1 : C < 2 ^ (H 0 4).toNat) (hc : Ch g H M) (hn : nOK g H M) (hwk : wOK H M)
    (hQ : ∀ M' : Mem, (∀ q, q ≠ 9 → q ≠ 12 → q ≠ 13 → q ≠ 14 → q ≠ 15 → M' q = M q) → (∀ j, j < 6 ∨ 10 < j → M' 9 j = M 9 j) → rOK H C v4 M' → Q 0 M') : PX7_run g C v4 M Q := by
  have hb := ho.2.1
  have h1 : 2 ^ (H 0 4).toNat ≤ 2 ^ 9 := Nat.pow_le_pow_right (by omega) (by omega)
  have C512 : C < 512 := by
    rw [two_pow_int] at C1
    omega
  have f := ff_s ho C
  intro M2 h2 a3 h3
  have fs := ffst hg ho hc C0 C512
  rw [← h2, ← h3] at fs
  obtain ⟨e1, e2, e3⟩ := fs
  rw [e1]
  have c2 : Ch g H M2 := Ch_fr2 hg (fun q a b => e2 q (by omega)) hc
  have so : sOK H (ff H C).toNat M2 := by
    intro gd a b t ht
    rw [e2 11 (by decide)]
    exact hwk.2 gd a b t (by omega)
  obtain ⟨u, hu⟩ : ∃ u : Nat, (u : Int) = ff H C := ⟨(ff H C).toNat, by omega⟩
  have hu2 : (ff H C).toNat = u := by omega
  rw [hu2] at so
  rw [← hu]
  refine fal hg ho c2 C0 C1 (by omega) so (fun M5 f1 f2 f3 f4 => ?_)
  rw [hu] at f3 f4 ⊢
  have c5 : Ch g H M5 := Ch_fr2 hg (fun q a b => f1 q (by omega)) c2
  have q5 : ∀ q, q ≠ 9 → q ≠ 12 → M5 q = M q := fun q a b => by rw [f1 q a, e2 q b]
  have hh2 : 32 ≤ g ∧ g ≤ 49 := by rcases hg with z | z <;> rw [z] <;> decide
  have k5 : kST g H M5 := by
    refine ⟨c5, ?_, fun p a b => by rw [f1 12 (by decide)]; exact e3 p a b, fun p a b t ht => by rw [q5 10 (by decide) (by decide)]; exact hwk.1 p a b t ht⟩
    unfold nOK fX1_isNear at hn ⊢
    rw [q5 (g + 16) (by omega) (by omega)]
    exact hn
  refine oall hg ho C0 C1 k5 (fun M8 g1 g2 g3 g4 => ?_)
  refine hQ M8 (fun q a b c d e => by rw [g1 q a c d e, q5 q a b]) (fun j hj => by rw [g2 j (by omega) (by omega) (by omega), f2 j (by omega) (by omega), e2 9 (by decide)]) ?_
  have a9 : M8 9 9 = alrm H C := by rw [g2 9 (by decide) (by decide) (by decide), f3]; rfl
  have a10 : M8 9 10 = algd H C := by rw [g2 10 (by decide) (by decide) (by decide), f4]; rfl
  have b9 : M5 9 9 = alrm H C := by rw [f3]; rfl
  refine ⟨a9, a10, ?_, fun v0 => ?_⟩
  · by_cases z : alrm H C = -1
    · have g := (g3 (b9.trans z)).2
      constructor
      · intro y
        refine ⟨z, Classical.byContradiction (fun x => y (g.mpr (fun p a b => ?_)))⟩
        cases hx : hitb H C p 200 with
        | false => rfl
        | true => exact absurd ⟨p, a, b, hx⟩ x
      · rintro ⟨_, p, a, b, c⟩ y
        rw [g.mp y p a b] at c
        cases c
    · have g := (g4 (fun y => z (b9.symm.trans y))).1
      constructor
      · exact fun y => absurd g y
      · exact fun y => absurd y.1 z
  · by_cases z : alrm H C = -1
    · have o := (g3 (b9.trans z)).1 v0
      refine ⟨fun p a b => ?_, bmask_c (fun p a b => by rw [decide_eq_true z, Bool.true_and]) o.2.2.2.2⟩
      unfold oo hw
      rw [if_pos z, if_pos z]
      exact o.1 p a b
    · have g := g4 (fun y => z (b9.symm.trans y))
      refine ⟨fun p a b => ?_, ⟨0, g.1, Nat.pos_of_ne_zero (by simp), fun p a b => ?_⟩⟩
      · unfold oo hw
        rw [if_neg z, if_neg z]
        exact g.2 p a b
      · rw [Nat.zero_testBit, decide_eq_false z]
        exact (Bool.false_and _).symm
/-- the ways to the doors -/
theorem dir_s (s : Int) : (0 ≤ s ∧ s ≤ 3) → ((s = 0 ∧ dx s = 0 ∧ dy s = -1) ∨ (s = 1 ∧ dx s = 1 ∧ dy s = 0) ∨ (s = 2 ∧ dx s = 0 ∧ dy s = 1) ∨ (s = 3 ∧ dx s = -1 ∧ dy s = 0)) := by
  intro h
  have : s = 0 ∨ s = 1 ∨ s = 2 ∨ s = 3 := by omega
  rcases this with rfl | rfl | rfl | rfl
  · exact Or.inl ⟨rfl, rfl, rfl⟩
  · exact Or.inr (Or.inl ⟨rfl, rfl, rfl⟩)
  · exact Or.inr (Or.inr (Or.inl ⟨rfl, rfl, rfl⟩))
  · exact Or.inr (Or.inr (Or.inr ⟨rfl, rfl, rfl⟩))
theorem cell_dm {w x y : Int} (hw : 0 < w) (hx : 0 ≤ x) (hx1 : x < w) : (w * y + x) % w = x ∧ (w * y + x) / w = y := by
  constructor
  · rw [Int.add_comm, Int.add_mul_emod_self_left, Int.emod_eq_of_lt hx hx1]
  · rw [Int.add_comm, Int.add_mul_ediv_left _ _ (by omega), Int.ediv_eq_zero_of_lt hx hx1]
    omega
/-- a step can be gone back -/
theorem stp_back {H : Hal} (ho : Hok H) {c s : Int} (hf : fre H c) (hs : 0 ≤ s ∧ s ≤ 3) (hn : stp H c s ≠ c) : ∃ s', 0 ≤ s' ∧ s' ≤ 3 ∧ stp H (stp H c s) s' = c := by
  have fb := fre_b ho hf
  have e := ediv_b fb.1 (show 0 < H 0 0 by omega)
  unfold stp at hn
  by_cases a : okc H (c % H 0 0 + dx s) (c / H 0 0 + dy s)
  · rw [if_pos a] at hn
    have ed : stp H c s = H 0 0 * (c / H 0 0 + dy s) + (c % H 0 0 + dx s) := by
      unfold stp
      rw [if_pos a]
    have dm := cell_dm (w := H 0 0) (x := c % H 0 0 + dx s) (y := c / H 0 0 + dy s) (by omega) a.1 a.2.1
    have hct : c / H 0 0 < H 0 1 := by
      by_cases z : c / H 0 0 < H 0 1
      · exact z
      · exfalso
        have h2 : H 0 0 * H 0 1 ≤ H 0 0 * (c / H 0 0) := Int.mul_le_mul_of_nonneg_left (by omega) (by omega)
        have h3 := hf.2.1
        omega
    have back : ∀ s', dx s' = - dx s → dy s' = - dy s → stp H (stp H c s) s' = c := by
      intro s' h1 h2
      have e1 : (stp H c s) % H 0 0 + dx s' = c % H 0 0 := by rw [ed, dm.1, h1]; omega
      have e2 : (stp H c s) / H 0 0 + dy s' = c / H 0 0 := by rw [ed, dm.2, h2]; omega
      have ok : okc H ((stp H c s) % H 0 0 + dx s') ((stp H c s) / H 0 0 + dy s') := by
        rw [e1, e2]
        exact ⟨e.2.2.1, e.2.2.2.1, e.1, hct, by rw [e.2.2.2.2]; exact hf.2.2⟩
      show (if okc H ((stp H c s) % H 0 0 + dx s') ((stp H c s) / H 0 0 + dy s') then H 0 0 * ((stp H c s) / H 0 0 + dy s') + ((stp H c s) % H 0 0 + dx s') else stp H c s) = c
      rw [if_pos ok, e1, e2]
      exact e.2.2.2.2
    rcases dir_s s hs with ⟨z, z1, z2⟩ | ⟨z, z1, z2⟩ | ⟨z, z1, z2⟩ | ⟨z, z1, z2⟩
    · exact ⟨2, by omega, by omega, back 2 (by rw [z1]; rfl) (by rw [z2]; rfl)⟩
    · exact ⟨3, by omega, by omega, back 3 (by rw [z1]; rfl) (by rw [z2]; rfl)⟩
    · exact ⟨0, by omega, by omega, back 0 (by rw [z1]; rfl) (by rw [z2]; rfl)⟩
    · exact ⟨1, by omega, by omega, back 1 (by rw [z1]; rfl) (by rw [z2]; rfl)⟩
  · rw [if_neg a] at hn
    exact absurd rfl hn
/-- what holds in the midst of the search -/
def bI (H : Hal) (s : Bq) : Prop := 0 ≤ s.2.2 ∧ s.2.2 = cnt (fun c => decide (s.1 c ≠ 1000)) 54 ∧
  (∀ i, 0 ≤ i → i < s.2.2 → fre H (s.2.1 i) ∧ s.1 (s.2.1 i) ≠ 1000 ∧ 0 ≤ s.1 (s.2.1 i) ∧ s.1 (s.2.1 i) ≤ i) ∧
  (∀ c, s.1 c ≠ 1000 → ∃ i, 0 ≤ i ∧ i < s.2.2 ∧ s.2.1 i = c)
theorem cnt_set {f : Int → Bool} {c : Int} (hf : f c = false) : ∀ n : Nat, cnt (fun i => f i || decide (i = c)) n = cnt f n + if 0 ≤ c ∧ c < n then 1 else 0
  | 0 => by
    rw [if_neg (by omega)]
    rfl
  | n + 1 => by
    show cnt (fun i => f i || decide (i = c)) n + (if (f n || decide ((n : Int) = c)) = true then 1 else 0) = cnt f n + (if f n = true then 1 else 0) + _
    rw [cnt_set hf n]
    by_cases a : (n : Int) = c
    · rw [← a] at hf
      rw [decide_eq_true a, Bool.or_true, if_pos (rfl : true = true), hf, if_neg (show ¬ (0 ≤ c ∧ c < (n : Int)) by omega), show (if false = true then (1 : Int) else 0) = 0 from rfl, if_pos (show 0 ≤ c ∧ c < ((n + 1 : Nat) : Int) by omega)]
    · rw [decide_eq_false a, Bool.or_false]
      by_cases b : 0 ≤ c ∧ c < (n : Int)
      · rw [if_pos b, if_pos (show 0 ≤ c ∧ c < ((n + 1 : Nat) : Int) by omega)]
        omega
      · rw [if_neg b, if_neg (show ¬ (0 ≤ c ∧ c < ((n + 1 : Nat) : Int)) by omega)]
        omega
theorem bI_lt {H : Hal} {s : Bq} {c : Int} (h : bI H s) (c0 : 0 ≤ c) (c1 : c < 54) (hc : s.1 c = 1000) : s.2.2 < 54 := by
  have := cnt_set (f := fun c => decide (s.1 c ≠ 1000)) (c := c) (by simp [hc]) 54
  rw [if_pos ⟨c0, c1⟩] at this
  have b := cnt_b (fun i => decide (s.1 i ≠ 1000) || decide (i = c)) 54
  have e := h.2.1
  omega
theorem bI_push {H : Hal} (ho : Hok H) {s : Bq} {c x : Int} (h : bI H s) (hf : fre H c) (hc : s.1 c = 1000) (x0 : 0 ≤ x) (x1 : x ≤ s.2.2) : bI H (fset s.1 c x, fset s.2.1 s.2.2 c, s.2.2 + 1) := by
  have fb := fre_b ho hf
  have lt := bI_lt h fb.1 fb.2.1 hc
  obtain ⟨b1, b2, b3, b4⟩ := h
  have qs : ∀ i, fset s.2.1 s.2.2 c i = if i = s.2.2 then c else s.2.1 i := fun _ => rfl
  have ds : ∀ i, fset s.1 c x i = if i = c then x else s.1 i := fun _ => rfl
  refine ⟨by show 0 ≤ s.2.2 + 1; omega, ?_, fun i i0 i1 => ?_, fun d hd => ?_⟩
  · show s.2.2 + 1 = cnt (fun d => decide (fset s.1 c x d ≠ 1000)) 54
    have := cnt_set (f := fun c => decide (s.1 c ≠ 1000)) (c := c) (by simp [hc]) 54
    rw [if_pos ⟨fb.1, fb.2.1⟩, ← b2] at this
    rw [← this]
    refine cnt_c _ (fun i _ _ => ?_)
    rw [ds]
    by_cases e : i = c
    · rw [if_pos e, decide_eq_true e, Bool.or_true, decide_eq_true (show x ≠ 1000 by omega)]
    · rw [if_neg e, decide_eq_false e, Bool.or_false]
  · have i1' : i < s.2.2 + 1 := i1
    show fre H (fset s.2.1 s.2.2 c i) ∧ fset s.1 c x (fset s.2.1 s.2.2 c i) ≠ 1000 ∧ 0 ≤ fset s.1 c x (fset s.2.1 s.2.2 c i) ∧ fset s.1 c x (fset s.2.1 s.2.2 c i) ≤ i
    rw [qs]
    by_cases e : i = s.2.2
    · rw [if_pos e, ds, if_pos rfl]
      exact ⟨hf, by omega, x0, by omega⟩
    · have o := b3 i i0 (by omega)
      have ne : ¬ s.2.1 i = c := fun z => o.2.1 (by rw [z]; exact hc)
      rw [if_neg e, ds, if_neg ne]
      exact o
  · have hd' : fset s.1 c x d ≠ 1000 := hd
    rw [ds] at hd'
    by_cases e : d = c
    · exact ⟨s.2.2, by omega, by show s.2.2 < s.2.2 + 1; omega, by show fset s.2.1 s.2.2 c s.2.2 = d; rw [qs, if_pos rfl, e]⟩
    · rw [if_neg e] at hd'
      obtain ⟨i, i0, i1, i2⟩ := b4 d hd'
      refine ⟨i, i0, by show i < s.2.2 + 1; omega, ?_⟩
      show fset s.2.1 s.2.2 c i = d
      rw [qs, if_neg (by omega), i2]
theorem bI_ini {H : Hal} (ho : Hok H) : ∀ n : Nat, (n : Int) ≤ H 0 2 → bI H (bini H n) ∧ (bini H n).2.2 ≤ n ∧ (∀ k : Int, n ≤ k → k < H 0 2 → (bini H n).1 (H 2 k) = 1000)
  | 0, _ => by
    refine ⟨⟨Int.le_refl _, ?_, fun i a b => ?_, fun c hc => absurd rfl hc⟩, Int.le_refl _, fun _ _ _ => rfl⟩
    · show (0 : Int) = cnt (fun c => decide ((1000 : Int) ≠ 1000)) 54
      rw [cnt_0 (fun i _ _ => by decide)]
    · have : i < 0 := b
      omega
  | n + 1, h => by
    have hb := ho.2.1
    obtain ⟨h1, h2, h3⟩ := bI_ini ho n (by omega)
    have o4 := ho.2.2.2.1 n (by omega) (by omega)
    have e : bini H (n + 1) = if H 3 n = 0 then (fset (bini H n).1 (H 2 n) 0, fset (bini H n).2.1 (bini H n).2.2 (H 2 n), (bini H n).2.2 + 1) else bini H n := rfl
    rw [e]
    by_cases a : H 3 n = 0
    · rw [if_pos a]
      refine ⟨bI_push ho h1 o4.1 (h3 n (by omega) (by omega)) (by omega) h1.1, by show (bini H n).2.2 + 1 ≤ ((n + 1 : Nat) : Int); omega, fun k k0 k1 => ?_⟩
      show fset (bini H n).1 (H 2 n) 0 (H 2 k) = 1000
      show (if H 2 k = H 2 n then (0 : Int) else (bini H n).1 (H 2 k)) = 1000
      rw [if_neg (fun z => by have := ho.2.2.2.2.1 k n (by omega) k1 (by omega) (by omega) z; omega)]
      exact h3 k (by omega) k1
    · rw [if_neg a]
      exact ⟨h1, by omega, fun k k0 k1 => h3 k (by omega) k1⟩
theorem bI_st {H : Hal} (ho : Hok H) {s : Bq} {k w : Int} (h : bI H s) (k0 : 0 ≤ k) (k1 : k < s.2.2) : bI H (bst H k s w) ∧ s.2.2 ≤ (bst H k s w).2.2 ∧ (∀ i, 0 ≤ i → i < s.2.2 → (bst H k s w).2.1 i = s.2.1 i) ∧ (∀ c, s.1 c ≠ 1000 → (bst H k s w).1 c = s.1 c) ∧ (bst H k s w).1 (stp H (s.2.1 k) w) ≠ 1000 := by
  have o := h.2.2.1 k k0 k1
  unfold bst
  by_cases a : s.1 (stp H (s.2.1 k) w) = 1000
  · rw [if_pos a]
    refine ⟨bI_push ho h (stp_fre o.1 w) a (by omega) (by omega), by show s.2.2 ≤ s.2.2 + 1; omega, fun i i0 i1 => ?_, fun c hc => ?_, ?_⟩
    · show (if i = s.2.2 then _ else s.2.1 i) = _
      rw [if_neg (by omega)]
    · show (if c = stp H (s.2.1 k) w then _ else s.1 c) = _
      rw [if_neg (fun z => hc (by rw [z]; exact a))]
    · show (if stp H (s.2.1 k) w = stp H (s.2.1 k) w then s.1 (s.2.1 k) + 1 else _) ≠ 1000
      rw [if_pos rfl]
      have lt := bI_lt h (fre_b ho (stp_fre o.1 w)).1 (fre_b ho (stp_fre o.1 w)).2.1 a
      omega
  · rw [if_neg a]
    exact ⟨h, Int.le_refl _, fun _ _ _ => rfl, fun _ _ => rfl, a⟩
