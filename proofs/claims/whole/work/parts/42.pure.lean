/-! the morning, in numbers: what follows from the definitions alone -/
theorem cnt_b (f : Int → Bool) : ∀ n : Nat, 0 ≤ cnt f n ∧ cnt f n ≤ n
  | 0 => ⟨Int.le_refl _, Int.le_refl _⟩
  | n + 1 => by
    have h := cnt_b f n
    show 0 ≤ cnt f n + (if f n then 1 else 0) ∧ cnt f n + (if f n then 1 else 0) ≤ ((n + 1 : Nat) : Int)
    by_cases c : f n = true
    · rw [if_pos c]; omega
    · rw [if_neg c]; omega
theorem cnt_c {f g : Int → Bool} : ∀ n : Nat, (∀ i : Int, 0 ≤ i → i < n → f i = g i) → cnt f n = cnt g n
  | 0, _ => rfl
  | n + 1, h => by
    show cnt f n + (if f n then 1 else 0) = cnt g n + (if g n then 1 else 0)
    rw [cnt_c n (fun i a b => h i a (by omega)), h n (by omega) (by omega)]
theorem cnt_0 {f : Int → Bool} {n : Nat} (h : ∀ i : Int, 0 ≤ i → i < n → f i = false) : cnt f n = 0 := by
  rw [cnt_c (g := fun _ => false) n h]
  clear h
  induction n with
  | zero => rfl
  | succ n ih =>
    show cnt (fun _ => false) n + (if false = true then 1 else 0) = 0
    rw [ih]
    rfl
theorem cnt_pos {f : Int → Bool} : ∀ {n : Nat} {i : Int}, 0 ≤ i → i < n → f i = true → 0 < cnt f n
  | 0, i, a, b, _ => by omega
  | n + 1, i, a, b, h => by
    have hb := cnt_b f n
    show 0 < cnt f n + (if f n then 1 else 0)
    by_cases c : i = n
    · rw [if_pos (by rw [← c]; exact h)]; omega
    · have := cnt_pos (n := n) a (by omega) h
      by_cases d : f n = true
      · rw [if_pos d]; omega
      · rw [if_neg d]; omega
theorem cnt_ex {f : Int → Bool} : ∀ {n : Nat}, 0 < cnt f n → ∃ i : Int, 0 ≤ i ∧ i < n ∧ f i = true
  | 0, h => absurd h (by show ¬ (0 : Int) < 0; decide)
  | n + 1, h => by
    by_cases c : f n = true
    · exact ⟨n, by omega, by omega, c⟩
    · have h2 : 0 < cnt f n + (if f n then 1 else 0) := h
      rw [if_neg c] at h2
      obtain ⟨i, a, b, d⟩ := cnt_ex (n := n) (by rw [Int.add_zero] at h2; exact h2)
      exact ⟨i, a, by omega, d⟩
/-- the first of some -/
theorem fst1_s {f : Int → Bool} : ∀ (k : Nat) (a : Int), 0 ≤ a → (fst1 f a k = -1 ∧ ∀ i, a ≤ i → i < a + k → f i = false) ∨ (a ≤ fst1 f a k ∧ fst1 f a k < a + k ∧ f (fst1 f a k) = true ∧ ∀ i, a ≤ i → i < fst1 f a k → f i = false)
  | 0, a, _ => Or.inl ⟨rfl, fun i x y => by omega⟩
  | k + 1, a, ha => by
    have e : fst1 f a (k + 1) = if f a then a else fst1 f (a + 1) k := rfl
    rw [e]
    by_cases c : f a = true
    · rw [if_pos c]
      exact Or.inr ⟨by omega, by omega, c, fun i x y => by omega⟩
    · rw [if_neg c]
      have cf : f a = false := by cases h : f a with
        | true => exact absurd h c
        | false => rfl
      rcases fst1_s k (a + 1) (by omega) with ⟨h1, h2⟩ | ⟨h1, h2, h3, h4⟩
      · refine Or.inl ⟨h1, fun i x y => ?_⟩
        by_cases d : i = a
        · rw [d]; exact cf
        · exact h2 i (by omega) (by omega)
      · refine Or.inr ⟨by omega, by omega, h3, fun i x y => ?_⟩
        by_cases d : i = a
        · rw [d]; exact cf
        · exact h4 i (by omega) y
theorem fst1_c {f g : Int → Bool} : ∀ (k : Nat) (a : Int), (∀ i, a ≤ i → i < a + k → f i = g i) → fst1 f a k = fst1 g a k
  | 0, _, _ => rfl
  | k + 1, a, h => by
    show (if f a then a else fst1 f (a + 1) k) = (if g a then a else fst1 g (a + 1) k)
    rw [h a (by omega) (by omega), fst1_c k (a + 1) (fun i x y => h i (by omega) (by omega))]
/-- cells -/
theorem ediv_b {a b : Int} (ha : 0 ≤ a) (hb : 0 < b) : 0 ≤ a / b ∧ a / b ≤ a ∧ 0 ≤ a % b ∧ a % b < b ∧ b * (a / b) + a % b = a := by
  have h1 := Int.emod_nonneg a (show b ≠ 0 by omega)
  have h2 := Int.emod_lt_of_pos a hb
  have h3 := Int.mul_ediv_add_emod a b
  have h4 : 0 ≤ a / b := Int.ediv_nonneg ha (by omega)
  have h5 : a / b ≤ a := Int.ediv_le_self b ha
  exact ⟨h4, h5, h1, h2, h3⟩
theorem cell_in {w t x y : Int} (hx : 0 ≤ x) (hx1 : x < w) (hy : 0 ≤ y) (hy1 : y < t) : 0 ≤ w * y + x ∧ w * y + x < w * t := by
  have h1 : 0 ≤ w * y := Int.mul_nonneg (by omega) hy
  have h2 : w * (y + 1) ≤ w * t := Int.mul_le_mul_of_nonneg_left (by omega) (by omega)
  rw [Int.mul_add] at h2
  omega
theorem stp_fre {H : Hal} {c : Int} (h : fre H c) (s : Int) : fre H (stp H c s) := by
  unfold stp
  by_cases a : okc H (c % H 0 0 + dx s) (c / H 0 0 + dy s)
  · rw [if_pos a]
    have := cell_in a.1 a.2.1 a.2.2.1 a.2.2.2.1
    exact ⟨this.1, this.2, a.2.2.2.2⟩
  · rw [if_neg a]
    exact h
theorem wlk_fre {H : Hal} (ho : Hok H) {p : Int} (p0 : 0 ≤ p) (p1 : p < H 0 4) : ∀ t : Nat, fre H (wlk H p t)
  | 0 => (ho.2.2.2.2.2.2.1 p p0 p1).1
  | t + 1 => stp_fre (wlk_fre ho p0 p1 t) _
theorem fre_b {H : Hal} (ho : Hok H) {c : Int} (h : fre H c) : 0 ≤ c ∧ c < 54 ∧ 2 ≤ H 0 0 ∧ H 0 0 ≤ 9 ∧ 2 ≤ H 0 1 ∧ H 0 1 ≤ 6 := by
  have hb := hcells ho
  obtain ⟨h1, h2, h3⟩ := h
  rcases ho.1 with z | z
  · rw [z.1, z.2.1] at h2
    omega
  · omega
/-- the first strike -/
theorem strk_b {H : Hal} (ho : Hok H) {p : Int} (p0 : 0 ≤ p) (p1 : p < H 0 4) : 1 ≤ strk H p ∧ strk H p ≤ 201 := by
  have h1 := ho.2.1
  have h2 := ho.2.2.2.2.2.2.1 p p0 p1
  unfold strk
  by_cases a : H 11 p = 1
  · rw [if_pos a]; omega
  · rw [if_neg a]
    by_cases b : 1 < H 0 5 + H 8 p - 60
    · rw [if_pos b]; omega
    · rw [if_neg b]; omega
theorem frst_s {H : Hal} (ho : Hok H) (C : Int) : ∀ n : Nat, (n : Int) ≤ H 0 4 → 1 ≤ frst H C n ∧ frst H C n ≤ 201 ∧ (∀ p : Int, 0 ≤ p → p < n → bt C p = true → frst H C n ≤ strk H p) ∧ (frst H C n = 201 ∨ ∃ p : Int, 0 ≤ p ∧ p < n ∧ bt C p = true ∧ strk H p = frst H C n)
  | 0, _ => ⟨(show 1 ≤ (201 : Int) by decide), (show (201 : Int) ≤ 201 by decide), fun p a b => by omega, Or.inl rfl⟩
  | n + 1, hn => by
    obtain ⟨h1, h2, h3, h4⟩ := frst_s ho C n (by omega)
    have hs := strk_b ho (p := n) (by omega) (by omega)
    have e : frst H C (n + 1) = if bt C n then (if strk H n < frst H C n then strk H n else frst H C n) else frst H C n := rfl
    rw [e]
    by_cases a : bt C n = true
    · rw [if_pos a]
      by_cases b : strk H n < frst H C n
      · rw [if_pos b]
        refine ⟨hs.1, hs.2, fun p x y z => ?_, Or.inr ⟨n, by omega, by omega, a, rfl⟩⟩
        by_cases c : p = n
        · rw [c]; omega
        · have := h3 p x (by omega) z
          omega
      · rw [if_neg b]
        refine ⟨h1, h2, fun p x y z => ?_, ?_⟩
        · by_cases c : p = n
          · rw [c]; omega
          · exact h3 p x (by omega) z
        · rcases h4 with z | ⟨p, x, y, z, u⟩
          · exact Or.inl z
          · exact Or.inr ⟨p, x, by omega, z, u⟩
    · rw [if_neg a]
      refine ⟨h1, h2, fun p x y z => ?_, ?_⟩
      · by_cases c : p = n
        · rw [c] at z; exact absurd z a
        · exact h3 p x (by omega) z
      · rcases h4 with z | ⟨p, x, y, z, u⟩
        · exact Or.inl z
        · exact Or.inr ⟨p, x, by omega, z, u⟩
theorem ff_s {H : Hal} (ho : Hok H) (C : Int) : 1 ≤ ff H C ∧ ff H C ≤ 201 ∧ (∀ p, 0 ≤ p → p < H 0 4 → bt C p = true → ff H C ≤ strk H p) ∧ (ff H C = 201 ∨ ∃ p, 0 ≤ p ∧ p < H 0 4 ∧ bt C p = true ∧ strk H p = ff H C) := by
  have hb := ho.2.1
  have h := frst_s ho C (H 0 4).toNat (by omega)
  refine ⟨h.1, h.2.1, fun p a b c => h.2.2.1 p a (by omega) c, ?_⟩
  rcases h.2.2.2 with z | ⟨p, x, y, z, u⟩
  · exact Or.inl z
  · exact Or.inr ⟨p, x, by omega, z, u⟩
/-- who opens when -/
theorem opn_b (H : Hal) (C : Int) (p : Int) : ∀ s : Nat, opn H C s p = -1 ∨ (1 ≤ opn H C s p ∧ opn H C s p ≤ s)
  | 0 => Or.inl rfl
  | s + 1 => by
    have e : opn H C (s + 1) p = if 0 ≤ p ∧ p < H 0 4 ∧ bt C p = true ∧ opn H C s p = -1 ∧ bys H C (opn H C s) p s ≠ 0 then (s : Int) + 1 else opn H C s p := rfl
    rw [e]
    by_cases a : 0 ≤ p ∧ p < H 0 4 ∧ bt C p = true ∧ opn H C s p = -1 ∧ bys H C (opn H C s) p s ≠ 0
    · rw [if_pos a]
      exact Or.inr ⟨by omega, by omega⟩
    · rw [if_neg a]
      rcases opn_b H C p s with h | h
      · exact Or.inl h
      · exact Or.inr ⟨h.1, by omega⟩
theorem opn_k {H : Hal} {C p : Int} {s : Nat} (h : opn H C s p ≠ -1) : ∀ d : Nat, opn H C (s + d) p = opn H C s p
  | 0 => rfl
  | d + 1 => by
    have e : opn H C (s + d + 1) p = if 0 ≤ p ∧ p < H 0 4 ∧ bt C p = true ∧ opn H C (s + d) p = -1 ∧ bys H C (opn H C (s + d)) p (s + d) ≠ 0 then ((s + d : Nat) : Int) + 1 else opn H C (s + d) p := rfl
    rw [show s + (d + 1) = s + d + 1 from rfl, e, opn_k h d, if_neg (fun z => h z.2.2.2.1)]
theorem opn_le {H : Hal} {C p : Int} {s t : Nat} (hst : s ≤ t) (h : opn H C s p ≠ -1) : opn H C t p = opn H C s p := by
  have := opn_k h (t - s)
  rw [show s + (t - s) = t by omega] at this
  exact this
theorem opn_n {H : Hal} {C p : Int} {s t : Nat} (hst : s ≤ t) : opn H C s p = if opn H C t p ≠ -1 ∧ opn H C t p ≤ s then opn H C t p else -1 := by
  by_cases a : opn H C s p = -1
  · rw [a]
    by_cases b : opn H C t p ≠ -1 ∧ opn H C t p ≤ s
    · exfalso
      -- he opened in second opn t p, which is at most s
      have hb := opn_b H C p t
      have key : ∀ d : Nat, s + d ≤ t → opn H C (s + d) p = -1 ∨ (s : Int) < opn H C (s + d) p := by
        intro d
        induction d with
        | zero => exact fun _ => Or.inl a
        | succ d ih =>
          intro hd
          have e : opn H C (s + d + 1) p = if 0 ≤ p ∧ p < H 0 4 ∧ bt C p = true ∧ opn H C (s + d) p = -1 ∧ bys H C (opn H C (s + d)) p (s + d) ≠ 0 then ((s + d : Nat) : Int) + 1 else opn H C (s + d) p := rfl
          rw [show s + (d + 1) = s + d + 1 from rfl, e]
          by_cases c : 0 ≤ p ∧ p < H 0 4 ∧ bt C p = true ∧ opn H C (s + d) p = -1 ∧ bys H C (opn H C (s + d)) p (s + d) ≠ 0
          · rw [if_pos c]
            exact Or.inr (by omega)
          · rw [if_neg c]
            exact ih (by omega)
      have := key (t - s) (by omega)
      rw [show s + (t - s) = t by omega] at this
      rcases this with z | z
      · exact b.1 z
      · omega
    · rw [if_neg b]
  · have h := opn_le hst a
    have hb := opn_b H C p s
    rw [h, if_pos ⟨a, by omega⟩]
theorem opn_out {H : Hal} {C p : Int} (h : ¬ (0 ≤ p ∧ p < H 0 4 ∧ bt C p = true)) : ∀ s : Nat, opn H C s p = -1
  | 0 => rfl
  | s + 1 => by
    have e : opn H C (s + 1) p = if 0 ≤ p ∧ p < H 0 4 ∧ bt C p = true ∧ opn H C s p = -1 ∧ bys H C (opn H C s) p s ≠ 0 then (s : Int) + 1 else opn H C s p := rfl
    rw [e, if_neg (fun z => h ⟨z.1, z.2.1, z.2.2.1⟩), opn_out h s]
theorem sees_0 {H : Hal} (ho : Hok H) {C p : Int} {O : Int → Int} {s : Nat} (h : ∀ q, 0 ≤ q → q < H 0 4 → bt C q = true → isop H O q s = false) : sees H C O p s = 0 := by
  have hb := ho.2.1
  refine cnt_0 (fun q a b => ?_)
  cases hb2 : bt C q with
  | false => simp
  | true => simp [h q a (by omega) hb2]
theorem bys_0 {H : Hal} (ho : Hok H) {C p : Int} {O : Int → Int} {s : Nat} (h : ∀ q, 0 ≤ q → q < H 0 4 → bt C q = true → isop H O q s = false) : bys H C O p s = if strk H p ≤ (s : Int) + 1 then 1 else 0 := by
  unfold bys
  rw [sees_0 ho h]
  by_cases a : strk H p ≤ (s : Int) + 1
  · rw [if_pos a, if_pos a]
  · rw [if_neg a, if_neg a, if_neg (by omega)]
/-- with nobody open, and no watch of one who waits that strikes, all stays -/
theorem opn_skip {H : Hal} (ho : Hok H) {C : Int} {s : Nat} (h : ∀ q, 0 ≤ q → q < H 0 4 → bt C q = true → isop H (opn H C s) q s = false) : ∀ d : Nat, (∀ p, 0 ≤ p → p < H 0 4 → bt C p = true → opn H C s p = -1 → (s : Int) + d < strk H p) → opn H C (s + d) = opn H C s ∧ hws H C (s + d) = hws H C s ∧ (∀ q, 0 ≤ q → q < H 0 4 → bt C q = true → isop H (opn H C s) q ((s + d : Nat) : Int) = false)
  | 0, _ => ⟨rfl, rfl, h⟩
  | d + 1, hs => by
    obtain ⟨h1, h2, h3⟩ := opn_skip ho h d (fun p a b c e => by have := hs p a b c e; omega)
    have hb : ∀ p, 0 ≤ p → p < H 0 4 → bt C p = true → opn H C s p = -1 → bys H C (opn H C (s + d)) p (s + d) = 0 := by
      intro p a b c e
      rw [h1, bys_0 ho h3, if_neg]
      have := hs p a b c e
      omega
    refine ⟨?_, ?_, ?_⟩
    · funext p
      have e : opn H C (s + d + 1) p = if 0 ≤ p ∧ p < H 0 4 ∧ bt C p = true ∧ opn H C (s + d) p = -1 ∧ bys H C (opn H C (s + d)) p (s + d) ≠ 0 then ((s + d : Nat) : Int) + 1 else opn H C (s + d) p := rfl
      rw [show s + (d + 1) = s + d + 1 from rfl, e, if_neg, h1]
      intro z
      refine z.2.2.2.2 (hb p z.1 z.2.1 z.2.2.1 ?_)
      rw [← h1]
      exact z.2.2.2.1
    · funext p
      have e : hws H C (s + d + 1) p = if 0 ≤ p ∧ p < H 0 4 ∧ bt C p = true ∧ opn H C (s + d) p = -1 then bys H C (opn H C (s + d)) p (s + d) else hws H C (s + d) p := rfl
      rw [show s + (d + 1) = s + d + 1 from rfl, e, h2]
      by_cases z : 0 ≤ p ∧ p < H 0 4 ∧ bt C p = true ∧ opn H C (s + d) p = -1
      · rw [if_pos z, hb p z.1 z.2.1 z.2.2.1 (by rw [← h1]; exact z.2.2.2)]
        -- who has not opened has no how
        have hw0 : ∀ t : Nat, opn H C t p = -1 → hws H C t p = 0 := by
          intro t
          induction t with
          | zero => exact fun _ => rfl
          | succ t ih =>
            intro ht
            have e1 : opn H C (t + 1) p = if 0 ≤ p ∧ p < H 0 4 ∧ bt C p = true ∧ opn H C t p = -1 ∧ bys H C (opn H C t) p t ≠ 0 then (t : Int) + 1 else opn H C t p := rfl
            have e2 : hws H C (t + 1) p = if 0 ≤ p ∧ p < H 0 4 ∧ bt C p = true ∧ opn H C t p = -1 then bys H C (opn H C t) p t else hws H C t p := rfl
            rw [e1] at ht
            rw [e2]
            by_cases y : 0 ≤ p ∧ p < H 0 4 ∧ bt C p = true ∧ opn H C t p = -1 ∧ bys H C (opn H C t) p t ≠ 0
            · rw [if_pos y] at ht
              omega
            · rw [if_neg y] at ht
              by_cases x : 0 ≤ p ∧ p < H 0 4 ∧ bt C p = true ∧ opn H C t p = -1
              · rw [if_pos x]
                exact Decidable.byContradiction (fun u => y ⟨x.1, x.2.1, x.2.2.1, x.2.2.2, u⟩)
              · rw [if_neg x]
                exact ih ht
        exact (hw0 s (by rw [← h1]; exact z.2.2.2)).symm
      · rw [if_neg z]
    · intro q a b c
      have x := h3 q a b c
      have y := h q a b c
      have hq := opn_b H C q s
      unfold isop at x y ⊢
      rw [decide_eq_false_iff_not] at x y ⊢
      intro u
      exact y ⟨u.1, by omega, by omega⟩
/-- ahead of the first strike nobody opens -/
theorem opn_pre {H : Hal} (ho : Hok H) (C : Int) {s : Nat} (hs : (s : Int) < ff H C) : opn H C s = (fun _ => -1) ∧ hws H C s = (fun _ => 0) := by
  have f := ff_s ho C
  have := opn_skip ho (C := C) (s := 0) (fun q _ _ _ => by unfold isop; rw [decide_eq_false_iff_not]; exact fun z => z.1 rfl) s (fun p a b c _ => by have := f.2.2.1 p a b c; omega)
  rw [Nat.zero_add] at this
  exact ⟨this.1, this.2.1⟩
/-- from it on one is open or was -/
theorem opn_post {H : Hal} (ho : Hok H) (C : Int) {s : Nat} (hF : ff H C ≤ 200) (hs : ff H C ≤ (s : Int)) : ∃ p, 0 ≤ p ∧ p < H 0 4 ∧ bt C p = true ∧ opn H C s p = ff H C := by
  have f := ff_s ho C
  rcases f.2.2.2 with z | ⟨p, x, y, z, u⟩
  · omega
  · obtain ⟨t, ht⟩ : ∃ t : Nat, (t : Int) + 1 = ff H C := ⟨(ff H C - 1).toNat, by omega⟩
    have pre := opn_pre ho C (s := t) (by omega)
    have e : opn H C (t + 1) p = if 0 ≤ p ∧ p < H 0 4 ∧ bt C p = true ∧ opn H C t p = -1 ∧ bys H C (opn H C t) p t ≠ 0 then (t : Int) + 1 else opn H C t p := rfl
    have hb : bys H C (opn H C t) p t = 1 := by
      unfold bys
      rw [if_pos (by omega)]
    rw [if_pos ⟨x, y, z, by rw [pre.1], by rw [hb]; decide⟩, ht] at e
    refine ⟨p, x, y, z, ?_⟩
    rw [← e]
    exact opn_le (by omega) (by omega)
