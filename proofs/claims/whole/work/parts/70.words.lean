/-! the words of a tape, in numbers -/
def ffw (f : Int → Bool) (b : Int → Int) (n : Int) : Nat → Int → Int
  | 0, i => i
  | k + 1, i => if n ≤ i then i else if f (b i) = true then ffw f b n k (i + 1) else i
def fwd (f : Int → Bool) (b : Int → Int) (n i : Int) : Int := ffw f b n (n - i).toNat i
def blk (x : Int) : Bool := decide (x = 10 ∨ x = 32)
def ltr (x : Int) : Bool := decide (97 ≤ x ∧ x ≤ 122)
def dgt (x : Int) : Bool := decide (48 ≤ x ∧ x ≤ 57)
section
variable {f : Int → Bool} {b : Int → Int} {n : Int}
theorem ffw_s : ∀ (k : Nat) (i : Int), n ≤ i + k → i ≤ ffw f b n k i ∧ (i ≤ n → ffw f b n k i ≤ n) ∧ (∀ j, i ≤ j → j < ffw f b n k i → f (b j) = true) ∧ (ffw f b n k i < n → f (b (ffw f b n k i)) = false)
  | 0, i, h => ⟨Int.le_refl _, fun z => z, fun j a c => by have c2 : j < i := c; omega, fun z => by have z2 : i < n := z; omega⟩
  | k + 1, i, h => by
    have e : ffw f b n (k + 1) i = if n ≤ i then i else if f (b i) = true then ffw f b n k (i + 1) else i := rfl
    rw [e]
    by_cases z : n ≤ i
    · rw [if_pos z]
      exact ⟨Int.le_refl _, fun y => y, fun j a c => by omega, fun y => by omega⟩
    · rw [if_neg z]
      cases y : f (b i) with
      | true =>
        rw [if_pos rfl]
        have ih := ffw_s k (i + 1) (by omega)
        refine ⟨by omega, fun _ => ih.2.1 (by omega), fun j a c => ?_, ih.2.2.2⟩
        by_cases w : j = i
        · rw [w]; exact y
        · exact ih.2.2.1 j (by omega) c
      | false =>
        rw [if_neg (by decide)]
        exact ⟨Int.le_refl _, fun _ => by omega, fun j a c => by omega, fun _ => y⟩
theorem fwd_s {i : Int} (h : i ≤ n) : i ≤ fwd f b n i ∧ fwd f b n i ≤ n ∧ (∀ j, i ≤ j → j < fwd f b n i → f (b j) = true) ∧ (fwd f b n i < n → f (b (fwd f b n i)) = false) := by
  have s := ffw_s (f := f) (b := b) (n := n) (n - i).toNat i (by omega)
  exact ⟨s.1, s.2.1 h, s.2.2⟩
theorem fwd_u {i q : Int} (h1 : i ≤ q) (h2 : q ≤ n) (h3 : ∀ j, i ≤ j → j < q → f (b j) = true) (h4 : q < n → f (b q) = false) : fwd f b n i = q := by
  have s := fwd_s (f := f) (b := b) (n := n) (i := i) (by omega)
  obtain ⟨r, hr⟩ : ∃ r, r = fwd f b n i := ⟨_, rfl⟩
  rw [← hr] at s ⊢
  have n1 : ¬ r < q := by
    intro z
    have := s.2.2.2 (by omega)
    rw [h3 r s.1 z] at this
    exact absurd this (by decide)
  have n2 : ¬ q < r := by
    intro z
    have := h4 (by omega)
    rw [s.2.2.1 q h1 z] at this
    exact absurd this (by decide)
  omega
theorem fwd_1 {i : Int} (h : i < n) (y : f (b i) = true) : fwd f b n i = fwd f b n (i + 1) := by
  have s := fwd_s (f := f) (b := b) (n := n) (i := i + 1) (by omega)
  refine fwd_u (by omega) s.2.1 (fun j a c => ?_) s.2.2.2
  by_cases w : j = i
  · rw [w]; exact y
  · exact s.2.2.1 j (by omega) c
end
/-- the kind of the word at p, where a word or a number has ended at e -/
def knd (b : Int → Int) (n p e : Int) : Int := if n ≤ p then 0 else if ltr (b p) = true then (if p = e then 4 else 1) else if dgt (b p) = true then (if p = e then 4 else 2) else 3
def tnd (b : Int → Int) (n p : Int) : Int := if n ≤ p then p else if ltr (b p) = true then fwd ltr b n p else if dgt (b p) = true then fwd dgt b n p else p + 1
def nxp (b : Int → Int) (n p : Int) : Int := fwd blk b n (tnd b n p)
def nxe (b : Int → Int) (n p : Int) : Int := if ltr (b p) = true ∨ dgt (b p) = true then tnd b n p else -1
def bOK (b : Int → Int) (n p : Int) : Prop := 0 ≤ n ∧ n ≤ 1600 ∧ (∀ k, 0 ≤ k → k < n → 0 ≤ b k ∧ b k ≤ 255) ∧ 0 ≤ p ∧ p ≤ n ∧ (p < n → blk (b p) = false)
theorem ltr_b {x : Int} (h : ltr x = true) : 97 ≤ x ∧ x ≤ 122 := of_decide_eq_true h
theorem dgt_b {x : Int} (h : dgt x = true) : 48 ≤ x ∧ x ≤ 57 := of_decide_eq_true h
theorem ltr_n {x : Int} (h : ¬ ltr x = true) : x < 97 ∨ 122 < x := by
  have : ¬ (97 ≤ x ∧ x ≤ 122) := fun z => h (decide_eq_true z)
  omega
theorem dgt_n {x : Int} (h : ¬ dgt x = true) : x < 48 ∨ 57 < x := by
  have : ¬ (48 ≤ x ∧ x ≤ 57) := fun z => h (decide_eq_true z)
  omega
section
variable {b : Int → Int} {n p e : Int}
theorem tnd_b (h : bOK b n p) : p ≤ tnd b n p ∧ tnd b n p ≤ n ∧ (p < n → p < tnd b n p) := by
  obtain ⟨_, _, _, _, h5, _⟩ := h
  unfold tnd
  by_cases a : n ≤ p
  · rw [if_pos a]; omega
  · rw [if_neg a]
    by_cases l : ltr (b p) = true
    · rw [if_pos l, fwd_1 (by omega) l]
      have s := fwd_s (f := ltr) (b := b) (n := n) (i := p + 1) (by omega)
      omega
    · rw [if_neg l]
      by_cases d : dgt (b p) = true
      · rw [if_pos d, fwd_1 (by omega) d]
        have s := fwd_s (f := dgt) (b := b) (n := n) (i := p + 1) (by omega)
        omega
      · rw [if_neg d]; omega
theorem nx_ok (h : bOK b n p) : bOK b n (nxp b n p) ∧ tnd b n p ≤ nxp b n p ∧ (p < n → p < nxp b n p) := by
  have t := tnd_b h
  obtain ⟨h1, h2, h3, h4, h5, h6⟩ := h
  have s := fwd_s (f := blk) (b := b) (n := n) (i := tnd b n p) t.2.1
  have e : nxp b n p = fwd blk b n (tnd b n p) := rfl
  rw [e]
  exact ⟨⟨h1, h2, h3, by omega, s.2.1, s.2.2.2⟩, s.1, fun z => by have := t.2.2 z; omega⟩
theorem ltr_dgt {x : Int} (h : ltr x = true) : ¬ dgt x = true := by
  intro z
  have a := ltr_b h
  have c := dgt_b z
  omega
theorem knd_v : knd b n p e = 0 ∨ knd b n p e = 1 ∨ knd b n p e = 2 ∨ knd b n p e = 3 ∨ knd b n p e = 4 := by
  unfold knd
  by_cases a : n ≤ p
  · rw [if_pos a]; omega
  · rw [if_neg a]
    by_cases l : ltr (b p) = true
    · rw [if_pos l]
      by_cases z : p = e
      · rw [if_pos z]; omega
      · rw [if_neg z]; omega
    · rw [if_neg l]
      by_cases d : dgt (b p) = true
      · rw [if_pos d]
        by_cases z : p = e
        · rw [if_pos z]; omega
        · rw [if_neg z]; omega
      · rw [if_neg d]; omega
theorem knd_0 : knd b n p e = 0 ↔ n ≤ p := by
  unfold knd
  by_cases a : n ≤ p
  · rw [if_pos a]; exact ⟨fun _ => a, fun _ => rfl⟩
  · rw [if_neg a]
    refine ⟨fun z => ?_, fun z => absurd z a⟩
    exfalso
    revert z
    by_cases l : ltr (b p) = true
    · rw [if_pos l]
      by_cases z : p = e
      · rw [if_pos z]; decide
      · rw [if_neg z]; decide
    · rw [if_neg l]
      by_cases d : dgt (b p) = true
      · rw [if_pos d]
        by_cases z : p = e
        · rw [if_pos z]; decide
        · rw [if_neg z]; decide
      · rw [if_neg d]; decide
theorem knd_1 : knd b n p e = 1 ↔ p < n ∧ ltr (b p) = true ∧ p ≠ e := by
  unfold knd
  by_cases a : n ≤ p
  · rw [if_pos a]; exact ⟨fun z => absurd z (by decide), fun z => by omega⟩
  · rw [if_neg a]
    by_cases l : ltr (b p) = true
    · rw [if_pos l]
      by_cases z : p = e
      · rw [if_pos z]; exact ⟨fun w => absurd w (by decide), fun w => absurd z w.2.2⟩
      · rw [if_neg z]; exact ⟨fun _ => ⟨by omega, l, z⟩, fun _ => rfl⟩
    · rw [if_neg l]
      refine ⟨fun z => ?_, fun z => absurd z.2.1 l⟩
      exfalso
      revert z
      by_cases d : dgt (b p) = true
      · rw [if_pos d]
        by_cases z : p = e
        · rw [if_pos z]; decide
        · rw [if_neg z]; decide
      · rw [if_neg d]; decide
theorem knd_2 : knd b n p e = 2 ↔ p < n ∧ dgt (b p) = true ∧ p ≠ e := by
  unfold knd
  by_cases a : n ≤ p
  · rw [if_pos a]; exact ⟨fun z => absurd z (by decide), fun z => by omega⟩
  · rw [if_neg a]
    by_cases l : ltr (b p) = true
    · rw [if_pos l]
      refine ⟨fun z => ?_, fun z => absurd z.2.1 (ltr_dgt l)⟩
      exfalso
      revert z
      by_cases z : p = e
      · rw [if_pos z]; decide
      · rw [if_neg z]; decide
    · rw [if_neg l]
      by_cases d : dgt (b p) = true
      · rw [if_pos d]
        by_cases z : p = e
        · rw [if_pos z]; exact ⟨fun w => absurd w (by decide), fun w => absurd z w.2.2⟩
        · rw [if_neg z]; exact ⟨fun _ => ⟨by omega, d, z⟩, fun _ => rfl⟩
      · rw [if_neg d]; exact ⟨fun w => absurd w (by decide), fun w => absurd w.2.1 d⟩
theorem knd_3 : knd b n p e = 3 ↔ p < n ∧ ¬ ltr (b p) = true ∧ ¬ dgt (b p) = true := by
  unfold knd
  by_cases a : n ≤ p
  · rw [if_pos a]; exact ⟨fun z => absurd z (by decide), fun z => by omega⟩
  · rw [if_neg a]
    by_cases l : ltr (b p) = true
    · rw [if_pos l]
      refine ⟨fun z => ?_, fun z => absurd l z.2.1⟩
      exfalso
      revert z
      by_cases z : p = e
      · rw [if_pos z]; decide
      · rw [if_neg z]; decide
    · rw [if_neg l]
      by_cases d : dgt (b p) = true
      · rw [if_pos d]
        refine ⟨fun z => ?_, fun z => absurd d z.2.2⟩
        exfalso
        revert z
        by_cases z : p = e
        · rw [if_pos z]; decide
        · rw [if_neg z]; decide
      · rw [if_neg d]; exact ⟨fun _ => ⟨by omega, l, d⟩, fun _ => rfl⟩
end
