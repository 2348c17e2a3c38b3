/-! ask: what the codes come to, purely; s: the numbers that wait, the last one first -/
def vPl (H : Hal) (C t op : Int) : Int := if op = 0 then t else if op = 1 then many H C 2 t else if op = 2 then many H C 1 t else if op = 3 then many H C 3 t else if op = 4 then many H C 4 t else if alrm H C = -1 then 0 else if t < alrm H C then 0 else 1
def vAt (H : Hal) (C t n : Int) : Int := if 0 ≤ n ∧ n < H 0 4 ∧ bt C n = true then (if doing H C n t = 4 then 99 else posn H C n t) else 99
def vDo (H : Hal) (C t n : Int) : Int := if 0 ≤ n ∧ n < H 0 4 ∧ bt C n = true then doing H C n t else 0
def clp (x : Int) : Int := if x < -1000000 then -1000000 else if 1000000 < x then 1000000 else x
def f2q (op x y : Int) : Int := if op = 8 then (if y < x then y else x) else if op = 9 then (if x < y then y else x) else if op = 10 then clp (x + y) else if op = 11 then clp (x - y) else if op = 12 then clp (x * y) else if op = 13 then (if y = 0 then 0 else x.fdiv y) else if op = 14 then (if y ≤ x then 0 else 1) else if op = 15 then (if x ≤ y then 0 else 1) else if op = 16 then (if x = y then 1 else 0) else if op = 17 then x * y else if x + y = 0 then 0 else 1
def un1 (H : Hal) (C t op x : Int) : Int := if op = 6 then vAt H C t x else if op = 7 then vDo H C t x else 1 - x
def ev1 (H : Hal) (C t : Int) (c : Int × Int) (s : List Int) : List Int :=
  if 20 ≤ c.1 then c.2 :: s else if c.1 ≤ 5 then vPl H C t c.1 :: s else if c.1 = 6 ∨ c.1 = 7 ∨ c.1 = 19 then un1 H C t c.1 (s.headD 0) :: s.tail else f2q c.1 (s.tail.headD 0) (s.headD 0) :: s.tail.tail
def bdd (x : Int) : Prop := -1000000 ≤ x ∧ x ≤ 1000000
def ok1 (c : Int × Int) (s : List Int) : Prop := (0 ≤ c.1 ∧ c.1 ≤ 21) ∧ (0 ≤ c.2 ∧ c.2 ≤ 9999) ∧ (c.1 = 21 → c.2 = 1) ∧ (c.1 ≤ 5 ∨ 20 ≤ c.1 → s.length + 1 ≤ 64) ∧ (c.1 = 6 ∨ c.1 = 7 ∨ c.1 = 19 → ∃ x r, s = x :: r ∧ bdd x ∧ (c.1 = 19 → x = 0 ∨ x = 1)) ∧ (8 ≤ c.1 → c.1 ≤ 18 → ∃ x y r, s = y :: x :: r ∧ bdd x ∧ bdd y ∧ (c.1 = 17 ∨ c.1 = 18 → (x = 0 ∨ x = 1) ∧ (y = 0 ∨ y = 1))) ∧ s.length ≤ 64
def evE (H : Hal) (C t : Int) : Cds → List Int → List Int
  | [], s => s
  | c :: cs, s => evE H C t cs (ev1 H C t c s)
def okE (H : Hal) (C t : Int) : Cds → List Int → Prop
  | [], _ => True
  | c :: cs, s => ok1 c s ∧ okE H C t cs (ev1 H C t c s)
/-- a part: one number more; tst: it is 0 or 1; h: how much room it wants -/
def good (H : Hal) (C t : Int) (tst : Bool) (h : Int) (c : Cds) : Prop := ∀ s : List Int, (s.length : Int) + h ≤ 64 → okE H C t c s ∧ ∃ v, evE H C t c s = v :: s ∧ bdd v ∧ (tst = true → v = 0 ∨ v = 1)
section
variable {H : Hal} {C t : Int}
theorem evE_a : ∀ (a b : Cds) (s : List Int), evE H C t (a ++ b) s = evE H C t b (evE H C t a s)
  | [], _, _ => rfl
  | c :: a, b, s => evE_a a b (ev1 H C t c s)
theorem okE_a : ∀ (a b : Cds) (s : List Int), okE H C t a s → okE H C t b (evE H C t a s) → okE H C t (a ++ b) s
  | [], _, _, _, h => h
  | c :: a, b, s, h1, h2 => ⟨h1.1, okE_a a b (ev1 H C t c s) h1.2 h2⟩
theorem good_le {tst : Bool} {h h' : Int} {c : Cds} (g : good H C t tst h c) (l : h ≤ h') : good H C t tst h' c := fun s hs => g s (by omega)
theorem good_f {tst : Bool} {h : Int} {c : Cds} (g : good H C t tst h c) : good H C t false h c := fun s hs => by
  obtain ⟨a, v, e, b, _⟩ := g s hs
  exact ⟨a, v, e, b, fun z => by cases z⟩
theorem clp_b (x : Int) : bdd (clp x) := by
  unfold bdd clp
  by_cases z : x < -1000000
  · rw [if_pos z]; decide
  rw [if_neg z]
  by_cases y : 1000000 < x
  · rw [if_pos y]; decide
  rw [if_neg y]; omega
theorem fdiv_b {x y : Int} (hx : bdd x) (hy : y ≠ 0) : bdd (x.fdiv y) := by
  unfold bdd at hx ⊢
  have key : ∀ a b : Int, 0 < b → -1000000 ≤ a → a ≤ 1000000 → -1000000 ≤ a.fdiv b ∧ a.fdiv b ≤ 1000000 := by
    intro a b hb h1 h2
    rw [Int.fdiv_eq_ediv_of_nonneg a (by omega)]
    have d1 := Int.emod_add_mul_ediv a b
    have d2 := Int.emod_nonneg a (show b ≠ 0 by omega)
    have d3 := Int.emod_lt_of_pos a hb
    obtain ⟨q, hq⟩ : ∃ q, q = a / b := ⟨_, rfl⟩
    rw [← hq] at d1 ⊢
    constructor
    · refine Classical.byContradiction (fun z => ?_)
      have q1 : q ≤ -1000001 := by omega
      have m := Int.mul_le_mul_of_nonneg_left q1 (show (0 : Int) ≤ b by omega)
      have m2 : b * -1000001 ≤ -1000001 - (b - 1) := by omega
      omega
    · refine Classical.byContradiction (fun z => ?_)
      have q1 : 1000001 ≤ q := by omega
      have m := Int.mul_le_mul_of_nonneg_left q1 (show (0 : Int) ≤ b by omega)
      omega
  by_cases z : 0 < y
  · exact key x y z hx.1 hx.2
  · have := key (-x) (-y) (by omega) (by omega) (by omega)
    rw [Int.neg_fdiv_neg] at this
    exact this
theorem f2_b {op x y : Int} (hx : bdd x) (hy : bdd y) (h8 : 8 ≤ op) (h18 : op ≤ 18) (hl : op = 17 ∨ op = 18 → (x = 0 ∨ x = 1) ∧ (y = 0 ∨ y = 1)) : bdd (f2q op x y) ∧ (14 ≤ op → f2q op x y = 0 ∨ f2q op x y = 1) := by
  unfold f2q
  by_cases z : op = 8
  · rw [if_pos z]; refine ⟨?_, fun y => by omega⟩; by_cases z : y < x; rw [if_pos z]; exact hy; rw [if_neg z]; exact hx
  rw [if_neg z]
  by_cases z : op = 9
  · rw [if_pos z]; refine ⟨?_, fun y => by omega⟩; by_cases z : x < y; rw [if_pos z]; exact hy; rw [if_neg z]; exact hx
  rw [if_neg z]
  by_cases z : op = 10
  · rw [if_pos z]; exact ⟨clp_b _, fun y => by omega⟩
  rw [if_neg z]
  by_cases z : op = 11
  · rw [if_pos z]; exact ⟨clp_b _, fun y => by omega⟩
  rw [if_neg z]
  by_cases z : op = 12
  · rw [if_pos z]; exact ⟨clp_b _, fun y => by omega⟩
  rw [if_neg z]
  by_cases z : op = 13
  · rw [if_pos z]
    refine ⟨?_, fun y => by omega⟩
    by_cases z : y = 0
    · rw [if_pos z]; unfold bdd; decide
    · rw [if_neg z]; exact fdiv_b hx z
  rw [if_neg z]
  have b01 : ∀ (p : Prop) [Decidable p], bdd (if p then (0 : Int) else 1) ∧ (14 ≤ op → (if p then (0 : Int) else 1) = 0 ∨ (if p then (0 : Int) else 1) = 1) := by
    intro p _
    by_cases z : p
    · rw [if_pos z]; exact ⟨by unfold bdd; decide, fun _ => Or.inl rfl⟩
    · rw [if_neg z]; exact ⟨by unfold bdd; decide, fun _ => Or.inr rfl⟩
  by_cases z : op = 14
  · rw [if_pos z]; exact b01 _
  rw [if_neg z]
  by_cases z : op = 15
  · rw [if_pos z]; exact b01 _
  rw [if_neg z]
  by_cases z : op = 16
  · rw [if_pos z]
    by_cases z : x = y
    · rw [if_pos z]; exact ⟨by unfold bdd; decide, fun _ => Or.inr rfl⟩
    · rw [if_neg z]; exact ⟨by unfold bdd; decide, fun _ => Or.inl rfl⟩
  rw [if_neg z]
  by_cases z : op = 17
  · rw [if_pos z]
    obtain ⟨h1, h2⟩ := hl (Or.inl z)
    rcases h1 with rfl | rfl <;> rcases h2 with rfl | rfl <;> exact ⟨by unfold bdd; decide, fun _ => by decide⟩
  rw [if_neg z]
  exact b01 _
/-- an operator between two parts -/
theorem good_2 {tst : Bool} {h h' : Int} {a b : Cds} {op : Int} (h8 : 8 ≤ op) (h18 : op ≤ 18) (ga : good H C t tst h a) (gb : good H C t tst h' b) (hh : h' + 1 ≤ h) (h0 : 1 ≤ h') (hl : op = 17 ∨ op = 18 → tst = true) : good H C t (decide (14 ≤ op)) h (a ++ b ++ [(op, 0)]) := by
  intro s hs
  obtain ⟨a1, v1, a2, a3, a4⟩ := ga s hs
  have l1 := lenc v1 s
  obtain ⟨b1, v2, b2, b3, b4⟩ := gb (v1 :: s) (by omega)
  have l2 := lenc v2 (v1 :: s)
  have e1 : evE H C t (a ++ b) s = v2 :: v1 :: s := by rw [evE_a, a2, b2]
  have e2 : ev1 H C t (op, 0) (v2 :: v1 :: s) = f2q op v1 v2 :: s := by
    unfold ev1
    rw [if_neg (show ¬ 20 ≤ op by omega), if_neg (show ¬ op ≤ 5 by omega), if_neg (show ¬ (op = 6 ∨ op = 7 ∨ op = 19) by omega)]
    rfl
  have f := f2_b a3 b3 h8 h18 (fun z => ⟨a4 (hl z), b4 (hl z)⟩)
  have o1 : ok1 (op, 0) (v2 :: v1 :: s) := ⟨⟨by show 0 ≤ op; omega, by show op ≤ 21; omega⟩, ⟨Int.le_refl 0, (by decide : (0 : Int) ≤ 9999)⟩, fun z => absurd z (show ¬ op = 21 by omega), fun z => absurd z (show ¬ (op ≤ 5 ∨ 20 ≤ op) by omega), fun z => absurd z (show ¬ (op = 6 ∨ op = 7 ∨ op = 19) by omega), fun _ _ => ⟨v1, v2, s, rfl, a3, b3, fun z => ⟨a4 (hl z), b4 (hl z)⟩⟩, by omega⟩
  refine ⟨okE_a _ _ s (okE_a a b s a1 (by rw [a2]; exact b1)) (by rw [e1]; exact ⟨o1, trivial⟩), f2q op v1 v2, ?_, f.1, fun z => f.2 (of_decide_eq_true z)⟩
  rw [evE_a, e1]
  exact e2
theorem posn_b (ho : Hok H) {p : Int} (p0 : 0 ≤ p) (p1 : p < H 0 4) (x : Int) : 0 ≤ posn H C p x ∧ posn H C p x < 54 := by
  have key : fre H (posn H C p x) := by
    unfold posn
    by_cases z : oo H C p = -1 ∨ x < oo H C p
    · rw [if_pos z]; exact wlk_fre ho p0 p1 _
    rw [if_neg z]
    by_cases y : x < oo H C p + H 0 6
    · rw [if_pos y]; exact wlk_fre ho p0 p1 _
    · rw [if_neg y]; exact gng_fre ho p0 p1 _
  have := fre_b ho key
  omega
theorem vAt_b (ho : Hok H) (n : Int) : 0 ≤ vAt H C t n ∧ vAt H C t n ≤ 99 := by
  unfold vAt
  by_cases z : 0 ≤ n ∧ n < H 0 4 ∧ bt C n = true
  · rw [if_pos z]
    by_cases y : doing H C n t = 4
    · rw [if_pos y]; decide
    · rw [if_neg y]; have := posn_b (C := C) ho z.1 z.2.1 t; omega
  · rw [if_neg z]; decide
theorem vDo_b (n : Int) : 0 ≤ vDo H C t n ∧ vDo H C t n ≤ 4 := by
  unfold vDo
  by_cases z : 0 ≤ n ∧ n < H 0 4 ∧ bt C n = true
  · rw [if_pos z]
    have := doing_b (H := H) (C := C) (p := n) (t := t)
    omega
  · rw [if_neg z]; decide
theorem many_b (ho : Hok H) (k : Int) : 0 ≤ many H C k t ∧ many H C k t ≤ 9 := by
  have b := cnt_b (fun p => decide (doing H C p t = k)) (H 0 4).toNat
  have hbd := ho.2.1
  unfold many
  omega
theorem vPl_b (ho : Hok H) (t0 : 0 ≤ t ∧ t ≤ 200) (op : Int) : 0 ≤ vPl H C t op ∧ vPl H C t op ≤ 200 := by
  have m := fun k => many_b (H := H) (C := C) (t := t) ho k
  unfold vPl
  have m1 := m 1
  have m2 := m 2
  have m3 := m 3
  have m4 := m 4
  by_cases z : op = 0
  · rw [if_pos z]; exact t0
  rw [if_neg z]
  by_cases z : op = 1
  · rw [if_pos z]; omega
  rw [if_neg z]
  by_cases z : op = 2
  · rw [if_pos z]; omega
  rw [if_neg z]
  by_cases z : op = 3
  · rw [if_pos z]; omega
  rw [if_neg z]
  by_cases z : op = 4
  · rw [if_pos z]; omega
  rw [if_neg z]
  by_cases z : alrm H C = -1
  · rw [if_pos z]; decide
  rw [if_neg z]
  by_cases z : t < alrm H C
  · rw [if_pos z]; decide
  · rw [if_neg z]; decide
theorem good_p (ho : Hok H) (t0 : 0 ≤ t ∧ t ≤ 200) {op : Int} (h0 : 0 ≤ op) (h5 : op ≤ 5) : good H C t false 1 [(op, 0)] := by
  intro s hs
  have v := vPl_b (C := C) ho t0 op
  have e2 : ev1 H C t (op, 0) s = vPl H C t op :: s := by
    unfold ev1
    rw [if_neg (show ¬ 20 ≤ op by omega), if_pos (show op ≤ 5 by omega)]
  exact ⟨⟨⟨⟨by show 0 ≤ op; omega, by show op ≤ 21; omega⟩, ⟨Int.le_refl 0, (by decide : (0 : Int) ≤ 9999)⟩, fun z => absurd z (show ¬ op = 21 by omega), fun _ => by omega, fun z => absurd z (show ¬ (op = 6 ∨ op = 7 ∨ op = 19) by omega), fun z => absurd z (show ¬ 8 ≤ op by omega), by omega⟩, trivial⟩, vPl H C t op, e2, ⟨by omega, by omega⟩, fun z => by cases z⟩
theorem good_n {v : Int} (h0 : 0 ≤ v) (h5 : v ≤ 9999) : good H C t false 1 [(20, v)] := by
  intro s hs
  exact ⟨⟨⟨⟨(by decide : (0 : Int) ≤ 20), (by decide : (20 : Int) ≤ 21)⟩, ⟨h0, h5⟩, fun z => absurd z (by decide : ¬ (20 : Int) = 21), fun _ => by omega, fun z => absurd z (by decide : ¬ ((20 : Int) = 6 ∨ (20 : Int) = 7 ∨ (20 : Int) = 19)), fun _ z => absurd z (by decide : ¬ (20 : Int) ≤ 18), by omega⟩, trivial⟩, v, rfl, ⟨by omega, by omega⟩, fun z => by cases z⟩
theorem good_a : good H C t true 1 [(21, 1)] := by
  intro s hs
  exact ⟨⟨⟨⟨by decide, by decide⟩, ⟨by decide, by decide⟩, fun _ => rfl, fun _ => by omega, fun z => absurd z (by decide), fun _ z => absurd z (by decide), by omega⟩, trivial⟩, 1, rfl, ⟨by decide, by decide⟩, fun _ => Or.inr rfl⟩
theorem good_1 (ho : Hok H) {h : Int} {a : Cds} {op : Int} {tst : Bool} (hop : op = 6 ∨ op = 7 ∨ op = 19) (ga : good H C t tst h a) (h0 : 1 ≤ h) (hl : op = 19 → tst = true) : good H C t (decide (op = 19)) h (a ++ [(op, 0)]) := by
  intro s hs
  obtain ⟨a1, v1, a2, a3, a4⟩ := ga s hs
  have l1 := lenc v1 s
  have e2 : ev1 H C t (op, 0) (v1 :: s) = un1 H C t op v1 :: s := by
    unfold ev1
    rw [if_neg (show ¬ 20 ≤ op by omega), if_neg (show ¬ op ≤ 5 by omega), if_pos hop]
    rfl
  have o1 : ok1 (op, 0) (v1 :: s) := ⟨⟨by show 0 ≤ op; omega, by show op ≤ 21; omega⟩, ⟨Int.le_refl 0, (by decide : (0 : Int) ≤ 9999)⟩, fun z => absurd z (show ¬ op = 21 by omega), fun z => absurd z (show ¬ (op ≤ 5 ∨ 20 ≤ op) by omega), fun _ => ⟨v1, s, rfl, a3, fun z => a4 (hl z)⟩, fun z1 z2 => absurd z1 (fun (z1 : 8 ≤ op) => by have z2 : op ≤ 18 := z2; omega), by omega⟩
  refine ⟨okE_a _ _ s a1 (by rw [a2]; exact ⟨o1, trivial⟩), un1 H C t op v1, ?_, ?_, fun z => ?_⟩
  · rw [evE_a, a2]; exact e2
  · unfold un1
    by_cases z : op = 6
    · rw [if_pos z]; have := vAt_b (C := C) (t := t) ho v1; exact ⟨by omega, by omega⟩
    rw [if_neg z]
    by_cases z : op = 7
    · rw [if_pos z]; have := vDo_b (H := H) (C := C) (t := t) v1; exact ⟨by omega, by omega⟩
    rw [if_neg z]
    have := a4 (hl (by omega))
    exact ⟨by omega, by omega⟩
  · have z : op = 19 := of_decide_eq_true z
    have := a4 (hl z)
    unfold un1
    rw [if_neg (by omega), if_neg (by omega)]
    omega
section
variable {b : Int → Int} {n : Int}
theorem lpq_g {tst : Bool} {h : Int} {T : Int → Int → Int} {f : Int → Int → Rd} (h1 : 1 ≤ h) (hT : ∀ p e, T p e ≠ -1 → (10 ≤ T p e ∧ T p e ≤ 13 ∧ tst = false) ∨ ((T p e = 17 ∨ T p e = 18) ∧ tst = true)) (hf : ∀ p e x, f p e = Sum.inr x → good H C t tst h x.1) : ∀ (k : Nat) (c : Cds) (p e : Int) (x : Cds × Int × Int), good H C t tst (h + 1) c → lpq b n T f k c p e = Sum.inr x → good H C t tst (h + 1) x.1 := by
  intro k
  induction k with
  | zero => intro c p e x _ hx; unfold lpq at hx; cases hx
  | succ k ih =>
    intro c p e x hc hx
    have e1 : lpq b n T f (k + 1) c p e = if T p e = -1 then Sum.inr (c, p, e) else bnd (f (nxp b n p) (nxe b n p)) (fun x => lpq b n T f k (c ++ x.1 ++ [(T p e, 0)]) x.2.1 x.2.2) := rfl
    rw [e1] at hx
    by_cases z : T p e = -1
    · rw [if_pos z] at hx; cases hx; exact hc
    rw [if_neg z] at hx
    obtain ⟨y, hy, h2⟩ := bnd_i hx
    have tv := hT p e z
    have g := good_2 (op := T p e) (by omega) (by omega) hc (hf _ _ y hy) (Int.le_refl _) h1 (fun y => by
      rcases tv with v | v
      · omega
      · exact v.2)
    refine ih _ _ _ x ?_ h2
    rcases tv with v | v
    · rw [v.2.2]; rw [show decide (14 ≤ T p e) = false from decide_eq_false (by omega)] at g; exact g
    · rw [v.2]; rw [show decide (14 ≤ T p e) = true from decide_eq_true (by omega)] at g; exact g
def tst (tag : Nat) : Bool := decide (tag ≤ 3)
def rmq (tag : Nat) (d : Int) : Int := (if tag = 0 then 6 else if tag = 1 then 5 else if tag ≤ 3 then 4 else if tag = 4 then 3 else if tag = 5 then 2 else 1) + 3 * (6 - d)
theorem tCmp_b {p e : Int} (h : tCmp b n p e ≠ -1) : 14 ≤ tCmp b n p e ∧ tCmp b n p e ≤ 16 := by
  unfold tCmp at h ⊢
  by_cases z : isg b n p e 60 = true
  · rw [if_pos z]; decide
  rw [if_neg z] at h ⊢
  by_cases z : isg b n p e 62 = true
  · rw [if_pos z]; decide
  rw [if_neg z] at h ⊢
  by_cases z : isg b n p e 61 = true
  · rw [if_pos z]; decide
  · rw [if_neg z] at h; exact absurd rfl h
/-- what is read comes to a number -/
theorem Rq_g (ho : Hok H) (t0 : 0 ≤ t ∧ t ≤ 200) : ∀ (k tag : Nat) (d p e : Int) (x : Cds × Int × Int), tag ≤ 7 → (0 ≤ d ∧ d ≤ 6) → Rq b n k tag d p e = Sum.inr x → (tag ≤ 6 → good H C t (tst tag) (rmq tag d) x.1) ∧ (tag = 7 → ∃ a c, x.1 = a ++ c ∧ good H C t false (rmq 7 d) a ∧ good H C t false (rmq 7 d - 1) c ∧ d < 6) := by
  intro k
  induction k with
  | zero => intro tag d p e x _ _ h; unfold Rq at h; cases h
  | succ k ih =>
    intro tag d p e x ht hd h
    have lp : ∀ (T : Int → Int → Int) (i : Nat), i ≤ 6 → 1 ≤ rmq i d → (∀ p e, T p e ≠ -1 → (10 ≤ T p e ∧ T p e ≤ 13 ∧ tst i = false) ∨ ((T p e = 17 ∨ T p e = 18) ∧ tst i = true)) → bnd (Rq b n k i d p e) (fun x => lpq b n T (Rq b n k i d) 1601 x.1 x.2.1 x.2.2) = Sum.inr x → good H C t (tst i) (rmq i d + 1) x.1 := by
      intro T i hi h1 hT h
      obtain ⟨y, hy, h2⟩ := bnd_i h
      have g := (ih i d p e y (by omega) hd hy).1 hi
      exact lpq_g h1 hT (fun p e x hx => (ih i d p e x (by omega) hd hx).1 hi) 1601 y.1 y.2.1 y.2.2 x (good_le g (by omega)) h2
    have t7 : tag = 0 ∨ tag = 1 ∨ tag = 2 ∨ tag = 3 ∨ tag = 4 ∨ tag = 5 ∨ tag = 6 ∨ tag = 7 := by omega
    have r0 : rmq 0 d = 6 + 3 * (6 - d) := rfl
    have r1 : rmq 1 d = 5 + 3 * (6 - d) := rfl
    have r2 : rmq 2 d = 4 + 3 * (6 - d) := rfl
    have r3 : rmq 3 d = 4 + 3 * (6 - d) := rfl
    have r4 : rmq 4 d = 3 + 3 * (6 - d) := rfl
    have r5 : rmq 5 d = 2 + 3 * (6 - d) := rfl
    have r6 : rmq 6 d = 1 + 3 * (6 - d) := rfl
    have r7 : rmq 7 d = 1 + 3 * (6 - d) := rfl
    rcases t7 with rfl | rfl | rfl | rfl | rfl | rfl | rfl | rfl
    · refine ⟨fun _ => ?_, fun z => absurd z (by decide)⟩
      rw [Rq_0] at h
      exact good_le (lp _ 1 (by decide) (by omega) (fun p e z => Or.inr ⟨Or.inr (tOr_1 z).2, rfl⟩) h) (by omega)
    · refine ⟨fun _ => ?_, fun z => absurd z (by decide)⟩
      rw [Rq_1] at h
      exact good_le (lp _ 2 (by decide) (by omega) (fun p e z => Or.inr ⟨Or.inl (tAnd_1 z).2, rfl⟩) h) (by omega)
    · refine ⟨fun _ => ?_, fun z => absurd z (by decide)⟩
      rw [Rq_2] at h
      have q2 : rmq 2 (d + 1) = 4 + 3 * (6 - (d + 1)) := rfl
      have q0 : rmq 0 (d + 1) = 6 + 3 * (6 - (d + 1)) := rfl
      split at h
      · split at h
        · cases h
        · obtain ⟨y, hy, h2⟩ := bnd_i h
          have g := (ih 2 (d + 1) _ _ y (by decide) (by omega) hy).1 (by decide)
          cases h2
          exact good_le (good_1 ho (Or.inr (Or.inr rfl)) g (by omega) (fun _ => rfl)) (by omega)
      split at h
      · split at h
        · cases h
        · obtain ⟨y, hy, h2⟩ := bnd_i h
          have g := (ih 0 (d + 1) _ _ y (by decide) (by omega) hy).1 (by decide)
          obtain ⟨u, hu, h3⟩ := bnd_i h2
          cases h3
          exact good_le g (by omega)
      split at h
      · cases h
        exact good_le good_a (by omega)
      · exact good_le ((ih 3 d p e x (by decide) hd h).1 (by decide)) (by omega)
    · refine ⟨fun _ => ?_, fun z => absurd z (by decide)⟩
      rw [Rq_3] at h
      obtain ⟨y, hy, h2⟩ := bnd_i h
      have g := (ih 4 d p e y (by decide) hd hy).1 (by decide)
      split at h2
      · cases h2
      · rename_i hc
        obtain ⟨z, hz, h3⟩ := bnd_i h2
        have g' := (ih 4 d _ _ z (by decide) hd hz).1 (by decide)
        have cb := tCmp_b hc
        cases h3
        have G := good_2 (op := tCmp b n y.2.1 y.2.2) (h := rmq 3 d) (by omega) (by omega) (good_le g (by omega)) g' (by omega) (by omega) (fun z => by omega)
        rw [show decide (14 ≤ tCmp b n y.2.1 y.2.2) = true from decide_eq_true cb.1] at G
        exact G
    · refine ⟨fun _ => ?_, fun z => absurd z (by decide)⟩
      rw [Rq_4] at h
      exact good_le (lp _ 5 (by decide) (by omega) (fun p e z => Or.inl ⟨by have := tSum_v z; omega, by have := tSum_v z; omega, rfl⟩) h) (by omega)
    · refine ⟨fun _ => ?_, fun z => absurd z (by decide)⟩
      rw [Rq_5] at h
      exact good_le (lp _ 6 (by decide) (by omega) (fun p e z => Or.inl ⟨by have := tMul_v z; omega, by have := tMul_v z; omega, rfl⟩) h) (by omega)
    · refine ⟨fun _ => ?_, fun z => absurd z (by decide)⟩
      have q4 : rmq 4 (d + 1) = 3 + 3 * (6 - (d + 1)) := rfl
      have q6 : rmq 6 (d + 1) = 1 + 3 * (6 - (d + 1)) := rfl
      rw [Rq_6] at h
      split at h
      · obtain ⟨v, hv, h2⟩ := bnd_i h
        unfold pN at hv
        obtain ⟨u, hu, hv2⟩ := bnd_i hv
        have ub := pnm_b hu
        cases hv2
        cases h2
        exact good_le (good_n ub.1 ub.2) (by omega)
      split at h
      · split at h
        · cases h
        · obtain ⟨y, hy, h2⟩ := bnd_i h
          have g := (ih 4 (d + 1) _ _ y (by decide) (by omega) hy).1 (by decide)
          obtain ⟨u, hu, h3⟩ := bnd_i h2
          cases h3
          exact good_le g (by omega)
      split at h
      · cases h
      rename_i hf
      have fb := fdx_b (b := b) (n := n) (p := p) (e := e) (fl 12) 0 (by decide)
      obtain ⟨s, hs⟩ : ∃ s, s = fdx b n p e (fl 12) 0 := ⟨_, rfl⟩
      rw [← hs] at h hf fb
      have fb' : s = -1 ∨ (0 ≤ s ∧ s < 10) := fb
      split at h
      · rename_i h67
        split at h
        · cases h
        · obtain ⟨y, hy, h2⟩ := bnd_i h
          have g := (ih 6 (d + 1) _ _ y (by decide) (by omega) hy).1 (by decide)
          cases h2
          have G := good_1 (op := s) ho (by omega) g (by omega) (fun z => by omega)
          rw [show decide (s = 19) = false from decide_eq_false (by omega)] at G
          exact good_le G (by omega)
      split at h
      · cases h
        exact good_le (good_p ho t0 (by omega) (by omega)) (by omega)
      · obtain ⟨y, hy, h2⟩ := bnd_i h
        obtain ⟨a, c, e1, ga, gc, d5⟩ := (ih 7 d _ _ y (by decide) hd hy).2 rfl
        cases h2
        have G := good_2 (op := s) (h := rmq 6 d) (by omega) (by omega) (good_le ga (by omega)) gc (by omega) (by omega) (fun z => by omega)
        rw [show decide (14 ≤ s) = false from decide_eq_false (by omega)] at G
        show good H C t false (rmq 6 d) (y.1 ++ [(s, 0)])
        rw [e1]
        exact G
    · refine ⟨fun z => absurd z (by decide), fun _ => ?_⟩
      have q4 : rmq 4 (d + 1) = 3 + 3 * (6 - (d + 1)) := rfl
      rw [Rq_7] at h
      split at h
      · cases h
      split at h
      · cases h
      · obtain ⟨y, hy, h2⟩ := bnd_i h
        have g := (ih 4 (d + 1) _ _ y (by decide) (by omega) hy).1 (by decide)
        obtain ⟨u, hu, h3⟩ := bnd_i h2
        obtain ⟨z, hz, h4⟩ := bnd_i h3
        have g' := (ih 4 (d + 1) _ _ z (by decide) (by omega) hz).1 (by decide)
        obtain ⟨v, hv, h5⟩ := bnd_i h4
        cases h5
        exact ⟨y.1, z.1, rfl, good_le g (by omega), good_le g' (by omega), by omega⟩
end
end
