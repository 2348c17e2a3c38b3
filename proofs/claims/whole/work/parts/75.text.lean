/-! the text of a hall: in numbers -/
def bnd {A B : Type} (x : Sum (Int × Int) A) (f : A → Sum (Int × Int) B) : Sum (Int × Int) B := match x with
  | Sum.inl e => Sum.inl e
  | Sum.inr a => f a
theorem bnd_l {A B : Type} {x : Sum (Int × Int) A} {f : A → Sum (Int × Int) B} {e : Int × Int} (h : x = Sum.inl e) : bnd x f = Sum.inl e := by rw [h]; rfl
theorem bnd_r {A B : Type} {x : Sum (Int × Int) A} {f : A → Sum (Int × Int) B} {a : A} (h : x = Sum.inr a) : bnd x f = f a := by rw [h]; rfl
def pW (b : Int → Int) (n p e : Int) (i : Nat) : Sum (Int × Int) (Int × Int) := if iswd b n p e (wd i) = true then Sum.inr (nxp b n p, nxe b n p) else Sum.inl (1, p)
def pS (b : Int → Int) (n p e c : Int) : Sum (Int × Int) (Int × Int) := if isg b n p e c = true then Sum.inr (nxp b n p, nxe b n p) else Sum.inl (1, p)
def pN (b : Int → Int) (n p e l m w : Int) : Sum (Int × Int) (Int × Int × Int) := bnd (pnm b n p e l m w) (fun v => Sum.inr (v, nxp b n p, nxe b n p))
def dat (H : Hal) (c : Int) : Int := fst1 (fun k => decide (H 2 k = c)) 0 (H 0 2).toNat
def smb (H : Hal) (c : Int) : Bool := decide (fst1 (fun p => decide (H 7 p = c)) 0 (H 0 4).toNat ≠ -1) || decide (fst1 (fun g => decide (H 4 g = c)) 0 (H 0 3).toNat ≠ -1)
def mst (H : Hal) (kind c : Int) : Bool := if kind = 1 then decide (dat H c = -1) && !smb H c else if kind = 2 then decide (dat H c = -1) && decide (H 1 c = 0) else decide (H 1 c = 0)
def pC (b : Int → Int) (n p e : Int) (H : Hal) (kind : Int) : Sum (Int × Int) (Int × Int × Int) :=
  bnd (pN b n p e 0 (H 0 0 - 1) p) (fun x => bnd (pN b n x.2.1 x.2.2 0 (H 0 1 - 1) x.2.1) (fun y => if mst H kind (H 0 0 * y.1 + x.1) = true then Sum.inr (H 0 0 * y.1 + x.1, y.2.1, y.2.2) else Sum.inl (2, x.2.1)))
/-- the letters of a name -/
def lts (b : Int → Int) (p : Int) (k : Nat) : Int := b (p + k) - 96
def hnm (H : Hal) (a : Int) : Bool := decide (fst1 (fun p => decide (H 14 p = a)) 0 (H 0 4).toNat ≠ -1) || decide (fst1 (fun g => decide (H 15 g = a)) 0 (H 0 3).toNat ≠ -1)
def pM (b : Int → Int) (n p e : Int) (H : Hal) : Sum (Int × Int) (Int × Int × Int × Int) :=
  if knd b n p e = 1 ∧ fdx b n p e (fl 0) 0 = -1 then (if tnd b n p - p ≤ 6 then (if hnm H (n32 (lts b p) (tnd b n p - p).toNat 6) = true then Sum.inl (3, p) else Sum.inr (n32 (lts b p) (tnd b n p - p).toNat 6, n27 (lts b p) (tnd b n p - p).toNat, nxp b n p, nxe b n p)) else Sum.inl (1, p + 6)) else Sum.inl (1, p)
/-- the watch and 60 -/
def pL (b : Int → Int) (n p e : Int) : Sum (Int × Int) (Int × Int × Int) :=
  if isg b n p e 45 = true then bnd (pN b n (nxp b n p) (nxe b n p) 0 60 p) (fun v => Sum.inr (60 - v.1, v.2.1, v.2.2)) else bnd (pN b n p e 0 60 p) (fun v => Sum.inr (60 + v.1, v.2.1, v.2.2))
def wof (x : Int) : Int := if x = 110 then 0 else if x = 101 then 1 else if x = 115 then 2 else if x = 119 then 3 else if x = 120 then 4 else -1
def allw (b : Int → Int) (p : Int) : Nat → Bool
  | 0 => true
  | k + 1 => allw b p k && decide (wof (b (p + k)) ≠ -1)
def pT (b : Int → Int) (n p e : Int) : Sum (Int × Int) (Int × Int × Int) := if knd b n p e = 1 ∧ tnd b n p - p ≤ 12 ∧ allw b p (tnd b n p - p).toNat = true then Sum.inr (tnd b n p - p, nxp b n p, nxe b n p) else Sum.inl (1, p)
/-- what a statement makes of the hall -/
def uW (H : Hal) (c : Int) : Hal := fun f i => if f = 1 ∧ i = c then 1 else H f i
def uD (H : Hal) (c : Int) : Hal := fun f i => if f = 0 ∧ i = 2 then H 0 2 + 1 else if f = 2 ∧ i = H 0 2 then c else if f = 3 ∧ i = H 0 2 then 0 else H f i
def uG (H : Hal) (a a' c s l : Int) : Hal := fun f i => if f = 0 ∧ i = 3 then H 0 3 + 1 else if i = H 0 3 ∧ f = 15 then a else if f = 16 ∧ i = 10 + H 0 3 then a' else if i = H 0 3 ∧ f = 4 then c else if i = H 0 3 ∧ f = 5 then s else if i = H 0 3 ∧ f = 6 then l else H f i
def uP (H : Hal) (a a' c w d m : Int) (st : Int → Int) (q : Int) (k : Int) : Hal := fun f i => if f = 0 ∧ i = 4 then H 0 4 + 1 else if i = H 0 4 ∧ f = 14 then a else if f = 16 ∧ i = H 0 4 then a' else if i = H 0 4 ∧ f = 7 then c else if i = H 0 4 ∧ f = 8 then w else if i = H 0 4 ∧ f = 9 then d else if i = H 0 4 ∧ f = 10 then m else if i = H 0 4 ∧ f = 11 then k else if i = H 0 4 ∧ f = 12 then q else if f = 13 ∧ 12 * H 0 4 ≤ i ∧ i < 12 * H 0 4 + 12 then st (i - 12 * H 0 4) else H f i
def uR (H : Hal) (k v : Int) : Hal := fun f i => if f = 0 ∧ i = k then v else H f i
def pP (b : Int → Int) (n p e : Int) (H : Hal) : Sum (Int × Int) (Hal × Int × Int) :=
  bnd (pM b n p e H) (fun a => bnd (pW b n a.2.2.1 a.2.2.2 72) (fun t1 => bnd (pC b n t1.1 t1.2 H 3) (fun c => bnd (pW b n c.2.1 c.2.2 73) (fun t2 => bnd (pL b n t2.1 t2.2) (fun w => bnd (pW b n w.2.1 w.2.2 74) (fun t3 => bnd (pN b n t3.1 t3.2 0 9 t3.1) (fun d => bnd (pW b n d.2.1 d.2.2 75) (fun t4 => bnd (pN b n t4.1 t4.2 0 4 t4.1) (fun m => bnd (pW b n m.2.1 m.2.2 76) (fun t5 => bnd (pT b n t5.1 t5.2) (fun q =>
    if iswd b n q.2.1 q.2.2 (wd 77) = true then Sum.inr (uP H a.1 a.2.1 c.1 w.1 d.1 m.1 (fun k => wof (b (t5.1 + k))) q.1 1, nxp b n q.2.1, nxe b n q.2.1) else Sum.inr (uP H a.1 a.2.1 c.1 w.1 d.1 m.1 (fun k => wof (b (t5.1 + k))) q.1 0, q.2.1, q.2.2))))))))))))
def pG (b : Int → Int) (n p e : Int) (H : Hal) : Sum (Int × Int) (Hal × Int × Int) :=
  bnd (pM b n p e H) (fun a => bnd (pW b n a.2.2.1 a.2.2.2 72) (fun t1 => bnd (pC b n t1.1 t1.2 H 4) (fun c => bnd (pW b n c.2.1 c.2.2 79) (fun t2 => bnd (pN b n t2.1 t2.2 1 9 t2.1) (fun s => bnd (pW b n s.2.1 s.2.2 80) (fun t3 => bnd (pN b n t3.1 t3.2 1 20 t3.1) (fun l => Sum.inr (uG H a.1 a.2.1 c.1 s.1 l.1, l.2.1, l.2.2))))))))
def rmx (k : Int) : Int := if k = 5 then 99 else if k = 6 then 30 else if k = 7 then 5 else 9
def full (H : Hal) (w k : Int) : Bool := if k = 1 then decide (15 ≤ w) else if k = 2 then decide (6 ≤ H 0 2) else if k = 3 then decide (9 ≤ H 0 4) else if k = 4 then decide (4 ≤ H 0 3) else false
/-- a statement behind its first word -/
def pB (b : Int → Int) (n p e : Int) (H : Hal) (w k : Int) : Sum (Int × Int) ((Hal × Int) × Int × Int) :=
  if k = 1 then bnd (pC b n p e H 1) (fun c => Sum.inr ((uW H c.1, w + 1), c.2.1, c.2.2)) else
  if k = 2 then bnd (pC b n p e H 2) (fun c => Sum.inr ((uD H c.1, w), c.2.1, c.2.2)) else
  if k = 3 then bnd (pP b n p e H) (fun c => Sum.inr ((c.1, w), c.2.1, c.2.2)) else
  if k = 4 then bnd (pG b n p e H) (fun c => Sum.inr ((c.1, w), c.2.1, c.2.2)) else
  bnd (pN b n p e 1 (rmx k) p) (fun v => Sum.inr ((uR H k v.1, w), v.2.1, v.2.2))
/-- a statement, not the first one -/
def pA (b : Int → Int) (n p e : Int) (H : Hal) (w : Int) : Sum (Int × Int) ((Hal × Int) × Int × Int) :=
  if fdx b n p e (fl 0) 0 < 1 ∨ 8 < fdx b n p e (fl 0) 0 then Sum.inl (1, p) else
  if full H w (fdx b n p e (fl 0) 0) = true then Sum.inl (5, p) else
  bnd (pB b n (nxp b n p) (nxe b n p) H w (fdx b n p e (fl 0) 0)) (fun x => bnd (pS b n x.2.1 x.2.2 59) (fun t => Sum.inr (x.1, t.1, t.2)))
def uS (H : Hal) (x y : Int) : Hal := uR (uR H 0 x) 1 y
def H00c : Hal := fun f i => if f = 0 then (if i = 5 then 60 else if i = 6 then 20 else if i = 7 then 1 else if i = 8 then 3 else 0) else 0
/-- the first statement -/
def p1 (b : Int → Int) (n p e : Int) : Sum (Int × Int) (Hal × Int × Int) :=
  bnd (pW b n p e 68) (fun t => bnd (pN b n t.1 t.2 2 9 t.1) (fun x => bnd (pN b n x.2.1 x.2.2 2 6 x.2.1) (fun y => bnd (pS b n y.2.1 y.2.2 59) (fun z => Sum.inr (uS H00c x.1 y.1, z.1, z.2)))))
/-- the others: s are told -/
def pZ (b : Int → Int) (n : Int) : Nat → Int → Int → Hal → Int → Int → Sum (Int × Int) (Hal × Int)
  | 0, p, _, _, _, _ => Sum.inl (5, p)
  | k + 1, p, e, H, w, s => if n ≤ p then Sum.inr (H, s) else if s = 70 then Sum.inl (5, p) else bnd (pA b n p e H w) (fun x => pZ b n k x.2.1 x.2.2 x.1.1 x.1.2 (s + 1))
def pText (b : Int → Int) (n : Int) : Sum (Int × Int) (Hal × Int) := bnd (p1 b n (fwd blk b n 0) (-1)) (fun x => pZ b n 71 x.2.1 x.2.2 x.1 0 1)
section
variable {b : Int → Int} {n p e : Int}
theorem pnm_v {l m w v : Int} (h : pnm b n p e l m w = Sum.inr v) : l ≤ v ∧ v ≤ m ∧ knd b n p e = 2 := by
  unfold pnm at h
  by_cases k : knd b n p e = 2
  · rw [if_pos k] at h
    by_cases t : tnd b n p - p ≤ 4
    · rw [if_pos t] at h
      by_cases u : l ≤ nvl b p (tnd b n p - p).toNat ∧ nvl b p (tnd b n p - p).toNat ≤ m
      · rw [if_pos u] at h
        have e1 : nvl b p (tnd b n p - p).toNat = v := by injection h
        rw [e1] at u
        exact ⟨u.1, u.2, k⟩
      · rw [if_neg u] at h; cases h
    · rw [if_neg t] at h; cases h
  · rw [if_neg k] at h; cases h
theorem pnm_f {l m w f pl : Int} (h : pnm b n p e l m w = Sum.inl (f, pl)) : f ≠ 0 := by
  unfold pnm at h
  by_cases k : knd b n p e = 2
  · rw [if_pos k] at h
    by_cases t : tnd b n p - p ≤ 4
    · rw [if_pos t] at h
      by_cases u : l ≤ nvl b p (tnd b n p - p).toNat ∧ nvl b p (tnd b n p - p).toNat ≤ m
      · rw [if_pos u] at h; cases h
      · rw [if_neg u] at h
        have : (2 : Int) = f := by injection h with h; injection h
        rw [← this]; decide
    · rw [if_neg t] at h
      have : (1 : Int) = f := by injection h with h; injection h
      rw [← this]; decide
  · rw [if_neg k] at h
    have : (1 : Int) = f := by injection h with h; injection h
    rw [← this]; decide
theorem pN_l {l m w f pl : Int} : pN b n p e l m w = Sum.inl (f, pl) ↔ pnm b n p e l m w = Sum.inl (f, pl) := by
  unfold pN
  cases h : pnm b n p e l m w with
  | inl x =>
    rw [bnd_l rfl]
    constructor
    · intro z
      injection z with z
      rw [z]
    · intro z
      injection z with z
      rw [z]
  | inr v =>
    rw [bnd_r rfl]
    constructor
    · intro z
      cases z
    · intro z
      cases z
theorem pN_r {l m w v : Int} (h : pnm b n p e l m w = Sum.inr v) : pN b n p e l m w = Sum.inr (v, nxp b n p, nxe b n p) := by
  unfold pN
  rw [bnd_r h]
theorem pN_v {l m w : Int} {x : Int × Int × Int} (h : pN b n p e l m w = Sum.inr x) : l ≤ x.1 ∧ x.1 ≤ m := by
  unfold pN at h
  cases h2 : pnm b n p e l m w with
  | inl y => rw [h2, bnd_l rfl] at h; cases h
  | inr v =>
    rw [h2, bnd_r rfl] at h
    have e1 : (v, nxp b n p, nxe b n p) = x := by injection h
    rw [← e1]
    have := pnm_v h2
    exact ⟨this.1, this.2.1⟩
end
