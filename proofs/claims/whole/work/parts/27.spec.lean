/-! what a hall, a morning and the state between calls are, in numbers -/
abbrev Hal : Type := Nat → Int → Int
def Ev (P : (Int → Mem → Prop) → Prop) (v : Int) (M' : Mem) : Prop := ∀ Q : Int → Mem → Prop, Q v M' → P Q
theorem ms (M : Mem) (p k x q j : Int) : mset M p k x q j = if q = p ∧ j = k then x else M q j := by
  unfold mset
  by_cases h : q = p
  · subst h
    by_cases h2 : j = k
    · simp [h2]
    · simp [h2]
  · simp [h]
/-- fields of a hall: 0 (0 wide, 1 high, 2 doors, 3 guards, 4 people, 5 stroke, 6 open, 7 near, 8 enough), 1 wall, 2 door's cell, 3 closed, 4 guard's cell, 5 sees, 6 looks, 7 cell, 8 watch, 9 dares, 10 comes, 11 passer, 12 number of steps, 13 steps (12 p + k), 14 name, 15 guard's name, 16 names in base 27 (10 kind + which) -/
def dx (s : Int) : Int := if s = 1 then 1 else if s = 3 then -1 else 0
def dy (s : Int) : Int := if s = 2 then 1 else if s = 0 then -1 else 0
abbrev okc (H : Hal) (x y : Int) : Prop := 0 ≤ x ∧ x < H 0 0 ∧ 0 ≤ y ∧ y < H 0 1 ∧ H 1 (H 0 0 * y + x) = 0
def stp (H : Hal) (c s : Int) : Int := if okc H (c % H 0 0 + dx s) (c / H 0 0 + dy s) then H 0 0 * (c / H 0 0 + dy s) + (c % H 0 0 + dx s) else c
def wlk (H : Hal) (p : Int) : Nat → Int
  | 0 => H 7 p
  | t + 1 => stp H (wlk H p t) (H 13 (12 * p + (t : Int) % H 12 p))
def iabs (x : Int) : Int := if 0 ≤ x then x else -x
def far (H : Hal) (a b : Int) : Int := iabs (a % H 0 0 - b % H 0 0) + iabs (a / H 0 0 - b / H 0 0)
def cnt (f : Int → Bool) : Nat → Int
  | 0 => 0
  | n + 1 => cnt f n + if f n then 1 else 0
def fst1 (f : Int → Bool) (a : Int) : Nat → Int
  | 0 => -1
  | k + 1 => if f a then a else fst1 f (a + 1) k
def strk (H : Hal) (p : Int) : Int := if H 11 p = 1 then 201 else if 1 < H 0 5 + H 8 p - 60 then H 0 5 + H 8 p - 60 else 1
def frst (H : Hal) (C : Int) : Nat → Int
  | 0 => 201
  | n + 1 => if bt C n then (if strk H n < frst H C n then strk H n else frst H C n) else frst H C n
def ff (H : Hal) (C : Int) : Int := frst H C (H 0 4).toNat
def gseen (H : Hal) (C g : Int) (t : Nat) : Int := cnt (fun p => bt C p && decide (far H (H 4 g) (wlk H p t) ≤ H 5 g)) (H 0 4).toNat
def glook (H : Hal) (C : Int) (t : Nat) : Int := fst1 (fun g => decide (H 6 g ≤ gseen H C g t)) 0 (H 0 3).toNat
def alrm (H : Hal) (C : Int) : Int := fst1 (fun t => decide (glook H C t.toNat ≠ -1)) 0 (ff H C).toNat
def algd (H : Hal) (C : Int) : Int := if alrm H C = -1 then -1 else glook H C (alrm H C).toNat
def isop (H : Hal) (O : Int → Int) (q t : Int) : Bool := decide (O q ≠ -1 ∧ O q ≤ t ∧ t < O q + H 0 6)
def sees (H : Hal) (C : Int) (O : Int → Int) (p : Int) (s : Nat) : Int := cnt (fun q => bt C q && isop H O q s && decide (far H (wlk H p s) (wlk H q (O q - 1).toNat) ≤ H 0 7)) (H 0 4).toNat
/-- by what p opens in second s + 1 -/
def bys (H : Hal) (C : Int) (O : Int → Int) (p : Int) (s : Nat) : Int := if strk H p ≤ (s : Int) + 1 then 1 else if 0 < H 9 p ∧ H 9 p ≤ sees H C O p s then 2 else 0
def opn (H : Hal) (C : Int) : Nat → Int → Int
  | 0 => fun _ => -1
  | s + 1 => fun p => if 0 ≤ p ∧ p < H 0 4 ∧ bt C p = true ∧ opn H C s p = -1 ∧ bys H C (opn H C s) p s ≠ 0 then (s : Int) + 1 else opn H C s p
def hws (H : Hal) (C : Int) : Nat → Int → Int
  | 0 => fun _ => 0
  | s + 1 => fun p => if 0 ≤ p ∧ p < H 0 4 ∧ bt C p = true ∧ opn H C s p = -1 then bys H C (opn H C s) p s else hws H C s p
def oo (H : Hal) (C p : Int) : Int := if alrm H C = -1 then opn H C 200 p else -1
def hw (H : Hal) (C p : Int) : Int := if alrm H C = -1 then hws H C 200 p else 0
/-- the ways to the doors -/
abbrev Bq : Type := (Int → Int) × (Int → Int) × Int
def fset (f : Int → Int) (i x : Int) : Int → Int := fun j => if j = i then x else f j
def bst (H : Hal) (k : Int) (s : Bq) (way : Int) : Bq := if s.1 (stp H (s.2.1 k) way) = 1000 then (fset s.1 (stp H (s.2.1 k) way) (s.1 (s.2.1 k) + 1), fset s.2.1 s.2.2 (stp H (s.2.1 k) way), s.2.2 + 1) else s
def bfs (H : Hal) : Nat → Int → Bq → Bq
  | 0, _, s => s
  | f + 1, k, s => if k < s.2.2 then bfs H f (k + 1) (bst H k (bst H k (bst H k (bst H k s 0) 1) 2) 3) else s
def bini (H : Hal) : Nat → Bq
  | 0 => (fun _ => 1000, fun _ => 0, 0)
  | n + 1 => if H 3 n = 0 then (fset (bini H n).1 (H 2 n) 0, fset (bini H n).2.1 (bini H n).2.2 (H 2 n), (bini H n).2.2 + 1) else bini H n
def dst (H : Hal) : Int → Int := (bfs H 60 0 (bini H (H 0 2).toNat)).1
def nrr (H : Hal) (c : Int) : Int := if dst H (stp H c 0) < dst H c then stp H c 0 else if dst H (stp H c 1) < dst H c then stp H c 1 else if dst H (stp H c 2) < dst H c then stp H c 2 else if dst H (stp H c 3) < dst H c then stp H c 3 else c
def odr (H : Hal) (c : Int) : Int := fst1 (fun k => decide (H 2 k = c ∧ H 3 k = 0)) 0 (H 0 2).toNat
/-- where p is after j seconds of going -/
def gng (H : Hal) (C p : Int) : Nat → Int
  | 0 => wlk H p (oo H C p - 1).toNat
  | j + 1 => nrr H (gng H C p j)
def gout (H : Hal) (C p : Int) : Int := if oo H C p = -1 then -1 else
  (fun j => if j = -1 then -1 else oo H C p + H 0 6 + j) (fst1 (fun j => decide (odr H (gng H C p j.toNat) ≠ -1)) 0 (201 - (oo H C p + H 0 6)).toNat)
def godr (H : Hal) (C p : Int) : Int := if gout H C p = -1 then -1 else odr H (gng H C p (gout H C p - (oo H C p + H 0 6)).toNat)
/-- where p is in second t: as long as he isn't out -/
def posn (H : Hal) (C p t : Int) : Int := if oo H C p = -1 ∨ t < oo H C p then wlk H p t.toNat else if t < oo H C p + H 0 6 then wlk H p (oo H C p - 1).toNat else gng H C p (t - (oo H C p + H 0 6) + 1).toNat
/-- 0 he did not come, 1 waits, 2 is open, 3 goes, 4 is out -/
def doing (H : Hal) (C p t : Int) : Int := if bt C p = false then 0 else if oo H C p = -1 ∨ t < oo H C p then 1 else if t < oo H C p + H 0 6 then 2 else if gout H C p = -1 ∨ t < gout H C p then 3 else 4
def many (H : Hal) (C what t : Int) : Int := cnt (fun p => decide (doing H C p t = what)) (H 0 4).toNat
/-- the hall, as the class and as the reference hold it -/
def Ch (g : Int) (H : Hal) (M : Mem) : Prop :=
  (M g 9 = H 0 0 ∧ M g 10 = H 0 1 ∧ M g 12 = H 0 2 ∧ M g 13 = H 0 3 ∧ M (g + 1) 8 = H 0 4 ∧ M g 14 = H 0 5 ∧ M g 15 = H 0 6 ∧ M g 16 = H 0 7 ∧ M g 17 = H 0 8) ∧
  (∀ c, 0 ≤ c → c < 54 → M (g + 9) c = H 1 c) ∧
  (∀ k, 0 ≤ k → k < H 0 2 → M (g + 10) k = H 2 k ∧ M (g + 11) k = H 3 k) ∧
  (∀ k, 0 ≤ k → k < H 0 3 → M (g + 13) k = H 4 k ∧ M (g + 14) k = H 5 k ∧ M (g + 15) k = H 6 k ∧ M (g + 12) k = H 15 k) ∧
  (∀ p, 0 ≤ p → p < H 0 4 → M (g + 3) p = H 7 p ∧ M (g + 4) p = H 8 p ∧ M (g + 5) p = H 9 p ∧ M (g + 6) p = H 10 p ∧ M (g + 7) p = H 12 p ∧ M (g + 2) p = H 14 p ∧ (H 11 p = if bt (M (g + 1) 7) p then 1 else 0)) ∧
  (∀ p k, 0 ≤ p → p < H 0 4 → 0 ≤ k → k < H 12 p → M (g + 8) (12 * p + k) = H 13 (12 * p + k)) ∧ 0 ≤ M (g + 1) 7 ∧ M (g + 1) 7 < 512
def Rh (H : Hal) (M : Mem) : Prop :=
  (M 66 38 = H 0 0 ∧ M 66 39 = H 0 1 ∧ M 85 5 = H 0 2 ∧ M 85 4 = H 0 3 ∧ M 85 3 = H 0 4 ∧ M 91 4 = H 0 5 ∧ M 91 5 = H 0 6 ∧ M 91 6 = H 0 7 ∧ M 91 7 = H 0 8) ∧
  (∀ c, 0 ≤ c → c < 54 → M 87 (54 + c) = H 1 c) ∧
  (∀ k, 0 ≤ k → k < H 0 2 → M 90 (6 + k) = H 2 k ∧ M 92 k = H 3 k) ∧
  (∀ k, 0 ≤ k → k < H 0 3 → M 89 (12 + 3 * k) = H 4 k ∧ M 89 (12 + 3 * k + 1) = H 5 k ∧ M 89 (12 + 3 * k + 2) = H 6 k ∧ M 86 (30 + k) = H 16 (10 + k)) ∧
  (∀ p, 0 ≤ p → p < H 0 4 → M 88 (162 + 18 * p) = H 7 p ∧ M 88 (162 + 18 * p + 1) = H 8 p - 60 ∧ M 88 (162 + 18 * p + 2) = H 9 p ∧ M 88 (162 + 18 * p + 3) = H 10 p ∧ M 88 (162 + 18 * p + 4) = H 11 p ∧ M 88 (162 + 18 * p + 5) = H 12 p ∧ M 86 (20 + p) = H 16 p) ∧
  (∀ p k, 0 ≤ p → p < H 0 4 → 0 ≤ k → k < H 12 p → M 88 (162 + 18 * p + (6 + k)) = H 13 (12 * p + k))
def fre (H : Hal) (c : Int) : Prop := 0 ≤ c ∧ c < H 0 0 * H 0 1 ∧ H 1 c = 0
def n27 (l : Nat → Int) : Nat → Int
  | 0 => 0
  | n + 1 => 27 * n27 l n + l n
def n32 (l : Nat → Int) (n : Nat) : Nat → Int
  | 0 => 0
  | k + 1 => 32 * n32 l n k + if k < n then l k else 0
def nmr (a b : Int) : Prop := ∃ (n : Nat) (l : Nat → Int), 1 ≤ n ∧ n ≤ 6 ∧ (∀ i, i < n → 1 ≤ l i ∧ l i ≤ 26) ∧ a = n32 l n 6 ∧ b = n27 l n
def Hok (H : Hal) : Prop :=
  ((H 0 0 = 0 ∧ H 0 1 = 0 ∧ H 0 2 = 0 ∧ H 0 3 = 0 ∧ H 0 4 = 0) ∨ (2 ≤ H 0 0 ∧ H 0 0 ≤ 9 ∧ 2 ≤ H 0 1 ∧ H 0 1 ≤ 6)) ∧
  (0 ≤ H 0 2 ∧ H 0 2 ≤ 6 ∧ 0 ≤ H 0 3 ∧ H 0 3 ≤ 4 ∧ 0 ≤ H 0 4 ∧ H 0 4 ≤ 9 ∧ 1 ≤ H 0 5 ∧ H 0 5 ≤ 99 ∧ 1 ≤ H 0 6 ∧ H 0 6 ≤ 30 ∧ 1 ≤ H 0 7 ∧ H 0 7 ≤ 5 ∧ 1 ≤ H 0 8 ∧ H 0 8 ≤ 9) ∧
  (∀ c, 0 ≤ c → c < 54 → H 1 c = 0 ∨ H 1 c = 1) ∧
  (∀ k, 0 ≤ k → k < H 0 2 → fre H (H 2 k) ∧ (H 3 k = 0 ∨ H 3 k = 1)) ∧
  (∀ j k, 0 ≤ j → j < H 0 2 → 0 ≤ k → k < H 0 2 → H 2 j = H 2 k → j = k) ∧
  (∀ k, 0 ≤ k → k < H 0 3 → fre H (H 4 k) ∧ 1 ≤ H 5 k ∧ H 5 k ≤ 9 ∧ 1 ≤ H 6 k ∧ H 6 k ≤ 20 ∧ nmr (H 15 k) (H 16 (10 + k))) ∧
  (∀ p, 0 ≤ p → p < H 0 4 → fre H (H 7 p) ∧ 0 ≤ H 8 p ∧ H 8 p ≤ 120 ∧ 0 ≤ H 9 p ∧ H 9 p ≤ 9 ∧ 0 ≤ H 10 p ∧ H 10 p ≤ 4 ∧ (H 11 p = 0 ∨ H 11 p = 1) ∧ 1 ≤ H 12 p ∧ H 12 p ≤ 12 ∧ nmr (H 14 p) (H 16 p)) ∧
  (∀ p k, 0 ≤ p → p < H 0 4 → 0 ≤ k → k < H 12 p → 0 ≤ H 13 (12 * p + k) ∧ H 13 (12 * p + k) ≤ 4)
/-- the rest of the state -/
def iT (M : Mem) : Prop := 0 ≤ M 1 1 ∧ M 1 1 ≤ 1600 ∧ M 66 1 = M 1 1 ∧ ∀ k, 0 ≤ k → k < M 1 1 → M 67 k = M 2 k ∧ 0 ≤ M 2 k ∧ M 2 k ≤ 255
def iF (M : Mem) : Prop := M 66 7 = M 0 14 ∧ M 66 8 = M 0 15
def wrds : List (Nat × String) := [(68, "hall"), (69, "wall"), (70, "door"), (71, "person"), (72, "at"), (73, "slow"), (74, "dares"), (75, "comes"), (76, "walks"), (77, "passer"), (78, "guard"), (79, "sees"), (80, "looks"), (81, "stroke"), (82, "open"), (83, "near"), (84, "enough"), (102, "first"), (103, "last"), (104, "often"), (105, "total"), (106, "most"), (107, "least"), (108, "not"), (109, "and"), (110, "or"), (111, "all"), (112, "min"), (113, "max"), (114, "second"), (115, "open"), (116, "waits"), (117, "goes"), (118, "outs"), (119, "alarm"), (120, "at"), (121, "does")]
def chrs (s : String) (j : Nat) : Int := ((s.toList.getD j ' ').toNat : Int)
def iK (M : Mem) : Prop := ∀ e ∈ wrds, ∀ j : Nat, j < e.2.length → M (e.1 : Nat) (j : Nat) = chrs e.2 j
def iC (H : Hal) (M : Mem) : Prop := M 66 42 = M 0 12 ∧ 0 ≤ M 0 12 ∧ M 0 12 < 2 ^ (H 0 4).toNat
def iS (M : Mem) : Prop := M 66 56 = M 0 13 ∧ 0 ≤ M 0 13 ∧ M 0 13 < 2147483648
def iO (M : Mem) : Prop := M 66 89 = M 0 9 ∧ 0 ≤ M 0 9 ∧ M 0 9 ≤ 34 ∧ ∀ k, 0 ≤ k → k < M 0 9 → M 31 k = M 125 k
/-- the snapshot of the state ahead of act j (n acts, the newest in slot w) -/
def slt (n w j : Int) : Int := (w - (n - 1 - j)) % 20
def snp (M : Mem) (H : Hal) (j k p : Int) : Int := if j < M 66 54 then M 100 (33 * slt (M 66 54) (M 66 55) j + 3 * p + k) else if k = 0 then H 7 p else if k = 1 then H 8 p - 60 else H 9 p
def snd1 (M : Mem) (H : Hal) (j k : Int) : Int := if j < M 66 54 then M 100 (33 * slt (M 66 54) (M 66 55) j + 27 + k) else H 3 k
def iA (H : Hal) (M : Mem) : Prop := M 27 3 = M 66 54 ∧ 0 ≤ M 66 54 ∧ M 66 54 ≤ 20 ∧ 0 ≤ M 66 55 ∧ M 66 55 < 20 ∧
  (∀ j, 0 ≤ j → j < M 66 54 → (∀ p, 0 ≤ p → p < H 0 4 → fre H (snp M H j 0 p) ∧ -60 ≤ snp M H j 1 p ∧ snp M H j 1 p ≤ 60 ∧ 0 ≤ snp M H j 2 p ∧ snp M H j 2 p ≤ 9) ∧ (∀ k, 0 ≤ k → k < H 0 2 → snd1 M H j k = 0 ∨ snd1 M H j k = 1)) ∧
  (∀ j, 0 ≤ j → j < M 66 54 → 0 ≤ M 28 j ∧ M 28 j ≤ 3 ∧ (M 28 j = 3 → 0 ≤ M 29 j ∧ M 29 j < H 0 2) ∧ (M 28 j ≠ 3 → 0 ≤ M 29 j ∧ M 29 j < H 0 4) ∧
    (∀ p, 0 ≤ p → p < H 0 4 → snp M H j 0 p = (if M 28 j = 2 ∧ M 29 j = p then M 30 j else snp M H (j + 1) 0 p) ∧ snp M H j 1 p = (if M 28 j = 0 ∧ M 29 j = p then M 30 j - 60 else snp M H (j + 1) 1 p) ∧ snp M H j 2 p = (if M 28 j = 1 ∧ M 29 j = p then M 30 j else snp M H (j + 1) 2 p)) ∧
    (∀ k, 0 ≤ k → k < H 0 2 → snd1 M H j k = if M 28 j = 3 ∧ M 29 j = k then M 30 j else snd1 M H (j + 1) k))
/-- what stands ready in the class: the walks, the morning -/
def wOK (H : Hal) (M : Mem) : Prop := (∀ p, 0 ≤ p → p < H 0 4 → ∀ t : Nat, t < 201 → M 10 (201 * p + t) = wlk H p t) ∧
  (∀ g, 0 ≤ g → g < H 0 3 → ∀ t : Nat, t < 201 → 0 ≤ M 11 (201 * g + t) ∧ M 11 (201 * g + t) < 2 ^ (H 0 4).toNat ∧ ∀ p, 0 ≤ p → p < H 0 4 → bt (M 11 (201 * g + t)) p = decide (far H (H 4 g) (wlk H p t) ≤ H 5 g))
def mOK (H : Hal) (C : Int) (M : Mem) : Prop := M 16 8 = C ∧ M 16 9 = H 0 6 ∧ M 16 10 = alrm H C ∧ M 16 11 = algd H C ∧
  (∀ p, 0 ≤ p → p < 9 → M 19 p = oo H C p ∧ M 20 p = hw H C p ∧ M 21 p = (if bt C p then gout H C p else -1) ∧ M 22 p = (if bt C p then godr H C p else -1)) ∧
  (∀ p, 0 ≤ p → p < H 0 4 → bt C p = true → ∀ t : Nat, t < 201 → M 17 (201 * p + t) = if doing H C p t = 4 then -1 else posn H C p t) ∧
  (∀ t : Nat, t < 201 → M 18 (0 + t) = many H C 2 t ∧ M 18 (201 + t) = many H C 1 t ∧ M 18 (402 + t) = many H C 3 t ∧ M 18 (603 + t) = many H C 4 t)
def nOK (g : Int) (H : Hal) (M : Mem) : Prop := ∀ c d, 0 ≤ c → c < H 0 0 * H 0 1 → 0 ≤ d → d < H 0 0 * H 0 1 → (fX1_isNear M g c d = if far H c d ≤ H 0 7 then 1 else 0)
def iW (g : Int) (H : Hal) (M : Mem) : Prop := (M 0 16 = 0 ∨ M 0 16 = 1) ∧ (M 0 17 = 0 ∨ M 0 17 = 1) ∧ nOK g H M ∧ (M 0 16 = 0 → wOK H M) ∧ (M 0 17 = 0 → mOK H (M 0 12) M)
def InvH (h : Int) (H : Hal) (M : Mem) : Prop := Hok H ∧ Ch h H M ∧ Rh H M ∧ iT M ∧ iF M ∧ iK M ∧ iC H M ∧ iS M ∧ iO M ∧ iA H M ∧ iW h H M
def Inv (M : Mem) : Prop := ∃ h H, G h M ∧ InvH h H M
