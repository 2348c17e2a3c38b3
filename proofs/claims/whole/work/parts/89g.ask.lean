/-! ask: what is read, purely. A code is (op, number): 0 to 5 the plain parts, 6 at, 7 does, 8 min, 9 max, 10 + , 11 -, 12 *, 13 /, 14 <, 15 >, 16 =, 17 and, 18 or, 19 not, 20 a number, 21 all -/
abbrev Cds := List (Int × Int)
abbrev Rd := Sum (Int × Int) (Cds × Int × Int)
def tOr (b : Int → Int) (n p e : Int) : Int := if iswd b n p e (wd 110) = true then 18 else -1
def tAnd (b : Int → Int) (n p e : Int) : Int := if iswd b n p e (wd 109) = true then 17 else -1
def tCmp (b : Int → Int) (n p e : Int) : Int := if isg b n p e 60 = true then 14 else if isg b n p e 62 = true then 15 else if isg b n p e 61 = true then 16 else -1
def tSum (b : Int → Int) (n p e : Int) : Int := if isg b n p e 43 = true then 10 else if isg b n p e 45 = true then 11 else -1
def tMul (b : Int → Int) (n p e : Int) : Int := if isg b n p e 42 = true then 12 else if isg b n p e 47 = true then 13 else -1
/-- a row of parts f with operators t between them; c = the codes so far -/
def lpq (b : Int → Int) (n : Int) (t : Int → Int → Int) (f : Int → Int → Rd) : Nat → Cds → Int → Int → Rd
  | 0, _, p, _ => Sum.inl (0, p)
  | k + 1, c, p, e => if t p e = -1 then Sum.inr (c, p, e) else bnd (f (nxp b n p) (nxe b n p)) (fun x => lpq b n t f k (c ++ x.1 ++ [(t p e, 0)]) x.2.1 x.2.2)
/-- the tags are those of PRq; d = how deep -/
def Rq (b : Int → Int) (n : Int) : Nat → Nat → Int → Int → Int → Rd
  | 0, _, _, p, _ => Sum.inl (0, p)
  | k + 1, tag, d, p, e =>
    if tag = 0 then bnd (Rq b n k 1 d p e) (fun x => lpq b n (tOr b n) (Rq b n k 1 d) 1601 x.1 x.2.1 x.2.2)
    else if tag = 1 then bnd (Rq b n k 2 d p e) (fun x => lpq b n (tAnd b n) (Rq b n k 2 d) 1601 x.1 x.2.1 x.2.2)
    else if tag = 2 then
      (if iswd b n p e (wd 108) = true then (if d = 6 then Sum.inl (4, p) else bnd (Rq b n k 2 (d + 1) (nxp b n p) (nxe b n p)) (fun x => Sum.inr (x.1 ++ [(19, 0)], x.2.1, x.2.2)))
      else if isg b n p e 91 = true then (if d = 6 then Sum.inl (4, p) else bnd (Rq b n k 0 (d + 1) (nxp b n p) (nxe b n p)) (fun x => bnd (pS b n x.2.1 x.2.2 93) (fun t => Sum.inr (x.1, t.1, t.2))))
      else if iswd b n p e (wd 111) = true then Sum.inr ([(21, 1)], nxp b n p, nxe b n p)
      else Rq b n k 3 d p e)
    else if tag = 3 then bnd (Rq b n k 4 d p e) (fun x => if tCmp b n x.2.1 x.2.2 = -1 then Sum.inl (1, x.2.1) else bnd (Rq b n k 4 d (nxp b n x.2.1) (nxe b n x.2.1)) (fun y => Sum.inr (x.1 ++ y.1 ++ [(tCmp b n x.2.1 x.2.2, 0)], y.2.1, y.2.2)))
    else if tag = 4 then bnd (Rq b n k 5 d p e) (fun x => lpq b n (tSum b n) (Rq b n k 5 d) 1601 x.1 x.2.1 x.2.2)
    else if tag = 5 then bnd (Rq b n k 6 d p e) (fun x => lpq b n (tMul b n) (Rq b n k 6 d) 1601 x.1 x.2.1 x.2.2)
    else if tag = 6 then
      (if knd b n p e = 2 then bnd (pN b n p e 0 9999 p) (fun v => Sum.inr ([(20, v.1)], v.2.1, v.2.2))
      else if isg b n p e 40 = true then (if d = 6 then Sum.inl (4, p) else bnd (Rq b n k 4 (d + 1) (nxp b n p) (nxe b n p)) (fun x => bnd (pS b n x.2.1 x.2.2 41) (fun t => Sum.inr (x.1, t.1, t.2))))
      else if fdx b n p e (fl 12) 0 = -1 then Sum.inl (1, p)
      else if fdx b n p e (fl 12) 0 = 6 ∨ fdx b n p e (fl 12) 0 = 7 then (if d = 6 then Sum.inl (4, p) else bnd (Rq b n k 6 (d + 1) (nxp b n p) (nxe b n p)) (fun x => Sum.inr (x.1 ++ [(fdx b n p e (fl 12) 0, 0)], x.2.1, x.2.2)))
      else if fdx b n p e (fl 12) 0 < 8 then Sum.inr ([(fdx b n p e (fl 12) 0, 0)], nxp b n p, nxe b n p)
      else bnd (Rq b n k 7 d (nxp b n p) (nxe b n p)) (fun x => Sum.inr (x.1 ++ [(fdx b n p e (fl 12) 0, 0)], x.2.1, x.2.2)))
    else
      (if ¬ isg b n p e 40 = true then Sum.inl (1, p) else if d = 6 then Sum.inl (4, p) else
      bnd (Rq b n k 4 (d + 1) (nxp b n p) (nxe b n p)) (fun x => bnd (pS b n x.2.1 x.2.2 44) (fun t => bnd (Rq b n k 4 (d + 1) t.1 t.2) (fun y => bnd (pS b n y.2.1 y.2.2 41) (fun u => Sum.inr (x.1 ++ y.1, u.1, u.2))))))
/-- a question: its taker (0 first, 1 last, 2 often, 3 total, 4 most, 5 least) and its codes -/
def qAsk (b : Int → Int) (n p e : Int) : Sum (Int × Int) (Int × Cds) :=
  if fdx b n p e (fl 9) 0 = -1 then Sum.inl (1, p) else
  bnd (if 2 < fdx b n p e (fl 9) 0 then Rq b n 60 4 0 (nxp b n p) (nxe b n p) else Rq b n 60 0 0 (nxp b n p) (nxe b n p)) (fun x => if knd b n x.2.1 x.2.2 = 0 then Sum.inr (fdx b n p e (fl 9) 0, x.1) else Sum.inl (1, x.2.1))
def qText (b : Int → Int) (n : Int) : Sum (Int × Int) (Int × Cds) := qAsk b n (fwd blk b n 0) (-1)
/-- the code of the class, the code of the reference -/
def cco (c : Int × Int) : Int := if c.1 = 21 then 200001 else 10000 * c.1 + c.2
def rco (c : Int × Int) : Int := if c.1 < 6 then 40 + c.1 else if c.1 < 8 then 54 + c.1 else if c.1 < 10 then c.1 - 3 else if c.1 < 14 then c.1 - 9 else if c.1 < 20 then c.1 - 7 else if c.1 = 20 then 1000 + c.2 else 13
section
variable {b : Int → Int} {n p e d : Int} {k : Nat}
theorem Rq_0 : Rq b n (k + 1) 0 d p e = bnd (Rq b n k 1 d p e) (fun x => lpq b n (tOr b n) (Rq b n k 1 d) 1601 x.1 x.2.1 x.2.2) := rfl
theorem Rq_1 : Rq b n (k + 1) 1 d p e = bnd (Rq b n k 2 d p e) (fun x => lpq b n (tAnd b n) (Rq b n k 2 d) 1601 x.1 x.2.1 x.2.2) := rfl
theorem Rq_4 : Rq b n (k + 1) 4 d p e = bnd (Rq b n k 5 d p e) (fun x => lpq b n (tSum b n) (Rq b n k 5 d) 1601 x.1 x.2.1 x.2.2) := rfl
theorem Rq_5 : Rq b n (k + 1) 5 d p e = bnd (Rq b n k 6 d p e) (fun x => lpq b n (tMul b n) (Rq b n k 6 d) 1601 x.1 x.2.1 x.2.2) := rfl
end
