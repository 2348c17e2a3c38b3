/-! the words themselves -/
def wdT : List (List Int) := [[104, 97, 108, 108], [119, 97, 108, 108], [100, 111, 111, 114], [112, 101, 114, 115, 111, 110], [97, 116], [115, 108, 111, 119], [100, 97, 114, 101, 115], [99, 111, 109, 101, 115], [119, 97, 108, 107, 115], [112, 97, 115, 115, 101, 114], [103, 117, 97, 114, 100], [115, 101, 101, 115], [108, 111, 111, 107, 115], [115, 116, 114, 111, 107, 101], [111, 112, 101, 110], [110, 101, 97, 114], [101, 110, 111, 117, 103, 104], [], [], [], [], [], [], [], [], [], [], [], [], [], [], [], [], [], [102, 105, 114, 115, 116], [108, 97, 115, 116], [111, 102, 116, 101, 110], [116, 111, 116, 97, 108], [109, 111, 115, 116], [108, 101, 97, 115, 116], [110, 111, 116], [97, 110, 100], [111, 114], [97, 108, 108], [109, 105, 110], [109, 97, 120], [115, 101, 99, 111, 110, 100], [111, 112, 101, 110], [119, 97, 105, 116, 115], [103, 111, 101, 115], [111, 117, 116, 115], [97, 108, 97, 114, 109], [97, 116], [100, 111, 101, 115]]
def wd (i : Nat) : List Int := wdT.getD (i - 68) []
def flT : List (List Nat) := [[68, 69, 70, 71, 78, 81, 82, 83, 84, 72, 73, 74, 75, 76, 77, 79, 80], [72], [73], [74], [75], [76], [77], [79], [80], [102, 103, 104, 105, 106, 107], [108], [111], [114, 115, 116, 117, 118, 119, 120, 121, 112, 113], [109], [110]]
def fl (s : Nat) : List Nat := flT.getD s []
def catw : List (List Int) → List Int
  | [] => []
  | w :: ws => w ++ 32 :: catw ws
theorem wd_ok : ∀ e ∈ wrds, (wd e.1).length = e.2.length ∧ ∀ j, j < e.2.length → (wd e.1).getD j 0 = chrs e.2 j := by
  have key : wrds.all (fun e => decide ((wd e.1).length = e.2.length) && (List.range e.2.length).all (fun j => decide ((wd e.1).getD j 0 = chrs e.2 j))) = true := by decide +kernel
  intro e he
  have h := List.all_eq_true.mp key e he
  rw [Bool.and_eq_true] at h
  refine ⟨of_decide_eq_true h.1, fun j hj => ?_⟩
  exact of_decide_eq_true (List.all_eq_true.mp h.2 j (List.mem_range.mpr hj))
theorem fl_ok : ∀ s, s < 15 → (bytS.getD s []).map (fun x => x.toInt) = catw ((fl s).map wd) ∧ (catw ((fl s).map wd)).length < 200 ∧ (∀ w ∈ (fl s).map wd, ∀ x ∈ w, x ≠ 32) := by decide +kernel
theorem getD_i (l : List Int32) (j : Nat) (h : j < l.length) : (l.getD j 0).toInt = (l.map (fun x => x.toInt)).getD j 0 := by
  simp [List.getD, h]
def allq (b : Int → Int) : Int → List Int → Bool
  | _, [] => true
  | p, x :: xs => decide (b p = x) && allq b (p + 1) xs
def iswd (b : Int → Int) (n p e : Int) (w : List Int) : Bool := decide (knd b n p e = 1) && (decide (tnd b n p - p = w.length) && allq b p w)
def fdx (b : Int → Int) (n p e : Int) : List Nat → Int → Int
  | [], _ => -1
  | i :: is, k => if iswd b n p e (wd i) = true then k else fdx b n p e is (k + 1)
def fnl (y : Int → Int) (p lt : Int) : List Int → Int → Int → Int → Int
  | [], _, _, _ => -1
  | c :: cs, num, k, same => if c = 32 then (if same = 0 then fnl y p lt cs (num + 1) 0 1 else if k = lt then num else fnl y p lt cs (num + 1) 0 1) else fnl y p lt cs num (k + 1) (if same = 0 then 0 else if y (p + k) = c then 1 else 0)
section
variable {b : Int → Int} {n p e : Int} {M : Mem} {Q : Int → Mem → Prop}
theorem fnl_x {pp lt : Int} {s : Nat} (hp : M 3 2 = p) (hl : fX9_letters M = lt) (p0 : 0 ≤ p) (p1 : p ≤ 1600) : ∀ (L : List Int) (num k same v5 : Int), (∀ j : Nat, j < L.length → sch s (v5 + j) = L.getD j 0) → 0 ≤ num → 0 ≤ k → num + L.length < 1000 → k + L.length < 1000 → lX9_find_20 pp s L.length num k same v5 M = fnl (fX8_byteAt M) p lt L num k same
  | [], num, k, same, v5, _, _, _, _, _ => rfl
  | c :: cs, num, k, same, v5, hs, n0, k0, n1, k1 => by
    have h0 := hs 0 (by show 0 < cs.length + 1; omega)
    have h0' : sch s v5 = c := by
      have : sch s (v5 + ((0 : Nat) : Int)) = c := h0
      rw [show v5 + ((0 : Nat) : Int) = v5 by omega] at this
      exact this
    have hs' : ∀ j : Nat, j < cs.length → sch s (v5 + 1 + j) = cs.getD j 0 := by
      intro j hj
      have := hs (j + 1) (by show j + 1 < cs.length + 1; omega)
      rw [show v5 + 1 + (j : Int) = v5 + ((j + 1 : Nat) : Int) by omega]
      exact this
    have l1 : (((c :: cs).length : Nat) : Int) = (cs.length : Int) + 1 := by show ((cs.length + 1 : Nat) : Int) = _; omega
    rw [l1] at n1 k1
    have e : lX9_find_20 pp s (cs.length + 1) num k same v5 M = (if (sch s v5) = 32 then (if same = 0 then (lX9_find_20 pp s cs.length (wr32 (num + 1)) 0 1 (v5 + 1) M) else (if k = (fX9_letters M) then num else (lX9_find_20 pp s cs.length (wr32 (num + 1)) 0 1 (v5 + 1) M))) else (lX9_find_20 pp s cs.length num (wr32 (k + 1)) (if same = 0 then (0 : Int) else (if (fX8_byteAt M (wr32 ((M 3 2) + k))) = (sch s v5) then (1 : Int) else 0)) (v5 + 1) M)) := rfl
    have e2 : fnl (fX8_byteAt M) p lt (c :: cs) num k same = if c = 32 then (if same = 0 then fnl (fX8_byteAt M) p lt cs (num + 1) 0 1 else if k = lt then num else fnl (fX8_byteAt M) p lt cs (num + 1) 0 1) else fnl (fX8_byteAt M) p lt cs num (k + 1) (if same = 0 then 0 else if fX8_byteAt M (p + k) = c then 1 else 0) := rfl
    show lX9_find_20 pp s (cs.length + 1) num k same v5 M = _
    rw [e, e2, h0', hl, hp, wad (a := num) (by omega) (by omega), wad (a := k) (by omega) (by omega), wad (a := p) (by omega) (by omega), fnl_x hp hl p0 p1 cs (num + 1) 0 1 (v5 + 1) hs' (by omega) (by omega) (by omega) (by omega), fnl_x hp hl p0 p1 cs num (k + 1) _ (v5 + 1) hs' (by omega) (by omega) (by omega) (by omega)]
theorem fnl_w {y : Int → Int} {lt : Int} {rest : List Int} : ∀ (w : List Int) (num k same : Int), (∀ x ∈ w, x ≠ 32) → (same = 0 ∨ same = 1) → fnl y p lt (w ++ 32 :: rest) num k same = if same = 1 ∧ allq y (p + k) w = true ∧ k + w.length = lt then num else fnl y p lt rest (num + 1) 0 1
  | [], num, k, same, _, hs => by
    have e : fnl y p lt ([] ++ 32 :: rest) num k same = if (32 : Int) = 32 then (if same = 0 then fnl y p lt rest (num + 1) 0 1 else if k = lt then num else fnl y p lt rest (num + 1) 0 1) else fnl y p lt rest num (k + 1) (if same = 0 then 0 else if y (p + k) = 32 then 1 else 0) := rfl
    rw [e, if_pos rfl]
    have l0 : ((([] : List Int).length : Nat) : Int) = 0 := rfl
    rw [l0, Int.add_zero]
    rcases hs with rfl | rfl
    · rw [if_pos rfl, if_neg (fun z => absurd z.1 (by decide))]
    · rw [if_neg (by decide)]
      by_cases z : k = lt
      · rw [if_pos z, if_pos ⟨rfl, rfl, z⟩]
      · rw [if_neg z, if_neg (fun w => z w.2.2)]
  | c :: cs, num, k, same, hc, hs => by
    have e : fnl y p lt ((c :: cs) ++ 32 :: rest) num k same = if c = 32 then (if same = 0 then fnl y p lt (cs ++ 32 :: rest) (num + 1) 0 1 else if k = lt then num else fnl y p lt (cs ++ 32 :: rest) (num + 1) 0 1) else fnl y p lt (cs ++ 32 :: rest) num (k + 1) (if same = 0 then 0 else if y (p + k) = c then 1 else 0) := rfl
    have l1 : (((c :: cs).length : Nat) : Int) = (cs.length : Int) + 1 := by show ((cs.length + 1 : Nat) : Int) = _; omega
    have ea : allq y (p + k) (c :: cs) = (decide (y (p + k) = c) && allq y (p + k + 1) cs) := rfl
    have ih := fun s' hs' => fnl_w (y := y) (lt := lt) (rest := rest) cs num (k + 1) s' (fun x hx => hc x (List.mem_cons_of_mem _ hx)) hs'
    rw [e, if_neg (hc c List.mem_cons_self), l1, ea, show k + ((cs.length : Int) + 1) = k + 1 + cs.length by omega, show p + k + 1 = p + (k + 1) by omega]
    rcases hs with rfl | rfl
    · rw [if_pos rfl, ih 0 (Or.inl rfl), if_neg (fun z => absurd z.1 (by decide)), if_neg (fun z => absurd z.1 (by decide))]
    · rw [if_neg (show ¬ (1 : Int) = 0 by decide)]
      by_cases z : y (p + k) = c
      · rw [if_pos z, ih 1 (Or.inr rfl), decide_eq_true z, Bool.true_and]
      · rw [if_neg z, ih 0 (Or.inl rfl), decide_eq_false z, Bool.false_and, if_neg (fun w => absurd w.1 (by decide)), if_neg (fun w => absurd w.2.1 (by decide))]
theorem allq_c {y z : Int → Int} : ∀ (w : List Int) (p : Int), (∀ j, p ≤ j → j < p + w.length → y j = z j) → allq y p w = allq z p w
  | [], _, _ => rfl
  | x :: xs, p, h => by
    have l1 : (((x :: xs).length : Nat) : Int) = (xs.length : Int) + 1 := by show ((xs.length + 1 : Nat) : Int) = _; omega
    rw [l1] at h
    show (decide (y p = x) && allq y (p + 1) xs) = (decide (z p = x) && allq z (p + 1) xs)
    rw [h p (by omega) (by omega), allq_c xs (p + 1) (fun j a c => h j (by omega) (by omega))]
theorem fnl_ws (hk : knd b n p e = 1) {y : Int → Int} (hy : ∀ j, p ≤ j → j < tnd b n p → y j = b j) : ∀ (is : List Nat) (num : Int), (∀ w ∈ is.map wd, ∀ x ∈ w, x ≠ 32) → fnl y p (tnd b n p - p) (catw (is.map wd)) num 0 1 = fdx b n p e is num
  | [], num, _ => rfl
  | i :: is, num, h => by
    have ec : catw ((i :: is).map wd) = wd i ++ 32 :: catw (is.map wd) := rfl
    have e2 : fdx b n p e (i :: is) num = if iswd b n p e (wd i) = true then num else fdx b n p e is (num + 1) := rfl
    rw [ec, e2, fnl_w (wd i) num 0 1 (h (wd i) List.mem_cons_self) (Or.inr rfl), fnl_ws hk hy is (num + 1) (fun w hw => h w (List.mem_cons_of_mem _ hw)), Int.add_zero, Int.zero_add]
    unfold iswd
    rw [decide_eq_true hk, Bool.true_and]
    by_cases z : tnd b n p - p = ((wd i).length : Int)
    · rw [decide_eq_true z, Bool.true_and, allq_c (wd i) p (fun j a c => hy j a (by omega))]
      by_cases q : allq b p (wd i) = true
      · rw [if_pos ⟨rfl, q, z.symm⟩, if_pos q]
      · rw [if_neg (fun w => q w.2.1), if_neg q]
    · rw [decide_eq_false z, Bool.false_and, if_neg (fun w => z w.2.2.symm), if_neg (by decide)]
theorem iswd_no {w : List Int} (hk : ¬ knd b n p e = 1) : iswd b n p e w = false := by
  unfold iswd
  rw [decide_eq_false hk, Bool.false_and]
theorem fdx_no (hk : ¬ knd b n p e = 1) : ∀ (is : List Nat) (num : Int), fdx b n p e is num = -1
  | [], _ => rfl
  | i :: is, num => by
    have e2 : fdx b n p e (i :: is) num = if iswd b n p e (wd i) = true then num else fdx b n p e is (num + 1) := rfl
    rw [e2, iswd_no hk, if_neg (by decide)]
    exact fdx_no hk is _
theorem find_c {pp : Int} {s : Nat} (hT : cT b n p e M) (hs : s < 15) : fX9_find M pp s = fdx b n p e (fl s) 0 := by
  obtain ⟨ok, t1, t2, t3, t4, t5⟩ := hT
  have tb := tnd_b ok
  obtain ⟨h1, h2, h3, h4, h5, h6⟩ := id ok
  have f := fl_ok s hs
  unfold fX9_find
  rw [t3]
  by_cases hk : knd b n p e = 1
  · rw [if_pos hk]
    have hl : fX9_letters M = tnd b n p - p := by
      unfold fX9_letters
      rw [t4, t5, wsu (by omega) (by omega)]
    have sl : ((slen s - 0 : Int)).toNat = (catw ((fl s).map wd)).length := by
      unfold slen
      rw [← f.1, List.length_map]
      have := (str_ok s hs).1
      omega
    rw [sl, fnl_x (p := p) (s := s) t4 hl h4 (by omega) _ 0 0 1 0 (fun j hj => ?_) (by decide) (by decide) (by have := f.2.1; omega) (by have := f.2.1; omega)]
    · refine fnl_ws hk (fun j a c => ?_) (fl s) 0 f.2.2
      have := byte_c (b := b) (M := M) ⟨h1, h2⟩ t1 t2 (k := j) (by omega)
      rw [this, if_neg (by omega)]
    · rw [← f.1] at hj ⊢
      rw [List.length_map] at hj
      unfold sch
      rw [show (0 + (j : Int)).toNat = j by omega]
      exact getD_i (bytS.getD s []) j hj
  · rw [if_neg hk, fdx_no hk]
end
