/-! the start: what the two constructors leave keeps the coupling -/
/-- a step: (0, place, slot, value), (1, place ..) a row of zeros, (2, place, class ..) an object, (3, place ..) 54 zeros; the latest one stands first -/
abbrev Op4 := Int × Int × Int × Int
def opM (M : Mem) (o : Op4) : Mem := if o.1 = 0 then mset M o.2.1 o.2.2.1 o.2.2.2 else if o.1 = 1 then mnew M o.2.1 nzero else if o.1 = 2 then mnew M o.2.1 (nobj o.2.2.1.toNat) else zfill M o.2.1 54
def runO : List Op4 → Mem → Mem
  | [], M => M
  | o :: r, M => opM (runO r M) o
def lkO : List Op4 → Int → Int → Option Int
  | [], _, _ => none
  | o :: r, q, j => if o.2.1 = q then (if o.1 = 0 then (if j = o.2.2.1 then some o.2.2.2 else lkO r q j) else if o.1 = 1 then some 0 else if o.1 = 2 then some (nobj o.2.2.1.toNat j) else if 0 ≤ j ∧ j < 54 then some 0 else lkO r q j) else lkO r q j
theorem lk_ok {q j v : Int} : ∀ (l : List Op4) (M : Mem), lkO l q j = some v → runO l M q j = v
  | [], _, h => by cases h
  | o :: r, M, h => by
    have i1 := lk_ok (q := q) (j := j) (v := v) r M
    have e1 : lkO (o :: r) q j = if o.2.1 = q then (if o.1 = 0 then (if j = o.2.2.1 then some o.2.2.2 else lkO r q j) else if o.1 = 1 then some 0 else if o.1 = 2 then some (nobj o.2.2.1.toNat j) else if 0 ≤ j ∧ j < 54 then some 0 else lkO r q j) else lkO r q j := rfl
    rw [e1] at h
    show opM (runO r M) o q j = v
    unfold opM
    by_cases a : o.2.1 = q
    · rw [if_pos a] at h
      subst a
      by_cases c : o.1 = 0
      · rw [if_pos c] at h ⊢
        by_cases d : j = o.2.2.1
        · rw [if_pos d] at h
          cases h
          rw [d, mset_e]
        · rw [if_neg d] at h
          rw [mset_k d]; exact i1 h
      rw [if_neg c] at h ⊢
      by_cases c : o.1 = 1
      · rw [if_pos c] at h ⊢
        cases h
        unfold mnew; rw [if_pos rfl]; rfl
      rw [if_neg c] at h ⊢
      by_cases c : o.1 = 2
      · rw [if_pos c] at h ⊢
        cases h
        unfold mnew; rw [if_pos rfl]
      rw [if_neg c] at h ⊢
      unfold zfill
      rw [if_pos rfl]
      by_cases d : 0 ≤ j ∧ j < 54
      · rw [if_pos d] at h
        cases h
        exact if_pos d
      · rw [if_neg d] at h
        show (if 0 ≤ j ∧ j < 54 then 0 else runO r M o.2.1 j) = v
        rw [if_neg d]; exact i1 h
    · rw [if_neg a] at h
      have hq : q ≠ o.2.1 := fun z => a z.symm
      have key : ∀ N : Mem, N q = runO r M q → N q j = v := fun N e => by rw [e]; exact i1 h
      by_cases c : o.1 = 0
      · rw [if_pos c]; exact key _ (mset_p hq)
      rw [if_neg c]
      by_cases c : o.1 = 1
      · rw [if_pos c]; exact key _ (if_neg hq)
      rw [if_neg c]
      by_cases c : o.1 = 2
      · rw [if_pos c]; exact key _ (if_neg hq)
      rw [if_neg c]
      exact key _ (if_neg hq)
def ops15 : List Op4 := [(0, 66, 88, 125), (1, 125, 0, 0), (0, 66, 84, 124), (1, 124, 0, 0), (0, 66, 80, 123), (1, 123, 0, 0), (0, 66, 78, 122), (1, 122, 0, 0), (0, 66, 77, 121), (0, 121, 3, 115), (0, 121, 2, 101), (0, 121, 1, 111), (0, 121, 0, 100), (1, 121, 0, 0), (0, 66, 76, 120), (0, 120, 1, 116), (0, 120, 0, 97), (1, 120, 0, 0), (0, 66, 75, 119), (0, 119, 4, 109), (0, 119, 3, 114), (0, 119, 2, 97), (0, 119, 1, 108), (0, 119, 0, 97), (1, 119, 0, 0), (0, 66, 74, 118), (0, 118, 3, 115), (0, 118, 2, 116), (0, 118, 1, 117), (0, 118, 0, 111), (1, 118, 0, 0), (0, 66, 73, 117), (0, 117, 3, 115), (0, 117, 2, 101), (0, 117, 1, 111), (0, 117, 0, 103), (1, 117, 0, 0), (0, 66, 72, 116), (0, 116, 4, 115), (0, 116, 3, 116), (0, 116, 2, 105), (0, 116, 1, 97), (0, 116, 0, 119), (1, 116, 0, 0), (0, 66, 71, 115), (0, 115, 3, 110), (0, 115, 2, 101), (0, 115, 1, 112), (0, 115, 0, 111), (1, 115, 0, 0), (0, 66, 70, 114), (0, 114, 5, 100), (0, 114, 4, 110), (0, 114, 3, 111), (0, 114, 2, 99), (0, 114, 1, 101), (0, 114, 0, 115), (1, 114, 0, 0), (0, 66, 69, 113), (0, 113, 2, 120), (0, 113, 1, 97), (0, 113, 0, 109), (1, 113, 0, 0), (0, 66, 68, 112), (0, 112, 2, 110), (0, 112, 1, 105), (0, 112, 0, 109), (1, 112, 0, 0), (0, 66, 67, 111), (0, 111, 2, 108), (0, 111, 1, 108), (0, 111, 0, 97), (1, 111, 0, 0), (0, 66, 66, 110), (0, 110, 1, 114), (0, 110, 0, 111), (1, 110, 0, 0), (0, 66, 65, 109), (0, 109, 2, 100), (0, 109, 1, 110), (0, 109, 0, 97), (1, 109, 0, 0), (0, 66, 64, 108), (0, 108, 2, 116), (0, 108, 1, 111), (0, 108, 0, 110), (1, 108, 0, 0), (0, 66, 63, 107), (0, 107, 4, 116), (0, 107, 3, 115), (0, 107, 2, 97), (0, 107, 1, 101), (0, 107, 0, 108), (1, 107, 0, 0), (0, 66, 62, 106), (0, 106, 3, 116), (0, 106, 2, 115), (0, 106, 1, 111), (0, 106, 0, 109), (1, 106, 0, 0), (0, 66, 61, 105), (0, 105, 4, 108), (0, 105, 3, 97), (0, 105, 2, 116), (0, 105, 1, 111), (0, 105, 0, 116), (1, 105, 0, 0), (0, 66, 60, 104), (0, 104, 4, 110), (0, 104, 3, 101), (0, 104, 2, 116), (0, 104, 1, 102), (0, 104, 0, 111), (1, 104, 0, 0), (0, 66, 59, 103), (0, 103, 3, 116), (0, 103, 2, 115), (0, 103, 1, 97), (0, 103, 0, 108), (1, 103, 0, 0), (0, 66, 58, 102), (0, 102, 4, 116), (0, 102, 3, 115), (0, 102, 2, 114), (0, 102, 1, 105), (0, 102, 0, 102), (1, 102, 0, 0), (0, 66, 57, 101), (1, 101, 0, 0), (0, 66, 56, 1), (0, 66, 53, 100), (1, 100, 0, 0), (0, 66, 49, 99), (1, 99, 0, 0), (0, 66, 48, 98), (1, 98, 0, 0), (0, 66, 47, 97), (1, 97, 0, 0), (0, 66, 46, 96), (1, 96, 0, 0), (0, 66, 45, 95), (1, 95, 0, 0), (0, 66, 44, 94), (1, 94, 0, 0), (0, 66, 43, 93), (1, 93, 0, 0), (0, 66, 41, 92), (1, 92, 0, 0), (0, 66, 34, 91), (0, 91, 7, 3), (0, 91, 6, 1), (0, 91, 5, 20), (0, 91, 4, 60), (0, 91, 3, 3), (0, 91, 2, 1), (0, 91, 1, 20), (0, 91, 0, 60), (1, 91, 0, 0), (0, 66, 33, 90), (1, 90, 0, 0), (0, 66, 32, 89), (1, 89, 0, 0), (0, 66, 31, 88), (1, 88, 0, 0), (0, 66, 30, 87), (1, 87, 0, 0), (0, 66, 29, 86), (1, 86, 0, 0), (0, 66, 28, 85), (1, 85, 0, 0), (0, 66, 26, 84), (0, 84, 5, 104), (0, 84, 4, 103), (0, 84, 3, 117), (0, 84, 2, 111), (0, 84, 1, 110), (0, 84, 0, 101), (1, 84, 0, 0), (0, 66, 25, 83), (0, 83, 3, 114), (0, 83, 2, 97), (0, 83, 1, 101), (0, 83, 0, 110), (1, 83, 0, 0), (0, 66, 24, 82), (0, 82, 3, 110), (0, 82, 2, 101), (0, 82, 1, 112), (0, 82, 0, 111), (1, 82, 0, 0), (0, 66, 23, 81), (0, 81, 5, 101), (0, 81, 4, 107), (0, 81, 3, 111), (0, 81, 2, 114), (0, 81, 1, 116), (0, 81, 0, 115), (1, 81, 0, 0), (0, 66, 22, 80), (0, 80, 4, 115), (0, 80, 3, 107), (0, 80, 2, 111), (0, 80, 1, 111), (0, 80, 0, 108), (1, 80, 0, 0), (0, 66, 21, 79), (0, 79, 3, 115), (0, 79, 2, 101), (0, 79, 1, 101), (0, 79, 0, 115), (1, 79, 0, 0), (0, 66, 20, 78), (0, 78, 4, 100), (0, 78, 3, 114), (0, 78, 2, 97), (0, 78, 1, 117), (0, 78, 0, 103), (1, 78, 0, 0), (0, 66, 19, 77), (0, 77, 5, 114), (0, 77, 4, 101), (0, 77, 3, 115), (0, 77, 2, 115), (0, 77, 1, 97), (0, 77, 0, 112), (1, 77, 0, 0), (0, 66, 18, 76), (0, 76, 4, 115), (0, 76, 3, 107), (0, 76, 2, 108), (0, 76, 1, 97), (0, 76, 0, 119), (1, 76, 0, 0), (0, 66, 17, 75), (0, 75, 4, 115), (0, 75, 3, 101), (0, 75, 2, 109), (0, 75, 1, 111), (0, 75, 0, 99), (1, 75, 0, 0), (0, 66, 16, 74), (0, 74, 4, 115), (0, 74, 3, 101), (0, 74, 2, 114), (0, 74, 1, 97), (0, 74, 0, 100), (1, 74, 0, 0), (0, 66, 15, 73), (0, 73, 3, 119), (0, 73, 2, 111), (0, 73, 1, 108), (0, 73, 0, 115), (1, 73, 0, 0), (0, 66, 14, 72), (0, 72, 1, 116), (0, 72, 0, 97), (1, 72, 0, 0), (0, 66, 13, 71), (0, 71, 5, 110), (0, 71, 4, 111), (0, 71, 3, 115), (0, 71, 2, 114), (0, 71, 1, 101), (0, 71, 0, 112), (1, 71, 0, 0), (0, 66, 12, 70), (0, 70, 3, 114), (0, 70, 2, 111), (0, 70, 1, 111), (0, 70, 0, 100), (1, 70, 0, 0), (0, 66, 11, 69), (0, 69, 3, 108), (0, 69, 2, 108), (0, 69, 1, 97), (0, 69, 0, 119), (1, 69, 0, 0), (0, 66, 10, 68), (0, 68, 3, 108), (0, 68, 2, 108), (0, 68, 1, 97), (0, 68, 0, 104), (1, 68, 0, 0), (0, 66, 8, (-1)), (0, 66, 0, 67), (1, 67, 0, 0)]
def ops14 : List Op4 := [(0, 0, 17, 1), (0, 0, 16, 1), (0, 0, 15, (-1)), (0, 0, 14, 0), (0, 0, 13, 1), (0, 0, 12, 0), (0, 0, 11, 49), (0, 49, 17, 3), (0, 49, 16, 1), (0, 49, 15, 20), (0, 49, 14, 60), (0, 49, 13, 0), (0, 49, 12, 0), (0, 49, 11, 0), (0, 49, 10, 0), (0, 49, 9, 0), (3, 58, 0, 0), (0, 50, 7, 0), (0, 50, 8, 0), (0, 49, 8, 65), (1, 65, 0, 0), (0, 49, 7, 64), (1, 64, 0, 0), (0, 49, 6, 63), (1, 63, 0, 0), (0, 49, 5, 62), (1, 62, 0, 0), (0, 49, 4, 61), (1, 61, 0, 0), (0, 49, 3, 60), (1, 60, 0, 0), (0, 49, 2, 59), (1, 59, 0, 0), (0, 49, 1, 58), (1, 58, 0, 0), (0, 49, 0, 50), (0, 50, 8, 0), (0, 50, 7, 0), (0, 50, 6, 57), (1, 57, 0, 0), (0, 50, 5, 56), (1, 56, 0, 0), (0, 50, 4, 55), (1, 55, 0, 0), (0, 50, 3, 54), (1, 54, 0, 0), (0, 50, 2, 53), (1, 53, 0, 0), (0, 50, 1, 52), (1, 52, 0, 0), (0, 50, 0, 51), (1, 51, 0, 0), (2, 50, 4, 0), (2, 49, 1, 0), (0, 0, 10, 32), (0, 32, 17, 3), (0, 32, 16, 1), (0, 32, 15, 20), (0, 32, 14, 60), (0, 32, 13, 0), (0, 32, 12, 0), (0, 32, 11, 0), (0, 32, 10, 0), (0, 32, 9, 0), (3, 41, 0, 0), (0, 33, 7, 0), (0, 33, 8, 0), (0, 32, 8, 48), (1, 48, 0, 0), (0, 32, 7, 47), (1, 47, 0, 0), (0, 32, 6, 46), (1, 46, 0, 0), (0, 32, 5, 45), (1, 45, 0, 0), (0, 32, 4, 44), (1, 44, 0, 0), (0, 32, 3, 43), (1, 43, 0, 0), (0, 32, 2, 42), (1, 42, 0, 0), (0, 32, 1, 41), (1, 41, 0, 0), (0, 32, 0, 33), (0, 33, 8, 0), (0, 33, 7, 0), (0, 33, 6, 40), (1, 40, 0, 0), (0, 33, 5, 39), (1, 39, 0, 0), (0, 33, 4, 38), (1, 38, 0, 0), (0, 33, 3, 37), (1, 37, 0, 0), (0, 33, 2, 36), (1, 36, 0, 0), (0, 33, 1, 35), (1, 35, 0, 0), (0, 33, 0, 34), (1, 34, 0, 0), (2, 33, 4, 0), (2, 32, 1, 0), (0, 0, 9, 0), (0, 0, 8, 31), (1, 31, 0, 0), (0, 0, 7, 27), (0, 27, 3, 0), (0, 27, 2, 30), (1, 30, 0, 0), (0, 27, 1, 29), (1, 29, 0, 0), (0, 27, 0, 28), (1, 28, 0, 0), (2, 27, 0, 0), (0, 0, 6, 25), (0, 25, 3, (-1)), (0, 25, 2, (-1)), (0, 25, 1, 26), (1, 26, 0, 0), (0, 25, 0, 9), (2, 25, 10, 0), (0, 0, 5, 16), (0, 16, 11, (-1)), (0, 16, 10, (-1)), (0, 16, 9, 0), (0, 16, 8, 0), (0, 16, 7, 24), (1, 24, 0, 0), (0, 16, 6, 23), (1, 23, 0, 0), (0, 16, 5, 22), (1, 22, 0, 0), (0, 16, 4, 21), (1, 21, 0, 0), (0, 16, 3, 20), (1, 20, 0, 0), (0, 16, 2, 19), (1, 19, 0, 0), (0, 16, 1, 18), (1, 18, 0, 0), (0, 16, 0, 17), (1, 17, 0, 0), (2, 16, 3, 0), (0, 0, 4, 9), (0, 9, 10, (-1)), (0, 9, 9, (-1)), (0, 9, 8, 0), (0, 9, 7, 0), (0, 9, 6, 0), (0, 9, 5, 15), (1, 15, 0, 0), (0, 9, 4, 14), (1, 14, 0, 0), (0, 9, 3, 13), (1, 13, 0, 0), (0, 9, 2, 12), (1, 12, 0, 0), (0, 9, 1, 11), (1, 11, 0, 0), (0, 9, 0, 10), (1, 10, 0, 0), (2, 9, 7, 0), (0, 0, 3, 5), (0, 5, 2, (-1)), (0, 5, 1, 6), (0, 6, 3, 0), (0, 6, 2, 0), (0, 6, 1, 8), (1, 8, 0, 0), (0, 6, 0, 7), (1, 7, 0, 0), (2, 6, 5, 0), (0, 5, 0, 3), (2, 5, 6, 0), (0, 0, 2, 4), (0, 4, 1, 0), (0, 4, 0, 3), (2, 4, 2, 0), (0, 0, 1, 3), (0, 3, 5, (-1)), (0, 3, 4, 0), (0, 3, 3, 0), (0, 3, 2, 0), (0, 3, 1, 0), (0, 3, 0, 1), (2, 3, 9, 0), (0, 0, 0, 1), (0, 1, 1, 0), (0, 1, 0, 2), (1, 2, 0, 0), (2, 1, 8, 0)]
theorem runO_a : ∀ (a c : List Op4) (M : Mem), runO (a ++ c) M = runO a (runO c M)
  | [], _, _ => rfl
  | o :: a, c, M => by show opM (runO (a ++ c) M) o = opM (runO a (runO c M)) o; rw [runO_a a c M]
theorem ru_0 {p k x : Int} {r : List Op4} {N M : Mem} (h : N = runO r M) : mset N p k x = runO ((0, p, k, x) :: r) M := by rw [h]; rfl
theorem ru_1 {p : Int} {r : List Op4} {N M : Mem} (h : N = runO r M) : mnew N p nzero = runO ((1, p, 0, 0) :: r) M := by rw [h]; rfl
theorem ru_3 {p : Int} {r : List Op4} {N M : Mem} (h : N = runO r M) : zfill N p 54 = runO ((3, p, 0, 0) :: r) M := by rw [h]; rfl
theorem ru2_0 {p : Int} {r : List Op4} {N M : Mem} (h : N = runO r M) : mnew N p (nobj 0) = runO ((2, p, 0, 0) :: r) M := by rw [h]; rfl
theorem ru2_1 {p : Int} {r : List Op4} {N M : Mem} (h : N = runO r M) : mnew N p (nobj 1) = runO ((2, p, 1, 0) :: r) M := by rw [h]; rfl
theorem ru2_2 {p : Int} {r : List Op4} {N M : Mem} (h : N = runO r M) : mnew N p (nobj 2) = runO ((2, p, 2, 0) :: r) M := by rw [h]; rfl
theorem ru2_3 {p : Int} {r : List Op4} {N M : Mem} (h : N = runO r M) : mnew N p (nobj 3) = runO ((2, p, 3, 0) :: r) M := by rw [h]; rfl
theorem ru2_4 {p : Int} {r : List Op4} {N M : Mem} (h : N = runO r M) : mnew N p (nobj 4) = runO ((2, p, 4, 0) :: r) M := by rw [h]; rfl
theorem ru2_5 {p : Int} {r : List Op4} {N M : Mem} (h : N = runO r M) : mnew N p (nobj 5) = runO ((2, p, 5, 0) :: r) M := by rw [h]; rfl
theorem ru2_6 {p : Int} {r : List Op4} {N M : Mem} (h : N = runO r M) : mnew N p (nobj 6) = runO ((2, p, 6, 0) :: r) M := by rw [h]; rfl
theorem ru2_7 {p : Int} {r : List Op4} {N M : Mem} (h : N = runO r M) : mnew N p (nobj 7) = runO ((2, p, 7, 0) :: r) M := by rw [h]; rfl
theorem ru2_8 {p : Int} {r : List Op4} {N M : Mem} (h : N = runO r M) : mnew N p (nobj 8) = runO ((2, p, 8, 0) :: r) M := by rw [h]; rfl
theorem ru2_9 {p : Int} {r : List Op4} {N M : Mem} (h : N = runO r M) : mnew N p (nobj 9) = runO ((2, p, 9, 0) :: r) M := by rw [h]; rfl
theorem ru2_10 {p : Int} {r : List Op4} {N M : Mem} (h : N = runO r M) : mnew N p (nobj 10) = runO ((2, p, 10, 0) :: r) M := by rw [h]; rfl
set_option maxRecDepth 100000 in
set_option maxHeartbeats 4000000 in
theorem ops15_ok (M : Mem) : km15_X12_init M = runO ops15 M := by
  unfold km15_X12_init ops15
  refine ru_0 ?_
  refine ru_1 ?_
  refine ru_0 ?_
  refine ru_1 ?_
  refine ru_0 ?_
  refine ru_1 ?_
  refine ru_0 ?_
  refine ru_1 ?_
  refine ru_0 ?_
  refine ru_0 ?_
  refine ru_0 ?_
  refine ru_0 ?_
  refine ru_0 ?_
  refine ru_1 ?_
  refine ru_0 ?_
  refine ru_0 ?_
  refine ru_0 ?_
  refine ru_1 ?_
  refine ru_0 ?_
  refine ru_0 ?_
  refine ru_0 ?_
  refine ru_0 ?_
  refine ru_0 ?_
  refine ru_0 ?_
  refine ru_1 ?_
  refine ru_0 ?_
  refine ru_0 ?_
  refine ru_0 ?_
  refine ru_0 ?_
  refine ru_0 ?_
  refine ru_1 ?_
  refine ru_0 ?_
  refine ru_0 ?_
  refine ru_0 ?_
  refine ru_0 ?_
  refine ru_0 ?_
  refine ru_1 ?_
  refine ru_0 ?_
  refine ru_0 ?_
  refine ru_0 ?_
  refine ru_0 ?_
  refine ru_0 ?_
  refine ru_0 ?_
  refine ru_1 ?_
  refine ru_0 ?_
  refine ru_0 ?_
  refine ru_0 ?_
  refine ru_0 ?_
  refine ru_0 ?_
  refine ru_1 ?_
  refine ru_0 ?_
  refine ru_0 ?_
  refine ru_0 ?_
  refine ru_0 ?_
  refine ru_0 ?_
  refine ru_0 ?_
  refine ru_0 ?_
  refine ru_1 ?_
  refine ru_0 ?_
  refine ru_0 ?_
  refine ru_0 ?_
  refine ru_0 ?_
  refine ru_1 ?_
  refine ru_0 ?_
  refine ru_0 ?_
  refine ru_0 ?_
  refine ru_0 ?_
  refine ru_1 ?_
  refine ru_0 ?_
  refine ru_0 ?_
  refine ru_0 ?_
  refine ru_0 ?_
  refine ru_1 ?_
  refine ru_0 ?_
  refine ru_0 ?_
  refine ru_0 ?_
  refine ru_1 ?_
  refine ru_0 ?_
  refine ru_0 ?_
  refine ru_0 ?_
  refine ru_0 ?_
  refine ru_1 ?_
  refine ru_0 ?_
  refine ru_0 ?_
  refine ru_0 ?_
  refine ru_0 ?_
  refine ru_1 ?_
  refine ru_0 ?_
  refine ru_0 ?_
  refine ru_0 ?_
  refine ru_0 ?_
  refine ru_0 ?_
  refine ru_0 ?_
  refine ru_1 ?_
  refine ru_0 ?_
  refine ru_0 ?_
  refine ru_0 ?_
  refine ru_0 ?_
  refine ru_0 ?_
  refine ru_1 ?_
  refine ru_0 ?_
  refine ru_0 ?_
  refine ru_0 ?_
  refine ru_0 ?_
  refine ru_0 ?_
  refine ru_0 ?_
  refine ru_1 ?_
  refine ru_0 ?_
  refine ru_0 ?_
  refine ru_0 ?_
  refine ru_0 ?_
  refine ru_0 ?_
  refine ru_0 ?_
  refine ru_1 ?_
  refine ru_0 ?_
  refine ru_0 ?_
  refine ru_0 ?_
  refine ru_0 ?_
  refine ru_0 ?_
  refine ru_1 ?_
  refine ru_0 ?_
  refine ru_0 ?_
  refine ru_0 ?_
  refine ru_0 ?_
  refine ru_0 ?_
  refine ru_0 ?_
  refine ru_1 ?_
  refine ru_0 ?_
  refine ru_1 ?_
  refine ru_0 ?_
  refine ru_0 ?_
  refine ru_1 ?_
  refine ru_0 ?_
  refine ru_1 ?_
  refine ru_0 ?_
  refine ru_1 ?_
  refine ru_0 ?_
  refine ru_1 ?_
  refine ru_0 ?_
  refine ru_1 ?_
  refine ru_0 ?_
  refine ru_1 ?_
  refine ru_0 ?_
  refine ru_1 ?_
  refine ru_0 ?_
  refine ru_1 ?_
  refine ru_0 ?_
  refine ru_1 ?_
  refine ru_0 ?_
  refine ru_0 ?_
  refine ru_0 ?_
  refine ru_0 ?_
  refine ru_0 ?_
  refine ru_0 ?_
  refine ru_0 ?_
  refine ru_0 ?_
  refine ru_0 ?_
  refine ru_1 ?_
  refine ru_0 ?_
  refine ru_1 ?_
  refine ru_0 ?_
  refine ru_1 ?_
  refine ru_0 ?_
  refine ru_1 ?_
  refine ru_0 ?_
  refine ru_1 ?_
  refine ru_0 ?_
  refine ru_1 ?_
  refine ru_0 ?_
  refine ru_1 ?_
  refine ru_0 ?_
  refine ru_0 ?_
  refine ru_0 ?_
  refine ru_0 ?_
  refine ru_0 ?_
  refine ru_0 ?_
  refine ru_0 ?_
  refine ru_1 ?_
  refine ru_0 ?_
  refine ru_0 ?_
  refine ru_0 ?_
  refine ru_0 ?_
  refine ru_0 ?_
  refine ru_1 ?_
  refine ru_0 ?_
  refine ru_0 ?_
  refine ru_0 ?_
  refine ru_0 ?_
  refine ru_0 ?_
  refine ru_1 ?_
  refine ru_0 ?_
  refine ru_0 ?_
  refine ru_0 ?_
  refine ru_0 ?_
  refine ru_0 ?_
  refine ru_0 ?_
  refine ru_0 ?_
  refine ru_1 ?_
  refine ru_0 ?_
  refine ru_0 ?_
  refine ru_0 ?_
  refine ru_0 ?_
  refine ru_0 ?_
  refine ru_0 ?_
  refine ru_1 ?_
  refine ru_0 ?_
  refine ru_0 ?_
  refine ru_0 ?_
  refine ru_0 ?_
  refine ru_0 ?_
  refine ru_1 ?_
  refine ru_0 ?_
  refine ru_0 ?_
  refine ru_0 ?_
  refine ru_0 ?_
  refine ru_0 ?_
  refine ru_0 ?_
  refine ru_1 ?_
  refine ru_0 ?_
  refine ru_0 ?_
  refine ru_0 ?_
  refine ru_0 ?_
  refine ru_0 ?_
  refine ru_0 ?_
  refine ru_0 ?_
  refine ru_1 ?_
  refine ru_0 ?_
  refine ru_0 ?_
  refine ru_0 ?_
  refine ru_0 ?_
  refine ru_0 ?_
  refine ru_0 ?_
  refine ru_1 ?_
  refine ru_0 ?_
  refine ru_0 ?_
  refine ru_0 ?_
  refine ru_0 ?_
  refine ru_0 ?_
  refine ru_0 ?_
  refine ru_1 ?_
  refine ru_0 ?_
  refine ru_0 ?_
  refine ru_0 ?_
  refine ru_0 ?_
  refine ru_0 ?_
  refine ru_0 ?_
  refine ru_1 ?_
  refine ru_0 ?_
  refine ru_0 ?_
  refine ru_0 ?_
  refine ru_0 ?_
  refine ru_0 ?_
  refine ru_1 ?_
  refine ru_0 ?_
  refine ru_0 ?_
  refine ru_0 ?_
  refine ru_1 ?_
  refine ru_0 ?_
  refine ru_0 ?_
  refine ru_0 ?_
  refine ru_0 ?_
  refine ru_0 ?_
  refine ru_0 ?_
  refine ru_0 ?_
  refine ru_1 ?_
  refine ru_0 ?_
  refine ru_0 ?_
  refine ru_0 ?_
  refine ru_0 ?_
  refine ru_0 ?_
  refine ru_1 ?_
  refine ru_0 ?_
  refine ru_0 ?_
  refine ru_0 ?_
  refine ru_0 ?_
  refine ru_0 ?_
  refine ru_1 ?_
  refine ru_0 ?_
  refine ru_0 ?_
  refine ru_0 ?_
  refine ru_0 ?_
  refine ru_0 ?_
  refine ru_1 ?_
  refine ru_0 ?_
  refine ru_0 ?_
  refine ru_1 ?_
  rfl
set_option maxRecDepth 100000 in
set_option maxHeartbeats 4000000 in
theorem ops14_ok (M : Mem) : km14_X11_init M = runO ops14 M := by
  unfold km14_X11_init km13_X1_init km12_X4_init km11_X1_init km10_X4_init km9_X0_init km8_X10_init km7_X3_init km6_X7_init km5_X6_init km4_X5_init km3_X2_init km2_X9_init km1_X8_init clr ops14
  refine ru_0 ?_
  refine ru_0 ?_
  refine ru_0 ?_
  refine ru_0 ?_
  refine ru_0 ?_
  refine ru_0 ?_
  refine ru_0 ?_
  refine ru_0 ?_
  refine ru_0 ?_
  refine ru_0 ?_
  refine ru_0 ?_
  refine ru_0 ?_
  refine ru_0 ?_
  refine ru_0 ?_
  refine ru_0 ?_
  refine ru_0 ?_
  refine ru_3 ?_
  refine ru_0 ?_
  refine ru_0 ?_
  refine ru_0 ?_
  refine ru_1 ?_
  refine ru_0 ?_
  refine ru_1 ?_
  refine ru_0 ?_
  refine ru_1 ?_
  refine ru_0 ?_
  refine ru_1 ?_
  refine ru_0 ?_
  refine ru_1 ?_
  refine ru_0 ?_
  refine ru_1 ?_
  refine ru_0 ?_
  refine ru_1 ?_
  refine ru_0 ?_
  refine ru_1 ?_
  refine ru_0 ?_
  refine ru_0 ?_
  refine ru_0 ?_
  refine ru_0 ?_
  refine ru_1 ?_
  refine ru_0 ?_
  refine ru_1 ?_
  refine ru_0 ?_
  refine ru_1 ?_
  refine ru_0 ?_
  refine ru_1 ?_
  refine ru_0 ?_
  refine ru_1 ?_
  refine ru_0 ?_
  refine ru_1 ?_
  refine ru_0 ?_
  refine ru_1 ?_
  refine ru2_4 ?_
  refine ru2_1 ?_
  refine ru_0 ?_
  refine ru_0 ?_
  refine ru_0 ?_
  refine ru_0 ?_
  refine ru_0 ?_
  refine ru_0 ?_
  refine ru_0 ?_
  refine ru_0 ?_
  refine ru_0 ?_
  refine ru_0 ?_
  refine ru_3 ?_
  refine ru_0 ?_
  refine ru_0 ?_
  refine ru_0 ?_
  refine ru_1 ?_
  refine ru_0 ?_
  refine ru_1 ?_
  refine ru_0 ?_
  refine ru_1 ?_
  refine ru_0 ?_
  refine ru_1 ?_
  refine ru_0 ?_
  refine ru_1 ?_
  refine ru_0 ?_
  refine ru_1 ?_
  refine ru_0 ?_
  refine ru_1 ?_
  refine ru_0 ?_
  refine ru_1 ?_
  refine ru_0 ?_
  refine ru_0 ?_
  refine ru_0 ?_
  refine ru_0 ?_
  refine ru_1 ?_
  refine ru_0 ?_
  refine ru_1 ?_
  refine ru_0 ?_
  refine ru_1 ?_
  refine ru_0 ?_
  refine ru_1 ?_
  refine ru_0 ?_
  refine ru_1 ?_
  refine ru_0 ?_
  refine ru_1 ?_
  refine ru_0 ?_
  refine ru_1 ?_
  refine ru2_4 ?_
  refine ru2_1 ?_
  refine ru_0 ?_
  refine ru_0 ?_
  refine ru_1 ?_
  refine ru_0 ?_
  refine ru_0 ?_
  refine ru_0 ?_
  refine ru_1 ?_
  refine ru_0 ?_
  refine ru_1 ?_
  refine ru_0 ?_
  refine ru_1 ?_
  refine ru2_0 ?_
  refine ru_0 ?_
  refine ru_0 ?_
  refine ru_0 ?_
  refine ru_0 ?_
  refine ru_1 ?_
  refine ru_0 ?_
  refine ru2_10 ?_
  refine ru_0 ?_
  refine ru_0 ?_
  refine ru_0 ?_
  refine ru_0 ?_
  refine ru_0 ?_
  refine ru_0 ?_
  refine ru_1 ?_
  refine ru_0 ?_
  refine ru_1 ?_
  refine ru_0 ?_
  refine ru_1 ?_
  refine ru_0 ?_
  refine ru_1 ?_
  refine ru_0 ?_
  refine ru_1 ?_
  refine ru_0 ?_
  refine ru_1 ?_
  refine ru_0 ?_
  refine ru_1 ?_
  refine ru_0 ?_
  refine ru_1 ?_
  refine ru2_3 ?_
  refine ru_0 ?_
  refine ru_0 ?_
  refine ru_0 ?_
  refine ru_0 ?_
  refine ru_0 ?_
  refine ru_0 ?_
  refine ru_0 ?_
  refine ru_1 ?_
  refine ru_0 ?_
  refine ru_1 ?_
  refine ru_0 ?_
  refine ru_1 ?_
  refine ru_0 ?_
  refine ru_1 ?_
  refine ru_0 ?_
  refine ru_1 ?_
  refine ru_0 ?_
  refine ru_1 ?_
  refine ru2_7 ?_
  refine ru_0 ?_
  refine ru_0 ?_
  refine ru_0 ?_
  refine ru_0 ?_
  refine ru_0 ?_
  refine ru_0 ?_
  refine ru_1 ?_
  refine ru_0 ?_
  refine ru_1 ?_
  refine ru2_5 ?_
  refine ru_0 ?_
  refine ru2_6 ?_
  refine ru_0 ?_
  refine ru_0 ?_
  refine ru_0 ?_
  refine ru2_2 ?_
  refine ru_0 ?_
  refine ru_0 ?_
  refine ru_0 ?_
  refine ru_0 ?_
  refine ru_0 ?_
  refine ru_0 ?_
  refine ru_0 ?_
  refine ru2_9 ?_
  refine ru_0 ?_
  refine ru_0 ?_
  refine ru_0 ?_
  refine ru_1 ?_
  refine ru2_8 ?_
  rfl
def opsA : List Op4 := ops15 ++ (2, 66, 12, 0) :: (ops14 ++ [(2, 0, 11, 0)])
theorem opsA_ok (M : Mem) : Mini M = runO opsA M := by
  unfold Mini opsA
  rw [ops15_ok, ops14_ok, runO_a]
  show runO ops15 (mnew (runO ops14 (mnew M 0 (nobj 11))) 66 (nobj 12)) = runO ops15 (opM (runO (ops14 ++ [(2, 0, 11, 0)]) M) (2, 66, 12, 0))
  rw [runO_a]
  rfl
def chkA : List (Int × Int × Int) := [(0, 9, 0), (0, 10, 32), (0, 11, 49), (0, 12, 0), (0, 13, 1), (0, 14, 0), (0, 15, -1), (0, 16, 1), (0, 17, 1), (1, 1, 0), (27, 3, 0), (32, 9, 0), (32, 10, 0), (32, 12, 0), (32, 13, 0), (33, 8, 0), (32, 14, 60), (32, 15, 20), (32, 16, 1), (32, 17, 3), (33, 7, 0), (66, 38, 0), (66, 39, 0), (85, 5, 0), (85, 4, 0), (85, 3, 0), (91, 4, 60), (91, 5, 20), (91, 6, 1), (91, 7, 3), (66, 1, 0), (66, 7, 0), (66, 8, -1), (66, 42, 0), (66, 56, 1), (66, 89, 0), (66, 54, 0), (66, 55, 0)]
theorem chkA_ok : (chkA.all (fun e => decide (lkO opsA e.1 e.2.1 = some e.2.2))) = true := by decide +kernel
theorem gtA_ok : (gtab.all (fun e => decide (lkO opsA e.1 e.2.1 = some e.2.2))) = true := by decide +kernel
theorem wrA_ok : (wrds.all (fun e => (List.range e.2.length).all (fun j => decide (lkO opsA (e.1 : Nat) (j : Nat) = some (chrs e.2 j))))) = true := by decide +kernel
theorem zrA_ok : ((List.range 54).all (fun c => decide (lkO opsA 41 (c : Nat) = some 0) && decide (lkO opsA 87 ((54 + c : Nat) : Int) = some 0))) = true := by decide +kernel
theorem chk_at (M : Mem) (i : Nat) {p k v : Int} (hi : chkA[i]? = some (p, k, v)) : Mini M p k = v := by
  rw [opsA_ok]
  exact lk_ok opsA M (of_decide_eq_true (List.all_eq_true.mp chkA_ok _ (List.mem_of_getElem? hi)))
theorem G_start (M : Mem) : G 32 (Mini M) := by
  refine ⟨fun e he => ?_, chk_at M 1 rfl, chk_at M 2 rfl, Or.inl rfl⟩
  rw [opsA_ok]
  exact lk_ok opsA M (of_decide_eq_true (List.all_eq_true.mp gtA_ok e he))
theorem Hok_0 : Hok H00c := by
  refine ⟨Or.inl (by decide), by decide, fun c _ _ => Or.inl rfl, fun k a c => ?_, fun j k a c => ?_, fun k a c => ?_, fun p a c => ?_, fun p k a c => ?_⟩
  all_goals
    exfalso
    first
      | (have z : (H00c 0 2 : Int) = 0 := rfl; omega)
      | (have z : (H00c 0 3 : Int) = 0 := rfl; omega)
      | (have z : (H00c 0 4 : Int) = 0 := rfl; omega)
theorem inv_start : ∀ M, Inv (Mini M) := by
  intro M
  have z2 : (H00c 0 2 : Int) = 0 := rfl
  have z3 : (H00c 0 3 : Int) = 0 := rfl
  have z4 : (H00c 0 4 : Int) = 0 := rfl
  have z0 : (H00c 0 0 : Int) = 0 := rfl
  have zz : ∀ c : Int, 0 ≤ c → c < 54 → Mini M 41 c = 0 ∧ Mini M 87 (54 + c) = 0 := by
    intro c c0 c1
    have h := List.all_eq_true.mp zrA_ok c.toNat (List.mem_range.mpr (by omega))
    rw [Bool.and_eq_true] at h
    rw [opsA_ok]
    have a := lk_ok opsA M (of_decide_eq_true h.1)
    have d := lk_ok opsA M (of_decide_eq_true h.2)
    rw [show ((c.toNat : Nat) : Int) = c by omega] at a
    rw [show ((54 + c.toNat : Nat) : Int) = 54 + c by omega] at d
    exact ⟨a, d⟩
  refine ⟨32, H00c, G_start M, Hok_0, ?_, ?_, ?_, ?_, ?_, ?_, ?_, ?_, ?_, ?_⟩
  · refine ⟨⟨chk_at M 11 rfl, chk_at M 12 rfl, chk_at M 13 rfl, chk_at M 14 rfl, chk_at M 15 rfl, chk_at M 16 rfl, chk_at M 17 rfl, chk_at M 18 rfl, chk_at M 19 rfl⟩, fun c a d => (zz c a d).1, fun k a d => by omega, fun k a d => by omega, fun p a d => by omega, fun p k a d => by omega, ?_, ?_⟩
    · rw [show (32 : Int) + 1 = 33 by decide, chk_at M 20 rfl]; decide
    · rw [show (32 : Int) + 1 = 33 by decide, chk_at M 20 rfl]; decide
  · exact ⟨⟨chk_at M 21 rfl, chk_at M 22 rfl, chk_at M 23 rfl, chk_at M 24 rfl, chk_at M 25 rfl, chk_at M 26 rfl, chk_at M 27 rfl, chk_at M 28 rfl, chk_at M 29 rfl⟩, fun c a d => (zz c a d).2, fun k a d => by omega, fun k a d => by omega, fun p a d => by omega, fun p k a d => by omega⟩
  · have e1 := chk_at M 9 rfl
    have e2 := chk_at M 30 rfl
    refine ⟨by rw [e1]; decide, by rw [e1]; decide, by rw [e1, e2], fun k x y => ?_⟩
    rw [e1] at y; omega
  · exact ⟨by rw [chk_at M 31 rfl, chk_at M 5 rfl], by rw [chk_at M 32 rfl, chk_at M 6 rfl]⟩
  · intro e he j hj
    have h := List.all_eq_true.mp (List.all_eq_true.mp wrA_ok e he) j (List.mem_range.mpr hj)
    rw [opsA_ok]
    exact lk_ok opsA M (of_decide_eq_true h)
  · have e1 := chk_at M 3 rfl
    refine ⟨by rw [chk_at M 33 rfl, e1], by rw [e1]; decide, by rw [e1]; decide⟩
  · have e1 := chk_at M 4 rfl
    refine ⟨by rw [chk_at M 34 rfl, e1], by rw [e1]; decide, by rw [e1]; decide⟩
  · have e1 := chk_at M 0 rfl
    refine ⟨by rw [chk_at M 35 rfl, e1], by rw [e1]; decide, by rw [e1]; decide, fun k x y => ?_⟩
    rw [e1] at y; omega
  · have e1 := chk_at M 36 rfl
    have e2 := chk_at M 37 rfl
    refine ⟨by rw [chk_at M 10 rfl, e1], by rw [e1]; decide, by rw [e1]; decide, by rw [e2]; decide, by rw [e2]; decide, fun j x y => ?_, fun j x y => ?_⟩
    · rw [e1] at y; omega
    · rw [e1] at y; omega
  · have e1 := chk_at M 7 rfl
    have e2 := chk_at M 8 rfl
    refine ⟨Or.inr e1, Or.inr e2, fun c d c0 c1 => ?_, fun z => ?_, fun z => ?_⟩
    · exfalso
      rw [z0, Int.zero_mul] at c1
      omega
    · rw [e1] at z; exact absurd z (by decide)
    · rw [e2] at z; exact absurd z (by decide)
theorem twos_all : ∀ E, Twos E Inv := fun E => ⟨inv_feed E, inv_end E, inv_text E, inv_fault E, inv_hall E, inv_letter E, inv_person E, inv_guard E, inv_door E, inv_where E, inv_does E, inv_count E, inv_whole E, inv_set E, inv_close E, inv_undo E, inv_come E, inv_lot E, inv_seed E, inv_odds E, inv_spark E, inv_daring E, inv_late E, inv_post E, inv_ask E, inv_image E, inv_octet E, inv_on E⟩
