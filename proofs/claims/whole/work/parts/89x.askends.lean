/-! ask: the answers of the class, what the reference takes -/
def frv (v : Int → Int) : Nat → Int
  | 0 => -1
  | k + 1 => if frv v k = -1 then (if v k = 0 then -1 else (k : Int)) else frv v k
def lsv (v : Int → Int) : Nat → Int
  | 0 => -1
  | k + 1 => if v k = 0 then lsv v k else (k : Int)
def ofv' (v : Int → Int) : Nat → Int
  | 0 => 0
  | k + 1 => if v k = 0 then ofv' v k else ofv' v k + 1
def smv (v : Int → Int) : Nat → Int
  | 0 => 0
  | k + 1 => smv v k + v k
def mxq (v : Int → Int) : Nat → Int
  | 0 => v 0
  | k + 1 => if mxq v k < v ((k + 1 : Nat) : Int) then v ((k + 1 : Nat) : Int) else mxq v k
def mnq (v : Int → Int) : Nat → Int
  | 0 => v 0
  | k + 1 => if v ((k + 1 : Nat) : Int) < mnq v k then v ((k + 1 : Nat) : Int) else mnq v k
/-- the answer to a question of kind kd after m seconds -/
def acc (v : Int → Int) (kd : Int) (m : Nat) : Int := if kd = 0 then frv v m else if kd = 1 then lsv v m else if kd = 2 then ofv' v m else if kd = 3 then smv v m else if m = 0 then 0 else if kd = 4 then mxq v (m - 1) else mnq v (m - 1)
theorem frv_k {v : Int → Int} {m : Nat} (h : frv v m ≠ -1) : ∀ d : Nat, frv v (m + d) = frv v m
  | 0 => rfl
  | d + 1 => by
    have i1 := frv_k h d
    show (if frv v (m + d) = -1 then (if v ((m + d : Nat) : Int) = 0 then -1 else ((m + d : Nat) : Int)) else frv v (m + d)) = frv v m
    rw [i1, if_neg h]
theorem ofv_b (v : Int → Int) : ∀ m : Nat, 0 ≤ ofv' v m ∧ ofv' v m ≤ m
  | 0 => ⟨Int.le_refl _, Int.le_refl _⟩
  | m + 1 => by
    have i1 := ofv_b v m
    show 0 ≤ (if v m = 0 then ofv' v m else ofv' v m + 1) ∧ (if v m = 0 then ofv' v m else ofv' v m + 1) ≤ ((m + 1 : Nat) : Int)
    by_cases z : v m = 0
    · rw [if_pos z]; omega
    · rw [if_neg z]; omega
theorem smv_b {v : Int → Int} (hv : ∀ t, 0 ≤ t → t ≤ 200 → bdd (v t)) : ∀ m : Nat, m ≤ 201 → -1000000 * (m : Int) ≤ smv v m ∧ smv v m ≤ 1000000 * (m : Int)
  | 0, _ => ⟨Int.le_refl _, Int.le_refl _⟩
  | m + 1, h => by
    have i1 := smv_b hv m (by omega)
    have b := hv m (by omega) (by omega)
    unfold bdd at b
    show -1000000 * ((m + 1 : Nat) : Int) ≤ smv v m + v m ∧ smv v m + v m ≤ 1000000 * ((m + 1 : Nat) : Int)
    omega
section
variable {v : Int → Int} {S : Mem → Prop} {Q : Int → Mem → Prop}
theorem fst_c (hr : ∀ (t : Int) (M : Mem) (Q : Int → Mem → Prop), 0 ≤ t → t ≤ 200 → S M → (∀ M' : Mem, rn M M' → Q (v t) M') → PX5_run t M Q) (hS : ∀ M M' : Mem, rn M M' → S M → S M') : ∀ (k m : Nat) (M : Mem), m ≤ 201 → 201 < m + k → frv v m = -1 → S M → (∀ M' : Mem, rn M M' → Q (frv v 201) M') → PX6_firstTrue_2 (fun M2 => Q (-1) M2) Q k m M := by
  intro k
  induction k with
  | zero => intro m M _ _; omega
  | succ k ih =>
    intro m M m1 hk hf s hQ
    refine ⟨fun z => ?_, fun z => ?_⟩
    · have : m = 201 := by omega
      rw [this] at hf
      have := hQ M (rn_r M)
      rw [hf] at this
      exact this
    · refine hr m M _ (by omega) (by omega) s (fun M3 f3 => ⟨fun y => ?_, fun y => ?_⟩)
      · rw [wad (by omega) (by omega), show (m : Int) + 1 = ((m + 1 : Nat) : Int) by omega]
        refine ih (m + 1) M3 (by omega) (by omega) ?_ (hS M M3 f3 s) (fun M' f => hQ M' (rn_t f3 f))
        show (if frv v m = -1 then (if v m = 0 then -1 else (m : Int)) else frv v m) = -1
        rw [if_pos hf, if_pos y]
      · have e : frv v (m + 1) = (m : Int) := by
          show (if frv v m = -1 then (if v m = 0 then -1 else (m : Int)) else frv v m) = m
          rw [if_pos hf, if_neg y]
        have p := frv_k (v := v) (m := m + 1) (by rw [e]; omega) (201 - (m + 1))
        rw [show m + 1 + (201 - (m + 1)) = 201 by omega, e] at p
        have := hQ M3 f3
        rw [p] at this
        exact this
theorem lst_cc (hr : ∀ (t : Int) (M : Mem) (Q : Int → Mem → Prop), 0 ≤ t → t ≤ 200 → S M → (∀ M' : Mem, rn M M' → Q (v t) M') → PX5_run t M Q) (hS : ∀ M M' : Mem, rn M M' → S M → S M') : ∀ (m k : Nat) (M : Mem), m ≤ 201 → m < k → lsv v 201 = lsv v m → S M → (∀ M' : Mem, rn M M' → Q (lsv v 201) M') → PX6_lastTrue_4 (fun M2 => Q (-1) M2) Q k ((m : Int) - 1) M := by
  intro m
  induction m with
  | zero =>
    intro k M _ hk hf s hQ
    obtain ⟨k, rfl⟩ : ∃ i, k = i + 1 := ⟨k - 1, by omega⟩
    refine ⟨fun _ => ?_, fun z => absurd (show ((0 : Nat) : Int) - 1 < 0 by decide) z⟩
    have := hQ M (rn_r M)
    rw [hf] at this
    exact this
  | succ m ih =>
    intro k M m1 hk hf s hQ
    obtain ⟨k, rfl⟩ : ∃ i, k = i + 1 := ⟨k - 1, by omega⟩
    rw [show ((m + 1 : Nat) : Int) - 1 = (m : Int) by omega]
    have e : lsv v (m + 1) = if v m = 0 then lsv v m else (m : Int) := rfl
    rw [e] at hf
    refine ⟨fun z => by omega, fun _ => hr m M _ (by omega) (by omega) s (fun M3 f3 => ⟨fun y => ?_, fun y => ?_⟩)⟩
    · rw [wad (by omega) (by omega), show (m : Int) + -1 = (m : Int) - 1 by omega]
      rw [if_pos y] at hf
      exact ih k M3 (by omega) (by omega) hf (hS M M3 f3 s) (fun M' f => hQ M' (rn_t f3 f))
    · rw [if_neg y] at hf
      have := hQ M3 f3
      rw [hf] at this
      exact this
theorem ofn_c (hr : ∀ (t : Int) (M : Mem) (Q : Int → Mem → Prop), 0 ≤ t → t ≤ 200 → S M → (∀ M' : Mem, rn M M' → Q (v t) M') → PX5_run t M Q) (hS : ∀ M M' : Mem, rn M M' → S M → S M') : ∀ (k m : Nat) (M : Mem), m ≤ 201 → 201 < m + k → S M → (∀ M' : Mem, rn M M' → Q (ofv' v 201) M') → PX6_howOften_5 (fun u2 M3 => Q u2 M3) Q k (ofv' v m) m M := by
  intro k
  induction k with
  | zero => intro m M _ _; omega
  | succ k ih =>
    intro m M m1 hk s hQ
    refine ⟨fun z => ?_, fun z => ?_⟩
    · have : m = 201 := by omega
      rw [this]; exact hQ M (rn_r M)
    · refine hr m M _ (by omega) (by omega) s (fun M3 f3 => ?_)
      have b := ofv_b v m
      have e : (if v m = 0 then ofv' v m else (wr64 (ofv' v m + 1))) = ofv' v (m + 1) := by
        show _ = if v m = 0 then ofv' v m else ofv' v m + 1
        by_cases y : v m = 0
        · rw [if_pos y, if_pos y]
        · rw [if_neg y, if_neg y]; exact wr64_id (by unfold r64; omega)
      show PX6_howOften_5 _ Q k (if v m = 0 then ofv' v m else (wr64 (ofv' v m + 1))) (wr32 ((m : Int) + 1)) M3
      rw [e, wad (by omega) (by omega), show (m : Int) + 1 = ((m + 1 : Nat) : Int) by omega]
      exact ih (m + 1) M3 (by omega) (by omega) (hS M M3 f3 s) (fun M' f => hQ M' (rn_t f3 f))
theorem tot_c (hv : ∀ t, 0 ≤ t → t ≤ 200 → bdd (v t)) (hr : ∀ (t : Int) (M : Mem) (Q : Int → Mem → Prop), 0 ≤ t → t ≤ 200 → S M → (∀ M' : Mem, rn M M' → Q (v t) M') → PX5_run t M Q) (hS : ∀ M M' : Mem, rn M M' → S M → S M') : ∀ (k m : Nat) (M : Mem), m ≤ 201 → 201 < m + k → S M → (∀ M' : Mem, rn M M' → Q (smv v 201) M') → PX6_total_5 (fun u2 M3 => Q u2 M3) Q k (smv v m) m M := by
  intro k
  induction k with
  | zero => intro m M _ _; omega
  | succ k ih =>
    intro m M m1 hk s hQ
    refine ⟨fun z => ?_, fun z => ?_⟩
    · have : m = 201 := by omega
      rw [this]; exact hQ M (rn_r M)
    · refine hr m M _ (by omega) (by omega) s (fun M3 f3 => ?_)
      have b := smv_b hv (m + 1) (by omega)
      have e : wr64 (smv v m + v m) = smv v (m + 1) := by
        show wr64 (smv v m + v m) = smv v m + v m
        have b' : -1000000 * ((m + 1 : Nat) : Int) ≤ smv v m + v m ∧ smv v m + v m ≤ 1000000 * ((m + 1 : Nat) : Int) := b
        exact wr64_id (by unfold r64; omega)
      show PX6_total_5 _ Q k (wr64 (smv v m + v m)) (wr32 ((m : Int) + 1)) M3
      rw [e, wad (by omega) (by omega), show (m : Int) + 1 = ((m + 1 : Nat) : Int) by omega]
      exact ih (m + 1) M3 (by omega) (by omega) (hS M M3 f3 s) (fun M' f => hQ M' (rn_t f3 f))
theorem ext_c {w : Int} (hr : ∀ (t : Int) (M : Mem) (Q : Int → Mem → Prop), 0 ≤ t → t ≤ 200 → S M → (∀ M' : Mem, rn M M' → Q (v t) M') → PX5_run t M Q) (hS : ∀ M M' : Mem, rn M M' → S M → S M') : ∀ (k m : Nat) (M : Mem), m ≤ 200 → 200 < m + k → S M → (∀ M' : Mem, rn M M' → Q (if w = 0 then mnq v 200 else mxq v 200) M') → PX6_extreme_14 w (fun u5 M6 => Q u5 M6) Q k (if w = 0 then mnq v m else mxq v m) ((m + 1 : Nat) : Int) M := by
  intro k
  induction k with
  | zero => intro m M _ _; omega
  | succ k ih =>
    intro m M m1 hk s hQ
    refine ⟨fun z => ?_, fun z => ?_⟩
    · have : m = 200 := by omega
      rw [this]; exact hQ M (rn_r M)
    · refine hr ((m + 1 : Nat) : Int) M _ (by omega) (by omega) s (fun M3 f3 => ?_)
      have e : (if w = 0 then (if v ((m + 1 : Nat) : Int) < (if w = 0 then mnq v m else mxq v m) then v ((m + 1 : Nat) : Int) else (if w = 0 then mnq v m else mxq v m)) else (if v ((m + 1 : Nat) : Int) < (if w = 0 then mnq v m else mxq v m) then (if w = 0 then mnq v m else mxq v m) else v ((m + 1 : Nat) : Int))) = if w = 0 then mnq v (m + 1) else mxq v (m + 1) := by
        have e1 : mnq v (m + 1) = if v ((m + 1 : Nat) : Int) < mnq v m then v ((m + 1 : Nat) : Int) else mnq v m := rfl
        have e2 : mxq v (m + 1) = if mxq v m < v ((m + 1 : Nat) : Int) then v ((m + 1 : Nat) : Int) else mxq v m := rfl
        rw [e1, e2]
        by_cases y : w = 0
        · rw [if_pos y, if_pos y, if_pos y]
        · rw [if_neg y, if_neg y, if_neg y]
          by_cases a : v ((m + 1 : Nat) : Int) < mxq v m
          · rw [if_pos a, if_neg (by omega)]
          · rw [if_neg a]
            by_cases c : mxq v m < v ((m + 1 : Nat) : Int)
            · rw [if_pos c]
            · rw [if_neg c]; omega
      have w1 : wr32 (((m + 1 : Nat) : Int) + 1) = ((m + 1 + 1 : Nat) : Int) := by rw [wad (by omega) (by omega)]; omega
      have G := ih (m + 1) M3 (by omega) (by omega) (hS M M3 f3 s) (fun M' f => hQ M' (rn_t f3 f))
      rw [← e, ← w1] at G
      exact G
theorem answer_c {kd : Int} {M : Mem} (k0 : 0 ≤ kd ∧ kd ≤ 5) (hk : M 5 2 = kd) (hv : ∀ t, 0 ≤ t → t ≤ 200 → bdd (v t)) (hr : ∀ (t : Int) (M : Mem) (Q : Int → Mem → Prop), 0 ≤ t → t ≤ 200 → S M → (∀ M' : Mem, rn M M' → Q (v t) M') → PX5_run t M Q) (hS : ∀ M M' : Mem, rn M M' → S M → S M') (s : S M) (hQ : ∀ M' : Mem, rn M M' → Q (acc v kd 201) M') : PX6_answer M Q := by
  unfold acc at hQ
  unfold PX6_answer
  rw [hk]
  refine ⟨fun z => ?_, fun z => ⟨fun z1 => ?_, fun z1 => ⟨fun z2 => ?_, fun z2 => ⟨fun z3 => ?_, fun z3 => ?_⟩⟩⟩⟩
  · rw [if_pos z] at hQ
    exact ⟨202, fst_c hr hS 202 0 M (by decide) (by decide) rfl s hQ⟩
  · rw [if_neg z, if_pos z1] at hQ
    exact ⟨202, lst_cc hr hS 201 202 M (by decide) (by decide) rfl s hQ⟩
  · rw [if_neg z, if_neg z1, if_pos z2] at hQ
    exact ⟨202, ofn_c hr hS 202 0 M (by decide) (by decide) s hQ⟩
  · rw [if_neg z, if_neg z1, if_neg z2, if_pos z3] at hQ
    exact ⟨202, tot_c hv hr hS 202 0 M (by decide) (by decide) s hQ⟩
  · rw [if_neg z, if_neg z1, if_neg z2, if_neg z3, if_neg (show ¬ (201 : Nat) = 0 by decide)] at hQ
    refine hr 0 M _ (by decide) (by decide) s (fun M2 f2 => ⟨202, ?_⟩)
    have w : (if kd = 4 then mxq v (201 - 1) else mnq v (201 - 1)) = (if (if kd = 4 then (1 : Int) else 0) = 0 then mnq v 200 else mxq v 200) := by
      by_cases y : kd = 4
      · rw [if_pos y, if_pos y, if_neg (by decide)]
      · rw [if_neg y, if_neg y, if_pos rfl]
    rw [w] at hQ
    have G := ext_c (w := if kd = 4 then (1 : Int) else 0) hr hS 202 0 M2 (by decide) (by decide) (hS M M2 f2 s) (fun M' f => hQ M' (rn_t f2 f))
    have e0 : (if (if kd = 4 then (1 : Int) else 0) = 0 then mnq v 0 else mxq v 0) = v 0 := by
      by_cases y : (if kd = 4 then (1 : Int) else 0) = 0
      · rw [if_pos y]; rfl
      · rw [if_neg y]; rfl
    rw [e0] at G
    exact G
end
/-- what a second changes in the answer -/
def updq (kd i x a nw : Int) : Int := if kd = 0 then (if x = 1 ∧ a = -1 then i else a) else if kd = 1 then (if x = 1 then i else a) else if kd = 2 then (if x = 1 then a + 1 else a) else if kd = 3 then a + x else if nw ≠ 0 then x else if kd = 4 then (if a < x then x else a) else if x < a then x else a
def X8q (v1 v2 : Int) (Q : Int → Mem → Prop) (M9 : Mem) : Prop := ((v1 ≤ 3 → (∀ M13 : Mem, M13 = (mset M9 66 87 0) → Q 0 M13)) ∧ (¬ (v1 ≤ 3) → (((M9 66 87) = 0 → ((v1 = 4 → (((m_cmp v2 (M9 66 86)) ≤ 0 → (∀ M29 : Mem, M29 = (mset M9 66 87 0) → Q 0 M29)) ∧ (¬ ((m_cmp v2 (M9 66 86)) ≤ 0) → (∀ M31 : Mem, M31 = (mset M9 66 86 v2) → (∀ M33 : Mem, M33 = (mset M31 66 87 0) → Q 0 M33))))) ∧ (¬ (v1 = 4) → ((0 ≤ (m_cmp v2 (M9 66 86)) → (∀ M22 : Mem, M22 = (mset M9 66 87 0) → Q 0 M22)) ∧ (¬ (0 ≤ (m_cmp v2 (M9 66 86))) → (∀ M24 : Mem, M24 = (mset M9 66 86 v2) → (∀ M26 : Mem, M26 = (mset M24 66 87 0) → Q 0 M26))))))) ∧ (¬ ((M9 66 87) = 0) → (∀ M16 : Mem, M16 = (mset M9 66 86 v2) → (∀ M18 : Mem, M18 = (mset M16 66 87 0) → Q 0 M18))))))
def X5q (v1 v2 : Int) (Q : Int → Mem → Prop) (M6 : Mem) : Prop := (∃ j8 : Mem → Prop, (∀ (M9 : Mem), j8 M9 → ((v1 ≤ 3 → (∀ M13 : Mem, M13 = (mset M9 66 87 0) → Q 0 M13)) ∧ (¬ (v1 ≤ 3) → (((M9 66 87) = 0 → ((v1 = 4 → (((m_cmp v2 (M9 66 86)) ≤ 0 → (∀ M29 : Mem, M29 = (mset M9 66 87 0) → Q 0 M29)) ∧ (¬ ((m_cmp v2 (M9 66 86)) ≤ 0) → (∀ M31 : Mem, M31 = (mset M9 66 86 v2) → (∀ M33 : Mem, M33 = (mset M31 66 87 0) → Q 0 M33))))) ∧ (¬ (v1 = 4) → ((0 ≤ (m_cmp v2 (M9 66 86)) → (∀ M22 : Mem, M22 = (mset M9 66 87 0) → Q 0 M22)) ∧ (¬ (0 ≤ (m_cmp v2 (M9 66 86))) → (∀ M24 : Mem, M24 = (mset M9 66 86 v2) → (∀ M26 : Mem, M26 = (mset M24 66 87 0) → Q 0 M26))))))) ∧ (¬ ((M9 66 87) = 0) → (∀ M16 : Mem, M16 = (mset M9 66 86 v2) → (∀ M18 : Mem, M18 = (mset M16 66 87 0) → Q 0 M18))))))) ∧ ((v1 = 3 → (∀ M36 : Mem, M36 = (mset M6 66 86 (wr64 ((M6 66 86) + v2))) → j8 M36)) ∧ (¬ (v1 = 3) → j8 M6)))
def X2q (v1 v2 : Int) (Q : Int → Mem → Prop) (M3 : Mem) : Prop := (∃ j5 : Mem → Prop, (∀ (M6 : Mem), j5 M6 → (∃ j8 : Mem → Prop, (∀ (M9 : Mem), j8 M9 → ((v1 ≤ 3 → (∀ M13 : Mem, M13 = (mset M9 66 87 0) → Q 0 M13)) ∧ (¬ (v1 ≤ 3) → (((M9 66 87) = 0 → ((v1 = 4 → (((m_cmp v2 (M9 66 86)) ≤ 0 → (∀ M29 : Mem, M29 = (mset M9 66 87 0) → Q 0 M29)) ∧ (¬ ((m_cmp v2 (M9 66 86)) ≤ 0) → (∀ M31 : Mem, M31 = (mset M9 66 86 v2) → (∀ M33 : Mem, M33 = (mset M31 66 87 0) → Q 0 M33))))) ∧ (¬ (v1 = 4) → ((0 ≤ (m_cmp v2 (M9 66 86)) → (∀ M22 : Mem, M22 = (mset M9 66 87 0) → Q 0 M22)) ∧ (¬ (0 ≤ (m_cmp v2 (M9 66 86))) → (∀ M24 : Mem, M24 = (mset M9 66 86 v2) → (∀ M26 : Mem, M26 = (mset M24 66 87 0) → Q 0 M26))))))) ∧ (¬ ((M9 66 87) = 0) → (∀ M16 : Mem, M16 = (mset M9 66 86 v2) → (∀ M18 : Mem, M18 = (mset M16 66 87 0) → Q 0 M18))))))) ∧ ((v1 = 3 → (∀ M36 : Mem, M36 = (mset M6 66 86 (wr64 ((M6 66 86) + v2))) → j8 M36)) ∧ (¬ (v1 = 3) → j8 M6)))) ∧ ((v1 = 2 → (((if 3 ≤ v1 then (0 : Int) else (if (m_cmp v2 1) = 0 then (1 : Int) else 0)) = 0 → j5 M3) ∧ (¬ ((if 3 ≤ v1 then (0 : Int) else (if (m_cmp v2 1) = 0 then (1 : Int) else 0)) = 0) → (∀ M40 : Mem, M40 = (mset M3 66 86 (wr64 ((M3 66 86) + 1))) → j5 M40)))) ∧ (¬ (v1 = 2) → j5 M3)))
def r86 (M M' : Mem) : Prop := (∀ q, q ≠ 66 → M' q = M q) ∧ ∀ j, j ≠ 86 → j ≠ 87 → M' 66 j = M 66 j
theorem r86_1 {M : Mem} {x : Int} : r86 M (mset M 66 86 x) := ⟨fun q a => mset_p a, fun j a _ => mset_k a⟩
theorem r86_2 {M : Mem} {x : Int} : r86 M (mset M 66 87 x) := ⟨fun q a => mset_p a, fun j _ a => mset_k a⟩
theorem r86_t {M N O : Mem} (a : r86 M N) (c : r86 N O) : r86 M O := ⟨fun q x => (c.1 q x).trans (a.1 q x), fun j x y => (c.2 j x y).trans (a.2 j x y)⟩
theorem r86_r (M : Mem) : r86 M M := ⟨fun _ _ => rfl, fun _ _ _ => rfl⟩
section
variable {v2 i : Int} {Q : Int → Mem → Prop}
/-- the end of it: a stands in 86 -/
theorem x8_3 {v1 a : Int} {N : Mem} (h : v1 ≤ 3) (ha : N 66 86 = a) (hQ : ∀ M' : Mem, r86 N M' → M' 66 86 = a → M' 66 87 = 0 → Q 0 M') : X8q v1 v2 Q N :=
  ⟨fun _ M13 h13 => by rw [h13]; exact hQ _ r86_2 (by rw [mset_k (by decide)]; exact ha) mset_e, fun z => absurd h z⟩
theorem x5_n {v1 a : Int} {N : Mem} (h : v1 ≤ 3) (h3 : ¬ v1 = 3) (ha : N 66 86 = a) (hQ : ∀ M' : Mem, r86 N M' → M' 66 86 = a → M' 66 87 = 0 → Q 0 M') : X5q v1 v2 Q N :=
  ⟨_, fun _ h => h, fun z => absurd z h3, fun _ => x8_3 h ha hQ⟩
theorem x2_n {v1 a : Int} {N : Mem} (h : v1 ≤ 3) (h2 : ¬ v1 = 2) (h3 : ¬ v1 = 3) (ha : N 66 86 = a) (hQ : ∀ M' : Mem, r86 N M' → M' 66 86 = a → M' 66 87 = 0 → Q 0 M') : X2q v1 v2 Q N :=
  ⟨_, fun _ h => h, fun z => absurd z h2, fun _ => x5_n h h3 ha hQ⟩
theorem is_1 {v1 : Int} (h : v1 < 3) : ((if 3 ≤ v1 then (0 : Int) else (if (m_cmp v2 1) = 0 then (1 : Int) else 0)) = 0 ↔ ¬ v2 = 1) := by
  rw [if_neg (by omega)]
  by_cases z : v2 = 1
  · rw [if_pos (cmp_eq.mpr z)]; exact ⟨fun y => absurd y (by decide), fun y => absurd z y⟩
  · rw [if_neg (fun w => z (cmp_eq.mp w))]; exact ⟨fun _ => z, fun _ => rfl⟩
theorem takes_q {kd a nw : Int} {M : Mem} (k0 : 0 ≤ kd ∧ kd ≤ 5) (ha : M 66 86 = a) (hn : M 66 87 = nw) (b1 : kd = 2 ∨ kd = 3 → -1000000000000 ≤ a ∧ a ≤ 1000000000000) (b2 : bdd v2) (hQ : ∀ M' : Mem, r86 M M' → M' 66 86 = updq kd i v2 a nw → M' 66 87 = 0 → Q 0 M') : PX12_qTakes kd v2 i M Q := by
  have e : PX12_qTakes kd v2 i M Q = (∃ j2 : Mem → Prop, (∀ (M3 : Mem), j2 M3 → X2q kd v2 Q M3) ∧ _) := rfl
  have k6 : kd = 0 ∨ kd = 1 ∨ kd = 2 ∨ kd = 3 ∨ kd = 4 ∨ kd = 5 := by omega
  unfold bdd at b2
  rcases k6 with rfl | rfl | rfl | rfl | rfl | rfl
  · have u : updq 0 i v2 a nw = if v2 = 1 ∧ a = -1 then i else a := rfl
    rw [u] at hQ
    refine ⟨_, fun _ h => h, fun _ => ⟨fun z => ?_, fun z => ⟨fun y => fun M53 h53 => ?_, fun y => ?_⟩⟩, fun z => absurd rfl z⟩
    · have v1 := (is_1 (v2 := v2) (v1 := 0) (by decide)).mp z
      refine ⟨fun y => absurd y (by decide), fun _ => x2_n (by decide) (by decide) (by decide) ha (fun M' r x y => hQ M' r ?_ y)⟩
      rw [if_neg (fun w => v1 w.1)]; exact x
    · have v1 : v2 = 1 := Classical.byContradiction (fun w => z ((is_1 (v1 := 0) (by decide)).mpr w))
      rw [ha] at y
      have a1 := cmp_eq.mp y
      refine x2_n (a := i) (by decide) (by decide) (by decide) (by rw [h53, mset_e]) (fun M' r x y => hQ M' (r86_t (by rw [h53]; exact r86_1) r) ?_ y)
      rw [if_pos ⟨v1, a1⟩]; exact x
    · rw [ha] at y
      have a1 : ¬ a = -1 := fun w => y (cmp_eq.mpr w)
      refine ⟨fun y => absurd y (by decide), fun _ => x2_n (by decide) (by decide) (by decide) ha (fun M' r x y => hQ M' r ?_ y)⟩
      rw [if_neg (fun w => a1 w.2)]; exact x
  · have u : updq 1 i v2 a nw = if v2 = 1 then i else a := rfl
    rw [u] at hQ
    refine ⟨_, fun _ h => h, fun z => absurd z (by decide), fun _ => ⟨fun _ => ⟨fun z => ?_, fun z M45 h45 => ?_⟩, fun z => absurd rfl z⟩⟩
    · have v1 := (is_1 (v2 := v2) (v1 := 1) (by decide)).mp z
      refine x2_n (by decide) (by decide) (by decide) ha (fun M' r x y => hQ M' r ?_ y)
      rw [if_neg v1]; exact x
    · have v1 : v2 = 1 := Classical.byContradiction (fun w => z ((is_1 (v1 := 1) (by decide)).mpr w))
      refine x2_n (a := i) (by decide) (by decide) (by decide) (by rw [h45, mset_e]) (fun M' r x y => hQ M' (r86_t (by rw [h45]; exact r86_1) r) ?_ y)
      rw [if_pos v1]; exact x
  · have u : updq 2 i v2 a nw = if v2 = 1 then a + 1 else a := rfl
    rw [u] at hQ
    refine ⟨_, fun _ h => h, fun z => absurd z (by decide), fun _ => ⟨fun z => absurd z (by decide), fun _ => ?_⟩⟩
    refine ⟨_, fun _ h => h, fun _ => ⟨fun z => ?_, fun z M40 h40 => ?_⟩, fun z => absurd rfl z⟩
    · have v1 := (is_1 (v2 := v2) (v1 := 2) (by decide)).mp z
      refine x5_n (by decide) (by decide) ha (fun M' r x y => hQ M' r ?_ y)
      rw [if_neg v1]; exact x
    · have v1 : v2 = 1 := Classical.byContradiction (fun w => z ((is_1 (v1 := 2) (by decide)).mpr w))
      have b := b1 (Or.inl rfl)
      refine x5_n (a := a + 1) (by decide) (by decide) (by rw [h40, mset_e, ha]; exact wr64_id (by unfold r64; omega)) (fun M' r x y => hQ M' (r86_t (by rw [h40]; exact r86_1) r) ?_ y)
      rw [if_pos v1]; exact x
  · have u : updq 3 i v2 a nw = a + v2 := rfl
    rw [u] at hQ
    refine ⟨_, fun _ h => h, fun z => absurd z (by decide), fun _ => ⟨fun z => absurd z (by decide), fun _ => ?_⟩⟩
    refine ⟨_, fun _ h => h, fun z => absurd z (by decide), fun _ => ?_⟩
    refine ⟨_, fun _ h => h, fun _ M36 h36 => ?_, fun z => absurd rfl z⟩
    have b := b1 (Or.inr rfl)
    exact x8_3 (a := a + v2) (by decide) (by rw [h36, mset_e, ha]; exact wr64_id (by unfold r64; omega)) (fun M' r x y => hQ M' (r86_t (by rw [h36]; exact r86_1) r) x y)
  · have u : updq 4 i v2 a nw = if nw ≠ 0 then v2 else if a < v2 then v2 else a := rfl
    rw [u] at hQ
    refine ⟨_, fun _ h => h, fun z => absurd z (by decide), fun _ => ⟨fun z => absurd z (by decide), fun _ => ?_⟩⟩
    refine ⟨_, fun _ h => h, fun z => absurd z (by decide), fun _ => ?_⟩
    refine ⟨_, fun _ h => h, fun z => absurd z (by decide), fun _ => ?_⟩
    refine ⟨fun z => absurd z (by decide), fun _ => ⟨fun z => ⟨fun _ => ⟨fun y M29 h29 => ?_, fun y M31 h31 M33 h33 => ?_⟩, fun z => absurd rfl z⟩, fun z M16 h16 M18 h18 => ?_⟩⟩
    · rw [hn] at z
      rw [ha] at y
      have y' := cmp_l2.mp y
      refine hQ M29 (by rw [h29]; exact r86_2) ?_ (by rw [h29, mset_e])
      rw [if_neg (fun w => w z), if_neg (by omega), h29, mset_k (by decide)]; exact ha
    · rw [hn] at z
      rw [ha] at y
      have y' : a < v2 := Classical.byContradiction (fun w => y (cmp_l2.mpr (by omega)))
      refine hQ M33 (by rw [h33, h31]; exact r86_t r86_1 r86_2) ?_ (by rw [h33, mset_e])
      rw [if_neg (fun w => w z), if_pos y', h33, mset_k (by decide), h31, mset_e]
    · rw [hn] at z
      refine hQ M18 (by rw [h18, h16]; exact r86_t r86_1 r86_2) ?_ (by rw [h18, mset_e])
      rw [if_pos z, h18, mset_k (by decide), h16, mset_e]
  · have u : updq 5 i v2 a nw = if nw ≠ 0 then v2 else if v2 < a then v2 else a := rfl
    rw [u] at hQ
    refine ⟨_, fun _ h => h, fun z => absurd z (by decide), fun _ => ⟨fun z => absurd z (by decide), fun _ => ?_⟩⟩
    refine ⟨_, fun _ h => h, fun z => absurd z (by decide), fun _ => ?_⟩
    refine ⟨_, fun _ h => h, fun z => absurd z (by decide), fun _ => ?_⟩
    refine ⟨fun z => absurd z (by decide), fun _ => ⟨fun z => ⟨fun z => absurd z (by decide), fun _ => ⟨fun y M22 h22 => ?_, fun y M24 h24 M26 h26 => ?_⟩⟩, fun z M16 h16 M18 h18 => ?_⟩⟩
    · rw [hn] at z
      rw [ha] at y
      have y' := cmp_g2.mp y
      refine hQ M22 (by rw [h22]; exact r86_2) ?_ (by rw [h22, mset_e])
      rw [if_neg (fun w => w z), if_neg (by omega), h22, mset_k (by decide)]; exact ha
    · rw [hn] at z
      rw [ha] at y
      have y' : v2 < a := Classical.byContradiction (fun w => y (cmp_g2.mpr (by omega)))
      refine hQ M26 (by rw [h26, h24]; exact r86_t r86_1 r86_2) ?_ (by rw [h26, mset_e])
      rw [if_neg (fun w => w z), if_pos y', h26, mset_k (by decide), h24, mset_e]
    · rw [hn] at z
      refine hQ M18 (by rw [h18, h16]; exact r86_t r86_1 r86_2) ?_ (by rw [h18, mset_e])
      rw [if_pos z, h18, mset_k (by decide), h16, mset_e]
/-- the answer one second on -/
theorem acc_s {v : Int → Int} {kd : Int} (k0 : 0 ≤ kd ∧ kd ≤ 5) (m : Nat) (h01 : kd < 3 → v m = 0 ∨ v m = 1) : acc v kd (m + 1) = updq kd m (v m) (acc v kd m) (if m = 0 then 1 else 0) := by
  have k6 : kd = 0 ∨ kd = 1 ∨ kd = 2 ∨ kd = 3 ∨ kd = 4 ∨ kd = 5 := by omega
  rcases k6 with rfl | rfl | rfl | rfl | rfl | rfl
  · show (if frv v m = -1 then (if v m = 0 then -1 else (m : Int)) else frv v m) = if v m = 1 ∧ frv v m = -1 then (m : Int) else frv v m
    rcases h01 (by decide) with z | z
    · rw [z, if_pos rfl, if_neg (show ¬ ((0 : Int) = 1 ∧ frv v m = -1) from fun w => absurd w.1 (by decide))]
      by_cases y : frv v m = -1
      · rw [if_pos y, y]
      · rw [if_neg y]
    · rw [z, if_neg (show ¬ (1 : Int) = 0 by decide)]
      by_cases y : frv v m = -1
      · rw [if_pos y, if_pos ⟨rfl, y⟩]
      · rw [if_neg y, if_neg (fun w => y w.2)]
  · show (if v m = 0 then lsv v m else (m : Int)) = if v m = 1 then (m : Int) else lsv v m
    rcases h01 (by decide) with z | z
    · rw [z, if_pos rfl, if_neg (show ¬ (0 : Int) = 1 by decide)]
    · rw [z, if_neg (show ¬ (1 : Int) = 0 by decide), if_pos rfl]
  · show (if v m = 0 then ofv' v m else ofv' v m + 1) = if v m = 1 then ofv' v m + 1 else ofv' v m
    rcases h01 (by decide) with z | z
    · rw [z, if_pos rfl, if_neg (show ¬ (0 : Int) = 1 by decide)]
    · rw [z, if_neg (show ¬ (1 : Int) = 0 by decide), if_pos rfl]
  · rfl
  · cases m with
    | zero => rfl
    | succ m =>
      show mxq v (m + 1) = if (if (m + 1 : Nat) = 0 then (1 : Int) else 0) ≠ 0 then v ((m + 1 : Nat) : Int) else if mxq v m < v ((m + 1 : Nat) : Int) then v ((m + 1 : Nat) : Int) else mxq v m
      rw [if_neg (show ¬ (m + 1 : Nat) = 0 by omega), if_neg (fun w => w rfl)]
      rfl
  · cases m with
    | zero => rfl
    | succ m =>
      show mnq v (m + 1) = if (if (m + 1 : Nat) = 0 then (1 : Int) else 0) ≠ 0 then v ((m + 1 : Nat) : Int) else if v ((m + 1 : Nat) : Int) < mnq v m then v ((m + 1 : Nat) : Int) else mnq v m
      rw [if_neg (show ¬ (m + 1 : Nat) = 0 by omega), if_neg (fun w => w rfl)]
      rfl
end
