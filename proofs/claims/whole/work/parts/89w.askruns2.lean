/-! ask: the reference works a question out -/
def rE (s : List Int) (M : Mem) : Prop := M 66 85 = (s.length : Int) ∧ sSt 124 s M
def rnr (M M' : Mem) : Prop := (∀ q, q ≠ 66 → q ≠ 124 → M' q = M q) ∧ ∀ j, j ≠ 85 → M' 66 j = M 66 j
theorem rnr_r (M : Mem) : rnr M M := ⟨fun _ _ _ => rfl, fun _ _ => rfl⟩
theorem rnr_t {M N O : Mem} (a : rnr M N) (c : rnr N O) : rnr M O := ⟨fun q x y => (c.1 q x y).trans (a.1 q x y), fun j x => (c.2 j x).trans (a.2 j x)⟩
/-- what the reference's evaluation reads -/
def rD (H : Hal) (C : Int) (M : Mem) : Prop := rPl H C M M ∧ Rh H M ∧ M 66 42 = C
theorem rD_f {H : Hal} {C : Int} {M M' : Mem} (f1 : ∀ q, q ≠ 66 → q ≠ 124 → M' q = M q) (f2 : ∀ j, j = 38 ∨ j = 39 ∨ j = 42 ∨ j = 51 ∨ j = 52 → M' 66 j = M 66 j) (m : rD H C M) : rD H C M' := by
  obtain ⟨⟨_, _, r3, r4, r5, r6⟩, ⟨h1, h2, h3, h4, h5, h6⟩, c⟩ := m
  refine ⟨⟨fun _ _ => rfl, fun _ _ _ _ => rfl, fun q a d => ?_, ?_, ?_, fun t ht q a d e => ?_⟩, ?_, ?_⟩
  · rw [f1 96 (by decide) (by decide), f1 97 (by decide) (by decide), f1 98 (by decide) (by decide)]; exact r3 q a d
  · rw [f2 51 (by decide)]; exact r4
  · rw [f2 52 (by decide)]; exact r5
  · rw [f1 95 (by decide) (by decide)]; exact r6 t ht q a d e
  · unfold Rh
    rw [f2 38 (by decide), f2 39 (by decide), f1 85 (by decide) (by decide), f1 86 (by decide) (by decide), f1 87 (by decide) (by decide), f1 88 (by decide) (by decide), f1 89 (by decide) (by decide), f1 90 (by decide) (by decide), f1 91 (by decide) (by decide), f1 92 (by decide) (by decide)]
    exact ⟨h1, h2, h3, h4, h5, h6⟩
  · rw [f2 42 (by decide)]; exact c
theorem rD_r {H : Hal} {C : Int} {M M' : Mem} (h : rnr M M') (m : rD H C M) : rD H C M' := rD_f h.1 (fun j hj => h.2 j (by omega)) m
theorem cmp_g2 {a c : Int} : 0 ≤ m_cmp a c ↔ c ≤ a := by
  unfold m_cmp
  by_cases z : a < c
  · rw [if_pos z]; omega
  · rw [if_neg z]
    by_cases y : a = c
    · rw [if_pos y]; omega
    · rw [if_neg y]; omega
theorem cmp_l2 {a c : Int} : m_cmp a c ≤ 0 ↔ a ≤ c := by
  unfold m_cmp
  by_cases z : a < c
  · rw [if_pos z]; omega
  · rw [if_neg z]
    by_cases y : a = c
    · rw [if_pos y]; omega
    · rw [if_neg y]; omega
section
variable {H : Hal} {C t : Int} {M : Mem} {Q : Int → Mem → Prop} {K : Mem → Prop} {s : List Int} {x y v : Int}
theorem puts_r (h : rE s M) (hl : (s.length : Int) ≤ 100) : nX12_qPuts M ∧ rE (v :: s) (fmX12_qPuts M v) ∧ rnr M (fmX12_qPuts M v) := by
  have e : fmX12_qPuts M v = mset (mset M 124 (s.length : Int) v) 66 85 ((s.length : Int) + 1) := by
    unfold fmX12_qPuts
    rw [h.1, mset_o (by decide), h.1, wad (by omega) (by omega)]
  unfold nX12_qPuts
  rw [e, h.1]
  refine ⟨⟨by omega, by omega⟩, ⟨by rw [mset_e, lenc], by rw [mset_o (by decide), mset_e], sSt_c s (fun i a c => by rw [mset_o (by decide), mset_k (by omega)]) h.2⟩, fun q a c => by rw [mset_p a, mset_p c], fun j a => by rw [mset_k a, mset_o (by decide)]⟩
/-- the last number is changed -/
theorem top_r (h : rE (x :: s) M) (hl : (s.length : Int) ≤ 100) : wr32 (M 66 85 - 1) = (s.length : Int) ∧ M 124 (s.length : Int) = x ∧ rE (v :: s) (mset M 124 (s.length : Int) v) ∧ rnr M (mset M 124 (s.length : Int) v) := by
  refine ⟨by rw [h.1, lenc, wsu (by omega) (by omega)]; omega, h.2.1, ⟨by rw [mset_o (by decide), h.1, lenc, lenc], mset_e, sSt_c s (fun i a c => mset_k (by omega)) h.2.2⟩, fun q a c => mset_p c, fun j a => mset_o (by decide)⟩
theorem clp_q {z : Int} (h : -1000000000001 ≤ z ∧ z ≤ 1000000000001) : fX12_qClip (wr64 z) = clp z := by
  rw [wr64_id (by unfold r64; omega)]
  unfold fX12_qClip clp
  by_cases a : z ≤ 1000000
  · rw [if_pos (cmp_l2.mpr a)]
    by_cases c : -1000000 ≤ z
    · rw [if_pos (cmp_g2.mpr c), if_neg (by omega), if_neg (by omega)]
    · rw [if_neg (fun w => c (cmp_g2.mp w)), if_pos (by omega)]
  · rw [if_neg (fun w => a (cmp_l2.mp w)), if_neg (by omega), if_pos (by omega)]
theorem clp_i {z : Int} (h : bdd z) : fX12_qClip z = z := by
  unfold bdd at h
  unfold fX12_qClip
  rw [if_pos (cmp_l2.mpr h.2), if_pos (cmp_g2.mpr h.1)]
theorem fl_q (hx : bdd x) (hy0 : y ≠ 0) : (if (m_cmp (Int.tmod x y) 0) = 0 then (wr64 (Int.tdiv x y)) else (if (if 0 ≤ (m_cmp x 0) then (0 : Int) else 1) = (if 0 ≤ (m_cmp y 0) then (0 : Int) else 1) then (wr64 (Int.tdiv x y)) else (wr64 ((wr64 (Int.tdiv x y)) - 1)))) = x.fdiv y := by
  have fb := fdiv_b hx hy0
  unfold bdd at fb hx
  have tm := Int.mul_tdiv_add_tmod x y
  by_cases hs : x < 0 ↔ y < 0
  · have e := fdiv_same hy0 hs
    rw [e] at fb ⊢
    have w : wr64 (x.tdiv y) = x.tdiv y := wr64_id (by unfold r64; omega)
    rw [w]
    by_cases a : m_cmp (x.tmod y) 0 = 0
    · rw [if_pos a]
    · rw [if_neg a, if_pos]
      by_cases c : 0 ≤ x
      · rw [if_pos (cmp_g2.mpr c), if_pos (cmp_g2.mpr (by omega))]
      · rw [if_neg (fun w => c (cmp_g2.mp w)), if_neg (fun w => by have := cmp_g2.mp w; omega)]
  · have e := fdiv_diff hy0 hs
    have tb := tdiv_diff hy0 hs ⟨by omega, by omega⟩
    have w : wr64 (x.tdiv y) = x.tdiv y := wr64_id (by unfold r64; omega)
    rw [w, e]
    by_cases a : m_cmp (x.tmod y) 0 = 0
    · rw [if_pos a]
      have a0 := cmp_eq.mp a
      rw [a0, Int.add_zero, Int.mul_comm] at tm
      rw [if_pos tm]
    · rw [if_neg a]
      have a0 : ¬ x.tmod y = 0 := fun w => a (cmp_eq.mpr w)
      have tn : ¬ x.tdiv y * y = x := fun w => by rw [Int.mul_comm] at w; omega
      rw [if_neg tn, if_neg]
      · exact wr64_id (by unfold r64; omega)
      · by_cases c : 0 ≤ x
        · rw [if_pos (cmp_g2.mpr c), if_neg (fun w => by have := cmp_g2.mp w; omega)]; decide
        · rw [if_neg (fun w => c (cmp_g2.mp w)), if_pos (cmp_g2.mpr (by omega))]; decide
theorem rco_2 {op : Int} (h8 : 8 ≤ op) (h18 : op ≤ 18) : rco (op, 0) = if op < 10 then op - 3 else if op < 14 then op - 9 else op - 7 := by
  have e : rco (op, 0) = if op < 6 then 40 + op else if op < 8 then 54 + op else if op < 10 then op - 3 else if op < 14 then op - 9 else if op < 20 then op - 7 else if op = 20 then 1000 + 0 else 13 := rfl
  rw [e, if_neg (by omega), if_neg (by omega)]
  by_cases a : op < 10
  · rw [if_pos a, if_pos a]
  rw [if_neg a, if_neg a]
  by_cases c : op < 14
  · rw [if_pos c, if_pos c]
  rw [if_neg c, if_neg c, if_pos (by omega)]
theorem jpre {z : Int} (h : rE (y :: x :: s) M) (hs : (s.length : Int) ≤ 100) (hQ : ∀ M' : Mem, rnr M M' → rE (z :: s) M' → Q 0 M') : (wr32 (M 66 85 - 1) = (s.length : Int) + 1 ∧ wr32 (M 66 85 - 2) = (s.length : Int) ∧ M 124 ((s.length : Int) + 1) = y ∧ M 124 (s.length : Int) = x) ∧ ∀ M2 : Mem, M2 = mset M 66 85 (s.length : Int) → ∀ v : Int, v = z → (nX12_qPuts M2) ∧ (∀ M7 : Mem, M7 = (fmX12_qPuts M2 v) → Q 0 M7) := by
  have l1 : M 66 85 = (s.length : Int) + 1 + 1 := by rw [h.1, lenc, lenc]
  have w1 : wr32 (M 66 85 - 1) = (s.length : Int) + 1 := by rw [l1, wsu (by omega) (by omega)]; omega
  have w2 : wr32 (M 66 85 - 2) = (s.length : Int) := by rw [l1, wsu (by omega) (by omega)]; omega
  have vy : M 124 ((s.length : Int) + 1) = y := by rw [← h.2.1, lenc]
  have vx : M 124 (s.length : Int) = x := h.2.2.1
  refine ⟨⟨w1, w2, vy, vx⟩, fun M2 h2 v hv => ?_⟩
  have r2 : rE s M2 := by
    rw [h2]
    exact ⟨mset_e, sSt_c s (fun i a c => mset_o (by decide)) h.2.2.2⟩
  have f2 : rnr M M2 := by rw [h2]; exact ⟨fun q a _ => mset_p a, fun j a => mset_k a⟩
  have p := puts_r (v := v) r2 hs
  refine ⟨p.1, fun M7 h7 => ?_⟩
  rw [h7]
  refine hQ _ (rnr_t f2 p.2.2) ?_
  rw [← hv]
  exact p.2.1
theorem f2e_8 : f2q 8 x y = if y < x then y else x := rfl
theorem jns_8 (hx : bdd x) (hy : bdd y) (hl : ((8 : Int) = 17 ∨ (8 : Int) = 18) → (x = 0 ∨ x = 1) ∧ (y = 0 ∨ y = 1)) (h : rE (y :: x :: s) M) (hs : (s.length : Int) ≤ 100) (hQ : ∀ M' : Mem, rnr M M' → rE (f2q 8 x y :: s) M' → Q 0 M') : PX12_qJoins 5 M Q := by
  have mb := mul_b hx hy
  have hx' := hx
  have hy' := hy
  unfold bdd at hx' hy'
  have J := jpre h hs hQ
  unfold PX12_qJoins
  rw [J.1.1, J.1.2.1, J.1.2.2.1, J.1.2.2.2]
  refine ⟨by omega, by omega, by omega, by omega, fun M2 h2 => ?_⟩
  have go := J.2 M2 h2
  rw [f2e_8] at go
  clear J hQ h h2
  have G := go (if 0 ≤ (m_cmp x y) then y else x) (by
      by_cases a : y < x
      · rw [if_pos (cmp_g2.mpr (by omega)), if_pos a]
      · rw [if_neg a]
        by_cases c : 0 ≤ m_cmp x y
        · rw [if_pos c]; have := cmp_g2.mp c; omega
        · rw [if_neg c])
  exact ⟨fun z => absurd z (show ¬ (5 : Int) = 1 by decide), fun _ => ⟨fun z => absurd z (show ¬ (5 : Int) = 2 by decide), fun _ => ⟨fun z => absurd z (show ¬ (5 : Int) = 3 by decide), fun _ => ⟨fun z => absurd z (show ¬ (5 : Int) = 4 by decide), fun _ => ⟨fun _ => G, fun z => absurd rfl z⟩⟩⟩⟩⟩
theorem f2e_9 : f2q 9 x y = if x < y then y else x := rfl
theorem jns_9 (hx : bdd x) (hy : bdd y) (hl : ((9 : Int) = 17 ∨ (9 : Int) = 18) → (x = 0 ∨ x = 1) ∧ (y = 0 ∨ y = 1)) (h : rE (y :: x :: s) M) (hs : (s.length : Int) ≤ 100) (hQ : ∀ M' : Mem, rnr M M' → rE (f2q 9 x y :: s) M' → Q 0 M') : PX12_qJoins 6 M Q := by
  have mb := mul_b hx hy
  have hx' := hx
  have hy' := hy
  unfold bdd at hx' hy'
  have J := jpre h hs hQ
  unfold PX12_qJoins
  rw [J.1.1, J.1.2.1, J.1.2.2.1, J.1.2.2.2]
  refine ⟨by omega, by omega, by omega, by omega, fun M2 h2 => ?_⟩
  have go := J.2 M2 h2
  rw [f2e_9] at go
  clear J hQ h h2
  have G := go (if (m_cmp x y) ≤ 0 then y else x) (by
      by_cases a : x < y
      · rw [if_pos (cmp_l2.mpr (by omega)), if_pos a]
      · rw [if_neg a]
        by_cases c : m_cmp x y ≤ 0
        · rw [if_pos c]; have := cmp_l2.mp c; omega
        · rw [if_neg c])
  exact ⟨fun z => absurd z (show ¬ (6 : Int) = 1 by decide), fun _ => ⟨fun z => absurd z (show ¬ (6 : Int) = 2 by decide), fun _ => ⟨fun z => absurd z (show ¬ (6 : Int) = 3 by decide), fun _ => ⟨fun z => absurd z (show ¬ (6 : Int) = 4 by decide), fun _ => ⟨fun z => absurd z (show ¬ (6 : Int) = 5 by decide), fun _ => ⟨fun _ => G, fun z => absurd rfl z⟩⟩⟩⟩⟩⟩
theorem f2e_10 : f2q 10 x y = clp (x + y) := by
  unfold f2q
  rw [if_neg (show ¬ (10 : Int) = 8 by decide), if_neg (show ¬ (10 : Int) = 9 by decide), if_pos (show (10 : Int) = 10 from rfl)]
theorem jns_10 (hx : bdd x) (hy : bdd y) (hl : ((10 : Int) = 17 ∨ (10 : Int) = 18) → (x = 0 ∨ x = 1) ∧ (y = 0 ∨ y = 1)) (h : rE (y :: x :: s) M) (hs : (s.length : Int) ≤ 100) (hQ : ∀ M' : Mem, rnr M M' → rE (f2q 10 x y :: s) M' → Q 0 M') : PX12_qJoins 1 M Q := by
  have mb := mul_b hx hy
  have hx' := hx
  have hy' := hy
  unfold bdd at hx' hy'
  have J := jpre h hs hQ
  unfold PX12_qJoins
  rw [J.1.1, J.1.2.1, J.1.2.2.1, J.1.2.2.2]
  refine ⟨by omega, by omega, by omega, by omega, fun M2 h2 => ?_⟩
  have go := J.2 M2 h2
  rw [f2e_10] at go
  clear J hQ h h2
  have G := go (fX12_qClip (wr64 (x + y))) (by
      exact clp_q (by omega))
  exact ⟨fun _ => G, fun z => absurd rfl z⟩
theorem f2e_11 : f2q 11 x y = clp (x - y) := by
  unfold f2q
  rw [if_neg (show ¬ (11 : Int) = 8 by decide), if_neg (show ¬ (11 : Int) = 9 by decide), if_neg (show ¬ (11 : Int) = 10 by decide), if_pos (show (11 : Int) = 11 from rfl)]
theorem jns_11 (hx : bdd x) (hy : bdd y) (hl : ((11 : Int) = 17 ∨ (11 : Int) = 18) → (x = 0 ∨ x = 1) ∧ (y = 0 ∨ y = 1)) (h : rE (y :: x :: s) M) (hs : (s.length : Int) ≤ 100) (hQ : ∀ M' : Mem, rnr M M' → rE (f2q 11 x y :: s) M' → Q 0 M') : PX12_qJoins 2 M Q := by
  have mb := mul_b hx hy
  have hx' := hx
  have hy' := hy
  unfold bdd at hx' hy'
  have J := jpre h hs hQ
  unfold PX12_qJoins
  rw [J.1.1, J.1.2.1, J.1.2.2.1, J.1.2.2.2]
  refine ⟨by omega, by omega, by omega, by omega, fun M2 h2 => ?_⟩
  have go := J.2 M2 h2
  rw [f2e_11] at go
  clear J hQ h h2
  have G := go (fX12_qClip (wr64 (x - y))) (by
      exact clp_q (by omega))
  exact ⟨fun z => absurd z (show ¬ (2 : Int) = 1 by decide), fun _ => ⟨fun _ => G, fun z => absurd rfl z⟩⟩
theorem f2e_12 : f2q 12 x y = clp (x * y) := by
  unfold f2q
  rw [if_neg (show ¬ (12 : Int) = 8 by decide), if_neg (show ¬ (12 : Int) = 9 by decide), if_neg (show ¬ (12 : Int) = 10 by decide), if_neg (show ¬ (12 : Int) = 11 by decide), if_pos (show (12 : Int) = 12 from rfl)]
theorem jns_12 (hx : bdd x) (hy : bdd y) (hl : ((12 : Int) = 17 ∨ (12 : Int) = 18) → (x = 0 ∨ x = 1) ∧ (y = 0 ∨ y = 1)) (h : rE (y :: x :: s) M) (hs : (s.length : Int) ≤ 100) (hQ : ∀ M' : Mem, rnr M M' → rE (f2q 12 x y :: s) M' → Q 0 M') : PX12_qJoins 3 M Q := by
  have mb := mul_b hx hy
  have hx' := hx
  have hy' := hy
  unfold bdd at hx' hy'
  have J := jpre h hs hQ
  unfold PX12_qJoins
  rw [J.1.1, J.1.2.1, J.1.2.2.1, J.1.2.2.2]
  refine ⟨by omega, by omega, by omega, by omega, fun M2 h2 => ?_⟩
  have go := J.2 M2 h2
  rw [f2e_12] at go
  clear J hQ h h2
  have G := go (fX12_qClip (wr64 (x * y))) (by
      exact clp_q (by omega))
  exact ⟨fun z => absurd z (show ¬ (3 : Int) = 1 by decide), fun _ => ⟨fun z => absurd z (show ¬ (3 : Int) = 2 by decide), fun _ => ⟨fun _ => G, fun z => absurd rfl z⟩⟩⟩
theorem f2e_13 : f2q 13 x y = if y = 0 then 0 else x.fdiv y := rfl
theorem jns_13 (hx : bdd x) (hy : bdd y) (hl : ((13 : Int) = 17 ∨ (13 : Int) = 18) → (x = 0 ∨ x = 1) ∧ (y = 0 ∨ y = 1)) (h : rE (y :: x :: s) M) (hs : (s.length : Int) ≤ 100) (hQ : ∀ M' : Mem, rnr M M' → rE (f2q 13 x y :: s) M' → Q 0 M') : PX12_qJoins 4 M Q := by
  have mb := mul_b hx hy
  have hx' := hx
  have hy' := hy
  unfold bdd at hx' hy'
  have J := jpre h hs hQ
  unfold PX12_qJoins
  rw [J.1.1, J.1.2.1, J.1.2.2.1, J.1.2.2.2]
  refine ⟨by omega, by omega, by omega, by omega, fun M2 h2 => ?_⟩
  have go := J.2 M2 h2
  rw [f2e_13] at go
  clear J hQ h h2
  have G : PX12_qFloor x y M2 (fun a19 M20 => (nX12_qPuts M20) ∧ (∀ M24 : Mem, M24 = (fmX12_qPuts M20 a19) → Q 0 M24)) := by
    refine ⟨fun z => ?_, fun z => ?_⟩
    · have y0 := cmp_eq.mp z
      exact go 0 (by rw [if_pos y0])
    · have y0 : ¬ y = 0 := fun w => z (cmp_eq.mpr w)
      refine ⟨y0, y0, ?_⟩
      rw [fl_q hx y0]
      exact go _ (by rw [if_neg y0])
  exact ⟨fun z => absurd z (show ¬ (4 : Int) = 1 by decide), fun _ => ⟨fun z => absurd z (show ¬ (4 : Int) = 2 by decide), fun _ => ⟨fun z => absurd z (show ¬ (4 : Int) = 3 by decide), fun _ => ⟨fun _ => G, fun z => absurd rfl z⟩⟩⟩⟩
theorem f2e_14 : f2q 14 x y = if y ≤ x then 0 else 1 := rfl
theorem jns_14 (hx : bdd x) (hy : bdd y) (hl : ((14 : Int) = 17 ∨ (14 : Int) = 18) → (x = 0 ∨ x = 1) ∧ (y = 0 ∨ y = 1)) (h : rE (y :: x :: s) M) (hs : (s.length : Int) ≤ 100) (hQ : ∀ M' : Mem, rnr M M' → rE (f2q 14 x y :: s) M' → Q 0 M') : PX12_qJoins 7 M Q := by
  have mb := mul_b hx hy
  have hx' := hx
  have hy' := hy
  unfold bdd at hx' hy'
  have J := jpre h hs hQ
  unfold PX12_qJoins
  rw [J.1.1, J.1.2.1, J.1.2.2.1, J.1.2.2.2]
  refine ⟨by omega, by omega, by omega, by omega, fun M2 h2 => ?_⟩
  have go := J.2 M2 h2
  rw [f2e_14] at go
  clear J hQ h h2
  have G := go (if 0 ≤ (m_cmp x y) then (0 : Int) else 1) (by
      by_cases a : y ≤ x
      · rw [if_pos (cmp_g2.mpr a), if_pos a]
      · rw [if_neg (fun w => a (cmp_g2.mp w)), if_neg a])
  exact ⟨fun z => absurd z (show ¬ (7 : Int) = 1 by decide), fun _ => ⟨fun z => absurd z (show ¬ (7 : Int) = 2 by decide), fun _ => ⟨fun z => absurd z (show ¬ (7 : Int) = 3 by decide), fun _ => ⟨fun z => absurd z (show ¬ (7 : Int) = 4 by decide), fun _ => ⟨fun z => absurd z (show ¬ (7 : Int) = 5 by decide), fun _ => ⟨fun z => absurd z (show ¬ (7 : Int) = 6 by decide), fun _ => ⟨fun _ => G, fun z => absurd rfl z⟩⟩⟩⟩⟩⟩⟩
theorem f2e_15 : f2q 15 x y = if x ≤ y then 0 else 1 := rfl
theorem jns_15 (hx : bdd x) (hy : bdd y) (hl : ((15 : Int) = 17 ∨ (15 : Int) = 18) → (x = 0 ∨ x = 1) ∧ (y = 0 ∨ y = 1)) (h : rE (y :: x :: s) M) (hs : (s.length : Int) ≤ 100) (hQ : ∀ M' : Mem, rnr M M' → rE (f2q 15 x y :: s) M' → Q 0 M') : PX12_qJoins 8 M Q := by
  have mb := mul_b hx hy
  have hx' := hx
  have hy' := hy
  unfold bdd at hx' hy'
  have J := jpre h hs hQ
  unfold PX12_qJoins
  rw [J.1.1, J.1.2.1, J.1.2.2.1, J.1.2.2.2]
  refine ⟨by omega, by omega, by omega, by omega, fun M2 h2 => ?_⟩
  have go := J.2 M2 h2
  rw [f2e_15] at go
  clear J hQ h h2
  have G := go (if (m_cmp x y) ≤ 0 then (0 : Int) else 1) (by
      by_cases a : x ≤ y
      · rw [if_pos (cmp_l2.mpr a), if_pos a]
      · rw [if_neg (fun w => a (cmp_l2.mp w)), if_neg a])
  exact ⟨fun z => absurd z (show ¬ (8 : Int) = 1 by decide), fun _ => ⟨fun z => absurd z (show ¬ (8 : Int) = 2 by decide), fun _ => ⟨fun z => absurd z (show ¬ (8 : Int) = 3 by decide), fun _ => ⟨fun z => absurd z (show ¬ (8 : Int) = 4 by decide), fun _ => ⟨fun z => absurd z (show ¬ (8 : Int) = 5 by decide), fun _ => ⟨fun z => absurd z (show ¬ (8 : Int) = 6 by decide), fun _ => ⟨fun z => absurd z (show ¬ (8 : Int) = 7 by decide), fun _ => ⟨fun _ => G, fun z => absurd rfl z⟩⟩⟩⟩⟩⟩⟩⟩
theorem f2e_16 : f2q 16 x y = if x = y then 1 else 0 := rfl
theorem jns_16 (hx : bdd x) (hy : bdd y) (hl : ((16 : Int) = 17 ∨ (16 : Int) = 18) → (x = 0 ∨ x = 1) ∧ (y = 0 ∨ y = 1)) (h : rE (y :: x :: s) M) (hs : (s.length : Int) ≤ 100) (hQ : ∀ M' : Mem, rnr M M' → rE (f2q 16 x y :: s) M' → Q 0 M') : PX12_qJoins 9 M Q := by
  have mb := mul_b hx hy
  have hx' := hx
  have hy' := hy
  unfold bdd at hx' hy'
  have J := jpre h hs hQ
  unfold PX12_qJoins
  rw [J.1.1, J.1.2.1, J.1.2.2.1, J.1.2.2.2]
  refine ⟨by omega, by omega, by omega, by omega, fun M2 h2 => ?_⟩
  have go := J.2 M2 h2
  rw [f2e_16] at go
  clear J hQ h h2
  have G := go (if (m_cmp x y) = 0 then (1 : Int) else 0) (by
      by_cases a : x = y
      · rw [if_pos (cmp_eq.mpr a), if_pos a]
      · rw [if_neg (fun w => a (cmp_eq.mp w)), if_neg a])
  exact ⟨fun z => absurd z (show ¬ (9 : Int) = 1 by decide), fun _ => ⟨fun z => absurd z (show ¬ (9 : Int) = 2 by decide), fun _ => ⟨fun z => absurd z (show ¬ (9 : Int) = 3 by decide), fun _ => ⟨fun z => absurd z (show ¬ (9 : Int) = 4 by decide), fun _ => ⟨fun z => absurd z (show ¬ (9 : Int) = 5 by decide), fun _ => ⟨fun z => absurd z (show ¬ (9 : Int) = 6 by decide), fun _ => ⟨fun z => absurd z (show ¬ (9 : Int) = 7 by decide), fun _ => ⟨fun z => absurd z (show ¬ (9 : Int) = 8 by decide), fun _ => ⟨fun _ => G, fun z => absurd rfl z⟩⟩⟩⟩⟩⟩⟩⟩⟩
theorem f2e_17 : f2q 17 x y = x * y := rfl
theorem jns_17 (hx : bdd x) (hy : bdd y) (hl : ((17 : Int) = 17 ∨ (17 : Int) = 18) → (x = 0 ∨ x = 1) ∧ (y = 0 ∨ y = 1)) (h : rE (y :: x :: s) M) (hs : (s.length : Int) ≤ 100) (hQ : ∀ M' : Mem, rnr M M' → rE (f2q 17 x y :: s) M' → Q 0 M') : PX12_qJoins 10 M Q := by
  have mb := mul_b hx hy
  have hx' := hx
  have hy' := hy
  unfold bdd at hx' hy'
  have J := jpre h hs hQ
  unfold PX12_qJoins
  rw [J.1.1, J.1.2.1, J.1.2.2.1, J.1.2.2.2]
  refine ⟨by omega, by omega, by omega, by omega, fun M2 h2 => ?_⟩
  have go := J.2 M2 h2
  rw [f2e_17] at go
  clear J hQ h h2
  have G := go (wr64 (x * y)) (by
      exact wr64_id (by unfold r64; omega))
  exact ⟨fun z => absurd z (show ¬ (10 : Int) = 1 by decide), fun _ => ⟨fun z => absurd z (show ¬ (10 : Int) = 2 by decide), fun _ => ⟨fun z => absurd z (show ¬ (10 : Int) = 3 by decide), fun _ => ⟨fun z => absurd z (show ¬ (10 : Int) = 4 by decide), fun _ => ⟨fun z => absurd z (show ¬ (10 : Int) = 5 by decide), fun _ => ⟨fun z => absurd z (show ¬ (10 : Int) = 6 by decide), fun _ => ⟨fun z => absurd z (show ¬ (10 : Int) = 7 by decide), fun _ => ⟨fun z => absurd z (show ¬ (10 : Int) = 8 by decide), fun _ => ⟨fun z => absurd z (show ¬ (10 : Int) = 9 by decide), fun _ => ⟨fun _ => G, fun z => absurd rfl z⟩⟩⟩⟩⟩⟩⟩⟩⟩⟩
theorem f2e_18 : f2q 18 x y = if x + y = 0 then 0 else 1 := rfl
theorem jns_18 (hx : bdd x) (hy : bdd y) (hl : ((18 : Int) = 17 ∨ (18 : Int) = 18) → (x = 0 ∨ x = 1) ∧ (y = 0 ∨ y = 1)) (h : rE (y :: x :: s) M) (hs : (s.length : Int) ≤ 100) (hQ : ∀ M' : Mem, rnr M M' → rE (f2q 18 x y :: s) M' → Q 0 M') : PX12_qJoins 11 M Q := by
  have mb := mul_b hx hy
  have hx' := hx
  have hy' := hy
  unfold bdd at hx' hy'
  have J := jpre h hs hQ
  unfold PX12_qJoins
  rw [J.1.1, J.1.2.1, J.1.2.2.1, J.1.2.2.2]
  refine ⟨by omega, by omega, by omega, by omega, fun M2 h2 => ?_⟩
  have go := J.2 M2 h2
  rw [f2e_18] at go
  clear J hQ h h2
  have G := go (if (m_cmp (wr64 (x + y)) 0) ≤ 0 then (0 : Int) else 1) (by
      have hb := hl (Or.inr rfl)
      rw [wr64_id (by unfold r64; omega)]
      by_cases a : x + y = 0
      · rw [if_pos (cmp_l2.mpr (by omega)), if_pos a]
      · rw [if_neg (fun w => by have := cmp_l2.mp w; omega), if_neg a])
  exact ⟨fun z => absurd z (show ¬ (11 : Int) = 1 by decide), fun _ => ⟨fun z => absurd z (show ¬ (11 : Int) = 2 by decide), fun _ => ⟨fun z => absurd z (show ¬ (11 : Int) = 3 by decide), fun _ => ⟨fun z => absurd z (show ¬ (11 : Int) = 4 by decide), fun _ => ⟨fun z => absurd z (show ¬ (11 : Int) = 5 by decide), fun _ => ⟨fun z => absurd z (show ¬ (11 : Int) = 6 by decide), fun _ => ⟨fun z => absurd z (show ¬ (11 : Int) = 7 by decide), fun _ => ⟨fun z => absurd z (show ¬ (11 : Int) = 8 by decide), fun _ => ⟨fun z => absurd z (show ¬ (11 : Int) = 9 by decide), fun _ => ⟨fun z => absurd z (show ¬ (11 : Int) = 10 by decide), fun _ => G⟩⟩⟩⟩⟩⟩⟩⟩⟩⟩
theorem jns_r {op : Int} (h8 : 8 ≤ op) (h18 : op ≤ 18) (hx : bdd x) (hy : bdd y) (hl : op = 17 ∨ op = 18 → (x = 0 ∨ x = 1) ∧ (y = 0 ∨ y = 1)) (h : rE (y :: x :: s) M) (hs : (s.length : Int) ≤ 100) (hQ : ∀ M' : Mem, rnr M M' → rE (f2q op x y :: s) M' → Q 0 M') : PX12_qJoins (rco (op, 0)) M Q := by
  have o11 : op = 8 ∨ op = 9 ∨ op = 10 ∨ op = 11 ∨ op = 12 ∨ op = 13 ∨ op = 14 ∨ op = 15 ∨ op = 16 ∨ op = 17 ∨ op = 18 := by omega
  rcases o11 with rfl | rfl | rfl | rfl | rfl | rfl | rfl | rfl | rfl | rfl | rfl
  · rw [show rco (8, 0) = 5 by decide]; exact jns_8 hx hy hl h hs hQ
  · rw [show rco (9, 0) = 6 by decide]; exact jns_9 hx hy hl h hs hQ
  · rw [show rco (10, 0) = 1 by decide]; exact jns_10 hx hy hl h hs hQ
  · rw [show rco (11, 0) = 2 by decide]; exact jns_11 hx hy hl h hs hQ
  · rw [show rco (12, 0) = 3 by decide]; exact jns_12 hx hy hl h hs hQ
  · rw [show rco (13, 0) = 4 by decide]; exact jns_13 hx hy hl h hs hQ
  · rw [show rco (14, 0) = 7 by decide]; exact jns_14 hx hy hl h hs hQ
  · rw [show rco (15, 0) = 8 by decide]; exact jns_15 hx hy hl h hs hQ
  · rw [show rco (16, 0) = 9 by decide]; exact jns_16 hx hy hl h hs hQ
  · rw [show rco (17, 0) = 10 by decide]; exact jns_17 hx hy hl h hs hQ
  · rw [show rco (18, 0) = 11 by decide]; exact jns_18 hx hy hl h hs hQ
theorem qd_r (ho : Hok H) (m : rD H C M) (C0 : 0 ≤ C) (C2 : C < 512) {p : Int} (p0 : 0 ≤ p) (p1 : p < H 0 4) : fX12_qDoes M p t = doing H C p t ∧ nX12_qDoes M p t := by
  have hbd := ho.2.1
  have ic := isComing_r ho m.2.1 m.2.2 C0 C2 p0 p1
  have io := isOut_r m.1 p0 (by omega) t
  have iw := isWait_r m.1 p0 (by omega) t
  have ip := isOpn_r ho m.2.1 m.1 p0 (by omega) t
  unfold fX12_qDoes nX12_qDoes
  refine ⟨?_, fun _ => io.2, fun _ _ => iw.2, fun _ _ _ => ip.2⟩
  rw [ic, io.1, iw.1, ip.1]
  rcases doing_b (H := H) (C := C) (p := p) (t := t) with ⟨h1, h2⟩ | ⟨h1, h2⟩
  · rw [h1, h2]; rfl
  · rw [if_pos h1, if_neg (by decide)]
    have dg := doing_g ho (t := t) h1
    have dw := doing_w (H := H) (t := t) h1
    have dp := doing_o (H := H) (t := t) h1
    by_cases a : gout H C p ≠ -1 ∧ gout H C p ≤ t
    · rw [if_pos a, if_neg (by decide)]; exact (dg.mpr a).symm
    rw [if_neg a, if_pos rfl]
    have n4 : doing H C p t ≠ 4 := fun z => a (dg.mp z)
    by_cases c : oo H C p = -1 ∨ t < oo H C p
    · rw [if_pos c, if_neg (by decide)]; exact (dw.mpr c).symm
    rw [if_neg c, if_pos rfl]
    have n1 : doing H C p t ≠ 1 := fun z => c (dw.mp z)
    by_cases d : oo H C p ≠ -1 ∧ oo H C p ≤ t ∧ t < oo H C p + H 0 6
    · rw [if_pos d, if_neg (by decide)]; exact (dp.mpr d).symm
    · rw [if_neg d, if_pos rfl]
      have n2 : doing H C p t ≠ 2 := fun z => d (dp.mp z)
      omega
theorem qg_lp (ho : Hok H) (m : rD H C M) (C0 : 0 ≤ C) (C2 : C < 512) (w : Int) : ∀ (k n : Nat), (n : Int) + k = H 0 4 → lX12_qDoing_5 k w t (cnt (fun p => decide (doing H C p t = w)) n) n M = many H C w t ∧ nlX12_qDoing_5 k w t (cnt (fun p => decide (doing H C p t = w)) n) n M := by
  have hbd := ho.2.1
  intro k
  induction k with
  | zero =>
    intro n hn
    refine ⟨?_, trivial⟩
    show cnt _ n = many H C w t
    unfold many
    rw [show (H 0 4).toNat = n by omega]
  | succ k ih =>
    intro n hn
    have q := qd_r (t := t) ho m C0 C2 (p := n) (by omega) (by omega)
    have cb := cnt_b (fun p => decide (doing H C p t = w)) n
    have e1 : (if (fX12_qDoes M n t) = w then (wr32 (cnt (fun p => decide (doing H C p t = w)) n + 1)) else cnt (fun p => decide (doing H C p t = w)) n) = cnt (fun p => decide (doing H C p t = w)) (n + 1) := by
      rw [q.1]
      show _ = cnt (fun p => decide (doing H C p t = w)) n + if decide (doing H C n t = w) then 1 else 0
      by_cases a : doing H C n t = w
      · rw [if_pos a, if_pos (decide_eq_true a), wad (by omega) (by omega)]
      · rw [if_neg a, if_neg (by rw [decide_eq_false a]; decide)]; omega
    have i1 := ih (n + 1) (by omega)
    have e2 : ((n : Int) + 1) = ((n + 1 : Nat) : Int) := by omega
    constructor
    · show lX12_qDoing_5 k w t (if (fX12_qDoes M n t) = w then (wr32 (cnt (fun p => decide (doing H C p t = w)) n + 1)) else cnt (fun p => decide (doing H C p t = w)) n) ((n : Int) + 1) M = _
      rw [e1, e2]; exact i1.1
    · refine ⟨q.2, ?_⟩
      rw [e1, e2]; exact i1.2
theorem qg_r (ho : Hok H) (m : rD H C M) (C0 : 0 ≤ C) (C2 : C < 512) (w : Int) : fX12_qDoing M w t = many H C w t ∧ nX12_qDoing M w t := by
  have hbd := ho.2.1
  have l := qg_lp (t := t) ho m C0 C2 w (H 0 4).toNat 0 (by omega)
  unfold fX12_qDoing nX12_qDoing
  rw [pMany m.2.1, Int.sub_zero]
  exact l
theorem pl_q (ho : Hok H) (m : rD H C M) (C0 : 0 ≤ C) (C2 : C < 512) {op : Int} (h0 : 0 ≤ op) (h5 : op ≤ 5) : fX12_qPartOf M op t = vPl H C t op ∧ nX12_qPartOf M op t := by
  have q := fun w => qg_r (t := t) ho m C0 C2 w
  unfold fX12_qPartOf vPl nX12_qPartOf
  rw [(q 1).1, (q 2).1, (q 3).1, (q 4).1, m.1.2.2.2.1]
  exact ⟨rfl, fun _ _ => (q 2).2, fun _ _ _ => (q 1).2, fun _ _ _ _ => (q 3).2, fun _ _ _ _ _ => (q 4).2⟩
theorem of_r (ho : Hok H) (m : rD H C M) (C0 : 0 ≤ C) (C2 : C < 512) (t0 : 0 ≤ t ∧ t ≤ 200) (hx : bdd x) : (fX12_qOf M 0 x t = vAt H C t x ∧ nX12_qOf M 0 x t) ∧ (fX12_qOf M 1 x t = vDo H C t x ∧ nX12_qOf M 1 x t) := by
  have hbd := ho.2.1
  unfold bdd at hx
  have ex : wr32 x = x := wr32_id (by unfold r32; omega)
  have q0 : fX12_qOf M 0 x t = (if (fX12_isIn x 0 (wr32 ((fX12_peopleMany M) - 1))) = 0 then (99 : Int) else (if (fX12_qDoes M (wr32 x) t) ≤ 0 then (99 : Int) else (if 4 ≤ (fX12_qDoes M (wr32 x) t) then (99 : Int) else (fX12_whereIn M (wr32 x) t)))) := rfl
  have q1 : fX12_qOf M 1 x t = (if (fX12_isIn x 0 (wr32 ((fX12_peopleMany M) - 1))) = 0 then (0 : Int) else (fX12_qDoes M (wr32 x) t)) := rfl
  have ep : fX12_isIn x 0 (wr32 ((fX12_peopleMany M) - 1)) = if 0 ≤ x ∧ x ≤ H 0 4 - 1 then 1 else 0 := by
    rw [pMany m.2.1, wsu (by omega) (by omega), isIn_eq]
  rw [q0, q1]
  unfold nX12_qOf vAt vDo
  rw [ep, ex]
  by_cases a : 0 ≤ x ∧ x ≤ H 0 4 - 1
  · have q := qd_r (t := t) ho m C0 C2 a.1 (by omega)
    have wn : nX12_whereIn x t := by
      unfold nX12_whereIn
      rw [wmu (a := 9) (by omega) (by omega), wad (by omega) (by omega)]
      omega
    have x4 : x < H 0 4 := by omega
    rw [if_pos a]
    have n10 : ¬ (1 : Int) = 0 := by decide
    refine ⟨⟨?_, fun _ _ => q.2, fun _ _ _ => q.2, fun _ _ _ _ => wn, fun z => absurd rfl z⟩, ?_, fun z => absurd z n10, fun z => absurd z n10, fun z => absurd z n10, fun _ _ => q.2⟩
    · rw [if_neg n10, q.1]
      rcases doing_b (H := H) (C := C) (p := x) (t := t) with ⟨h1, h2⟩ | ⟨h1, h2⟩
      · rw [if_pos (show doing H C x t ≤ 0 by omega), if_neg (show ¬ (0 ≤ x ∧ x < H 0 4 ∧ bt C x = true) from fun w => by rw [h1] at w; cases w.2.2)]
      · rw [if_neg (show ¬ doing H C x t ≤ 0 by omega), if_pos (show 0 ≤ x ∧ x < H 0 4 ∧ bt C x = true from ⟨a.1, x4, h1⟩)]
        by_cases c : doing H C x t = 4
        · rw [if_pos (show 4 ≤ doing H C x t by omega), if_pos c]
        · rw [if_neg (show ¬ 4 ≤ doing H C x t by omega), if_neg c]
          have dg := doing_g ho (t := t) h1
          have r6 := m.1.2.2.2.2.2 t.toNat (by omega) x a.1 x4 h1
          have et : ((t.toNat : Nat) : Int) = t := by omega
          rw [et] at r6
          unfold fX12_whereIn
          rw [wmu (a := 9) (by omega) (by omega), wad (by omega) (by omega), r6]
          have rp := rps_pos (H := H) (C := C) (p := x) (t := t.toNat) (by rw [et]; exact fun w => c (dg.mpr w))
          rw [rp, et]
    · rw [if_neg n10, q.1]
      rcases doing_b (H := H) (C := C) (p := x) (t := t) with ⟨h1, h2⟩ | ⟨h1, h2⟩
      · rw [h2, if_neg (show ¬ (0 ≤ x ∧ x < H 0 4 ∧ bt C x = true) from fun w => by rw [h1] at w; cases w.2.2)]
      · rw [if_pos (show 0 ≤ x ∧ x < H 0 4 ∧ bt C x = true from ⟨a.1, x4, h1⟩)]
  · have na : ¬ (0 ≤ x ∧ x < H 0 4 ∧ bt C x = true) := fun w => a ⟨w.1, by omega⟩
    rw [if_neg a, if_neg na, if_neg na]
    exact ⟨⟨rfl, fun _ z => absurd rfl z, fun _ z => absurd rfl z, fun _ z => absurd rfl z, fun _ z => absurd rfl z⟩, rfl, fun _ z => absurd rfl z, fun _ z => absurd rfl z, fun _ z => absurd rfl z, fun _ z => absurd rfl z⟩
theorem told7 (ho : Hok H) (C0 : 0 ≤ C) (C2 : C < 512) (t0 : 0 ≤ t ∧ t ≤ 200) : ∀ (r : Cds) (k : Nat) (i : Int) (s : List Int) (M : Mem), r.length < k → 0 ≤ i → i + r.length ≤ 1600 → cAt rco 122 (M 66 79) M r i → rD H C M → rE s M → okE H C t r s → (∀ M' : Mem, rnr M M' → rE (evE H C t r s) M' → K M') → PX12_qTold_7 t K Q k i M := by
  intro r
  induction r with
  | nil =>
    intro k i s M hk i0 hi hc m h ok hK
    obtain ⟨k, rfl⟩ : ∃ j, k = j + 1 := ⟨k - 1, by omega⟩
    have e : M 66 79 = i := hc
    exact ⟨fun _ => hK M (rnr_r M) h, fun z => absurd (by rw [e]; exact Int.le_refl _) z⟩
  | cons c r ih =>
    intro k i s M hk i0 hi hc m h ok hK
    obtain ⟨k, rfl⟩ : ∃ j, k = j + 1 := ⟨k - 1, by omega⟩
    have hk' : r.length + 1 < k + 1 := hk
    have hi' : i + ((r.length + 1 : Nat) : Int) ≤ 1600 := hi
    have en := cAt_n _ _ hc
    have en' : M 66 79 = i + ((r.length + 1 : Nat) : Int) := en
    have e7 : M 122 i = rco c := hc.1
    have o1 := ok.1
    have len := o1.2.2.2.2.2.2
    have w1 : wr32 (i + 1) = i + 1 := wad (by omega) (by omega)
    have nx : ∀ N : Mem, rnr M N → rE (ev1 H C t c s) N → PX12_qTold_7 t K Q k (wr32 (i + 1)) N := by
      intro N f e
      rw [w1]
      refine ih k (i + 1) _ N (by omega) (by omega) (by omega) ?_ (rD_r f m) e ok.2 (fun M' f' e' => hK M' (rnr_t f f') e')
      rw [f.2 79 (by decide)]
      exact cAt_f (f.1 122 (by decide) (by decide)) r (i + 1) hc.2
    have bd0 := o1.1
    have c2b := o1.2.1
    have er : rco c = if c.1 < 6 then 40 + c.1 else if c.1 < 8 then 54 + c.1 else if c.1 < 10 then c.1 - 3 else if c.1 < 14 then c.1 - 9 else if c.1 < 20 then c.1 - 7 else if c.1 = 20 then 1000 + c.2 else 13 := rfl
    refine ⟨fun z => by omega, fun _ => ⟨by omega, by omega, ?_⟩⟩
    rw [e7]
    by_cases z20 : 20 ≤ c.1
    · have e1 : ev1 H C t c s = c.2 :: s := if_pos z20
      have lp := o1.2.2.2.1 (Or.inr z20)
      rw [er, if_neg (by omega), if_neg (by omega), if_neg (by omega), if_neg (by omega), if_neg (by omega)]
      by_cases y : c.1 = 20
      · rw [if_pos y]
        refine ⟨fun w => by omega, fun _ => ?_⟩
        have p := puts_r (v := c.2) h (by omega)
        refine ⟨p.1, fun M30 h30 => ?_⟩
        rw [show wr32 (1000 + c.2 - 1000) = c.2 by rw [wsu (by omega) (by omega)]; omega] at h30
        rw [← h30, ← e1] at p
        exact nx M30 p.2.2 p.2.1
      · rw [if_neg y]
        refine ⟨fun _ => ⟨fun _ => ⟨fun _ => ⟨fun _ => ?_, fun w => absurd rfl w⟩, fun w => absurd (by decide) w⟩, fun w => absurd (by decide) w⟩, fun w => absurd (by decide) w⟩
        have p := puts_r (v := 1) h (by omega)
        refine ⟨p.1, fun M14 h14 => ?_⟩
        rw [o1.2.2.1 (by omega)] at e1
        rw [← h14, ← e1] at p
        exact nx M14 p.2.2 p.2.1
    by_cases z5 : c.1 ≤ 5
    · have e1 : ev1 H C t c s = vPl H C t c.1 :: s := by
        unfold ev1
        rw [if_neg z20, if_pos z5]
      have lp := o1.2.2.2.1 (Or.inl z5)
      rw [er, if_pos (by omega)]
      have ew : wr32 (40 + c.1 - 40) = c.1 := by rw [wsu (by omega) (by omega)]; omega
      rw [ew]
      have q := pl_q (t := t) ho m C0 C2 bd0.1 z5
      refine ⟨fun _ => ⟨fun _ => ⟨fun w => by omega, fun _ => ⟨q.2, fun a17 h17 => ?_⟩⟩, fun w => by omega⟩, fun w => by omega⟩
      rw [q.1] at h17
      have vb := vPl_b (C := C) ho t0 c.1
      have p := puts_r (v := fX12_qClip a17) h (by omega)
      refine ⟨p.1, fun M21 h21 => ?_⟩
      rw [← h21, h17, clp_i ⟨by omega, by omega⟩, ← e1] at p
      exact nx M21 p.2.2 p.2.1
    by_cases z3 : c.1 = 6 ∨ c.1 = 7 ∨ c.1 = 19
    · obtain ⟨x, r', es, hx, hb⟩ := o1.2.2.2.2.1 z3
      have e1 : ev1 H C t c s = un1 H C t c.1 x :: r' := by
        unfold ev1
        rw [if_neg z20, if_neg z5, if_pos z3, es]
        rfl
      rw [es] at h len
      have len' : r'.length + 1 ≤ 64 := len
      by_cases z19 : c.1 = 19
      · rw [er, if_neg (by omega), if_neg (by omega), if_neg (by omega), if_neg (by omega), if_pos (by omega), show c.1 - 7 = 12 by omega]
        refine ⟨fun _ => ⟨fun _ => ⟨fun _ => ⟨fun w => absurd w (by decide), fun _ => ⟨fun _ => ?_, fun w => absurd rfl w⟩⟩, fun w => absurd (by decide) w⟩, fun w => absurd (by decide) w⟩, fun w => absurd (by decide) w⟩
        have tp := top_r (v := wr64 (1 - x)) h (by omega)
        rw [tp.1, tp.2.1]
        refine ⟨by omega, by omega, by omega, by omega, fun M11 h11 => ?_⟩
        have eu : wr64 (1 - x) = un1 H C t c.1 x := by
          unfold un1
          rw [if_neg (by omega), if_neg (by omega)]
          rcases hb z19 with rfl | rfl <;> rfl
        rw [← h11, eu, ← e1] at tp
        exact nx M11 tp.2.2.2 tp.2.2.1
      · have ofr := of_r ho m C0 C2 t0 hx
        rw [er, if_neg (by omega), if_pos (by omega)]
        have ew : wr32 (54 + c.1 - 60) = c.1 - 6 := by rw [wsu (by omega) (by omega)]; omega
        rw [ew]
        have tp0 := top_r (v := 0) h (by omega)
        rw [tp0.1, tp0.2.1]
        have oo' : fX12_qOf M (c.1 - 6) x t = un1 H C t c.1 x ∧ nX12_qOf M (c.1 - 6) x t := by
          unfold un1
          rcases z3 with z | z | z
          · rw [z, if_pos (show (6 : Int) = 6 from rfl)]; exact ofr.1
          · rw [z, if_neg (show ¬ (7 : Int) = 6 by decide), if_pos (show (7 : Int) = 7 from rfl)]; exact ofr.2
          · exact absurd z z19
        refine ⟨fun _ => ⟨fun w => by omega, fun _ => ⟨by omega, by omega, oo'.2, fun a24 h24 => ⟨by omega, by omega, fun M27 h27 => ?_⟩⟩⟩, fun w => by omega⟩
        rw [oo'.1] at h24
        have ub : bdd (un1 H C t c.1 x) := by
          unfold un1
          by_cases z : c.1 = 6
          · rw [if_pos z]; have := vAt_b (C := C) (t := t) ho x; exact ⟨by omega, by omega⟩
          rw [if_neg z, if_pos (by omega)]
          have := vDo_b (H := H) (C := C) (t := t) x; exact ⟨by omega, by omega⟩
        have tp := top_r (v := fX12_qClip a24) h (by omega)
        rw [← h27, h24, clp_i ub, ← e1] at tp
        exact nx M27 tp.2.2.2 tp.2.2.1
    · obtain ⟨x, y, r', es, hx, hy, hb⟩ := o1.2.2.2.2.2.1 (by omega) (by omega)
      have e1 : ev1 H C t c s = f2q c.1 x y :: r' := by
        unfold ev1
        rw [if_neg z20, if_neg z5, if_neg z3, es]
        rfl
      rw [es] at h len
      have len' : r'.length + 1 + 1 ≤ 64 := len
      have er2 : rco c = rco (c.1, 0) := by
        have e0 : rco (c.1, 0) = if c.1 < 6 then 40 + c.1 else if c.1 < 8 then 54 + c.1 else if c.1 < 10 then c.1 - 3 else if c.1 < 14 then c.1 - 9 else if c.1 < 20 then c.1 - 7 else if c.1 = 20 then 1000 + 0 else 13 := rfl
        rw [er, e0]
        rw [if_neg (show ¬ c.1 = 20 by omega), if_neg (show ¬ c.1 = 20 by omega)]
      have r2 := rco_2 (op := c.1) (by omega) (by omega)
      have rb : 1 ≤ rco (c.1, 0) ∧ rco (c.1, 0) ≤ 11 := by
        rw [r2]
        by_cases a : c.1 < 10
        · rw [if_pos a]; omega
        rw [if_neg a]
        by_cases d : c.1 < 14
        · rw [if_pos d]; omega
        · rw [if_neg d]; omega
      rw [er2]
      refine ⟨fun _ => ⟨fun _ => ⟨fun _ => ⟨fun w => by omega, fun _ => ⟨fun w => by omega, fun _ => ?_⟩⟩, fun w => by omega⟩, fun w => by omega⟩, fun w => by omega⟩
      exact jns_r (by omega) (by omega) hx hy hb h (by omega) (fun M' f e => nx M' f (by rw [e1]; exact e))
theorem told_r {tst : Bool} {hh : Int} {c : Cds} (ho : Hok H) (C0 : 0 ≤ C) (C2 : C < 512) (t0 : 0 ≤ t ∧ t ≤ 200) (m : rD H C M) (hc : cR c M) (hl : (c.length : Int) ≤ 1600) (g : good H C t tst hh c) (h64 : hh ≤ 64) (hQ : ∀ M' : Mem, rnr M M' → Q (qv H C c t) M') : PX12_qTold t M Q := by
  intro M2 h2
  have gv := good_v g h64
  have f2 : rnr M M2 := by rw [h2]; exact ⟨fun q a _ => mset_p a, fun j a => mset_k a⟩
  have e2 : rE [] M2 := by rw [h2]; exact ⟨mset_e, trivial⟩
  refine ⟨c.length + 1, told7 ho C0 C2 t0 c (c.length + 1) 0 [] M2 (Nat.lt_succ_self _) (Int.le_refl _) (by omega) ?_ (rD_r f2 m) e2 gv.1 (fun M4 f4 e4 => ?_)⟩
  · refine cAt_i c 0 (fun j hj => ?_) ?_
    · rw [f2.1 122 (by decide) (by decide), show (0 : Int) + (j : Int) = j by omega]
      exact hc.2 j hj
    · rw [f2.2 79 (by decide), hc.1]; omega
  · rw [gv.2.1] at e4
    have ev : M4 124 0 = qv H C c t := e4.2.1
    rw [ev]
    exact hQ M4 (rnr_t f2 f4)
end
