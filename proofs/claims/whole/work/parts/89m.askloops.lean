/-! ask: the reference's loops over what waits -/
def hdw : List Int → Int
  | [] => -1
  | s :: _ => wco s
/-- the words with a part behind them, taken from the top -/
def popO : List Int → Cds → List Int × Cds × Int
  | [], c => ([], c, 0)
  | s :: w, c => if s = 6 ∨ s = 7 then ((popO w (c ++ [(s, 0)])).1, (popO w (c ++ [(s, 0)])).2.1, (popO w (c ++ [(s, 0)])).2.2 + 1) else (s :: w, c, 0)
/-- the nots -/
def popT : List Int → Cds → List Int × Cds × Int
  | [], c => ([], c, 0)
  | s :: w, c => if s = 19 then ((popT w (c ++ [(s, 0)])).1, (popT w (c ++ [(s, 0)])).2.1, (popT w (c ++ [(s, 0)])).2.2 + 1) else (s :: w, c, 0)
def okw (s : Int) : Prop := s = 6 ∨ s = 7 ∨ (10 ≤ s ∧ s ≤ 13) ∨ (20 ≤ s ∧ s ≤ 24)
theorem mps_c (s : Int) (q : List Int) (c : Cds) : c ++ [(s, 0)] ++ mps q = c ++ mps (s :: q) := by rw [List.append_assoc]; rfl
theorem len_s (c : Cds) (x : Int × Int) (w : List Int) (s : Int) : ((c ++ [x]).length : Int) + w.length = (c.length : Int) + (s :: w).length := by
  rw [len_1, lenc]; omega
theorem len_a (q w : List Int) : ((q ++ w).length : Int) = (q.length : Int) + w.length := by rw [List.length_append]; omega
theorem wco_b {s : Int} (h : 20 ≤ s) : wco s = s := by unfold wco; exact if_neg (by omega)
theorem wco_o {s : Int} (h : 10 ≤ s ∧ s ≤ 13) : wco s = s - 9 := by
  unfold wco rco
  rw [if_pos (by omega)]
  show (if s < 6 then 40 + s else if s < 8 then 54 + s else if s < 10 then s - 3 else if s < 14 then s - 9 else if s < 20 then s - 7 else if s = 20 then 1000 + 0 else 13) = _
  rw [if_neg (by omega), if_neg (by omega), if_neg (by omega), if_pos (by omega)]
theorem wco_t {s : Int} (h : 17 ≤ s ∧ s ≤ 19) : wco s = s - 7 := by
  unfold wco rco
  rw [if_pos (by omega)]
  show (if s < 6 then 40 + s else if s < 8 then 54 + s else if s < 10 then s - 3 else if s < 14 then s - 9 else if s < 20 then s - 7 else if s = 20 then 1000 + 0 else 13) = _
  rw [if_neg (by omega), if_neg (by omega), if_neg (by omega), if_neg (by omega), if_pos (by omega)]
theorem isB_0 {s : Int} (h : 10 ≤ s ∧ s ≤ 13) : fX12_qIsBracket (wco s) = 0 := by
  rw [wco_o h]; unfold fX12_qIsBracket; exact if_pos (by omega)
theorem isB_1 {s : Int} (h : 20 ≤ s ∧ s ≤ 24) : ¬ fX12_qIsBracket (wco s) = 0 := by
  rw [wco_b h.1]; unfold fX12_qIsBracket; rw [if_neg (by omega), if_neg (by omega)]; decide
section
variable {b : Int → Int} {n p e : Int} {w : List Int} {Q : Int → Mem → Prop} {K : Mem → Prop}
theorem on_r {o v : Int} {c : Cds} {M : Mem} (h : rQ b n p e c w o M) (hl : (w.length : Int) ≤ 1600) (hv : v ≠ -1) : nX12_qIsOn M ∧ fX12_qIsOn M v = if hdw w = v then 1 else 0 := by
  obtain ⟨k, c1, w1, o1, r1⟩ := h
  unfold nX12_qIsOn fX12_qIsOn
  rw [w1.1]
  cases w with
  | nil =>
    refine ⟨fun z => absurd (show ((([] : List Int).length : Nat) : Int) ≤ 0 from Int.le_refl _) z, ?_⟩
    rw [if_pos (show ((([] : List Int).length : Nat) : Int) ≤ 0 from Int.le_refl _), if_neg (show ¬ hdw [] = v from fun z => hv z.symm)]
  | cons s w =>
    rw [lenc] at hl ⊢
    have e1 : wr32 ((w.length : Int) + 1 - 1) = (w.length : Int) := by rw [wsu (by omega) (by omega)]; omega
    rw [e1, w1.2.1]
    refine ⟨fun _ => ⟨by omega, by omega⟩, ?_⟩
    rw [if_neg (by omega)]
    rfl
theorem jn {A go : Prop} {x : Int} (h : ¬ x = 0 → go) (h2 : x = 0 → A) : ∃ j : Prop, (j → A) ∧ ((x = 0 → j) ∧ (¬ x = 0 → go)) := ⟨x = 0, h2, fun z => z, h⟩
theorem p162 {o : Int} (hw : hdw w ≠ 3 ∧ hdw w ≠ 4) : ∀ (q : List Int) (k : Nat) (c : Cds) (M : Mem), q.length < k → (∀ s ∈ q, s = 12 ∨ s = 13) → rQ b n p e c (q ++ w) o M → (c.length : Int) + (q ++ w).length ≤ 1600 → (∀ M' : Mem, qfr M M' → rQ b n p e (c ++ mps q) w o M' → K M') → PX12_qGoesOn_162 K Q k M := by
  intro q
  induction q with
  | nil =>
    intro k c M hk hq h hl hK
    obtain ⟨k, rfl⟩ : ∃ i, k = i + 1 := ⟨k - 1, by omega⟩
    have hl' : (c.length : Int) + w.length ≤ 1600 := hl
    have h' : rQ b n p e c w o M := h
    have hK' := hK M (qfr_r M) (by rw [show c ++ mps [] = c from List.append_nil c]; exact h')
    have o3 := on_r (v := 3) h' (by omega) (by decide)
    have o4 := on_r (v := 4) h' (by omega) (by decide)
    have e3 : fX12_qIsOn M 3 = 0 := o3.2.trans (if_neg (hw.1))
    have e4 : fX12_qIsOn M 4 = 0 := o4.2.trans (if_neg (hw.2))
    exact ⟨o3.1, jn (fun z => absurd e3 z) (fun _ => ⟨o4.1, fun _ => hK', fun z => absurd e4 z⟩)⟩
  | cons s q ih =>
    intro k c M hk hq h hl hK
    obtain ⟨k, rfl⟩ : ∃ i, k = i + 1 := ⟨k - 1, by omega⟩
    have hk' : q.length + 1 < k + 1 := hk
    have es : s = 12 ∨ s = 13 := hq s (List.mem_cons_self ..)
    have hl2 : (c.length : Int) + (s :: (q ++ w)).length ≤ 1600 := hl
    rw [lenc] at hl2
    have h' : rQ b n p e c (s :: (q ++ w)) o M := h
    have o3 := on_r (v := 3) h' (by rw [lenc]; omega) (by decide)
    have o4 := on_r (v := 4) h' (by rw [lenc]; omega) (by decide)
    have dr := drp_r (s := s) (w := q ++ w) h (by omega) (by omega)
    have go : (nX12_qDrops M) ∧ (∀ M10 : Mem, M10 = (fmX12_qDrops M) → PX12_qGoesOn_162 K Q k M10) := by
      refine ⟨dr.1, fun M10 h10 => ?_⟩
      rw [h10]
      exact ih k _ _ (by omega) (fun x hx => hq x (List.mem_cons_of_mem _ hx)) dr.2.1 (by rw [len_s]; exact hl) (fun M' f r => hK M' (qfr_t dr.2.2.1 f) (by rw [← mps_c]; exact r))
    have hh : hdw (s :: (q ++ w)) = 3 ∨ hdw (s :: (q ++ w)) = 4 := by
      show wco s = 3 ∨ wco s = 4
      rcases es with rfl | rfl <;> decide
    have no : fX12_qIsOn M 3 = 0 → fX12_qIsOn M 4 = 0 → False := by
      intro z3 z4
      rw [o3.2] at z3
      rw [o4.2] at z4
      rcases hh with y | y
      · rw [if_pos y] at z3; exact absurd z3 (by decide)
      · rw [if_pos y] at z4; exact absurd z4 (by decide)
    exact ⟨o3.1, jn (fun _ => go) (fun z3 => ⟨o4.1, fun z4 => (no z3 z4).elim, fun _ => go⟩)⟩
theorem p247 {o : Int} (hw : hdw w ≠ 3 ∧ hdw w ≠ 4 ∧ hdw w ≠ 1 ∧ hdw w ≠ 2) : ∀ (q : List Int) (k : Nat) (c : Cds) (M : Mem), q.length < k → (∀ s ∈ q, s = 12 ∨ s = 13 ∨ s = 10 ∨ s = 11) → rQ b n p e c (q ++ w) o M → (c.length : Int) + (q ++ w).length ≤ 1600 → (∀ M' : Mem, qfr M M' → rQ b n p e (c ++ mps q) w o M' → K M') → PX12_qGoesOn_247 K Q k M := by
  intro q
  induction q with
  | nil =>
    intro k c M hk hq h hl hK
    obtain ⟨k, rfl⟩ : ∃ i, k = i + 1 := ⟨k - 1, by omega⟩
    have hl' : (c.length : Int) + w.length ≤ 1600 := hl
    have h' : rQ b n p e c w o M := h
    have hK' := hK M (qfr_r M) (by rw [show c ++ mps [] = c from List.append_nil c]; exact h')
    have o3 := on_r (v := 3) h' (by omega) (by decide)
    have o4 := on_r (v := 4) h' (by omega) (by decide)
    have o1 := on_r (v := 1) h' (by omega) (by decide)
    have o2 := on_r (v := 2) h' (by omega) (by decide)
    have e3 : fX12_qIsOn M 3 = 0 := o3.2.trans (if_neg (hw.1))
    have e4 : fX12_qIsOn M 4 = 0 := o4.2.trans (if_neg (hw.2.1))
    have e1 : fX12_qIsOn M 1 = 0 := o1.2.trans (if_neg (hw.2.2.1))
    have e2 : fX12_qIsOn M 2 = 0 := o2.2.trans (if_neg (hw.2.2.2))
    exact ⟨o3.1, jn (fun z => absurd e3 z) (fun _ => ⟨o4.1, jn (fun z => absurd e4 z) (fun _ => ⟨o1.1, jn (fun z => absurd e1 z) (fun _ => ⟨o2.1, fun _ => hK', fun z => absurd e2 z⟩)⟩)⟩)⟩
  | cons s q ih =>
    intro k c M hk hq h hl hK
    obtain ⟨k, rfl⟩ : ∃ i, k = i + 1 := ⟨k - 1, by omega⟩
    have hk' : q.length + 1 < k + 1 := hk
    have es : s = 12 ∨ s = 13 ∨ s = 10 ∨ s = 11 := hq s (List.mem_cons_self ..)
    have hl2 : (c.length : Int) + (s :: (q ++ w)).length ≤ 1600 := hl
    rw [lenc] at hl2
    have h' : rQ b n p e c (s :: (q ++ w)) o M := h
    have o3 := on_r (v := 3) h' (by rw [lenc]; omega) (by decide)
    have o4 := on_r (v := 4) h' (by rw [lenc]; omega) (by decide)
    have o1 := on_r (v := 1) h' (by rw [lenc]; omega) (by decide)
    have o2 := on_r (v := 2) h' (by rw [lenc]; omega) (by decide)
    have dr := drp_r (s := s) (w := q ++ w) h (by omega) (by omega)
    have go : (nX12_qDrops M) ∧ (∀ M10 : Mem, M10 = (fmX12_qDrops M) → PX12_qGoesOn_247 K Q k M10) := by
      refine ⟨dr.1, fun M10 h10 => ?_⟩
      rw [h10]
      exact ih k _ _ (by omega) (fun x hx => hq x (List.mem_cons_of_mem _ hx)) dr.2.1 (by rw [len_s]; exact hl) (fun M' f r => hK M' (qfr_t dr.2.2.1 f) (by rw [← mps_c]; exact r))
    have hh : hdw (s :: (q ++ w)) = 3 ∨ hdw (s :: (q ++ w)) = 4 ∨ hdw (s :: (q ++ w)) = 1 ∨ hdw (s :: (q ++ w)) = 2 := by
      show wco s = 3 ∨ wco s = 4 ∨ wco s = 1 ∨ wco s = 2
      rcases es with rfl | rfl | rfl | rfl <;> decide
    have no : fX12_qIsOn M 3 = 0 → fX12_qIsOn M 4 = 0 → fX12_qIsOn M 1 = 0 → fX12_qIsOn M 2 = 0 → False := by
      intro z3 z4 z1 z2
      rw [o3.2] at z3
      rw [o4.2] at z4
      rw [o1.2] at z1
      rw [o2.2] at z2
      rcases hh with y | y | y | y
      · rw [if_pos y] at z3; exact absurd z3 (by decide)
      · rw [if_pos y] at z4; exact absurd z4 (by decide)
      · rw [if_pos y] at z1; exact absurd z1 (by decide)
      · rw [if_pos y] at z2; exact absurd z2 (by decide)
    exact ⟨o3.1, jn (fun _ => go) (fun z3 => ⟨o4.1, jn (fun _ => go) (fun z4 => ⟨o1.1, jn (fun _ => go) (fun z1 => ⟨o2.1, fun z2 => (no z3 z4 z1 z2).elim, fun _ => go⟩)⟩)⟩)⟩
theorem p87 {o : Int} (hw : hdw w ≠ 10) : ∀ (q : List Int) (k : Nat) (c : Cds) (M : Mem), q.length < k → (∀ s ∈ q, s = 17) → rQ b n p e c (q ++ w) o M → (c.length : Int) + (q ++ w).length ≤ 1600 → (∀ M' : Mem, qfr M M' → rQ b n p e (c ++ mps q) w o M' → K M') → PX12_qGoesOnTest_87 K Q k M := by
  intro q
  induction q with
  | nil =>
    intro k c M hk hq h hl hK
    obtain ⟨k, rfl⟩ : ∃ i, k = i + 1 := ⟨k - 1, by omega⟩
    have hl' : (c.length : Int) + w.length ≤ 1600 := hl
    have h' : rQ b n p e c w o M := h
    have hK' := hK M (qfr_r M) (by rw [show c ++ mps [] = c from List.append_nil c]; exact h')
    have o10 := on_r (v := 10) h' (by omega) (by decide)
    have e10 : fX12_qIsOn M 10 = 0 := o10.2.trans (if_neg (hw))
    exact ⟨o10.1, fun _ => hK', fun z => absurd e10 z⟩
  | cons s q ih =>
    intro k c M hk hq h hl hK
    obtain ⟨k, rfl⟩ : ∃ i, k = i + 1 := ⟨k - 1, by omega⟩
    have hk' : q.length + 1 < k + 1 := hk
    have es : s = 17 := hq s (List.mem_cons_self ..)
    have hl2 : (c.length : Int) + (s :: (q ++ w)).length ≤ 1600 := hl
    rw [lenc] at hl2
    have h' : rQ b n p e c (s :: (q ++ w)) o M := h
    have o10 := on_r (v := 10) h' (by rw [lenc]; omega) (by decide)
    have dr := drp_r (s := s) (w := q ++ w) h (by omega) (by omega)
    have go : (nX12_qDrops M) ∧ (∀ M10 : Mem, M10 = (fmX12_qDrops M) → PX12_qGoesOnTest_87 K Q k M10) := by
      refine ⟨dr.1, fun M10 h10 => ?_⟩
      rw [h10]
      exact ih k _ _ (by omega) (fun x hx => hq x (List.mem_cons_of_mem _ hx)) dr.2.1 (by rw [len_s]; exact hl) (fun M' f r => hK M' (qfr_t dr.2.2.1 f) (by rw [← mps_c]; exact r))
    have hh : hdw (s :: (q ++ w)) = 10 := by
      show wco s = 10
      rw [es]; decide
    have no : fX12_qIsOn M 10 = 0 → False := by
      intro z10
      rw [o10.2] at z10
      rw [if_pos hh] at z10; exact absurd z10 (by decide)
    exact ⟨o10.1, fun z10 => (no z10).elim, fun _ => go⟩
theorem p137 {o : Int} (hw : hdw w ≠ 10 ∧ hdw w ≠ 11) : ∀ (q : List Int) (k : Nat) (c : Cds) (M : Mem), q.length < k → (∀ s ∈ q, s = 17 ∨ s = 18) → rQ b n p e c (q ++ w) o M → (c.length : Int) + (q ++ w).length ≤ 1600 → (∀ M' : Mem, qfr M M' → rQ b n p e (c ++ mps q) w o M' → K M') → PX12_qGoesOnTest_137 K Q k M := by
  intro q
  induction q with
  | nil =>
    intro k c M hk hq h hl hK
    obtain ⟨k, rfl⟩ : ∃ i, k = i + 1 := ⟨k - 1, by omega⟩
    have hl' : (c.length : Int) + w.length ≤ 1600 := hl
    have h' : rQ b n p e c w o M := h
    have hK' := hK M (qfr_r M) (by rw [show c ++ mps [] = c from List.append_nil c]; exact h')
    have o10 := on_r (v := 10) h' (by omega) (by decide)
    have o11 := on_r (v := 11) h' (by omega) (by decide)
    have e10 : fX12_qIsOn M 10 = 0 := o10.2.trans (if_neg (hw.1))
    have e11 : fX12_qIsOn M 11 = 0 := o11.2.trans (if_neg (hw.2))
    exact ⟨o10.1, jn (fun z => absurd e10 z) (fun _ => ⟨o11.1, fun _ => hK', fun z => absurd e11 z⟩)⟩
  | cons s q ih =>
    intro k c M hk hq h hl hK
    obtain ⟨k, rfl⟩ : ∃ i, k = i + 1 := ⟨k - 1, by omega⟩
    have hk' : q.length + 1 < k + 1 := hk
    have es : s = 17 ∨ s = 18 := hq s (List.mem_cons_self ..)
    have hl2 : (c.length : Int) + (s :: (q ++ w)).length ≤ 1600 := hl
    rw [lenc] at hl2
    have h' : rQ b n p e c (s :: (q ++ w)) o M := h
    have o10 := on_r (v := 10) h' (by rw [lenc]; omega) (by decide)
    have o11 := on_r (v := 11) h' (by rw [lenc]; omega) (by decide)
    have dr := drp_r (s := s) (w := q ++ w) h (by omega) (by omega)
    have go : (nX12_qDrops M) ∧ (∀ M10 : Mem, M10 = (fmX12_qDrops M) → PX12_qGoesOnTest_137 K Q k M10) := by
      refine ⟨dr.1, fun M10 h10 => ?_⟩
      rw [h10]
      exact ih k _ _ (by omega) (fun x hx => hq x (List.mem_cons_of_mem _ hx)) dr.2.1 (by rw [len_s]; exact hl) (fun M' f r => hK M' (qfr_t dr.2.2.1 f) (by rw [← mps_c]; exact r))
    have hh : hdw (s :: (q ++ w)) = 10 ∨ hdw (s :: (q ++ w)) = 11 := by
      show wco s = 10 ∨ wco s = 11
      rcases es with rfl | rfl <;> decide
    have no : fX12_qIsOn M 10 = 0 → fX12_qIsOn M 11 = 0 → False := by
      intro z10 z11
      rw [o10.2] at z10
      rw [o11.2] at z11
      rcases hh with y | y
      · rw [if_pos y] at z10; exact absurd z10 (by decide)
      · rw [if_pos y] at z11; exact absurd z11 (by decide)
    exact ⟨o10.1, jn (fun _ => go) (fun z10 => ⟨o11.1, fun z11 => (no z10 z11).elim, fun _ => go⟩)⟩
/-- all are dropped until what was opened with [ -/
theorem p33 {o : Int} : ∀ (q : List Int) (k : Nat) (c : Cds) (M : Mem), q.length < k → (∀ s ∈ q, s = 17 ∨ s = 18) → rQ b n p e c (q ++ 25 :: w) o M → (c.length : Int) + (q ++ 25 :: w).length ≤ 1600 → (∀ M' : Mem, qfr M M' → rQ b n p e (c ++ mps q) (25 :: w) o M' → K M') → PX12_qGoesOnTest_33 K Q k M := by
  intro q
  induction q with
  | nil =>
    intro k c M hk hq h hl hK
    obtain ⟨k, rfl⟩ : ∃ i, k = i + 1 := ⟨k - 1, by omega⟩
    have hl' : (c.length : Int) + (25 :: w).length ≤ 1600 := hl
    have h' : rQ b n p e c (25 :: w) o M := h
    have o1 := on_r (v := 25) h' (by omega) (by decide)
    have e1 : ¬ fX12_qIsOn M 25 = 0 := by rw [o1.2, if_pos (show hdw (25 :: w) = 25 from rfl)]; decide
    exact ⟨o1.1, fun z => absurd z e1, fun _ => hK M (qfr_r M) (by rw [show c ++ mps [] = c from List.append_nil c]; exact h')⟩
  | cons s q ih =>
    intro k c M hk hq h hl hK
    obtain ⟨k, rfl⟩ : ∃ i, k = i + 1 := ⟨k - 1, by omega⟩
    have hk' : q.length + 1 < k + 1 := hk
    have es : s = 17 ∨ s = 18 := hq s (List.mem_cons_self ..)
    have hl2 : (c.length : Int) + (s :: (q ++ 25 :: w)).length ≤ 1600 := hl
    rw [lenc] at hl2
    have h' : rQ b n p e c (s :: (q ++ 25 :: w)) o M := h
    have o1 := on_r (v := 25) h' (by rw [lenc]; omega) (by decide)
    have e1 : fX12_qIsOn M 25 = 0 := o1.2.trans (if_neg (by show ¬ wco s = 25; rcases es with rfl | rfl <;> decide))
    have dr := drp_r (s := s) (w := q ++ 25 :: w) h (by omega) (by omega)
    refine ⟨o1.1, fun _ => ⟨dr.1, fun M10 h10 => ?_⟩, fun z => absurd e1 z⟩
    rw [h10]
    exact ih k _ _ (by omega) (fun x hx => hq x (List.mem_cons_of_mem _ hx)) dr.2.1 (by rw [len_s]; exact hl) (fun M' f r => hK M' (qfr_t dr.2.2.1 f) (by rw [← mps_c]; exact r))
/-- all are dropped until what is open in the sum -/
theorem pdtb {o s : Int} (hs : 20 ≤ s ∧ s ≤ 24) : ∀ (q : List Int) (k : Nat) (c : Cds) (M : Mem), q.length < k → (∀ s ∈ q, 10 ≤ s ∧ s ≤ 13) → M 66 83 ≤ w.length → rQ b n p e c (q ++ s :: w) o M → (c.length : Int) + (q ++ s :: w).length ≤ 1600 → (∀ M' : Mem, qfr M M' → rQ b n p e (c ++ mps q) (s :: w) o M' → K M') → PX12_qDropsToBracket_0 K Q k M := by
  intro q
  induction q with
  | nil =>
    intro k c M hk hq hB h hl hK
    obtain ⟨k, rfl⟩ : ∃ i, k = i + 1 := ⟨k - 1, by omega⟩
    have hl' : (c.length : Int) + (s :: w).length ≤ 1600 := hl
    rw [lenc] at hl'
    have h' : rQ b n p e c (s :: w) o M := h
    have t := tk_r h' (by omega)
    have e8 : M 66 81 = (w.length : Int) + 1 := by rw [h'.2.2.1.1, lenc]
    refine ⟨fun z => by omega, fun _ => ⟨by rw [t.1]; omega, by rw [t.1]; omega, fun z => ?_, fun _ => hK M (qfr_r M) (by rw [show c ++ mps [] = c from List.append_nil c]; exact h')⟩⟩
    rw [t.1, t.2.1] at z
    exact absurd z (isB_1 hs)
  | cons x q ih =>
    intro k c M hk hq hB h hl hK
    obtain ⟨k, rfl⟩ : ∃ i, k = i + 1 := ⟨k - 1, by omega⟩
    have hk' : q.length + 1 < k + 1 := hk
    have es : 10 ≤ x ∧ x ≤ 13 := hq x (List.mem_cons_self ..)
    have hl2 : (c.length : Int) + (x :: (q ++ s :: w)).length ≤ 1600 := hl
    rw [lenc, len_a, lenc] at hl2
    have h' : rQ b n p e c (x :: (q ++ s :: w)) o M := h
    have la := len_a q (s :: w)
    rw [lenc] at la
    have t := tk_r h' (by omega)
    have e8 : M 66 81 = ((q ++ s :: w).length : Int) + 1 := by rw [h'.2.2.1.1, lenc]
    have dr := drp_r (s := x) (w := q ++ s :: w) h (by omega) (by omega)
    refine ⟨fun z => by omega, fun _ => ⟨by rw [t.1]; omega, by rw [t.1]; omega, fun _ => ⟨dr.1, fun M10 h10 => ?_⟩, fun z => ?_⟩⟩
    · rw [h10]
      exact ih k _ _ (by omega) (fun x hx => hq x (List.mem_cons_of_mem _ hx)) (by rw [qfr_B dr.2.2.1]; exact hB) dr.2.1 (by rw [len_s]; exact hl) (fun M' f r => hK M' (qfr_t dr.2.2.1 f) (by rw [← mps_c]; exact r))
    · rw [t.1, t.2.1] at z
      exact absurd (isB_0 es) z
/-- all of the sum are dropped -/
theorem p53 {o : Int} : ∀ (q : List Int) (k : Nat) (c : Cds) (M : Mem), q.length < k → (∀ s ∈ q, 10 ≤ s ∧ s ≤ 13) → M 66 83 = w.length → rQ b n p e c (q ++ w) o M → (c.length : Int) + (q ++ w).length ≤ 1600 → (∀ M' : Mem, qfr M M' → rQ b n p e (c ++ mps q) w o M' → K M') → PX12_qSums_53 K Q k M := by
  intro q
  induction q with
  | nil =>
    intro k c M hk hq hB h hl hK
    obtain ⟨k, rfl⟩ : ∃ i, k = i + 1 := ⟨k - 1, by omega⟩
    have h' : rQ b n p e c w o M := h
    refine ⟨fun _ => ⟨fun _ => hK M (qfr_r M) (by rw [show c ++ mps [] = c from List.append_nil c]; exact h'), fun z => absurd (by rw [h'.2.2.1.1, hB]; exact Int.le_refl _) z⟩, fun z => absurd h.1.2.1 z⟩
  | cons x q ih =>
    intro k c M hk hq hB h hl hK
    obtain ⟨k, rfl⟩ : ∃ i, k = i + 1 := ⟨k - 1, by omega⟩
    have hk' : q.length + 1 < k + 1 := hk
    have es : 10 ≤ x ∧ x ≤ 13 := hq x (List.mem_cons_self ..)
    have hl2 : (c.length : Int) + (x :: (q ++ w)).length ≤ 1600 := hl
    rw [lenc, len_a] at hl2
    have h' : rQ b n p e c (x :: (q ++ w)) o M := h
    have la := len_a q w
    have e8 : M 66 81 = ((q ++ w).length : Int) + 1 := by rw [h'.2.2.1.1, lenc]
    have dr := drp_r (s := x) (w := q ++ w) h (by omega) (by omega)
    refine ⟨fun _ => ⟨fun z => by omega, fun _ => ⟨dr.1, fun M10 h10 => ?_⟩⟩, fun z => absurd h.1.2.1 z⟩
    rw [h10]
    exact ih k _ _ (by omega) (fun x hx => hq x (List.mem_cons_of_mem _ hx)) (by rw [qfr_B dr.2.2.1]; exact hB) dr.2.1 (by rw [len_s]; exact hl) (fun M' f r => hK M' (qfr_t dr.2.2.1 f) (by rw [← mps_c]; exact r))
/-- all that waits is dropped -/
theorem p110 {o : Int} : ∀ (q : List Int) (k : Nat) (c : Cds) (M : Mem), q.length < k → (∀ s ∈ q, s = 17 ∨ s = 18) → rQ b n p e c q o M → (c.length : Int) + q.length ≤ 1600 → (∀ M' : Mem, qfr M M' → rQ b n p e (c ++ mps q) [] o M' → K M') → PX12_qTest_110 K Q k M := by
  intro q
  induction q with
  | nil =>
    intro k c M hk hq h hl hK
    obtain ⟨k, rfl⟩ : ∃ i, k = i + 1 := ⟨k - 1, by omega⟩
    refine ⟨fun _ => ⟨fun _ => hK M (qfr_r M) (by rw [show c ++ mps [] = c from List.append_nil c]; exact h), fun z => absurd (by rw [h.2.2.1.1]; exact Int.le_refl _) z⟩, fun z => absurd h.1.2.1 z⟩
  | cons x q ih =>
    intro k c M hk hq h hl hK
    obtain ⟨k, rfl⟩ : ∃ i, k = i + 1 := ⟨k - 1, by omega⟩
    have hk' : q.length + 1 < k + 1 := hk
    have es : x = 17 ∨ x = 18 := hq x (List.mem_cons_self ..)
    have hl2 := hl
    rw [lenc] at hl2
    have e8 : M 66 81 = (q.length : Int) + 1 := by rw [h.2.2.1.1, lenc]
    have dr := drp_r (s := x) (w := q) h (by omega) (by omega)
    refine ⟨fun _ => ⟨fun z => by omega, fun _ => ⟨dr.1, fun M10 h10 => ?_⟩⟩, fun z => absurd h.1.2.1 z⟩
    rw [h10]
    exact ih k _ _ (by omega) (fun x hx => hq x (List.mem_cons_of_mem _ hx)) dr.2.1 (by rw [len_s]; exact hl) (fun M' f r => hK M' (qfr_t dr.2.2.1 f) (by rw [← mps_c]; exact r))
theorem rQ_o {o v : Int} {c : Cds} {M : Mem} (h : rQ b n p e c w o M) : rQ b n p e c w v (mset M 66 82 v) ∧ qfr M (mset M 66 82 v) := by
  have f : qfr M (mset M 66 82 v) := ⟨fun q x _ _ => mset_p x, fun j _ _ _ _ _ _ _ _ g => mset_k g⟩
  exact ⟨⟨rK_q h.1 (mset_p (by decide)) (fun j hj => mset_k (by omega)), cR_c (mset_k (by decide)) (mset_p (by decide)) h.2.1, ⟨by rw [mset_k (by decide)]; exact h.2.2.1.1, wS_c w (fun i _ _ => mset_o (by decide)) h.2.2.1.2⟩, mset_e, wR_q f h.2.2.2.2⟩, f⟩
def low (s : Int) : Prop := s = 17 ∨ s = 18 ∨ s = 19 ∨ s = 25
/-- the nots are dropped -/
theorem pnots : ∀ (w : List Int) (k : Nat) (o : Int) (c : Cds) (M : Mem), w.length < k → (∀ s ∈ w, low s) → rQ b n p e c w o M → (c.length : Int) + w.length ≤ 1600 → (-2000 ≤ o - w.length ∧ o ≤ 6) → (∀ M' : Mem, qfr M M' → rQ b n p e (popT w c).2.1 (popT w c).1 (o - (popT w c).2.2) M' → K M') → PX12_qDropsNots_0 K Q k M := by
  intro w
  induction w with
  | nil =>
    intro k o c M hk hw h hl ho hK
    obtain ⟨k, rfl⟩ : ∃ i, k = i + 1 := ⟨k - 1, by omega⟩
    have o1 := on_r (v := 12) h (by show (0 : Int) ≤ 1600; decide) (by decide)
    exact ⟨fun _ => ⟨o1.1, fun _ => hK M (qfr_r M) (by show rQ b n p e c [] (o - 0) M; rw [Int.sub_zero]; exact h), fun z => absurd (o1.2.trans (if_neg (show ¬ hdw [] = 12 by decide))) z⟩, fun z => absurd h.1.2.1 z⟩
  | cons s w ih =>
    intro k o c M hk hw h hl ho hK
    obtain ⟨k, rfl⟩ : ∃ i, k = i + 1 := ⟨k - 1, by omega⟩
    have hk' : w.length + 1 < k + 1 := hk
    have ls : low s := hw s (List.mem_cons_self ..)
    have hl0 := hl
    rw [lenc] at hl ho
    have o1 := on_r (v := 12) h (by rw [lenc]; omega) (by decide)
    have e1 : popT (s :: w) c = if s = 19 then ((popT w (c ++ [(s, 0)])).1, (popT w (c ++ [(s, 0)])).2.1, (popT w (c ++ [(s, 0)])).2.2 + 1) else (s :: w, c, 0) := rfl
    rw [e1] at hK
    have hd : hdw (s :: w) = 12 ↔ s = 19 := by
      show wco s = 12 ↔ s = 19
      rcases ls with rfl | rfl | rfl | rfl <;> decide
    refine ⟨fun _ => ⟨o1.1, fun z => ?_, fun z M6 h6 => ?_⟩, fun z => absurd h.1.2.1 z⟩
    · have ns : ¬ s = 19 := fun y => by rw [o1.2, if_pos (hd.mpr y)] at z; exact absurd z (by decide)
      rw [if_neg ns] at hK
      exact hK M (qfr_r M) (by show rQ b n p e c (s :: w) (o - 0) M; rw [Int.sub_zero]; exact h)
    · have ys : s = 19 := hd.mp (Classical.byContradiction (fun y => z (o1.2.trans (if_neg y))))
      rw [if_pos ys] at hK
      have r1 := rQ_o (v := o - 1) h
      have e6 : wr32 (M 66 82 - 1) = o - 1 := by rw [h.2.2.2.1, wsu (by omega) (by omega)]
      rw [e6] at h6
      rw [← h6] at r1
      have dr := drp_r r1.1 (by omega) (by omega)
      refine ⟨dr.1, fun M9 h9 => ?_⟩
      rw [h9]
      refine ih k (o - 1) _ _ (by omega) (fun x hx => hw x (List.mem_cons_of_mem _ hx)) dr.2.1 (by rw [len_s]; exact hl0) (by omega) (fun M' f r => hK M' (qfr_t r1.2 (qfr_t dr.2.2.1 f)) ?_)
      show rQ b n p e (popT w (c ++ [(s, 0)])).2.1 (popT w (c ++ [(s, 0)])).1 (o - ((popT w (c ++ [(s, 0)])).2.2 + 1)) M'
      rw [show o - ((popT w (c ++ [(s, 0)])).2.2 + 1) = o - 1 - (popT w (c ++ [(s, 0)])).2.2 by omega]
      exact r
/-- the words with a part behind them are dropped -/
theorem pends {w0 : List Int} (hw0 : ∀ s ∈ w0, low s) : ∀ (w : List Int) (k : Nat) (o : Int) (c : Cds) (M : Mem), w.length < k → (∀ s ∈ w, okw s) → M 66 83 = w0.length → rQ b n p e c (w ++ w0) o M → (c.length : Int) + (w ++ w0).length ≤ 1600 → (-2000 ≤ o - w.length ∧ o ≤ 6) → (∀ M' : Mem, qfr M M' → rQ b n p e (popO w c).2.1 ((popO w c).1 ++ w0) (o - (popO w c).2.2) M' → K M') → PX12_qEndsPart_0 K Q k M := by
  intro w
  induction w with
  | nil =>
    intro k o c M hk hw hB h hl ho hK
    obtain ⟨k, rfl⟩ : ∃ i, k = i + 1 := ⟨k - 1, by omega⟩
    have h' : rQ b n p e c w0 o M := h
    exact ⟨fun _ => ⟨fun _ => hK M (qfr_r M) (by show rQ b n p e c w0 (o - 0) M; rw [Int.sub_zero]; exact h'), fun z => absurd (by rw [h'.2.2.1.1, hB]; exact Int.le_refl _) z⟩, fun z => absurd h.1.2.1 z⟩
  | cons s w ih =>
    intro k o c M hk hw hB h hl ho hK
    obtain ⟨k, rfl⟩ : ∃ i, k = i + 1 := ⟨k - 1, by omega⟩
    have hk' : w.length + 1 < k + 1 := hk
    have ls : okw s := hw s (List.mem_cons_self ..)
    have hl2 : (c.length : Int) + (s :: (w ++ w0)).length ≤ 1600 := hl
    have h' : rQ b n p e c (s :: (w ++ w0)) o M := h
    have la := len_a w w0
    rw [lenc] at hl2 ho
    have t := tk_r h' (by omega)
    have e8 : M 66 81 = ((w ++ w0).length : Int) + 1 := by rw [h'.2.2.1.1, lenc]
    have e1 : popO (s :: w) c = if s = 6 ∨ s = 7 then ((popO w (c ++ [(s, 0)])).1, (popO w (c ++ [(s, 0)])).2.1, (popO w (c ++ [(s, 0)])).2.2 + 1) else (s :: w, c, 0) := rfl
    rw [e1] at hK
    have hd : wco s < 60 ↔ ¬ (s = 6 ∨ s = 7) := by
      rcases ls with rfl | rfl | y | y
      · decide
      · decide
      · rw [wco_o y]; omega
      · rw [wco_b y.1]; omega
    refine ⟨fun _ => ⟨fun z => by omega, fun _ => ⟨by rw [t.1]; omega, by rw [t.1]; omega, fun z => ?_, fun z M5 h5 => ?_⟩⟩, fun z => absurd h.1.2.1 z⟩
    · rw [t.1, t.2.1, hd] at z
      rw [if_neg z] at hK
      exact hK M (qfr_r M) (by show rQ b n p e c (s :: (w ++ w0)) (o - 0) M; rw [Int.sub_zero]; exact h')
    · rw [t.1, t.2.1, hd] at z
      have ys : s = 6 ∨ s = 7 := Classical.byContradiction z
      rw [if_pos ys] at hK
      have r1 := rQ_o (v := o - 1) h'
      have e6 : wr32 (M 66 82 - 1) = o - 1 := by rw [h.2.2.2.1, wsu (by omega) (by omega)]
      rw [e6] at h5
      rw [← h5] at r1
      have dr := drp_r r1.1 (by omega) (by omega)
      refine ⟨dr.1, fun M9 h9 => ?_⟩
      rw [h9]
      refine ih k (o - 1) _ _ (by omega) (fun x hx => hw x (List.mem_cons_of_mem _ hx)) (by rw [qfr_B dr.2.2.1, qfr_B r1.2]; exact hB) dr.2.1 (by rw [len_s]; exact hl) (by omega) (fun M' f r => hK M' (qfr_t r1.2 (qfr_t dr.2.2.1 f)) ?_)
      show rQ b n p e (popO w (c ++ [(s, 0)])).2.1 ((popO w (c ++ [(s, 0)])).1 ++ w0) (o - ((popO w (c ++ [(s, 0)])).2.2 + 1)) M'
      rw [show o - ((popO w (c ++ [(s, 0)])).2.2 + 1) = o - 1 - (popO w (c ++ [(s, 0)])).2.2 by omega]
      exact r
/-- what is open last in the sum -/
theorem bk1 {o s : Int} {q : List Int} {c : Cds} {M : Mem} (hs : 20 ≤ s ∧ s ≤ 24) (hq : ∀ s ∈ q, 10 ≤ s ∧ s ≤ 13) (hB : M 66 83 ≤ w.length) (h : rQ b n p e c (q ++ s :: w) o M) (hl : ((q ++ s :: w).length : Int) ≤ 1600) (hQ : Q s M) : PX12_qBracket M Q := by
  have lp : ∀ (q : List Int) (k : Nat), q.length < k → (∀ s ∈ q, 10 ≤ s ∧ s ≤ 13) → wtS (q ++ s :: w) M → (q.length : Int) + w.length ≤ 1600 → PX12_qBracket_7 (fun u2 M3 => ((u2 < (M3 66 83) → Q (-1) M3) ∧ (¬ (u2 < (M3 66 83)) → 0 ≤ u2 ∧ u2 < 1700 ∧ Q (M3 123 u2) M3))) Q k ((q.length : Int) + w.length) M := by
    intro q
    induction q with
    | nil =>
      intro k hk _ hw hl
      obtain ⟨k, rfl⟩ : ∃ i, k = i + 1 := ⟨k - 1, by omega⟩
      have hw' : M 123 (w.length : Int) = wco s := hw.1
      have e0 : ((([] : List Int).length : Nat) : Int) + w.length = w.length := by show (0 : Int) + _ = _; omega
      rw [e0] at hl ⊢
      refine ⟨fun z => by omega, fun _ => ⟨by omega, by omega, fun z => ?_, fun _ => ⟨fun z => by omega, fun _ => ⟨by omega, by omega, ?_⟩⟩⟩⟩
      · rw [hw'] at z; exact absurd z (isB_1 hs)
      · rw [hw', wco_b hs.1]; exact hQ
    | cons x q ih =>
      intro k hk hq hw hl
      obtain ⟨k, rfl⟩ : ∃ i, k = i + 1 := ⟨k - 1, by omega⟩
      have hk' : q.length + 1 < k + 1 := hk
      have es : 10 ≤ x ∧ x ≤ 13 := hq x (List.mem_cons_self ..)
      have hw' : M 123 ((q ++ s :: w).length : Int) = wco x := hw.1
      have la := len_a q (s :: w)
      rw [lenc] at la
      rw [lenc] at hl ⊢
      have e0 : (q.length : Int) + 1 + w.length = ((q ++ s :: w).length : Int) := by omega
      refine ⟨fun z => by omega, fun _ => ⟨by omega, by omega, fun z => ?_, fun z => ?_⟩⟩
      · rw [wad (by omega) (by omega), show (q.length : Int) + 1 + w.length + -1 = (q.length : Int) + w.length by omega]
        exact ih k (by omega) (fun x hx => hq x (List.mem_cons_of_mem _ hx)) hw.2 (by omega)
      · rw [e0, hw'] at z; exact absurd (isB_0 es) z
  have la := len_a q (s :: w)
  rw [lenc] at la
  refine ⟨q.length + 1, ?_⟩
  rw [h.2.2.1.1, wsu (by omega) (by omega), show ((q ++ s :: w).length : Int) - 1 = (q.length : Int) + w.length by omega]
  exact lp q _ (Nat.lt_succ_self _) hq h.2.2.1.2 (by omega)
theorem bk0 {o : Int} {q : List Int} {c : Cds} {M : Mem} (hq : ∀ s ∈ q, 10 ≤ s ∧ s ≤ 13) (hB : M 66 83 = w.length) (h : rQ b n p e c (q ++ w) o M) (hl : ((q ++ w).length : Int) ≤ 1600) (hQ : Q (-1) M) : PX12_qBracket M Q := by
  have lp : ∀ (q : List Int) (k : Nat), q.length < k → (∀ s ∈ q, 10 ≤ s ∧ s ≤ 13) → wtS (q ++ w) M → (q.length : Int) + w.length ≤ 1600 → PX12_qBracket_7 (fun u2 M3 => ((u2 < (M3 66 83) → Q (-1) M3) ∧ (¬ (u2 < (M3 66 83)) → 0 ≤ u2 ∧ u2 < 1700 ∧ Q (M3 123 u2) M3))) Q k ((q.length : Int) + w.length - 1) M := by
    intro q
    induction q with
    | nil =>
      intro k hk _ hw hl
      obtain ⟨k, rfl⟩ : ∃ i, k = i + 1 := ⟨k - 1, by omega⟩
      have e0 : ((([] : List Int).length : Nat) : Int) + w.length = w.length := by show (0 : Int) + _ = _; omega
      rw [e0] at hl ⊢
      exact ⟨fun z => ⟨fun _ => hQ, fun y => absurd z y⟩, fun z => by omega⟩
    | cons x q ih =>
      intro k hk hq hw hl
      obtain ⟨k, rfl⟩ : ∃ i, k = i + 1 := ⟨k - 1, by omega⟩
      have hk' : q.length + 1 < k + 1 := hk
      have es : 10 ≤ x ∧ x ≤ 13 := hq x (List.mem_cons_self ..)
      have hw' : M 123 ((q ++ w).length : Int) = wco x := hw.1
      have la := len_a q w
      rw [lenc] at hl ⊢
      have e0 : (q.length : Int) + 1 + w.length - 1 = ((q ++ w).length : Int) := by omega
      refine ⟨fun z => by omega, fun _ => ⟨by omega, by omega, fun z => ?_, fun z => ?_⟩⟩
      · rw [wad (by omega) (by omega), show (q.length : Int) + 1 + w.length - 1 + -1 = (q.length : Int) + w.length - 1 by omega]
        exact ih k (by omega) (fun x hx => hq x (List.mem_cons_of_mem _ hx)) hw.2 (by omega)
      · rw [e0, hw'] at z; exact absurd (isB_0 es) z
  have la := len_a q w
  refine ⟨q.length + 1, ?_⟩
  rw [h.2.2.1.1, wsu (by omega) (by omega), la]
  exact lp q _ (Nat.lt_succ_self _) hq h.2.2.1.2 (by omega)
/-- whether a [ is open -/
theorem hs_l {M : Mem} : ∀ (k : Nat) (v : Int), 0 ≤ v → v + k ≤ 1700 → nlX12_qHasSquare_2 k v M ∧ ((∃ i, v ≤ i ∧ i < v + k ∧ M 123 i = 25) → lX12_qHasSquare_2 k v M = 1) ∧ ((∀ i, v ≤ i → i < v + k → M 123 i ≠ 25) → lX12_qHasSquare_2 k v M = 0) := by
  intro k
  induction k with
  | zero => intro v h0 h1; exact ⟨trivial, fun ⟨i, a, c, _⟩ => by omega, fun _ => rfl⟩
  | succ k ih =>
    intro v h0 h1
    have i1 := ih (v + 1) (by omega) (by omega)
    have e1 : lX12_qHasSquare_2 (k + 1) v M = (if (M 123 v) = 25 then 1 else (lX12_qHasSquare_2 k (v + 1) M)) := rfl
    rw [e1]
    refine ⟨⟨⟨h0, by omega⟩, fun _ => i1.1⟩, fun ⟨i, a, c, d⟩ => ?_, fun h => ?_⟩
    · by_cases z : M 123 v = 25
      · rw [if_pos z]
      · rw [if_neg z]
        have : i ≠ v := fun y => z (by rw [← y]; exact d)
        exact i1.2.1 ⟨i, by omega, by omega, d⟩
    · rw [if_neg (h v (Int.le_refl _) (by omega))]
      exact i1.2.2 (fun i a c => h i (by omega) (by omega))
theorem hsq1 {o : Int} {q : List Int} {c : Cds} {M : Mem} (h : rQ b n p e c (q ++ 25 :: w) o M) (hl : ((q ++ 25 :: w).length : Int) ≤ 1600) : nX12_qHasSquare M ∧ fX12_qHasSquare M = 1 := by
  have la := len_a q (25 :: w)
  rw [lenc] at la
  have e : (M 66 81 - 0).toNat = (q ++ 25 :: w).length := by rw [h.2.2.1.1]; omega
  have L := hs_l (M := M) (q ++ 25 :: w).length 0 (by decide) (by omega)
  unfold nX12_qHasSquare fX12_qHasSquare
  rw [e]
  have hh := (wS_a q _ h.2.2.1.2).1
  exact ⟨L.1, L.2.1 ⟨w.length, by omega, by omega, by rw [hh]; decide⟩⟩
theorem hsq0 {o : Int} {c : Cds} {M : Mem} (h : rQ b n p e c w o M) (hw : ∀ s ∈ w, s = 17 ∨ s = 18) (hl : (w.length : Int) ≤ 1600) : nX12_qHasSquare M ∧ fX12_qHasSquare M = 0 := by
  have e : (M 66 81 - 0).toNat = w.length := by rw [h.2.2.1.1]; omega
  have L := hs_l (M := M) w.length 0 (by decide) (by omega)
  unfold nX12_qHasSquare fX12_qHasSquare
  rw [e]
  have key : ∀ w : List Int, (∀ s ∈ w, s = 17 ∨ s = 18) → wtS w M → ∀ i : Int, 0 ≤ i → i < w.length → M 123 i ≠ 25 := by
    intro w
    induction w with
    | nil => intro _ _ i a c; exact absurd c (by show ¬ i < (0 : Int); omega)
    | cons s w ih =>
      intro hw hs i a c
      rw [lenc] at c
      by_cases z : i = (w.length : Int)
      · rw [z, hs.1]
        rcases hw s (List.mem_cons_self ..) with rfl | rfl <;> decide
      · exact ih (fun x hx => hw x (List.mem_cons_of_mem _ hx)) hs.2 i a (by omega)
  exact ⟨L.1, L.2.2 (fun i a c => key w hw h.2.2.1.2 i a (by omega))⟩
end
