/-! the text of a hall: the reference's rows and words -/
def tR (M M' : Mem) : Prop := (∀ q, q ≠ 66 → q ≠ 85 → q ≠ 86 → q ≠ 87 → q ≠ 88 → q ≠ 89 → q ≠ 90 → q ≠ 91 → M' q = M q) ∧ (∀ j, (j = 1 ∨ j = 7 ∨ j = 8 ∨ (9 < j ∧ j < 27) ∨ (27 < j ∧ j < 35) ∨ 37 < j) → M' 66 j = M 66 j) ∧
  (∀ j, 3 ≤ j → M' 85 j = M 85 j) ∧ (∀ j, 20 ≤ j → M' 86 j = M 86 j) ∧ (∀ j, 54 ≤ j → M' 87 j = M 87 j) ∧ (∀ j, 162 ≤ j → M' 88 j = M 88 j) ∧ (∀ j, 12 ≤ j → M' 89 j = M 89 j) ∧ (∀ j, 6 ≤ j → M' 90 j = M 90 j) ∧ (∀ j, 4 ≤ j → M' 91 j = M 91 j)
def rX (f pl : Int) (M : Mem) : Prop := M 66 5 = f ∧ M 66 6 = pl ∧ f ≠ 0
def Dr (H : Hal) (w : Int) (M : Mem) : Prop :=
  (M 66 35 = H 0 0 ∧ M 66 36 = H 0 1 ∧ M 66 37 = w ∧ M 85 2 = H 0 2 ∧ M 85 1 = H 0 3 ∧ M 85 0 = H 0 4 ∧ M 91 0 = H 0 5 ∧ M 91 1 = H 0 6 ∧ M 91 2 = H 0 7 ∧ M 91 3 = H 0 8) ∧
  (∀ c, 0 ≤ c → c < 54 → M 87 c = H 1 c) ∧ (∀ k, 0 ≤ k → k < H 0 2 → M 90 k = H 2 k) ∧
  (∀ k, 0 ≤ k → k < H 0 3 → M 89 (3 * k) = H 4 k ∧ M 89 (3 * k + 1) = H 5 k ∧ M 89 (3 * k + 2) = H 6 k ∧ M 86 (10 + k) = H 16 (10 + k)) ∧
  (∀ p, 0 ≤ p → p < H 0 4 → M 88 (18 * p) = H 7 p ∧ M 88 (18 * p + 1) = H 8 p - 60 ∧ M 88 (18 * p + 2) = H 9 p ∧ M 88 (18 * p + 3) = H 10 p ∧ M 88 (18 * p + 4) = H 11 p ∧ M 88 (18 * p + 5) = H 12 p ∧ M 86 p = H 16 p) ∧
  (∀ p k, 0 ≤ p → p < H 0 4 → 0 ≤ k → k < H 12 p → M 88 (18 * p + (6 + k)) = H 13 (12 * p + k))
theorem tR_r (M : Mem) : tR M M := ⟨fun _ _ _ _ _ _ _ _ _ => rfl, fun _ _ => rfl, fun _ _ => rfl, fun _ _ => rfl, fun _ _ => rfl, fun _ _ => rfl, fun _ _ => rfl, fun _ _ => rfl, fun _ _ => rfl⟩
theorem tR_t {M N O : Mem} (a : tR M N) (c : tR N O) : tR M O := ⟨fun q h1 h2 h3 h4 h5 h6 h7 h8 => (c.1 q h1 h2 h3 h4 h5 h6 h7 h8).trans (a.1 q h1 h2 h3 h4 h5 h6 h7 h8), fun j h => (c.2.1 j h).trans (a.2.1 j h), fun j h => (c.2.2.1 j h).trans (a.2.2.1 j h), fun j h => (c.2.2.2.1 j h).trans (a.2.2.2.1 j h), fun j h => (c.2.2.2.2.1 j h).trans (a.2.2.2.2.1 j h), fun j h => (c.2.2.2.2.2.1 j h).trans (a.2.2.2.2.2.1 j h), fun j h => (c.2.2.2.2.2.2.1 j h).trans (a.2.2.2.2.2.2.1 j h), fun j h => (c.2.2.2.2.2.2.2.1 j h).trans (a.2.2.2.2.2.2.2.1 j h), fun j h => (c.2.2.2.2.2.2.2.2 j h).trans (a.2.2.2.2.2.2.2.2 j h)⟩
theorem tR_f {M N : Mem} (h : rfr M N) : tR M N := ⟨fun q a _ _ _ _ _ _ _ => h.1 q a, fun j a => h.2 j (by omega) (by omega) (by omega) (by omega) (by omega) (by omega), fun j _ => by rw [h.1 85 (by decide)], fun j _ => by rw [h.1 86 (by decide)], fun j _ => by rw [h.1 87 (by decide)], fun j _ => by rw [h.1 88 (by decide)], fun j _ => by rw [h.1 89 (by decide)], fun j _ => by rw [h.1 90 (by decide)], fun j _ => by rw [h.1 91 (by decide)]⟩
theorem Dr_f {H : Hal} {w : Int} {M N : Mem} (h : rfr M N) (hD : Dr H w M) : Dr H w N := by
  have j : ∀ i : Int, (i = 35 ∨ i = 36 ∨ i = 37) → N 66 i = M 66 i := fun i hi => h.2 i (by omega) (by omega) (by omega) (by omega) (by omega) (by omega)
  unfold Dr at hD ⊢
  rw [j 35 (by omega), j 36 (by omega), j 37 (by omega), h.1 85 (by decide), h.1 86 (by decide), h.1 87 (by decide), h.1 88 (by decide), h.1 89 (by decide), h.1 90 (by decide), h.1 91 (by decide)]
  exact hD
theorem nmr_inj {a c : Int} {a' c' : Int} (h1 : nmr a a') (h2 : nmr c c') : a = c ↔ a' = c' := by
  obtain ⟨n, l, n1, n6, hl, ea, ea'⟩ := h1
  obtain ⟨m, k, m1, m6, hk, ec, ec'⟩ := h2
  have fin : n = m → (∀ i, i < n → l i = k i) → n32 l n 6 = n32 k m 6 ∧ n27 l n = n27 k m := by
    intro e he
    subst e
    refine ⟨?_, ?_⟩
    · have : ∀ j, n32 l n j = n32 k n j := by
        intro j
        induction j with
        | zero => rfl
        | succ j ih =>
          show 32 * n32 l n j + (if j < n then l j else 0) = 32 * n32 k n j + (if j < n then k j else 0)
          rw [ih]
          by_cases z : j < n
          · rw [if_pos z, if_pos z, he j z]
          · rw [if_neg z, if_neg z]
      exact this 6
    · have : ∀ j, j ≤ n → n27 l j = n27 k j := by
        intro j
        induction j with
        | zero => intro _; rfl
        | succ j ih =>
          intro hj
          show 27 * n27 l j + l j = 27 * n27 k j + k j
          rw [ih (by omega), he j (by omega)]
      exact this n (Nat.le_refl _)
  constructor
  · intro e
    have let_ : ∀ i : Nat, i < 6 → (if i < n then l i else 0) = (if i < m then k i else 0) := by
      intro i hi
      have x := lof hl hi
      have y := lof hk hi
      rw [← ea] at x
      rw [← ec] at y
      rw [← x, ← y, e]
    have enm : n = m := by
      refine Classical.byContradiction (fun z => ?_)
      by_cases lt : n < m
      · have := let_ n (by omega)
        rw [if_neg (by omega), if_pos lt] at this
        have := hk n lt
        omega
      · have := let_ m (by omega)
        rw [if_pos (by omega), if_neg (by omega)] at this
        have := hl m (by omega)
        omega
    have f := fin enm (fun i hi => by
      have := let_ i (by omega)
      rw [if_pos hi, if_pos (by omega)] at this
      exact this)
    rw [ea', ec', f.2]
  · intro e
    rw [ea', ec'] at e
    have key : ∀ i j : Nat, i ≤ n → j ≤ m → n27 l i = n27 k j → i = j ∧ ∀ q, q < i → l q = k q := by
      intro i
      induction i with
      | zero =>
        intro j _ hj h
        cases j with
        | zero => exact ⟨rfl, fun q hq => by omega⟩
        | succ j =>
          have := n27_pos hk (j := j + 1) (by omega) hj
          rw [← h] at this
          have t : (0 : Int) < 0 := this
          exact absurd t (by decide)
      | succ i ih =>
        intro j hi hj h
        cases j with
        | zero =>
          have := n27_pos hl (j := i + 1) (by omega) hi
          rw [h] at this
          have t : (0 : Int) < 0 := this
          exact absurd t (by decide)
        | succ j =>
          have d1 := n27_div hl (j := i) (by omega)
          have d2 := n27_div hk (j := j) (by omega)
          rw [h] at d1
          obtain ⟨r1, r2⟩ := ih j (by omega) (by omega) (d1.1.symm.trans d2.1)
          subst r1
          refine ⟨rfl, fun q hq => ?_⟩
          by_cases z : q = i
          · rw [z]; exact d1.2.symm.trans d2.2
          · exact r2 q (by omega)
    have r := key n m (Nat.le_refl _) (Nat.le_refl _) e
    have f := fin r.1 r.2
    rw [ea, ec, f.1]
section
variable {b : Int → Int} {n p e w : Int} {H : Hal} {M M' : Mem} {Q : Int → Mem → Prop}
theorem N_r {l m : Int} (hT : rK b n p e M) (hF : ∀ f pl, pN b n p e l m p = Sum.inl (f, pl) → ∀ (M' : Mem) (x : Int), rfr M M' → rX f pl M' → Q x M') (hO : ∀ x, pN b n p e l m p = Sum.inr x → ∀ M' : Mem, rfr M M' → rK b n x.2.1 x.2.2 M' → M' 66 9 = p → Q x.1 M') : PX12_number l m M Q :=
  num_r hT (fun f pl h M' x r c => hF f pl (pN_l.mpr h) M' x r ⟨c.1, c.2, pnm_f h⟩) (fun v h M' r k a => hO _ (pN_r h) M' r k a)
theorem W_r {i : Nat} (hT : rK b n p e M) (hw : ∀ j : Nat, j < (wd i).length → M (i : Nat) j = (wd i).getD j 0) (hi : (i : Int) ≠ 66) (hF : ∀ f pl, pW b n p e i = Sum.inl (f, pl) → ∀ M' : Mem, rfr M M' → rX f pl M' → Q 0 M') (hO : ∀ x, pW b n p e i = Sum.inr x → ∀ M' : Mem, rfr M M' → rK b n x.1 x.2 M' → Q 0 M') : PX12_asks (i : Nat) (wd i).length M Q :=
  asks_r hT hw hi (fun h M' r c => hF 1 p (by unfold pW; rw [if_neg (by rw [h]; decide)]) M' r ⟨c.1, c.2, by decide⟩) (fun h M' r k => hO _ (by unfold pW; rw [if_pos h]) M' r k)
theorem S_r (hT : rK b n p e M) (hF : ∀ f pl, pS b n p e 59 = Sum.inl (f, pl) → ∀ M' : Mem, rfr M M' → rX f pl M' → Q 0 M') (hO : ∀ x, pS b n p e 59 = Sum.inr x → ∀ M' : Mem, rfr M M' → rK b n x.1 x.2 M' → Q 0 M') : PX12_asksSign 59 M Q :=
  asign_r (by decide) (by decide) (by decide) hT (fun h M' r c => hF 1 p (by unfold pS; rw [if_neg (by rw [h]; decide)]) M' r ⟨c.1, c.2, by decide⟩) (fun h M' r k => hO _ (by unfold pS; rw [if_pos h]) M' r k)
theorem wrow (hK : iK M) {i : Nat} {s : String} (h : (i, s) ∈ wrds) : ∀ j : Nat, j < (wd i).length → M (i : Nat) j = (wd i).getD j 0 := by
  have w := wd_ok (i, s) h
  intro j hj
  have hj' : j < s.length := by
    have w1 : (wd i).length = s.length := w.1
    omega
  rw [hK (i, s) h j hj']
  exact (w.2 j hj').symm
theorem rows (hK : iK M) : ∀ i : Nat, (68 ≤ i ∧ i ≤ 84) ∨ (102 ≤ i ∧ i ≤ 121) → ∀ j : Nat, j < (wd i).length → M (i : Nat) j = (wd i).getD j 0 := by
  intro i hi
  have : ∃ s, (i, s) ∈ wrds := by
    have key : ∀ k : Fin 200, ((68 ≤ (k : Nat) ∧ (k : Nat) ≤ 84) ∨ (102 ≤ (k : Nat) ∧ (k : Nat) ≤ 121)) → wrds.any (fun e => decide (e.1 = (k : Nat))) = true := by decide +kernel
    have k := key ⟨i, by omega⟩ hi
    obtain ⟨e, he, h2⟩ := List.any_eq_true.mp k
    have h3 : e.1 = i := of_decide_eq_true h2
    exact ⟨e.2, by rw [← h3]; exact he⟩
  obtain ⟨s, hs⟩ := this
  exact wrow hK hs
/-- nothing is done behind a fault -/
theorem nb_num {l m : Int} (h : M 66 5 ≠ 0) (hQ : Q 0 M) : PX12_number l m M Q := ⟨fun z => absurd z h, fun _ => hQ⟩
theorem nb_asks {i : Int} {k : Nat} (h : M 66 5 ≠ 0) (hQ : Q 0 M) : PX12_asks i k M Q := ⟨fun z => absurd z h, fun _ => hQ⟩
theorem nb_sign {c : Int} (h : M 66 5 ≠ 0) (hQ : Q 0 M) : PX12_asksSign c M Q := ⟨fun z => absurd z h, fun _ => hQ⟩
theorem nb_signed {c : Int} (h : M 66 5 ≠ 0) (hQ : Q 0 M) : PX12_signed c M Q := ⟨fun z => absurd z h, fun _ => hQ⟩
theorem nb_steps {c : Int} (h : M 66 5 ≠ 0) (hQ : Q 0 M) : PX12_stepsTold c M Q := ⟨fun z => absurd z h, fun _ => hQ⟩
theorem nb_takes {i : Int} {k : Nat} (h : M 66 5 ≠ 0) (hQ : Q 0 M) : PX12_takes i k M Q := ⟨fun z => absurd z h, fun _ => ⟨fun _ => hQ, fun z => absurd rfl z⟩⟩
theorem nb_cell (h : M 66 5 ≠ 0) (hQ : Q 0 M) : PX12_cellTold M Q := nb_num h (nb_num h (by rw [if_neg h]; exact hQ))
/-- a cell's two numbers -/
theorem cel_r (hd : DOK H w) (hT : rK b n p e M) (hD : Dr H w M) (hF : ∀ f pl, (∀ kind, pC b n p e H kind = Sum.inl (f, pl)) → ∀ M' : Mem, rfr M M' → rX f pl M' → Q 0 M') (hO : ∀ c p1 p2 e2, (∀ kind, pC b n p e H kind = if mst H kind c = true then Sum.inr (c, p2, e2) else Sum.inl (2, p1)) → 0 ≤ c → c < H 0 0 * H 0 1 → ∀ M' : Mem, rfr M M' → rK b n p2 e2 M' → M' 66 9 = p1 → Q c M') : PX12_cellTold M Q := by
  have sz := hd_sz hd
  unfold PX12_cellTold
  rw [hD.1.1, wsu (by omega) (by omega)]
  refine N_r hT (fun f pl h M2 x r c => ?_) (fun x h M2 r k2 a2 => ?_)
  · refine nb_num (by rw [c.1]; exact c.2.2) ?_
    rw [if_neg (by rw [c.1]; exact c.2.2)]
    exact hF f pl (fun kind => by unfold pC; exact bnd_l h) M2 r c
  · have D2 := Dr_f r hD
    rw [D2.1.2.1, wsu (by omega) (by omega)]
    refine N_r k2 (fun f pl h' M5 y r5 c => ?_) (fun y h' M5 r5 k5 a5 => ?_)
    · rw [if_neg (by rw [c.1]; exact c.2.2)]
      exact hF f pl (fun kind => by unfold pC; rw [bnd_r h]; exact bnd_l h') M5 (rfr_t r r5) c
    · have D5 := Dr_f r5 D2
      have v1 := pN_v h
      have v2 := pN_v h'
      have ci := cell_in (w := H 0 0) (t := H 0 1) (x := x.1) (y := y.1) v1.1 (by omega) v2.1 (by omega)
      have cl := hcells hd.1
      have um : 0 ≤ H 0 0 * y.1 := Int.mul_nonneg (by omega) v2.1
      rw [if_pos k5.2.1, D5.1.1, wmu (by omega) (by omega), wad (by omega) (by omega)]
      exact hO (H 0 0 * y.1 + x.1) x.2.1 y.2.1 y.2.2 (fun kind => by unfold pC; rw [bnd_r h, bnd_r h']) ci.1 ci.2 M5 (rfr_t r r5) k5 a5
theorem dat_lp (hd : DOK H w) (hD : Dr H w M) (c : Int) : ∀ (k m : Nat), (m : Int) + k = H 0 2 → lX12_doorAt_2 k c m M = fst1 (fun k => decide (H 2 k = c)) m k ∧ nlX12_doorAt_2 k c m M := by
  have hb := hd.1.2.1
  intro k
  induction k with
  | zero => intro m h; exact ⟨rfl, trivial⟩
  | succ k ih =>
    intro m h
    have c4 := hD.2.2.1 m (by omega) (by omega)
    have e : lX12_doorAt_2 (k + 1) c m M = (if (M 90 m) = c then (m : Int) else (lX12_doorAt_2 k c ((m : Int) + 1) M)) := rfl
    have ef : fst1 (fun k => decide (H 2 k = c)) m (k + 1) = if decide (H 2 m = c) = true then (m : Int) else fst1 (fun k => decide (H 2 k = c)) ((m : Int) + 1) k := rfl
    have i := ih (m + 1) (by omega)
    rw [show (((m + 1 : Nat)) : Int) = (m : Int) + 1 by omega] at i
    refine ⟨?_, ⟨⟨by omega, by omega⟩, fun _ => i.2⟩⟩
    rw [e, ef, c4, i.1]
    by_cases z : H 2 m = c
    · rw [if_pos z, if_pos (decide_eq_true z)]
    · rw [if_neg z, if_neg (fun y => z (of_decide_eq_true y))]
theorem dat_r (hd : DOK H w) (hD : Dr H w M) (c : Int) : fX12_doorAt M c = dat H c ∧ nX12_doorAt M c := by
  have hb := hd.1.2.1
  have l := dat_lp hd hD c (H 0 2).toNat 0 (by omega)
  unfold fX12_doorAt nX12_doorAt dat
  rw [hD.1.2.2.2.1, Int.sub_zero]
  exact l
theorem sb37 (hd : DOK H w) (hD : Dr H w M) (c : Int) : ∀ (k m : Nat), (m : Int) + k = H 0 3 → lX12_isSomebody_37 k c m M = (if fst1 (fun g => decide (H 4 g = c)) m k ≠ -1 then 1 else 0) ∧ nlX12_isSomebody_37 k c m M := by
  have hb := hd.1.2.1
  intro k
  induction k with
  | zero => intro m h; exact ⟨by rw [if_neg (fun z => z rfl)]; rfl, trivial⟩
  | succ k ih =>
    intro m h
    have c4 := (hD.2.2.2.1 m (by omega) (by omega)).1
    have ix : wr32 (3 * (m : Int)) = 3 * (m : Int) := wmu (by omega) (by omega)
    have e : lX12_isSomebody_37 (k + 1) c m M = (if (M 89 (wr32 (3 * (m : Int)))) = c then 1 else (lX12_isSomebody_37 k c ((m : Int) + 1) M)) := rfl
    have en : nlX12_isSomebody_37 (k + 1) c m M = ((0 ≤ (wr32 (3 * (m : Int))) ∧ (wr32 (3 * (m : Int))) < 24) ∧ (¬ ((M 89 (wr32 (3 * (m : Int)))) = c) → (nlX12_isSomebody_37 k c ((m : Int) + 1) M))) := rfl
    have ef : fst1 (fun g => decide (H 4 g = c)) m (k + 1) = if decide (H 4 m = c) = true then (m : Int) else fst1 (fun g => decide (H 4 g = c)) ((m : Int) + 1) k := rfl
    rw [ix] at e en
    clear ix
    have i := ih (m + 1) (by omega)
    rw [show (((m + 1 : Nat)) : Int) = (m : Int) + 1 by omega] at i
    rw [en]
    refine ⟨?_, ⟨by omega, by omega⟩, fun _ => i.2⟩
    rw [e, ef, c4, i.1]
    by_cases z : H 4 m = c
    · rw [if_pos z, decide_eq_true z, if_pos (rfl : true = true), if_pos (by omega)]
    · rw [if_neg z, decide_eq_false z, if_neg (show ¬ false = true by decide)]
theorem sb2 (hd : DOK H w) (hD : Dr H w M) (c : Int) : ∀ (k m : Nat), (m : Int) + k = H 0 4 → lX12_isSomebody_2 k c m M = (if fst1 (fun p => decide (H 7 p = c)) m k ≠ -1 ∨ fst1 (fun g => decide (H 4 g = c)) 0 (H 0 3).toNat ≠ -1 then 1 else 0) ∧ nlX12_isSomebody_2 k c m M := by
  have hb := hd.1.2.1
  intro k
  induction k with
  | zero =>
    intro m h
    have e : lX12_isSomebody_2 0 c m M = lX12_isSomebody_37 ((M 85 1) - 0).toNat c 0 M := rfl
    have en : nlX12_isSomebody_2 0 c m M = nlX12_isSomebody_37 ((M 85 1) - 0).toNat c 0 M := rfl
    have t := sb37 hd hD c (H 0 3).toNat 0 (by omega)
    rw [show ((0 : Nat) : Int) = 0 from rfl] at t
    rw [e, en, hD.1.2.2.2.2.1, Int.sub_zero]
    refine ⟨?_, t.2⟩
    rw [t.1]
    by_cases z : fst1 (fun g => decide (H 4 g = c)) 0 (H 0 3).toNat ≠ -1
    · rw [if_pos z, if_pos (Or.inr z)]
    · rw [if_neg z, if_neg (fun y => by rcases y with y | y; exact y rfl; exact z y)]
  | succ k ih =>
    intro m h
    have c5 := (hD.2.2.2.2.1 m (by omega) (by omega)).1
    have ix : wr32 (wr32 (18 * (m : Int)) + 0) = 18 * (m : Int) := by rw [wmu (by omega) (by omega), wad (by omega) (by omega), Int.add_zero]
    have e : lX12_isSomebody_2 (k + 1) c m M = (if (M 88 (wr32 ((wr32 (18 * (m : Int))) + 0))) = c then 1 else (lX12_isSomebody_2 k c ((m : Int) + 1) M)) := rfl
    have en : nlX12_isSomebody_2 (k + 1) c m M = ((0 ≤ (wr32 ((wr32 (18 * (m : Int))) + 0)) ∧ (wr32 ((wr32 (18 * (m : Int))) + 0)) < 324) ∧ (¬ ((M 88 (wr32 ((wr32 (18 * (m : Int))) + 0))) = c) → (nlX12_isSomebody_2 k c ((m : Int) + 1) M))) := rfl
    have ef : fst1 (fun p => decide (H 7 p = c)) m (k + 1) = if decide (H 7 m = c) = true then (m : Int) else fst1 (fun p => decide (H 7 p = c)) ((m : Int) + 1) k := rfl
    rw [ix] at e en
    clear ix
    have i := ih (m + 1) (by omega)
    rw [show (((m + 1 : Nat)) : Int) = (m : Int) + 1 by omega] at i
    rw [en]
    refine ⟨?_, ⟨by omega, by omega⟩, fun _ => i.2⟩
    rw [e, ef, c5, i.1]
    by_cases z : H 7 m = c
    · rw [if_pos z, decide_eq_true z, if_pos (rfl : true = true), if_pos (Or.inl (by omega))]
    · rw [if_neg z, decide_eq_false z, if_neg (show ¬ false = true by decide)]
theorem smb_r (hd : DOK H w) (hD : Dr H w M) (c : Int) : fX12_isSomebody M c = (if smb H c = true then 1 else 0) ∧ nX12_isSomebody M c := by
  have hb := hd.1.2.1
  have t := sb2 hd hD c (H 0 4).toNat 0 (by omega)
  rw [show ((0 : Nat) : Int) = 0 from rfl] at t
  unfold fX12_isSomebody nX12_isSomebody
  rw [hD.1.2.2.2.2.2.1, Int.sub_zero]
  refine ⟨?_, t.2⟩
  rw [t.1]
  have key : smb H c = true ↔ (fst1 (fun p => decide (H 7 p = c)) 0 (H 0 4).toNat ≠ -1 ∨ fst1 (fun g => decide (H 4 g = c)) 0 (H 0 3).toNat ≠ -1) := by
    unfold smb
    rw [Bool.or_eq_true, decide_eq_true_iff, decide_eq_true_iff]
  by_cases z : fst1 (fun p => decide (H 7 p = c)) 0 (H 0 4).toNat ≠ -1 ∨ fst1 (fun g => decide (H 4 g = c)) 0 (H 0 3).toNat ≠ -1
  · rw [if_pos z, if_pos (key.mpr z)]
  · rw [if_neg z, if_neg (fun y => z (key.mp y))]
end
