/-! ask: the class works a question out -/
/-- the codes from the i-th on lie in place q; n of them in all -/
def cAt (g : Int × Int → Int) (q n : Int) (M : Mem) : Cds → Int → Prop
  | [], i => n = i
  | x :: r, i => M q i = g x ∧ cAt g q n M r (i + 1)
def sSt (q : Int) : List Int → Mem → Prop
  | [], _ => True
  | x :: s, M => M q (s.length : Int) = x ∧ sSt q s M
theorem cAt_i {g : Int × Int → Int} {q n : Int} {M : Mem} : ∀ (r : Cds) (i : Int), (∀ j : Nat, j < r.length → M q (i + j) = g (r.getD j (0, 0))) → n = i + r.length → cAt g q n M r i
  | [], i, _, h => by show n = i; rw [h]; show i + ((0 : Nat) : Int) = i; omega
  | x :: r, i, h1, h2 => by
    have a := h1 0 (Nat.zero_lt_succ _)
    refine ⟨by rw [show i + ((0 : Nat) : Int) = i by omega] at a; exact a, cAt_i r (i + 1) (fun j hj => ?_) (by rw [h2]; show i + ((r.length + 1 : Nat) : Int) = _; omega)⟩
    have b := h1 (j + 1) (Nat.succ_lt_succ hj)
    rw [show i + 1 + (j : Int) = i + ((j + 1 : Nat) : Int) by omega]
    exact b
theorem cAt_f {g : Int × Int → Int} {q n : Int} {M M' : Mem} (h : M' q = M q) : ∀ (r : Cds) (i : Int), cAt g q n M r i → cAt g q n M' r i
  | [], _, a => a
  | _ :: r, i, a => ⟨by rw [h]; exact a.1, cAt_f h r (i + 1) a.2⟩
theorem cAt_n {g : Int × Int → Int} {q n : Int} {M : Mem} : ∀ (r : Cds) (i : Int), cAt g q n M r i → n = i + r.length
  | [], i, a => by have a' : n = i := a; rw [a']; show i = i + ((0 : Nat) : Int); omega
  | _ :: r, i, a => by rw [cAt_n r (i + 1) a.2]; show i + 1 + (r.length : Int) = i + ((r.length + 1 : Nat) : Int); omega
theorem sSt_c {q : Int} {M M' : Mem} : ∀ s : List Int, (∀ i : Int, 0 ≤ i → i < s.length → M' q i = M q i) → sSt q s M → sSt q s M'
  | [], _, _ => trivial
  | x :: s, h, hw => ⟨by rw [h (s.length : Int) (by omega) (by rw [lenc]; omega)]; exact hw.1, sSt_c s (fun i a c => h i a (by rw [lenc]; omega)) hw.2⟩
def cE (s : List Int) (M : Mem) : Prop := M 6 3 = (s.length : Int) ∧ sSt 8 s M
def rn (M M' : Mem) : Prop := (∀ q, q ≠ 6 → q ≠ 8 → M' q = M q) ∧ ∀ j, j ≠ 3 → M' 6 j = M 6 j
theorem rn_r (M : Mem) : rn M M := ⟨fun _ _ _ => rfl, fun _ _ => rfl⟩
theorem rn_t {M N O : Mem} (a : rn M N) (c : rn N O) : rn M O := ⟨fun q x y => (c.1 q x y).trans (a.1 q x y), fun j x => (c.2 j x).trans (a.2 j x)⟩
theorem mOK_f {H : Hal} {C : Int} {M M' : Mem} (h : ∀ q, 15 < q → q < 23 → M' q = M q) (m : mOK H C M) : mOK H C M' := by
  unfold mOK at m ⊢
  rw [h 16 (by decide) (by decide), h 17 (by decide) (by decide), h 18 (by decide) (by decide), h 19 (by decide) (by decide), h 20 (by decide) (by decide), h 21 (by decide) (by decide), h 22 (by decide) (by decide)]
  exact m
theorem mOK_r {H : Hal} {C : Int} {M M' : Mem} (h : rn M M') (m : mOK H C M) : mOK H C M' := mOK_f (fun q a c => h.1 q (by omega) (by omega)) m
section
variable {H : Hal} {C t : Int} {M : Mem} {Q : Int → Mem → Prop} {K : Mem → Prop} {s : List Int} {x y v : Int}
theorem psh_c (h : cE s M) (hl : (s.length : Int) + 1 ≤ 64) : cE (v :: s) (fmX5_push M v) ∧ rn M (fmX5_push M v) := by
  have e : fmX5_push M v = mset (mset M 8 (s.length : Int) v) 6 3 ((s.length : Int) + 1) := by
    unfold fmX5_push fmX11_put
    rw [h.1, if_neg (by omega), if_neg (show ¬ (((64 : Nat) : Int) ≤ (s.length : Int)) by omega), mset_o (by decide), h.1, wad (by omega) (by omega)]
  rw [e]
  refine ⟨⟨by rw [mset_e, lenc], by rw [mset_o (by decide), mset_e], sSt_c s (fun i a c => by rw [mset_o (by decide), mset_k (by omega)]) h.2⟩, fun q a c => by rw [mset_p a, mset_p c], fun j a => by rw [mset_k a, mset_o (by decide)]⟩
theorem pop_c (h : cE (x :: s) M) (hl : (s.length : Int) + 1 ≤ 64) : fX5_pop M = x ∧ cE s (fmX5_pop M) ∧ rn M (fmX5_pop M) := by
  have e1 : wr32 (M 6 3 - 1) = (s.length : Int) := by rw [h.1, lenc, wsu (by omega) (by omega)]; omega
  unfold fX5_pop fmX5_pop
  rw [e1]
  refine ⟨?_, ⟨mset_e, sSt_c s (fun i a c => mset_o (by decide)) h.2.2⟩, fun q a c => mset_p a, fun j a => mset_k a⟩
  rw [mset_e, rd_get (by omega) (by omega), mset_o (by decide)]
  exact h.2.1
theorem clp_h {z : Int} (h : -1000000000001 ≤ z ∧ z ≤ 1000000000001) : fX5_held (wr64 z) = clp z := by
  rw [wr64_id (by unfold r64; omega)]
  unfold fX5_held clp
  by_cases a : z < 1000000
  · rw [if_pos a]
    by_cases c : z < -1000000
    · rw [if_pos c, if_pos c]; rfl
    · rw [if_neg c, if_neg c, if_neg (by omega)]; exact wr32_id (by unfold r32; omega)
  · rw [if_neg a, if_neg (by omega), if_neg (show ¬ z < -1000000 by omega)]
    by_cases c : 1000000 < z
    · rw [if_pos c]; rfl
    · rw [if_neg c, show z = 1000000 by omega]; rfl
theorem mul_b (hx : bdd x) (hy : bdd y) : -1000000000000 ≤ x * y ∧ x * y ≤ 1000000000000 := by
  unfold bdd at hx hy
  have key : ∀ a b : Int, 0 ≤ a → a ≤ 1000000 → 0 ≤ b → b ≤ 1000000 → 0 ≤ a * b ∧ a * b ≤ 1000000000000 := by
    intro a b a0 a1 b0 b1
    refine ⟨Int.mul_nonneg a0 b0, ?_⟩
    have m1 := Int.mul_le_mul_of_nonneg_left b1 a0
    omega
  by_cases a : 0 ≤ x
  · by_cases c : 0 ≤ y
    · have := key x y a hx.2 c hy.2; omega
    · have := key x (-y) a hx.2 (by omega) (by omega); rw [Int.mul_neg] at this; omega
  · by_cases c : 0 ≤ y
    · have := key (-x) y (by omega) (by omega) c hy.2; rw [Int.neg_mul] at this; omega
    · have := key (-x) (-y) (by omega) (by omega) (by omega) (by omega); rw [Int.neg_mul_neg] at this; omega
theorem two_c {op : Int} (h8 : 8 ≤ op) (h18 : op ≤ 18) (hx : bdd x) (hy : bdd y) (hl : op = 17 ∨ op = 18 → (x = 0 ∨ x = 1) ∧ (y = 0 ∨ y = 1)) : fX5_ofTwo op x y = f2q op x y := by
  have mb := mul_b hx hy
  have hx' := hx
  have hy' := hy
  unfold bdd at hx' hy'
  unfold fX5_ofTwo f2q
  by_cases z : op = 8
  · rw [if_pos z, if_pos z]
  rw [if_neg z, if_neg z]
  by_cases z : op = 9
  · rw [if_pos z, if_pos z]
  rw [if_neg z, if_neg z]
  by_cases z : op = 10
  · rw [if_pos z, if_pos z]; exact clp_h (by omega)
  rw [if_neg z, if_neg z]
  by_cases z : op = 11
  · rw [if_pos z, if_pos z]; exact clp_h (by omega)
  rw [if_neg z, if_neg z]
  by_cases z : op = 12
  · rw [if_pos z, if_pos z]; exact clp_h (by omega)
  rw [if_neg z, if_neg z]
  by_cases z : op = 13
  · rw [if_pos z, if_pos z]
    by_cases w : y = 0
    · rw [if_pos w, if_pos w]
    · rw [if_neg w, if_neg w]
      have fb := fdiv_b hx w
      unfold bdd at fb
      exact wr32_id (by unfold r32; omega)
  rw [if_neg z, if_neg z]
  by_cases z : op = 14
  · rw [if_pos z, if_pos z]
  rw [if_neg z, if_neg z]
  by_cases z : op = 15
  · rw [if_pos z, if_pos z]
  rw [if_neg z, if_neg z]
  by_cases z : op = 16
  · rw [if_pos z, if_pos z]
  rw [if_neg z, if_neg z]
  by_cases z : op = 17
  · rw [if_pos z, if_pos z]
    obtain ⟨h1, h2⟩ := hl (Or.inl z)
    rcases h1 with rfl | rfl <;> rcases h2 with rfl | rfl <;> decide
  rw [if_neg z, if_neg z]
  obtain ⟨h1, h2⟩ := hl (Or.inr (by omega))
  rcases h1 with rfl | rfl <;> rcases h2 with rfl | rfl <;> decide
theorem pl_c (m : mOK H C M) (t0 : 0 ≤ t ∧ t ≤ 200) {op : Int} (h0 : 0 ≤ op) (h5 : op ≤ 5) : fX5_plain M t op = vPl H C t op := by
  have hm := hm_c m t0.1 t0.2
  unfold fX5_plain vPl
  rw [hm.1, hm.2.1, hm.2.2.1, hm.2.2.2, m.2.2.1]
theorem at_c (ho : Hok H) (m : mOK H C M) (C0 : 0 ≤ C) (C1 : C < 2 ^ (H 0 4).toNat) (C2 : C < 512) (t0 : 0 ≤ t ∧ t ≤ 200) (n : Int) : (if (fX3_cellOf M n t) = (-1) then (99 : Int) else (fX3_cellOf M n t)) = vAt H C t n := by
  have hbd := ho.2.1
  unfold vAt
  by_cases z : 0 ≤ n ∧ n < H 0 4 ∧ bt C n = true
  · rw [if_pos z, cellOf_c ho m C0 C2 z.1 z.2.1 z.2.2 t0.1 t0.2]
    by_cases y : doing H C n t = 4
    · rw [if_pos y, if_pos rfl, if_pos y]
    · rw [if_neg y, if_neg (by have := posn_b (C := C) ho z.1 z.2.1 t; omega), if_neg y]
  · rw [if_neg z]
    have e : fX3_cellOf M n t = -1 := by
      unfold fX3_cellOf
      rw [m.1]
      have hb : fX11_hasBit C n = 0 := by
        by_cases a : n < 0
        · unfold fX11_hasBit; rw [if_pos a]
        by_cases c : 31 ≤ n
        · unfold fX11_hasBit; rw [if_neg a, if_pos c]
        rw [hasBit_eq C0 (by omega) (by omega) (by omega)]
        cases w : bt C n with
        | false => rfl
        | true =>
          by_cases d : n < H 0 4
          · exact absurd ⟨by omega, d, w⟩ z
          · rw [bt_hi C0 C1 (by omega) (by omega)] at w; cases w
      rw [if_pos hb]
    rw [e, if_pos rfl]
theorem do_cc (ho : Hok H) (m : mOK H C M) (C0 : 0 ≤ C) (C1 : C < 2 ^ (H 0 4).toNat) (C2 : C < 512) (t0 : 0 ≤ t ∧ t ≤ 200) (n : Int) : fX3_doingOf M n t = vDo H C t n := by
  have hbd := ho.2.1
  unfold vDo fX3_doingOf
  rw [m.1, m.2.1]
  by_cases z : 0 ≤ n ∧ n < H 0 4 ∧ bt C n = true
  · have m4 := m.2.2.2.2.1 n z.1 (by omega)
    have nb : bt C n = true := z.2.2
    rw [if_pos z, if_neg (by omega), hasBit_eq C0 (by omega) z.1 (by omega), if_pos nb, if_neg (by decide), rd_get z.1 (by omega), rd_get z.1 (by omega), m4.1, m4.2.2.1, if_pos nb]
    unfold doing
    rw [if_neg (show ¬ bt C n = false by rw [nb]; decide)]
    have ob : oo H C n = -1 ∨ (0 ≤ oo H C n ∧ oo H C n ≤ 200) := by
      unfold oo
      by_cases a : alrm H C = -1
      · rw [if_pos a]
        have := opn_b H C n 200
        omega
      · rw [if_neg a]; exact Or.inl rfl
    by_cases a : oo H C n = -1
    · rw [if_pos a, if_pos (Or.inl a)]
    rw [if_neg a]
    by_cases c : oo H C n ≤ t
    · rw [if_pos c, if_neg (show ¬ (oo H C n = -1 ∨ t < oo H C n) by omega), wad (by omega) (by omega)]
      by_cases d : oo H C n + H 0 6 ≤ t
      · rw [if_pos d, if_neg (show ¬ t < oo H C n + H 0 6 by omega)]
        by_cases f : gout H C n = -1
        · rw [if_pos f, if_pos (Or.inl f)]
        rw [if_neg f]
        by_cases g : gout H C n ≤ t
        · rw [if_pos g, if_neg (by omega)]
        · rw [if_neg g, if_pos (Or.inr (by omega))]
      · rw [if_neg d, if_pos (by omega)]
    · rw [if_neg c, if_pos (Or.inr (by omega))]
  · rw [if_neg z]
    by_cases a : n < 0
    · rw [if_pos a]
    rw [if_neg a]
    have hb : fX11_hasBit C n = 0 := by
      by_cases c : 31 ≤ n
      · unfold fX11_hasBit; rw [if_neg a, if_pos c]
      rw [hasBit_eq C0 (by omega) (by omega) (by omega)]
      cases w : bt C n with
      | false => rfl
      | true =>
        by_cases d : n < H 0 4
        · exact absurd ⟨by omega, d, w⟩ z
        · rw [bt_hi C0 C1 (by omega) (by omega)] at w; cases w
    rw [if_pos hb]
theorem cdv {c : Int × Int} (h : ok1 c s) : (20 ≤ c.1 → wr32 (Int.tdiv (cco c) 10000) = 20 ∧ Int.tmod (cco c) 10000 = c.2) ∧ (c.1 < 20 → wr32 (Int.tdiv (cco c) 10000) = c.1) := by
  obtain ⟨h1, h2, h3, _⟩ := h
  have e : cco c = if c.1 = 21 then 200001 else 10000 * c.1 + c.2 := rfl
  refine ⟨fun z => ?_, fun z => ?_⟩
  · by_cases y : c.1 = 21
    · rw [e, if_pos y, h3 y]; decide
    · rw [e, if_neg y, show c.1 = 20 by omega, Int.tdiv_eq_ediv_of_nonneg (by omega), Int.tmod_eq_emod_of_nonneg (by omega)]
      have d1 : (10000 * 20 + c.2) / 10000 = 20 := by omega
      rw [d1]
      exact ⟨rfl, by omega⟩
  · rw [e, if_neg (by omega), Int.tdiv_eq_ediv_of_nonneg (by omega)]
    have d1 : (10000 * c.1 + c.2) / 10000 = c.1 := by omega
    rw [d1]
    exact wr32_id (by unfold r32; omega)
theorem run7 (ho : Hok H) (C0 : 0 ≤ C) (C1 : C < 2 ^ (H 0 4).toNat) (C2 : C < 512) (t0 : 0 ≤ t ∧ t ≤ 200) : ∀ (r : Cds) (k : Nat) (i : Int) (s : List Int) (M : Mem), r.length < k → 0 ≤ i → i + r.length ≤ 1600 → cAt cco 7 (M 6 2) M r i → mOK H C M → cE s M → okE H C t r s → (∀ M' : Mem, rn M M' → cE (evE H C t r s) M' → K M') → PX5_run_7 t K Q k i M := by
  intro r
  induction r with
  | nil =>
    intro k i s M hk i0 hi hc m h ok hK
    obtain ⟨k, rfl⟩ : ∃ j, k = j + 1 := ⟨k - 1, by omega⟩
    have e : M 6 2 = i := hc
    exact ⟨fun _ => hK M (rn_r M) h, fun z => absurd (by rw [e]; exact Int.le_refl _) z⟩
  | cons c r ih =>
    intro k i s M hk i0 hi hc m h ok hK
    obtain ⟨k, rfl⟩ : ∃ j, k = j + 1 := ⟨k - 1, by omega⟩
    have hk' : r.length + 1 < k + 1 := hk
    have hi' : i + ((r.length + 1 : Nat) : Int) ≤ 1600 := hi
    have en := cAt_n _ _ hc
    have en' : M 6 2 = i + ((r.length + 1 : Nat) : Int) := en
    have e7 : M 7 i = cco c := hc.1
    have o1 := ok.1
    have cd := cdv o1
    have len := o1.2.2.2.2.2.2
    have eg : fX11_get M 7 1600 i = cco c := by rw [rd_get i0 (by omega)]; exact e7
    have w1 : wr32 (i + 1) = i + 1 := wad (by omega) (by omega)
    have nx : ∀ N : Mem, rn M N → cE (ev1 H C t c s) N → PX5_run_7 t K Q k (wr32 (i + 1)) N := by
      intro N f e
      rw [w1]
      refine ih k (i + 1) _ N (by omega) (by omega) (by omega) ?_ (mOK_r f m) e ok.2 (fun M' f' e' => hK M' (rn_t f f') e')
      rw [f.2 2 (by decide)]
      exact cAt_f (f.1 7 (by decide) (by decide)) r (i + 1) hc.2
    have bd0 := o1.1
    refine ⟨fun z => by omega, fun _ => ⟨fun z => by omega, fun _ => ?_⟩⟩
    rw [eg]
    by_cases z20 : 20 ≤ c.1
    · have c20 := cd.1 z20
      rw [c20.1, c20.2]
      have e1 : ev1 H C t c s = c.2 :: s := if_pos z20
      refine ⟨fun _ M37 h37 => ?_, fun z => absurd rfl z⟩
      have p := psh_c (v := c.2) h (by have := o1.2.2.2.1 (Or.inr z20); omega)
      rw [← h37, ← e1] at p
      exact nx M37 p.2 p.1
    have cop := cd.2 (by omega)
    rw [cop]
    refine ⟨fun z => by omega, fun _ => ⟨fun z5 => ?_, fun z5 => ?_⟩⟩
    · by_cases z3 : c.1 = 6 ∨ c.1 = 7 ∨ c.1 = 19
      · obtain ⟨x, r', es, hx, hb⟩ := o1.2.2.2.2.1 z3
        have e1 : ev1 H C t c s = un1 H C t c.1 x :: r' := by
          unfold ev1
          rw [if_neg z20, if_neg (by omega), if_pos z3, es]
          rfl
        rw [es] at h len
        have len' : r'.length + 1 ≤ 64 := len
        have p := pop_c h (by omega)
        have go : ∀ N : Mem, N = fmX5_pop M → ∀ N2 : Mem, N2 = fmX5_push N (fX5_ofOne N t c.1 (fX5_pop M)) → PX5_run_7 t K Q k (wr32 (i + 1)) N2 := by
          intro N hN N2 hN2
          rw [p.1] at hN2
          rw [← hN] at p
          have eo : fX5_ofOne N t c.1 x = un1 H C t c.1 x := by
            have mN := mOK_r p.2.2 m
            unfold fX5_ofOne un1
            rcases z3 with z | z | z
            · rw [z, if_neg (show ¬ (6 : Int) = 19 by decide), if_neg (show ¬ (6 : Int) = 7 by decide), if_pos (show (6 : Int) = 6 from rfl)]
              exact at_c ho mN C0 C1 C2 t0 x
            · rw [z, if_neg (show ¬ (7 : Int) = 19 by decide), if_pos (show (7 : Int) = 7 from rfl), if_neg (show ¬ (7 : Int) = 6 by decide), if_pos (show (7 : Int) = 7 from rfl)]
              exact do_cc ho mN C0 C1 C2 t0 x
            · rw [z, if_pos (show (19 : Int) = 19 from rfl), if_neg (show ¬ (19 : Int) = 6 by decide), if_neg (show ¬ (19 : Int) = 7 by decide)]
              rcases hb z with rfl | rfl <;> rfl
          rw [eo] at hN2
          have q := psh_c (v := un1 H C t c.1 x) p.2.1 (by omega)
          rw [← hN2, ← e1] at q
          exact nx N2 (rn_t p.2.2 q.2) q.1
        exact ⟨fun _ => go, fun z6 => ⟨fun _ => go, fun z7 => ⟨fun _ => go, fun z19 => by omega⟩⟩⟩
      · refine ⟨fun z => by omega, fun _ => ⟨fun z => by omega, fun _ => ⟨fun z => by omega, fun _ M20 h20 M22 h22 a24 h24 M26 h26 => ?_⟩⟩⟩
        obtain ⟨x, y, r', es, hx, hy, hb⟩ := o1.2.2.2.2.2.1 (by omega) (by omega)
        have e1 : ev1 H C t c s = f2q c.1 x y :: r' := by
          unfold ev1
          rw [if_neg z20, if_neg (by omega), if_neg z3, es]
          rfl
        rw [es] at h len
        have len' : r'.length + 1 + 1 ≤ 64 := len
        have p := pop_c h (by rw [lenc]; omega)
        have p20 := p.1
        rw [← h20] at p
        have q := pop_c p.2.1 (by omega)
        have q22 := q.1
        rw [← h22] at q
        rw [p20, q22, two_c (by omega) (by omega) hx hy hb] at h24
        have u := psh_c (v := a24) q.2.1 (by omega)
        rw [← h26, h24, ← e1] at u
        exact nx M26 (rn_t p.2.2 (rn_t q.2.2 u.2)) u.1
    · intro a33 h33 M35 h35
      rw [pl_c m t0 (by omega) (by omega)] at h33
      have e1 : ev1 H C t c s = vPl H C t c.1 :: s := by
        unfold ev1
        rw [if_neg z20, if_pos (by omega)]
      have p := psh_c (v := a33) h (by have := o1.2.2.2.1 (Or.inl (by omega)); omega)
      rw [← h35, h33, ← e1] at p
      exact nx M35 p.2 p.1
/-- what a question comes to in second t -/
def qv (H : Hal) (C : Int) (c : Cds) (t : Int) : Int := (evE H C t c []).headD 0
theorem good_v {tst : Bool} {h : Int} {c : Cds} (g : good H C t tst h c) (hh : h ≤ 64) : okE H C t c [] ∧ evE H C t c [] = [qv H C c t] ∧ bdd (qv H C c t) ∧ (tst = true → qv H C c t = 0 ∨ qv H C c t = 1) := by
  obtain ⟨a, v, e, b1, b2⟩ := g [] (by show ((0 : Nat) : Int) + h ≤ 64; omega)
  have : qv H C c t = v := by unfold qv; rw [e]; rfl
  rw [this]
  exact ⟨a, e, b1, b2⟩
theorem run_c {tst : Bool} {h : Int} {c : Cds} (ho : Hok H) (C0 : 0 ≤ C) (C1 : C < 2 ^ (H 0 4).toNat) (C2 : C < 512) (t0 : 0 ≤ t ∧ t ≤ 200) (m : mOK H C M) (hc : cQ c M) (hl : (c.length : Int) ≤ 1600) (g : good H C t tst h c) (hh : h ≤ 64) (hQ : ∀ M' : Mem, rn M M' → Q (qv H C c t) M') : PX5_run t M Q := by
  intro M2 h2
  have gv := good_v g hh
  have f2 : rn M M2 := by rw [h2]; exact ⟨fun q a _ => mset_p a, fun j a => mset_k a⟩
  have e2 : cE [] M2 := by rw [h2]; exact ⟨mset_e, trivial⟩
  refine ⟨c.length + 1, run7 ho C0 C1 C2 t0 c (c.length + 1) 0 [] M2 (Nat.lt_succ_self _) (Int.le_refl _) (by omega) ?_ (mOK_r f2 m) e2 gv.1 (fun M4 f4 e4 M7 h7 => ?_)⟩
  · refine cAt_i c 0 (fun j hj => ?_) ?_
    · rw [f2.1 7 (by decide) (by decide), show (0 : Int) + (j : Int) = j by omega]
      exact hc.2 j hj
    · rw [f2.2 2 (by decide), hc.1]; omega
  · rw [gv.2.1] at e4
    have p := pop_c e4 (by decide)
    rw [p.1]
    rw [← h7] at p
    exact hQ M7 (rn_t f2 (rn_t f4 p.2.2))
end
