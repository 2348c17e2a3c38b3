/-! ask: both sides -/
def RSq (a22 : Int) (Q : Int → Mem → Prop) (M29 : Mem) : Prop := (∀ M32 : Mem, M32 = (mset M29 66 7 (M29 66 5)) → (∀ M34 : Mem, M34 = (mset M32 66 8 (M32 66 6)) → (((M34 66 5) = 0 → (∀ M38 : Mem, M38 = (mset M34 66 86 (if 2 ≤ a22 then (0 : Int) else (-1))) → (∀ M40 : Mem, M40 = (mset M38 66 87 1) → PX12_plays M40 (fun _ M42 => (∃ k44 : Nat, PX12_ask_182 a22 (fun M45 => Q (M45 66 86) M45) Q k44 0 M42))))) ∧ (¬ ((M34 66 5) = 0) → Q (-1000000000000000) M34))))
def X26q (a22 : Int) (Q : Int → Mem → Prop) (M26 : Mem) : Prop := (∃ j28 : Mem → Prop, (∀ (M29 : Mem), j28 M29 → (∀ M32 : Mem, M32 = (mset M29 66 7 (M29 66 5)) → (∀ M34 : Mem, M34 = (mset M32 66 8 (M32 66 6)) → (((M34 66 5) = 0 → (∀ M38 : Mem, M38 = (mset M34 66 86 (if 2 ≤ a22 then (0 : Int) else (-1))) → (∀ M40 : Mem, M40 = (mset M38 66 87 1) → PX12_plays M40 (fun _ M42 => (∃ k44 : Nat, PX12_ask_182 a22 (fun M45 => Q (M45 66 86) M45) Q k44 0 M42))))) ∧ (¬ ((M34 66 5) = 0) → Q (-1000000000000000) M34))))) ∧ (((M26 66 5) = 0 → PX12_look M26 (fun a49 M50 => ((a49 = (-1) → j28 M50) ∧ (¬ (a49 = (-1)) → (∀ M54 : Mem, M54 = (fmX12_fail M50 1 (M50 66 2)) → j28 M54))))) ∧ (¬ ((M26 66 5) = 0) → j28 M26)))
def fq (M M' : Mem) : Prop := ∀ q, q ≠ 3 → q ≠ 5 → q ≠ 6 → q ≠ 7 → M' q = M q
theorem fq_t {M N O : Mem} (a : fq M N) (c : fq N O) : fq M O := fun q x y z w => (c q x y z w).trans (a q x y z w)
theorem fq_c {M N : Mem} (h : cfr M N) : fq M N := fun q x _ _ _ => h q x
theorem fq_q {M N : Mem} (h : tq M N) : fq M N := fun q x _ y z => h.1 q x y z
theorem qA_i {b : Int → Int} {n : Int} {x : Int × Cds} (hn : 0 ≤ n ∧ n ≤ 1600) (hb : ∀ k, 0 ≤ k → k < n → 0 ≤ b k ∧ b k ≤ 255) (h : qText b n = Sum.inr x) : (0 ≤ x.1 ∧ x.1 ≤ 5) ∧ (x.2.length : Int) ≤ 1600 ∧ (2 < x.1 → ∃ p e y, Rq b n 60 4 0 p e = Sum.inr y ∧ y.1 = x.2) ∧ (¬ 2 < x.1 → ∃ p e y, Rq b n 60 0 0 p e = Sum.inr y ∧ y.1 = x.2) := by
  unfold qText qAsk at h
  have s := fwd_s (f := blk) (b := b) (n := n) (i := 0) hn.1
  obtain ⟨p, hp⟩ : ∃ p, p = fwd blk b n 0 := ⟨_, rfl⟩
  rw [← hp] at h s
  have ok : bOK b n p := ⟨hn.1, hn.2, hb, s.1, s.2.1, s.2.2.2⟩
  have fb := fdx_b (b := b) (n := n) (p := p) (e := -1) (fl 9) 0 (by decide)
  obtain ⟨k, hk⟩ : ∃ k, k = fdx b n p (-1) (fl 9) 0 := ⟨_, rfl⟩
  rw [← hk] at h fb
  have fb' : k = -1 ∨ (0 ≤ k ∧ k < 6) := fb
  by_cases z : k = -1
  · rw [if_pos z] at h; cases h
  rw [if_neg z] at h
  have a := advq ok (Or.inl (fdx_k (by rw [← hk]; exact z)))
  by_cases y : 2 < k
  · rw [if_pos y] at h
    obtain ⟨w, hw, h2⟩ := bnd_i h
    have g := Rq_len 60 4 0 _ _ w a.2 hw
    split at h2
    · cases h2
      refine ⟨by show 0 ≤ k ∧ k ≤ 5; omega, ?_, fun _ => ⟨_, _, w, hw, rfl⟩, fun v => absurd y v⟩
      have g1 := g.1
      have g2 := g.2.2.2.2.2.1
      have g3 := a.2.2.2.2.1
      show (w.1.length : Int) ≤ 1600
      omega
    · cases h2
  · rw [if_neg y] at h
    obtain ⟨w, hw, h2⟩ := bnd_i h
    have g := Rq_len 60 0 0 _ _ w a.2 hw
    split at h2
    · cases h2
      refine ⟨by show 0 ≤ k ∧ k ≤ 5; omega, ?_, fun v => absurd v y, fun _ => ⟨_, _, w, hw, rfl⟩⟩
      have g1 := g.1
      have g2 := g.2.2.2.2.2.1
      have g3 := a.2.2.2.2.1
      show (w.1.length : Int) ≤ 1600
      omega
    · cases h2
/-- what a question comes to: numbers in their bounds, 0 or 1 for a test -/
theorem qA_g {H : Hal} {C : Int} {b : Int → Int} {n : Int} {x : Int × Cds} (ho : Hok H) (hn : 0 ≤ n ∧ n ≤ 1600) (hb : ∀ k, 0 ≤ k → k < n → 0 ≤ b k ∧ b k ≤ 255) (h : qText b n = Sum.inr x) (t : Int) (t0 : 0 ≤ t ∧ t ≤ 200) : good H C t (decide (x.1 < 3)) 24 x.2 := by
  have q := qA_i hn hb h
  by_cases z : 2 < x.1
  · obtain ⟨p, e, y, hy, ey⟩ := q.2.2.1 z
    have g := (Rq_g (H := H) (C := C) (t := t) (b := b) (n := n) ho t0 60 4 0 p e y (by decide) (by decide) hy).1 (by decide)
    rw [← ey, show decide (x.1 < 3) = false from decide_eq_false (by omega)]
    exact good_le g (by decide)
  · obtain ⟨p, e, y, hy, ey⟩ := q.2.2.2 z
    have g := (Rq_g (H := H) (C := C) (t := t) (b := b) (n := n) ho t0 60 0 0 p e y (by decide) (by decide) hy).1 (by decide)
    rw [← ey, show decide (x.1 < 3) = true from decide_eq_true (by omega)]
    exact good_le g (by decide)
section
variable {b : Int → Int} {n p e : Int} {H : Hal} {C : Int} {M M' N : Mem} {Q : Int → Mem → Prop}
theorem readq (hn : 0 ≤ n ∧ n ≤ 1600) (hb : ∀ k, 0 ≤ k → k < n → 0 ≤ b k ∧ b k ≤ 255) (h1 : M 1 1 = n) (h2 : ∀ k, 0 ≤ k → k < n → M 2 k = b k) (HF : ∀ f pl, qText b n = Sum.inl (f, pl) → ∀ M' : Mem, fq M M' → cFl f pl M' → Q 0 M') (HO : ∀ x, qText b n = Sum.inr x → ∀ M' : Mem, fq M M' → M' 3 4 = 0 → M' 3 5 = -1 → M' 5 2 = x.1 → cQ x.2 M' → Q 1 M') : PX6_read M Q := by
  intro M2 g2
  unfold fmX5_clear at g2
  have f2 : fq M M2 := fun q _ _ x _ => by rw [g2, mset_p x]
  have c2 : cQ [] M2 := ⟨by rw [g2, mset_e]; rfl, fun i hi => absurd hi (Nat.not_lt_zero i)⟩
  refine beg_c hn hb (by rw [f2 1 (by decide) (by decide) (by decide) (by decide)]; exact h1) (fun k x y => by rw [f2 2 (by decide) (by decide) (by decide) (by decide)]; exact h2 k x y) (fun M4 r4 k4 a7 h7 M9 h9 => ?_)
  unfold qText qAsk at HF HO
  obtain ⟨p, hp⟩ : ∃ p, p = fwd blk b n 0 := ⟨_, rfl⟩
  rw [← hp] at HF HO k4
  rw [find_c k4.1 (by decide)] at h7
  rw [← h7] at HF HO
  have e9 : M9 5 2 = a7 := by rw [h9, mset_e]
  have k9 : cK b n p (-1) M9 := cK_d k4 (fun q hq => by rw [h9, mset_p (by omega)])
  have f9 : fq M M9 := fq_t f2 (fq_t (fq_c r4) (fun q _ x _ _ => by rw [h9, mset_p x]))
  have c9 : cQ [] M9 := by
    have c4 := cQ_c r4 c2
    unfold cQ at c4 ⊢
    rw [h9, mset_p (by decide), mset_p (by decide)]
    exact c4
  rw [e9]
  have p0 := k9.1.1.2.2.2.1
  refine ⟨fun z M32 h32 => ?_, fun z => ?_⟩
  · rw [if_pos z] at HF
    have un := una_c k9
    rw [h32]
    exact ⟨Or.inl rfl, HF 1 p rfl _ (fq_t f9 (fq_c un.1)) un.2⟩
  rw [if_neg z] at HF HO
  have ok : bOK b n p := k9.1.1
  have k1 : knd b n p (-1) = 1 := fdx_k (is := fl 9) (k := 0) (by rw [← h7]; exact z)
  have a := advq ok (Or.inl k1)
  refine nx_k k9 (Or.inl k1) (fun M12 r12 k12 => ⟨_, fun _ _ h => h, ?_⟩)
  have c12 := cQ_c r12 c9
  have f12 := fq_t f9 (fq_c r12)
  have e12 : M12 5 2 = a7 := by rw [r12 5 (by decide)]; exact e9
  have pn := a.2.2.2.2.1
  have tail : ∀ (F : Rd), (∀ f pl, bnd F (fun x => if knd b n x.2.1 x.2.2 = 0 then (Sum.inr (a7, x.1) : Sum (Int × Int) (Int × Cds)) else Sum.inl (1, x.2.1)) = Sum.inl (f, pl) → ∀ M' : Mem, fq M M' → cFl f pl M' → Q 0 M') → (∀ x, bnd F (fun x => if knd b n x.2.1 x.2.2 = 0 then (Sum.inr (a7, x.1) : Sum (Int × Int) (Int × Cds)) else Sum.inl (1, x.2.1)) = Sum.inr x → ∀ M' : Mem, fq M M' → M' 3 4 = 0 → M' 3 5 = -1 → M' 5 2 = x.1 → cQ x.2 M' → Q 1 M') →
      (∀ f pl, F = Sum.inl (f, pl) → ∀ M' : Mem, tq M12 M' → cFl f pl M' → (((0 : Int) = 0 → Q 0 M') ∧ (¬ ((0 : Int) = 0) → (((M' 3 1) = 0 → Q 1 M') ∧ (¬ ((M' 3 1) = 0) → (∀ M21 : Mem, M21 = (fmX9_unasked M') → (((if fX9_unasked = 0 then (0 : Int) else 1) : Int) = 0 ∨ ((if fX9_unasked = 0 then (0 : Int) else 1) : Int) = 1) ∧ Q (if fX9_unasked = 0 then (0 : Int) else 1) M21)))))) ∧
      (∀ x, F = Sum.inr x → ∀ M' : Mem, tq M12 M' → cK b n x.2.1 x.2.2 M' → cQ ([] ++ x.1) M' → (((1 : Int) = 0 → Q 0 M') ∧ (¬ ((1 : Int) = 0) → (((M' 3 1) = 0 → Q 1 M') ∧ (¬ ((M' 3 1) = 0) → (∀ M21 : Mem, M21 = (fmX9_unasked M') → (((if fX9_unasked = 0 then (0 : Int) else 1) : Int) = 0 ∨ ((if fX9_unasked = 0 then (0 : Int) else 1) : Int) = 1) ∧ Q (if fX9_unasked = 0 then (0 : Int) else 1) M21)))))) := by
    intro F hF hO
    refine ⟨fun f pl hf M' t c => ⟨fun _ => hF f pl (bnd_l hf) M' (fq_t f12 (fq_q t)) c, fun y => absurd rfl y⟩, fun x hx M' t k c => ⟨fun y => absurd y (by decide), fun _ => ?_⟩⟩
    rw [bnd_r hx] at hF hO
    rw [k.1.2.2.2.1]
    refine ⟨fun y => ?_, fun y M21 h21 => ?_⟩
    · rw [if_pos y] at hO
      exact hO _ rfl M' (fq_t f12 (fq_q t)) k.2.1 k.2.2 (by rw [t.1 5 (by decide) (by decide) (by decide)]; exact e12) c
    · rw [if_neg y] at hF
      have un := una_c k
      rw [h21]
      exact ⟨Or.inl rfl, hF 1 x.2.1 rfl _ (fq_t f12 (fq_t (fq_q t) (fq_c un.1))) un.2⟩
  rw [e12]
  refine ⟨fun y => ?_, fun y => ?_⟩
  · rw [if_pos y] at HF HO
    have T := tail _ HF HO
    exact Q_c 60 4 0 (by decide) (by decide) (by decide) _ _ [] M12 _ k12 c12 (by show (0 : Int) ≤ nxp b n p; omega) T.1 T.2
  · rw [if_neg y] at HF HO
    have T := tail _ HF HO
    exact Q_c 60 0 0 (by decide) (by decide) (by decide) _ _ [] M12 _ k12 c12 (by show (0 : Int) ≤ nxp b n p; omega) T.1 T.2
/-- what the reference's ask changes -/
def fRq (M M' : Mem) : Prop := (∀ q, q ≠ 66 → (q < 93 ∨ (99 < q ∧ q ≠ 122 ∧ q ≠ 123 ∧ q ≠ 124)) → M' q = M q) ∧ ∀ j, (j = 38 ∨ j = 39 ∨ j = 42 ∨ j = 54 ∨ j = 55 ∨ j = 56 ∨ j = 89) → M' 66 j = M 66 j
theorem fRq_r (M : Mem) : fRq M M := ⟨fun _ _ _ => rfl, fun _ _ => rfl⟩
theorem fRq_t {M N O : Mem} (a : fRq M N) (c : fRq N O) : fRq M O := ⟨fun q x y => (c.1 q x y).trans (a.1 q x y), fun j x => (c.2 j x).trans (a.2 j x)⟩
theorem fRq_q {M N : Mem} (h : qfr M N) : fRq M N := ⟨fun q x y => h.1 q x (by omega) (by omega), fun j x => h.2 j (by omega) (by omega) (by omega) (by omega) (by omega) (by omega) (by omega) (by omega) (by omega)⟩
theorem fRq_1 {j x : Int} (h : j ≠ 38 ∧ j ≠ 39 ∧ j ≠ 42 ∧ j ≠ 54 ∧ j ≠ 55 ∧ j ≠ 56 ∧ j ≠ 89) : fRq M (mset M 66 j x) := ⟨fun q a _ => mset_p a, fun i a => mset_k (by omega)⟩
theorem fRq_m {q j x : Int} (h : fRq M N) (hj : j ≠ 38 ∧ j ≠ 39 ∧ j ≠ 42 ∧ j ≠ 54 ∧ j ≠ 55 ∧ j ≠ 56 ∧ j ≠ 89) : fRq M (mset N 66 j x) := fRq_t h (fRq_1 hj)
theorem fRq_p (h : rPl H C M N) : fRq M N := ⟨fun q a c => h.1 q (by omega), fun j a => h.2.1 j (by omega) (by omega) (by omega)⟩
theorem lp182 {kd hh : Int} {c : Cds} (ho : Hok H) (C0 : 0 ≤ C) (C2 : C < 512) (k0 : 0 ≤ kd ∧ kd ≤ 5) (hl : (c.length : Int) ≤ 1600) (h64 : hh ≤ 64) (hg : ∀ t, 0 ≤ t ∧ t ≤ 200 → good H C t (decide (kd < 3)) hh c) : ∀ (k m : Nat) (M : Mem), m ≤ 201 → 201 < m + k → rD H C M → cR c M → M 66 86 = acc (qv H C c) kd m → M 66 87 = (if m = 0 then 1 else 0) → (∀ M' : Mem, fRq M M' → (∀ j, j = 1 ∨ j = 7 ∨ j = 8 → M' 66 j = M 66 j) → Q (acc (qv H C c) kd 201) M') → PX12_ask_182 kd (fun M45 => Q (M45 66 86) M45) Q k m M := by
  intro k
  induction k with
  | zero => intro m M _ _; omega
  | succ k ih =>
    intro m M m1 hk rd cr e86 e87 hQ
    refine ⟨fun z => ?_, fun z => ?_⟩
    · have : m = 201 := by omega
      rw [this] at e86
      have := hQ M (fRq_r M) (fun _ _ => rfl)
      rw [← e86] at this
      exact this
    · have gv := good_v (hg m ⟨by omega, by omega⟩) h64
      refine told_r ho C0 C2 ⟨by omega, by omega⟩ rd cr hl (hg m ⟨by omega, by omega⟩) h64 (fun M3 f3 => ?_)
      have a86 : M3 66 86 = acc (qv H C c) kd m := by rw [f3.2 86 (by decide)]; exact e86
      have a87 : M3 66 87 = (if m = 0 then 1 else 0) := by rw [f3.2 87 (by decide)]; exact e87
      refine takes_q k0 a86 a87 (fun w => ?_) gv.2.2.1 (fun M6 r6 x86 x87 => ?_)
      · unfold acc
        rcases w with w | w
        · rw [w, if_neg (by decide), if_neg (by decide), if_pos rfl]
          have := ofv_b (qv H C c) m
          omega
        · rw [w, if_neg (by decide), if_neg (by decide), if_neg (by decide), if_pos rfl]
          have := smv_b (v := qv H C c) (fun t t0 t1 => (good_v (hg t ⟨t0, t1⟩) h64).2.2.1) m m1
          omega
      · have as := acc_s (v := qv H C c) k0 m (fun w => gv.2.2.2 (decide_eq_true w))
        rw [wad (by omega) (by omega), show (m : Int) + 1 = ((m + 1 : Nat) : Int) by omega]
        have f6 : fRq M M6 := ⟨fun q a d => (r6.1 q a).trans (f3.1 q a (by omega)), fun j d => (r6.2 j (by omega) (by omega)).trans (f3.2 j (by omega))⟩
        refine ih (m + 1) M6 (by omega) (by omega) (rD_f (fun q a _ => r6.1 q a) (fun j hj => r6.2 j (by omega) (by omega)) (rD_r f3 rd)) ?_ (by rw [x86]; exact as.symm) (by rw [x87, if_neg (by omega)]) (fun M' f g => hQ M' (fRq_t f6 f) (fun j hj => by rw [g j hj, r6.2 j (by omega) (by omega), f3.2 j (by omega)]))
        exact cR_c (by rw [r6.2 79 (by decide) (by decide), f3.2 79 (by decide)]) (by rw [r6.1 122 (by decide), f3.1 122 (by decide) (by decide)]) cr
/-- a fault goes out -/
theorem RS_F {a22 f pl : Int} (x : rX f pl M) (hQ : ∀ M' : Mem, fRq M M' → M' 66 1 = M 66 1 → M' 66 7 = f → M' 66 8 = pl → Q (-1000000000000000) M') : RSq a22 Q M := by
  intro M32 h32 M34 h34
  have e5 : M34 66 5 = f := by rw [h34, mset_k (by decide), h32, mset_k (by decide)]; exact x.1
  rw [e5]
  refine ⟨fun z => absurd z x.2.2, fun _ => hQ M34 (by rw [h34, h32]; exact fRq_m (q := 0) (fRq_1 (by decide)) (by decide)) ?_ ?_ ?_⟩
  · rw [h34, mset_k (by decide), h32, mset_k (by decide)]
  · rw [h34, mset_k (by decide), h32, mset_e]; exact x.1
  · rw [h34, mset_e, h32, mset_k (by decide)]; exact x.2.1
theorem RS_O {kd hh : Int} {c : Cds} (ho : Hok H) (hr : Rh H M) (hC : M 66 42 = C) (C0 : 0 ≤ C) (C2 : C < 512) (k0 : 0 ≤ kd ∧ kd ≤ 5) (hl : (c.length : Int) ≤ 1600) (h64 : hh ≤ 64) (hg : ∀ t, 0 ≤ t ∧ t ≤ 200 → good H C t (decide (kd < 3)) hh c) (h5 : M 66 5 = 0) (h6 : M 66 6 = -1) (cr : cR c M) (hQ : ∀ M' : Mem, fRq M M' → M' 66 1 = M 66 1 → M' 66 7 = 0 → M' 66 8 = -1 → Q (acc (qv H C c) kd 201) M') : RSq kd Q M := by
  intro M32 h32 M34 h34
  have e5 : M34 66 5 = 0 := by rw [h34, mset_k (by decide), h32, mset_k (by decide)]; exact h5
  rw [e5]
  refine ⟨fun _ M38 h38 M40 h40 => ?_, fun z => absurd rfl z⟩
  have F40 : fRq M M40 := by rw [h40, h38, h34, h32]; exact fRq_m (q := 0) (fRq_m (q := 0) (fRq_m (q := 0) (fRq_1 (by decide)) (by decide)) (by decide)) (by decide)
  have o66 : ∀ j, j ≠ 7 → j ≠ 8 → j ≠ 86 → j ≠ 87 → M40 66 j = M 66 j := fun j a b c d => by rw [h40, mset_k d, h38, mset_k c, h34, mset_k b, h32, mset_k a]
  have q66 : ∀ q, q ≠ 66 → M40 q = M q := fun q a => by rw [h40, mset_p a, h38, mset_p a, h34, mset_p a, h32, mset_p a]
  have e7 : M40 66 7 = 0 := by rw [h40, mset_k (by decide), h38, mset_k (by decide), h34, mset_k (by decide), h32, mset_e]; exact h5
  have e8 : M40 66 8 = -1 := by rw [h40, mset_k (by decide), h38, mset_k (by decide), h34, mset_e, h32, mset_k (by decide)]; exact h6
  have e86 : M40 66 86 = (if 2 ≤ kd then (0 : Int) else (-1)) := by rw [h40, mset_k (by decide), h38, mset_e]
  have e87 : M40 66 87 = 1 := by rw [h40, mset_e]
  clear h40 h38 h34 h32
  have hr40 : Rh H M40 := by
    unfold Rh at hr ⊢
    rw [o66 38 (by decide) (by decide) (by decide) (by decide), o66 39 (by decide) (by decide) (by decide) (by decide), q66 85 (by decide), q66 86 (by decide), q66 87 (by decide), q66 88 (by decide), q66 89 (by decide), q66 90 (by decide), q66 91 (by decide), q66 92 (by decide)]
    exact hr
  have hC40 : M40 66 42 = C := by rw [o66 42 (by decide) (by decide) (by decide) (by decide)]; exact hC
  refine pl_s ho hr40 C0 C2 hC40 (fun M42 r42 => ⟨202, ?_⟩)
  have rd : rD H C M42 := by
    refine ⟨⟨fun _ _ => rfl, fun _ _ _ _ => rfl, r42.2.2.1, r42.2.2.2.1, r42.2.2.2.2.1, r42.2.2.2.2.2⟩, ?_, by rw [r42.2.1 42 (by decide) (by decide) (by decide)]; exact hC40⟩
    unfold Rh at hr40 ⊢
    rw [r42.2.1 38 (by decide) (by decide) (by decide), r42.2.1 39 (by decide) (by decide) (by decide), r42.1 85 (by decide), r42.1 86 (by decide), r42.1 87 (by decide), r42.1 88 (by decide), r42.1 89 (by decide), r42.1 90 (by decide), r42.1 91 (by decide), r42.1 92 (by decide)]
    exact hr40
  have cr42 : cR c M42 := cR_c (by rw [r42.2.1 79 (by decide) (by decide) (by decide), o66 79 (by decide) (by decide) (by decide) (by decide)]) (by rw [r42.1 122 (by decide), q66 122 (by decide)]) cr
  refine lp182 ho C0 C2 k0 hl h64 hg 202 0 M42 (by decide) (by decide) rd cr42 ?_ (by rw [r42.2.1 87 (by decide) (by decide) (by decide), e87]; rfl) (fun M' f g => hQ M' (fRq_t F40 (fRq_t (fRq_p r42) f)) ?_ ?_ ?_)
  · rw [r42.2.1 86 (by decide) (by decide) (by decide), e86]
    have k6 : kd = 0 ∨ kd = 1 ∨ kd = 2 ∨ kd = 3 ∨ kd = 4 ∨ kd = 5 := by omega
    rcases k6 with rfl | rfl | rfl | rfl | rfl | rfl <;> rfl
  · rw [g 1 (by decide), r42.2.1 1 (by decide) (by decide) (by decide), o66 1 (by decide) (by decide) (by decide) (by decide)]
  · rw [g 7 (by decide), r42.2.1 7 (by decide) (by decide) (by decide)]; exact e7
  · rw [g 8 (by decide), r42.2.1 8 (by decide) (by decide) (by decide)]; exact e8
theorem kind_r (h : rQ b n p e [] [] 0 M) (HF : fdx b n p e (fl 9) 0 = -1 → ∀ M' : Mem, rfr M M' → rX 1 p M' → Q 5 M') (HO : ∀ k, fdx b n p e (fl 9) 0 = k → k ≠ -1 → ∀ M' : Mem, rfr M M' → rQ b n (nxp b n p) (nxe b n p) [] [] 0 M' → Q k M') : PX12_qKind M Q := by
  have tk : ∀ {i L : Nat} {N : Mem} {P0 : Mem → Prop} {P1 : Mem → Prop}, 102 ≤ i ∧ i ≤ 121 → (wd i).length = L → rfr M N → rQ b n p e [] [] 0 N → (iswd b n p e (wd i) = false → ∀ M' : Mem, rfr M M' → rQ b n p e [] [] 0 M' → P0 M') → (iswd b n p e (wd i) = true → ∀ M' : Mem, rfr M M' → rQ b n (nxp b n p) (nxe b n p) [] [] 0 M' → P1 M') → PX12_takes (i : Nat) L N (fun a M2 => ((a = 0 → P0 M2) ∧ (¬ (a = 0) → P1 M2))) := by
    intro i L N P0 P1 hi hL f q h0 h1
    rw [← hL]
    exact takes_r q.1 (q.2.2.2.2 i hi) (by omega) (fun z M' r k _ => ⟨fun _ => h0 z M' (rfr_t f r) (rQ_f r k q), fun y => absurd rfl y⟩) (fun z M' r k => ⟨fun y => absurd y (by decide), fun _ => h1 z M' (rfr_t f r) (rQ_f r k q)⟩)
  have e9 : fl 9 = [102, 103, 104, 105, 106, 107] := rfl
  rw [e9] at HF HO
  have fin : ∀ k : Int, fdx b n p e [102, 103, 104, 105, 106, 107] 0 = k → 0 ≤ k → k < 5 → ∀ M' : Mem, rfr M M' → rQ b n (nxp b n p) (nxe b n p) [] [] 0 M' → ((k = 5 → PX12_asks 107 5 M' (fun _ M10 => Q k M10)) ∧ (¬ (k = 5) → Q k M')) := fun k hk k0 k5 M' r q => ⟨fun z => by omega, fun _ => HO k hk (by omega) M' r q⟩
  have J : ∀ (a1 : Int) (N : Mem) (P : (Int → Mem → Prop) → Prop), P (fun u5 M6 => ((u5 = 5 → PX12_asks 107 5 M6 (fun _ M10 => Q u5 M10)) ∧ (¬ (u5 = 5) → Q u5 M6))) → (∃ j4 : Int → Mem → Prop, (∀ (u5 : Int) (M6 : Mem), j4 u5 M6 → ((u5 = 5 → PX12_asks 107 5 M6 (fun _ M10 => Q u5 M10)) ∧ (¬ (u5 = 5) → Q u5 M6))) ∧ P j4) := fun a1 N P hP => ⟨_, fun _ _ h => h, hP⟩
  refine takes_r (i := ((102 : Nat) : Int)) (w := wd 102) h.1 (h.2.2.2.2 102 (by decide)) (by decide) (fun z0 N0 r0 k0 _ => ⟨_, fun _ _ h => h, fun _ => ?_, fun y => absurd rfl y⟩) (fun z N r k => ⟨_, fun _ _ h => h, fun y => absurd y (by decide), fun _ => fin 0 (fdx_c1 z) (by decide) (by decide) N r (rQ_f r k h)⟩)
  refine tk (i := 103) (by decide) rfl r0 (rQ_f r0 k0 h) (fun z1 N1 r1 q1 => ?_) (fun z N r q => fin 1 (by rw [fdx_c0 z0, fdx_c1 z]; rfl) (by decide) (by decide) N r q)
  refine tk (i := 104) (by decide) rfl r1 q1 (fun z2 N2 r2 q2 => ?_) (fun z N r q => fin 2 (by rw [fdx_c0 z0, fdx_c0 z1, fdx_c1 z]; rfl) (by decide) (by decide) N r q)
  refine tk (i := 105) (by decide) rfl r2 q2 (fun z3 N3 r3 q3 => ?_) (fun z N r q => fin 3 (by rw [fdx_c0 z0, fdx_c0 z1, fdx_c0 z2, fdx_c1 z]; rfl) (by decide) (by decide) N r q)
  refine tk (i := 106) (by decide) rfl r3 q3 (fun z4 N4 r4 q4 => ?_) (fun z N r q => fin 4 (by rw [fdx_c0 z0, fdx_c0 z1, fdx_c0 z2, fdx_c0 z3, fdx_c1 z]; rfl) (by decide) (by decide) N r q)
  refine ⟨fun _ => ?_, fun y => absurd rfl y⟩
  refine asks_r (i := ((107 : Nat) : Int)) (w := wd 107) q4.1 (q4.2.2.2.2 107 (by decide)) (by decide) (fun z M' r f => HF ?_ M' (rfr_t r4 r) (rfl_x f (by decide))) (fun z M' r k => HO 5 ?_ (by decide) M' (rfr_t r4 r) (rQ_f r k q4))
  · rw [fdx_c0 z0, fdx_c0 z1, fdx_c0 z2, fdx_c0 z3, fdx_c0 z4, fdx_c0 z]; rfl
  · rw [fdx_c0 z0, fdx_c0 z1, fdx_c0 z2, fdx_c0 z3, fdx_c0 z4, fdx_c1 z]; rfl
/-- behind what was asked: the end of the tape -/
theorem X26_F {a22 f pl : Int} (x : rX f pl M) (hQ : RSq a22 Q M) : X26q a22 Q M := ⟨_, fun _ h => h, fun z => absurd (x.1.symm.trans z) x.2.2, fun _ => hQ⟩
theorem X26_O {a22 : Int} {c : Cds} (h : rQ b n p e c [] 0 M) (hF : knd b n p e ≠ 0 → ∀ M' : Mem, rfr M M' → rX 1 p M' → RSq a22 Q M') (hO : knd b n p e = 0 → ∀ M' : Mem, rfr M M' → rQ b n p e c [] 0 M' → RSq a22 Q M') : X26q a22 Q M := by
  refine ⟨_, fun _ h => h, fun _ => look_q h (fun M5 r5 q5 a5 => ?_), fun z => absurd h.1.2.1 z⟩
  by_cases z : n ≤ p
  · rw [if_pos z]
    exact ⟨fun _ => hO (knd_0.mpr z) M5 r5 q5, fun y => absurd rfl y⟩
  · rw [if_neg z]
    have ok : bOK b n p := h.1.1.1
    have bb := ok.2.2.1 p ok.2.2.2.1 (by omega)
    refine ⟨fun y => by omega, fun _ M54 h54 => ?_⟩
    have f := rfail q5.1 1 p
    rw [a5] at h54
    rw [h54]
    exact hF (fun y => z (knd_0.mp y)) _ (rfr_t r5 f.1) (rfl_x f.2 (by decide))
theorem ask_rr (ho : Hok H) (hr : Rh H N) (hK : wR N) (hC : N 66 42 = C) (C0 : 0 ≤ C) (C2 : C < 512) (hn : 0 ≤ n ∧ n ≤ 1600) (hb : ∀ k, 0 ≤ k → k < n → 0 ≤ b k ∧ b k ≤ 255) (h1 : N 66 1 = n) (h2 : ∀ k, 0 ≤ k → k < n → N 67 k = b k) (h0 : ¬ H 0 0 = 0)
    (HF : ∀ f pl, qText b n = Sum.inl (f, pl) → ∀ M' : Mem, fRq N M' → M' 66 1 = 0 → M' 66 7 = f → M' 66 8 = pl → Q (-1000000000000000) M')
    (HO : ∀ x, qText b n = Sum.inr x → ∀ M' : Mem, fRq N M' → M' 66 1 = 0 → M' 66 7 = 0 → M' 66 8 = -1 → Q (acc (qv H C x.2) x.1 201) M') : PX12_ask N Q := by
  refine ⟨fun z => absurd (hr.1.1.symm.trans z) h0, fun _ M3 g3 M5 g5 M7 g7 M9 g9 M11 g11 M13 g13 M15 g15 M17 g17 M19 g19 M21 g21 => ?_⟩
  have q21 : ∀ q, q ≠ 66 → M21 q = N q := fun q x => by rw [g21, mset_p x, g19, mset_p x, g17, mset_p x, g15, mset_p x, g13, mset_p x, g11, mset_p x, g9, mset_p x, g7, mset_p x, g5, mset_p x, g3, mset_p x]
  have j21 : ∀ j, j ≠ 1 → j ≠ 2 → j ≠ 3 → j ≠ 4 → j ≠ 5 → j ≠ 6 → j ≠ 79 → j ≠ 81 → j ≠ 82 → j ≠ 83 → M21 66 j = N 66 j := fun j a b c d e f g h i k => by rw [g21, mset_k k, g19, mset_k i, g17, mset_k h, g15, mset_k g, g13, mset_k f, g11, mset_k e, g9, mset_k d, g7, mset_k b, g5, mset_k a, g3, mset_k c]
  have m82 : M21 66 82 = 0 := by rw [g21, mset_k (by decide), g19, mset_e]
  have m81 : M21 66 81 = 0 := by rw [g21, mset_k (by decide), g19, mset_k (by decide), g17, mset_e]
  have m79 : M21 66 79 = 0 := by rw [g21, mset_k (by decide), g19, mset_k (by decide), g17, mset_k (by decide), g15, mset_e]
  have m6 : M21 66 6 = -1 := by rw [g21, mset_k (by decide), g19, mset_k (by decide), g17, mset_k (by decide), g15, mset_k (by decide), g13, mset_e]
  have m5 : M21 66 5 = 0 := by rw [g21, mset_k (by decide), g19, mset_k (by decide), g17, mset_k (by decide), g15, mset_k (by decide), g13, mset_k (by decide), g11, mset_e]
  have m4 : M21 66 4 = -1 := by rw [g21, mset_k (by decide), g19, mset_k (by decide), g17, mset_k (by decide), g15, mset_k (by decide), g13, mset_k (by decide), g11, mset_k (by decide), g9, mset_e]
  have m2 : M21 66 2 = 0 := by rw [g21, mset_k (by decide), g19, mset_k (by decide), g17, mset_k (by decide), g15, mset_k (by decide), g13, mset_k (by decide), g11, mset_k (by decide), g9, mset_k (by decide), g7, mset_e]
  have m1 : M21 66 1 = 0 := by rw [g21, mset_k (by decide), g19, mset_k (by decide), g17, mset_k (by decide), g15, mset_k (by decide), g13, mset_k (by decide), g11, mset_k (by decide), g9, mset_k (by decide), g7, mset_k (by decide), g5, mset_e]
  have m3 : M21 66 3 = n := by rw [g21, mset_k (by decide), g19, mset_k (by decide), g17, mset_k (by decide), g15, mset_k (by decide), g13, mset_k (by decide), g11, mset_k (by decide), g9, mset_k (by decide), g7, mset_k (by decide), g5, mset_k (by decide), g3, mset_e]; exact h1
  clear g21 g19 g17 g15 g13 g11 g9 g7 g5 g3
  have F21 : fRq N M21 := ⟨fun q a _ => q21 q a, fun j a => j21 j (by omega) (by omega) (by omega) (by omega) (by omega) (by omega) (by omega) (by omega) (by omega) (by omega)⟩
  have s := fwd_s (f := blk) (b := b) (n := n) (i := 0) hn.1
  have r21 : rQ b n (fwd blk b n 0) (-1) [] [] 0 M21 := by
    refine ⟨⟨⟨⟨hn.1, hn.2, hb, s.1, s.2.1, s.2.2.2⟩, m3, fun k x y => ?_, by rw [m2]; decide, by rw [m2]; exact s.1, fun j x y => ?_, by rw [m4], by rw [m4]; exact Int.le_trans (by decide) s.1⟩, m5, m6⟩, ⟨m79, fun i hi => absurd hi (Nat.not_lt_zero i)⟩, ⟨m81, trivial⟩, m82, fun i hi j hj => ?_⟩
    · rw [q21 67 (by decide)]; exact h2 k x y
    · rw [m2] at x; exact s.2.2.1 j x y
    · rw [q21 (i : Nat) (by omega)]; exact hK i hi j hj
  have qa : qText b n = qAsk b n (fwd blk b n 0) (-1) := rfl
  have hgA : ∀ x, qText b n = Sum.inr x → ∀ t, 0 ≤ t ∧ t ≤ 200 → good H C t (decide (x.1 < 3)) 24 x.2 := fun x hx t t0 => qA_g ho hn hb hx t t0
  have hiA : ∀ x, qText b n = Sum.inr x → (0 ≤ x.1 ∧ x.1 ≤ 5) ∧ (x.2.length : Int) ≤ 1600 := fun x hx => ⟨(qA_i hn hb hx).1, (qA_i hn hb hx).2.1⟩
  have p0 := s.1
  obtain ⟨p, hp⟩ : ∃ p, p = fwd blk b n 0 := ⟨_, rfl⟩
  rw [← hp] at r21 qa p0
  -- rests
  have RF : ∀ (a22 f pl : Int), qText b n = Sum.inl (f, pl) → ∀ M' : Mem, qfr M21 M' → rX f pl M' → RSq a22 Q M' := fun a22 f pl hf M' g x => RS_F x (fun M2 f2 e1 e7 e8 => HF f pl hf M2 (fRq_t F21 (fRq_t (fRq_q g) f2)) (by rw [e1, g.2 1 (by decide) (by decide) (by decide) (by decide) (by decide) (by decide) (by decide) (by decide) (by decide)]; exact m1) e7 e8)
  have RO : ∀ x : Int × Cds, qText b n = Sum.inr x → ∀ (M' : Mem) (p' e' : Int), qfr M21 M' → rQ b n p' e' x.2 [] 0 M' → RSq x.1 Q M' := by
    intro x hx M' p' e' g r
    have hr' : Rh H M' := by
      unfold Rh at hr ⊢
      have gj : ∀ j, j = 38 ∨ j = 39 → M' 66 j = N 66 j := fun j hj => by rw [(fRq_q g).2 j (by omega)]; exact F21.2 j (by omega)
      have gq : ∀ q, 84 < q → q < 93 → M' q = N q := fun q a c => by rw [g.1 q (by omega) (by omega) (by omega)]; exact q21 q (by omega)
      rw [gj 38 (by decide), gj 39 (by decide), gq 85 (by decide) (by decide), gq 86 (by decide) (by decide), gq 87 (by decide) (by decide), gq 88 (by decide) (by decide), gq 89 (by decide) (by decide), gq 90 (by decide) (by decide), gq 91 (by decide) (by decide), gq 92 (by decide) (by decide)]
      exact hr
    exact RS_O ho hr' (by rw [(fRq_q g).2 42 (by decide), F21.2 42 (by decide)]; exact hC) C0 C2 (hiA x hx).1 (hiA x hx).2 (by decide) (hgA x hx) r.1.2.1 r.1.2.2 r.2.1 (fun M2 f2 e1 e7 e8 => HO x hx M2 (fRq_t F21 (fRq_t (fRq_q g) f2)) (by rw [e1, g.2 1 (by decide) (by decide) (by decide) (by decide) (by decide) (by decide) (by decide) (by decide) (by decide)]; exact m1) e7 e8)
  unfold qAsk at qa
  refine kind_r r21 (fun z M' r x => ?_) (fun k hk k1 M' r q => ?_)
  · rw [if_pos z] at qa
    have R := RF 5 1 p qa M' (qfr_f r) x
    refine ⟨X26q 5 Q, fun _ h => h, fun y => absurd (x.1.symm.trans y) x.2.2, fun _ => ⟨fun y => absurd (x.1.symm.trans y) x.2.2, fun _ => X26_F x R⟩⟩
  · rw [hk, if_neg k1] at qa
    refine ⟨X26q k Q, fun _ h => h, fun _ => ?_, fun y => absurd q.1.2.1 y⟩
    have ok : bOK b n p := r21.1.1.1
    have a := advq ok (Or.inl (fdx_k (is := fl 9) (k := 0) (by rw [hk]; exact k1)))
    have tail : ∀ F : Rd, qText b n = bnd F (fun x => if knd b n x.2.1 x.2.2 = 0 then (Sum.inr (k, x.1) : Sum (Int × Int) (Int × Cds)) else Sum.inl (1, x.2.1)) → (∀ f pl, F = Sum.inl (f, pl) → ∀ M2 : Mem, qfr M' M2 → rX f pl M2 → X26q k Q M2) ∧ (∀ x, F = Sum.inr x → ∀ M2 : Mem, qfr M' M2 → rQ b n x.2.1 x.2.2 x.1 [] 0 M2 → X26q k Q M2) := by
      intro F hF
      refine ⟨fun f pl hf M2 g x => X26_F x (RF k f pl (hF.trans (bnd_l hf)) M2 (qfr_t (qfr_f r) g) x), fun x hx M2 g q2 => ?_⟩
      rw [bnd_r hx] at hF
      refine X26_O q2 (fun y M4 r4 x4 => ?_) (fun y M4 r4 q4 => ?_)
      · rw [if_neg y] at hF
        exact RF k 1 x.2.1 hF M4 (qfr_t (qfr_f r) (qfr_t g (qfr_f r4))) x4
      · rw [if_pos y] at hF
        exact RO (k, x.1) hF M4 x.2.1 x.2.2 (qfr_t (qfr_f r) (qfr_t g (qfr_f r4))) q4
    refine ⟨fun y => ⟨fun _ => ?_, fun w => absurd q.1.2.1 w⟩, fun y => ?_⟩
    · rw [if_pos (show 2 < k by omega)] at qa
      have T := tail _ qa
      refine qsum_r (k := 60) (d := 0) (c := []) (w0 := []) (fun s hs => absurd hs (by simp)) (by decide) (by decide) q (by show (0 : Int) + 0 ≤ nxp b n p; have := a.1; omega) (fun f pl hf M2 g x => T.1 f pl hf M2 g x.1) (fun x hx M2 g q2 => T.2 x hx M2 g q2)
    · rw [if_neg (show ¬ 2 < k by omega)] at qa
      have T := tail _ qa
      exact qtest_r (k := 60) (by decide) q T.1 T.2
end
