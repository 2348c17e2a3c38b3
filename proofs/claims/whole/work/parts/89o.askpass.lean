/-! ask: the reference's passes over a sum -/
def AKq (R : Int → Mem → Prop) : Mem → Prop := (fun M2 => (((M2 66 5) = 0 → PX12_qWordOf 0 6 M2 (fun a5 M6 => (∃ j8 : Mem → Prop, (∀ (M9 : Mem), j8 M9 → (∃ j11 : Int → Mem → Prop, (∀ (u12 : Int) (M13 : Mem), j11 u12 M13 → (nX12_qCode M13) ∧ (∀ M17 : Mem, M17 = (fmX12_qCode M13 u12) → PX12_qEndsPart M17 (fun _ M19 => R 0 M19))) ∧ ((a5 = (-1) → PX12_number 0 9999 M9 (fun a22 M23 => j11 (wr32 (1000 + a22)) M23)) ∧ (¬ (a5 = (-1)) → j11 (wr32 (40 + a5)) M9)))) ∧ ((a5 = (-1) → j8 M6) ∧ (¬ (a5 = (-1)) → PX12_qAsksWord a5 M6 (fun _ M27 => j8 M27)))))) ∧ (¬ ((M2 66 5) = 0) → R 0 M2)))
def GKq (Q : Int → Mem → Prop) : Mem → Prop := (fun M2 => PX12_takesSign 42 M2 (fun a4 M5 => ((a4 = 0 → PX12_takesSign 47 M5 (fun a17 M18 => ((a17 = 0 → PX12_takesSign 43 M18 (fun a21 M22 => ((a21 = 0 → PX12_takesSign 45 M22 (fun a34 M35 => ((a34 = 0 → PX12_qBracket M35 (fun a38 M39 => ((a38 = 21 → PX12_asksSign 44 M39 (fun _ M43 => (((M43 66 5) = 0 → PX12_qDropsToBracket M43 (fun _ M47 => 0 ≤ (wr32 ((M47 66 81) - 1)) ∧ (wr32 ((M47 66 81) - 1)) < 1700 ∧ 0 ≤ (wr32 ((M47 66 81) - 1)) ∧ (wr32 ((M47 66 81) - 1)) < 1700 ∧ (∀ M50 : Mem, M50 = (mset M47 123 (wr32 ((M47 66 81) - 1)) (wr32 ((M47 123 (wr32 ((M47 66 81) - 1))) + 2))) → Q 1 M50))) ∧ (¬ ((M43 66 5) = 0) → Q 0 M43)))) ∧ (¬ (a38 = 21) → PX12_qBracket M39 (fun a51 M52 => ((a51 = 22 → PX12_asksSign 44 M52 (fun _ M63 => (((M63 66 5) = 0 → PX12_qDropsToBracket M63 (fun _ M67 => 0 ≤ (wr32 ((M67 66 81) - 1)) ∧ (wr32 ((M67 66 81) - 1)) < 1700 ∧ 0 ≤ (wr32 ((M67 66 81) - 1)) ∧ (wr32 ((M67 66 81) - 1)) < 1700 ∧ (∀ M70 : Mem, M70 = (mset M67 123 (wr32 ((M67 66 81) - 1)) (wr32 ((M67 123 (wr32 ((M67 66 81) - 1))) + 2))) → Q 1 M70))) ∧ (¬ ((M63 66 5) = 0) → Q 0 M63)))) ∧ (¬ (a51 = 22) → PX12_qBracket M52 (fun a55 M56 => ((a55 = (-1) → Q 0 M56) ∧ (¬ (a55 = (-1)) → (((M56 66 5) = 0 → (∀ M61 : Mem, M61 = (fmX12_fail M56 1 (M56 66 2)) → Q 0 M61)) ∧ (¬ ((M56 66 5) = 0) → Q 0 M56)))))))))))) ∧ (¬ (a34 = 0) → 0 ≤ (wr32 ((M35 66 2) - 1)) ∧ (wr32 ((M35 66 2) - 1)) < 1600 ∧ (∃ k72 : Nat, PX12_qGoesOn_247 (fun M73 => 0 ≤ (M73 66 81) ∧ (M73 66 81) < 1700 ∧ (∀ M76 : Mem, M76 = (mset M73 123 (M73 66 81) (if (M35 67 (wr32 ((M35 66 2) - 1))) = 43 then (1 : Int) else 2)) → (∀ M78 : Mem, M78 = (mset M76 66 81 (wr32 ((M76 66 81) + 1))) → Q 1 M78))) Q k72 M35))))) ∧ (¬ (a21 = 0) → 0 ≤ (wr32 ((M22 66 2) - 1)) ∧ (wr32 ((M22 66 2) - 1)) < 1600 ∧ (∃ k26 : Nat, PX12_qGoesOn_247 (fun M27 => 0 ≤ (M27 66 81) ∧ (M27 66 81) < 1700 ∧ (∀ M30 : Mem, M30 = (mset M27 123 (M27 66 81) (if (M22 67 (wr32 ((M22 66 2) - 1))) = 43 then (1 : Int) else 2)) → (∀ M32 : Mem, M32 = (mset M30 66 81 (wr32 ((M30 66 81) + 1))) → Q 1 M32))) Q k26 M22))))) ∧ (¬ (a17 = 0) → 0 ≤ (wr32 ((M18 66 2) - 1)) ∧ (wr32 ((M18 66 2) - 1)) < 1600 ∧ (∃ k81 : Nat, PX12_qGoesOn_162 (fun M82 => 0 ≤ (M82 66 81) ∧ (M82 66 81) < 1700 ∧ (∀ M85 : Mem, M85 = (mset M82 123 (M82 66 81) (if (M18 67 (wr32 ((M18 66 2) - 1))) = 42 then (3 : Int) else 4)) → (∀ M87 : Mem, M87 = (mset M85 66 81 (wr32 ((M85 66 81) + 1))) → Q 1 M87))) Q k81 M18))))) ∧ (¬ (a4 = 0) → 0 ≤ (wr32 ((M5 66 2) - 1)) ∧ (wr32 ((M5 66 2) - 1)) < 1600 ∧ (∃ k9 : Nat, PX12_qGoesOn_162 (fun M10 => 0 ≤ (M10 66 81) ∧ (M10 66 81) < 1700 ∧ (∀ M13 : Mem, M13 = (mset M10 123 (M10 66 81) (if (M5 67 (wr32 ((M5 66 2) - 1))) = 42 then (3 : Int) else 4)) → (∀ M15 : Mem, M15 = (mset M13 66 81 (wr32 ((M13 66 81) + 1))) → Q 1 M15))) Q k9 M5)))))
theorem AKq_eq {M : Mem} {R : Int → Mem → Prop} : PX12_qPartTold M R = ∃ k1 : Nat, PX12_qPartTold_2 (AKq R) R k1 1 M := rfl
theorem GKq_eq {M : Mem} {R : Int → Mem → Prop} : PX12_qGoesOn M R = ∃ k1 : Nat, PX12_qGoesOn_0 (GKq R) R k1 M := rfl
theorem wR_f {M N : Mem} (h : rfr M N) (hR : wR M) : wR N := wR_q (qfr_f h) hR
theorem wab {x : Int} (h : -2000000000 ≤ x ∧ x ≤ 2000000000) : wr32 x = x := wr32_id ⟨by omega, by omega⟩
section
variable {b : Int → Int} {n p e o : Int} {c : Cds} {w : List Int} {M M' : Mem} {Q : Int → Mem → Prop} {K : Mem → Prop} {R : Int → Mem → Prop}
theorem rfl_x {f pl : Int} (h : rFl f pl M) (hf : f ≠ 0) : rX f pl M := ⟨h.1, h.2, hf⟩
theorem rX_2 {f pl v : Int} (h : rX f pl M) : rX f pl (mset M 66 2 v) := ⟨by rw [mset_k (by decide)]; exact h.1, by rw [mset_k (by decide)]; exact h.2.1, h.2.2⟩
theorem fr_2 {v : Int} : rfr M (mset M 66 2 v) := ⟨fun q x => mset_p x, fun j x _ _ _ _ _ => mset_k x⟩
theorem isg_n {x : Int} (hc : x ≠ -1) (hl : ¬ ltr x = true) (hd : ¬ dgt x = true) (h : isg b n p e x = false) : ¬ (if n ≤ p then -1 else b p) = x := fun z => by rw [(isg_eq (e := e) hc hl hd).mpr z] at h; cases h
theorem isg_p {x : Int} (hc : x ≠ -1) (hl : ¬ ltr x = true) (hd : ¬ dgt x = true) (h : isg b n p e x = true) : (if n ≤ p then -1 else b p) = x := (isg_eq hc hl hd).mp h
/-- behind min and max: what is open, and its sign -/
theorem mtail {s v : Int} {L : Mem → Prop} (hs : v = wco s) (h : rQ b n p e c w o M) (hl : (c.length : Int) + w.length ≤ 1600) (ho : 0 ≤ o ∧ o ≤ 6) (hF : isg b n p e 40 = false → ∀ M' : Mem, qfr M M' → rXq 1 p M' → L M') (hD : isg b n p e 40 = true → o = 6 → ∀ M' : Mem, qfr M M' → rXq 4 p M' → L M') (hO : isg b n p e 40 = true → o ≠ 6 → ∀ M' : Mem, qfr M M' → rQ b n (nxp b n p) (nxe b n p) c (s :: w) (o + 1) M' → L M') : PX12_look M (fun a20 M21 => (∃ j24 : Mem → Prop, (∀ (M25 : Mem), j24 M25 → PX12_asksSign 40 M25 (fun _ M28 => L M28)) ∧ (((if a20 = 40 then (M21 66 2) else (-1)) = (-1) → j24 M21) ∧ (¬ ((if a20 = 40 then (M21 66 2) else (-1)) = (-1)) → (nX12_qOpens M21) ∧ (∀ M34 : Mem, M34 = (fmX12_qOpens M21 v (if a20 = 40 then (M21 66 2) else (-1))) → j24 M34))))) := by
  refine look_q h (fun M2 r2 q2 a2 => ⟨_, fun _ h => h, ?_⟩)
  have p0 := q2.1.1.1.2.2.2.1
  cases z : isg b n p e 40 with
  | false =>
    rw [if_neg (isg_n (e := e) (by decide) (by decide) (by decide) z)]
    refine ⟨fun _ => asign_r (by decide) (by decide) (by decide) q2.1 (fun _ M3 r3 f => hF z M3 (qfr_f (rfr_t r2 r3)) (rXq_f q2 (by omega) r3 (rfl_x f (by decide)))) (fun y => by rw [z] at y; cases y), fun y => absurd rfl y⟩
  | true =>
    rw [if_pos (isg_p (e := e) (by decide) (by decide) (by decide) z), a2]
    have op := op_r (s := s) (pl := p) q2 (by omega) ho
    refine ⟨fun y => by omega, fun _ => ⟨op.1, fun M34 h34 => ?_⟩⟩
    rw [hs] at h34
    rw [h34]
    by_cases y : o = 6
    · have f := op.2.1 y
      exact nb_sign (by rw [f.2.1]; decide) (hD z y _ (qfr_f (rfr_t r2 f.1)) (rXq_f q2 (by omega) f.1 f.2))
    · have g := op.2.2 y
      exact asign_r (by decide) (by decide) (by decide) g.1.1 (fun u => by rw [z] at u; cases u) (fun _ M3 r3 k3 => hO z y M3 (qfr_t (qfr_f r2) (qfr_t g.2.1 (qfr_f r3))) (rQ_f r3 k3 g.1))
/-- a pass ahead of a part -/
theorem pt_r {k : Nat} (h : rQ b n p e c w o M) (hl : (c.length : Int) + w.length ≤ 1600) (ho : 0 ≤ o ∧ o ≤ 6)
    (hB1 : isg b n p e 40 = true → o = 6 → ∀ M' : Mem, qfr M M' → rXq 4 p M' → PX12_qPartTold_2 K Q k 1 M')
    (hB2 : isg b n p e 40 = true → o ≠ 6 → ∀ M' : Mem, qfr M M' → rQ b n (nxp b n p) (nxe b n p) c (20 :: w) (o + 1) M' → PX12_qPartTold_2 K Q k 1 M')
    (hM1 : ∀ s, isg b n p e 40 = false → s = fdx b n p e (fl 12) 0 → s = 8 ∨ s = 9 → isg b n (nxp b n p) (nxe b n p) 40 = false → ∀ M' : Mem, qfr M M' → rXq 1 (nxp b n p) M' → PX12_qPartTold_2 K Q k 1 M')
    (hM2 : ∀ s, isg b n p e 40 = false → s = fdx b n p e (fl 12) 0 → s = 8 ∨ s = 9 → isg b n (nxp b n p) (nxe b n p) 40 = true → o = 6 → ∀ M' : Mem, qfr M M' → rXq 4 (nxp b n p) M' → PX12_qPartTold_2 K Q k 1 M')
    (hM3 : ∀ s, isg b n p e 40 = false → s = fdx b n p e (fl 12) 0 → s = 8 ∨ s = 9 → isg b n (nxp b n p) (nxe b n p) 40 = true → o ≠ 6 → ∀ M' : Mem, qfr M M' → rQ b n (nxp b n (nxp b n p)) (nxe b n (nxp b n p)) c ((s + 13) :: w) (o + 1) M' → PX12_qPartTold_2 K Q k 1 M')
    (hO1 : ∀ s, isg b n p e 40 = false → s = fdx b n p e (fl 12) 0 → s = 6 ∨ s = 7 → o = 6 → ∀ M' : Mem, qfr M M' → rXq 4 p M' → PX12_qPartTold_2 K Q k 1 M')
    (hO2 : ∀ s, isg b n p e 40 = false → s = fdx b n p e (fl 12) 0 → s = 6 ∨ s = 7 → o ≠ 6 → ∀ M' : Mem, qfr M M' → rQ b n (nxp b n p) (nxe b n p) c (s :: w) (o + 1) M' → PX12_qPartTold_2 K Q k 1 M')
    (hE : isg b n p e 40 = false → fdx b n p e (fl 12) 0 = fdx b n p e w8 0 → fdx b n p e w8 0 < 6 → ∀ M' : Mem, qfr M M' → rQ b n p e c w o M' → PX12_qPartTold_2 K Q k 0 M') : PX12_qPartTold_2 K Q (k + 1) 1 M := by
  refine ⟨fun z => absurd z (by decide), fun _ => ⟨fun _ => ?_, fun z => absurd h.1.2.1 z⟩⟩
  refine look_q h (fun M4 r4 q4 a4 => ?_)
  refine qwo_r 6 8 q4.1 q4.2.2.2.2 (fun M7 r7 k7 a7 => ?_)
  have q7 := rQ_f r7 k7 q4
  have R7 := rfr_t r4 r7
  have p0 := q7.1.1.1.2.2.2.1
  have fb := w8_b (b := b) (n := n) (p := p) (e := e)
  cases z : isg b n p e 40 with
  | true =>
    rw [isg_p (e := e) (by decide) (by decide) (by decide) z, a7]
    have op := op_r (s := 20) (pl := p) q7 (by omega) ho
    refine ⟨fun _ => ⟨op.1, fun M81 h81 M83 h83 => ?_⟩, fun y => absurd rfl y⟩
    have h81 : M81 = fmX12_qOpens M7 (wco 20) p := h81
    rw [← h81] at op
    by_cases y : o = 6
    · have f := op.2.1 y
      rw [h83]
      exact hB1 z y _ (qfr_f (rfr_t R7 (rfr_t f.1 fr_2))) (rXq_f q7 (by omega) (rfr_t f.1 fr_2) (rX_2 f.2))
    · have g := op.2.2 y
      have sg := sg_r g.1 (isg_k z).1 (by rw [g.2.2]; exact a7)
      rw [← h83] at sg
      exact hB2 z y _ (qfr_t (qfr_f R7) (qfr_t g.2.1 (qfr_f sg.2))) sg.1
  | false =>
    refine ⟨fun y => absurd y (isg_n (e := e) (by decide) (by decide) (by decide) z), fun _ => ?_⟩
    refine hw1 (i := 112) (by decide) rfl k7 q7.2.2.2.2 (fun z1 M11 r11 k11 a11 => ?_) (fun z1 M11 r11 k11 a11 => ?_)
    · -- min
      have q11 := rQ_f r11 k11 q7
      have e8 := mm_112 z1
      refine takes_r (i := ((112 : Nat) : Int)) (w := wd 112) k11 (q11.2.2.2.2 112 (by decide)) (by decide) (fun y => by rw [z1] at y; cases y) (fun _ M15 r15 k15 => ⟨_, fun _ h => h, fun y => absurd y (by decide), fun _ => ?_⟩)
      have q15 := rQ_f r15 k15 q11
      have R15 := rfr_t (rfr_t R7 r11) r15
      exact mtail (s := 21) (by rfl) q15 hl ho (fun y M' f x => hM1 8 z e8.symm (Or.inl rfl) y M' (qfr_t (qfr_f R15) f) x) (fun y y' M' f x => hM2 8 z e8.symm (Or.inl rfl) y y' M' (qfr_t (qfr_f R15) f) x) (fun y y' M' f x => hM3 8 z e8.symm (Or.inl rfl) y y' M' (qfr_t (qfr_f R15) f) x)
    · have q11 := rQ_f r11 k11 q7
      refine hw1 (i := 113) (by decide) rfl k11 q11.2.2.2.2 (fun z2 M42 r42 k42 a42 => ?_) (fun z2 M42 r42 k42 a42 => ?_)
      · have q42 := rQ_f r42 k42 q11
        have e9 := mm_113 z1 z2
        refine takes_r (i := ((112 : Nat) : Int)) (w := wd 112) k42 (q42.2.2.2.2 112 (by decide)) (by decide) (fun _ M53 r53 k53 a53 => ⟨_, fun _ h => h, fun _ => ?_, fun y => absurd rfl y⟩) (fun y => by rw [z1] at y; cases y)
        have q53 := rQ_f r53 k53 q42
        refine aw1 (i := 113) (by decide) rfl k53 q53.2.2.2.2 z2 (fun M15 r15 k15 => ?_)
        have q15 := rQ_f r15 k15 q53
        have R15 := rfr_t (rfr_t (rfr_t (rfr_t R7 r11) r42) r53) r15
        exact mtail (s := 22) (by rfl) q15 hl ho (fun y M' f x => hM1 9 z e9.symm (Or.inr rfl) y M' (qfr_t (qfr_f R15) f) x) (fun y y' M' f x => hM2 9 z e9.symm (Or.inr rfl) y y' M' (qfr_t (qfr_f R15) f) x) (fun y y' M' f x => hM3 9 z e9.symm (Or.inr rfl) y y' M' (qfr_t (qfr_f R15) f) x)
      · have q42 := rQ_f r42 k42 q11
        have R42 := rfr_t (rfr_t R7 r11) r42
        have e12 := mm_w8 (b := b) (n := n) (p := p) (e := e) z1 z2
        by_cases v : fdx b n p e w8 0 < 6
        · rw [if_pos v]
          exact ⟨fun _ => hE z e12 v M42 (qfr_f R42) q42, fun y => absurd rfl y⟩
        · rw [if_neg v, if_neg (by omega)]
          obtain ⟨s, hs⟩ : ∃ s, s = fdx b n p e w8 0 := ⟨_, rfl⟩
          rw [← hs] at fb v e12 ⊢
          have s67 : s = 6 ∨ s = 7 := by omega
          have ew : wr32 (wr32 (60 + s) - 6) = wco s := by
            rcases s67 with rfl | rfl <;> decide
          have op := op_r (s := s) (pl := p) q42 (by omega) ho
          refine ⟨fun y => by omega, fun _ => ⟨op.1, fun M48 h48 => ?_⟩⟩
          rw [ew, a42] at h48
          rw [← h48] at op
          by_cases y : o = 6
          · have f := op.2.1 y
            exact nb_aw (by rw [f.2.1]; decide) (hO1 s z e12.symm s67 y M48 (qfr_f (rfr_t R42 f.1)) (rXq_f q42 (by omega) f.1 f.2))
          · have g := op.2.2 y
            exact aw_r g.1.1 g.1.2.2.2.2 hs.symm (by omega) (fun M' r k => hO2 s z e12.symm s67 y M' (qfr_t (qfr_f R42) (qfr_t g.2.1 (qfr_f r))) (rQ_f r k g.1))
/-- a part without one behind it -/
def pPt (b : Int → Int) (n p e : Int) : Rd := if knd b n p e = 2 then bnd (pN b n p e 0 9999 p) (fun v => Sum.inr ([(20, v.1)], v.2.1, v.2.2)) else if fdx b n p e (fl 12) 0 = -1 then Sum.inl (1, p) else Sum.inr ([(fdx b n p e (fl 12) 0, 0)], nxp b n p, nxe b n p)
theorem nb_ends (h : M 66 5 ≠ 0) (hQ : Q 0 M) : PX12_qEndsPart M Q := ⟨1, fun z => absurd z h, fun _ => hQ⟩
theorem qCode_f {v : Int} (h : rQ b n p e c w o M) (hl : (c.length : Int) ≤ 1600) {N : Mem} (r : rfr M N) : nX12_qCode N ∧ qfr N (fmX12_qCode N v) ∧ fmX12_qCode N v 66 5 = N 66 5 ∧ fmX12_qCode N v 66 6 = N 66 6 ∧ fmX12_qCode N v 66 79 = (c.length : Int) + 1 := by
  have e1 : N 66 79 = (c.length : Int) := by rw [r.2 79 (by decide) (by decide) (by decide) (by decide) (by decide) (by decide)]; exact h.2.1.1
  unfold nX12_qCode fmX12_qCode
  rw [e1]
  exact ⟨⟨by omega, by omega⟩, ⟨fun q x y z => by rw [mset_p x, mset_p y], fun j _ _ _ _ _ _ g _ _ => by rw [mset_k g, mset_o (by decide)]⟩, by rw [mset_k (by decide), mset_o (by decide)], by rw [mset_k (by decide), mset_o (by decide)], by rw [mset_e, mset_o (by decide), e1, wad (by omega) (by omega)]⟩
theorem pe_r (h : rQ b n p e c w o M) (hl : (c.length : Int) ≤ 1600) (e12 : fdx b n p e (fl 12) 0 = fdx b n p e w8 0) (e6 : fdx b n p e w8 0 < 6) (hF : ∀ f pl, pPt b n p e = Sum.inl (f, pl) → ∀ M' : Mem, qfr M M' → rXq f pl M' → R 0 M') (hO : ∀ x, pPt b n p e = Sum.inr x → ∀ M' : Mem, qfr M M' → rQ b n x.2.1 x.2.2 (c ++ x.1) w o M' → PX12_qEndsPart M' (fun _ M19 => R 0 M19)) : AKq R M := by
  refine ⟨fun _ => ?_, fun z => absurd h.1.2.1 z⟩
  refine qwo_r 0 6 h.1 h.2.2.2.2 (fun M6 r6 k6 a6 => ?_)
  have q6 := rQ_f r6 k6 h
  have fb := w8_b (b := b) (n := n) (p := p) (e := e)
  unfold pPt at hF hO
  rw [e12] at hF hO
  by_cases z : fdx b n p e w8 0 = -1
  · rw [if_pos (by omega)]
    refine ⟨_, fun _ h => h, fun _ => ⟨_, fun _ _ h => h, fun _ => ?_, fun y => absurd rfl y⟩, fun y => absurd rfl y⟩
    have nk : knd b n p e ≠ 2 → ∀ f pl, pN b n p e 0 9999 p = Sum.inl (f, pl) → (f, pl) = ((1 : Int), p) := by
      intro y f pl hp
      unfold pN pnm at hp
      rw [if_neg y] at hp
      cases hp
      rfl
    refine N_r k6 (fun f pl hp M23 x r23 x23 => ?_) (fun x hp M23 r23 k23 _ => ?_)
    · have cf := qCode_f (v := wr32 (1000 + x)) q6 hl r23
      refine ⟨cf.1, fun M17 h17 => ?_⟩
      rw [← h17] at cf
      have b17 : rXq f pl M17 := ⟨⟨cf.2.2.1.trans x23.1, cf.2.2.2.1.trans x23.2.1, x23.2.2⟩, by rw [cf.2.2.2.2]; omega, by rw [cf.2.2.2.2]; omega⟩
      refine nb_ends (by rw [b17.1.1]; exact b17.1.2.2) (hF f pl ?_ M17 (qfr_t (qfr_f (rfr_t r6 r23)) cf.2.1) b17)
      by_cases y : knd b n p e = 2
      · rw [if_pos y]; exact bnd_l hp
      · rw [if_neg y, if_pos z, nk y f pl hp]
    · have y : knd b n p e = 2 := by
        refine Classical.byContradiction (fun y => ?_)
        unfold pN pnm at hp
        rw [if_neg y] at hp
        cases hp
      have q23 := rQ_f r23 k23 q6
      have xb : 0 ≤ x.1 ∧ x.1 ≤ 9999 := by
        unfold pN at hp
        obtain ⟨v, hv, h2⟩ := bnd_i hp
        cases h2
        exact pnm_b hv
      have cd := cd_r (x := (20, x.1)) (v := wr32 (1000 + x.1)) q23 hl (by rw [wab (by omega)]; rfl)
      refine ⟨cd.1, fun M17 h17 => ?_⟩
      rw [← h17] at cd
      refine hO ([(20, x.1)], x.2.1, x.2.2) ?_ M17 (qfr_t (qfr_f (rfr_t r6 r23)) cd.2.2.1) cd.2.1
      rw [if_pos y, bnd_r hp]
  · rw [if_neg (by omega), if_neg (by omega)]
    refine ⟨_, fun _ h => h, fun y => absurd y z, fun _ => ?_⟩
    obtain ⟨s, hs⟩ : ∃ s, s = fdx b n p e w8 0 := ⟨_, rfl⟩
    have nk : ¬ knd b n p e = 2 := by
      have := fdx_k (b := b) (n := n) (p := p) (e := e) (is := w8) (k := 0) z
      omega
    rw [if_neg nk, if_neg z] at hO
    rw [← hs] at fb z e6 hO ⊢
    refine aw_r k6 q6.2.2.2.2 hs.symm (by omega) (fun M9 r9 k9 => ⟨_, fun _ _ h => h, fun y => absurd y z, fun _ => ?_⟩)
    have q9 := rQ_f r9 k9 q6
    have cd := cd_r (x := (s, 0)) (v := wr32 (40 + s)) q9 hl (by rw [wab (by omega)]; unfold rco; rw [if_pos e6])
    refine ⟨cd.1, fun M17 h17 => ?_⟩
    rw [← h17] at cd
    exact hO _ rfl M17 (qfr_t (qfr_f (rfr_t r6 r9)) cd.2.2.1) cd.2.1
end
