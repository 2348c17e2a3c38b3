/-! ask: the reference reads a fact; behind a fact -/
def TGKq (Q : Int → Mem → Prop) : Mem → Prop := (fun M2 => PX12_takes 109 3 M2 (fun a4 M5 => ((a4 = 0 → PX12_takes 110 2 M5 (fun a8 M9 => ((a8 = 0 → (((M9 66 5) = 0 → (nX12_qHasSquare M9) ∧ (∀ a15 : Int, a15 = (fX12_qHasSquare M9) → ((a15 = 0 → Q 0 M9) ∧ (¬ (a15 = 0) → (∀ M18 : Mem, M18 = (fmX12_fail M9 1 (M9 66 2)) → Q 0 M18))))) ∧ (¬ ((M9 66 5) = 0) → Q 0 M9))) ∧ (¬ (a8 = 0) → (∃ k19 : Nat, PX12_qGoesOnTest_137 (fun M20 => 0 ≤ (M20 66 81) ∧ (M20 66 81) < 1700 ∧ (∀ M23 : Mem, M23 = (mset M20 123 (M20 66 81) 11) → (∀ M25 : Mem, M25 = (mset M23 66 81 (wr32 ((M23 66 81) + 1))) → Q 1 M25))) Q k19 M9))))) ∧ (¬ (a4 = 0) → (∃ k26 : Nat, PX12_qGoesOnTest_87 (fun M27 => 0 ≤ (M27 66 81) ∧ (M27 66 81) < 1700 ∧ (∀ M30 : Mem, M30 = (mset M27 123 (M27 66 81) 10) → (∀ M32 : Mem, M32 = (mset M30 66 81 (wr32 ((M30 66 81) + 1))) → Q 1 M32))) Q k26 M5)))))
def CPq (v : Int) (Q : Int → Mem → Prop) (M10 : Mem) : Prop := (∀ M14 : Mem, M14 = (mset M10 66 2 (wr32 ((M10 66 2) + 1))) → PX12_qSums M14 (fun _ M16 => (nX12_qCode M16) ∧ (∀ M21 : Mem, M21 = (fmX12_qCode M16 v) → Q 0 M21)))
def SQq (L : Mem → Prop) (Q : Int → Mem → Prop) (M3 : Mem) : Prop := (∀ M11 : Mem, M11 = (mset M3 66 2 (wr32 ((M3 66 2) + 1))) → (∃ k12 : Nat, PX12_qGoesOnTest_33 (fun M13 => (∀ M16 : Mem, M16 = (mset M13 66 81 (wr32 ((M13 66 81) - 1))) → (∀ M18 : Mem, M18 = (mset M16 66 82 (wr32 ((M16 66 82) - 1))) → PX12_qDropsNots M18 (fun _ M20 => L M20)))) Q k12 M11))
theorem TGKq_eq {M : Mem} {R : Int → Mem → Prop} : PX12_qGoesOnTest M R = ∃ k1 : Nat, PX12_qGoesOnTest_0 (TGKq R) R k1 M := rfl
section
variable {b : Int → Int} {n p e d o : Int} {c : Cds} {w : List Int} {M M' : Mem} {Q : Int → Mem → Prop} {K L : Mem → Prop} {R : Int → Mem → Prop} {k : Nat}
/-- a fact that is no test of its own -/
def Fq (b : Int → Int) (n : Int) (k : Nat) (d p e : Int) : Rd := if iswd b n p e (wd 111) = true then Sum.inr ([(21, 1)], nxp b n p, nxe b n p) else Rq b n k 3 d p e
theorem cmp_r {t v : Int} {x : Cds × Int × Int} (hv : v = rco (t, 0)) (hw : ∀ s ∈ w, low s) (hk : 8 * (6 - d) + 4 ≤ k) (hd : 0 ≤ d ∧ d ≤ 6) (ok : bOK b n p) (hx : Rq b n k 4 d p e = Sum.inr x) (h : rQ b n x.2.1 x.2.2 (c ++ x.1) w d M) (ha : M 66 2 = x.2.1) (hl : (c.length : Int) + w.length ≤ p) (kn : knd b n x.2.1 x.2.2 = 3) (ht : tCmp b n x.2.1 x.2.2 = t) (t1 : t ≠ -1) (HF : ∀ f pl, Rq b n (k + 1) 3 d p e = Sum.inl (f, pl) → ∀ M' : Mem, qfr M M' → rX f pl M' → Q 0 M') (HO : ∀ x, Rq b n (k + 1) 3 d p e = Sum.inr x → ∀ M' : Mem, qfr M M' → rQ b n x.2.1 x.2.2 (c ++ x.1) w d M' → Q 0 M') : CPq v Q M := by
  intro M14 h14
  have sg := sg_r h kn ha
  rw [← h14] at sg
  have g := Rq_len k 4 d p e x ok hx
  have g1 := g.1
  have ad := advq g.2 (Or.inr (Or.inr kn))
  have n16 := ok.2.1
  have l1 := lca c x.1
  rw [Rq_3, bnd_r hx, ht, if_neg t1] at HF HO
  refine qsum_r hw hk hd sg.1 (by omega) (fun f pl hf M' q x' => ⟨x'.2, fun M21 h21 => ?_⟩) (fun y hy M' q r => ?_)
  · have e5 : ∀ j, j ≠ 79 → M21 66 j = M' 66 j := fun j hj => by rw [h21]; unfold fmX12_qCode; rw [mset_k hj, mset_o (by decide)]
    refine HF f pl (bnd_l hf) M21 (qfr_t (qfr_f sg.2) (qfr_t q ?_)) ⟨by rw [e5 5 (by decide)]; exact x'.1.1, by rw [e5 6 (by decide)]; exact x'.1.2.1, x'.1.2.2⟩
    exact ⟨fun q y1 y2 _ => by rw [h21]; unfold fmX12_qCode; rw [mset_p y1, mset_p y2], fun j _ _ _ _ _ _ y _ _ => e5 j y⟩
  · have g' := Rq_len k 4 d _ _ y ad.2 hy
    have g2 := g'.1
    have g3 := g'.2.2.2.2.2.1
    have l2 := lca (c ++ x.1) y.1
    have cd := cd_r (x := (t, 0)) (v := v) r (by omega) hv
    refine ⟨cd.1, fun M21 h21 => ?_⟩
    rw [← h21] at cd
    refine HO (x.1 ++ y.1 ++ [(t, 0)], y.2.1, y.2.2) (bnd_r hy) M21 (qfr_t (qfr_f sg.2) (qfr_t q cd.2.2.1)) ?_
    have r4 := cd.2.1
    rw [List.append_assoc, List.append_assoc] at r4
    show rQ b n y.2.1 y.2.2 (c ++ (x.1 ++ y.1 ++ [(t, 0)])) w d M21
    rw [List.append_assoc]
    exact r4
theorem fact_r (hw : ∀ s ∈ w, low s) (hk : 8 * (6 - d) + 4 ≤ k) (hd : 0 ≤ d ∧ d ≤ 6) (h : rQ b n p e c w d M) (hl : (c.length : Int) + w.length ≤ p) (HF : ∀ f pl, Fq b n (k + 1) d p e = Sum.inl (f, pl) → ∀ M' : Mem, qfr M M' → rX f pl M' → Q 0 M') (HO : ∀ x, Fq b n (k + 1) d p e = Sum.inr x → ∀ M' : Mem, qfr M M' → rQ b n x.2.1 x.2.2 (c ++ x.1) w d M' → Q 0 M') : PX12_qFact M Q := by
  have ok : bOK b n p := h.1.1.1
  have n16 := ok.2.1
  have pn := ok.2.2.2.2.1
  unfold Fq at HF HO
  refine takes_r (i := ((111 : Nat) : Int)) (w := wd 111) h.1 (h.2.2.2.2 111 (by decide)) (by decide) (fun z M2 r2 k2 a2 => ⟨fun _ => ?_, fun y => absurd rfl y⟩) (fun z M2 r2 k2 => ⟨fun y => absurd y (by decide), fun _ => ?_⟩)
  · rw [if_neg (by rw [z]; decide)] at HF HO
    have q2 := rQ_f r2 k2 h
    refine qsum_r hw hk hd q2 hl (fun f pl hf M6 f6 x6 => ⟨fun y => absurd (x6.1.1.symm.trans y) x6.1.2.2, fun _ => HF f pl (by rw [Rq_3]; exact bnd_l hf) M6 (qfr_t (qfr_f r2) f6) x6.1⟩) (fun x hx M6 f6 q6 => ⟨fun _ => look_q q6 (fun M10 r10 q10' a10 => ?_), fun y => absurd q6.1.2.1 y⟩)
    have F10 := qfr_t (qfr_f r2) (qfr_t f6 (qfr_f r10))
    have HF' : ∀ f pl, Rq b n (k + 1) 3 d p e = Sum.inl (f, pl) → ∀ M' : Mem, qfr M10 M' → rX f pl M' → Q 0 M' := fun f pl hf M' g x => HF f pl hf M' (qfr_t F10 g) x
    have HO' : ∀ x, Rq b n (k + 1) 3 d p e = Sum.inr x → ∀ M' : Mem, qfr M10 M' → rQ b n x.2.1 x.2.2 (c ++ x.1) w d M' → Q 0 M' := fun x hx M' g r => HO x hx M' (qfr_t F10 g) r
    cases z1 : isg b n x.2.1 x.2.2 60 with
    | true =>
      rw [isg_p (e := x.2.2) (by decide) (by decide) (by decide) z1]
      exact ⟨fun _ => cmp_r (t := 14) (by decide) hw hk hd ok hx q10' a10 hl (isg_k z1).1 (by unfold tCmp; rw [if_pos z1]) (by decide) HF' HO', fun y => absurd rfl y⟩
    | false =>
      refine ⟨fun y => absurd y (isg_n (e := x.2.2) (by decide) (by decide) (by decide) z1), fun _ => ?_⟩
      cases z2 : isg b n x.2.1 x.2.2 62 with
      | true =>
        rw [isg_p (e := x.2.2) (by decide) (by decide) (by decide) z2]
        exact ⟨fun _ => cmp_r (t := 15) (by decide) hw hk hd ok hx q10' a10 hl (isg_k z2).1 (by unfold tCmp; rw [if_neg (by rw [z1]; decide), if_pos z2]) (by decide) HF' HO', fun y => absurd rfl y⟩
      | false =>
        refine ⟨fun y => absurd y (isg_n (e := x.2.2) (by decide) (by decide) (by decide) z2), fun _ => ?_⟩
        cases z3 : isg b n x.2.1 x.2.2 61 with
        | true =>
          rw [isg_p (e := x.2.2) (by decide) (by decide) (by decide) z3]
          exact ⟨fun _ => cmp_r (t := 16) (by decide) hw hk hd ok hx q10' a10 hl (isg_k z3).1 (by unfold tCmp; rw [if_neg (by rw [z1]; decide), if_neg (by rw [z2]; decide), if_pos z3]) (by decide) HF' HO', fun y => absurd rfl y⟩
        | false =>
          refine ⟨fun y => absurd y (isg_n (e := x.2.2) (by decide) (by decide) (by decide) z3), fun _ M49 h49 => ?_⟩
          have f := rfail q10'.1 1 x.2.1
          rw [a10] at h49
          rw [h49]
          refine HF' 1 x.2.1 ?_ _ (qfr_f f.1) (rfl_x f.2 (by decide))
          rw [Rq_3, bnd_r hx, if_pos]
          unfold tCmp
          rw [if_neg (by rw [z1]; decide), if_neg (by rw [z2]; decide), if_neg (by rw [z3]; decide)]
  · rw [if_pos z] at HO
    have q2 := rQ_f r2 k2 h
    have cd := cd_r (x := (21, 1)) (v := 13) q2 (by omega) (by decide)
    refine ⟨cd.1, fun M52 h52 => ?_⟩
    rw [← h52] at cd
    exact HO _ rfl M52 (qfr_t (qfr_f r2) cd.2.2.1) cd.2.1
theorem tAnd_0 (h : tAnd b n p e = -1) : iswd b n p e (wd 109) = false := by
  unfold tAnd at h
  cases z : iswd b n p e (wd 109) with
  | true => rw [if_pos z] at h; exact absurd h (by decide)
  | false => rfl
theorem tOr_0 (h : tOr b n p e = -1) : iswd b n p e (wd 110) = false := by
  unfold tOr at h
  cases z : iswd b n p e (wd 110) with
  | true => rw [if_pos z] at h; exact absurd h (by decide)
  | false => rfl
theorem tAnd_1 (h : tAnd b n p e ≠ -1) : iswd b n p e (wd 109) = true ∧ tAnd b n p e = 17 := by
  unfold tAnd at h ⊢
  cases z : iswd b n p e (wd 109) with
  | true => exact ⟨rfl, if_pos rfl⟩
  | false => rw [if_neg (by rw [z]; decide)] at h; exact absurd rfl h
theorem tOr_1 (h : tOr b n p e ≠ -1) : iswd b n p e (wd 110) = true ∧ tOr b n p e = 18 := by
  unfold tOr at h ⊢
  cases z : iswd b n p e (wd 110) with
  | true => exact ⟨rfl, if_pos rfl⟩
  | false => rw [if_neg (by rw [z]; decide)] at h; exact absurd rfl h
theorem tg_and {q : List Int} (h : rQ b n p e c (q ++ w) o M) (hl : (c.length : Int) + (q ++ w).length ≤ 1600) (hq : ∀ s ∈ q, s = 17) (hw : hdw w ≠ 10) (iw : iswd b n p e (wd 109) = true) (hO : ∀ M' : Mem, qfr M M' → rQ b n (nxp b n p) (nxe b n p) (c ++ mps q) (17 :: w) o M' → R 1 M') : TGKq R M := by
  have lw := len_a q w
  refine takes_r (i := ((109 : Nat) : Int)) (w := wd 109) h.1 (h.2.2.2.2 109 (by decide)) (by decide) (fun z M5 r5 k5 a5 => by rw [iw] at z; cases z) (fun z M5 r5 k5 => ⟨fun y => absurd y (by decide), fun _ => ⟨q.length + 1, ?_⟩⟩)
  refine p87 hw q _ c M5 (Nat.lt_succ_self _) hq (rQ_f r5 k5 h) hl (fun M10 f10 r10 => ?_)
  exact pu_r r10 (by omega) (by decide) (fun M' f r => hO M' (qfr_t (qfr_f r5) (qfr_t f10 f)) r)
theorem tg_or {q : List Int} (h : rQ b n p e c (q ++ w) o M) (hl : (c.length : Int) + (q ++ w).length ≤ 1600) (hq : ∀ s ∈ q, s = 17 ∨ s = 18) (hw : hdw w ≠ 10 ∧ hdw w ≠ 11) (ia : iswd b n p e (wd 109) = false) (iw : iswd b n p e (wd 110) = true) (hO : ∀ M' : Mem, qfr M M' → rQ b n (nxp b n p) (nxe b n p) (c ++ mps q) (18 :: w) o M' → R 1 M') : TGKq R M := by
  have lw := len_a q w
  refine takes_r (i := ((109 : Nat) : Int)) (w := wd 109) h.1 (h.2.2.2.2 109 (by decide)) (by decide) (fun z M5 r5 k5 a5 => ⟨fun _ => ?_, fun y => absurd rfl y⟩) (fun z M5 r5 k5 => by rw [ia] at z; cases z)
  have q5 := rQ_f r5 k5 h
  refine takes_r (i := ((110 : Nat) : Int)) (w := wd 110) k5 (q5.2.2.2.2 110 (by decide)) (by decide) (fun z M9 r9 k9 a9 => by rw [iw] at z; cases z) (fun z M9 r9 k9 => ⟨fun y => absurd y (by decide), fun _ => ⟨q.length + 1, ?_⟩⟩)
  refine p137 hw q _ c M9 (Nat.lt_succ_self _) hq (rQ_f r9 k9 q5) hl (fun M10 f10 r10 => ?_)
  exact pu_r r10 (by omega) (by decide) (fun M' f r => hO M' (qfr_t (qfr_f (rfr_t r5 r9)) (qfr_t f10 f)) r)
theorem tg_no (h : rQ b n p e c w o M) (ia : iswd b n p e (wd 109) = false) (io : iswd b n p e (wd 110) = false) (hO : ∀ M' : Mem, rfr M M' → rQ b n p e c w o M' → M' 66 2 = p → nX12_qHasSquare M' ∧ (fX12_qHasSquare M' = 0 → R 0 M') ∧ (fX12_qHasSquare M' ≠ 0 → R 0 (fmX12_fail M' 1 p))) : TGKq R M := by
  refine takes_r (i := ((109 : Nat) : Int)) (w := wd 109) h.1 (h.2.2.2.2 109 (by decide)) (by decide) (fun z M5 r5 k5 a5 => ⟨fun _ => ?_, fun y => absurd rfl y⟩) (fun z M5 r5 k5 => by rw [ia] at z; cases z)
  have q5 := rQ_f r5 k5 h
  refine takes_r (i := ((110 : Nat) : Int)) (w := wd 110) k5 (q5.2.2.2.2 110 (by decide)) (by decide) (fun z M9 r9 k9 a9 => ⟨fun _ => ⟨fun _ => ?_, fun y => absurd k9.2.1 y⟩, fun y => absurd rfl y⟩) (fun z M9 r9 k9 => by rw [io] at z; cases z)
  have H := hO M9 (rfr_t r5 r9) (rQ_f r9 k9 q5) a9
  refine ⟨H.1, fun a15 h15 => ⟨fun y => H.2.1 (by rw [← h15]; exact y), fun y M18 h18 => ?_⟩⟩
  rw [h18, a9]
  exact H.2.2 (by rw [← h15]; exact y)
theorem SQ_r {q : List Int} (h : rQ b n p e c (q ++ 25 :: w) o M) (ha : M 66 2 = p) (hz : isg b n p e 93 = true) (hl : (c.length : Int) + (q ++ 25 :: w).length ≤ 1600) (ho : -2000 ≤ o ∧ o ≤ 6) (hq : ∀ s ∈ q, s = 17 ∨ s = 18) (hO : ∀ M' : Mem, qfr M M' → rQ b n (nxp b n p) (nxe b n p) (c ++ mps q) w (o - 1) M' → PX12_qDropsNots M' (fun _ M20 => L M20)) : SQq L Q M := by
  intro M11 h11
  have lw := len_a q (25 :: w)
  rw [lenc] at lw
  have sg := sg_r h (isg_k hz).1 ha
  rw [← h11] at sg
  refine ⟨q.length + 1, ?_⟩
  refine p33 q _ c M11 (Nat.lt_succ_self _) hq sg.1 hl (fun M13 f13 r13 M16 h16 M18 h18 => ?_)
  have t := tk_r r13 (by omega)
  rw [t.1] at h16
  rw [← h16] at t
  have e6 : wr32 (M16 66 82 - 1) = o - 1 := by rw [t.2.2.1.2.2.2.1, wsu (by omega) (by omega)]
  rw [e6] at h18
  have ro := rQ_o (v := o - 1) t.2.2.1
  rw [← h18] at ro
  exact hO M18 (qfr_t (qfr_f sg.2) (qfr_t f13 (qfr_t t.2.2.2 ro.2))) ro.1
theorem tt_cl {q : List Int} (h : rQ b n p e c (q ++ 25 :: w) o M) (hz : isg b n p e 93 = true) (hl : (c.length : Int) + (q ++ 25 :: w).length ≤ 1600) (ho : -2000 ≤ o ∧ o ≤ 6) (hq : ∀ s ∈ q, s = 17 ∨ s = 18) (hO : ∀ M' : Mem, qfr M M' → rQ b n (nxp b n p) (nxe b n p) (c ++ mps q) w (o - 1) M' → PX12_qDropsNots M' (fun _ M20 => PX12_qGoesOnTest_0 K Q k M20)) : PX12_qGoesOnTest_0 K Q (k + 1) M := by
  refine ⟨fun _ => look_q h (fun M3 r3 q3 a3 => ?_), fun y => absurd h.1.2.1 y⟩
  have C : SQq (fun M20 => PX12_qGoesOnTest_0 K Q k M20) Q M3 := SQ_r q3 a3 hz hl ho hq (fun M' f r => hO M' (qfr_t (qfr_f r3) f) r)
  rw [isg_p (e := e) (by decide) (by decide) (by decide) hz]
  have sq := hsq1 q3 (by omega)
  exact ⟨fun _ => ⟨sq.1, fun a8 h8 => ⟨fun y => absurd (sq.2.symm.trans (h8.symm.trans y)) (by decide), fun _ => C⟩⟩, fun y => absurd rfl y⟩
theorem tt_k (h : rQ b n p e c w o M) (hz : isg b n p e 93 = false) (hO : ∀ M' : Mem, rfr M M' → rQ b n p e c w o M' → K M') : PX12_qGoesOnTest_0 K Q (k + 1) M := by
  refine ⟨fun _ => look_q h (fun M3 r3 q3 a3 => ⟨fun y => absurd y (isg_n (e := e) (by decide) (by decide) (by decide) hz), fun _ => hO M3 r3 q3⟩), fun y => absurd h.1.2.1 y⟩
theorem tt_k0 (h : rQ b n p e c w o M) (hl : (w.length : Int) ≤ 1600) (hw : ∀ s ∈ w, s = 17 ∨ s = 18) (hO : ∀ M' : Mem, rfr M M' → rQ b n p e c w o M' → K M') : PX12_qGoesOnTest_0 K Q (k + 1) M := by
  refine ⟨fun _ => look_q h (fun M3 r3 q3 a3 => ?_), fun y => absurd h.1.2.1 y⟩
  have sq := hsq0 q3 hw hl
  exact ⟨fun _ => ⟨sq.1, fun a8 h8 => ⟨fun _ => hO M3 r3 q3, fun y => absurd (h8.trans sq.2) y⟩⟩, fun _ => hO M3 r3 q3⟩
end
