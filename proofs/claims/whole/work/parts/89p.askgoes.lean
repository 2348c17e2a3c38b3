/-! ask: the reference behind a part -/
def BKq (Q : Int → Mem → Prop) (M35 : Mem) : Prop := PX12_qBracket M35 (fun a38 M39 => ((a38 = 21 → PX12_asksSign 44 M39 (fun _ M43 => (((M43 66 5) = 0 → PX12_qDropsToBracket M43 (fun _ M47 => 0 ≤ (wr32 ((M47 66 81) - 1)) ∧ (wr32 ((M47 66 81) - 1)) < 1700 ∧ 0 ≤ (wr32 ((M47 66 81) - 1)) ∧ (wr32 ((M47 66 81) - 1)) < 1700 ∧ (∀ M50 : Mem, M50 = (mset M47 123 (wr32 ((M47 66 81) - 1)) (wr32 ((M47 123 (wr32 ((M47 66 81) - 1))) + 2))) → Q 1 M50))) ∧ (¬ ((M43 66 5) = 0) → Q 0 M43)))) ∧ (¬ (a38 = 21) → PX12_qBracket M39 (fun a51 M52 => ((a51 = 22 → PX12_asksSign 44 M52 (fun _ M63 => (((M63 66 5) = 0 → PX12_qDropsToBracket M63 (fun _ M67 => 0 ≤ (wr32 ((M67 66 81) - 1)) ∧ (wr32 ((M67 66 81) - 1)) < 1700 ∧ 0 ≤ (wr32 ((M67 66 81) - 1)) ∧ (wr32 ((M67 66 81) - 1)) < 1700 ∧ (∀ M70 : Mem, M70 = (mset M67 123 (wr32 ((M67 66 81) - 1)) (wr32 ((M67 123 (wr32 ((M67 66 81) - 1))) + 2))) → Q 1 M70))) ∧ (¬ ((M63 66 5) = 0) → Q 0 M63)))) ∧ (¬ (a51 = 22) → PX12_qBracket M52 (fun a55 M56 => ((a55 = (-1) → Q 0 M56) ∧ (¬ (a55 = (-1)) → (((M56 66 5) = 0 → (∀ M61 : Mem, M61 = (fmX12_fail M56 1 (M56 66 2)) → Q 0 M61)) ∧ (¬ ((M56 66 5) = 0) → Q 0 M56)))))))))))
def CMq (Q : Int → Mem → Prop) (M39 : Mem) : Prop := PX12_asksSign 44 M39 (fun _ M43 => (((M43 66 5) = 0 → PX12_qDropsToBracket M43 (fun _ M47 => 0 ≤ (wr32 ((M47 66 81) - 1)) ∧ (wr32 ((M47 66 81) - 1)) < 1700 ∧ 0 ≤ (wr32 ((M47 66 81) - 1)) ∧ (wr32 ((M47 66 81) - 1)) < 1700 ∧ (∀ M50 : Mem, M50 = (mset M47 123 (wr32 ((M47 66 81) - 1)) (wr32 ((M47 123 (wr32 ((M47 66 81) - 1))) + 2))) → Q 1 M50))) ∧ (¬ ((M43 66 5) = 0) → Q 0 M43)))
def CLq (L : Mem → Prop) (M7 : Mem) : Prop := (∀ M11 : Mem, M11 = (mset M7 66 2 (wr32 ((M7 66 2) + 1))) → PX12_qDropsToBracket M11 (fun _ M13 => (∀ M16 : Mem, M16 = (mset M13 66 81 (wr32 ((M13 66 81) - 1))) → (∀ M18 : Mem, M18 = (mset M16 66 82 (wr32 ((M16 66 82) - 1))) → 0 ≤ (M18 66 81) ∧ (M18 66 81) < 1700 ∧ (∃ j19 : Mem → Prop, (∀ (M20 : Mem), j19 M20 → PX12_qEndsPart M20 (fun _ M23 => L M23)) ∧ (((M18 123 (M18 66 81)) = 20 → j19 M18) ∧ (¬ ((M18 123 (M18 66 81)) = 20) → 0 ≤ (M18 66 81) ∧ (M18 66 81) < 1700 ∧ (nX12_qCode M18) ∧ (∀ M29 : Mem, M29 = (fmX12_qCode M18 (if (M18 123 (M18 66 81)) = 23 then (5 : Int) else 6)) → j19 M29))))))))
def OPm (Q : Int → Mem → Prop) (M5 : Mem) : Prop := 0 ≤ (wr32 ((M5 66 2) - 1)) ∧ (wr32 ((M5 66 2) - 1)) < 1600 ∧ (∃ k9 : Nat, PX12_qGoesOn_162 (fun M10 => 0 ≤ (M10 66 81) ∧ (M10 66 81) < 1700 ∧ (∀ M13 : Mem, M13 = (mset M10 123 (M10 66 81) (if (M5 67 (wr32 ((M5 66 2) - 1))) = 42 then (3 : Int) else 4)) → (∀ M15 : Mem, M15 = (mset M13 66 81 (wr32 ((M13 66 81) + 1))) → Q 1 M15))) Q k9 M5)
def OPs (Q : Int → Mem → Prop) (M22 : Mem) : Prop := 0 ≤ (wr32 ((M22 66 2) - 1)) ∧ (wr32 ((M22 66 2) - 1)) < 1600 ∧ (∃ k26 : Nat, PX12_qGoesOn_247 (fun M27 => 0 ≤ (M27 66 81) ∧ (M27 66 81) < 1700 ∧ (∀ M30 : Mem, M30 = (mset M27 123 (M27 66 81) (if (M22 67 (wr32 ((M22 66 2) - 1))) = 43 then (1 : Int) else 2)) → (∀ M32 : Mem, M32 = (mset M30 66 81 (wr32 ((M30 66 81) + 1))) → Q 1 M32))) Q k26 M22)
def cs (s : Int) : Cds := if s = 20 then [] else [(if s = 23 then 8 else 9, 0)]
section
variable {b : Int → Int} {n p e o : Int} {c : Cds} {w : List Int} {M M' : Mem} {Q : Int → Mem → Prop} {K L : Mem → Prop} {R : Int → Mem → Prop}
theorem OPm_r {s x : Int} {q : List Int} (h : rQ b n (nxp b n p) (nxe b n p) c (q ++ w) o M) (hl : (c.length : Int) + (q ++ w).length ≤ 1600) (hq : ∀ s ∈ q, s = 12 ∨ s = 13) (hw : hdw w ≠ 3 ∧ hdw w ≠ 4) (ha : M 66 2 = p + 1) (hp : 0 ≤ p ∧ p < n) (hx : b p = x) (hs : (if x = 42 then (3 : Int) else 4) = wco s) (hO : ∀ M' : Mem, qfr M M' → rQ b n (nxp b n p) (nxe b n p) (c ++ mps q) (s :: w) o M' → R 1 M') : OPm R M := by
  have n16 := h.1.1.1.2.1
  have e1 : wr32 (M 66 2 - 1) = p := by rw [ha, wsu (by omega) (by omega)]; omega
  have lw := len_a q w
  unfold OPm
  rw [e1, h.1.1.2.2.1 p hp.1 hp.2, hx]
  refine ⟨hp.1, by omega, q.length + 1, ?_⟩
  refine p162 hw q _ c M (Nat.lt_succ_self _) hq h hl (fun M10 f10 r10 => ?_)
  exact pu_r r10 (by omega) hs (fun M' f r => hO M' (qfr_t f10 f) r)
theorem OPs_r {s x : Int} {q : List Int} (h : rQ b n (nxp b n p) (nxe b n p) c (q ++ w) o M) (hl : (c.length : Int) + (q ++ w).length ≤ 1600) (hq : ∀ s ∈ q, s = 12 ∨ s = 13 ∨ s = 10 ∨ s = 11) (hw : hdw w ≠ 3 ∧ hdw w ≠ 4 ∧ hdw w ≠ 1 ∧ hdw w ≠ 2) (ha : M 66 2 = p + 1) (hp : 0 ≤ p ∧ p < n) (hx : b p = x) (hs : (if x = 43 then (1 : Int) else 2) = wco s) (hO : ∀ M' : Mem, qfr M M' → rQ b n (nxp b n p) (nxe b n p) (c ++ mps q) (s :: w) o M' → R 1 M') : OPs R M := by
  have n16 := h.1.1.1.2.1
  have e1 : wr32 (M 66 2 - 1) = p := by rw [ha, wsu (by omega) (by omega)]; omega
  have lw := len_a q w
  unfold OPs
  rw [e1, h.1.1.2.2.1 p hp.1 hp.2, hx]
  refine ⟨hp.1, by omega, q.length + 1, ?_⟩
  refine p247 hw q _ c M (Nat.lt_succ_self _) hq h hl (fun M10 f10 r10 => ?_)
  exact pu_r r10 (by omega) hs (fun M' f r => hO M' (qfr_t f10 f) r)
theorem isg_pn {x : Int} (h : isg b n p e x = true) (ok : bOK b n p) : (0 ≤ p ∧ p < n) ∧ b p = x := ⟨⟨ok.2.2.2.1, (knd_3.mp (isg_k h).1).1⟩, (isg_k h).2⟩
theorem tMul_0 (h : tMul b n p e = -1) : isg b n p e 42 = false ∧ isg b n p e 47 = false := by
  unfold tMul at h
  cases z : isg b n p e 42 with
  | true => rw [if_pos z] at h; exact absurd h (by decide)
  | false =>
    rw [if_neg (by rw [z]; decide)] at h
    cases y : isg b n p e 47 with
    | true => rw [if_pos y] at h; exact absurd h (by decide)
    | false => exact ⟨rfl, rfl⟩
theorem tSum_0 (h : tSum b n p e = -1) : isg b n p e 43 = false ∧ isg b n p e 45 = false := by
  unfold tSum at h
  cases z : isg b n p e 43 with
  | true => rw [if_pos z] at h; exact absurd h (by decide)
  | false =>
    rw [if_neg (by rw [z]; decide)] at h
    cases y : isg b n p e 45 with
    | true => rw [if_pos y] at h; exact absurd h (by decide)
    | false => exact ⟨rfl, rfl⟩
theorem gk_mul {q : List Int} (h : rQ b n p e c (q ++ w) o M) (hl : (c.length : Int) + (q ++ w).length ≤ 1600) (hq : ∀ s ∈ q, s = 12 ∨ s = 13) (hw : hdw w ≠ 3 ∧ hdw w ≠ 4) (ht : tMul b n p e ≠ -1) (hO : ∀ M' : Mem, qfr M M' → rQ b n (nxp b n p) (nxe b n p) (c ++ mps q) (tMul b n p e :: w) o M' → R 1 M') : GKq R M := by
  have ok := h.1.1.1
  refine tsign_r (by decide) (by decide) (by decide) h.1 (fun z1 M5 r5 k5 a5 => ⟨fun _ => ?_, fun y => absurd rfl y⟩) (fun z1 M5 r5 k5 a5 => ⟨fun y => absurd y (by decide), fun _ => ?_⟩)
  · refine tsign_r (by decide) (by decide) (by decide) k5 (fun z2 M18 r18 k18 a18 => ?_) (fun z2 M18 r18 k18 a18 => ⟨fun y => absurd y (by decide), fun _ => ?_⟩)
    · exfalso
      apply ht
      unfold tMul
      rw [if_neg (by rw [z1]; decide), if_neg (by rw [z2]; decide)]
    · have e1 : tMul b n p e = 13 := by unfold tMul; rw [if_neg (by rw [z1]; decide), if_pos z2]
      rw [e1] at hO
      have g := isg_pn z2 ok
      exact OPm_r (rQ_f (rfr_t r5 r18) k18 h) hl hq hw a18 g.1 g.2 (by decide) (fun M' f r => hO M' (qfr_t (qfr_f (rfr_t r5 r18)) f) r)
  · have e1 : tMul b n p e = 12 := by unfold tMul; rw [if_pos z1]
    rw [e1] at hO
    have g := isg_pn z1 ok
    exact OPm_r (rQ_f r5 k5 h) hl hq hw a5 g.1 g.2 (by decide) (fun M' f r => hO M' (qfr_t (qfr_f r5) f) r)
theorem gk_sum {q : List Int} (h : rQ b n p e c (q ++ w) o M) (hl : (c.length : Int) + (q ++ w).length ≤ 1600) (hq : ∀ s ∈ q, s = 12 ∨ s = 13 ∨ s = 10 ∨ s = 11) (hw : hdw w ≠ 3 ∧ hdw w ≠ 4 ∧ hdw w ≠ 1 ∧ hdw w ≠ 2) (hm : tMul b n p e = -1) (ht : tSum b n p e ≠ -1) (hO : ∀ M' : Mem, qfr M M' → rQ b n (nxp b n p) (nxe b n p) (c ++ mps q) (tSum b n p e :: w) o M' → R 1 M') : GKq R M := by
  have ok := h.1.1.1
  have m0 := tMul_0 hm
  refine tsign_r (by decide) (by decide) (by decide) h.1 (fun z1 M5 r5 k5 a5 => ⟨fun _ => ?_, fun y => absurd rfl y⟩) (fun z1 M5 r5 k5 a5 => by rw [m0.1] at z1; cases z1)
  refine tsign_r (by decide) (by decide) (by decide) k5 (fun z1 M18 r18 k18 a18 => ⟨fun _ => ?_, fun y => absurd rfl y⟩) (fun z1 M18 r18 k18 a18 => by rw [m0.2] at z1; cases z1)
  have R18 := rfr_t r5 r18
  refine tsign_r (by decide) (by decide) (by decide) k18 (fun z1 M22 r22 k22 a22 => ⟨fun _ => ?_, fun y => absurd rfl y⟩) (fun z1 M22 r22 k22 a22 => ⟨fun y => absurd y (by decide), fun _ => ?_⟩)
  · refine tsign_r (by decide) (by decide) (by decide) k22 (fun z2 M35 r35 k35 a35 => ?_) (fun z2 M35 r35 k35 a35 => ⟨fun y => absurd y (by decide), fun _ => ?_⟩)
    · exfalso
      apply ht
      unfold tSum
      rw [if_neg (by rw [z1]; decide), if_neg (by rw [z2]; decide)]
    · have e1 : tSum b n p e = 11 := by unfold tSum; rw [if_neg (by rw [z1]; decide), if_pos z2]
      rw [e1] at hO
      have g := isg_pn z2 ok
      have R35 := rfr_t (rfr_t R18 r22) r35
      exact OPs_r (rQ_f R35 k35 h) hl hq hw a35 g.1 g.2 (by decide) (fun M' f r => hO M' (qfr_t (qfr_f R35) f) r)
  · have e1 : tSum b n p e = 10 := by unfold tSum; rw [if_pos z1]
    rw [e1] at hO
    have g := isg_pn z1 ok
    have R22 := rfr_t R18 r22
    exact OPs_r (rQ_f R22 k22 h) hl hq hw a22 g.1 g.2 (by decide) (fun M' f r => hO M' (qfr_t (qfr_f R22) f) r)
theorem gk_no (h : rQ b n p e c w o M) (hm : tMul b n p e = -1) (ht : tSum b n p e = -1) (hO : ∀ M' : Mem, rfr M M' → rQ b n p e c w o M' → M' 66 2 = p → BKq R M') : GKq R M := by
  have m0 := tMul_0 hm
  have s0 := tSum_0 ht
  refine tsign_r (by decide) (by decide) (by decide) h.1 (fun z1 M5 r5 k5 a5 => ⟨fun _ => ?_, fun y => absurd rfl y⟩) (fun z1 M5 r5 k5 a5 => by rw [m0.1] at z1; cases z1)
  refine tsign_r (by decide) (by decide) (by decide) k5 (fun z1 M18 r18 k18 a18 => ⟨fun _ => ?_, fun y => absurd rfl y⟩) (fun z1 M18 r18 k18 a18 => by rw [m0.2] at z1; cases z1)
  refine tsign_r (by decide) (by decide) (by decide) k18 (fun z1 M22 r22 k22 a22 => ⟨fun _ => ?_, fun y => absurd rfl y⟩) (fun z1 M22 r22 k22 a22 => by rw [s0.1] at z1; cases z1)
  refine tsign_r (by decide) (by decide) (by decide) k22 (fun z1 M35 r35 k35 a35 => ⟨fun _ => ?_, fun y => absurd rfl y⟩) (fun z1 M35 r35 k35 a35 => by rw [s0.2] at z1; cases z1)
  have R35 := rfr_t (rfr_t (rfr_t r5 r18) r22) r35
  exact hO M35 R35 (rQ_f R35 k35 h) a35
theorem chg_r {s s' : Int} (h : rQ b n p e c (s :: w) o M) : rQ b n p e c (s' :: w) o (mset M 123 (w.length : Int) (wco s')) ∧ qfr M (mset M 123 (w.length : Int) (wco s')) := by
  obtain ⟨k, c1, w1, o1, r1⟩ := h
  have f : qfr M (mset M 123 (w.length : Int) (wco s')) := ⟨fun q _ _ x => mset_p x, fun j _ _ _ _ _ _ _ _ _ => mset_o (by decide)⟩
  exact ⟨⟨rK_q k (mset_p (by decide)) (fun j hj => mset_o (by decide)), cR_c (mset_o (by decide)) (mset_p (by decide)) c1, ⟨by rw [mset_o (by decide), lenc]; rw [lenc] at w1; exact w1.1, mset_e, wS_c w (fun i x y => mset_k (by omega)) w1.2.2⟩, by rw [mset_o (by decide)]; exact o1, wR_q f r1⟩, f⟩
theorem CM_r {s : Int} {q : List Int} (h : rQ b n p e c (q ++ s :: w) o M) (hl : (c.length : Int) + (q ++ s :: w).length ≤ 1600) (hq : ∀ s ∈ q, 10 ≤ s ∧ s ≤ 13) (hs : s = 21 ∨ s = 22) (hB : M 66 83 ≤ w.length) (hF : isg b n p e 44 = false → ∀ M' : Mem, qfr M M' → rXq 1 p M' → R 0 M') (hO : isg b n p e 44 = true → ∀ M' : Mem, qfr M M' → rQ b n (nxp b n p) (nxe b n p) (c ++ mps q) ((s + 2) :: w) o M' → R 1 M') : CMq R M := by
  have lw := len_a q (s :: w)
  rw [lenc] at lw
  refine asign_r (by decide) (by decide) (by decide) h.1 (fun z M' r f => ⟨fun y => absurd (f.1.symm.trans y) (by decide), fun _ => hF z M' (qfr_f r) (rXq_f h (by omega) r (rfl_x f (by decide)))⟩) (fun z M3 r k => ?_)
  have q3 := rQ_f r k h
  refine ⟨fun _ => ⟨q.length + 1, ?_⟩, fun y => absurd q3.1.2.1 y⟩
  refine pdtb (by omega) q _ c M3 (Nat.lt_succ_self _) hq (by rw [qfr_B (qfr_f r)]; exact hB) q3 hl (fun M47 f47 r47 => ?_)
  have t := tk_r r47 (by omega)
  refine (show 0 ≤ wr32 (M47 66 81 - 1) ∧ wr32 (M47 66 81 - 1) < 1700 ∧ 0 ≤ wr32 (M47 66 81 - 1) ∧ wr32 (M47 66 81 - 1) < 1700 ∧ (∀ M50 : Mem, M50 = mset M47 123 (wr32 (M47 66 81 - 1)) (wr32 (M47 123 (wr32 (M47 66 81 - 1)) + 2)) → R 1 M50) from ?_)
  rw [t.1, t.2.1]
  refine ⟨by omega, by omega, by omega, by omega, fun M50 h50 => ?_⟩
  have e1 : wr32 (wco s + 2) = wco (s + 2) := by rcases hs with rfl | rfl <;> decide
  rw [e1] at h50
  have g := chg_r (s' := s + 2) r47
  rw [← h50] at g
  exact hO z M50 (qfr_t (qfr_f r) (qfr_t f47 g.2)) g.1
/-- what is open wants something else -/
theorem BK_f {s : Int} {q : List Int} (h : rQ b n p e c (q ++ s :: w) o M) (ha : M 66 2 = p) (hl : (c.length : Int) + (q ++ s :: w).length ≤ 1600) (hq : ∀ s ∈ q, 10 ≤ s ∧ s ≤ 13) (hs : s = 20 ∨ s = 23 ∨ s = 24) (hB : M 66 83 ≤ w.length) (hF : ∀ M' : Mem, qfr M M' → rXq 1 p M' → R 0 M') : BKq R M := by
  have hs' : 20 ≤ s ∧ s ≤ 24 := by omega
  refine bk1 hs' hq hB h (by omega) ⟨fun z => by omega, fun _ => bk1 hs' hq hB h (by omega) ⟨fun z => by omega, fun _ => bk1 hs' hq hB h (by omega) ⟨fun z => by omega, fun _ => ⟨fun _ M61 h61 => ?_, fun y => absurd h.1.2.1 y⟩⟩⟩⟩
  have f := rfail h.1 1 p
  rw [ha] at h61
  rw [h61]
  exact hF _ (qfr_f f.1) (rXq_f h (by omega) f.1 (rfl_x f.2 (by decide)))
theorem BK_c {s : Int} {q : List Int} (h : rQ b n p e c (q ++ s :: w) o M) (hl : (c.length : Int) + (q ++ s :: w).length ≤ 1600) (hq : ∀ s ∈ q, 10 ≤ s ∧ s ≤ 13) (hs : s = 21 ∨ s = 22) (hB : M 66 83 ≤ w.length) (hF : isg b n p e 44 = false → ∀ M' : Mem, qfr M M' → rXq 1 p M' → R 0 M') (hO : isg b n p e 44 = true → ∀ M' : Mem, qfr M M' → rQ b n (nxp b n p) (nxe b n p) (c ++ mps q) ((s + 2) :: w) o M' → R 1 M') : BKq R M := by
  have hs' : 20 ≤ s ∧ s ≤ 24 := by omega
  have C : CMq R M := CM_r h hl hq hs hB hF hO
  refine bk1 hs' hq hB h (by omega) ⟨fun _ => C, fun z => bk1 hs' hq hB h (by omega) ⟨fun _ => C, fun y => by omega⟩⟩
theorem BK_n {q : List Int} (h : rQ b n p e c (q ++ w) o M) (hl : ((q ++ w).length : Int) ≤ 1600) (hq : ∀ s ∈ q, 10 ≤ s ∧ s ≤ 13) (hB : M 66 83 = w.length) (hO : R 0 M) : BKq R M :=
  bk0 hq hB h hl ⟨fun z => absurd z (by decide), fun _ => bk0 hq hB h hl ⟨fun z => absurd z (by decide), fun _ => bk0 hq hB h hl ⟨fun _ => hO, fun y => absurd rfl y⟩⟩⟩
/-- what is open is closed -/
theorem CL_r {s : Int} {q : List Int} (h : rQ b n p e c (q ++ s :: w) o M) (ha : M 66 2 = p) (hz : isg b n p e 41 = true) (hl : (c.length : Int) + (q ++ s :: w).length ≤ 1600) (ho : -2000 ≤ o ∧ o ≤ 6) (hq : ∀ s ∈ q, 10 ≤ s ∧ s ≤ 13) (hs : s = 20 ∨ s = 23 ∨ s = 24) (hB : M 66 83 ≤ w.length) (hO : ∀ M' : Mem, qfr M M' → rQ b n (nxp b n p) (nxe b n p) (c ++ mps q ++ cs s) w (o - 1) M' → PX12_qEndsPart M' (fun _ M23 => L M23)) : CLq L M := by
  intro M11 h11
  have lw := len_a q (s :: w)
  rw [lenc] at lw
  have sg := sg_r h (isg_k hz).1 ha
  rw [← h11] at sg
  refine ⟨q.length + 1, ?_⟩
  refine pdtb (by omega) q _ c M11 (Nat.lt_succ_self _) hq (by rw [qfr_B (qfr_f sg.2)]; exact hB) sg.1 hl (fun M13 f13 r13 M16 h16 M18 h18 => ?_)
  have t := tk_r r13 (by omega)
  rw [t.1] at h16
  rw [← h16] at t
  have e6 : wr32 (M16 66 82 - 1) = o - 1 := by rw [t.2.2.1.2.2.2.1, wsu (by omega) (by omega)]
  rw [e6] at h18
  have ro := rQ_o (v := o - 1) t.2.2.1
  rw [← h18] at ro
  have e8 : M18 66 81 = (w.length : Int) := ro.1.2.2.1.1
  have ev : M18 123 (w.length : Int) = wco s := by rw [h18, mset_o (by decide), h16, mset_o (by decide)]; exact t.2.1
  have F : qfr M M18 := qfr_t (qfr_f sg.2) (qfr_t f13 (qfr_t t.2.2.2 ro.2))
  rw [e8, ev, wco_b (by omega)]
  have lm : ((c ++ mps q).length : Int) = (c.length : Int) + q.length := by
    rw [List.length_append]; unfold mps; rw [List.length_map]; omega
  refine ⟨by omega, by omega, _, fun _ h => h, fun z => ?_, fun z => ⟨by omega, by omega, ?_⟩⟩
  · refine hO M18 F ?_
    have : cs s = [] := if_pos z
    rw [this, List.append_nil]
    exact ro.1
  · have cd := cd_r (x := (if s = 23 then 8 else 9, 0)) (v := if s = 23 then (5 : Int) else 6) ro.1 (by omega) (by
      by_cases y : s = 23
      · rw [if_pos y, if_pos y]; rfl
      · rw [if_neg y, if_neg y]; rfl)
    refine ⟨cd.1, fun M29 h29 => ?_⟩
    rw [← h29] at cd
    refine hO M29 (qfr_t F cd.2.2.1) ?_
    have : cs s = [(if s = 23 then 8 else 9, 0)] := if_neg z
    rw [this]
    exact cd.2.1
theorem go_cl {k : Nat} {s : Int} {q : List Int} (h : rQ b n p e c (q ++ s :: w) o M) (hz : isg b n p e 41 = true) (hl : (c.length : Int) + (q ++ s :: w).length ≤ 1600) (ho : -2000 ≤ o ∧ o ≤ 6) (hq : ∀ s ∈ q, 10 ≤ s ∧ s ≤ 13) (hs : s = 20 ∨ s = 23 ∨ s = 24) (hB : M 66 83 ≤ w.length) (hO : ∀ M' : Mem, qfr M M' → rQ b n (nxp b n p) (nxe b n p) (c ++ mps q ++ cs s) w (o - 1) M' → PX12_qEndsPart M' (fun _ M23 => PX12_qGoesOn_0 K Q k M23)) : PX12_qGoesOn_0 K Q (k + 1) M := by
  have hs' : 20 ≤ s ∧ s ≤ 24 := by omega
  refine ⟨fun _ => look_q h (fun M3 r3 q3 a3 => ?_), fun y => absurd h.1.2.1 y⟩
  have hB3 : M3 66 83 ≤ w.length := by rw [qfr_B (qfr_f r3)]; exact hB
  have C : CLq (fun M23 => PX12_qGoesOn_0 K Q k M23) M3 := CL_r q3 a3 hz hl ho hq hs hB3 (fun M' f r => hO M' (qfr_t (qfr_f r3) f) r)
  rw [isg_p (e := e) (by decide) (by decide) (by decide) hz]
  exact ⟨fun _ => bk1 hs' hq hB3 q3 (by omega) ⟨fun _ => C, fun _ => bk1 hs' hq hB3 q3 (by omega) ⟨fun _ => C, fun _ => bk1 hs' hq hB3 q3 (by omega) ⟨fun _ => C, fun _ => by omega⟩⟩⟩, fun y => absurd rfl y⟩
theorem go_k {k : Nat} (h : rQ b n p e c w o M) (hz : isg b n p e 41 = false) (hO : ∀ M' : Mem, rfr M M' → rQ b n p e c w o M' → K M') : PX12_qGoesOn_0 K Q (k + 1) M := by
  refine ⟨fun _ => look_q h (fun M3 r3 q3 a3 => ⟨fun y => absurd y (isg_n (e := e) (by decide) (by decide) (by decide) hz), fun _ => hO M3 r3 q3⟩), fun y => absurd h.1.2.1 y⟩
theorem go_k1 {k : Nat} {s : Int} {q : List Int} (h : rQ b n p e c (q ++ s :: w) o M) (hl : ((q ++ s :: w).length : Int) ≤ 1600) (hq : ∀ s ∈ q, 10 ≤ s ∧ s ≤ 13) (hs : s = 21 ∨ s = 22) (hB : M 66 83 ≤ w.length) (hO : ∀ M' : Mem, rfr M M' → rQ b n p e c (q ++ s :: w) o M' → K M') : PX12_qGoesOn_0 K Q (k + 1) M := by
  have hs' : 20 ≤ s ∧ s ≤ 24 := by omega
  refine ⟨fun _ => look_q h (fun M3 r3 q3 a3 => ?_), fun y => absurd h.1.2.1 y⟩
  have hB3 : M3 66 83 ≤ w.length := by rw [qfr_B (qfr_f r3)]; exact hB
  exact ⟨fun _ => bk1 hs' hq hB3 q3 hl ⟨fun y => by omega, fun _ => bk1 hs' hq hB3 q3 hl ⟨fun y => by omega, fun _ => bk1 hs' hq hB3 q3 hl ⟨fun y => by omega, fun _ => hO M3 r3 q3⟩⟩⟩, fun _ => hO M3 r3 q3⟩
theorem go_k0 {k : Nat} {q : List Int} (h : rQ b n p e c (q ++ w) o M) (hl : ((q ++ w).length : Int) ≤ 1600) (hq : ∀ s ∈ q, 10 ≤ s ∧ s ≤ 13) (hB : M 66 83 = w.length) (hO : ∀ M' : Mem, rfr M M' → rQ b n p e c (q ++ w) o M' → K M') : PX12_qGoesOn_0 K Q (k + 1) M := by
  refine ⟨fun _ => look_q h (fun M3 r3 q3 a3 => ?_), fun y => absurd h.1.2.1 y⟩
  have hB3 : M3 66 83 = w.length := by rw [qfr_B (qfr_f r3)]; exact hB
  exact ⟨fun _ => bk0 hq hB3 q3 hl ⟨fun y => absurd y (by decide), fun _ => bk0 hq hB3 q3 hl ⟨fun y => absurd y (by decide), fun _ => bk0 hq hB3 q3 hl ⟨fun y => absurd y (by decide), fun _ => hO M3 r3 q3⟩⟩⟩, fun _ => hO M3 r3 q3⟩
end
