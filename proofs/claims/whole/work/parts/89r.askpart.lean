/-! ask: the reference has read a part, a sum -/
section
variable {b : Int → Int} {n p e d : Int} {c : Cds} {w w0 : List Int} {M M' : Mem} {Q : Int → Mem → Prop} {K : Mem → Prop} {k : Nat}
theorem r6_b (ig : isg b n p e 40 = true) : Rq b n (k + 1) 6 d p e = if d = 6 then Sum.inl (4, p) else bnd (Rq b n k 4 (d + 1) (nxp b n p) (nxe b n p)) (fun x => bnd (pS b n x.2.1 x.2.2 41) (fun t => Sum.inr (x.1, t.1, t.2))) := by
  have kn := (isg_k ig).1
  rw [Rq_6, if_neg (by omega), if_pos ig]
theorem r6_k {s : Int} (hs : s = fdx b n p e (fl 12) 0) (h : s ≠ -1) : ¬ knd b n p e = 2 := by
  have := fdx_k (b := b) (n := n) (p := p) (e := e) (is := fl 12) (k := 0) (by rw [← hs]; exact h)
  omega
theorem r6_o {s : Int} (ig : isg b n p e 40 = false) (hs : s = fdx b n p e (fl 12) 0) (h : s = 6 ∨ s = 7) : Rq b n (k + 1) 6 d p e = if d = 6 then Sum.inl (4, p) else bnd (Rq b n k 6 (d + 1) (nxp b n p) (nxe b n p)) (fun x => Sum.inr (x.1 ++ [(s, 0)], x.2.1, x.2.2)) := by
  rw [Rq_6, if_neg (r6_k hs (by omega)), if_neg (by rw [ig]; decide), ← hs, if_neg (by omega), if_pos h]
theorem r6_m {s : Int} (ig : isg b n p e 40 = false) (hs : s = fdx b n p e (fl 12) 0) (h : s = 8 ∨ s = 9) : Rq b n (k + 1) 6 d p e = bnd (Rq b n k 7 d (nxp b n p) (nxe b n p)) (fun x => Sum.inr (x.1 ++ [(s, 0)], x.2.1, x.2.2)) := by
  rw [Rq_6, if_neg (r6_k hs (by omega)), if_neg (by rw [ig]; decide), ← hs, if_neg (by omega), if_neg (by omega), if_neg (by omega)]
theorem r6_p (ig : isg b n p e 40 = false) (h : fdx b n p e (fl 12) 0 < 6) : Rq b n (k + 1) 6 d p e = pPt b n p e := by
  rw [Rq_6]
  unfold pPt
  by_cases z : knd b n p e = 2
  · rw [if_pos z, if_pos z]
  rw [if_neg z, if_neg z, if_neg (by rw [ig]; decide)]
  by_cases y : fdx b n p e (fl 12) 0 = -1
  · rw [if_pos y, if_pos y]
  rw [if_neg y, if_neg y, if_neg (by omega), if_pos (by omega)]
theorem q10 {q : List Int} (h : ∀ s ∈ q, s = 12 ∨ s = 13 ∨ s = 10 ∨ s = 11) : ∀ s ∈ q, 10 ≤ s ∧ s ≤ 13 := fun s hs => by
  have := h s hs
  omega
theorem pc6 (hw0 : ∀ s ∈ w0, low s) (h4 : ∀ i : Nat, i ≤ k + 1 → qc4 b n w0 K Q i) (h6 : qc6 b n w0 K Q (k + 1)) : qc6 b n w0 K Q (k + 2) := by
  intro d p e c w j kk M hd hk hp HF HO
  obtain ⟨h, hB, hw, hl, a1, a2⟩ := id hp
  have ok : bOK b n p := h.1.1.1
  have p0 := ok.2.2.2.1
  have n16 := ok.2.1
  have pn := ok.2.2.2.2.1
  have la := len_a w w0
  obtain ⟨j, rfl⟩ : ∃ i, j = i + 1 := ⟨j - 1, by omega⟩
  obtain ⟨kk, rfl⟩ : ∃ i, kk = i + 2 := ⟨kk - 2, by omega⟩
  have fin : ∀ (x : Cds × Int × Int), Rq b n (k + 2) 6 d p e = Sum.inr x → ∀ (N : Mem) (jj k2 : Nat) (X : Int → Mem → Prop) (Z : Mem → Prop), (∀ M4 : Mem, M4 66 5 = 0 → SE K Q jj k2 M4 → Z M4) → qfr M N → rQ b n x.2.1 x.2.2 (c ++ x.1) (w ++ w0) d N → n + 3 ≤ jj + x.2.1 → n + 3 ≤ k2 + x.2.1 → PX12_qEndsPart_0 Z X (w.length + 1) N := by
    intro x hx N jj k2 X Z hZ f r b1 b2
    have g := Rq_len (k + 2) 6 d p e x ok hx
    have g1 := g.1
    have g2 := g.2.2.2.2.2.1
    have l1 := lca c x.1
    exact pends hw0 w (w.length + 1) d (c ++ x.1) N (Nat.lt_succ_self _) hw (by rw [qfr_B f]; exact hB) r (by omega) (by omega) (fun M4 f4 r4 => hZ M4 r4.1.2.1 (HO x hx _ _ _ rfl M4 jj k2 (qfr_t f f4) r4 b1 b2))
  have okc : ∀ s : Int, okw s → ∀ t ∈ s :: w, okw t := fun s hs t ht => by
    rcases List.mem_cons.mp ht with y | y
    · rw [y]; exact hs
    · exact hw t y
  refine pt_r h (by omega) hd (fun ig d6 M' f x => ?_) (fun ig d6 M' f r => ?_) (fun s ig hs s89 i2 M' f x => ?_) (fun s ig hs s89 i2 d6 M' f x => ?_) (fun s ig hs s89 i2 d6 M' f r => ?_) (fun s ig hs s67 d6 M' f x => ?_) (fun s ig hs s67 d6 M' f r => ?_) (fun ig e12 e6 M' f r => ?_)
  · show SA K Q (j + 1) (kk + 1) M'
    exact fA x (HF 4 p (by rw [r6_b ig, if_pos d6]) M' f x)
  · show SA K Q (j + 1) (kk + 1) M'
    have e6 := r6_b (k := k + 1) (d := d) ig
    rw [if_neg d6] at e6
    have a := isg_a ok ig
    refine h4 (k + 1) (Nat.le_refl _) (d + 1) _ _ c (20 :: w) (j + 1) (kk + 1) M' (by omega) (by omega) ⟨r, by rw [qfr_B f]; exact hB, okc 20 (Or.inr (Or.inr (Or.inr (by decide)))), by rw [List.cons_append, lenc]; omega, by omega, by omega⟩ (popO_1 (by decide) w) ⟨by show wco 20 ≠ 3; decide, by show wco 20 ≠ 4; decide, by show wco 20 ≠ 1; decide, by show wco 20 ≠ 2; decide⟩ (fun f' pl hf M2 g x => HF f' pl (by rw [e6]; exact bnd_l hf) M2 (qfr_t f g) x) (fun x hx q c' M2 jj k2 g hq hc hm hs r2 b1 b2 => ?_)
    have l1 := lcm hc
    have g6 := Rq_len (k + 1) 4 (d + 1) _ _ x a.2 hx
    have g61 := g6.1
    have g62 := g6.2.2.2.2.2.1
    have l2 := len_a q (20 :: (w ++ w0))
    have l3 := lenc 20 (w ++ w0)
    obtain ⟨jj, rfl⟩ : ∃ i, jj = i + 1 := ⟨jj - 1, by omega⟩
    obtain ⟨k2, rfl⟩ : ∃ i, k2 = i + 1 := ⟨k2 - 1, by omega⟩
    have hB2 : M2 66 83 = (w0.length : Int) := by rw [qfr_B g, qfr_B f]; exact hB
    have r2' : rQ b n x.2.1 x.2.2 c' (q ++ 20 :: (w ++ w0)) (d + 1) M2 := r2
    cases ic : isg b n x.2.1 x.2.2 41 with
    | true =>
      have a3 := isg_a g6.2 ic
      refine go_cl r2' ic (by omega) (by omega) (q10 hq) (Or.inl rfl) (by omega) (fun M3 f3 r3 => ?_)
      have r3' : rQ b n (nxp b n x.2.1) (nxe b n x.2.1) (c ++ x.1) (w ++ w0) d M3 := by
        rw [show cs 20 = [] from rfl, List.append_nil, hc, show d + 1 - 1 = d by omega] at r3
        exact r3
      exact ⟨w.length + 1, fin (x.1, nxp b n x.2.1, nxe b n x.2.1) (by rw [e6, bnd_r hx, bnd_r (pS_r ic)]) M3 (jj + 1) k2 _ _ (fun _ _ y => y) (qfr_t f (qfr_t g f3)) r3' (by show n + 3 ≤ ((jj + 1 : Nat) : Int) + nxp b n x.2.1; omega) (by show n + 3 ≤ (k2 : Int) + nxp b n x.2.1; omega)⟩
    | false =>
      exact go_k r2' ic (fun M3 r3 q3 => gk_no q3 hm hs (fun M4 r4 q4 a4 => BK_f q4 a4 (by omega) (q10 hq) (Or.inl rfl) (by rw [qfr_B (qfr_f r4), qfr_B (qfr_f r3)]; omega) (fun M5 f5 x5 => fR (HF 1 x.2.1 (by rw [e6, bnd_r hx, bnd_l (pS_l ic)]) M5 (qfr_t f (qfr_t g (qfr_t (qfr_f (rfr_t r3 r4)) f5))) x5))))
  · show SA K Q (j + 1) (kk + 1) M'
    exact fA x (HF 1 _ (by rw [r6_m ig hs s89]; exact bnd_l (by rw [Rq_7, if_pos (by rw [i2]; decide)])) M' f x)
  · show SA K Q (j + 1) (kk + 1) M'
    exact fA x (HF 4 _ (by rw [r6_m ig hs s89]; exact bnd_l (by rw [Rq_7, if_neg (fun y => y i2), if_pos d6])) M' f x)
  · show SA K Q (j + 1) (kk + 1) M'
    have k1 : knd b n p e = 1 := fdx_k (is := fl 12) (k := 0) (by rw [← hs]; omega)
    have a := advq ok (Or.inl k1)
    have a' := isg_a a.2 i2
    have e6 := r6_m (k := k + 1) (d := d) ig hs s89
    have e7 := Rq_7 (k := k) (b := b) (n := n) (d := d) (p := nxp b n p) (e := nxe b n p)
    rw [if_neg (fun y => y i2), if_neg d6] at e7
    have t21 : s + 13 = 21 ∨ s + 13 = 22 := by omega
    refine h4 k (Nat.le_succ _) (d + 1) _ _ c ((s + 13) :: w) (j + 1) (kk + 1) M' (by omega) (by omega) ⟨r, by rw [qfr_B f]; exact hB, okc _ (Or.inr (Or.inr (Or.inr (by omega)))), by rw [List.cons_append, lenc]; omega, by omega, by omega⟩ (popO_1 (by omega) w) ⟨by show wco (s + 13) ≠ 3; rw [wco_b (by omega)]; omega, by show wco (s + 13) ≠ 4; rw [wco_b (by omega)]; omega, by show wco (s + 13) ≠ 1; rw [wco_b (by omega)]; omega, by show wco (s + 13) ≠ 2; rw [wco_b (by omega)]; omega⟩ (fun f' pl hf M2 g x => HF f' pl (by rw [e6]; exact bnd_l (by rw [e7]; exact bnd_l hf)) M2 (qfr_t f g) x) (fun x hx q c' M2 jj k2 g hq hc hm hs' r2 b1 b2 => ?_)
    have l1 := lcm hc
    have g6 := Rq_len k 4 (d + 1) _ _ x a'.2 hx
    have g61 := g6.1
    have g62 := g6.2.2.2.2.2.1
    have l2 := len_a q ((s + 13) :: (w ++ w0))
    have l3 := lenc (s + 13) (w ++ w0)
    obtain ⟨jj, rfl⟩ : ∃ i, jj = i + 1 := ⟨jj - 1, by omega⟩
    obtain ⟨k2, rfl⟩ : ∃ i, k2 = i + 1 := ⟨k2 - 1, by omega⟩
    have hB2 : M2 66 83 = (w0.length : Int) := by rw [qfr_B g, qfr_B f]; exact hB
    have r2' : rQ b n x.2.1 x.2.2 c' (q ++ (s + 13) :: (w ++ w0)) (d + 1) M2 := r2
    refine go_k1 r2' (by omega) (q10 hq) t21 (by omega) (fun M3 r3 q3 => gk_no q3 hm hs' (fun M4 r4 q4 a4 => BK_c q4 (by omega) (q10 hq) t21 (by rw [qfr_B (qfr_f r4), qfr_B (qfr_f r3)]; omega) (fun ic M5 f5 x5 => ?_) (fun ic M5 f5 r5 => ?_)))
    · exact fR (HF 1 x.2.1 (by rw [e6]; exact bnd_l (by rw [e7, bnd_r hx]; exact bnd_l (pS_l ic))) M5 (qfr_t f (qfr_t g (qfr_t (qfr_f (rfr_t r3 r4)) f5))) x5)
    · show PX12_qSums_15 K Q (jj + 1) 1 M5
      refine S15 (kk := 1700) r5.1.2.1 ?_
      have F5 := qfr_t f (qfr_t g (qfr_t (qfr_f (rfr_t r3 r4)) f5))
      have a3 := isg_a g6.2 ic
      have l4 := lca c' (mps q)
      have l5 := mps_len q
      have t23 : s + 13 + 2 = 23 ∨ s + 13 + 2 = 24 := by omega
      refine h4 k (Nat.le_succ _) (d + 1) _ _ (c' ++ mps q) ((s + 13 + 2) :: w) jj 1700 M5 (by omega) (by omega) ⟨r5, by rw [qfr_B F5]; exact hB, okc _ (Or.inr (Or.inr (Or.inr (by omega)))), by rw [List.cons_append, lenc]; omega, by omega, by omega⟩ (popO_1 (by omega) w) ⟨by show wco (s + 13 + 2) ≠ 3; rw [wco_b (by omega)]; omega, by show wco (s + 13 + 2) ≠ 4; rw [wco_b (by omega)]; omega, by show wco (s + 13 + 2) ≠ 1; rw [wco_b (by omega)]; omega, by show wco (s + 13 + 2) ≠ 2; rw [wco_b (by omega)]; omega⟩ (fun f' pl hf M2 g x' => HF f' pl (by rw [e6]; exact bnd_l (by rw [e7, bnd_r hx, bnd_r (pS_r ic)]; exact bnd_l hf)) M2 (qfr_t F5 g) x') (fun y hy q2 c2 M6 j2 k3 g2 hq2 hc2 hm2 hs2 r6 b3 b4 => ?_)
      have l6 := lcm hc2
      have g7 := Rq_len k 4 (d + 1) _ _ y a3.2 hy
      have g71 := g7.1
      have g72 := g7.2.2.2.2.2.1
      have l7 := len_a q2 ((s + 13 + 2) :: (w ++ w0))
      have l8 := lenc (s + 13 + 2) (w ++ w0)
      obtain ⟨j2, rfl⟩ : ∃ i, j2 = i + 1 := ⟨j2 - 1, by omega⟩
      obtain ⟨k3, rfl⟩ : ∃ i, k3 = i + 1 := ⟨k3 - 1, by omega⟩
      have hB6 : M6 66 83 = (w0.length : Int) := by rw [qfr_B g2, qfr_B F5]; exact hB
      have r6' : rQ b n y.2.1 y.2.2 c2 (q2 ++ (s + 13 + 2) :: (w ++ w0)) (d + 1) M6 := r6
      cases id' : isg b n y.2.1 y.2.2 41 with
      | true =>
        have a8 := isg_a g7.2 id'
        refine go_cl r6' id' (by omega) (by omega) (q10 hq2) (Or.inr t23) (by omega) (fun M7 f7 r7 => ?_)
        have ecs : cs (s + 13 + 2) = [(s, 0)] := by rcases s89 with rfl | rfl <;> rfl
        have r7' : rQ b n (nxp b n y.2.1) (nxe b n y.2.1) (c ++ (x.1 ++ y.1 ++ [(s, 0)])) (w ++ w0) d M7 := by
          rw [ecs, hc2, hc, show d + 1 - 1 = d by omega, List.append_assoc, List.append_assoc] at r7
          rw [List.append_assoc]
          exact r7
        exact ⟨w.length + 1, fin (x.1 ++ y.1 ++ [(s, 0)], nxp b n y.2.1, nxe b n y.2.1) (by rw [e6, e7, bnd_r hx, bnd_r (pS_r ic), bnd_r hy, bnd_r (pS_r id')]; rfl) M7 (j2 + 1) k3 _ _ (fun _ _ y => y) (qfr_t F5 (qfr_t g2 f7)) r7' (by show n + 3 ≤ ((j2 + 1 : Nat) : Int) + nxp b n y.2.1; omega) (by show n + 3 ≤ (k3 : Int) + nxp b n y.2.1; omega)⟩
      | false =>
        exact go_k r6' id' (fun M7 r7 q7 => gk_no q7 hm2 hs2 (fun M8 r8 q8 a8 => BK_f q8 a8 (by omega) (q10 hq2) (Or.inr t23) (by rw [qfr_B (qfr_f r8), qfr_B (qfr_f r7)]; omega) (fun M9 f9 x9 => fR (HF 1 y.2.1 (by rw [e6]; exact bnd_l (by rw [e7, bnd_r hx, bnd_r (pS_r ic), bnd_r hy]; exact bnd_l (pS_l id'))) M9 (qfr_t F5 (qfr_t g2 (qfr_t (qfr_f (rfr_t r7 r8)) f9))) x9))))
  · show SA K Q (j + 1) (kk + 1) M'
    exact fA x (HF 4 p (by rw [r6_o ig hs s67, if_pos d6]) M' f x)
  · show SA K Q (j + 1) (kk + 1) M'
    have k1 : knd b n p e = 1 := fdx_k (is := fl 12) (k := 0) (by rw [← hs]; omega)
    have a := advq ok (Or.inl k1)
    have e6 := r6_o (k := k + 1) (d := d) ig hs s67
    rw [if_neg d6] at e6
    refine h6 (d + 1) _ _ c (s :: w) (j + 1) (kk + 1) M' (by omega) (by omega) ⟨r, by rw [qfr_B f]; exact hB, okc s (by rcases s67 with y | y; exact Or.inl y; exact Or.inr (Or.inl y)), by rw [List.cons_append, lenc]; omega, by omega, by omega⟩ (fun f' pl hf M2 g x => HF f' pl (by rw [e6]; exact bnd_l hf) M2 (qfr_t f g) x) (fun x hx c' w' m hm M2 jj k2 g r2 b1 b2 => ?_)
    have e1 : popO (s :: w) (c ++ x.1) = ((popO w (c ++ x.1 ++ [(s, 0)])).1, (popO w (c ++ x.1 ++ [(s, 0)])).2.1, (popO w (c ++ x.1 ++ [(s, 0)])).2.2 + 1) := if_pos s67
    rw [e1, List.append_assoc c x.1] at hm
    cases hm
    refine HO (x.1 ++ [(s, 0)], x.2.1, x.2.2) (by rw [e6, bnd_r hx]) _ _ _ rfl M2 jj k2 (qfr_t f g) ?_ b1 b2
    show rQ b n x.2.1 x.2.2 (popO w (c ++ (x.1 ++ [(s, 0)]))).2.1 ((popO w (c ++ (x.1 ++ [(s, 0)]))).1 ++ w0) (d - (popO w (c ++ (x.1 ++ [(s, 0)]))).2.2) M2
    rw [show d - (popO w (c ++ (x.1 ++ [(s, 0)]))).2.2 = d + 1 - ((popO w (c ++ (x.1 ++ [(s, 0)]))).2.2 + 1) by omega]
    exact r2
  · have ep := r6_p (k := k + 1) (d := d) ig (by rw [e12]; exact e6)
    refine ⟨fun _ => pe_r r (by omega) e12 e6 (fun f' pl hf M2 g x => fS x (HF f' pl (by rw [ep]; exact hf) M2 (qfr_t f g) x) 0) (fun x hx M2 g r2 => ?_), fun y => absurd rfl y⟩
    have g6 := Rq_len (k + 2) 6 d p e x ok (by rw [ep]; exact hx)
    have g61 := g6.1
    exact ⟨w.length + 1, fin x (by rw [ep]; exact hx) M2 (j + 1) 1700 _ _ (fun M4 y5 y => ⟨fun _ => ⟨1700, y⟩, fun z => absurd y5 z⟩) (qfr_t f g) r2 (by omega) (by omega)⟩
theorem q_all (hw0 : ∀ s ∈ w0, low s) : ∀ m i : Nat, i ≤ m → qc4 b n w0 K Q i ∧ qc5 b n w0 K Q i ∧ qc6 b n w0 K Q i := by
  have z4 : qc4 b n w0 K Q 0 := fun d p e c w j kk M hd hk => by omega
  have z5 : qc5 b n w0 K Q 0 := fun d p e c w j kk M hd hk => by omega
  have z6 : qc6 b n w0 K Q 0 := fun d p e c w j kk M hd hk => by omega
  have y6 : qc6 b n w0 K Q 1 := fun d p e c w j kk M hd hk => by omega
  intro m
  induction m with
  | zero =>
    intro i hi
    have : i = 0 := by omega
    subst this
    exact ⟨z4, z5, z6⟩
  | succ m ih =>
    intro i hi
    by_cases z : i ≤ m
    · exact ih i z
    have : i = m + 1 := by omega
    subst this
    have im := ih m (Nat.le_refl _)
    refine ⟨pc4 im.2.1, pc5 im.2.2, ?_⟩
    cases m with
    | zero => exact y6
    | succ m => exact pc6 hw0 (fun i hi => (ih i hi).1) im.2.2
theorem low_h {w : List Int} (h : ∀ s ∈ w, low s) : hdw w ≠ 3 ∧ hdw w ≠ 4 ∧ hdw w ≠ 1 ∧ hdw w ≠ 2 := by
  cases w with
  | nil => decide
  | cons s w =>
    show wco s ≠ 3 ∧ wco s ≠ 4 ∧ wco s ≠ 1 ∧ wco s ≠ 2
    rcases h s (List.mem_cons_self ..) with rfl | rfl | rfl | rfl <;> decide
theorem rQ_83 {v : Int} (h : rQ b n p e c w d M) : rQ b n p e c w d (mset M 66 83 v) :=
  have f : ∀ q, q ≠ 66 → mset M 66 83 v q = M q := fun q x => mset_p x
  ⟨rK_q h.1 (f 67 (by decide)) (fun j hj => mset_k (by omega)), cR_c (mset_k (by decide)) (f 122 (by decide)) h.2.1, ⟨by rw [mset_k (by decide)]; exact h.2.2.1.1, wS_c w (fun i _ _ => by rw [f 123 (by decide)]) h.2.2.1.2⟩, by rw [mset_k (by decide)]; exact h.2.2.2.1, fun i hi j hj => by rw [f (i : Nat) (by omega)]; exact h.2.2.2.2 i hi j hj⟩
theorem qfr_83 {v : Int} (h : qfr (mset M 66 83 v) M') : qfr M (mset M' 66 83 (M 66 83)) := ⟨fun q x y z => by rw [mset_p x, h.1 q x y z, mset_p x], fun j a1 a2 a3 a4 a5 a6 a7 a8 a9 => by
  by_cases z : j = 83
  · rw [z, mset_e]
  · rw [mset_k z, h.2 j a1 a2 a3 a4 a5 a6 a7 a8 a9, mset_k z]⟩
/-- a sum of a test or of a question -/
theorem qsum_r (hw0 : ∀ s ∈ w0, low s) (hk : 8 * (6 - d) + 4 ≤ k) (hd : 0 ≤ d ∧ d ≤ 6) (h : rQ b n p e c w0 d M) (hl : (c.length : Int) + w0.length ≤ p) (HF : ∀ f pl, Rq b n k 4 d p e = Sum.inl (f, pl) → ∀ M' : Mem, qfr M M' → rXq f pl M' → Q 0 M') (HO : ∀ x, Rq b n k 4 d p e = Sum.inr x → ∀ M' : Mem, qfr M M' → rQ b n x.2.1 x.2.2 (c ++ x.1) w0 d M' → Q 0 M') : PX12_qSums M Q := by
  intro M2 h2
  have ok : bOK b n p := h.1.1.1
  have p0 := ok.2.2.2.1
  have n16 := ok.2.1
  have pn := ok.2.2.2.2.1
  have r2 : rQ b n p e c w0 d M2 := by rw [h2]; exact rQ_83 h
  have B2 : M2 66 83 = (w0.length : Int) := by rw [h2, mset_e]; exact h.2.2.1.1
  have fq : ∀ M', qfr M2 M' → qfr M (mset M' 66 83 (M 66 83)) := fun M' f => by rw [h2] at f; exact qfr_83 f
  refine ⟨1701, S15 (kk := 1700) r2.1.2.1 ?_⟩
  refine (q_all hw0 k k (Nat.le_refl _)).1 d p e c [] 1700 1700 M2 hd hk ⟨r2, B2, fun s hs => absurd hs (by simp), hl, by omega, by omega⟩ (fun c => rfl) (low_h hw0) (fun f pl hf M' g x => ?_) (fun x hx q c' M' jj kk g hq hc hm hs r a1 a2 => ?_)
  · refine ⟨1, fun z => absurd (x.1.1.symm.trans z) x.1.2.2, fun _ M10 h10 => ?_⟩
    rw [h10]
    exact HF f pl hf _ (fq M' g) ⟨⟨by rw [mset_k (by decide)]; exact x.1.1, by rw [mset_k (by decide)]; exact x.1.2.1, x.1.2.2⟩, by rw [mset_k (by decide)]; exact x.2.1, by rw [mset_k (by decide)]; exact x.2.2⟩
  · have r' : rQ b n x.2.1 x.2.2 c' (q ++ w0) d M' := r
    have g4 := Rq_len k 4 d p e x ok hx
    have g41 := g4.1
    have g42 := g4.2.2.2.2.2.1
    have l1 := lcm hc
    have l2 := len_a q w0
    obtain ⟨jj, rfl⟩ : ∃ i, jj = i + 1 := ⟨jj - 1, by omega⟩
    obtain ⟨kk, rfl⟩ : ∃ i, kk = i + 1 := ⟨kk - 1, by omega⟩
    refine go_k0 r' (by omega) (q10 hq) (by rw [qfr_B g]; exact B2) (fun M3 r3 q3 => gk_no q3 hm hs (fun M4 r4 q4 a4 => BK_n q4 (by omega) (q10 hq) (by rw [qfr_B (qfr_f r4), qfr_B (qfr_f r3), qfr_B g]; exact B2) (fR ⟨q.length + 1, ?_⟩)))
    refine p53 q _ c' M4 (Nat.lt_succ_self _) (q10 hq) (by rw [qfr_B (qfr_f r4), qfr_B (qfr_f r3), qfr_B g]; exact B2) q4 (by omega) (fun M7 f7 r7 M10 h10 => ?_)
    rw [h10]
    refine HO x hx _ (fq M7 (qfr_t g (qfr_t (qfr_f (rfr_t r3 r4)) f7))) ?_
    rw [← hc]
    exact rQ_83 r7
end
