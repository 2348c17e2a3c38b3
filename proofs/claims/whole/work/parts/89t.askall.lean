/-! ask: the reference has read a test -/
def TRq (K : Mem → Prop) (Q : Int → Mem → Prop) (j : Nat) : Int → Mem → Prop := fun a18 M19 => PX12_qTest_2 K Q j (if a18 = 0 then (0 : Int) else 1) M19
def TE (K : Mem → Prop) (Q : Int → Mem → Prop) (j kk : Nat) (M : Mem) : Prop := PX12_qGoesOnTest_0 (TGKq (TRq K Q j)) (TRq K Q j) kk M
def pret (b : Int → Int) (n : Int) (d p e : Int) (c : Cds) (w : List Int) (j : Nat) (M : Mem) : Prop := rQ b n p e c w d M ∧ (∀ s ∈ w, low s) ∧ (c.length : Int) + w.length ≤ p ∧ n + 3 ≤ j + p
def tc2 (b : Int → Int) (n : Int) (K : Mem → Prop) (Q : Int → Mem → Prop) (k : Nat) : Prop := ∀ (d p e : Int) (c : Cds) (w : List Int) (j : Nat) (M : Mem), (0 ≤ d ∧ d ≤ 6) → 8 * (6 - d) + 6 ≤ k → pret b n d p e c w j M →
  (∀ f pl, Rq b n k 2 d p e = Sum.inl (f, pl) → ∀ M' : Mem, qfr M M' → rX f pl M' → K M') →
  (∀ x, Rq b n k 2 d p e = Sum.inr x → ∀ (c' : Cds) (w' : List Int) (m : Int), popT w (c ++ x.1) = (w', c', m) → ∀ (M' : Mem) (jj kk' : Nat), qfr M M' → rQ b n x.2.1 x.2.2 c' w' (d - m) M' → n + 2 ≤ jj + x.2.1 → n + 3 ≤ kk' + x.2.1 → TE K Q jj kk' M') → PX12_qTest_2 K Q j 1 M
def tc1 (b : Int → Int) (n : Int) (K : Mem → Prop) (Q : Int → Mem → Prop) (k : Nat) : Prop := ∀ (d p e : Int) (c : Cds) (w : List Int) (j : Nat) (M : Mem), (0 ≤ d ∧ d ≤ 6) → 8 * (6 - d) + 7 ≤ k → pret b n d p e c w j M → (∀ c, popT w c = (w, c, 0)) → hdw w ≠ 10 →
  (∀ f pl, Rq b n k 1 d p e = Sum.inl (f, pl) → ∀ M' : Mem, qfr M M' → rX f pl M' → K M') →
  (∀ x, Rq b n k 1 d p e = Sum.inr x → ∀ (q : List Int) (c' : Cds) (M' : Mem) (jj kk' : Nat), qfr M M' → (∀ s ∈ q, s = 17) → c' ++ mps q = c ++ x.1 → tAnd b n x.2.1 x.2.2 = -1 → rQ b n x.2.1 x.2.2 c' (q ++ w) d M' → n + 2 ≤ jj + x.2.1 → n + 3 ≤ kk' + x.2.1 → TE K Q jj kk' M') → PX12_qTest_2 K Q j 1 M
def tc0 (b : Int → Int) (n : Int) (K : Mem → Prop) (Q : Int → Mem → Prop) (k : Nat) : Prop := ∀ (d p e : Int) (c : Cds) (w : List Int) (j : Nat) (M : Mem), (0 ≤ d ∧ d ≤ 6) → 8 * (6 - d) + 8 ≤ k → pret b n d p e c w j M → (∀ c, popT w c = (w, c, 0)) → (hdw w ≠ 10 ∧ hdw w ≠ 11) →
  (∀ f pl, Rq b n k 0 d p e = Sum.inl (f, pl) → ∀ M' : Mem, qfr M M' → rX f pl M' → K M') →
  (∀ x, Rq b n k 0 d p e = Sum.inr x → ∀ (q : List Int) (c' : Cds) (M' : Mem) (jj kk' : Nat), qfr M M' → (∀ s ∈ q, s = 17 ∨ s = 18) → c' ++ mps q = c ++ x.1 → tAnd b n x.2.1 x.2.2 = -1 → tOr b n x.2.1 x.2.2 = -1 → rQ b n x.2.1 x.2.2 c' (q ++ w) d M' → n + 2 ≤ jj + x.2.1 → n + 3 ≤ kk' + x.2.1 → TE K Q jj kk' M') → PX12_qTest_2 K Q j 1 M
theorem popT_1 {s : Int} (h : ¬ s = 19) (w : List Int) (c : Cds) : popT (s :: w) c = (s :: w, c, 0) := if_neg h
section
variable {b : Int → Int} {n p e d : Int} {c : Cds} {w : List Int} {M M' : Mem} {Q : Int → Mem → Prop} {K : Mem → Prop} {f pl : Int} {j kk k : Nat}
theorem ft0 (h : K M) : TRq K Q (j + 1) 0 M := ⟨fun _ => h, fun y => absurd rfl y⟩
theorem ftA (hx : rX f pl M) (h : K M) (v : Int) : PX12_qTest_2 K Q (j + 1) v M := ⟨fun _ => h, fun _ => ⟨fun y => absurd (hx.1.symm.trans y) hx.2.2, fun _ => h⟩⟩
theorem isw_93 {i : Nat} (h : iswd b n p e (wd i) = true) : isg b n p e 93 = false := Bool.eq_false_iff.mpr (fun z => by
  have := (isg_k z).1
  have := (iswd_k h).1
  omega)
theorem lpA (h2 : tc2 b n K Q k) (hd : 0 ≤ d ∧ d ≤ 6) (hk : 8 * (6 - d) + 6 ≤ k) (hw : ∀ s ∈ w, low s) (hh : hdw w ≠ 10) : ∀ (i : Nat) (a : Cds) (p e : Int) (q : List Int) (c' : Cds) (M : Mem) (jj kk : Nat), n + 1 ≤ i + p → rQ b n p e c' (q ++ w) d M → (∀ s ∈ q, s = 17) → c' ++ mps q = c ++ a → (c'.length : Int) + (q ++ w).length ≤ p → n + 2 ≤ jj + p → n + 3 ≤ kk + p →
    (∀ f pl, lpq b n (tAnd b n) (Rq b n k 2 d) i a p e = Sum.inl (f, pl) → ∀ M' : Mem, qfr M M' → rX f pl M' → K M') →
    (∀ x, lpq b n (tAnd b n) (Rq b n k 2 d) i a p e = Sum.inr x → ∀ (q : List Int) (c' : Cds) (M' : Mem) (jj kk' : Nat), qfr M M' → (∀ s ∈ q, s = 17) → c' ++ mps q = c ++ x.1 → tAnd b n x.2.1 x.2.2 = -1 → rQ b n x.2.1 x.2.2 c' (q ++ w) d M' → n + 2 ≤ jj + x.2.1 → n + 3 ≤ kk' + x.2.1 → TE K Q jj kk' M') → TE K Q jj kk M := by
  intro i
  induction i with
  | zero =>
    intro a p e q c' M jj kk hi h
    have := h.1.1.1.2.2.2.2.1
    omega
  | succ i ih =>
    intro a p e q c' M jj kk hi h hq hc hl a1 a2 HF HO
    have ok : bOK b n p := h.1.1.1
    have pn := ok.2.2.2.2.1
    have n16 := ok.2.1
    have e1 : lpq b n (tAnd b n) (Rq b n k 2 d) (i + 1) a p e = if tAnd b n p e = -1 then Sum.inr (a, p, e) else bnd (Rq b n k 2 d (nxp b n p) (nxe b n p)) (fun x => lpq b n (tAnd b n) (Rq b n k 2 d) i (a ++ x.1 ++ [(tAnd b n p e, 0)]) x.2.1 x.2.2) := rfl
    rw [e1] at HF HO
    by_cases z : tAnd b n p e = -1
    · rw [if_pos z] at HO
      exact HO _ rfl q c' M jj kk (qfr_r M) hq hc z h a1 a2
    rw [if_neg z] at HF HO
    have tv := tAnd_1 z
    have ad := advq ok (t_and z)
    rw [tv.2] at HF HO
    obtain ⟨kk, rfl⟩ : ∃ i, kk = i + 1 := ⟨kk - 1, by omega⟩
    refine tt_k h (isw_93 tv.1) (fun M3 r3 q3 => ?_)
    refine tg_and q3 (by omega) hq hh tv.1 (fun M5 f5 r5 => ?_)
    have F5 := qfr_t (qfr_f r3) f5
    have l1 := lca c' (mps q)
    have l2 := mps_len q
    have l3 := len_a q w
    show PX12_qTest_2 K Q jj 1 M5
    refine h2 d _ _ (c' ++ mps q) (17 :: w) jj M5 hd hk ⟨r5, fun s hs => ?_, by rw [lenc]; omega, by omega⟩ (fun f pl hf M' g x => HF f pl (bnd_l hf) M' (qfr_t F5 g) x) (fun x hx c2 w2 m hm M' j2 k2 g r b1 b2 => ?_)
    · rcases List.mem_cons.mp hs with y | y
      · rw [y]; exact Or.inl rfl
      · exact hw s y
    rw [popT_1 (by decide)] at hm
    cases hm
    rw [bnd_r hx] at HF HO
    rw [Int.sub_zero] at r
    have g6 := Rq_len k 2 d _ _ x ad.2 hx
    have g61 := g6.1
    have l4 := lca (c' ++ mps q) x.1
    have l5 := lenc 17 w
    refine ih (a ++ x.1 ++ [(17, 0)]) x.2.1 x.2.2 [17] (c' ++ mps q ++ x.1) M' j2 k2 (by omega) r (fun s hs => List.mem_singleton.mp hs) ?_ ?_ b1 b2 (fun f pl hf M' g' x' => HF f pl hf M' (qfr_t F5 (qfr_t g g')) x') (fun y hy q' c3 M3 j3 k3 g' u1 u2 u3 u4 u5 u6 => HO y hy q' c3 M3 j3 k3 (qfr_t F5 (qfr_t g g')) u1 u2 u3 u4 u5 u6)
    · show c' ++ mps q ++ x.1 ++ [(17, 0)] = c ++ (a ++ x.1 ++ [(17, 0)])
      rw [hc, List.append_assoc c, List.append_assoc c]
    · show ((c' ++ mps q ++ x.1).length : Int) + ((17 :: w).length : Nat) ≤ x.2.1
      rw [l4, l5]
      omega
theorem pt1 (h2 : tc2 b n K Q k) : tc1 b n K Q (k + 1) := by
  intro d p e c w j M hd hk hp hno hh HF HO
  rw [Rq_1] at HF HO
  obtain ⟨h, hw, hl, a1⟩ := id hp
  have ok : bOK b n p := h.1.1.1
  refine h2 d p e c w j M hd (by omega) hp (fun f pl h => HF f pl (bnd_l h)) (fun x hx c' w' m hm M' jj kk' f r b1 b2 => ?_)
  rw [hno] at hm
  cases hm
  rw [bnd_r hx] at HF HO
  rw [Int.sub_zero] at r
  have g := Rq_len k 2 d p e x ok hx
  have g1 := g.1
  have n16 := ok.2.1
  have x0 := g.2.2.2.2.1
  have l1 := lca c x.1
  exact lpA h2 hd (by omega) hw hh 1601 x.1 x.2.1 x.2.2 [] (c ++ x.1) M' jj kk' (by omega) r (fun s hs => absurd hs (by simp)) (List.append_nil _) (by show ((c ++ x.1).length : Int) + w.length ≤ x.2.1; omega) b1 b2 (fun f' pl hf M2 g' x' => HF f' pl hf M2 (qfr_t f g') x') (fun y hy q' c3 M3 j3 k3 g' u1 u2 u3 u4 u5 u6 => HO y hy q' c3 M3 j3 k3 (qfr_t f g') u1 u2 u3 u4 u5 u6)
theorem lpO (h1 : tc1 b n K Q k) (hd : 0 ≤ d ∧ d ≤ 6) (hk : 8 * (6 - d) + 7 ≤ k) (hw : ∀ s ∈ w, low s) (hh : hdw w ≠ 10 ∧ hdw w ≠ 11) : ∀ (i : Nat) (a : Cds) (p e : Int) (q : List Int) (c' : Cds) (M : Mem) (jj kk : Nat), n + 1 ≤ i + p → tAnd b n p e = -1 → rQ b n p e c' (q ++ w) d M → (∀ s ∈ q, s = 17 ∨ s = 18) → c' ++ mps q = c ++ a → (c'.length : Int) + (q ++ w).length ≤ p → n + 2 ≤ jj + p → n + 3 ≤ kk + p →
    (∀ f pl, lpq b n (tOr b n) (Rq b n k 1 d) i a p e = Sum.inl (f, pl) → ∀ M' : Mem, qfr M M' → rX f pl M' → K M') →
    (∀ x, lpq b n (tOr b n) (Rq b n k 1 d) i a p e = Sum.inr x → ∀ (q : List Int) (c' : Cds) (M' : Mem) (jj kk' : Nat), qfr M M' → (∀ s ∈ q, s = 17 ∨ s = 18) → c' ++ mps q = c ++ x.1 → tAnd b n x.2.1 x.2.2 = -1 → tOr b n x.2.1 x.2.2 = -1 → rQ b n x.2.1 x.2.2 c' (q ++ w) d M' → n + 2 ≤ jj + x.2.1 → n + 3 ≤ kk' + x.2.1 → TE K Q jj kk' M') → TE K Q jj kk M := by
  intro i
  induction i with
  | zero =>
    intro a p e q c' M jj kk hi _ h
    have := h.1.1.1.2.2.2.2.1
    omega
  | succ i ih =>
    intro a p e q c' M jj kk hi hm0 h hq hc hl a1 a2 HF HO
    have ok : bOK b n p := h.1.1.1
    have pn := ok.2.2.2.2.1
    have n16 := ok.2.1
    have e1 : lpq b n (tOr b n) (Rq b n k 1 d) (i + 1) a p e = if tOr b n p e = -1 then Sum.inr (a, p, e) else bnd (Rq b n k 1 d (nxp b n p) (nxe b n p)) (fun x => lpq b n (tOr b n) (Rq b n k 1 d) i (a ++ x.1 ++ [(tOr b n p e, 0)]) x.2.1 x.2.2) := rfl
    rw [e1] at HF HO
    by_cases z : tOr b n p e = -1
    · rw [if_pos z] at HO
      exact HO _ rfl q c' M jj kk (qfr_r M) hq hc hm0 z h a1 a2
    rw [if_neg z] at HF HO
    have tv := tOr_1 z
    have ad := advq ok (t_or z)
    rw [tv.2] at HF HO
    obtain ⟨kk, rfl⟩ : ∃ i, kk = i + 1 := ⟨kk - 1, by omega⟩
    refine tt_k h (isw_93 tv.1) (fun M3 r3 q3 => ?_)
    refine tg_or q3 (by omega) hq hh (tAnd_0 hm0) tv.1 (fun M5 f5 r5 => ?_)
    have F5 := qfr_t (qfr_f r3) f5
    have l1 := lca c' (mps q)
    have l2 := mps_len q
    have l3 := len_a q w
    show PX12_qTest_2 K Q jj 1 M5
    refine h1 d _ _ (c' ++ mps q) (18 :: w) jj M5 hd hk ⟨r5, fun s hs => ?_, by rw [lenc]; omega, by omega⟩ (popT_1 (by decide) w) (by show wco 18 ≠ 10; decide) (fun f pl hf M' g x => HF f pl (bnd_l hf) M' (qfr_t F5 g) x) (fun x hx q2 c2 M' j2 k2 g hq2 hc2 hm2 r b1 b2 => ?_)
    · rcases List.mem_cons.mp hs with y | y
      · rw [y]; exact Or.inr (Or.inl rfl)
      · exact hw s y
    rw [bnd_r hx] at HF HO
    have g6 := Rq_len k 1 d _ _ x ad.2 hx
    have g61 := g6.1
    have l4 := lcm hc2
    have l5 := lenc 18 w
    have l6 := len_a q2 (18 :: w)
    refine ih (a ++ x.1 ++ [(18, 0)]) x.2.1 x.2.2 (q2 ++ [18]) c2 M' j2 k2 (by omega) hm2 (by rw [List.append_assoc]; exact r) (fun s hs => ?_) ?_ ?_ b1 b2 (fun f pl hf M' g' x' => HF f pl hf M' (qfr_t F5 (qfr_t g g')) x') (fun y hy q' c3 M3 j3 k3 g' u1 u2 u3 u4 u5 u6 u7 => HO y hy q' c3 M3 j3 k3 (qfr_t F5 (qfr_t g g')) u1 u2 u3 u4 u5 u6 u7)
    · rcases List.mem_append.mp hs with y | y
      · exact Or.inl (hq2 s y)
      · exact Or.inr (List.mem_singleton.mp y)
    · rw [mps_a, ← List.append_assoc, hc2, hc]
      show c ++ a ++ x.1 ++ [(18, 0)] = c ++ (a ++ x.1 ++ [(18, 0)])
      rw [List.append_assoc c, List.append_assoc c]
    · rw [List.append_assoc]
      show (c2.length : Int) + ((q2 ++ (18 :: w)).length : Nat) ≤ x.2.1
      rw [l6, l5]
      omega
theorem pt0 (h1 : tc1 b n K Q k) : tc0 b n K Q (k + 1) := by
  intro d p e c w j M hd hk hp hno hh HF HO
  rw [Rq_0] at HF HO
  obtain ⟨h, hw, hl, a1⟩ := id hp
  have ok : bOK b n p := h.1.1.1
  refine h1 d p e c w j M hd (by omega) hp hno hh.1 (fun f pl h => HF f pl (bnd_l h)) (fun x hx q2 c2 M' j2 k2 f hq2 hc2 hm2 r b1 b2 => ?_)
  rw [bnd_r hx] at HF HO
  have g := Rq_len k 1 d p e x ok hx
  have g1 := g.1
  have n16 := ok.2.1
  have x0 := g.2.2.2.2.1
  have l1 := lcm hc2
  have l2 := len_a q2 w
  exact lpO h1 hd (by omega) hw hh 1601 x.1 x.2.1 x.2.2 q2 c2 M' j2 k2 (by omega) hm2 r (fun s hs => Or.inl (hq2 s hs)) hc2 (by rw [l2]; omega) b1 b2 (fun f' pl hf M2 g' x' => HF f' pl hf M2 (qfr_t f g') x') (fun y hy q' c3 M3 j3 k3 g' u1 u2 u3 u4 u5 u6 u7 => HO y hy q' c3 M3 j3 k3 (qfr_t f g') u1 u2 u3 u4 u5 u6 u7)
theorem nb_nots (h : M 66 5 ≠ 0) (hQ : Q 0 M) : PX12_qDropsNots M Q := ⟨1, fun z => absurd z h, fun _ => hQ⟩
theorem r2_n (iw : iswd b n p e (wd 108) = true) : Rq b n (k + 1) 2 d p e = if d = 6 then Sum.inl (4, p) else bnd (Rq b n k 2 (d + 1) (nxp b n p) (nxe b n p)) (fun x => Sum.inr (x.1 ++ [(19, 0)], x.2.1, x.2.2)) := by rw [Rq_2, if_pos iw]
theorem r2_s (ig : isg b n p e 91 = true) : Rq b n (k + 1) 2 d p e = if d = 6 then Sum.inl (4, p) else bnd (Rq b n k 0 (d + 1) (nxp b n p) (nxe b n p)) (fun x => bnd (pS b n x.2.1 x.2.2 93) (fun t => Sum.inr (x.1, t.1, t.2))) := by
  rw [Rq_2, if_neg (fun z => by have := (iswd_k z).1; have := (isg_k ig).1; omega), if_pos ig]
theorem r2_f (iw : iswd b n p e (wd 108) = false) (ig : isg b n p e 91 = false) : Rq b n (k + 1) 2 d p e = Fq b n k d p e := by
  rw [Rq_2, if_neg (by rw [iw]; decide), if_neg (by rw [ig]; decide)]; rfl
theorem pt2 (h0 : tc0 b n K Q (k + 1)) (h2 : tc2 b n K Q (k + 1)) : tc2 b n K Q (k + 2) := by
  intro d p e c w j M hd hk hp HF HO
  obtain ⟨h, hw, hl, a1⟩ := id hp
  have ok : bOK b n p := h.1.1.1
  have p0 := ok.2.2.2.1
  have n16 := ok.2.1
  have pn := ok.2.2.2.2.1
  obtain ⟨j, rfl⟩ : ∃ i, j = i + 2 := ⟨j - 2, by omega⟩
  have fin : ∀ (x : Cds × Int × Int), Rq b n (k + 2) 2 d p e = Sum.inr x → ∀ (N : Mem) (jj k2 : Nat) (Z : Int → Mem → Prop), (∀ M4 : Mem, M4 66 5 = 0 → TE K Q jj k2 M4 → Z 0 M4) → qfr M N → rQ b n x.2.1 x.2.2 (c ++ x.1) w d N → n + 2 ≤ jj + x.2.1 → n + 3 ≤ k2 + x.2.1 → PX12_qDropsNots N Z := by
    intro x hx N jj k2 Z hZ f r b1 b2
    have g := Rq_len (k + 2) 2 d p e x ok hx
    have g1 := g.1
    have g2 := g.2.2.2.2.2.1
    have l1 := lca c x.1
    exact ⟨w.length + 1, pnots w (w.length + 1) d (c ++ x.1) N (Nat.lt_succ_self _) hw r (by omega) (by omega) (fun M4 f4 r4 => hZ M4 r4.1.2.1 (HO x hx _ _ _ rfl M4 jj k2 (qfr_t f f4) r4 b1 b2))⟩
  refine ⟨fun y => absurd y (by decide), fun _ => ⟨fun _ => look_q h (fun M4 r4 q4 a4 => ?_), fun y => absurd h.1.2.1 y⟩⟩
  cases ig : isg b n p e 91 with
  | true =>
    rw [isg_p (e := e) (by decide) (by decide) (by decide) ig, a4]
    have op := op_r (s := 25) (pl := p) q4 (by omega) hd
    refine ⟨fun _ => ⟨op.1, fun M31 h31 M33 h33 => ?_⟩, fun y => absurd rfl y⟩
    have h31 : M31 = fmX12_qOpens M4 (wco 25) p := h31
    rw [← h31] at op
    have e2 := r2_s (k := k + 1) (d := d) ig
    by_cases y : d = 6
    · have f := op.2.1 y
      rw [if_pos y] at e2
      have x33 : rX 4 p M33 := by rw [h33]; exact rX_2 f.2
      exact ftA x33 (HF 4 p e2 M33 (by rw [h33]; exact qfr_f (rfr_t r4 (rfr_t f.1 fr_2))) x33) 1
    · rw [if_neg y] at e2
      have g := op.2.2 y
      have sg := sg_r g.1 (isg_k ig).1 (by rw [g.2.2]; exact a4)
      rw [← h33] at sg
      have a := isg_a ok ig
      have F := qfr_t (qfr_f r4) (qfr_t g.2.1 (qfr_f sg.2))
      refine h0 (d + 1) _ _ c (25 :: w) (j + 1) M33 (by omega) (by omega) ⟨sg.1, fun s hs => ?_, by rw [lenc]; omega, by omega⟩ (popT_1 (by decide) w) ⟨by show wco 25 ≠ 10; decide, by show wco 25 ≠ 11; decide⟩ (fun f' pl hf M2 g x => HF f' pl (by rw [e2]; exact bnd_l hf) M2 (qfr_t F g) x) (fun x hx q c' M2 jj k2 g hq hc ha ho r2 b1 b2 => ?_)
      · rcases List.mem_cons.mp hs with v | v
        · rw [v]; exact Or.inr (Or.inr (Or.inr rfl))
        · exact hw s v
      have l1 := lcm hc
      have g6 := Rq_len (k + 1) 0 (d + 1) _ _ x a.2 hx
      have g61 := g6.1
      have g62 := g6.2.2.2.2.2.1
      have l2 := len_a q (25 :: w)
      have l3 := lenc 25 w
      obtain ⟨jj, rfl⟩ : ∃ i, jj = i + 1 := ⟨jj - 1, by omega⟩
      obtain ⟨k2, rfl⟩ : ∃ i, k2 = i + 1 := ⟨k2 - 1, by omega⟩
      cases ic : isg b n x.2.1 x.2.2 93 with
      | true =>
        have a3 := isg_a g6.2 ic
        refine tt_cl r2 ic (by omega) (by omega) hq (fun M3 f3 r3 => ?_)
        have r3' : rQ b n (nxp b n x.2.1) (nxe b n x.2.1) (c ++ x.1) w d M3 := by
          rw [hc, show d + 1 - 1 = d by omega] at r3
          exact r3
        exact fin (x.1, nxp b n x.2.1, nxe b n x.2.1) (by rw [e2, bnd_r hx, bnd_r (pS_r ic)]) M3 (jj + 1) k2 _ (fun _ _ y => y) (qfr_t F (qfr_t g f3)) r3' (by show n + 2 ≤ ((jj + 1 : Nat) : Int) + nxp b n x.2.1; omega) (by show n + 3 ≤ (k2 : Int) + nxp b n x.2.1; omega)
      | false =>
        refine tt_k r2 ic (fun M3 r3 q3 => tg_no q3 (tAnd_0 ha) (tOr_0 ho) (fun M5 r5 q5 a5 => ?_))
        have sq := hsq1 q5 (by omega)
        refine ⟨sq.1, fun y => absurd (sq.2.symm.trans y) (by decide), fun _ => ?_⟩
        have f := rfail q5.1 1 x.2.1
        exact ft0 (HF 1 x.2.1 (by rw [e2, bnd_r hx, bnd_l (pS_l ic)]) _ (qfr_t F (qfr_t g (qfr_f (rfr_t r3 (rfr_t r5 f.1))))) (rfl_x f.2 (by decide)))
  | false =>
    refine ⟨fun y => absurd y (isg_n (e := e) (by decide) (by decide) (by decide) ig), fun _ => ?_⟩
    refine hw1 (i := 108) (by decide) rfl q4.1 q4.2.2.2.2 (fun iw M8 r8 k8 a8 => ?_) (fun iw M8 r8 k8 a8 => ?_)
    · have q8 := rQ_f r8 k8 q4
      have op := op_r (s := 19) (pl := p) q8 (by omega) hd
      rw [a8]
      refine ⟨op.1, fun M25 h25 => ?_⟩
      have h25 : M25 = fmX12_qOpens M8 (wco 19) p := h25
      rw [← h25] at op
      have e2 := r2_n (k := k + 1) (d := d) iw
      by_cases y : d = 6
      · have f := op.2.1 y
        rw [if_pos y] at e2
        exact nb_asks (by rw [f.2.1]; decide) (ftA f.2 (HF 4 p e2 M25 (qfr_f (rfr_t r4 (rfr_t r8 f.1))) f.2) 1)
      · rw [if_neg y] at e2
        have g := op.2.2 y
        have a := iswd_a ok iw
        refine aw1 (i := 108) (by decide) rfl g.1.1 g.1.2.2.2.2 iw (fun M9 r9 k9 => ?_)
        have q9 := rQ_f r9 k9 g.1
        have F := qfr_t (qfr_f (rfr_t r4 r8)) (qfr_t g.2.1 (qfr_f r9))
        refine h2 (d + 1) _ _ c (19 :: w) (j + 1) M9 (by omega) (by omega) ⟨q9, fun s hs => ?_, by rw [lenc]; omega, by omega⟩ (fun f' pl hf M2 g x => HF f' pl (by rw [e2]; exact bnd_l hf) M2 (qfr_t F g) x) (fun x hx c' w' m hm M2 jj k2 g r2 b1 b2 => ?_)
        · rcases List.mem_cons.mp hs with v | v
          · rw [v]; exact Or.inr (Or.inr (Or.inl rfl))
          · exact hw s v
        have e1 : popT (19 :: w) (c ++ x.1) = ((popT w (c ++ x.1 ++ [(19, 0)])).1, (popT w (c ++ x.1 ++ [(19, 0)])).2.1, (popT w (c ++ x.1 ++ [(19, 0)])).2.2 + 1) := rfl
        rw [e1, List.append_assoc c x.1] at hm
        cases hm
        refine HO (x.1 ++ [(19, 0)], x.2.1, x.2.2) (by rw [e2, bnd_r hx]) _ _ _ rfl M2 jj k2 (qfr_t F g) ?_ b1 b2
        show rQ b n x.2.1 x.2.2 (popT w (c ++ (x.1 ++ [(19, 0)]))).2.1 (popT w (c ++ (x.1 ++ [(19, 0)]))).1 (d - (popT w (c ++ (x.1 ++ [(19, 0)]))).2.2) M2
        rw [show d - (popT w (c ++ (x.1 ++ [(19, 0)]))).2.2 = d + 1 - ((popT w (c ++ (x.1 ++ [(19, 0)]))).2.2 + 1) by omega]
        exact r2
    · have q8 := rQ_f r8 k8 q4
      have R8 := rfr_t r4 r8
      have e2 := r2_f (k := k + 1) (d := d) iw ig
      refine fact_r (k := k) hw (by omega) hd q8 hl (fun f pl hf M12 f12 x12 => nb_nots (by rw [x12.1]; exact x12.2.2) ⟨fun y => absurd (x12.1.symm.trans y) x12.2.2, fun _ => ftA x12 (HF f pl (by rw [e2]; exact hf) M12 (qfr_t (qfr_f R8) f12) x12) 0⟩) (fun x hx M12 f12 r12 => ?_)
      have g := Rq_len (k + 2) 2 d p e x ok (by rw [e2]; exact hx)
      have g1 := g.1
      exact fin x (by rw [e2]; exact hx) M12 (j + 1) 1700 _ (fun M4 y5 y => ⟨fun _ => ⟨1700, y⟩, fun z => absurd y5 z⟩) (qfr_t (qfr_f R8) f12) r12 (by omega) (by omega)
theorem t_all : ∀ m i : Nat, i ≤ m → tc0 b n K Q i ∧ tc1 b n K Q i ∧ tc2 b n K Q i := by
  have z0 : tc0 b n K Q 0 := fun d p e c w j M hd hk => by omega
  have z1 : tc1 b n K Q 0 := fun d p e c w j M hd hk => by omega
  have z2 : tc2 b n K Q 0 := fun d p e c w j M hd hk => by omega
  have y2 : tc2 b n K Q 1 := fun d p e c w j M hd hk => by omega
  intro m
  induction m with
  | zero =>
    intro i hi
    have : i = 0 := by omega
    subst this
    exact ⟨z0, z1, z2⟩
  | succ m ih =>
    intro i hi
    by_cases z : i ≤ m
    · exact ih i z
    have : i = m + 1 := by omega
    subst this
    have im := ih m (Nat.le_refl _)
    refine ⟨pt0 im.2.1, pt1 im.2.2, ?_⟩
    cases m with
    | zero => exact y2
    | succ m => exact pt2 im.1 im.2.2
theorem qtest_r (hk : 56 ≤ k) (h : rQ b n p e [] [] 0 M) (HF : ∀ f pl, Rq b n k 0 0 p e = Sum.inl (f, pl) → ∀ M' : Mem, qfr M M' → rX f pl M' → Q 0 M') (HO : ∀ x, Rq b n k 0 0 p e = Sum.inr x → ∀ M' : Mem, qfr M M' → rQ b n x.2.1 x.2.2 x.1 [] 0 M' → Q 0 M') : PX12_qTest M Q := by
  have ok : bOK b n p := h.1.1.1
  have p0 := ok.2.2.2.1
  have n16 := ok.2.1
  have pn := ok.2.2.2.2.1
  refine ⟨1700, ?_⟩
  refine (t_all k k (Nat.le_refl _)).1 0 p e [] [] 1700 M (by decide) (by omega) ⟨h, fun s hs => absurd hs (by simp), by show (0 : Int) + 0 ≤ p; omega, by omega⟩ (fun c => rfl) (by decide) (fun f pl hf M' g x => ⟨1, fun z => absurd (x.1.symm.trans z) x.2.2, fun _ => HF f pl hf M' g x⟩) (fun x hx q c' M' jj kk g hq hc ha ho r a1 a2 => ?_)
  have g4 := Rq_len k 0 0 p e x ok hx
  have g41 := g4.1
  have g42 := g4.2.2.2.2.2.1
  have hc' : c' ++ mps q = x.1 := hc
  have l1 : (c'.length : Int) + q.length = x.1.length := by have := lcm hc; simpa using this
  rw [List.append_nil] at r
  obtain ⟨jj, rfl⟩ : ∃ i, jj = i + 1 := ⟨jj - 1, by omega⟩
  obtain ⟨kk, rfl⟩ : ∃ i, kk = i + 1 := ⟨kk - 1, by omega⟩
  refine tt_k0 r (by omega) hq (fun M3 r3 q3 => tg_no q3 (tAnd_0 ha) (tOr_0 ho) (fun M4 r4 q4 a4 => ?_))
  have sq := hsq0 q4 hq (by omega)
  refine ⟨sq.1, fun _ => ft0 ⟨q.length + 1, ?_⟩, fun y => absurd sq.2 y⟩
  refine p110 q _ c' M4 (Nat.lt_succ_self _) hq q4 (by omega) (fun M7 f7 r7 => ?_)
  exact HO x hx M7 (qfr_t g (qfr_t (qfr_f (rfr_t r3 r4)) f7)) (by rw [← hc']; exact r7)
end
