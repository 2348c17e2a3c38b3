/-! ask: the reference has read a sum -/
def Sr (K : Mem → Prop) (Q : Int → Mem → Prop) (j : Nat) : Int → Mem → Prop := fun a7 M8 => PX12_qSums_15 K Q j (if a7 = 0 then (0 : Int) else 1) M8
def SRq (K : Mem → Prop) (Q : Int → Mem → Prop) (j : Nat) : Int → Mem → Prop := fun _ M4 => (((M4 66 5) = 0 → PX12_qGoesOn M4 (Sr K Q j)) ∧ (¬ ((M4 66 5) = 0) → PX12_qSums_15 K Q j 0 M4))
def SA (K : Mem → Prop) (Q : Int → Mem → Prop) (j kk : Nat) (M : Mem) : Prop := PX12_qPartTold_2 (AKq (SRq K Q j)) (SRq K Q j) kk 1 M
def SE (K : Mem → Prop) (Q : Int → Mem → Prop) (j kk : Nat) (M : Mem) : Prop := PX12_qGoesOn_0 (GKq (Sr K Q j)) (Sr K Q j) kk M
def preq (b : Int → Int) (n : Int) (w0 : List Int) (d p e : Int) (c : Cds) (w : List Int) (j kk : Nat) (M : Mem) : Prop := rQ b n p e c (w ++ w0) d M ∧ M 66 83 = (w0.length : Int) ∧ (∀ s ∈ w, okw s) ∧ (c.length : Int) + (w ++ w0).length ≤ p ∧ n + 3 ≤ j + p ∧ n + 3 ≤ kk + p
def qc6 (b : Int → Int) (n : Int) (w0 : List Int) (K : Mem → Prop) (Q : Int → Mem → Prop) (k : Nat) : Prop := ∀ (d p e : Int) (c : Cds) (w : List Int) (j kk : Nat) (M : Mem), (0 ≤ d ∧ d ≤ 6) → 8 * (6 - d) + 2 ≤ k → preq b n w0 d p e c w j kk M →
  (∀ f pl, Rq b n k 6 d p e = Sum.inl (f, pl) → ∀ M' : Mem, qfr M M' → rXq f pl M' → K M') →
  (∀ x, Rq b n k 6 d p e = Sum.inr x → ∀ (c' : Cds) (w' : List Int) (m : Int), popO w (c ++ x.1) = (w', c', m) → ∀ (M' : Mem) (jj kk' : Nat), qfr M M' → rQ b n x.2.1 x.2.2 c' (w' ++ w0) (d - m) M' → n + 3 ≤ jj + x.2.1 → n + 3 ≤ kk' + x.2.1 → SE K Q jj kk' M') → SA K Q j kk M
def qc5 (b : Int → Int) (n : Int) (w0 : List Int) (K : Mem → Prop) (Q : Int → Mem → Prop) (k : Nat) : Prop := ∀ (d p e : Int) (c : Cds) (w : List Int) (j kk : Nat) (M : Mem), (0 ≤ d ∧ d ≤ 6) → 8 * (6 - d) + 3 ≤ k → preq b n w0 d p e c w j kk M → (∀ c, popO w c = (w, c, 0)) → (hdw (w ++ w0) ≠ 3 ∧ hdw (w ++ w0) ≠ 4) →
  (∀ f pl, Rq b n k 5 d p e = Sum.inl (f, pl) → ∀ M' : Mem, qfr M M' → rXq f pl M' → K M') →
  (∀ x, Rq b n k 5 d p e = Sum.inr x → ∀ (q : List Int) (c' : Cds) (M' : Mem) (jj kk' : Nat), qfr M M' → (∀ s ∈ q, s = 12 ∨ s = 13) → c' ++ mps q = c ++ x.1 → tMul b n x.2.1 x.2.2 = -1 → rQ b n x.2.1 x.2.2 c' (q ++ (w ++ w0)) d M' → n + 3 ≤ jj + x.2.1 → n + 3 ≤ kk' + x.2.1 → SE K Q jj kk' M') → SA K Q j kk M
def qc4 (b : Int → Int) (n : Int) (w0 : List Int) (K : Mem → Prop) (Q : Int → Mem → Prop) (k : Nat) : Prop := ∀ (d p e : Int) (c : Cds) (w : List Int) (j kk : Nat) (M : Mem), (0 ≤ d ∧ d ≤ 6) → 8 * (6 - d) + 4 ≤ k → preq b n w0 d p e c w j kk M → (∀ c, popO w c = (w, c, 0)) → (hdw (w ++ w0) ≠ 3 ∧ hdw (w ++ w0) ≠ 4 ∧ hdw (w ++ w0) ≠ 1 ∧ hdw (w ++ w0) ≠ 2) →
  (∀ f pl, Rq b n k 4 d p e = Sum.inl (f, pl) → ∀ M' : Mem, qfr M M' → rXq f pl M' → K M') →
  (∀ x, Rq b n k 4 d p e = Sum.inr x → ∀ (q : List Int) (c' : Cds) (M' : Mem) (jj kk' : Nat), qfr M M' → (∀ s ∈ q, s = 12 ∨ s = 13 ∨ s = 10 ∨ s = 11) → c' ++ mps q = c ++ x.1 → tMul b n x.2.1 x.2.2 = -1 → tSum b n x.2.1 x.2.2 = -1 → rQ b n x.2.1 x.2.2 c' (q ++ (w ++ w0)) d M' → n + 3 ≤ jj + x.2.1 → n + 3 ≤ kk' + x.2.1 → SE K Q jj kk' M') → SA K Q j kk M
theorem mps_len (q : List Int) : ((mps q).length : Int) = q.length := by unfold mps; rw [List.length_map]
theorem mps_a (q r : List Int) : mps (q ++ r) = mps q ++ mps r := List.map_append ..
theorem lcm {c c' a : Cds} {q : List Int} (h : c' ++ mps q = c ++ a) : (c'.length : Int) + q.length = (c.length : Int) + a.length := by
  have h1 : ((c' ++ mps q).length : Int) = ((c ++ a).length : Int) := by rw [h]
  rw [List.length_append, List.length_append] at h1
  have := mps_len q
  omega
theorem lca (c a : Cds) : ((c ++ a).length : Int) = (c.length : Int) + a.length := by rw [List.length_append]; omega
theorem popO_1 {s : Int} (h : ¬ (s = 6 ∨ s = 7)) (w : List Int) (c : Cds) : popO (s :: w) c = (s :: w, c, 0) := if_neg h
section
variable {b : Int → Int} {n p e d : Int} {c : Cds} {w w0 : List Int} {M M' : Mem} {Q : Int → Mem → Prop} {K : Mem → Prop} {f pl : Int} {j kk k : Nat}
theorem fR (h : K M) : Sr K Q (j + 1) 0 M := ⟨fun _ => h, fun y => absurd rfl y⟩
theorem fS (hx : rXq f pl M) (h : K M) (a : Int) : SRq K Q (j + 1) a M := ⟨fun y => absurd (hx.1.1.symm.trans y) hx.1.2.2, fun _ => ⟨fun _ => h, fun y => absurd rfl y⟩⟩
theorem fA (hx : rXq f pl M) (h : K M) : SA K Q (j + 1) (kk + 1) M := ⟨fun y => absurd y (by decide), fun _ => ⟨fun y => absurd (hx.1.1.symm.trans y) hx.1.2.2, fun _ => ⟨fun y => absurd (hx.1.1.symm.trans y) hx.1.2.2, fun _ => fS hx h 0⟩⟩⟩
theorem S15 (h5 : M 66 5 = 0) (h : SA K Q j kk M) : PX12_qSums_15 K Q (j + 1) 1 M := ⟨fun y => absurd y (by decide), fun _ => ⟨fun _ => ⟨kk, h⟩, fun y => absurd h5 y⟩⟩
theorem tMul_v (h : tMul b n p e ≠ -1) : tMul b n p e = 12 ∨ tMul b n p e = 13 := by
  unfold tMul at h ⊢
  by_cases z : isg b n p e 42 = true
  · rw [if_pos z]; exact Or.inl rfl
  · rw [if_neg z] at h ⊢
    by_cases y : isg b n p e 47 = true
    · rw [if_pos y]; exact Or.inr rfl
    · rw [if_neg y] at h; exact absurd rfl h
theorem tSum_v (h : tSum b n p e ≠ -1) : tSum b n p e = 10 ∨ tSum b n p e = 11 := by
  unfold tSum at h ⊢
  by_cases z : isg b n p e 43 = true
  · rw [if_pos z]; exact Or.inl rfl
  · rw [if_neg z] at h ⊢
    by_cases y : isg b n p e 45 = true
    · rw [if_pos y]; exact Or.inr rfl
    · rw [if_neg y] at h; exact absurd rfl h
theorem isg_d {x y : Int} (h : isg b n p e x = true) (hxy : x ≠ y) : isg b n p e y = false := Bool.eq_false_iff.mpr (fun z => hxy ((isg_k h).2.symm.trans (isg_k z).2))
theorem tMul_41 (h : tMul b n p e ≠ -1) : isg b n p e 41 = false := by
  unfold tMul at h
  by_cases z : isg b n p e 42 = true
  · exact isg_d z (by decide)
  · rw [if_neg z] at h
    by_cases y : isg b n p e 47 = true
    · exact isg_d y (by decide)
    · rw [if_neg y] at h; exact absurd rfl h
theorem tSum_41 (h : tSum b n p e ≠ -1) : isg b n p e 41 = false := by
  unfold tSum at h
  by_cases z : isg b n p e 43 = true
  · exact isg_d z (by decide)
  · rw [if_neg z] at h
    by_cases y : isg b n p e 45 = true
    · exact isg_d y (by decide)
    · rw [if_neg y] at h; exact absurd rfl h
theorem lpM (h6 : qc6 b n w0 K Q k) (hd : 0 ≤ d ∧ d ≤ 6) (hk : 8 * (6 - d) + 2 ≤ k) (hw : ∀ s ∈ w, okw s) (hh : hdw (w ++ w0) ≠ 3 ∧ hdw (w ++ w0) ≠ 4) : ∀ (i : Nat) (a : Cds) (p e : Int) (q : List Int) (c' : Cds) (M : Mem) (jj kk : Nat), n + 1 ≤ i + p → rQ b n p e c' (q ++ (w ++ w0)) d M → M 66 83 = (w0.length : Int) → (∀ s ∈ q, s = 12 ∨ s = 13) → c' ++ mps q = c ++ a → (c'.length : Int) + (q ++ (w ++ w0)).length ≤ p → n + 3 ≤ jj + p → n + 3 ≤ kk + p →
    (∀ f pl, lpq b n (tMul b n) (Rq b n k 6 d) i a p e = Sum.inl (f, pl) → ∀ M' : Mem, qfr M M' → rXq f pl M' → K M') →
    (∀ x, lpq b n (tMul b n) (Rq b n k 6 d) i a p e = Sum.inr x → ∀ (q : List Int) (c' : Cds) (M' : Mem) (jj kk' : Nat), qfr M M' → (∀ s ∈ q, s = 12 ∨ s = 13) → c' ++ mps q = c ++ x.1 → tMul b n x.2.1 x.2.2 = -1 → rQ b n x.2.1 x.2.2 c' (q ++ (w ++ w0)) d M' → n + 3 ≤ jj + x.2.1 → n + 3 ≤ kk' + x.2.1 → SE K Q jj kk' M') → SE K Q jj kk M := by
  intro i
  induction i with
  | zero =>
    intro a p e q c' M jj kk hi h
    have := h.1.1.1.2.2.2.2.1
    omega
  | succ i ih =>
    intro a p e q c' M jj kk hi h hB hq hc hl a1 a2 HF HO
    have ok : bOK b n p := h.1.1.1
    have pn := ok.2.2.2.2.1
    have n16 := ok.2.1
    have e1 : lpq b n (tMul b n) (Rq b n k 6 d) (i + 1) a p e = if tMul b n p e = -1 then Sum.inr (a, p, e) else bnd (Rq b n k 6 d (nxp b n p) (nxe b n p)) (fun x => lpq b n (tMul b n) (Rq b n k 6 d) i (a ++ x.1 ++ [(tMul b n p e, 0)]) x.2.1 x.2.2) := rfl
    rw [e1] at HF HO
    by_cases z : tMul b n p e = -1
    · rw [if_pos z] at HO
      exact HO _ rfl q c' M jj kk (qfr_r M) hq hc z h a1 a2
    rw [if_neg z] at HF HO
    have tv := tMul_v z
    have ad := advq ok (t_mul z)
    have t41 := tMul_41 z
    obtain ⟨t, ht⟩ : ∃ t, t = tMul b n p e := ⟨_, rfl⟩
    obtain ⟨jj, rfl⟩ : ∃ i, jj = i + 1 := ⟨jj - 1, by omega⟩
    obtain ⟨kk, rfl⟩ : ∃ i, kk = i + 1 := ⟨kk - 1, by omega⟩
    refine go_k h t41 (fun M3 r3 q3 => ?_)
    refine gk_mul q3 (by omega) hq hh z (fun M5 f5 r5 => ?_)
    rw [← ht] at tv HF HO r5
    have F5 := qfr_t (qfr_f r3) f5
    have tn : ¬ (t = 6 ∨ t = 7) := by omega
    have l1 := lca c' (mps q)
    have l2 := mps_len q
    have l3 := len_a q (w ++ w0)
    show PX12_qSums_15 K Q (jj + 1) 1 M5
    refine S15 (kk := 1700) r5.1.2.1 ?_
    refine h6 d _ _ (c' ++ mps q) (t :: w) jj 1700 M5 hd hk ⟨r5, by rw [qfr_B F5]; exact hB, fun s hs => ?_, by rw [List.cons_append, lenc]; omega, by omega, by omega⟩ (fun f pl hf M' g x => HF f pl (bnd_l hf) M' (qfr_t F5 g) x) (fun x hx c2 w2 m hm M' j2 k2 g r b1 b2 => ?_)
    · rcases List.mem_cons.mp hs with y | y
      · rw [y]; exact Or.inr (Or.inr (Or.inl (by omega)))
      · exact hw s y
    rw [popO_1 tn] at hm
    cases hm
    rw [bnd_r hx] at HF HO
    rw [Int.sub_zero] at r
    have g6 := Rq_len k 6 d _ _ x ad.2 hx
    have g61 := g6.1
    have l4 := lca (c' ++ mps q) x.1
    have l5 := lenc t (w ++ w0)
    refine ih (a ++ x.1 ++ [(t, 0)]) x.2.1 x.2.2 [t] (c' ++ mps q ++ x.1) M' j2 k2 (by omega) r (by rw [qfr_B g, qfr_B F5]; exact hB) (fun s hs => by rw [List.mem_singleton.mp hs]; exact tv) ?_ ?_ b1 b2 (fun f pl hf M' g' x' => HF f pl hf M' (qfr_t F5 (qfr_t g g')) x') (fun y hy q' c3 M3 j3 k3 g' u1 u2 u3 u4 u5 u6 => HO y hy q' c3 M3 j3 k3 (qfr_t F5 (qfr_t g g')) u1 u2 u3 u4 u5 u6)
    · show c' ++ mps q ++ x.1 ++ [(t, 0)] = c ++ (a ++ x.1 ++ [(t, 0)])
      rw [hc, List.append_assoc c, List.append_assoc c]
    · show ((c' ++ mps q ++ x.1).length : Int) + ((t :: (w ++ w0)).length : Nat) ≤ x.2.1
      rw [l4, l5]
      omega
theorem pc5 (h6 : qc6 b n w0 K Q k) : qc5 b n w0 K Q (k + 1) := by
  intro d p e c w j kk M hd hk hp hno hh HF HO
  rw [Rq_5] at HF HO
  obtain ⟨h, hB, hw, hl, a1, a2⟩ := id hp
  have ok : bOK b n p := h.1.1.1
  refine h6 d p e c w j kk M hd (by omega) hp (fun f pl h => HF f pl (bnd_l h)) (fun x hx c' w' m hm M' jj kk' f r b1 b2 => ?_)
  rw [hno] at hm
  cases hm
  rw [bnd_r hx] at HF HO
  rw [Int.sub_zero] at r
  have g := Rq_len k 6 d p e x ok hx
  have g1 := g.1
  have p0 := ok.2.2.2.1
  have n16 := ok.2.1
  have x0 := g.2.2.2.2.1
  have l1 := lca c x.1
  exact lpM h6 hd (by omega) hw hh 1601 x.1 x.2.1 x.2.2 [] (c ++ x.1) M' jj kk' (by omega) r (by rw [qfr_B f]; exact hB) (fun s hs => absurd hs (by simp)) (List.append_nil _) (by show ((c ++ x.1).length : Int) + (w ++ w0).length ≤ x.2.1; omega) b1 b2 (fun f' pl hf M2 g' x' => HF f' pl hf M2 (qfr_t f g') x') (fun y hy q' c3 M3 j3 k3 g' u1 u2 u3 u4 u5 u6 => HO y hy q' c3 M3 j3 k3 (qfr_t f g') u1 u2 u3 u4 u5 u6)
theorem lpS (h5 : qc5 b n w0 K Q k) (hd : 0 ≤ d ∧ d ≤ 6) (hk : 8 * (6 - d) + 3 ≤ k) (hw : ∀ s ∈ w, okw s) (hh : hdw (w ++ w0) ≠ 3 ∧ hdw (w ++ w0) ≠ 4 ∧ hdw (w ++ w0) ≠ 1 ∧ hdw (w ++ w0) ≠ 2) : ∀ (i : Nat) (a : Cds) (p e : Int) (q : List Int) (c' : Cds) (M : Mem) (jj kk : Nat), n + 1 ≤ i + p → tMul b n p e = -1 → rQ b n p e c' (q ++ (w ++ w0)) d M → M 66 83 = (w0.length : Int) → (∀ s ∈ q, s = 12 ∨ s = 13 ∨ s = 10 ∨ s = 11) → c' ++ mps q = c ++ a → (c'.length : Int) + (q ++ (w ++ w0)).length ≤ p → n + 3 ≤ jj + p → n + 3 ≤ kk + p →
    (∀ f pl, lpq b n (tSum b n) (Rq b n k 5 d) i a p e = Sum.inl (f, pl) → ∀ M' : Mem, qfr M M' → rXq f pl M' → K M') →
    (∀ x, lpq b n (tSum b n) (Rq b n k 5 d) i a p e = Sum.inr x → ∀ (q : List Int) (c' : Cds) (M' : Mem) (jj kk' : Nat), qfr M M' → (∀ s ∈ q, s = 12 ∨ s = 13 ∨ s = 10 ∨ s = 11) → c' ++ mps q = c ++ x.1 → tMul b n x.2.1 x.2.2 = -1 → tSum b n x.2.1 x.2.2 = -1 → rQ b n x.2.1 x.2.2 c' (q ++ (w ++ w0)) d M' → n + 3 ≤ jj + x.2.1 → n + 3 ≤ kk' + x.2.1 → SE K Q jj kk' M') → SE K Q jj kk M := by
  intro i
  induction i with
  | zero =>
    intro a p e q c' M jj kk hi _ h
    have := h.1.1.1.2.2.2.2.1
    omega
  | succ i ih =>
    intro a p e q c' M jj kk hi hm0 h hB hq hc hl a1 a2 HF HO
    have ok : bOK b n p := h.1.1.1
    have pn := ok.2.2.2.2.1
    have n16 := ok.2.1
    have e1 : lpq b n (tSum b n) (Rq b n k 5 d) (i + 1) a p e = if tSum b n p e = -1 then Sum.inr (a, p, e) else bnd (Rq b n k 5 d (nxp b n p) (nxe b n p)) (fun x => lpq b n (tSum b n) (Rq b n k 5 d) i (a ++ x.1 ++ [(tSum b n p e, 0)]) x.2.1 x.2.2) := rfl
    rw [e1] at HF HO
    by_cases z : tSum b n p e = -1
    · rw [if_pos z] at HO
      exact HO _ rfl q c' M jj kk (qfr_r M) hq hc hm0 z h a1 a2
    rw [if_neg z] at HF HO
    have tv := tSum_v z
    have ad := advq ok (t_sum z)
    have t41 := tSum_41 z
    obtain ⟨t, ht⟩ : ∃ t, t = tSum b n p e := ⟨_, rfl⟩
    obtain ⟨jj, rfl⟩ : ∃ i, jj = i + 1 := ⟨jj - 1, by omega⟩
    obtain ⟨kk, rfl⟩ : ∃ i, kk = i + 1 := ⟨kk - 1, by omega⟩
    refine go_k h t41 (fun M3 r3 q3 => ?_)
    refine gk_sum q3 (by omega) hq hh hm0 z (fun M5 f5 r5 => ?_)
    rw [← ht] at tv HF HO r5
    have F5 := qfr_t (qfr_f r3) f5
    have tn : ¬ (t = 6 ∨ t = 7) := by omega
    have l1 := lca c' (mps q)
    have l2 := mps_len q
    have l3 := len_a q (w ++ w0)
    show PX12_qSums_15 K Q (jj + 1) 1 M5
    refine S15 (kk := 1700) r5.1.2.1 ?_
    have wt : wco t = t - 9 := wco_o (by omega)
    refine h5 d _ _ (c' ++ mps q) (t :: w) jj 1700 M5 hd hk ⟨r5, by rw [qfr_B F5]; exact hB, fun s hs => ?_, by rw [List.cons_append, lenc]; omega, by omega, by omega⟩ (popO_1 tn w) ⟨by show wco t ≠ 3; omega, by show wco t ≠ 4; omega⟩ (fun f pl hf M' g x => HF f pl (bnd_l hf) M' (qfr_t F5 g) x) (fun x hx q2 c2 M' j2 k2 g hq2 hc2 hm2 r b1 b2 => ?_)
    · rcases List.mem_cons.mp hs with y | y
      · rw [y]; exact Or.inr (Or.inr (Or.inl (by omega)))
      · exact hw s y
    rw [bnd_r hx] at HF HO
    have g6 := Rq_len k 5 d _ _ x ad.2 hx
    have g61 := g6.1
    have l4 := lcm hc2
    have l5 := lenc t (w ++ w0)
    have l6 := len_a q2 (t :: (w ++ w0))
    refine ih (a ++ x.1 ++ [(t, 0)]) x.2.1 x.2.2 (q2 ++ [t]) c2 M' j2 k2 (by omega) hm2 (by rw [List.append_assoc]; exact r) (by rw [qfr_B g, qfr_B F5]; exact hB) (fun s hs => ?_) ?_ ?_ b1 b2 (fun f pl hf M' g' x' => HF f pl hf M' (qfr_t F5 (qfr_t g g')) x') (fun y hy q' c3 M3 j3 k3 g' u1 u2 u3 u4 u5 u6 u7 => HO y hy q' c3 M3 j3 k3 (qfr_t F5 (qfr_t g g')) u1 u2 u3 u4 u5 u6 u7)
    · rcases List.mem_append.mp hs with y | y
      · rcases hq2 s y with v | v
        · exact Or.inl v
        · exact Or.inr (Or.inl v)
      · rw [List.mem_singleton.mp y]; exact Or.inr (Or.inr tv)
    · rw [mps_a, ← List.append_assoc, hc2, hc]
      show c ++ a ++ x.1 ++ [(t, 0)] = c ++ (a ++ x.1 ++ [(t, 0)])
      rw [List.append_assoc c, List.append_assoc c]
    · rw [List.append_assoc]
      show (c2.length : Int) + ((q2 ++ (t :: (w ++ w0))).length : Nat) ≤ x.2.1
      rw [l6, l5]
      omega
theorem pc4 (h5 : qc5 b n w0 K Q k) : qc4 b n w0 K Q (k + 1) := by
  intro d p e c w j kk M hd hk hp hno hh HF HO
  rw [Rq_4] at HF HO
  obtain ⟨h, hB, hw, hl, a1, a2⟩ := id hp
  have ok : bOK b n p := h.1.1.1
  refine h5 d p e c w j kk M hd (by omega) hp hno ⟨hh.1, hh.2.1⟩ (fun f pl h => HF f pl (bnd_l h)) (fun x hx q2 c2 M' j2 k2 f hq2 hc2 hm2 r b1 b2 => ?_)
  rw [bnd_r hx] at HF HO
  have g := Rq_len k 5 d p e x ok hx
  have g1 := g.1
  have p0 := ok.2.2.2.1
  have n16 := ok.2.1
  have x0 := g.2.2.2.2.1
  have l1 := lcm hc2
  have l2 := len_a q2 (w ++ w0)
  exact lpS h5 hd (by omega) hw hh 1601 x.1 x.2.1 x.2.2 q2 c2 M' j2 k2 (by omega) hm2 r (by rw [qfr_B f]; exact hB) (fun s hs => by rcases hq2 s hs with v | v; exact Or.inl v; exact Or.inr (Or.inl v)) hc2 (by rw [l2]; omega) b1 b2 (fun f' pl hf M2 g' x' => HF f' pl hf M2 (qfr_t f g') x') (fun y hy q' c3 M3 j3 k3 g' u1 u2 u3 u4 u5 u6 u7 => HO y hy q' c3 M3 j3 k3 (qfr_t f g') u1 u2 u3 u4 u5 u6 u7)
end
