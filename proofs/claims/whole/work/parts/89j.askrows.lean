/-! ask: the class's rows of + - and * / -/
section
variable {b : Int → Int} {n p e d : Int} {M M' : Mem} {Q : Int → Mem → Prop} {K : Mem → Prop} {R : Nat → Int → Mem → (Int → Mem → Prop) → Prop} {F : Int → Int → Rd}
theorem lsum_c (hR : rdQ b n (R 5 d) F) (hl : ∀ p e x, bOK b n p → F p e = Sum.inr x → gdq b n p x) : ∀ (j k : Nat) (v p e : Int) (c a : Cds) (M : Mem), v + j = 1601 → 0 ≤ v → v ≤ p → j < k → cK b n p e M → cQ (c ++ a) M → ((c ++ a).length : Int) ≤ p → (∀ f pl, lpq b n (tSum b n) F j a p e = Sum.inl (f, pl) → ∀ M' : Mem, tq M M' → cFl f pl M' → Q 0 M') → (∀ x, lpq b n (tSum b n) F j a p e = Sum.inr x → ∀ M' : Mem, tq M M' → cK b n x.2.1 x.2.2 M' → cQ (c ++ x.1) M' → K M') → PX6_takeSum_12 d R K Q k v M := by
  intro j
  induction j with
  | zero =>
    intro k v p e c a M h v0 vp hk hT
    have ok : bOK b n p := hT.1.1
    have := ok.1; have := ok.2.1; have := ok.2.2.2.2.1
    omega
  | succ j ih =>
    intro k v p e c a M h v0 vp hk hT hc hlen HF HO
    obtain ⟨k, rfl⟩ : ∃ i, k = i + 1 := ⟨k - 1, by omega⟩
    have ok : bOK b n p := hT.1.1
    have t0 : tq M M := ⟨fun _ _ _ _ => rfl, fun _ _ => rfl⟩
    have e1 : lpq b n (tSum b n) F (j + 1) a p e = if tSum b n p e = -1 then Sum.inr (a, p, e) else bnd (F (nxp b n p) (nxe b n p)) (fun x => lpq b n (tSum b n) F j (a ++ x.1 ++ [(tSum b n p e, 0)]) x.2.1 x.2.2) := rfl
    rw [e1] at HF HO
    have go : ∀ o : Int, 10 ≤ o → o ≤ 13 → tSum b n p e = o → knd b n p e = 3 → v < 1600 ∧ PX9_next M (fun _ M6 => R 5 d M6 (fun a8 M9 => ((a8 = 0 → Q 0 M9) ∧ (¬ (a8 = 0) → (∀ M13 : Mem, M13 = (fmX5_add M9 o 0) → PX6_takeSum_12 d R K Q k (wr32 (v + 1)) M13))))) := by
      intro o o0 o1 et kn
      rw [et, if_neg (by omega)] at HF HO
      have ad := advq ok (Or.inr (Or.inr kn))
      have p16 : p < 1600 := by have := ok.2.1; have := ad.2.2.2.2.2.1; omega
      refine ⟨by omega, ?_⟩
      refine nx_k hT (Or.inr (Or.inr kn)) (fun M6 r6 k6 => ?_)
      refine hR _ _ (c ++ a) M6 _ k6 (cQ_c r6 hc) (by omega) (fun f pl hf M9 t9 c9 => ⟨fun _ => HF f pl (bnd_l hf) M9 (tq_t (tq_c r6) t9) c9, fun z => absurd rfl z⟩) (fun x hx M9 t9 k9 c9 => ⟨fun z => absurd z (by decide), fun _ M13 h13 => ?_⟩)
      rw [bnd_r hx] at HF HO
      have g := hl _ _ x ad.2 hx
      have lx : ((c ++ a ++ x.1).length : Int) = ((c ++ a).length : Int) + (x.1.length : Int) := by rw [List.length_append]; omega
      have g1 := g.1
      have xn : x.2.1 ≤ 1600 := by have := g.2.2.1; have := g.2.2.2.2.2.1; omega
      have A := add_c (x := (o, 0)) (o := o) (v := 0) c9 (by omega) (by omega) (by decide) (by unfold cco; exact if_neg (show ¬ o = 21 by omega))
      rw [← h13] at A
      have es : c ++ a ++ x.1 ++ [(o, 0)] = c ++ (a ++ x.1 ++ [(o, 0)]) := by rw [List.append_assoc, List.append_assoc, List.append_assoc]
      rw [wad (by omega) (by omega)]
      have T : tq M M13 := tq_t (tq_c r6) (tq_t t9 A.2.1)
      refine ih k (v + 1) x.2.1 x.2.2 c (a ++ x.1 ++ [(o, 0)]) M13 (by omega) (by omega) (by omega) (by omega) ?_ (by rw [← es]; exact A.1) (by rw [← es, len_1]; omega) (fun f pl hf M' t' => HF f pl hf M' (tq_t T t')) (fun y hy M' t' => HO y hy M' (tq_t T t'))
      refine cK_d k9 (fun q hq => ?_)
      by_cases z : q = 3
      · rw [z]; exact A.2.2
      · exact A.2.1.1 q z (by omega) (by omega)
    unfold PX6_takeSum_12
    rw [isSign_c hT.1, isSign_c hT.1]
    by_cases g1 : isg b n p e 43 = true
    · have G := go 10 (by decide) (by decide) (by unfold tSum; exact if_pos g1) (isg_k g1).1
      rw [if_pos g1, if_neg (show ¬ (1 : Int) = 0 by decide)]
      exact ⟨fun z => by have := G.1; omega, fun _ => ⟨fun z => absurd z (by decide), fun _ => G.2⟩⟩
    · rw [if_neg g1, if_pos (show (0 : Int) = 0 from rfl)]
      by_cases g2 : isg b n p e 45 = true
      · have G := go 11 (by decide) (by decide) (by unfold tSum; rw [if_neg g1]; exact if_pos g2) (isg_k g2).1
        rw [if_pos g2]
        exact ⟨fun z => by have := G.1; omega, fun _ => ⟨fun _ => ⟨fun z => absurd z (by decide), fun _ => G.2⟩, fun z => absurd rfl z⟩⟩
      · have et : tSum b n p e = -1 := by unfold tSum; rw [if_neg g1, if_neg g2]
        rw [if_pos et] at HO
        rw [if_neg g2]
        exact ⟨fun _ => HO _ rfl M t0 hT hc, fun _ => ⟨fun _ => ⟨fun _ => HO _ rfl M t0 hT hc, fun z => absurd rfl z⟩, fun z => absurd rfl z⟩⟩
theorem lmul_c (hR : rdQ b n (R 6 d) F) (hl : ∀ p e x, bOK b n p → F p e = Sum.inr x → gdq b n p x) : ∀ (j k : Nat) (v p e : Int) (c a : Cds) (M : Mem), v + j = 1601 → 0 ≤ v → v ≤ p → j < k → cK b n p e M → cQ (c ++ a) M → ((c ++ a).length : Int) ≤ p → (∀ f pl, lpq b n (tMul b n) F j a p e = Sum.inl (f, pl) → ∀ M' : Mem, tq M M' → cFl f pl M' → Q 0 M') → (∀ x, lpq b n (tMul b n) F j a p e = Sum.inr x → ∀ M' : Mem, tq M M' → cK b n x.2.1 x.2.2 M' → cQ (c ++ x.1) M' → K M') → PX6_takeProduct_12 d R K Q k v M := by
  intro j
  induction j with
  | zero =>
    intro k v p e c a M h v0 vp hk hT
    have ok : bOK b n p := hT.1.1
    have := ok.1; have := ok.2.1; have := ok.2.2.2.2.1
    omega
  | succ j ih =>
    intro k v p e c a M h v0 vp hk hT hc hlen HF HO
    obtain ⟨k, rfl⟩ : ∃ i, k = i + 1 := ⟨k - 1, by omega⟩
    have ok : bOK b n p := hT.1.1
    have t0 : tq M M := ⟨fun _ _ _ _ => rfl, fun _ _ => rfl⟩
    have e1 : lpq b n (tMul b n) F (j + 1) a p e = if tMul b n p e = -1 then Sum.inr (a, p, e) else bnd (F (nxp b n p) (nxe b n p)) (fun x => lpq b n (tMul b n) F j (a ++ x.1 ++ [(tMul b n p e, 0)]) x.2.1 x.2.2) := rfl
    rw [e1] at HF HO
    have go : ∀ o : Int, 10 ≤ o → o ≤ 13 → tMul b n p e = o → knd b n p e = 3 → v < 1600 ∧ PX9_next M (fun _ M6 => R 6 d M6 (fun a8 M9 => ((a8 = 0 → Q 0 M9) ∧ (¬ (a8 = 0) → (∀ M13 : Mem, M13 = (fmX5_add M9 o 0) → PX6_takeProduct_12 d R K Q k (wr32 (v + 1)) M13))))) := by
      intro o o0 o1 et kn
      rw [et, if_neg (by omega)] at HF HO
      have ad := advq ok (Or.inr (Or.inr kn))
      have p16 : p < 1600 := by have := ok.2.1; have := ad.2.2.2.2.2.1; omega
      refine ⟨by omega, ?_⟩
      refine nx_k hT (Or.inr (Or.inr kn)) (fun M6 r6 k6 => ?_)
      refine hR _ _ (c ++ a) M6 _ k6 (cQ_c r6 hc) (by omega) (fun f pl hf M9 t9 c9 => ⟨fun _ => HF f pl (bnd_l hf) M9 (tq_t (tq_c r6) t9) c9, fun z => absurd rfl z⟩) (fun x hx M9 t9 k9 c9 => ⟨fun z => absurd z (by decide), fun _ M13 h13 => ?_⟩)
      rw [bnd_r hx] at HF HO
      have g := hl _ _ x ad.2 hx
      have lx : ((c ++ a ++ x.1).length : Int) = ((c ++ a).length : Int) + (x.1.length : Int) := by rw [List.length_append]; omega
      have g1 := g.1
      have xn : x.2.1 ≤ 1600 := by have := g.2.2.1; have := g.2.2.2.2.2.1; omega
      have A := add_c (x := (o, 0)) (o := o) (v := 0) c9 (by omega) (by omega) (by decide) (by unfold cco; exact if_neg (show ¬ o = 21 by omega))
      rw [← h13] at A
      have es : c ++ a ++ x.1 ++ [(o, 0)] = c ++ (a ++ x.1 ++ [(o, 0)]) := by rw [List.append_assoc, List.append_assoc, List.append_assoc]
      rw [wad (by omega) (by omega)]
      have T : tq M M13 := tq_t (tq_c r6) (tq_t t9 A.2.1)
      refine ih k (v + 1) x.2.1 x.2.2 c (a ++ x.1 ++ [(o, 0)]) M13 (by omega) (by omega) (by omega) (by omega) ?_ (by rw [← es]; exact A.1) (by rw [← es, len_1]; omega) (fun f pl hf M' t' => HF f pl hf M' (tq_t T t')) (fun y hy M' t' => HO y hy M' (tq_t T t'))
      refine cK_d k9 (fun q hq => ?_)
      by_cases z : q = 3
      · rw [z]; exact A.2.2
      · exact A.2.1.1 q z (by omega) (by omega)
    unfold PX6_takeProduct_12
    rw [isSign_c hT.1, isSign_c hT.1]
    by_cases g1 : isg b n p e 42 = true
    · have G := go 12 (by decide) (by decide) (by unfold tMul; exact if_pos g1) (isg_k g1).1
      rw [if_pos g1, if_neg (show ¬ (1 : Int) = 0 by decide)]
      exact ⟨fun z => by have := G.1; omega, fun _ => ⟨fun z => absurd z (by decide), fun _ => G.2⟩⟩
    · rw [if_neg g1, if_pos (show (0 : Int) = 0 from rfl)]
      by_cases g2 : isg b n p e 47 = true
      · have G := go 13 (by decide) (by decide) (by unfold tMul; rw [if_neg g1]; exact if_pos g2) (isg_k g2).1
        rw [if_pos g2]
        exact ⟨fun z => by have := G.1; omega, fun _ => ⟨fun _ => ⟨fun z => absurd z (by decide), fun _ => G.2⟩, fun z => absurd rfl z⟩⟩
      · have et : tMul b n p e = -1 := by unfold tMul; rw [if_neg g1, if_neg g2]
        rw [if_pos et] at HO
        rw [if_neg g2]
        exact ⟨fun _ => HO _ rfl M t0 hT hc, fun _ => ⟨fun _ => ⟨fun _ => HO _ rfl M t0 hT hc, fun z => absurd rfl z⟩, fun z => absurd rfl z⟩⟩
end
