/-! ask: the class reads -/
section
variable {b : Int → Int} {n p e d : Int} {M M' : Mem} {Q : Int → Mem → Prop} {K : Mem → Prop} {R : Nat → Int → Mem → (Int → Mem → Prop) → Prop} {F : Int → Int → Rd}
/-- the codes c lie in the class's row -/
def cQ (c : Cds) (M : Mem) : Prop := M 6 2 = (c.length : Int) ∧ ∀ i : Nat, i < c.length → M 7 (i : Int) = cco (c.getD i (0, 0))
/-- what reading a question changes -/
def tq (M M' : Mem) : Prop := (∀ q, q ≠ 3 → q ≠ 6 → q ≠ 7 → M' q = M q) ∧ ∀ j, j ≠ 2 → M' 6 j = M 6 j
theorem tq_t {N : Mem} (a : tq M N) (c : tq N M') : tq M M' := ⟨fun q x y z => (c.1 q x y z).trans (a.1 q x y z), fun j x => (c.2 j x).trans (a.2 j x)⟩
theorem tq_c (h : cfr M M') : tq M M' := ⟨fun q x _ _ => h q x, fun j _ => by rw [h 6 (by decide)]⟩
theorem cQ_c {c : Cds} (h : cfr M M') (hc : cQ c M) : cQ c M' := by
  unfold cQ at hc ⊢
  rw [h 6 (by decide), h 7 (by decide)]; exact hc
theorem gd_app (c : Cds) (x : Int × Int) : ∀ i : Nat, i < (c ++ [x]).length → (c ++ [x]).getD i (0, 0) = if i = c.length then x else c.getD i (0, 0) := by
  induction c with
  | nil =>
    intro i hi
    have : i = 0 := by have : i < 1 := hi; omega
    subst this; rfl
  | cons y c ih =>
    intro i hi
    cases i with
    | zero => rfl
    | succ i =>
      have h := ih i (Nat.lt_of_succ_lt_succ hi)
      show (c ++ [x]).getD i (0, 0) = if i + 1 = c.length + 1 then x else c.getD i (0, 0)
      rw [h]
      by_cases z : i = c.length
      · rw [if_pos z, if_pos (by omega)]
      · rw [if_neg z, if_neg (by omega)]
theorem add_c {c : Cds} {x : Int × Int} {o v : Int} (hc : cQ c M) (hl : (c.length : Int) < 1600) (ho : 0 ≤ o ∧ o ≤ 20) (hv : 0 ≤ v ∧ v ≤ 9999) (hx : cco x = 10000 * o + v) : cQ (c ++ [x]) (fmX5_add M o v) ∧ tq M (fmX5_add M o v) ∧ fmX5_add M o v 3 = M 3 := by
  have w1 : wr32 (wr32 (o * 10000) + v) = 10000 * o + v := by rw [wmu (by omega) (by omega), wad (by omega) (by omega)]; omega
  have e : fmX5_add M o v = mset (mset M 7 (M 6 2) (10000 * o + v)) 6 2 ((c.length : Int) + 1) := by
    unfold fmX5_add fmX11_put
    rw [w1, hc.1, if_neg (by omega)]
    rw [if_neg (show ¬ (((1600 : Nat) : Int) ≤ (c.length : Int)) by omega)]
    rw [mset_o (by decide), hc.1, wad (by omega) (by omega)]
  rw [e]
  clear e w1
  refine ⟨⟨?_, fun i hi => ?_⟩, ⟨fun q x y z => by rw [mset_p y, mset_p z], fun j hj => by rw [mset_k hj, mset_o (by decide)]⟩, by rw [mset_p (by decide), mset_p (by decide)]⟩
  · rw [mset_e, len_1]
  · rw [gd_app c x i hi, mset_o (by decide), hc.1]
    by_cases z : i = c.length
    · rw [if_pos z, z, mset_e, hx]
    · rw [if_neg z, mset_k (by omega)]
      have : i < c.length + 1 := by
        have := hi
        rw [List.length_append] at this
        exact this
      exact hc.2 i (by omega)
/-- what the recursive reader does -/
def rdQ (b : Int → Int) (n : Int) (R : Mem → (Int → Mem → Prop) → Prop) (F : Int → Int → Rd) : Prop := ∀ (p e : Int) (c : Cds) (M : Mem) (Q : Int → Mem → Prop), cK b n p e M → cQ c M → (c.length : Int) ≤ p → (∀ f pl, F p e = Sum.inl (f, pl) → ∀ M' : Mem, tq M M' → cFl f pl M' → Q 0 M') → (∀ x, F p e = Sum.inr x → ∀ M' : Mem, tq M M' → cK b n x.2.1 x.2.2 M' → cQ (c ++ x.1) M' → Q 1 M') → R M Q
theorem lor_c (hR : rdQ b n (R 1 d) F) (hl : ∀ p e x, bOK b n p → F p e = Sum.inr x → gdq b n p x) : ∀ (j k : Nat) (v p e : Int) (c a : Cds) (M : Mem), v + j = 1601 → 0 ≤ v → v ≤ p → j < k → cK b n p e M → cQ (c ++ a) M → ((c ++ a).length : Int) ≤ p → (∀ f pl, lpq b n (tOr b n) F j a p e = Sum.inl (f, pl) → ∀ M' : Mem, tq M M' → cFl f pl M' → Q 0 M') → (∀ x, lpq b n (tOr b n) F j a p e = Sum.inr x → ∀ M' : Mem, tq M M' → cK b n x.2.1 x.2.2 M' → cQ (c ++ x.1) M' → K M') → PX6_takeTest_12 d R K Q k v M := by
  intro j
  induction j with
  | zero =>
    intro k v p e c a M h v0 vp hk hT
    have ok : bOK b n p := hT.1.1
    have := ok.1; have := ok.2.1; have := ok.2.2.2.2.1
    omega
  | succ j ih =>
    intro k v p e c a M h v0 vp hk hT hc hlen HF HO
    obtain ⟨k, rfl⟩ : ∃ i, k = i + 1 := ⟨k - 1, by omega⟩
    have ok : bOK b n p := hT.1.1
    have t0 : tq M M := ⟨fun _ _ _ _ => rfl, fun _ _ => rfl⟩
    have e1 : lpq b n (tOr b n) F (j + 1) a p e = if tOr b n p e = -1 then Sum.inr (a, p, e) else bnd (F (nxp b n p) (nxe b n p)) (fun x => lpq b n (tOr b n) F j (a ++ x.1 ++ [(tOr b n p e, 0)]) x.2.1 x.2.2) := rfl
    rw [e1] at HF HO
    by_cases iw : iswd b n p e (wd 110) = true
    · have et : tOr b n p e = 18 := if_pos iw
      rw [et, if_neg (by decide)] at HF HO
      have ad := iswd_a ok iw
      have p16 : p < 1600 := by have := ok.2.1; have := ad.2.2.2.2.2.1; omega
      refine ⟨fun z => by omega, fun _ a3 h3 => ⟨fun _ => ?_, fun z => ?_⟩⟩
      · refine nx_k hT (Or.inl (iswd_k iw).1) (fun M6 r6 k6 => ?_)
        refine hR _ _ (c ++ a) M6 _ k6 (cQ_c r6 hc) (by omega) (fun f pl hf M9 t9 c9 => ⟨fun _ => HF f pl (bnd_l hf) M9 (tq_t (tq_c r6) t9) c9, fun z => absurd rfl z⟩) (fun x hx M9 t9 k9 c9 => ⟨fun z => absurd z (by decide), fun _ M13 h13 => ?_⟩)
        rw [bnd_r hx] at HF HO
        have g := hl _ _ x ad.2 hx
        have lx : ((c ++ a ++ x.1).length : Int) = ((c ++ a).length : Int) + (x.1.length : Int) := by rw [List.length_append]; omega
        have g1 := g.1
        have xn : x.2.1 ≤ 1600 := by have := g.2.2.1; have := g.2.2.2.2.2.1; omega
        have A := add_c (x := (18, 0)) (o := 18) (v := 0) c9 (by omega) (by decide) (by decide) (by decide)
        rw [← h13] at A
        have es : c ++ a ++ x.1 ++ [(18, 0)] = c ++ (a ++ x.1 ++ [(18, 0)]) := by rw [List.append_assoc, List.append_assoc, List.append_assoc]
        rw [wad (by omega) (by omega)]
        have T : tq M M13 := tq_t (tq_c r6) (tq_t t9 A.2.1)
        refine ih k (v + 1) x.2.1 x.2.2 c (a ++ x.1 ++ [(18, 0)]) M13 (by omega) (by omega) (by omega) (by omega) ?_ (by rw [← es]; exact A.1) (by rw [← es, len_1]; omega) (fun f pl hf M' t' => HF f pl hf M' (tq_t T t')) (fun y hy M' t' => HO y hy M' (tq_t T t'))
        refine cK_d k9 (fun q hq => ?_)
        by_cases z : q = 3
        · rw [z]; exact A.2.2
        · exact A.2.1.1 q z (by omega) (by omega)
      · rw [h3, find_c hT.1 (by decide)] at z
        have : fdx b n p e (fl 14) 0 = 0 := by rw [show fl 14 = [110] from rfl, fdx_1, if_pos iw]
        exact absurd this z
    · have et : tOr b n p e = -1 := if_neg iw
      rw [if_pos et] at HO
      refine ⟨fun _ => HO _ rfl M t0 hT hc, fun _ a3 h3 => ⟨fun z => ?_, fun _ => HO _ rfl M t0 hT hc⟩⟩
      rw [h3, find_c hT.1 (by decide), show fl 14 = [110] from rfl, fdx_1, if_neg iw] at z
      exact absurd z (by decide)
theorem land_c (hR : rdQ b n (R 2 d) F) (hl : ∀ p e x, bOK b n p → F p e = Sum.inr x → gdq b n p x) : ∀ (j k : Nat) (v p e : Int) (c a : Cds) (M : Mem), v + j = 1601 → 0 ≤ v → v ≤ p → j < k → cK b n p e M → cQ (c ++ a) M → ((c ++ a).length : Int) ≤ p → (∀ f pl, lpq b n (tAnd b n) F j a p e = Sum.inl (f, pl) → ∀ M' : Mem, tq M M' → cFl f pl M' → Q 0 M') → (∀ x, lpq b n (tAnd b n) F j a p e = Sum.inr x → ∀ M' : Mem, tq M M' → cK b n x.2.1 x.2.2 M' → cQ (c ++ x.1) M' → K M') → PX6_takeBoth_12 d R K Q k v M := by
  intro j
  induction j with
  | zero =>
    intro k v p e c a M h v0 vp hk hT
    have ok : bOK b n p := hT.1.1
    have := ok.1; have := ok.2.1; have := ok.2.2.2.2.1
    omega
  | succ j ih =>
    intro k v p e c a M h v0 vp hk hT hc hlen HF HO
    obtain ⟨k, rfl⟩ : ∃ i, k = i + 1 := ⟨k - 1, by omega⟩
    have ok : bOK b n p := hT.1.1
    have t0 : tq M M := ⟨fun _ _ _ _ => rfl, fun _ _ => rfl⟩
    have e1 : lpq b n (tAnd b n) F (j + 1) a p e = if tAnd b n p e = -1 then Sum.inr (a, p, e) else bnd (F (nxp b n p) (nxe b n p)) (fun x => lpq b n (tAnd b n) F j (a ++ x.1 ++ [(tAnd b n p e, 0)]) x.2.1 x.2.2) := rfl
    rw [e1] at HF HO
    by_cases iw : iswd b n p e (wd 109) = true
    · have et : tAnd b n p e = 17 := if_pos iw
      rw [et, if_neg (by decide)] at HF HO
      have ad := iswd_a ok iw
      have p16 : p < 1600 := by have := ok.2.1; have := ad.2.2.2.2.2.1; omega
      refine ⟨fun z => by omega, fun _ a3 h3 => ⟨fun _ => ?_, fun z => ?_⟩⟩
      · refine nx_k hT (Or.inl (iswd_k iw).1) (fun M6 r6 k6 => ?_)
        refine hR _ _ (c ++ a) M6 _ k6 (cQ_c r6 hc) (by omega) (fun f pl hf M9 t9 c9 => ⟨fun _ => HF f pl (bnd_l hf) M9 (tq_t (tq_c r6) t9) c9, fun z => absurd rfl z⟩) (fun x hx M9 t9 k9 c9 => ⟨fun z => absurd z (by decide), fun _ M13 h13 => ?_⟩)
        rw [bnd_r hx] at HF HO
        have g := hl _ _ x ad.2 hx
        have lx : ((c ++ a ++ x.1).length : Int) = ((c ++ a).length : Int) + (x.1.length : Int) := by rw [List.length_append]; omega
        have g1 := g.1
        have xn : x.2.1 ≤ 1600 := by have := g.2.2.1; have := g.2.2.2.2.2.1; omega
        have A := add_c (x := (17, 0)) (o := 17) (v := 0) c9 (by omega) (by decide) (by decide) (by decide)
        rw [← h13] at A
        have es : c ++ a ++ x.1 ++ [(17, 0)] = c ++ (a ++ x.1 ++ [(17, 0)]) := by rw [List.append_assoc, List.append_assoc, List.append_assoc]
        rw [wad (by omega) (by omega)]
        have T : tq M M13 := tq_t (tq_c r6) (tq_t t9 A.2.1)
        refine ih k (v + 1) x.2.1 x.2.2 c (a ++ x.1 ++ [(17, 0)]) M13 (by omega) (by omega) (by omega) (by omega) ?_ (by rw [← es]; exact A.1) (by rw [← es, len_1]; omega) (fun f pl hf M' t' => HF f pl hf M' (tq_t T t')) (fun y hy M' t' => HO y hy M' (tq_t T t'))
        refine cK_d k9 (fun q hq => ?_)
        by_cases z : q = 3
        · rw [z]; exact A.2.2
        · exact A.2.1.1 q z (by omega) (by omega)
      · rw [h3, find_c hT.1 (by decide)] at z
        have : fdx b n p e (fl 13) 0 = 0 := by rw [show fl 13 = [109] from rfl, fdx_1, if_pos iw]
        exact absurd this z
    · have et : tAnd b n p e = -1 := if_neg iw
      rw [if_pos et] at HO
      refine ⟨fun _ => HO _ rfl M t0 hT hc, fun _ a3 h3 => ⟨fun z => ?_, fun _ => HO _ rfl M t0 hT hc⟩⟩
      rw [h3, find_c hT.1 (by decide), show fl 13 = [109] from rfl, fdx_1, if_neg iw] at z
      exact absurd z (by decide)
end
