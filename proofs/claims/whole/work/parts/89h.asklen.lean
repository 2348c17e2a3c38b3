/-! ask: as many codes as places, at most -/
section
variable {b : Int → Int} {n : Int}
def gdq (b : Int → Int) (n p0 : Int) (x : Cds × Int × Int) : Prop := p0 + x.1.length ≤ x.2.1 ∧ bOK b n x.2.1
theorem advq {p e : Int} (h : bOK b n p) (hk : knd b n p e = 1 ∨ knd b n p e = 2 ∨ knd b n p e = 3) : p + 1 ≤ nxp b n p ∧ bOK b n (nxp b n p) := by
  have o := nx_ok h
  have pn : p < n := by
    have : ¬ n ≤ p := fun z => by have := knd_0 (b := b) (n := n) (p := p) (e := e); have := this.mpr z; omega
    omega
  exact ⟨o.2.2 pn, o.1⟩
theorem iswd_a {p e : Int} {w : List Int} (h : bOK b n p) (iw : iswd b n p e w = true) : p + 1 ≤ nxp b n p ∧ bOK b n (nxp b n p) := advq h (Or.inl (iswd_k iw).1)
theorem isg_a {p e c : Int} (h : bOK b n p) (ig : isg b n p e c = true) : p + 1 ≤ nxp b n p ∧ bOK b n (nxp b n p) := advq h (Or.inr (Or.inr (isg_k ig).1))
theorem pS_a {p e c : Int} {t : Int × Int} (h : bOK b n p) (hs : pS b n p e c = Sum.inr t) : p + 1 ≤ t.1 ∧ bOK b n t.1 := by
  unfold pS at hs
  by_cases z : isg b n p e c = true
  · rw [if_pos z] at hs; cases hs; exact isg_a h z
  · rw [if_neg z] at hs; cases hs
theorem lpq_len {t : Int → Int → Int} {f : Int → Int → Rd} (ht : ∀ p e, t p e ≠ -1 → knd b n p e = 1 ∨ knd b n p e = 2 ∨ knd b n p e = 3) (hf : ∀ p e x, bOK b n p → f p e = Sum.inr x → gdq b n p x) : ∀ (k : Nat) (c : Cds) (p e : Int) (x : Cds × Int × Int) (p0 : Int), bOK b n p → p0 + c.length ≤ p → lpq b n t f k c p e = Sum.inr x → gdq b n p0 x := by
  intro k
  induction k with
  | zero => intro c p e x p0 _ _ h; unfold lpq at h; cases h
  | succ k ih =>
    intro c p e x p0 ok hp h
    have e1 : lpq b n t f (k + 1) c p e = if t p e = -1 then Sum.inr (c, p, e) else bnd (f (nxp b n p) (nxe b n p)) (fun x => lpq b n t f k (c ++ x.1 ++ [(t p e, 0)]) x.2.1 x.2.2) := rfl
    rw [e1] at h
    by_cases z : t p e = -1
    · rw [if_pos z] at h; cases h; exact ⟨hp, ok⟩
    · rw [if_neg z] at h
      obtain ⟨y, hy, h2⟩ := bnd_i h
      have a := advq ok (ht p e z)
      have g := hf _ _ y a.2 hy
      refine ih _ _ _ x p0 g.2 ?_ h2
      have g1 := g.1
      have l : ((c ++ y.1 ++ [(t p e, 0)]).length : Int) = (c.length : Int) + (y.1.length : Int) + 1 := by
        rw [List.length_append, List.length_append]
        show (((c.length + y.1.length) + 1 : Nat) : Int) = _
        omega
      rw [l]
      omega
theorem t_or {p e : Int} (h : tOr b n p e ≠ -1) : knd b n p e = 1 ∨ knd b n p e = 2 ∨ knd b n p e = 3 := by
  unfold tOr at h
  by_cases z : iswd b n p e (wd 110) = true
  · exact Or.inl (iswd_k z).1
  · rw [if_neg z] at h; exact absurd rfl h
theorem t_and {p e : Int} (h : tAnd b n p e ≠ -1) : knd b n p e = 1 ∨ knd b n p e = 2 ∨ knd b n p e = 3 := by
  unfold tAnd at h
  by_cases z : iswd b n p e (wd 109) = true
  · exact Or.inl (iswd_k z).1
  · rw [if_neg z] at h; exact absurd rfl h
theorem t_sum {p e : Int} (h : tSum b n p e ≠ -1) : knd b n p e = 1 ∨ knd b n p e = 2 ∨ knd b n p e = 3 := by
  unfold tSum at h
  by_cases z : isg b n p e 43 = true
  · exact Or.inr (Or.inr (isg_k z).1)
  · rw [if_neg z] at h
    by_cases y : isg b n p e 45 = true
    · exact Or.inr (Or.inr (isg_k y).1)
    · rw [if_neg y] at h; exact absurd rfl h
theorem t_mul {p e : Int} (h : tMul b n p e ≠ -1) : knd b n p e = 1 ∨ knd b n p e = 2 ∨ knd b n p e = 3 := by
  unfold tMul at h
  by_cases z : isg b n p e 42 = true
  · exact Or.inr (Or.inr (isg_k z).1)
  · rw [if_neg z] at h
    by_cases y : isg b n p e 47 = true
    · exact Or.inr (Or.inr (isg_k y).1)
    · rw [if_neg y] at h; exact absurd rfl h
theorem t_cmp {p e : Int} (h : tCmp b n p e ≠ -1) : knd b n p e = 1 ∨ knd b n p e = 2 ∨ knd b n p e = 3 := by
  unfold tCmp at h
  by_cases z : isg b n p e 60 = true
  · exact Or.inr (Or.inr (isg_k z).1)
  · rw [if_neg z] at h
    by_cases y : isg b n p e 62 = true
    · exact Or.inr (Or.inr (isg_k y).1)
    · rw [if_neg y] at h
      by_cases x : isg b n p e 61 = true
      · exact Or.inr (Or.inr (isg_k x).1)
      · rw [if_neg x] at h; exact absurd rfl h
theorem len_1 (c : Cds) (y : Int × Int) : ((c ++ [y]).length : Int) = (c.length : Int) + 1 := by
  rw [List.length_append]; show ((c.length + 1 : Nat) : Int) = _; omega
theorem Rq_len : ∀ (k tag : Nat) (d p e : Int) (x : Cds × Int × Int), bOK b n p → Rq b n k tag d p e = Sum.inr x → gdq b n p x := by
  intro k
  induction k with
  | zero => intro tag d p e x _ h; unfold Rq at h; cases h
  | succ k ih =>
    intro tag d p e x ok h
    have lp : ∀ (t : Int → Int → Int) (i : Nat), (∀ p e, t p e ≠ -1 → knd b n p e = 1 ∨ knd b n p e = 2 ∨ knd b n p e = 3) → bnd (Rq b n k i d p e) (fun x => lpq b n t (Rq b n k i d) 1601 x.1 x.2.1 x.2.2) = Sum.inr x → gdq b n p x := by
      intro t i ht h
      obtain ⟨y, hy, h2⟩ := bnd_i h
      have g := ih i d p e y ok hy
      exact lpq_len ht (fun p e x o hx => ih i d p e x o hx) 1601 y.1 y.2.1 y.2.2 x p g.2 g.1 h2
    unfold Rq at h
    by_cases q0 : tag = 0
    · rw [if_pos q0] at h
      exact lp _ 1 (fun _ _ => t_or) h
    rw [if_neg q0] at h
    by_cases q1 : tag = 1
    · rw [if_pos q1] at h
      exact lp _ 2 (fun _ _ => t_and) h
    rw [if_neg q1] at h
    by_cases q2 : tag = 2
    · rw [if_pos q2] at h
      split at h
      · rename_i iw
        split at h
        · cases h
        · have a := iswd_a ok iw
          obtain ⟨y, hy, h2⟩ := bnd_i h
          have g := ih 2 (d + 1) _ _ y a.2 hy
          cases h2
          refine ⟨?_, g.2⟩
          have g1 := g.1
          show p + ((y.1 ++ [(19, 0)]).length : Int) ≤ y.2.1
          rw [len_1]; omega
      split at h
      · rename_i ig
        split at h
        · cases h
        · have a := isg_a ok ig
          obtain ⟨y, hy, h2⟩ := bnd_i h
          have g := ih 0 (d + 1) _ _ y a.2 hy
          obtain ⟨t, ht, h3⟩ := bnd_i h2
          have s := pS_a g.2 ht
          cases h3
          refine ⟨?_, s.2⟩
          have g1 := g.1
          show p + (y.1.length : Int) ≤ t.1
          omega
      split at h
      · rename_i iw
        have a := iswd_a ok iw
        cases h
        exact ⟨a.1, a.2⟩
      · exact ih 3 d p e x ok h
    rw [if_neg q2] at h
    by_cases q3 : tag = 3
    · rw [if_pos q3] at h
      obtain ⟨y, hy, h2⟩ := bnd_i h
      have g := ih 4 d p e y ok hy
      split at h2
      · cases h2
      · rename_i hc
        have a := advq g.2 (t_cmp hc)
        obtain ⟨z, hz, h3⟩ := bnd_i h2
        have g' := ih 4 d _ _ z a.2 hz
        cases h3
        refine ⟨?_, g'.2⟩
        have g1 := g.1
        have g2 := g'.1
        show p + ((y.1 ++ z.1 ++ [(tCmp b n y.2.1 y.2.2, 0)]).length : Int) ≤ z.2.1
        rw [len_1, List.length_append]
        omega
    rw [if_neg q3] at h
    by_cases q4 : tag = 4
    · rw [if_pos q4] at h
      exact lp _ 5 (fun _ _ => t_sum) h
    rw [if_neg q4] at h
    by_cases q5 : tag = 5
    · rw [if_pos q5] at h
      exact lp _ 6 (fun _ _ => t_mul) h
    rw [if_neg q5] at h
    by_cases q6 : tag = 6
    · rw [if_pos q6] at h
      split at h
      · rename_i hk
        have a := advq ok (Or.inr (Or.inl hk))
        obtain ⟨v, hv, h2⟩ := bnd_i h
        unfold pN at hv
        obtain ⟨u, hu, hv2⟩ := bnd_i hv
        cases hv2
        cases h2
        exact ⟨a.1, a.2⟩
      split at h
      · rename_i ig
        split at h
        · cases h
        · have a := isg_a ok ig
          obtain ⟨y, hy, h2⟩ := bnd_i h
          have g := ih 4 (d + 1) _ _ y a.2 hy
          obtain ⟨t, ht, h3⟩ := bnd_i h2
          have s := pS_a g.2 ht
          cases h3
          refine ⟨?_, s.2⟩
          have g1 := g.1
          show p + (y.1.length : Int) ≤ t.1
          omega
      split at h
      · cases h
      rename_i hf
      have a := advq ok (Or.inl (fdx_k hf))
      split at h
      · split at h
        · cases h
        · obtain ⟨y, hy, h2⟩ := bnd_i h
          have g := ih 6 (d + 1) _ _ y a.2 hy
          cases h2
          refine ⟨?_, g.2⟩
          have g1 := g.1
          show p + ((y.1 ++ [(fdx b n p e (fl 12) 0, 0)]).length : Int) ≤ y.2.1
          rw [len_1]; omega
      split at h
      · cases h
        exact ⟨a.1, a.2⟩
      · obtain ⟨y, hy, h2⟩ := bnd_i h
        have g := ih 7 d _ _ y a.2 hy
        cases h2
        refine ⟨?_, g.2⟩
        have g1 := g.1
        show p + ((y.1 ++ [(fdx b n p e (fl 12) 0, 0)]).length : Int) ≤ y.2.1
        rw [len_1]; omega
    rw [if_neg q6] at h
    split at h
    · cases h
    split at h
    · cases h
    · rename_i ig _
      have a := isg_a ok (Classical.byContradiction ig)
      obtain ⟨y, hy, h2⟩ := bnd_i h
      have g := ih 4 (d + 1) _ _ y a.2 hy
      obtain ⟨t, ht, h3⟩ := bnd_i h2
      have s := pS_a g.2 ht
      obtain ⟨z, hz, h4⟩ := bnd_i h3
      have g' := ih 4 (d + 1) _ _ z s.2 hz
      obtain ⟨u, hu, h5⟩ := bnd_i h4
      have s' := pS_a g'.2 hu
      cases h5
      refine ⟨?_, s'.2⟩
      have g1 := g.1
      have g2 := g'.1
      show p + ((y.1 ++ z.1).length : Int) ≤ u.1
      rw [List.length_append]
      omega
end
