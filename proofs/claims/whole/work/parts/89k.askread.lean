section
/-! ask: the class reads a question -/
section
variable {b : Int → Int} {n p e d : Int} {M M' : Mem} {Q : Int → Mem → Prop} {K : Mem → Prop}
theorem add_f {o v : Int} : tq M (fmX5_add M o v) ∧ fmX5_add M o v 3 = M 3 := by
  unfold fmX5_add fmX11_put
  generalize wr32 (wr32 (o * 10000) + v) = x
  by_cases z : M 6 2 < 0
  · rw [if_pos z]
    exact ⟨⟨fun q _ y _ => mset_p y, fun j hj => mset_k hj⟩, mset_p (by decide)⟩
  rw [if_neg z]
  by_cases z : ((1600 : Nat) : Int) ≤ M 6 2
  · rw [if_pos z]
    exact ⟨⟨fun q _ y _ => mset_p y, fun j hj => mset_k hj⟩, mset_p (by decide)⟩
  rw [if_neg z]
  exact ⟨⟨fun q _ y w => by rw [mset_p y, mset_p w], fun j hj => by rw [mset_k hj, mset_o (by decide)]⟩, by rw [mset_p (by decide), mset_p (by decide)]⟩
theorem cK_3 (hT : cK b n p e M) (t : tq M M') (h : M' 3 = M 3) : cK b n p e M' := by
  refine cK_d hT (fun q hq => ?_)
  by_cases z : q = 3
  · rw [z]; exact h
  · exact t.1 q z (by omega) (by omega)
theorem tq_r : tq M M := ⟨fun _ _ _ _ => rfl, fun _ _ => rfl⟩
theorem deep_c (hT : cK b n p e M) (hF : d = 6 → ∀ M' : Mem, cfr M M' → cFl 4 p M' → Q 0 M') {N : Mem → Prop} (hO : d ≠ 6 → N M) (hd : 0 ≤ d ∧ d ≤ 6) : ∀ M4 : Mem, M4 = (fmX6_deeper M d) → (((fX6_deeper d) = 0 → Q 0 M4) ∧ (¬ ((fX6_deeper d) = 0) → N M4)) := by
  intro M4 h4
  unfold fmX6_deeper at h4
  unfold fX6_deeper
  by_cases z : d < 6
  · rw [if_pos z] at h4 ⊢
    rw [h4]
    exact ⟨fun y => absurd y (by decide), fun _ => hO (by omega)⟩
  · rw [if_neg z] at h4 ⊢
    rw [hT.1.2.2.2.2.1] at h4
    have fc := fail_c hT 4 p
    rw [h4]
    exact ⟨fun _ => hF (by omega) _ fc.1 fc.2, fun y => absurd rfl y⟩
theorem open_c (hT : cK b n p e M) (hd : 0 ≤ d ∧ d ≤ 6) (h1 : isg b n p e 40 = false → ∀ M' : Mem, cfr M M' → cFl 1 p M' → Q 0 M') (h2 : isg b n p e 40 = true → d = 6 → ∀ M' : Mem, cfr M M' → cFl 4 p M' → Q 0 M') (h3 : isg b n p e 40 = true → d ≠ 6 → ∀ M' : Mem, cfr M M' → cK b n (nxp b n p) (nxe b n p) M' → Q 1 M') : PX6_takeOpening d M Q := by
  unfold PX6_takeOpening
  rw [isSign_c hT.1]
  have un := una_c hT
  by_cases z : isg b n p e 40 = true
  · rw [if_pos z]
    exact ⟨fun y => absurd y (by decide), fun _ => deep_c (Q := Q) (N := fun M4 => PX9_next M4 (fun _ M7 => Q 1 M7)) hT (fun y => h2 z y) (fun y => nx_k hT (Or.inr (Or.inr (isg_k z).1)) (fun M' r k => h3 z y M' r k)) hd⟩
  · rw [if_neg z]
    exact ⟨fun _ M10 h10 => by rw [h10]; exact ⟨Or.inl rfl, h1 (Bool.eq_false_iff.mpr z) _ un.1 un.2⟩, fun y => absurd rfl y⟩
theorem Rq_2 {k : Nat} : Rq b n (k + 1) 2 d p e = (if iswd b n p e (wd 108) = true then (if d = 6 then Sum.inl (4, p) else bnd (Rq b n k 2 (d + 1) (nxp b n p) (nxe b n p)) (fun x => Sum.inr (x.1 ++ [(19, 0)], x.2.1, x.2.2)))
      else if isg b n p e 91 = true then (if d = 6 then Sum.inl (4, p) else bnd (Rq b n k 0 (d + 1) (nxp b n p) (nxe b n p)) (fun x => bnd (pS b n x.2.1 x.2.2 93) (fun t => Sum.inr (x.1, t.1, t.2))))
      else if iswd b n p e (wd 111) = true then Sum.inr ([(21, 1)], nxp b n p, nxe b n p)
      else Rq b n k 3 d p e) := rfl
theorem Rq_3 {k : Nat} : Rq b n (k + 1) 3 d p e = bnd (Rq b n k 4 d p e) (fun x => if tCmp b n x.2.1 x.2.2 = -1 then Sum.inl (1, x.2.1) else bnd (Rq b n k 4 d (nxp b n x.2.1) (nxe b n x.2.1)) (fun y => Sum.inr (x.1 ++ y.1 ++ [(tCmp b n x.2.1 x.2.2, 0)], y.2.1, y.2.2))) := rfl
theorem Rq_6 {k : Nat} : Rq b n (k + 1) 6 d p e = (if knd b n p e = 2 then bnd (pN b n p e 0 9999 p) (fun v => Sum.inr ([(20, v.1)], v.2.1, v.2.2))
      else if isg b n p e 40 = true then (if d = 6 then Sum.inl (4, p) else bnd (Rq b n k 4 (d + 1) (nxp b n p) (nxe b n p)) (fun x => bnd (pS b n x.2.1 x.2.2 41) (fun t => Sum.inr (x.1, t.1, t.2))))
      else if fdx b n p e (fl 12) 0 = -1 then Sum.inl (1, p)
      else if fdx b n p e (fl 12) 0 = 6 ∨ fdx b n p e (fl 12) 0 = 7 then (if d = 6 then Sum.inl (4, p) else bnd (Rq b n k 6 (d + 1) (nxp b n p) (nxe b n p)) (fun x => Sum.inr (x.1 ++ [(fdx b n p e (fl 12) 0, 0)], x.2.1, x.2.2)))
      else if fdx b n p e (fl 12) 0 < 8 then Sum.inr ([(fdx b n p e (fl 12) 0, 0)], nxp b n p, nxe b n p)
      else bnd (Rq b n k 7 d (nxp b n p) (nxe b n p)) (fun x => Sum.inr (x.1 ++ [(fdx b n p e (fl 12) 0, 0)], x.2.1, x.2.2))) := rfl
theorem Rq_7 {k : Nat} : Rq b n (k + 1) 7 d p e = (if ¬ isg b n p e 40 = true then Sum.inl (1, p) else if d = 6 then Sum.inl (4, p) else
      bnd (Rq b n k 4 (d + 1) (nxp b n p) (nxe b n p)) (fun x => bnd (pS b n x.2.1 x.2.2 44) (fun t => bnd (Rq b n k 4 (d + 1) t.1 t.2) (fun y => bnd (pS b n y.2.1 y.2.2 41) (fun u => Sum.inr (x.1 ++ y.1, u.1, u.2)))))) := rfl
theorem pS_l {c : Int} (h : isg b n p e c = false) : pS b n p e c = Sum.inl (1, p) := by unfold pS; rw [h]; rfl
theorem pS_r {c : Int} (h : isg b n p e c = true) : pS b n p e c = Sum.inr (nxp b n p, nxe b n p) := by unfold pS; rw [h]; rfl
theorem pnm_b {l m w v : Int} (h : pnm b n p e l m w = Sum.inr v) : l ≤ v ∧ v ≤ m := by
  unfold pnm at h
  split at h
  · split at h
    · split at h
      · rename_i z
        cases h
        exact z
      · cases h
    · cases h
  · cases h
theorem fdx_b : ∀ (L : List Nat) (k : Int), 0 ≤ k → fdx b n p e L k = -1 ∨ (k ≤ fdx b n p e L k ∧ fdx b n p e L k < k + L.length)
  | [], k, _ => Or.inl rfl
  | i :: L, k, hk => by
    have e1 : fdx b n p e (i :: L) k = if iswd b n p e (wd i) = true then k else fdx b n p e L (k + 1) := rfl
    rw [e1]
    by_cases z : iswd b n p e (wd i) = true
    · rw [if_pos z]; exact Or.inr ⟨Int.le_refl _, by show k < k + ((L.length + 1 : Nat) : Int); omega⟩
    · rw [if_neg z]
      rcases fdx_b L (k + 1) (by omega) with h | h
      · exact Or.inl h
      · exact Or.inr ⟨by omega, by show fdx b n p e L (k + 1) < k + ((L.length + 1 : Nat) : Int); omega⟩
theorem Q_c : ∀ (k tag : Nat) (d : Int), 0 ≤ d ∧ d ≤ 6 → tag ≤ 7 → 8 * (6 - d) + (8 - tag) ≤ k → rdQ b n (fun M Q => PRq k tag d M Q) (Rq b n k tag d) := by
  intro k
  induction k with
  | zero => intro tag d h1 h2 h3; omega
  | succ k ih =>
    intro tag d hd ht hk p e c M Q hT hc hl HF HO
    have ok : bOK b n p := hT.1.1
    have n16 : n ≤ 1600 := ok.2.1
    have pn : p ≤ n := ok.2.2.2.2.1
    -- a code behind a read one
    have code : ∀ {A : Mem} {c : Cds} {p e o : Int}, tq M A → cK b n p e A → cQ c A → (c.length : Int) < 1600 → 0 ≤ o ∧ o ≤ 20 → ∀ B : Mem, B = fmX5_add A o 0 → tq M B ∧ cK b n p e B ∧ cQ (c ++ [(o, 0)]) B := by
      intro A c p e o t k9 c9 l ho B hB
      have A1 := add_c (x := (o, 0)) (o := o) (v := 0) c9 l ho (by decide) (by unfold cco; exact if_neg (show ¬ o = 21 by omega))
      rw [← hB] at A1
      exact ⟨tq_t t A1.2.1, cK_3 k9 A1.2.1 A1.2.2, A1.1⟩
    have app : ∀ a b' : Cds, ((a ++ b').length : Int) = (a.length : Int) + (b'.length : Int) := fun a b' => by rw [List.length_append]; omega
    by_cases q0 : tag = 0
    · subst q0
      rw [Rq_0] at HF HO
      have I := ih 1 d hd (by decide) (by omega)
      show PX6_takeTest (PRq k) d M Q
      refine I p e c M _ hT hc hl (fun f pl h M2 t2 c2 => ⟨fun _ => HF f pl (bnd_l h) M2 t2 c2, fun z => absurd rfl z⟩) (fun x h M2 t2 k2 c2 => ⟨fun z => absurd z (by decide), fun _ => ⟨1602, ?_⟩⟩)
      rw [bnd_r h] at HF HO
      have g := Rq_len k 1 d p e x ok h
      have g1 := g.1
      have := app c x.1
      have := ok.2.2.2.1
      exact lor_c (F := Rq b n k 1 d) I (fun p e x => Rq_len k 1 d p e x) 1601 1602 0 x.2.1 x.2.2 c x.1 M2 (by decide) (by decide) (by omega) (by decide) k2 c2 (by omega) (fun f pl hf M' t' => HF f pl hf M' (tq_t t2 t')) (fun y hy M' t' => HO y hy M' (tq_t t2 t'))
    by_cases q1 : tag = 1
    · subst q1
      rw [Rq_1] at HF HO
      have I := ih 2 d hd (by decide) (by omega)
      show PX6_takeBoth (PRq k) d M Q
      refine I p e c M _ hT hc hl (fun f pl h M2 t2 c2 => ⟨fun _ => HF f pl (bnd_l h) M2 t2 c2, fun z => absurd rfl z⟩) (fun x h M2 t2 k2 c2 => ⟨fun z => absurd z (by decide), fun _ => ⟨1602, ?_⟩⟩)
      rw [bnd_r h] at HF HO
      have g := Rq_len k 2 d p e x ok h
      have g1 := g.1
      have := app c x.1
      have := ok.2.2.2.1
      exact land_c (F := Rq b n k 2 d) I (fun p e x => Rq_len k 2 d p e x) 1601 1602 0 x.2.1 x.2.2 c x.1 M2 (by decide) (by decide) (by omega) (by decide) k2 c2 (by omega) (fun f pl hf M' t' => HF f pl hf M' (tq_t t2 t')) (fun y hy M' t' => HO y hy M' (tq_t t2 t'))
    by_cases q4 : tag = 4
    · subst q4
      rw [Rq_4] at HF HO
      have I := ih 5 d hd (by decide) (by omega)
      show PX6_takeSum (PRq k) d M Q
      refine I p e c M _ hT hc hl (fun f pl h M2 t2 c2 => ⟨fun _ => HF f pl (bnd_l h) M2 t2 c2, fun z => absurd rfl z⟩) (fun x h M2 t2 k2 c2 => ⟨fun z => absurd z (by decide), fun _ => ⟨1602, ?_⟩⟩)
      rw [bnd_r h] at HF HO
      have g := Rq_len k 5 d p e x ok h
      have g1 := g.1
      have := app c x.1
      have := ok.2.2.2.1
      exact lsum_c (F := Rq b n k 5 d) I (fun p e x => Rq_len k 5 d p e x) 1601 1602 0 x.2.1 x.2.2 c x.1 M2 (by decide) (by decide) (by omega) (by decide) k2 c2 (by omega) (fun f pl hf M' t' => HF f pl hf M' (tq_t t2 t')) (fun y hy M' t' => HO y hy M' (tq_t t2 t'))
    by_cases q5 : tag = 5
    · subst q5
      rw [Rq_5] at HF HO
      have I := ih 6 d hd (by decide) (by omega)
      show PX6_takeProduct (PRq k) d M Q
      refine I p e c M _ hT hc hl (fun f pl h M2 t2 c2 => ⟨fun _ => HF f pl (bnd_l h) M2 t2 c2, fun z => absurd rfl z⟩) (fun x h M2 t2 k2 c2 => ⟨fun z => absurd z (by decide), fun _ => ⟨1602, ?_⟩⟩)
      rw [bnd_r h] at HF HO
      have g := Rq_len k 6 d p e x ok h
      have g1 := g.1
      have := app c x.1
      have := ok.2.2.2.1
      exact lmul_c (F := Rq b n k 6 d) I (fun p e x => Rq_len k 6 d p e x) 1601 1602 0 x.2.1 x.2.2 c x.1 M2 (by decide) (by decide) (by omega) (by decide) k2 c2 (by omega) (fun f pl hf M' t' => HF f pl hf M' (tq_t t2 t')) (fun y hy M' t' => HO y hy M' (tq_t t2 t'))
    have len : ∀ {p' : Int} {x : Cds × Int × Int}, p + 1 ≤ p' → gdq b n p' x → ((c ++ x.1).length : Int) < 1600 ∧ ((c ++ x.1).length : Int) ≤ x.2.1 := by
      intro p' x hp g
      have g1 := g.1
      have a := app c x.1
      have b1 := g.2.2.1
      have b2 := g.2.2.2.2.2.1
      omega
    have wd1 : d ≠ 6 → wr32 (d + 1) = d + 1 := fun z => wad (by omega) (by omega)
    by_cases q2 : tag = 2
    · subst q2
      rw [Rq_2] at HF HO
      show PX6_takeFact (PRq k) d M Q
      intro a2 h2
      rw [find_c hT.1 (by decide), show fl 10 = [108] from rfl, fdx_1] at h2
      by_cases iw : iswd b n p e (wd 108) = true
      · rw [if_pos iw] at h2 HF HO
        refine ⟨fun _ => deep_c hT (fun y M' r f => HF 4 p (if_pos y) M' (tq_c r) f) (fun y => ?_) hd, fun z => absurd h2 z⟩
        rw [if_neg y] at HF HO
        rw [wd1 y]
        have a := iswd_a ok iw
        refine nx_k hT (Or.inl (iswd_k iw).1) (fun M6 r6 k6 => ?_)
        refine ih 2 (d + 1) (by omega) (by decide) (by omega) _ _ c M6 _ k6 (cQ_c r6 hc) (by omega) (fun f pl hf M9 t9 c9 => ⟨fun _ => HF f pl (bnd_l hf) M9 (tq_t (tq_c r6) t9) c9, fun z => absurd rfl z⟩) (fun x hx M9 t9 k9 c9 => ⟨fun z => absurd z (by decide), fun _ M13 h13 => ?_⟩)
        have A := code (tq_t (tq_c r6) t9) k9 c9 (len a.1 (Rq_len k 2 (d + 1) _ _ x a.2 hx)).1 (o := 19) (by decide) M13 h13
        exact HO _ (bnd_r hx) M13 A.1 A.2.1 (by rw [← List.append_assoc]; exact A.2.2)
      rw [if_neg iw] at h2 HF HO
      refine ⟨fun z => by rw [z] at h2; exact absurd h2 (by decide), fun _ => ?_⟩
      rw [isSign_c hT.1]
      by_cases ig : isg b n p e 91 = true
      · rw [if_pos ig] at HF HO
        rw [if_pos ig]
        refine ⟨fun z => absurd z (by decide), fun _ => deep_c hT (fun y M' r f => HF 4 p (if_pos y) M' (tq_c r) f) (fun y => ?_) hd⟩
        rw [if_neg y] at HF HO
        rw [wd1 y]
        have a := isg_a ok ig
        refine nx_k hT (Or.inr (Or.inr (isg_k ig).1)) (fun M6 r6 k6 => ?_)
        refine ih 0 (d + 1) (by omega) (by decide) (by omega) _ _ c M6 _ k6 (cQ_c r6 hc) (by omega) (fun f pl hf M9 t9 c9 => ⟨fun _ => HF f pl (bnd_l hf) M9 (tq_t (tq_c r6) t9) c9, fun z => absurd rfl z⟩) (fun x hx M9 t9 k9 c9 => ⟨fun z => absurd z (by decide), fun _ => ?_⟩)
        rw [bnd_r hx] at HF HO
        refine sg_c k9 (fun h M' r f => ⟨Or.inl rfl, HF 1 x.2.1 (bnd_l (pS_l h)) M' (tq_t (tq_t (tq_c r6) t9) (tq_c r)) f⟩) (fun h M' r k' => ⟨Or.inr rfl, HO _ (bnd_r (pS_r h)) M' (tq_t (tq_t (tq_c r6) t9) (tq_c r)) k' (cQ_c r c9)⟩)
      rw [if_neg ig] at HF HO
      rw [if_neg ig]
      refine ⟨fun _ a7 h7 => ?_, fun z => absurd rfl z⟩
      rw [find_c hT.1 (by decide), show fl 11 = [111] from rfl, fdx_1] at h7
      by_cases iw : iswd b n p e (wd 111) = true
      · rw [if_pos iw] at h7 HF HO
        refine ⟨fun _ => nx_k hT (Or.inl (iswd_k iw).1) (fun M6 r6 k6 M16 h16 => ?_), fun z => absurd h7 z⟩
        have A1 := add_c (x := (21, 1)) (o := 20) (v := 1) (cQ_c r6 hc) (by have := iswd_a ok iw; have := this.1; have := (iswd_a ok iw).2.2.2.2.2.1; omega) (by decide) (by decide) rfl
        rw [← h16] at A1
        exact HO _ rfl M16 (tq_t (tq_c r6) A1.2.1) (cK_3 k6 A1.2.1 A1.2.2) A1.1
      rw [if_neg iw] at h7 HF HO
      refine ⟨fun z => by rw [z] at h7; exact absurd h7 (by decide), fun _ => ?_⟩
      exact ih 3 d hd (by decide) (by omega) p e c M _ hT hc hl (fun f pl h M2 t2 c2 => ⟨Or.inl rfl, HF f pl h M2 t2 c2⟩) (fun x h M2 t2 k2 c2 => ⟨Or.inr rfl, HO x h M2 t2 k2 c2⟩)
    by_cases q3 : tag = 3
    · subst q3
      rw [Rq_3] at HF HO
      show PX6_takeComparison (PRq k) d M Q
      refine ih 4 d hd (by decide) (by omega) p e c M _ hT hc hl (fun f pl h M2 t2 c2 => ⟨fun _ => HF f pl (bnd_l h) M2 t2 c2, fun z => absurd rfl z⟩) (fun x hx M2 t2 k2 c2 => ⟨fun z => absurd z (by decide), fun _ => ?_⟩)
      rw [bnd_r hx] at HF HO
      have g := Rq_len k 4 d p e x ok hx
      have ec : (if (fX9_isSign M2 60) = 0 then (if (fX9_isSign M2 62) = 0 then (if (fX9_isSign M2 61) = 0 then ((-1) : Int) else 16) else 15) else 14) = tCmp b n x.2.1 x.2.2 := by
        rw [isSign_c k2.1, isSign_c k2.1, isSign_c k2.1]
        unfold tCmp
        by_cases z : isg b n x.2.1 x.2.2 60 = true
        · rw [if_pos z, if_neg (by decide), if_pos z]
        rw [if_neg z, if_pos rfl, if_neg z]
        by_cases z : isg b n x.2.1 x.2.2 62 = true
        · rw [if_pos z, if_neg (by decide), if_pos z]
        rw [if_neg z, if_pos rfl, if_neg z]
        by_cases z : isg b n x.2.1 x.2.2 61 = true
        · rw [if_pos z, if_neg (by decide), if_pos z]
        rw [if_neg z, if_pos rfl, if_neg z]
      rw [ec]
      refine ⟨fun z M18 h18 => ?_, fun z => ?_⟩
      · have un := una_c k2
        rw [h18]
        exact ⟨Or.inl rfl, HF 1 x.2.1 (if_pos z) _ (tq_t t2 (tq_c un.1)) un.2⟩
      · rw [if_neg z] at HF HO
        have kn := t_cmp z
        have a := advq g.2 kn
        refine nx_k k2 kn (fun M6 r6 k6 => ?_)
        have l1 := app c x.1
        have g1 := g.1
        refine ih 4 d hd (by decide) (by omega) _ _ (c ++ x.1) M6 _ k6 (cQ_c r6 c2) (by omega) (fun f pl hf M9 t9 c9 => ⟨fun _ => HF f pl (bnd_l hf) M9 (tq_t (tq_t t2 (tq_c r6)) t9) c9, fun z => absurd rfl z⟩) (fun y hy M9 t9 k9 c9 => ⟨fun z => absurd z (by decide), fun _ M13 h13 => ?_⟩)
        have g' := Rq_len k 4 d _ _ y a.2 hy
        have g2 := g'.1
        have l2 := app (c ++ x.1) y.1
        have b1 := g'.2.2.1
        have b2 := g'.2.2.2.2.2.1
        have tv : 0 ≤ tCmp b n x.2.1 x.2.2 ∧ tCmp b n x.2.1 x.2.2 ≤ 20 := by
          unfold tCmp
          by_cases y1 : isg b n x.2.1 x.2.2 60 = true
          · rw [if_pos y1]; decide
          rw [if_neg y1]
          by_cases y2 : isg b n x.2.1 x.2.2 62 = true
          · rw [if_pos y2]; decide
          rw [if_neg y2]
          by_cases y3 : isg b n x.2.1 x.2.2 61 = true
          · rw [if_pos y3]; decide
          · exfalso
            apply z
            unfold tCmp
            rw [if_neg y1, if_neg y2, if_neg y3]
        have A := code (tq_t (tq_t t2 (tq_c r6)) t9) k9 c9 (by omega) tv M13 h13
        exact HO _ (bnd_r hy) M13 A.1 A.2.1 (by rw [← List.append_assoc, ← List.append_assoc]; exact A.2.2)
    by_cases q6 : tag = 6
    · subst q6
      rw [Rq_6] at HF HO
      show PX6_takePart (PRq k) d M Q
      unfold PX6_takePart
      rw [hT.1.2.2.2.1, hT.1.2.2.2.2.1]
      by_cases kn : knd b n p e = 2
      · rw [if_pos kn] at HF HO
        refine ⟨fun _ => num_c hT (fun f pl h M' r cf M64 h64 => ⟨Or.inl rfl, ?_⟩) (fun v h M' r k' M64 h64 => ?_), fun z => absurd kn z⟩
        · have F := add_f (M := M') (o := 20) (v := -1)
          rw [← h64] at F
          refine HF f pl (bnd_l ?_) M64 (tq_t (tq_c r) F.1) (by unfold cFl; rw [F.2]; exact cf)
          unfold pN
          exact bnd_l h
        · have vb := pnm_b h
          have vn : ¬ v = -1 := by omega
          rw [if_neg vn]
          have A1 := add_c (x := (20, v)) (o := 20) (v := v) (cQ_c r hc) (by have a := advq ok (Or.inr (Or.inl kn)); have := a.1; have := a.2.2.2.2.2.1; omega) (by decide) vb rfl
          rw [← h64] at A1
          refine ⟨Or.inr rfl, HO ([(20, v)], nxp b n p, nxe b n p) ?_ M64 (tq_t (tq_c r) A1.2.1) (cK_3 k' A1.2.1 A1.2.2) A1.1⟩
          unfold pN
          rw [bnd_r h]; rfl
      rw [if_neg kn] at HF HO
      refine ⟨fun z => absurd z kn, fun _ => ?_⟩
      rw [isSign_c hT.1]
      by_cases ig : isg b n p e 40 = true
      · rw [if_pos ig] at HF HO
        rw [if_pos ig]
        have a := isg_a ok ig
        refine ⟨fun z => absurd z (by decide), fun _ => open_c hT hd (fun z => by rw [ig] at z; cases z) (fun _ z M' r f => ⟨fun _ => HF 4 p (if_pos z) M' (tq_c r) f, fun z => absurd rfl z⟩) (fun _ z M6 r6 k6 => ⟨fun z => absurd z (by decide), fun _ => ?_⟩)⟩
        rw [if_neg z] at HF HO
        rw [wd1 z]
        refine ih 4 (d + 1) (by omega) (by decide) (by omega) _ _ c M6 _ k6 (cQ_c r6 hc) (by omega) (fun f pl hf M9 t9 c9 => ⟨fun _ => HF f pl (bnd_l hf) M9 (tq_t (tq_c r6) t9) c9, fun z => absurd rfl z⟩) (fun x hx M9 t9 k9 c9 => ⟨fun z => absurd z (by decide), fun _ => ?_⟩)
        rw [bnd_r hx] at HF HO
        refine sg_c k9 (fun h M' r f => ⟨Or.inl rfl, HF 1 x.2.1 (bnd_l (pS_l h)) M' (tq_t (tq_t (tq_c r6) t9) (tq_c r)) f⟩) (fun h M' r k' => ⟨Or.inr rfl, HO _ (bnd_r (pS_r h)) M' (tq_t (tq_t (tq_c r6) t9) (tq_c r)) k' (cQ_c r c9)⟩)
      rw [if_neg ig] at HF HO
      rw [if_neg ig]
      refine ⟨fun _ a5 h5 => ?_, fun z => absurd rfl z⟩
      rw [find_c hT.1 (by decide)] at h5
      have fb := fdx_b (b := b) (n := n) (p := p) (e := e) (fl 12) 0 (by decide)
      rw [← h5] at HF HO fb
      have fb' : a5 = -1 ∨ (0 ≤ a5 ∧ a5 < 10) := fb
      clear fb
      by_cases z1 : a5 = -1
      · rw [if_pos z1] at HF HO
        refine ⟨fun _ M46 h46 => ?_, fun z => absurd z1 z⟩
        have un := una_c hT
        rw [h46]
        exact ⟨Or.inl rfl, HF 1 p rfl _ (tq_c un.1) un.2⟩
      rw [if_neg z1] at HF HO
      refine ⟨fun z => absurd z z1, fun _ => ?_⟩
      have k1 : knd b n p e = 1 := fdx_k (by rw [← h5]; exact z1)
      have a := advq ok (Or.inl k1)
      by_cases z67 : a5 = 6 ∨ a5 = 7
      · rw [if_pos z67] at HF HO
        have G : (∀ M9 : Mem, M9 = (fmX6_deeper M d) → (((fX6_deeper d) = 0 → Q 0 M9) ∧ (¬ ((fX6_deeper d) = 0) → PX9_next M9 (fun _ M12 => PRq k 6 (wr32 (d + 1)) M12 (fun a14 M15 => ((a14 = 0 → Q 0 M15) ∧ (¬ (a14 = 0) → (∀ M19 : Mem, M19 = (fmX5_add M15 a5 0) → Q 1 M19)))))))) := by
          refine deep_c hT (fun y M' r f => HF 4 p (if_pos y) M' (tq_c r) f) (fun y => ?_) hd
          rw [if_neg y] at HF HO
          rw [wd1 y]
          refine nx_k hT (Or.inl k1) (fun M6 r6 k6 => ?_)
          refine ih 6 (d + 1) (by omega) (by decide) (by omega) _ _ c M6 _ k6 (cQ_c r6 hc) (by omega) (fun f pl hf M9 t9 c9 => ⟨fun _ => HF f pl (bnd_l hf) M9 (tq_t (tq_c r6) t9) c9, fun z => absurd rfl z⟩) (fun x hx M9 t9 k9 c9 => ⟨fun z => absurd z (by decide), fun _ M13 h13 => ?_⟩)
          have A := code (tq_t (tq_c r6) t9) k9 c9 (len a.1 (Rq_len k 6 (d + 1) _ _ x a.2 hx)).1 (by omega) M13 h13
          exact HO _ (bnd_r hx) M13 A.1 A.2.1 (by rw [← List.append_assoc]; exact A.2.2)
        exact ⟨fun _ => G, fun z => ⟨fun _ => G, fun y => absurd z67 (fun w => w.elim z y)⟩⟩
      rw [if_neg z67] at HF HO
      refine ⟨fun z => absurd (Or.inl z) z67, fun _ => ⟨fun z => absurd (Or.inr z) z67, fun _ => ?_⟩⟩
      refine nx_k hT (Or.inl k1) (fun M6 r6 k6 => ?_)
      by_cases z8 : a5 < 8
      · rw [if_pos z8] at HF HO
        refine ⟨fun _ M26 h26 => ?_, fun z => absurd z8 z⟩
        have A := code (tq_c r6) k6 (cQ_c r6 hc) (by have := a.1; have := a.2.2.2.2.2.1; omega) (by omega) M26 h26
        exact HO _ rfl M26 A.1 A.2.1 A.2.2
      rw [if_neg z8] at HF HO
      refine ⟨fun z => absurd z z8, fun _ => ?_⟩
      refine ih 7 d hd (by decide) (by omega) _ _ c M6 _ k6 (cQ_c r6 hc) (by omega) (fun f pl hf M9 t9 c9 => ⟨fun _ => HF f pl (bnd_l hf) M9 (tq_t (tq_c r6) t9) c9, fun z => absurd rfl z⟩) (fun x hx M9 t9 k9 c9 => ⟨fun z => absurd z (by decide), fun _ M13 h13 => ?_⟩)
      have A := code (tq_t (tq_c r6) t9) k9 c9 (len a.1 (Rq_len k 7 d _ _ x a.2 hx)).1 (by omega) M13 h13
      exact HO _ (bnd_r hx) M13 A.1 A.2.1 (by rw [← List.append_assoc]; exact A.2.2)
    have q7 : tag = 7 := by omega
    subst q7
    rw [Rq_7] at HF HO
    show PX6_takePair (PRq k) d M Q
    refine open_c hT hd (fun z M' r f => ⟨fun _ => HF 1 p (if_pos (by rw [z]; decide)) M' (tq_c r) f, fun z => absurd rfl z⟩) (fun ig z M' r f => ⟨fun _ => HF 4 p (by rw [if_neg (fun y => y ig), if_pos z]) M' (tq_c r) f, fun z => absurd rfl z⟩) (fun ig z M6 r6 k6 => ⟨fun z => absurd z (by decide), fun _ => ?_⟩)
    rw [if_neg (fun y => y ig), if_neg z] at HF HO
    rw [wd1 z]
    have a := isg_a ok ig
    refine ih 4 (d + 1) (by omega) (by decide) (by omega) _ _ c M6 _ k6 (cQ_c r6 hc) (by omega) (fun f pl hf M9 t9 c9 => ⟨fun _ => HF f pl (bnd_l hf) M9 (tq_t (tq_c r6) t9) c9, fun z => absurd rfl z⟩) (fun x hx M9 t9 k9 c9 => ⟨fun z => absurd z (by decide), fun _ => ?_⟩)
    rw [bnd_r hx] at HF HO
    have T9 := tq_t (tq_c r6) t9
    have g := Rq_len k 4 (d + 1) _ _ x a.2 hx
    refine sg_c k9 (fun h M' r f => ⟨fun _ => HF 1 x.2.1 (bnd_l (pS_l h)) M' (tq_t T9 (tq_c r)) f, fun z => absurd rfl z⟩) (fun h M7 r7 k7 => ⟨fun z => absurd z (by decide), fun _ => ?_⟩)
    rw [bnd_r (pS_r h)] at HF HO
    have a7 := isg_a g.2 h
    have l9 := (len a.1 g).2
    refine ih 4 (d + 1) (by omega) (by decide) (by omega) _ _ (c ++ x.1) M7 _ k7 (cQ_c r7 c9) (by omega) (fun f pl hf M8 t8 c8 => ⟨fun _ => HF f pl (bnd_l hf) M8 (tq_t (tq_t T9 (tq_c r7)) t8) c8, fun z => absurd rfl z⟩) (fun y hy M8 t8 k8 c8 => ⟨fun z => absurd z (by decide), fun _ => ?_⟩)
    rw [bnd_r hy] at HF HO
    have T8 := tq_t (tq_t T9 (tq_c r7)) t8
    exact sg_c k8 (fun h M' r f => ⟨Or.inl rfl, HF 1 y.2.1 (bnd_l (pS_l h)) M' (tq_t T8 (tq_c r)) f⟩) (fun h M' r k' => ⟨Or.inr rfl, HO _ (bnd_r (pS_r h)) M' (tq_t T8 (tq_c r)) k' (cQ_c r (by rw [← List.append_assoc]; exact c8))⟩)
end
end
