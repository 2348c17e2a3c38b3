section
variable {b : Int → Int} {n p e : Int} {M : Mem} {Q : Int → Mem → Prop}
/-- which kind stands at pp -/
theorem kk_l {pp K0 : Int} (b0 : pp < n → 0 ≤ b pp) (h : K0 = fX9_kindOf (if n ≤ pp then -1 else b pp)) :
    (n ≤ pp ∧ K0 = 0 ∧ knd b n pp e = 0 ∧ tnd b n pp = pp) ∨ (pp < n ∧ ltr (b pp) = true ∧ K0 = 1 ∧ knd b n pp e = (if pp = e then 4 else 1) ∧ tnd b n pp = fwd ltr b n (pp + 1)) ∨
    (pp < n ∧ dgt (b pp) = true ∧ K0 = 2 ∧ knd b n pp e = (if pp = e then 4 else 2) ∧ tnd b n pp = fwd dgt b n (pp + 1)) ∨ (pp < n ∧ K0 = 3 ∧ knd b n pp e = 3 ∧ tnd b n pp = pp + 1) := by
  unfold knd tnd
  by_cases z : n ≤ pp
  · rw [if_pos z, kof_m] at h
    rw [if_pos z, if_pos z]
    exact Or.inl ⟨z, h, rfl, rfl⟩
  · have z2 : pp < n := by clear h; omega
    rw [if_neg z, kof (b0 z2)] at h
    rw [if_neg z, if_neg z]
    by_cases l : ltr (b pp) = true
    · rw [if_pos l] at h
      rw [if_pos l, if_pos l, fwd_1 z2 l]
      exact Or.inr (Or.inl ⟨z2, l, h, rfl, rfl⟩)
    · rw [if_neg l] at h
      rw [if_neg l, if_neg l]
      by_cases d : dgt (b pp) = true
      · rw [if_pos d] at h
        rw [if_pos d, if_pos d, fwd_1 z2 d]
        exact Or.inr (Or.inr (Or.inl ⟨z2, d, h, rfl, rfl⟩))
      · rw [if_neg d] at h
        rw [if_neg d, if_neg d]
        exact Or.inr (Or.inr (Or.inr ⟨z2, h, rfl, rfl⟩))
def wS (M : Mem) (K0 pp t : Int) (N : Mem) : Prop := (∀ q, q ≠ 3 → N q = M q) ∧ (∀ j, j ≠ 1 → j ≠ 2 → j ≠ 3 → N 3 j = M 3 j) ∧ N 3 1 = K0 ∧ N 3 2 = pp ∧ N 3 3 = t
theorem kof_1 {x : Int} (h : 0 ≤ x) : fX9_kindOf x = 1 ↔ ltr x = true := by
  rw [kof h]
  by_cases l : ltr x = true
  · rw [if_pos l]; exact ⟨fun _ => l, fun _ => rfl⟩
  · rw [if_neg l]
    refine ⟨fun w => ?_, fun w => absurd w l⟩
    exfalso
    revert w
    by_cases d : dgt x = true
    · rw [if_pos d]; decide
    · rw [if_neg d]; decide
theorem kof_2 {x : Int} (h : 0 ≤ x) : fX9_kindOf x = 2 ↔ dgt x = true := by
  rw [kof h]
  by_cases l : ltr x = true
  · rw [if_pos l]
    exact ⟨fun w => absurd w (by decide), fun w => absurd w (ltr_dgt l)⟩
  · rw [if_neg l]
    by_cases d : dgt x = true
    · rw [if_pos d]; exact ⟨fun _ => d, fun _ => rfl⟩
    · rw [if_neg d]; exact ⟨fun w => absurd w (by decide), fun w => absurd w d⟩
/-- the join behind the end of the word -/
theorem nx_jn {K0 pp sp kd t : Int} {N : Mem} (hS : wS M K0 pp t N) (hkd : kd = 1 ∨ kd = 2 ∨ kd = 3) (e3 : kd = 3 → e ≠ pp) (e12 : kd ≠ 3 → e = sp) (k0 : K0 = 0 → knd b n pp e = 0) (k1 : K0 = 1 → knd b n pp e = (if pp = e then 4 else 1)) (k2 : K0 = 2 → knd b n pp e = (if pp = e then 4 else 2)) (k3 : K0 = 3 → knd b n pp e = 3) (kv : K0 = 0 ∨ K0 = 1 ∨ K0 = 2 ∨ K0 = 3)
    (c1 : kd = 1 → pp = sp → K0 ≠ 1) (c2 : kd = 2 → pp = sp → K0 ≠ 2) (hQ : ∀ N' : Mem, wS M (knd b n pp e) pp t N' → Q 0 N') :
    ((pp = sp → ((kd = 1 → ((K0 = 2 → (∀ M24 : Mem, M24 = (mset N 3 1 4) → Q 0 M24)) ∧ (¬ (K0 = 2) → ((kd = 2 → ((K0 = 1 → (∀ M28 : Mem, M28 = (mset N 3 1 4) → Q 0 M28)) ∧ (¬ (K0 = 1) → Q 0 N))) ∧ (¬ (kd = 2) → Q 0 N))))) ∧ (¬ (kd = 1) → ((kd = 2 → ((K0 = 1 → (∀ M21 : Mem, M21 = (mset N 3 1 4) → Q 0 M21)) ∧ (¬ (K0 = 1) → Q 0 N))) ∧ (¬ (kd = 2) → Q 0 N))))) ∧ (¬ (pp = sp) → Q 0 N)) := by
  obtain ⟨g1, g2, g3, g4, g5⟩ := hS
  have st : ∀ N' : Mem, N' = mset N 3 1 4 → 4 = knd b n pp e → Q 0 N' := fun N' hN h4 => hQ N' ⟨fun q x => by rw [hN, mset_p x]; exact g1 q x, fun j x y z => by rw [hN, mset_k x]; exact g2 j x y z, by rw [hN, mset_e]; exact h4, by rw [hN, mset_k (by decide)]; exact g4, by rw [hN, mset_k (by decide)]; exact g5⟩
  have sm : K0 = knd b n pp e → Q 0 N := fun h4 => hQ N ⟨g1, g2, by rw [g3]; exact h4, g4, g5⟩
  have sA : K0 ≠ 1 → K0 ≠ 2 → K0 = knd b n pp e := by
    intro a c
    rcases kv with u | u | u | u
    · rw [k0 u, u]
    · exact absurd u a
    · exact absurd u c
    · rw [k3 u, u]
  have sB : pp ≠ e → K0 = knd b n pp e := by
    intro a
    rcases kv with u | u | u | u
    · rw [k0 u, u]
    · rw [k1 u, if_neg a, u]
    · rw [k2 u, if_neg a, u]
    · rw [k3 u, u]
  rcases hkd with rfl | rfl | rfl
  · have ee : e = sp := e12 (by decide)
    exact ⟨fun a => ⟨fun _ => ⟨fun h2 M24 h24 => st M24 h24 (by rw [k2 h2, if_pos (a.trans ee.symm)]), fun h2 => ⟨fun z => absurd z (by decide), fun _ => sm (sA (c1 rfl a) h2)⟩⟩, fun z => absurd rfl z⟩, fun a => sm (sB (fun w => a (w.trans ee)))⟩
  · have ee : e = sp := e12 (by decide)
    exact ⟨fun a => ⟨fun z => absurd z (by decide), fun _ => ⟨fun _ => ⟨fun h1 M21 h21 => st M21 h21 (by rw [k1 h1, if_pos (a.trans ee.symm)]), fun h1 => sm (sA h1 (c2 rfl a))⟩, fun z => absurd rfl z⟩⟩, fun a => sm (sB (fun w => a (w.trans ee)))⟩
  · have ee : pp ≠ e := fun w => e3 rfl w.symm
    exact ⟨fun _ => ⟨fun z => absurd z (by decide), fun _ => ⟨fun z => absurd z (by decide), fun _ => sm (sB ee)⟩⟩, fun _ => sm (sB ee)⟩
/-- what stands behind a jump to the next word, by the word ahead -/
theorem nx_gen {pp sp kd : Int} (hn : 0 ≤ n ∧ n ≤ 1600) (hb : ∀ k, 0 ≤ k → k < n → 0 ≤ b k ∧ b k ≤ 255) (h1 : M 1 1 = n) (h2 : ∀ k, 0 ≤ k → k < n → M 2 k = b k) (h3 : M 3 3 = sp) (hk : M 3 1 = kd) (s0 : 0 ≤ sp) (s1 : sp ≤ n) (hp : pp = fwd blk b n sp)
    (hkd : (kd = 1 ∨ kd = 2 ∨ kd = 3)) (e3 : kd = 3 → e ≠ pp) (e12 : kd ≠ 3 → e = sp) (e1 : kd = 1 → sp < n → ltr (b sp) = false) (e2 : kd = 2 → sp < n → dgt (b sp) = false)
    (hQ : ∀ M' : Mem, (∀ q, q ≠ 3 → M' q = M q) → (∀ j, j ≠ 1 → j ≠ 2 → j ≠ 3 → M' 3 j = M 3 j) → cT b n pp e M' → Q 0 M') : PX9_next M Q := by
  have fs := fwd_s (f := blk) (b := b) (n := n) s1
  rw [← hp] at fs
  have hp := hid hp
  have p0 : 0 ≤ pp := Int.le_trans s0 fs.1
  have ok : bOK b n pp := ⟨hn.1, hn.2, hb, p0, fs.2.1, fs.2.2.2⟩
  intro M2 h2'
  refine ⟨1602, nx15 (M := M2) (b := b) hn (by rw [h2', mset_o (by decide)]; exact h1) (fun k x y => by rw [h2', mset_o (by decide)]; exact h2 k x y) (fun M4 f1 f2 f3 => ?_) 1602 M2 (fun _ _ => rfl) (fun _ _ => rfl) (by rw [h2', mset_e, h3]; exact s0) (by rw [h2', mset_e, h3]; exact s1) (by rw [h2', mset_e, h3]; omega) rfl⟩
  have q4 : ∀ q, q ≠ 3 → M4 q = M q := fun q x => by rw [f1 q x, h2', mset_p x]
  have j4 : ∀ j, j ≠ 2 → M4 3 j = M 3 j := fun j x => by rw [f2 j x, h2', mset_k x]
  have p4 : Hid (M4 3 2 = pp) := hid (by rw [f3, h2', mset_e, h3, hp.out])
  have b4 := hid (byte_c (b := b) (M := M4) hn (by rw [q4 1 (by decide)]; exact h1) (fun k x y => by rw [q4 2 (by decide)]; exact h2 k x y) (k := pp) p0)
  clear f3
  intro M9 h9
  rw [p4.out, b4.out] at h9
  intro M12 h12
  obtain ⟨K0, hK0⟩ : ∃ x, x = fX9_kindOf (if n ≤ pp then -1 else b pp) := ⟨_, rfl⟩
  rw [← hK0] at h9
  have kk := kk_l (e := e) (fun z => (hb pp p0 z).1) hK0
  clear hK0
  have k9 : M9 3 1 = K0 := by rw [h9, mset_e]
  have s9 : M9 3 2 = pp := by rw [h9, mset_k (by decide)]; exact p4.out
  have es : wr32 (pp + 1) = pp + 1 := wad (by omega) (by omega)
  rw [k9, s9, es] at h12
  clear es
  have q12 : ∀ q, q ≠ 3 → M12 q = M q := fun q x => by rw [h12, mset_p x, h9, mset_p x]; exact q4 q x
  have j12 : ∀ j, j ≠ 1 → j ≠ 2 → j ≠ 3 → M12 3 j = M 3 j := fun j x y z => by rw [h12, mset_k z, h9, mset_k x]; exact j4 j y
  have k12 : M12 3 1 = K0 := by rw [h12, mset_k (by decide)]; exact k9
  have p12 : M12 3 2 = pp := by rw [h12, mset_k (by decide)]; exact s9
  have e12' : Hid (M12 3 3 = if K0 = 0 then pp else pp + 1) := hid (by rw [h12, mset_e])
  have fin : ∀ N' : Mem, wS M (knd b n pp e) pp (tnd b n pp) N' → Q 0 N' := fun N' w => hQ N' w.1 w.2.1 ⟨ok, by rw [w.1 1 (by decide)]; exact h1, fun k x y => by rw [w.1 2 (by decide)]; exact h2 k x y, w.2.2.1, w.2.2.2.1, w.2.2.2.2⟩
  refine ⟨fun M14 => wS M K0 pp (tnd b n pp) M14, ?_, ?_⟩
  · intro M14 w
    have j := nx_jn (b := b) (n := n) (e := e) (sp := sp) (kd := kd) (Q := Q) w hkd e3 e12 (fun z => ?_) (fun z => ?_) (fun z => ?_) (fun z => ?_) ?_ (fun a c z => ?_) (fun a c z => ?_) fin
    · rw [← w.2.2.2.1, ← h3, ← hk] at j
      rw [← w.2.2.1] at j
      exact j
    · rcases kk with u | u | u | u
      · exact u.2.2.1
      · exact absurd (z.symm.trans u.2.2.1) (by decide)
      · exact absurd (z.symm.trans u.2.2.1) (by decide)
      · exact absurd (z.symm.trans u.2.1) (by decide)
    · rcases kk with u | u | u | u
      · exact absurd (z.symm.trans u.2.1) (by decide)
      · exact u.2.2.2.1
      · exact absurd (z.symm.trans u.2.2.1) (by decide)
      · exact absurd (z.symm.trans u.2.1) (by decide)
    · rcases kk with u | u | u | u
      · exact absurd (z.symm.trans u.2.1) (by decide)
      · exact absurd (z.symm.trans u.2.2.1) (by decide)
      · exact u.2.2.2.1
      · exact absurd (z.symm.trans u.2.1) (by decide)
    · rcases kk with u | u | u | u
      · exact absurd (z.symm.trans u.2.1) (by decide)
      · exact absurd (z.symm.trans u.2.2.1) (by decide)
      · exact absurd (z.symm.trans u.2.2.1) (by decide)
      · exact u.2.2.1
    · rcases kk with u | u | u | u
      · exact Or.inl u.2.1
      · exact Or.inr (Or.inl u.2.2.1)
      · exact Or.inr (Or.inr (Or.inl u.2.2.1))
      · exact Or.inr (Or.inr (Or.inr u.2.1))
    · rcases kk with u | u | u | u
      · exact absurd (z.symm.trans u.2.1) (by decide)
      · have := e1 a (by rw [← c]; exact u.1)
        rw [← c, u.2.1] at this
        exact absurd this (by decide)
      · exact absurd (z.symm.trans u.2.2.1) (by decide)
      · exact absurd (z.symm.trans u.2.1) (by decide)
    · rcases kk with u | u | u | u
      · exact absurd (z.symm.trans u.2.1) (by decide)
      · exact absurd (z.symm.trans u.2.2.1) (by decide)
      · have := e2 a (by rw [← c]; exact u.1)
        rw [← c, u.2.1] at this
        exact absurd this (by decide)
      · exact absurd (z.symm.trans u.2.1) (by decide)
  · rw [k12]
    have go : ∀ (g : Int → Bool) (kd' : Int), K0 = kd' → kd' ≠ 0 → (∀ k, 0 ≤ k → k < n → (fX9_kindOf (b k) = kd' ↔ g (b k) = true)) → tnd b n pp = fwd g b n (pp + 1) → pp < n → ∃ k30 : Nat, PX9_next_117 (fun M31 => wS M K0 pp (tnd b n pp) M31) Q k30 M12 := by
      intro g kd' h0 hne hg ht hlt
      have e13 : M12 3 3 = pp + 1 := by rw [e12'.out, if_neg (fun z => hne (h0.symm.trans z))]
      have ht := hid ht
      clear kk
      refine ⟨1602, nx117 (M := M12) (b := b) (g := g) (kd := kd') hn (by rw [q12 1 (by decide)]; exact h1) (fun k x y => by rw [q12 2 (by decide)]; exact h2 k x y) (by rw [k12]; exact h0) hg (fun M31 f1 f2 f3 => ?_) 1602 M12 (fun _ _ => rfl) (fun _ _ => rfl) (by omega) (by omega) (by omega) rfl⟩
      exact ⟨fun q x => by rw [f1 q x]; exact q12 q x, fun j x y z => by rw [f2 j z]; exact j12 j x y z, by rw [f2 1 (by decide)]; exact k12, by rw [f2 2 (by decide)]; exact p12, by rw [f3, e13, ht.out]⟩
    refine ⟨fun a => ?_, fun a => ⟨fun c => ?_, fun c => ⟨q12, j12, k12, p12, ?_⟩⟩⟩
    · rcases kk with u | u | u | u
      · exact absurd (a.symm.trans u.2.1) (by decide)
      · exact go ltr 1 a (by decide) (fun k x y => kof_1 (hb k x y).1) u.2.2.2.2 u.1
      · exact absurd (a.symm.trans u.2.2.1) (by decide)
      · exact absurd (a.symm.trans u.2.1) (by decide)
    · rcases kk with u | u | u | u
      · exact absurd (c.symm.trans u.2.1) (by decide)
      · exact absurd (c.symm.trans u.2.2.1) (by decide)
      · exact go dgt 2 c (by decide) (fun k x y => kof_2 (hb k x y).1) u.2.2.2.2 u.1
      · exact absurd (c.symm.trans u.2.1) (by decide)
    · rw [e12'.out]
      rcases kk with u | u | u | u
      · rw [if_pos u.2.1, u.2.2.2]
      · exact absurd u.2.2.1 a
      · exact absurd u.2.2.1 c
      · rw [if_neg (by rw [u.2.1]; decide), u.2.2.2]
theorem nx_c (hT : cT b n p e M) (hk : knd b n p e = 1 ∨ knd b n p e = 2 ∨ knd b n p e = 3) (hQ : ∀ M' : Mem, (∀ q, q ≠ 3 → M' q = M q) → (∀ j, j ≠ 1 → j ≠ 2 → j ≠ 3 → M' 3 j = M 3 j) → cT b n (nxp b n p) (nxe b n p) M' → Q 0 M') : PX9_next M Q := by
  obtain ⟨ok, t1, t2, t3, t4, t5⟩ := hT
  have tb := tnd_b ok
  have nb := nx_ok ok
  obtain ⟨h1, h2, h3, h4, h5, h6⟩ := id ok
  refine nx_gen (pp := nxp b n p) (e := nxe b n p) ⟨h1, h2⟩ h3 t1 t2 t5 t3 (Int.le_trans h4 tb.1) tb.2.1 rfl hk (fun z => ?_) (fun z => ?_) (fun z w => ?_) (fun z w => ?_) hQ
  · have k3 := knd_3.mp z
    have p0 := nb.1.2.2.2.1
    unfold nxe
    rw [if_neg (fun w => by rcases w with w | w; exact k3.2.1 w; exact k3.2.2 w)]
    intro w
    rw [← w] at p0
    exact absurd p0 (by decide)
  · unfold nxe
    rcases hk with u | u | u
    · rw [if_pos (Or.inl (knd_1.mp u).2.1)]
    · rw [if_pos (Or.inr (knd_2.mp u).2.1)]
    · exact absurd u z
  · have k1 := knd_1.mp z
    have : tnd b n p = fwd ltr b n p := by unfold tnd; rw [if_neg (by have := k1.1; clear tb nb t5 t3 z hk; omega), if_pos k1.2.1]
    rw [this] at w ⊢
    exact (fwd_s (f := ltr) (b := b) (n := n) (i := p) h5).2.2.2 w
  · have k2 := knd_2.mp z
    have nl : ¬ ltr (b p) = true := fun w => ltr_dgt w k2.2.1
    have : tnd b n p = fwd dgt b n p := by unfold tnd; rw [if_neg (by have := k2.1; clear tb nb t5 t3 z hk; omega), if_neg nl, if_pos k2.2.1]
    rw [this] at w ⊢
    exact (fwd_s (f := dgt) (b := b) (n := n) (i := p) h5).2.2.2 w
end
