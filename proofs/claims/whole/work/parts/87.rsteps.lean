/-! the text of a hall: the reference's steps and watches -/
def sF (V : Int) (M M' : Mem) : Prop := (∀ q, q ≠ 66 → q ≠ 88 → M' q = M q) ∧ (∀ j, j ≠ 2 → j ≠ 4 → j ≠ 5 → j ≠ 6 → j ≠ 9 → j ≠ 27 → M' 66 j = M 66 j) ∧ (∀ j, (j < V ∨ V + 12 ≤ j) → M' 88 j = M 88 j)
section
variable {b : Int → Int} {n p e w : Int} {H : Hal} {M M' : Mem} {Q : Int → Mem → Prop}
theorem rK_c (h66 : M' 66 = M 66) (h67 : M' 67 = M 67) (h : rK b n p e M) : rK b n p e M' := by
  unfold rK rT at h ⊢
  rw [h66, h67]
  exact h
theorem rK_nx2 (hT : rK b n p e M) (hk : knd b n p e = 1 ∨ knd b n p e = 2) (f67 : M' 67 = M 67) (f3 : M' 66 3 = M 66 3) (f5 : M' 66 5 = M 66 5) (f6 : M' 66 6 = M 66 6) (h2 : M' 66 2 = tnd b n p) (h4 : M' 66 4 = tnd b n p) : rK b n (nxp b n p) (nxe b n p) M' := by
  obtain ⟨N, hN⟩ : ∃ N : Mem, N = fun q => if q = 66 then M' 66 else M q := ⟨_, rfl⟩
  have n66 : N 66 = M' 66 := by rw [hN]; rfl
  have nq : ∀ q, q ≠ 66 → N q = M q := fun q x => by rw [hN]; exact if_neg x
  refine rK_c n66.symm (f67.trans (nq 67 (by decide)).symm) (rK_nx hT hk nq (by rw [n66]; exact f3) (by rw [n66]; exact f5) (by rw [n66]; exact f6) (by rw [n66]; exact h2) (by rw [n66]; exact h4))
theorem st48 {K : Int → Mem → Prop} {t V : Int} (ok : bOK b n p) (n3 : M 66 3 = n) (g5 : M 66 5 = 0) (n67 : ∀ k, 0 ≤ k → k < n → M 67 k = b k) (V0 : 0 ≤ V) (V1 : V + 12 ≤ 162) (tp : p < t) (tn : t ≤ n) (da : ∀ j : Nat, j < (t - p).toNat → ltr (b (p + j)) = true) (de : t < n → ltr (b t) = false)
    (hK : t - p ≤ 12 → allw b p (t - p).toNat = true → ∀ N : Mem, (∀ q, q ≠ 66 → q ≠ 88 → N q = M q) → (∀ j, j ≠ 2 → N 66 j = M 66 j) → (∀ j, (j < V ∨ V + 12 ≤ j) → N 88 j = M 88 j) → (∀ i, 0 ≤ i → i < t - p → N 88 (V + i) = wof (b (p + i))) → N 66 2 = t → K (t - p) N)
    (hF : ¬ (t - p ≤ 12 ∧ allw b p (t - p).toNat = true) → ∀ N : Mem, (∀ q, q ≠ 66 → q ≠ 88 → N q = M q) → (∀ j, j ≠ 2 → N 66 j = M 66 j) → (∀ j, (j < V ∨ V + 12 ≤ j) → N 88 j = M 88 j) → Q 0 (fmX12_fail N 1 p)) :
    ∀ (k m : Nat) (N : Mem), (∀ q, q ≠ 66 → q ≠ 88 → N q = M q) → (∀ j, j ≠ 2 → N 66 j = M 66 j) → (∀ j, (j < V ∨ V + 12 ≤ j) → N 88 j = M 88 j) → (∀ i, 0 ≤ i → i < (m : Int) → N 88 (V + i) = wof (b (p + i))) → N 66 2 = p + m → m ≤ 12 → (m : Int) ≤ t - p → 12 < m + k → allw b p m = true → PX12_stepsTold_48 V p K Q k m N := by
  obtain ⟨h1, h2, h3, hp0, h5, h6⟩ := id ok
  intro k
  induction k with
  | zero => intro m N _ _ _ _ _ a _ c; omega
  | succ k ih =>
    intro m N e1 e2 e8 es e3 a c d aw
    have m3 : N 66 3 = n := by rw [e2 3 (by decide)]; exact n3
    have m67 : ∀ k, 0 ≤ k → k < n → N 67 k = b k := fun k x y => by rw [e1 67 (by decide) (by decide)]; exact n67 k x y
    have stop : (m : Int) = t - p → K m N := by
      intro z
      have em : m = (t - p).toNat := by omega
      rw [z]
      refine hK (by omega) (by rw [← em]; exact aw) N e1 e2 e8 (fun i x y => es i x (by omega)) (by rw [e3]; omega)
    refine ⟨fun z => stop (by omega), fun z => ⟨by omega, by omega, ?_⟩⟩
    have lt : p + (m : Int) < n := by omega
    have so : ∀ x : Int, fX12_stepOf x = wof x := fun _ => rfl
    rw [e3, m67 (p + m) (by omega) lt, isl_r, so]
    refine ⟨fun y => stop ?_, fun y => ?_⟩
    · refine Classical.byContradiction (fun w => ?_)
      rw [if_pos (da m (by omega))] at y
      exact absurd y (by decide)
    · have hd : ltr (b (p + m)) = true := Classical.byContradiction (fun w => y (by rw [if_neg w]))
      have ml : (m : Int) < t - p := by
        refine Classical.byContradiction (fun w => ?_)
        have et : p + (m : Int) = t := by omega
        rw [et] at hd lt
        rw [de lt] at hd
        exact absurd hd (by decide)
      refine ⟨fun w M6 h6' => ?_, fun w => ⟨by omega, by omega, fun y2 M15 h15 => ?_, fun y2 => ⟨by omega, by omega, ?_⟩⟩⟩
      · rw [h6']
        exact hF (fun v => by have := v.1; omega) N e1 e2 e8
      · rw [h15]
        exact hF (fun v => by rw [allw_n (k := (t - p).toNat) (m := m) (by omega) y2] at v; exact absurd v.2 (by decide)) N e1 e2 e8
      · have ei : Hid (wr32 (V + (m : Int)) = V + m) := hid (wad (by omega) (by omega))
        have e4 : Hid (wr32 ((m : Int) + 1) = ((m + 1 : Nat) : Int)) := hid (by rw [wad (by omega) (by omega)]; omega)
        have e5 : Hid (wr32 (p + (m : Int) + 1) = p + ((m + 1 : Nat) : Int)) := hid (by rw [wad (by omega) (by omega)]; omega)
        rw [ei.out, e4.out]
        refine ⟨by omega, by omega, ?_⟩
        intro M11 h11 M13 h13
        have a11 : M11 66 2 = p + m := by rw [h11, mset_o (by decide)]; exact e3
        rw [a11, e5.out] at h13
        refine ih (m + 1) M13 (fun q x y => by rw [h13, mset_p x, h11, mset_p y]; exact e1 q x y) (fun j x => by rw [h13, mset_k x, h11, mset_o (by decide)]; exact e2 j x) (fun j x => by rw [h13, mset_o (by decide), h11, mset_k (by omega)]; exact e8 j x) (fun i x y => ?_) (by rw [h13, mset_e]) (by omega) (by omega) (by omega) ?_
        · rw [h13, mset_o (by decide), h11]
          by_cases v : i = (m : Int)
          · rw [v, mset_e]
          · rw [mset_k (by omega)]; exact es i x (by omega)
        · show (allw b p m && decide (wof (b (p + m)) ≠ -1)) = true
          rw [aw, decide_eq_true y2]; rfl
theorem T_r {V : Int} (V0 : 0 ≤ V) (V1 : V + 12 ≤ 162) (hT : rK b n p e M) (hF : ∀ f pl, pT b n p e = Sum.inl (f, pl) → ∀ M' : Mem, sF V M M' → rX f pl M' → Q 0 M') (hO : ∀ x, pT b n p e = Sum.inr x → ∀ M' : Mem, sF V M M' → (∀ i, 0 ≤ i → i < x.1 → M' 88 (V + i) = wof (b (p + i))) → rK b n x.2.1 x.2.2 M' → Q x.1 M') : PX12_stepsTold V M Q := by
  refine ⟨fun _ => look_r hT (fun M3 r k3 at3 => ?_), fun z => absurd hT.2.1 z⟩
  obtain ⟨ok, t1, t2, t3, t4, t5, t6, t7⟩ := id k3.1
  obtain ⟨h1, h2, h3, hp0, h5, h6⟩ := id ok
  have sr : sF V M M3 := ⟨fun q x _ => r.1 q x, r.2, fun j _ => by rw [r.1 88 (by decide)]⟩
  have bad : ¬ (knd b n p e = 1 ∧ tnd b n p - p ≤ 12 ∧ allw b p (tnd b n p - p).toNat = true) → ∀ N : Mem, sF V M N → N 66 5 = 0 → ∀ M8 : Mem, M8 = fmX12_fail N 1 p → Q 0 M8 := by
    intro z N sN kN M8 h8
    rw [h8]
    unfold fmX12_fail
    rw [if_pos kN]
    refine hF 1 p ?_ _ ⟨fun q x y => by rw [mset_p x, mset_p x]; exact sN.1 q x y, fun j a c d f g i => by rw [mset_k f, mset_k d]; exact sN.2.1 j a c d f g i, fun j x => by rw [mset_o (by decide), mset_o (by decide)]; exact sN.2.2 j x⟩ ⟨by rw [mset_k (by decide), mset_e], mset_e, by decide⟩
    unfold pT
    rw [if_neg z]
  rw [isl_r, at3]
  refine ⟨fun z => bad (fun k => ?_) M3 sr k3.2.1, fun z => ⟨fun y => bad (fun k => ?_) M3 sr k3.2.1, fun y => ⟨14, ?_⟩⟩⟩
  · have k1 := knd_1.mp k.1
    rw [if_neg (show ¬ n ≤ p by have := k1.1; omega), if_pos k1.2.1] at z
    exact absurd z (by decide)
  · have k1 := knd_1.mp k.1
    exact k1.2.2 (t6.mp y.symm).symm
  · have lt : ¬ n ≤ p := fun w => z (by rw [if_pos w, if_neg ltr_m1])
    rw [if_neg lt] at z
    have l' : ltr (b p) = true := Classical.byContradiction (fun w => z (by rw [if_neg w]))
    have k1 : knd b n p e = 1 := knd_1.mpr ⟨by omega, l', fun w => y (t6.mpr w.symm).symm⟩
    have tb := tnd_b ok
    have de := lt_end k1 ok
    refine st48 (M := M3) (t := tnd b n p) ok t1 k3.2.1 t2 V0 V1 de.2 tb.2.1 (lt_all k1 ok) de.1 (fun hl aw N e1 e2 e8 es e3 => ?_) (fun hl N e1 e2 e8 => ?_) 14 0 M3 (fun _ _ _ => rfl) (fun _ _ => rfl) (fun _ _ => rfl) (fun i x y => by omega) (by rw [at3]; omega) (by decide) (by have := de.2; omega) (by decide) rfl
    · intro M15 h15
      rw [e3] at h15
      have k15 : rK b n (nxp b n p) (nxe b n p) M15 := rK_nx2 k3 (Or.inl k1) (by rw [h15, mset_p (by decide)]; exact e1 67 (by decide) (by decide)) (by rw [h15, mset_k (by decide)]; exact e2 3 (by decide)) (by rw [h15, mset_k (by decide)]; exact e2 5 (by decide)) (by rw [h15, mset_k (by decide)]; exact e2 6 (by decide)) (by rw [h15, mset_k (by decide)]; exact e3) (by rw [h15, mset_e])
      refine hO (tnd b n p - p, nxp b n p, nxe b n p) ?_ M15 ⟨fun q x y => by rw [h15, mset_p x, e1 q x y]; exact r.1 q x, fun j a c d f g i => by rw [h15, mset_k c, e2 j a]; exact r.2 j a c d f g i, fun j x => by rw [h15, mset_o (by decide), e8 j x, r.1 88 (by decide)]⟩ (fun i x y => by rw [h15, mset_o (by decide)]; exact es i x y) k15
      unfold pT
      rw [if_pos ⟨k1, hl, aw⟩]
    · exact bad (fun v => hl v.2) N ⟨fun q x y => by rw [e1 q x y]; exact r.1 q x, fun j a c d f g i => by rw [e2 j a]; exact r.2 j a c d f g i, fun j x => by rw [e8 j x, r.1 88 (by decide)]⟩ (by rw [e2 5 (by decide)]; exact k3.2.1) _ rfl
/-- any number, and 60 at most -/
theorem pnm_60 (ok : bOK b n p) (w' w2 : Int) : (∀ f pl, pnm b n p e 0 9999 w' = Sum.inl (f, pl) → pnm b n p e 0 60 w2 = Sum.inl (f, pl)) ∧ (∀ v, pnm b n p e 0 9999 w' = Sum.inr v → 0 ≤ v ∧ v ≤ 9999 ∧ pnm b n p e 0 60 w2 = if v ≤ 60 then Sum.inr v else Sum.inl (2, w2)) := by
  unfold pnm
  by_cases k : knd b n p e = 2
  · rw [if_pos k, if_pos k]
    by_cases t : tnd b n p - p ≤ 4
    · rw [if_pos t, if_pos t]
      have tb := tnd_b ok
      have nb := nvl_b (b := b) (p := p) (k := (tnd b n p - p).toNat) (dg_all k ok) (by omega)
      obtain ⟨v, hv⟩ : ∃ v, v = nvl b p (tnd b n p - p).toNat := ⟨_, rfl⟩
      rw [← hv] at nb ⊢
      rw [if_pos ⟨nb.1, nb.2.1⟩]
      refine ⟨fun f pl h => (by cases h), fun u h => ?_⟩
      have e1 : v = u := by injection h
      rw [← e1]
      refine ⟨nb.1, nb.2.1, ?_⟩
      by_cases y : v ≤ 60
      · rw [if_pos y, if_pos ⟨nb.1, y⟩]
      · rw [if_neg y, if_neg (fun z => y z.2)]
    · rw [if_neg t, if_neg t]
      exact ⟨fun f pl h => h, fun u h => by cases h⟩
  · rw [if_neg k, if_neg k]
    exact ⟨fun f pl h => by
      injection h with h
      rw [h], fun u h => by cases h⟩
theorem sg1 {neg : Bool} {p0 : Int} (hT : rK b n p e M) (hF : ∀ f pl, pN b n p e 0 60 p0 = Sum.inl (f, pl) → ∀ (M' : Mem) (x : Int), rfr M M' → rX f pl M' → Q x M') (hO : ∀ x, pN b n p e 0 60 p0 = Sum.inr x → ∀ M' : Mem, rfr M M' → rK b n x.2.1 x.2.2 M' → Q (if neg = true then -x.1 else x.1) M') (s : Int) (hs : s = if neg = true then 1 else 0) :
    PX12_number 0 9999 M (fun a9 M10 => (((M10 66 5) = 0 → ((a9 ≤ 60 → Q (if s = 0 then a9 else (wr32 (-a9))) M10) ∧ (¬ (a9 ≤ 60) → (∀ M19 : Mem, M19 = (fmX12_fail M10 2 p0) → Q (if s = 0 then a9 else (wr32 (-a9))) M19)))) ∧ (¬ ((M10 66 5) = 0) → Q (if s = 0 then a9 else (wr32 (-a9))) M10))) := by
  have p6 := pnm_60 (e := e) hT.1.1 p p0
  refine num_r hT (fun f pl h M' x r c => ⟨fun z => absurd (c.1.symm.trans z) (pnm_f h), fun _ => hF f pl (pN_l.mpr (p6.1 f pl h)) M' _ r ⟨c.1, c.2, pnm_f h⟩⟩) (fun v h M' r k _ => ⟨fun _ => ⟨fun y => ?_, fun y M19 h19 => ?_⟩, fun z => absurd k.2.1 z⟩)
  · have v6 := p6.2 v h
    rw [if_pos y] at v6
    have o := hO _ (pN_r v6.2.2) M' r k
    have e1 : (if s = 0 then v else (wr32 (-v))) = if neg = true then -v else v := by
      rw [hs]
      by_cases z : neg = true
      · rw [if_pos z, if_pos z, if_neg (by decide), wr32_id (by unfold r32; omega)]
      · rw [if_neg z, if_neg z, if_pos rfl]
    rw [e1]
    exact o
  · have v6 := p6.2 v h
    rw [if_neg y] at v6
    have f := rfail k 2 p0
    rw [h19]
    exact hF 2 p0 (pN_l.mpr v6.2.2) _ _ (rfr_t r f.1) ⟨f.2.1, f.2.2, by decide⟩
theorem L_r (hT : rK b n p e M) (hF : ∀ f pl, pL b n p e = Sum.inl (f, pl) → ∀ (M' : Mem) (x : Int), rfr M M' → rX f pl M' → Q x M') (hO : ∀ x, pL b n p e = Sum.inr x → ∀ M' : Mem, rfr M M' → rK b n x.2.1 x.2.2 M' → Q (x.1 - 60) M') : PX12_signed 60 M Q := by
  refine ⟨fun _ => look_r hT (fun M3 r k3 at3 => ?_), fun z => absurd hT.2.1 z⟩
  have ig := isg_eq (b := b) (n := n) (p := p) (e := e) (c := 45) (by decide) (by decide) (by decide)
  have o := hT.1.1
  rw [at3]
  by_cases z : isg b n p e 45 = true
  · have eL : pL b n p e = bnd (pN b n (nxp b n p) (nxe b n p) 0 60 p) (fun v => Sum.inr (60 - v.1, v.2.1, v.2.2)) := by unfold pL; rw [if_pos z]
    rw [eL] at hF hO
    refine ⟨fun M7 => rfr M M7 ∧ rK b n (nxp b n p) (nxe b n p) M7, fun M7 j => ?_, fun y => ?_, fun _ M24 h24 => ?_⟩
    · refine sg1 (neg := true) (p0 := p) j.2 (fun f pl h M' x r' c => hF f pl (bnd_l h) M' x (rfr_t j.1 r') c) (fun x h M' r' k' => ?_) _ (by rw [if_pos (ig.mp z), if_pos rfl])
      have oo := hO _ (bnd_r h) M' (rfr_t j.1 r') k'
      rw [if_pos rfl]
      rw [show -x.1 = 60 - x.1 - 60 by omega]
      exact oo
    · rw [if_pos (ig.mp z)] at y
      exact absurd y (by decide)
    · have es : Hid (wr32 (p + 1) = p + 1) := hid (wad (by have := o.1; have := o.2.1; have := o.2.2.2.1; have := o.2.2.2.2.1; omega) (by have := o.1; have := o.2.1; have := o.2.2.2.1; have := o.2.2.2.2.1; omega))
      rw [es.out] at h24
      exact ⟨rfr_t r ⟨fun q x => by rw [h24, mset_p x], fun j a _ _ _ _ _ => by rw [h24, mset_k a]⟩, rK_sg k3 (isg_k z).1 (fun q x => by rw [h24, mset_p x]) (fun j a => by rw [h24, mset_k a]) (by rw [h24, mset_e])⟩
  · have eL : pL b n p e = bnd (pN b n p e 0 60 p) (fun v => Sum.inr (60 + v.1, v.2.1, v.2.2)) := by unfold pL; rw [if_neg z]
    rw [eL] at hF hO
    have nz : ¬ (if n ≤ p then -1 else b p) = 45 := fun y => z (ig.mpr y)
    refine ⟨fun M7 => M7 = M3, fun M7 j => ?_, fun _ => rfl, fun y => absurd (by rw [if_neg nz]) y⟩
    rw [j]
    refine sg1 (neg := false) (p0 := p) k3 (fun f pl h M' x r' c => hF f pl (bnd_l h) M' x (rfr_t r r') c) (fun x h M' r' k' => ?_) _ (by rw [if_neg nz, if_neg (by decide)])
    have oo := hO _ (bnd_r h) M' (rfr_t r r') k'
    rw [if_neg (by decide)]
    rw [show x.1 = 60 + x.1 - 60 by omega]
    exact oo
end
