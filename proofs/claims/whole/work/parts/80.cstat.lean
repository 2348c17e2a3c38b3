/-! the text of a hall: the class's statements, whole -/
theorem bnd_2 {A B D : Type} {x : Sum (Int × Int) A} {f : A → Sum (Int × Int) B} {k : A → B → Sum (Int × Int) D} {e : Int × Int} (h : bnd x f = Sum.inl e) : bnd x (fun t => bnd (f t) (k t)) = Sum.inl e := by
  cases x with
  | inl y =>
    have h2 : (Sum.inl y : Sum (Int × Int) B) = Sum.inl e := h
    injection h2 with h2
    rw [h2]
    rfl
  | inr a =>
    have h' : f a = Sum.inl e := h
    show bnd (f a) (k a) = _
    rw [h']
    rfl
section
variable {b : Int → Int} {n p e g w : Int} {H : Hal} {M M' : Mem} {Q : Int → Mem → Prop}
theorem wal_c (hg : isG g) (hd : DOK H w) (hw : w < 15) (hT : cK b n p e M) (hD : Dc g H w M) (hF : ∀ f pl, pB b n p e H w 1 = Sum.inl (f, pl) → ∀ M' : Mem, tfr g M M' → cFl f pl M' → Q 0 M') (hO : ∀ x, pB b n p e H w 1 = Sum.inr x → ∀ M' : Mem, tfr g M M' → cK b n x.2.1 x.2.2 M' → Dc g x.1.1 x.1.2 M' → Q 1 M') : PX2_takeWall g M Q := by
  have hh : 31 < g := by rcases hg with rfl | rfl <;> decide
  have eB : pB b n p e H w 1 = bnd (pC b n p e H 1) (fun c => Sum.inr ((uW H c.1, w + 1), c.2.1, c.2.2)) := by unfold pB; rw [if_pos rfl]
  rw [eB] at hF hO
  have cl := hcells hd.1
  refine cel_c hg hd hT hD (fun f pl h M2 r x => ⟨fun _ => hF f pl (bnd_l h) M2 (tfr_c r) x, fun z => absurd rfl z⟩) (fun x h M2 r k2 => ?_)
  have pb := pC_b hd h
  have D2 := Dc_fr hg r hD
  refine ⟨fun z => by have := pb.1; omega, fun _ M6 h6 M8 h8 => ?_⟩
  rw [rd_put pb.1.1 (by have := pb.1; omega)] at h6
  have e11 : M6 g 11 = w := by rw [h6, mset_o (by omega)]; exact D2.2.1
  rw [e11, wad (by have := hd.2.2.1; omega) (by omega), h6] at h8
  have D8 := Dc_W hg hd D2 hw pb.1 h8
  exact hO _ (bnd_r h) M8 (fun q x1 x2 => by rw [h8, mset_p (by omega), mset_p (by omega)]; exact r q x1) (cK_d k2 (fun q x1 => by rw [h8, mset_p (by omega), mset_p (by omega)])) D8
theorem dor_c (hg : isG g) (hd : DOK H w) (hw : H 0 2 < 6) (hT : cK b n p e M) (hD : Dc g H w M) (hF : ∀ f pl, pB b n p e H w 2 = Sum.inl (f, pl) → ∀ M' : Mem, tfr g M M' → cFl f pl M' → Q 0 M') (hO : ∀ x, pB b n p e H w 2 = Sum.inr x → ∀ M' : Mem, tfr g M M' → cK b n x.2.1 x.2.2 M' → Dc g x.1.1 x.1.2 M' → Q 1 M') : PX2_takeDoor g M Q := by
  have hh : 31 < g := by rcases hg with rfl | rfl <;> decide
  have eB : pB b n p e H w 2 = bnd (pC b n p e H 2) (fun c => Sum.inr ((uD H c.1, w), c.2.1, c.2.2)) := by unfold pB; rw [if_neg (by decide), if_pos rfl]
  rw [eB] at hF hO
  have hb := hd.1.2.1
  refine cel_c hg hd hT hD (fun f pl h M2 r x => ⟨fun _ => hF f pl (bnd_l h) M2 (tfr_c r) x, fun z => absurd rfl z⟩) (fun x h M2 r k2 => ?_)
  have pb := pC_b hd h
  have D2 := Dc_fr hg r hD
  refine ⟨fun z => by have := pb.1; omega, fun _ M6 h6 M8 h8 M10 h10 => ?_⟩
  have e12 : M2 g 12 = H 0 2 := D2.1.1.2.2.1
  rw [e12, rd_put (by omega) (by omega)] at h6
  have f12 : M6 g 12 = H 0 2 := by rw [h6, mset_o (by omega)]; exact e12
  rw [f12, rd_put (by omega) (by omega)] at h8
  have g12 : M8 g 12 = H 0 2 := by rw [h8, mset_o (by omega)]; exact f12
  rw [g12, wad (by omega) (by omega), h8, h6] at h10
  have D10 := Dc_D hg hd D2 hw h10
  exact hO _ (bnd_r h) M10 (fun q x1 x2 => by rw [h10, mset_p (by omega), mset_p (by omega), mset_p (by omega)]; exact r q x1) (cK_d k2 (fun q x1 => by rw [h10, mset_p (by omega), mset_p (by omega), mset_p (by omega)])) D10
theorem rul_1 {k v : Int} {M2 : Mem} (hg : isG g) (hk : k = 5 ∨ k = 6 ∨ k = 7 ∨ k = 8) (hv : 1 ≤ v) (hD : Dc g H w M2) {p' e' : Int} (r : cfr M M2) (k2 : cK b n p' e' M2) (hO : ∀ M' : Mem, tfr g M M' → cK b n p' e' M' → Dc g (uR H k v) w M' → Q 1 M') : ∀ M6 : Mem, M6 = mset M2 g (k + 9) v → (((if (M6 g (k + 9)) = (-1) then (0 : Int) else 1) : Int) = 0 ∨ ((if (M6 g (k + 9)) = (-1) then (0 : Int) else 1) : Int) = 1) ∧ Q (if (M6 g (k + 9)) = (-1) then (0 : Int) else 1) M6 := by
  have hh : 31 < g := by rcases hg with rfl | rfl <;> decide
  intro M6 h6
  have e : M6 g (k + 9) = v := by rw [h6, mset_e]
  rw [e, if_neg (by omega)]
  exact ⟨Or.inr rfl, hO M6 (fun q x1 x2 => by rw [h6, mset_p (by omega)]; exact r q x1) (cK_d k2 (fun q x1 => by rw [h6, mset_p (by omega)])) (Dc_R hg hD (by omega) h6)⟩
theorem rul_0 {k : Int} {M2 : Mem} (hg : isG g) (r : cfr M M2) (hQ : ∀ M' : Mem, tfr g M M' → M' 3 = M2 3 → Q 0 M') : ∀ M6 : Mem, M6 = mset M2 g (k + 9) (-1) → (((if (M6 g (k + 9)) = (-1) then (0 : Int) else 1) : Int) = 0 ∨ ((if (M6 g (k + 9)) = (-1) then (0 : Int) else 1) : Int) = 1) ∧ Q (if (M6 g (k + 9)) = (-1) then (0 : Int) else 1) M6 := by
  have hh : 31 < g := by rcases hg with rfl | rfl <;> decide
  intro M6 h6
  have e : M6 g (k + 9) = -1 := by rw [h6, mset_e]
  rw [e, if_pos rfl]
  exact ⟨Or.inl rfl, hQ M6 (fun q x1 x2 => by rw [h6, mset_p (by omega)]; exact r q x1) (by rw [h6, mset_p (by omega)])⟩
theorem cFl_3 {f pl : Int} (h : cFl f pl M) (e : M' 3 = M 3) : cFl f pl M' := by
  unfold cFl at h ⊢
  rw [e]
  exact h
theorem rul_c {k : Int} (hk : k = 5 ∨ k = 6 ∨ k = 7 ∨ k = 8) (hg : isG g) (hT : cK b n p e M) (hD : Dc g H w M) (hF : ∀ f pl, pB b n p e H w k = Sum.inl (f, pl) → ∀ M' : Mem, tfr g M M' → cFl f pl M' → Q 0 M') (hO : ∀ x, pB b n p e H w k = Sum.inr x → ∀ M' : Mem, tfr g M M' → cK b n x.2.1 x.2.2 M' → Dc g x.1.1 x.1.2 M' → Q 1 M') : PX2_takeRule g k M Q := by
  have hh : 31 < g := by rcases hg with rfl | rfl <;> decide
  have eB : pB b n p e H w k = bnd (pN b n p e 1 (rmx k) p) (fun v => Sum.inr ((uR H k v.1, w), v.2.1, v.2.2)) := by
    unfold pB
    rw [if_neg (by omega), if_neg (by omega), if_neg (by omega), if_neg (by omega)]
  rw [eB] at hF hO
  have e3 : M 3 2 = p := hT.1.2.2.2.2.1
  have go : ∀ m : Int, m = rmx k → PX9_takeNumber 1 m p M (fun a2 M3 => (∀ M6 : Mem, M6 = (mset M3 g (k + 9) a2) → (((if (M6 g (k + 9)) = (-1) then (0 : Int) else 1) : Int) = 0 ∨ ((if (M6 g (k + 9)) = (-1) then (0 : Int) else 1) : Int) = 1) ∧ Q (if (M6 g (k + 9)) = (-1) then (0 : Int) else 1) M6)) := by
    intro m hm
    rw [hm]
    refine N_c hT (fun f pl h M2 r x => rul_0 hg r (fun M' t e => hF f pl (bnd_l h) M' t (cFl_3 x e))) (fun x h M2 r k2 => rul_1 hg hk (pN_v h).1 (Dc_fr hg r hD) r k2 (fun M' t k' D' => hO _ (bnd_r h) M' t k' D'))
  unfold PX2_takeRule
  rw [e3]
  rcases hk with rfl | rfl | rfl | rfl
  · exact ⟨fun _ => go 99 rfl, fun z => absurd rfl z⟩
  · exact ⟨fun z => absurd z (by decide), fun _ => ⟨fun _ => go 30 rfl, fun z => absurd rfl z⟩⟩
  · exact ⟨fun z => absurd z (by decide), fun _ => ⟨fun z => absurd z (by decide), fun _ => ⟨fun _ => go 5 rfl, fun z => absurd rfl z⟩⟩⟩
  · exact ⟨fun z => absurd z (by decide), fun _ => ⟨fun z => absurd z (by decide), fun _ => ⟨fun z => absurd z (by decide), fun _ => go 9 rfl⟩⟩⟩
theorem grd_c (hg : isG g) (hd : DOK H w) (hw : H 0 3 < 4) (hT : cK b n p e M) (hD : Dc g H w M) (hF : ∀ f pl, pB b n p e H w 4 = Sum.inl (f, pl) → ∀ M' : Mem, tfr g M M' → cFl f pl M' → Q 0 M') (hO : ∀ x, pB b n p e H w 4 = Sum.inr x → ∀ M' : Mem, tfr g M M' → cK b n x.2.1 x.2.2 M' → Dc g x.1.1 x.1.2 M' → Q 1 M') : PX2_takeGuard g M Q := by
  have hh : 31 < g := by rcases hg with rfl | rfl <;> decide
  have eB : pB b n p e H w 4 = bnd (pG b n p e H) (fun c => Sum.inr ((c.1, w), c.2.1, c.2.2)) := by unfold pB; rw [if_neg (by decide), if_neg (by decide), if_neg (by decide), if_pos rfl]
  rw [eB] at hF hO
  have hb := hd.1.2.1
  have F : ∀ f pl, pG b n p e H = Sum.inl (f, pl) → ∀ M' : Mem, cfr M M' → cFl f pl M' → Q 0 M' := fun f pl h M' r x => hF f pl (bnd_l h) M' (tfr_c r) x
  refine nam_c hg hd hT hD (fun f pl h M2 r x => ⟨fun _ => F f pl (by unfold pG; exact bnd_l h) M2 r x, fun z => absurd rfl z⟩) (fun a h1 M2 r2 k2 => ?_)
  have av := pM_v hT.1.1 h1
  refine ⟨fun z => by have := av.2.1; omega, fun _ => ?_⟩
  refine W_c (i := 72) (by decide) rfl k2 (fun f pl h M6 r x => ⟨fun _ => F f pl (by unfold pG; rw [bnd_r h1]; exact bnd_l h) M6 (cfr_t r2 r) x, fun z => absurd rfl z⟩) (fun t1 h2 M6 r6 k6 => ⟨fun z => absurd z (by decide), fun _ => ?_⟩)
  have D6 := Dc_fr hg (cfr_t r2 r6) hD
  refine cel_c hg hd k6 D6 (fun f pl h M10 r x => ⟨fun _ => F f pl (by unfold pG; rw [bnd_r h1, bnd_r h2]; exact bnd_l h) M10 (cfr_t (cfr_t r2 r6) r) x, fun z => absurd rfl z⟩) (fun c h3 M10 r10 k10 => ?_)
  have cv := pC_b hd h3
  refine ⟨fun z => by have := cv.1; omega, fun _ => ?_⟩
  refine nb_c (i := 79) (by decide) rfl k10 (fun f pl h M14 r x => ⟨fun _ => F f pl (by unfold pG; rw [bnd_r h1, bnd_r h2, bnd_r h3]; exact bnd_2 h) M14 (cfr_t (cfr_t (cfr_t r2 r6) r10) r) x, fun z => absurd rfl z⟩) (fun t2 h4 s h5 M14 r14 k14 => ?_)
  have sv := pN_v h5
  refine ⟨fun z => by omega, fun _ => ?_⟩
  refine nb_c (i := 80) (by decide) rfl k14 (fun f pl h M18 r x => ⟨fun _ => F f pl (by unfold pG; rw [bnd_r h1, bnd_r h2, bnd_r h3, bnd_r h4, bnd_r h5]; exact bnd_2 h) M18 (cfr_t (cfr_t (cfr_t (cfr_t r2 r6) r10) r14) r) x, fun z => absurd rfl z⟩) (fun t3 h6 l h7 M18 r18 k18 => ?_)
  have lv := pN_v h7
  refine ⟨fun z => by omega, fun _ => ?_⟩
  have r := cfr_t (cfr_t (cfr_t (cfr_t r2 r6) r10) r14) r18
  have D := Dc_fr hg r hD
  intro M22 g22 M24 g24 M26 g26 M28 g28 M30 g30
  have e13 : M18 g 13 = H 0 3 := D.1.1.2.2.2.1
  rw [e13, rd_put (by omega) (by omega)] at g22
  have f13 : M22 g 13 = H 0 3 := by rw [g22, mset_o (by omega)]; exact e13
  rw [f13, rd_put (by omega) (by omega)] at g24
  have f24 : M24 g 13 = H 0 3 := by rw [g24, mset_o (by omega)]; exact f13
  rw [f24, rd_put (by omega) (by omega)] at g26
  have f26 : M26 g 13 = H 0 3 := by rw [g26, mset_o (by omega)]; exact f24
  rw [f26, rd_put (by omega) (by omega)] at g28
  have f28 : M28 g 13 = H 0 3 := by rw [g28, mset_o (by omega)]; exact f26
  rw [f28, wad (by omega) (by omega), g28, g26, g24, g22] at g30
  have D30 := Dc_G (a' := a.2.1) hg hd D hw g30
  have eG : pG b n p e H = Sum.inr (uG H a.1 a.2.1 c.1 s.1 l.1, l.2.1, l.2.2) := by
    unfold pG
    rw [bnd_r h1, bnd_r h2, bnd_r h3, bnd_r h4, bnd_r h5, bnd_r h6, bnd_r h7]
  exact hO _ (bnd_r eG) M30 (fun q x1 x2 => by rw [g30, mset_p (by omega), mset_p (by omega), mset_p (by omega), mset_p (by omega), mset_p (by omega)]; exact r q x1) (cK_d k18 (fun q x1 => by rw [g30, mset_p (by omega), mset_p (by omega), mset_p (by omega), mset_p (by omega), mset_p (by omega)])) D30
end
