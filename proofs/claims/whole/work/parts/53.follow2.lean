def valf (H : Hal) (C p : Int) (s : Nat) : Int := if doing H C p s = 4 then -1 else posn H C p s
def cellb (H : Hal) (C p : Int) (t : Nat) : Int := if oo H C p = -1 ∨ (t : Int) ≤ oo H C p then wlk H p (t - 1) else if (t : Int) ≤ oo H C p + H 0 6 then gng H C p 0 else if gout H C p = -1 ∨ (t : Int) ≤ gout H C p then gng H C p ((t : Int) - (oo H C p + H 0 6)).toNat else -1
def onc (d : Int) : Int := if d = 1 then 1 else if d = 2 then 0 else if d = 3 then 2 else 3
def fH (H : Hal) (C p : Int) (B : Mem) (t : Nat) (M : Mem) : Prop :=
  (∀ q, q ≠ 17 → q ≠ 18 → q ≠ 21 → q ≠ 22 → M q = B q) ∧
  (∀ j, j ≠ p → M 21 j = B 21 j ∧ M 22 j = B 22 j) ∧
  (M 21 p = (if gout H C p ≠ -1 ∧ gout H C p < t then gout H C p else -1) ∧ M 22 p = (if gout H C p ≠ -1 ∧ gout H C p < t then godr H C p else -1)) ∧
  (∀ s : Nat, s < t → M 17 (201 * p + s) = valf H C p s) ∧ (∀ i, (i < 201 * p ∨ 201 * p + 201 ≤ i) → M 17 i = B 17 i) ∧
  (∀ w, 0 ≤ w → w ≤ 3 → ∀ s : Nat, s < 201 → M 18 (201 * w + s) = B 18 (201 * w + s) + if s < t ∧ onc (doing H C p s) = w then 1 else 0)
theorem fH_next {H : Hal} {C p : Int} {B M X : Mem} {t : Nat} {c' on : Int} (p0 : 0 ≤ p) (p1 : p < 9) (ht : t < 201) (h : fH H C p B t M) (x1 : ∀ q, q ≠ 21 → q ≠ 22 → X q = M q) (x2 : ∀ j, j ≠ p → X 21 j = M 21 j ∧ X 22 j = M 22 j)
    (x3 : X 21 p = (if gout H C p ≠ -1 ∧ gout H C p < ((t + 1 : Nat) : Int) then gout H C p else -1) ∧ X 22 p = (if gout H C p ≠ -1 ∧ gout H C p < ((t + 1 : Nat) : Int) then godr H C p else -1)) (hc : c' = valf H C p t) (hon : on = onc (doing H C p t)) (on0 : 0 ≤ on) (on1 : on ≤ 3) :
    fH H C p B (t + 1) (mset (mset X 17 (201 * p + t) c') 18 (201 * on + t) (M 18 (201 * on + t) + 1)) := by
  obtain ⟨h1, h2, h3, h4, h5, h6⟩ := h
  refine ⟨fun q a b c d => by rw [mset_p b, mset_p a, x1 q c d, h1 q a b c d], fun j hj => ?_, ?_, fun s hs => ?_, fun i hi => ?_, fun w w0 w1 s hs => ?_⟩
  · rw [mset_o (by decide), mset_o (by decide), mset_o (by decide), mset_o (by decide), (x2 j hj).1, (x2 j hj).2]
    exact h2 j hj
  · rw [mset_o (by decide), mset_o (by decide), mset_o (by decide), mset_o (by decide)]
    exact x3
  · rw [mset_o (by decide)]
    by_cases e : s = t
    · rw [e, mset_e, hc]
    · rw [mset_k (by omega), x1 17 (by decide) (by decide)]
      exact h4 s (by omega)
  · rw [mset_o (by decide), mset_k (by omega), x1 17 (by decide) (by decide)]
    exact h5 i hi
  · have b6 := h6 w w0 w1 s hs
    by_cases e : w = on ∧ s = t
    · obtain ⟨e1, e2⟩ := e
      subst e2
      rw [e1] at b6 ⊢
      rw [if_neg (by omega)] at b6
      rw [mset_e, b6, if_pos ⟨by omega, hon.symm⟩]
      omega
    · rw [mset_k (by omega), mset_o (by decide), x1 18 (by decide) (by decide), b6]
      congr 1
      by_cases f : s < t
      · by_cases d : onc (doing H C p s) = w
        · rw [if_pos ⟨f, d⟩, if_pos ⟨by omega, d⟩]
        · rw [if_neg (fun z => d z.2), if_neg (fun z => d z.2)]
      · rw [if_neg (fun z => f z.1)]
        by_cases s2 : s = t
        · rw [if_neg]
          rintro ⟨_, z2⟩
          rw [s2] at z2
          exact e ⟨by rw [hon]; exact z2.symm, s2⟩
        · rw [if_neg (fun z => by omega)]
theorem on_1 : fX3_onesOf 1 = 1 ∧ fX3_onesOf 2 = 0 ∧ fX3_onesOf 3 = 2 ∧ fX3_onesOf 4 = 3 := by decide
theorem on_2 : onc 1 = 1 ∧ onc 2 = 0 ∧ onc 3 = 2 ∧ onc 4 = 3 := by decide
theorem fol_1 {g : Int} {H : Hal} {C p : Int} {B M : Mem} {t : Nat} (hg : isG g) (ho : Hok H) (hc : Ch g H B) (p0 : 0 ≤ p) (p1 : p < H 0 4) (C0 : 0 ≤ C) (C1 : C < 512) (hbt : bt C p = true) (b8 : B 16 8 = C) (b9 : B 16 9 = H 0 6) (b19 : B 19 p = oo H C p)
    (h23 : ∀ c, 0 ≤ c → c < 54 → B 23 c = if dst H c = 1000 then -1 else dst H c) (h10 : ∀ s : Nat, s < 201 → B 10 (201 * p + s) = wlk H p s) (h18 : ∀ i, 0 ≤ i → i < 804 → -500 ≤ B 18 i ∧ B 18 i ≤ 500) (ht : t < 201) (h : fH H C p B t M) :
    fstC M g p (cellb H C p t) t = cellb H C p (t + 1) ∧ fH H C p B (t + 1) (fstM M g p (cellb H C p t) t) := by
  have hb := ho.2.1
  have h' := h
  obtain ⟨h1, h2, h3, h4, h5, h6⟩ := h
  have ob := oo_b (H := H) (C := C) (p := p)
  have cM : Ch g H M := Ch_fr2 hg (fun q a b => h1 q (by omega) (by omega) (by omega) (by omega)) hc
  have m23 : ∀ c, 0 ≤ c → c < 54 → M 23 c = if dst H c = 1000 then -1 else dst H c := fun c a b => by rw [h1 23 (by decide) (by decide) (by decide) (by decide)]; exact h23 c a b
  have m18 : ∀ w, 0 ≤ w → w ≤ 3 → -1000 ≤ M 18 (201 * w + t) ∧ M 18 (201 * w + t) ≤ 1000 := fun w a b => by
    rw [h6 w a b t ht]
    have := h18 (201 * w + t) (by omega) (by omega)
    by_cases z : t < t ∧ onc (doing H C p t) = w
    · omega
    · rw [if_neg z]
      omega
  have wk : fX7_walkCell M p t = wlk H p t := wc_eq ho p0 p1 ht (by rw [h1 10 (by decide) (by decide) (by decide) (by decide)]; exact h10 t ht)
  have hbit : fX11_hasBit (M 16 8) p = 1 := by
    rw [h1 16 (by decide) (by decide) (by decide) (by decide), b8, hasBit_eq C0 (by omega) p0 (by omega), if_pos hbt]
  have e19 : fX11_get M 19 9 p = oo H C p := by
    rw [rd_get p0 (by omega), h1 19 (by decide) (by decide) (by decide) (by decide)]
    exact b19
  have e169 : M 16 9 = H 0 6 := by rw [h1 16 (by decide) (by decide) (by decide) (by decide)]; exact b9
  have e21 : fX11_get M 21 9 p = M 21 p := rd_get p0 (by omega)
  have dO : fX3_doingOf M p t = (if oo H C p = (-1) then 1 else (if oo H C p ≤ (t : Int) then (if oo H C p + H 0 6 ≤ (t : Int) then (if M 21 p = (-1) then (3 : Int) else (if M 21 p ≤ (t : Int) then (4 : Int) else 3)) else 2) else 1)) := by
    unfold fX3_doingOf
    rw [if_neg (show ¬ p < 0 by omega), hbit, if_neg (by decide), e19, e169, e21, wad (by omega) (by omega)]
  have dsp : doing H C p t = if oo H C p = -1 ∨ (t : Int) < oo H C p then 1 else if (t : Int) < oo H C p + H 0 6 then 2 else if gout H C p = -1 ∨ (t : Int) < gout H C p then 3 else 4 := by
    unfold doing
    rw [if_neg (by rw [hbt]; decide)]
  have psp : posn H C p t = if oo H C p = -1 ∨ (t : Int) < oo H C p then wlk H p t else if (t : Int) < oo H C p + H 0 6 then gng H C p 0 else gng H C p ((t : Int) - (oo H C p + H 0 6) + 1).toNat := by
    unfold posn
    rw [Int.toNat_natCast]
    rfl
  obtain ⟨O, hO⟩ : ∃ O, O = oo H C p := ⟨_, rfl⟩
  obtain ⟨Gq, hGq⟩ : ∃ G, G = gout H C p := ⟨_, rfl⟩
  have gs : O ≠ -1 → ((Gq = -1 ∧ ∀ t : Int, O + H 0 6 ≤ t → t ≤ 200 → odr H (gng H C p (t - (O + H 0 6)).toNat) = -1) ∨ (O + H 0 6 ≤ Gq ∧ Gq ≤ 200 ∧ odr H (gng H C p (Gq - (O + H 0 6)).toNat) ≠ -1 ∧ ∀ t : Int, O + H 0 6 ≤ t → t < Gq → odr H (gng H C p (t - (O + H 0 6)).toNat) = -1)) := by
    rw [hO, hGq]
    exact gout_s ho
  have g0 : O = -1 → Gq = -1 := fun z => by
    rw [hGq]
    unfold gout
    rw [if_pos (by rw [← hO]; exact z)]
  have cb : ∀ s : Nat, cellb H C p s = if O = -1 ∨ (s : Int) ≤ O then wlk H p (s - 1) else if (s : Int) ≤ O + H 0 6 then gng H C p 0 else if Gq = -1 ∨ (s : Int) ≤ Gq then gng H C p ((s : Int) - (O + H 0 6)).toNat else -1 := fun s => by rw [hO, hGq]; rfl
  have gd : godr H C p = if Gq = -1 then -1 else odr H (gng H C p (Gq - (O + H 0 6)).toNat) := by rw [hO, hGq]; rfl
  rw [← hO] at dO dsp psp ob
  rw [← hGq] at h3 dsp
  -- the same rows, a later second
  have keep : (¬ (Gq ≠ -1 ∧ Gq = (t : Int))) → M 21 p = (if gout H C p ≠ -1 ∧ gout H C p < ((t + 1 : Nat) : Int) then gout H C p else -1) ∧ M 22 p = (if gout H C p ≠ -1 ∧ gout H C p < ((t + 1 : Nat) : Int) then godr H C p else -1) := by
    intro z
    rw [← hGq, h3.1, h3.2]
    by_cases y : Gq ≠ -1 ∧ Gq < (t : Int)
    · rw [if_pos y, if_pos y, if_pos (by omega), if_pos (by omega)]
      exact ⟨rfl, rfl⟩
    · rw [if_neg y, if_neg y, if_neg (by omega), if_neg (by omega)]
      exact ⟨rfl, rfl⟩
  by_cases c1 : O = -1 ∨ (t : Int) < O
  · -- waits
    have d1 : fX3_doingOf M p t = 1 := by
      rw [dO]
      by_cases z : O = -1
      · rw [if_pos z]
      · rw [if_neg z, if_neg (by omega)]
    rw [if_pos c1] at dsp psp
    have r := fst_M (M := M) (X := M) (g := g) (c := cellb H C p t) (c' := wlk H p t) (d' := 1) (on := 1) p0 (by omega) ht d1 (by rw [if_pos rfl]) (by rw [if_pos rfl, wk]) (by rw [if_pos rfl]) on_1.1 (by omega) (by omega) rfl (m18 1 (by omega) (by omega))
    refine ⟨?_, ?_⟩
    · rw [r.1, cb, if_pos (by omega)]
      rfl
    · rw [r.2]
      refine fH_next p0 (by omega) ht h' (fun _ _ _ => rfl) (fun _ _ => ⟨rfl, rfl⟩) (keep (fun z => ?_)) ?_ (by rw [dsp, on_2.1]) (by omega) (by omega)
      · rcases c1 with y | y
        · exact z.1 (g0 y)
        · rcases gs (by omega) with u | u
          · exact z.1 u.1
          · omega
      · unfold valf
        rw [dsp, if_neg (by decide), psp]
  · rw [if_neg c1] at dsp psp
    have O1 : O ≠ -1 ∧ O ≤ (t : Int) := by omega
    rw [if_neg O1.1, if_pos O1.2] at dO
    by_cases c2 : (t : Int) < O + H 0 6
    · -- is open
      rw [if_neg (show ¬ O + H 0 6 ≤ (t : Int) by omega)] at dO
      rw [if_pos c2] at dsp psp
      have cbt : cellb H C p t = gng H C p 0 := by
        rw [cb]
        by_cases z : O = -1 ∨ (t : Int) ≤ O
        · rw [if_pos z]
          have : t - 1 = (oo H C p - 1).toNat := by rw [← hO]; omega
          rw [this]
          rfl
        · rw [if_neg z, if_pos (by omega)]
      have r := fst_M (M := M) (X := M) (g := g) (c := cellb H C p t) (c' := gng H C p 0) (d' := 2) (on := 0) p0 (by omega) ht dO (by rw [if_neg (by decide), if_neg (by decide)]) (by rw [if_neg (by decide), if_neg (by decide), cbt]) (by rw [if_neg (by decide), if_neg (by decide)]) on_1.2.1 (by omega) (by omega) rfl (m18 0 (by omega) (by omega))
      refine ⟨?_, ?_⟩
      · rw [r.1, cb, if_neg (by omega), if_pos (by omega)]
      · rw [r.2]
        refine fH_next p0 (by omega) ht h' (fun _ _ _ => rfl) (fun _ _ => ⟨rfl, rfl⟩) (keep (fun z => ?_)) ?_ (by rw [dsp, on_2.2.1]) (by omega) (by omega)
        · rcases gs O1.1 with u | u
          · exact z.1 u.1
          · omega
        · unfold valf
          rw [dsp, if_neg (by decide), psp]
    · rw [if_pos (show O + H 0 6 ≤ (t : Int) by omega)] at dO
      rw [if_neg c2] at dsp psp
      by_cases c3 : Gq ≠ -1 ∧ Gq < (t : Int)
      · -- is out
        rw [h3.1, if_pos c3, if_neg c3.1, if_pos (by omega)] at dO
        rw [if_neg (by omega)] at dsp
        have ge : O + H 0 6 ≤ Gq := by
          rcases gs O1.1 with u | u
          · exact absurd u.1 c3.1
          · exact u.1
        have cbt : cellb H C p t = -1 := by rw [cb, if_neg (by omega), if_neg (by omega), if_neg (by omega)]
        have r := fst_M (M := M) (X := M) (g := g) (c := cellb H C p t) (c' := -1) (d' := 4) (on := 3) p0 (by omega) ht dO (by rw [if_neg (by decide), if_neg (by decide)]) (by rw [if_neg (by decide), if_neg (by decide), cbt]) (by rw [if_neg (by decide), if_neg (by decide)]) on_1.2.2.2 (by omega) (by omega) rfl (m18 3 (by omega) (by omega))
        refine ⟨?_, ?_⟩
        · rw [r.1, cb, if_neg (by omega), if_neg (by omega), if_neg (by omega)]
        · rw [r.2]
          refine fH_next p0 (by omega) ht h' (fun _ _ _ => rfl) (fun _ _ => ⟨rfl, rfl⟩) (keep (fun z => by omega)) ?_ (by rw [dsp, on_2.2.2.2]) (by omega) (by omega)
          unfold valf
          rw [dsp, if_pos rfl]
      · -- goes
        rw [h3.1, if_neg c3, if_pos rfl] at dO
        have cbt : cellb H C p t = gng H C p ((t : Int) - (O + H 0 6)).toNat := by
          rw [cb, if_neg (by omega)]
          by_cases z : (t : Int) ≤ O + H 0 6
          · rw [if_pos z, show ((t : Int) - (O + H 0 6)).toNat = 0 by omega]
          · rw [if_neg z, if_pos (by omega)]
        have gf := gng_fre (C := C) ho p0 p1 ((t : Int) - (O + H 0 6)).toNat
        have od := odr_c ho cM (cellb H C p t)
        have ne := near_c ho cM m23 gf
        rw [← cbt] at ne gf
        by_cases c4 : odr H (cellb H C p t) = -1
        · have gt : Gq = -1 ∨ (t : Int) < Gq := by
            rcases gs O1.1 with u | u
            · exact Or.inl u.1
            · by_cases y : Gq = (t : Int)
              · exfalso
                apply u.2.2.1
                rw [y, ← cbt]
                exact c4
              · omega
          rw [if_pos gt] at dsp
          have r := fst_M (M := M) (X := M) (g := g) (c := cellb H C p t) (c' := nrr H (cellb H C p t)) (d' := 3) (on := 2) p0 (by omega) ht dO (by rw [if_neg (by decide), if_pos rfl, od, if_pos c4]) (by rw [if_neg (by decide), if_pos rfl, od, if_pos c4, ne]) (by rw [if_neg (by decide), if_pos rfl, od, if_pos c4]) on_1.2.2.1 (by omega) (by omega) rfl (m18 2 (by omega) (by omega))
          have en : nrr H (cellb H C p t) = gng H C p ((t : Int) - (O + H 0 6) + 1).toNat := by
            rw [cbt, show ((t : Int) - (O + H 0 6) + 1).toNat = ((t : Int) - (O + H 0 6)).toNat + 1 by omega]
            rfl
          refine ⟨?_, ?_⟩
          · rw [r.1, cb (t + 1), if_neg (by omega), if_neg (by omega), if_pos (by omega), en, show ((t : Int) - (O + H 0 6) + 1) = (((t + 1 : Nat) : Int) - (O + H 0 6)) by omega]
          · rw [r.2]
            refine fH_next p0 (by omega) ht h' (fun _ _ _ => rfl) (fun _ _ => ⟨rfl, rfl⟩) (keep (fun z => by omega)) ?_ (by rw [dsp, on_2.2.2.1]) (by omega) (by omega)
            unfold valf
            rw [dsp, if_neg (by decide), psp, en]
        · have gt : Gq = (t : Int) := by
            rcases gs O1.1 with u | u
            · exfalso
              apply c4
              rw [cbt]
              exact u.2 t (by omega) (by omega)
            · by_cases y : (t : Int) < Gq
              · exfalso
                apply c4
                rw [cbt]
                exact u.2.2.2 t (by omega) y
              · omega
          rw [if_neg (by omega)] at dsp
          have r := fst_M (M := M) (X := mset (mset M 21 p t) 22 p (odr H (cellb H C p t))) (g := g) (c := cellb H C p t) (c' := -1) (d' := 4) (on := 3) p0 (by omega) ht dO (by rw [if_neg (by decide), if_pos rfl, od, if_neg c4]) (by rw [if_neg (by decide), if_pos rfl, od, if_neg c4]) (by rw [if_neg (by decide), if_pos rfl, od, if_neg c4]) on_1.2.2.2 (by omega) (by omega) (by rw [mset_o (by decide), mset_o (by decide)]) (m18 3 (by omega) (by omega))
          refine ⟨?_, ?_⟩
          · rw [r.1, cb, if_neg (by omega), if_neg (by omega), if_neg (by omega)]
          · rw [r.2]
            refine fH_next p0 (by omega) ht h' (fun q a b => by rw [mset_p b, mset_p a]) (fun j hj => ?_) ?_ ?_ (by rw [dsp, on_2.2.2.2]) (by omega) (by omega)
            · rw [mset_o (by decide), mset_k hj, mset_k hj, mset_o (by decide)]
              exact ⟨rfl, rfl⟩
            · rw [mset_o (by decide), mset_e, mset_e, ← hGq, gd, if_pos (by omega), if_pos (by omega), if_neg (by omega), gt, ← cbt]
              exact ⟨rfl, rfl⟩
            · unfold valf
              rw [dsp, if_pos rfl]
theorem fol_lp {g : Int} {H : Hal} {C p : Int} {B : Mem} (hg : isG g) (ho : Hok H) (hc : Ch g H B) (p0 : 0 ≤ p) (p1 : p < H 0 4) (C0 : 0 ≤ C) (C1 : C < 512) (hbt : bt C p = true) (b8 : B 16 8 = C) (b9 : B 16 9 = H 0 6) (b19 : B 19 p = oo H C p)
    (h23 : ∀ c, 0 ≤ c → c < 54 → B 23 c = if dst H c = 1000 then -1 else dst H c) (h10 : ∀ s : Nat, s < 201 → B 10 (201 * p + s) = wlk H p s) (h18 : ∀ i, 0 ≤ i → i < 804 → -500 ≤ B 18 i ∧ B 18 i ≤ 500) : ∀ (k t : Nat) (M : Mem), t + k = 201 → fH H C p B t M → fH H C p B 201 (lmX3_follow_11 g k p (cellb H C p t) t M)
  | 0, t, M, ht, h => by
    have : t = 201 := by omega
    subst this
    exact h
  | k + 1, t, M, ht, h => by
    have f := fol_1 hg ho hc p0 p1 C0 C1 hbt b8 b9 b19 h23 h10 h18 (t := t) (by omega) h
    have e : lmX3_follow_11 g (k + 1) p (cellb H C p t) t M = lmX3_follow_11 g k p (fstC M g p (cellb H C p t) t) ((t : Int) + 1) (fstM M g p (cellb H C p t) t) := rfl
    have e3 : ((t : Int) + 1) = ((t + 1 : Nat) : Int) := by omega
    rw [e, f.1, e3]
    exact fol_lp hg ho hc p0 p1 C0 C1 hbt b8 b9 b19 h23 h10 h18 k (t + 1) _ (by omega) f.2
theorem fol {g : Int} {H : Hal} {C p : Int} {B : Mem} (hg : isG g) (ho : Hok H) (hc : Ch g H B) (p0 : 0 ≤ p) (p1 : p < H 0 4) (C0 : 0 ≤ C) (C1 : C < 512) (hbt : bt C p = true) (b8 : B 16 8 = C) (b9 : B 16 9 = H 0 6) (b19 : B 19 p = oo H C p) (b21 : B 21 p = -1) (b22 : B 22 p = -1)
    (h23 : ∀ c, 0 ≤ c → c < 54 → B 23 c = if dst H c = 1000 then -1 else dst H c) (h10 : ∀ s : Nat, s < 201 → B 10 (201 * p + s) = wlk H p s) (h18 : ∀ i, 0 ≤ i → i < 804 → -500 ≤ B 18 i ∧ B 18 i ≤ 500) : fH H C p B 201 (fmX3_follow B g p) := by
  have f0 : fH H C p B 0 B := by
    have ob := oo_b (H := H) (C := C) (p := p)
    have gn : ¬ (gout H C p ≠ -1 ∧ gout H C p < ((0 : Nat) : Int)) := by
      rintro ⟨z1, z2⟩
      by_cases y : oo H C p = -1
      · unfold gout at z1
        rw [if_pos y] at z1
        exact z1 rfl
      · have hb := ho.2.1
        rcases gout_s ho y with u | u
        · exact z1 u.1
        · omega
    refine ⟨fun _ _ _ _ _ => rfl, fun _ _ => ⟨rfl, rfl⟩, ⟨by rw [if_neg gn, b21], by rw [if_neg gn, b22]⟩, fun s hs => by omega, fun _ _ => rfl, fun w w0 w1 s hs => ?_⟩
    rw [if_neg (by omega), Int.add_zero]
  have e0 : fX7_walkCell B p 0 = cellb H C p 0 := by
    have ob := oo_b (H := H) (C := C) (p := p)
    have := wc_eq (M := B) (t := 0) ho p0 p1 (by omega) (h10 0 (by omega))
    have e : fX7_walkCell B p 0 = wlk H p 0 := this
    rw [e]
    unfold cellb
    rw [if_pos (by omega)]
  have l := fol_lp hg ho hc p0 p1 C0 C1 hbt b8 b9 b19 h23 h10 h18 201 0 B (by omega) f0
  unfold fmX3_follow
  rw [e0]
  exact l
