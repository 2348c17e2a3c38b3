/-! one who goes -/
theorem oo_b {H : Hal} {C p : Int} : oo H C p = -1 ∨ (1 ≤ oo H C p ∧ oo H C p ≤ 200) := by
  unfold oo
  by_cases a : alrm H C = -1
  · rw [if_pos a]
    have := opn_b H C p 200
    omega
  · rw [if_neg a]
    exact Or.inl rfl
theorem oo_out {H : Hal} {C p : Int} (h : ¬ (0 ≤ p ∧ p < H 0 4 ∧ bt C p = true)) : oo H C p = -1 := by
  unfold oo
  by_cases a : alrm H C = -1
  · rw [if_pos a, opn_out h]
  · rw [if_neg a]
theorem nrr_fre {H : Hal} {c : Int} (h : fre H c) : fre H (nrr H c) := by
  unfold nrr
  by_cases a : dst H (stp H c 0) < dst H c
  · rw [if_pos a]; exact stp_fre h _
  rw [if_neg a]
  by_cases b : dst H (stp H c 1) < dst H c
  · rw [if_pos b]; exact stp_fre h _
  rw [if_neg b]
  by_cases d : dst H (stp H c 2) < dst H c
  · rw [if_pos d]; exact stp_fre h _
  rw [if_neg d]
  by_cases e : dst H (stp H c 3) < dst H c
  · rw [if_pos e]; exact stp_fre h _
  rw [if_neg e]
  exact h
theorem gng_fre {H : Hal} (ho : Hok H) {C p : Int} (p0 : 0 ≤ p) (p1 : p < H 0 4) : ∀ j : Nat, fre H (gng H C p j)
  | 0 => wlk_fre ho p0 p1 _
  | j + 1 => nrr_fre (gng_fre ho p0 p1 j)
theorem gout_s {H : Hal} (ho : Hok H) {C p : Int} (ho1 : oo H C p ≠ -1) : (gout H C p = -1 ∧ ∀ t : Int, oo H C p + H 0 6 ≤ t → t ≤ 200 → odr H (gng H C p (t - (oo H C p + H 0 6)).toNat) = -1) ∨ (oo H C p + H 0 6 ≤ gout H C p ∧ gout H C p ≤ 200 ∧ odr H (gng H C p (gout H C p - (oo H C p + H 0 6)).toNat) ≠ -1 ∧ ∀ t : Int, oo H C p + H 0 6 ≤ t → t < gout H C p → odr H (gng H C p (t - (oo H C p + H 0 6)).toNat) = -1) := by
  have hb := ho.2.1
  have ob := oo_b (H := H) (C := C) (p := p)
  unfold gout
  rw [if_neg ho1]
  rcases fst1_s (f := fun j => decide (odr H (gng H C p j.toNat) ≠ -1)) (201 - (oo H C p + H 0 6)).toNat 0 (by omega) with ⟨h1, h2⟩ | ⟨h1, h2, h3, h4⟩
  · refine Or.inl ⟨by rw [h1]; rfl, fun t a b => ?_⟩
    have := h2 (t - (oo H C p + H 0 6)) (by omega) (by omega)
    exact Decidable.byContradiction (fun z => (of_decide_eq_false this) z)
  · obtain ⟨j, hj⟩ : ∃ j, j = fst1 (fun j => decide (odr H (gng H C p j.toNat) ≠ -1)) 0 (201 - (oo H C p + H 0 6)).toNat := ⟨_, rfl⟩
    rw [← hj] at h1 h2 h3 h4 ⊢
    refine Or.inr ?_
    show oo H C p + H 0 6 ≤ (if j = -1 then -1 else oo H C p + H 0 6 + j) ∧ (if j = -1 then -1 else oo H C p + H 0 6 + j) ≤ 200 ∧ odr H (gng H C p ((if j = -1 then -1 else oo H C p + H 0 6 + j) - (oo H C p + H 0 6)).toNat) ≠ -1 ∧ ∀ t : Int, oo H C p + H 0 6 ≤ t → t < (if j = -1 then -1 else oo H C p + H 0 6 + j) → odr H (gng H C p (t - (oo H C p + H 0 6)).toNat) = -1
    rw [if_neg (show ¬ j = -1 by omega)]
    refine ⟨by omega, by omega, ?_, fun t a b => ?_⟩
    · rw [show oo H C p + H 0 6 + j - (oo H C p + H 0 6) = j by omega]
      exact of_decide_eq_true h3
    · have := h4 (t - (oo H C p + H 0 6)) (by omega) (by omega)
      exact Decidable.byContradiction (fun z => (of_decide_eq_false this) z)
section
variable {g : Int} {H : Hal} {M : Mem}
theorem near_1 (ho : Hok H) (hc : Ch g H M) (h23 : ∀ c, 0 ≤ c → c < 54 → M 23 c = if dst H c = 1000 then -1 else dst H c) {c : Int} (hf : fre H c) {w : Int} (w0 : 0 ≤ w) (w1 : w ≤ 3) (X : Int) : (if (fX1_stepFrom M g c w) = (-1) then X else (if (fX11_get M 23 54 c) = (-1) then X else (if (fX11_get M 23 54 c) ≤ (fX11_get M 23 54 (fX1_stepFrom M g c w)) then X else (fX1_stepFrom M g c w)))) = if dst H (stp H c w) < dst H c then stp H c w else X := by
  have fb := fre_b ho hf
  have sf := stp_fre hf w
  have sfb := fre_b ho sf
  have e23 : fX11_get M 23 54 c = if dst H c = 1000 then -1 else dst H c := by rw [rd_get (by omega) (by omega)]; exact h23 c (by omega) (by omega)
  rw [e23, stp_c ho hc hf w]
  have est : stp H c w = if okc H (c % H 0 0 + dx w) (c / H 0 0 + dy w) then H 0 0 * (c / H 0 0 + dy w) + (c % H 0 0 + dx w) else c := rfl
  by_cases ok : okc H (c % H 0 0 + dx w) (c / H 0 0 + dy w)
  · rw [if_pos ok] at est ⊢
    rw [← est, if_neg (show ¬ stp H c w = -1 by omega), rd_get (M := M) (i := stp H c w) (by omega) (by omega), h23 _ (by omega) (by omega)]
    by_cases u : dst H c = 1000
    · have := dst_un ho hf u w0 w1
      rw [if_pos u, if_pos rfl, if_neg (show ¬ dst H (stp H c w) < dst H c by omega)]
    · have r := dst_cl ho u w0 w1
      have b := dst_b ho u
      rw [if_neg u, if_neg (show ¬ dst H c = -1 by omega), if_neg r]
      by_cases l : dst H (stp H c w) < dst H c
      · rw [if_neg (show ¬ dst H c ≤ dst H (stp H c w) by omega), if_pos l]
      · rw [if_pos (show dst H c ≤ dst H (stp H c w) by omega), if_neg l]
  · rw [if_neg ok] at est ⊢
    rw [if_pos rfl, est, if_neg (Int.lt_irrefl _)]
theorem near_c (ho : Hok H) (hc : Ch g H M) (h23 : ∀ c, 0 ≤ c → c < 54 → M 23 c = if dst H c = 1000 then -1 else dst H c) {c : Int} (hf : fre H c) : fX3_nearer M g c = nrr H c := by
  have l3 : lX3_nearer_12 g 1 c (fX11_get M 23 54 c) 3 M = if dst H (stp H c 3) < dst H c then stp H c 3 else c := near_1 ho hc h23 hf (w := 3) (by omega) (by omega) c
  have l2 : lX3_nearer_12 g 2 c (fX11_get M 23 54 c) 2 M = if dst H (stp H c 2) < dst H c then stp H c 2 else lX3_nearer_12 g 1 c (fX11_get M 23 54 c) 3 M := near_1 ho hc h23 hf (w := 2) (by omega) (by omega) _
  have l1 : lX3_nearer_12 g 3 c (fX11_get M 23 54 c) 1 M = if dst H (stp H c 1) < dst H c then stp H c 1 else lX3_nearer_12 g 2 c (fX11_get M 23 54 c) 2 M := near_1 ho hc h23 hf (w := 1) (by omega) (by omega) _
  have l0 : lX3_nearer_12 g 4 c (fX11_get M 23 54 c) 0 M = if dst H (stp H c 0) < dst H c then stp H c 0 else lX3_nearer_12 g 3 c (fX11_get M 23 54 c) 1 M := near_1 ho hc h23 hf (w := 0) (by omega) (by omega) _
  unfold fX3_nearer nrr
  rw [l0, l1, l2, l3]
theorem door_lp (ho : Hok H) (hc : Ch g H M) (c : Int) : ∀ (k n : Nat), (n : Int) + k = H 0 2 → (lX1_doorIn_2 g k c n M = -1 ∧ ∀ j : Int, n ≤ j → j < H 0 2 → H 2 j ≠ c) ∨ ((n : Int) ≤ lX1_doorIn_2 g k c n M ∧ lX1_doorIn_2 g k c n M < H 0 2 ∧ H 2 (lX1_doorIn_2 g k c n M) = c)
  | 0, n, h => Or.inl ⟨rfl, fun j a b => by omega⟩
  | k + 1, n, h => by
    have hb := ho.2.1
    have e : lX1_doorIn_2 g (k + 1) c n M = if (fX11_get M (g + 10) 6 n) = c then (n : Int) else lX1_doorIn_2 g k c ((n : Int) + 1) M := rfl
    have e3 : ((n : Int) + 1) = ((n + 1 : Nat) : Int) := by omega
    have c3 := (hc.2.2.1 n (by omega) (by omega)).1
    rw [e, rd_get (by omega) (by omega), c3, e3]
    by_cases a : H 2 n = c
    · rw [if_pos a]
      exact Or.inr ⟨by omega, by omega, a⟩
    · rw [if_neg a]
      rcases door_lp ho hc c k (n + 1) (by omega) with ⟨h1, h2⟩ | ⟨h1, h2, h3⟩
      · refine Or.inl ⟨h1, fun j x y => ?_⟩
        by_cases z : j = n
        · rw [z]; exact a
        · exact h2 j (by omega) y
      · exact Or.inr ⟨by omega, h2, h3⟩
theorem odr_c (ho : Hok H) (hc : Ch g H M) (c : Int) : fX1_openDoorIn M g c = odr H c := by
  have hb := ho.2.1
  have d := door_lp ho hc c (H 0 2).toNat 0 (by omega)
  have e : fX1_doorIn M g c = lX1_doorIn_2 g (H 0 2).toNat c ((0 : Nat) : Int) M := by
    unfold fX1_doorIn
    rw [hc.1.2.2.1, Int.sub_zero]
    rfl
  rw [← e] at d
  unfold fX1_openDoorIn odr
  rcases d with ⟨h1, h2⟩ | ⟨h1, h2, h3⟩
  · rw [if_pos h1]
    rcases fst1_s (f := fun k => decide (H 2 k = c ∧ H 3 k = 0)) (H 0 2).toNat 0 (by omega) with ⟨z, _⟩ | ⟨z1, z2, z3, _⟩
    · exact z.symm
    · exact absurd (of_decide_eq_true z3).1 (h2 (fst1 (fun k => decide (H 2 k = c ∧ H 3 k = 0)) 0 (H 0 2).toNat) (by omega) (by omega))
  · have c3 := (hc.2.2.1 _ (by omega) h2).2
    rw [if_neg (by omega), rd_get (by omega) (by omega), c3]
    rcases fst1_s (f := fun k => decide (H 2 k = c ∧ H 3 k = 0)) (H 0 2).toNat 0 (by omega) with ⟨z1, z2⟩ | ⟨z1, z2, z3, _⟩
    · rw [z1]
      have := of_decide_eq_false (z2 (fX1_doorIn M g c) (by omega) (by omega))
      rw [if_neg (fun x => this ⟨h3, x⟩)]
    · have z4 := of_decide_eq_true z3
      have := ho.2.2.2.2.1 _ _ (show 0 ≤ fX1_doorIn M g c by omega) h2 (show 0 ≤ fst1 (fun k => decide (H 2 k = c ∧ H 3 k = 0)) 0 (H 0 2).toNat by omega) (by omega) (h3.trans z4.1.symm)
      rw [this, if_pos z4.2]
end
/-- one second of one who comes -/
def fstC (M : Mem) (g v3 v4 v5 : Int) : Int := (if (fX3_doingOf M v3 v5) = 1 then (fX7_walkCell M v3 v5) else (if (fX3_doingOf M v3 v5) = 3 then (if (fX1_openDoorIn M g v4) = (-1) then (fX3_nearer M g v4) else (-1)) else v4))
def fstM (M : Mem) (g v3 v4 v5 : Int) : Mem := (fmX11_put (fmX11_put (if (fX3_doingOf M v3 v5) = 1 then M else (if (fX3_doingOf M v3 v5) = 3 then (if (fX1_openDoorIn M g v4) = (-1) then M else (fmX11_put (fmX11_put M 21 9 v3 v5) 22 9 v3 (fX1_openDoorIn M g v4))) else M)) 17 1809 (wr32 ((wr32 (v3 * 201)) + v5)) (if (fX3_doingOf M v3 v5) = 1 then (fX7_walkCell M v3 v5) else (if (fX3_doingOf M v3 v5) = 3 then (if (fX1_openDoorIn M g v4) = (-1) then (fX3_nearer M g v4) else (-1)) else v4))) 18 804 (wr32 ((wr32 ((fX3_onesOf (if (fX3_doingOf M v3 v5) = 1 then (fX3_doingOf M v3 v5) else (if (fX3_doingOf M v3 v5) = 3 then (if (fX1_openDoorIn M g v4) = (-1) then (fX3_doingOf M v3 v5) else 4) else (fX3_doingOf M v3 v5)))) * 201)) + v5)) (wr32 ((fX11_get (fmX11_put (if (fX3_doingOf M v3 v5) = 1 then M else (if (fX3_doingOf M v3 v5) = 3 then (if (fX1_openDoorIn M g v4) = (-1) then M else (fmX11_put (fmX11_put M 21 9 v3 v5) 22 9 v3 (fX1_openDoorIn M g v4))) else M)) 17 1809 (wr32 ((wr32 (v3 * 201)) + v5)) (if (fX3_doingOf M v3 v5) = 1 then (fX7_walkCell M v3 v5) else (if (fX3_doingOf M v3 v5) = 3 then (if (fX1_openDoorIn M g v4) = (-1) then (fX3_nearer M g v4) else (-1)) else v4))) 18 804 (wr32 ((wr32 ((fX3_onesOf (if (fX3_doingOf M v3 v5) = 1 then (fX3_doingOf M v3 v5) else (if (fX3_doingOf M v3 v5) = 3 then (if (fX1_openDoorIn M g v4) = (-1) then (fX3_doingOf M v3 v5) else 4) else (fX3_doingOf M v3 v5)))) * 201)) + v5))) + 1)))
theorem fst_M {M X : Mem} {g p c : Int} {t : Nat} {d d' c' on : Int} (p0 : 0 ≤ p) (p1 : p < 9) (ht : t < 201) (hd : fX3_doingOf M p t = d) (hX : X = (if d = 1 then M else (if d = 3 then (if (fX1_openDoorIn M g c) = (-1) then M else (mset (mset M 21 p t) 22 p (fX1_openDoorIn M g c))) else M)))
    (hc : c' = (if d = 1 then (fX7_walkCell M p t) else (if d = 3 then (if (fX1_openDoorIn M g c) = (-1) then (fX3_nearer M g c) else (-1)) else c))) (hd' : d' = (if d = 1 then d else (if d = 3 then (if (fX1_openDoorIn M g c) = (-1) then d else 4) else d))) (hon : fX3_onesOf d' = on) (on0 : 0 ≤ on) (on1 : on ≤ 3) (hm : X 18 (201 * on + t) = M 18 (201 * on + t)) (hb : -1000 ≤ M 18 (201 * on + t) ∧ M 18 (201 * on + t) ≤ 1000) :
    fstC M g p c t = c' ∧ fstM M g p c t = mset (mset X 17 (201 * p + t) c') 18 (201 * on + t) (M 18 (201 * on + t) + 1) := by
  have iw : wr32 (wr32 (on * 201) + (t : Int)) = 201 * on + t := by
    rw [wmu (a := on) (by omega) (by omega), wad (by omega) (by omega)]
    omega
  unfold fstC fstM
  rw [hd]
  simp only [rd_put (M := M) (p := 21) (n := 9) (i := p) p0 (by omega), rd_put (M := mset M 21 p t) (p := 22) (n := 9) (i := p) p0 (by omega)]
  rw [← hX, ← hc, ← hd', hon, ix10 p0 p1 (by omega) (by omega), iw, rd_put (M := X) (by omega) (by omega), rd_get (M := mset X 17 (201 * p + t) c') (by omega) (by omega), mset_o (M := X) (p := 17) (q := 18) (by decide), hm, wad (by omega) (by omega), rd_put (by omega) (by omega)]
  exact ⟨rfl, rfl⟩
