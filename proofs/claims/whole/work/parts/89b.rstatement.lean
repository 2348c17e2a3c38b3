/-! the text of a hall: a statement of the reference -/
def tS (M M' : Mem) : Prop := (∀ q, q ≠ 66 → q ≠ 85 → q ≠ 86 → q ≠ 87 → q ≠ 88 → q ≠ 89 → q ≠ 90 → q ≠ 91 → M' q = M q) ∧ (∀ j, (j = 1 ∨ j = 7 ∨ j = 8 ∨ (9 < j ∧ j < 27) ∨ (27 < j ∧ j < 35) ∨ j = 38 ∨ j = 39 ∨ 40 < j) → M' 66 j = M 66 j) ∧
  (∀ j, 3 ≤ j → M' 85 j = M 85 j) ∧ (∀ j, 20 ≤ j → M' 86 j = M 86 j) ∧ (∀ j, 54 ≤ j → M' 87 j = M 87 j) ∧ (∀ j, 162 ≤ j → M' 88 j = M 88 j) ∧ (∀ j, 12 ≤ j → M' 89 j = M 89 j) ∧ (∀ j, 6 ≤ j → M' 90 j = M 90 j) ∧ (∀ j, 4 ≤ j → M' 91 j = M 91 j)
section
variable {b : Int → Int} {n p e w : Int} {H : Hal} {M M' : Mem} {Q : Int → Mem → Prop}
theorem tS_t {M N O : Mem} (a : tS M N) (c : tS N O) : tS M O := ⟨fun q h1 h2 h3 h4 h5 h6 h7 h8 => (c.1 q h1 h2 h3 h4 h5 h6 h7 h8).trans (a.1 q h1 h2 h3 h4 h5 h6 h7 h8), fun j h => (c.2.1 j h).trans (a.2.1 j h), fun j h => (c.2.2.1 j h).trans (a.2.2.1 j h), fun j h => (c.2.2.2.1 j h).trans (a.2.2.2.1 j h), fun j h => (c.2.2.2.2.1 j h).trans (a.2.2.2.2.1 j h), fun j h => (c.2.2.2.2.2.1 j h).trans (a.2.2.2.2.2.1 j h), fun j h => (c.2.2.2.2.2.2.1 j h).trans (a.2.2.2.2.2.2.1 j h), fun j h => (c.2.2.2.2.2.2.2.1 j h).trans (a.2.2.2.2.2.2.2.1 j h), fun j h => (c.2.2.2.2.2.2.2.2 j h).trans (a.2.2.2.2.2.2.2.2 j h)⟩
theorem tS_r (h : tR M M') : tS M M' := ⟨h.1, fun j x => h.2.1 j (by omega), h.2.2⟩
theorem tR_4 (h : tR M M') : M' 66 40 = M 66 40 := h.2.1 40 (by omega)
theorem tS_1 {x : Int} : tS M (mset M 66 40 x) := ⟨fun q h _ _ _ _ _ _ _ => mset_p h, fun j x => mset_k (by omega), fun _ _ => mset_o (by decide), fun _ _ => mset_o (by decide), fun _ _ => mset_o (by decide), fun _ _ => mset_o (by decide), fun _ _ => mset_o (by decide), fun _ _ => mset_o (by decide), fun _ _ => mset_o (by decide)⟩
theorem Dr_e (hD : Dr H w M) (q : ∀ q, q ≠ 66 → M' q = M q) (j : ∀ j, j ≠ 40 → M' 66 j = M 66 j) : Dr H w M' := by
  unfold Dr at hD ⊢
  rw [j 35 (by decide), j 36 (by decide), j 37 (by decide), q 85 (by decide), q 86 (by decide), q 87 (by decide), q 88 (by decide), q 89 (by decide), q 90 (by decide), q 91 (by decide)]
  exact hD
theorem allq_at : ∀ (u : List Int) (p : Int), allq b p u = true → ∀ j : Nat, j < u.length → b (p + j) = u.getD j 0
  | [], _, _, j, h => absurd h (Nat.not_lt_zero j)
  | x :: xs, p, h, j, hj => by
    have h' : (decide (b p = x) && allq b (p + 1) xs) = true := h
    rw [Bool.and_eq_true] at h'
    rcases j with _ | j
    · have := of_decide_eq_true h'.1
      show b (p + ((0 : Nat) : Int)) = x
      rw [show p + ((0 : Nat) : Int) = p by omega]; exact this
    · have := allq_at xs (p + 1) h'.2 j (Nat.lt_of_succ_lt_succ hj)
      show b (p + ((j + 1 : Nat) : Int)) = xs.getD j 0
      rw [← this, show p + ((j + 1 : Nat) : Int) = p + 1 + (j : Int) by omega]
theorem getD_el : ∀ (u : List Int) (j : Nat) (h : j < u.length), u.getD j 0 = u[j]
  | [], j, h => absurd h (Nat.not_lt_zero j)
  | _ :: _, 0, _ => rfl
  | _ :: xs, j + 1, h => getD_el xs j (Nat.lt_of_succ_lt_succ h)
theorem isw_eq {u v : List Int} (h : iswd b n p e u = true) (h' : iswd b n p e v = true) : u = v := by
  have k1 := iswd_k h
  have k2 := iswd_k h'
  have l : u.length = v.length := by have := k1.2; have := k2.2; omega
  unfold iswd at h h'
  rw [Bool.and_eq_true, Bool.and_eq_true] at h h'
  refine List.ext_getElem l (fun j x y => ?_)
  have a1 := allq_at u p h.2.2 j x
  have a2 := allq_at v p h'.2.2 j y
  rw [getD_el _ _ x] at a1
  rw [getD_el _ _ y] at a2
  rw [← a1, ← a2]
theorem fdx_c1 {i : Nat} {is : List Nat} {k : Int} (h : iswd b n p e (wd i) = true) : fdx b n p e (i :: is) k = k := if_pos h
theorem fdx_c0 {i : Nat} {is : List Nat} {k : Int} (h : iswd b n p e (wd i) = false) : fdx b n p e (i :: is) k = fdx b n p e is (k + 1) := if_neg (by rw [h]; decide)
theorem n68 {i : Nat} (h : iswd b n p e (wd i) = true) (d : wd 68 ≠ wd i) : iswd b n p e (wd 68) = false := Bool.eq_false_iff.mpr (fun z => d (isw_eq z h))
/-- what holds behind the body of a statement, ahead of its sign -/
def jS (b : Int → Int) (n p e : Int) (H : Hal) (w : Int) (M M6 : Mem) : Prop := tR M M6 ∧ ((∃ f pl, pA b n p e H w = Sum.inl (f, pl) ∧ rX f pl M6) ∨ (∃ x : (Hal × Int) × Int × Int, pA b n p e H w = bnd (pS b n x.2.1 x.2.2 59) (fun t => Sum.inr (x.1, t.1, t.2)) ∧ rK b n x.2.1 x.2.2 M6 ∧ Dr x.1.1 x.1.2 M6))
theorem jU {k f : Int} (hk : fdx b n p e (fl 0) 0 = f) (e0 : f = k) (h1 : 1 ≤ k ∧ k ≤ 8) (hf : full H w k = true) : pA b n p e H w = Sum.inl (5, p) := by
  unfold pA; rw [hk, e0, if_neg (by omega), if_pos hf]
theorem jF {k f pl f0 : Int} (hk : fdx b n p e (fl 0) 0 = f0) (e0 : f0 = k) (h1 : 1 ≤ k ∧ k ≤ 8) (hf : full H w k = false) (h : pB b n (nxp b n p) (nxe b n p) H w k = Sum.inl (f, pl)) : pA b n p e H w = Sum.inl (f, pl) := by
  unfold pA; rw [hk, e0, if_neg (by omega), if_neg (by rw [hf]; decide)]; exact bnd_l h
theorem jO {k f0 : Int} {x : (Hal × Int) × Int × Int} (hk : fdx b n p e (fl 0) 0 = f0) (e0 : f0 = k) (h1 : 1 ≤ k ∧ k ≤ 8) (hf : full H w k = false) (h : pB b n (nxp b n p) (nxe b n p) H w k = Sum.inr x) : pA b n p e H w = bnd (pS b n x.2.1 x.2.2 59) (fun t => Sum.inr (x.1, t.1, t.2)) := by
  unfold pA; rw [hk, e0, if_neg (by omega), if_neg (by rw [hf]; decide)]; exact bnd_r h
theorem nst_r {k q m f0 : Int} {M3 : Mem} (hd : DOK H w) (hk : fdx b n p e (fl 0) 0 = f0) (e0 : f0 = k) (h1 : k = 5 ∨ k = 6 ∨ k = 7 ∨ k = 8) (hq : q = k - 5) (hm : m = rmx k) (t3 : tR M M3) (k3 : rK b n (nxp b n p) (nxe b n p) M3) (D3 : Dr H w M3) : PX12_number 1 m M3 (fun a M42 => ∀ M45 : Mem, M45 = mset M42 91 q a → jS b n p e H w M M45) := by
  have ff : full H w k = false := by
    unfold full
    rw [if_neg (by omega), if_neg (by omega), if_neg (by omega), if_neg (by omega)]
  have eB : pB b n (nxp b n p) (nxe b n p) H w k = bnd (pN b n (nxp b n p) (nxe b n p) 1 (rmx k) (nxp b n p)) (fun v => Sum.inr ((uR H k v.1, w), v.2.1, v.2.2)) := by
    unfold pB
    rw [if_neg (by omega), if_neg (by omega), if_neg (by omega), if_neg (by omega)]
  rw [hm]
  refine N_r k3 (fun f pl h M42 x r y M45 h45 => ?_) (fun x h M42 r k42 _ M45 h45 => ?_)
  · refine ⟨?_, Or.inl ⟨f, pl, jF hk e0 (by omega) ff (by rw [eB]; exact bnd_l h), ?_⟩⟩
    · rw [h45]; exact tR_t t3 (tR_t (tR_f r) (tR_1 (by omega)))
    · unfold rX at y ⊢
      rw [h45, mset_o (by decide), mset_o (by decide)]; exact y
  · refine ⟨?_, Or.inr ⟨((uR H k x.1, w), x.2.1, x.2.2), jO hk e0 (by omega) ff (by rw [eB]; exact bnd_r h), ?_, ?_⟩⟩
    · rw [h45]; exact tR_t t3 (tR_t (tR_f r) (tR_1 (by omega)))
    · exact rK_e k42 (fun j _ _ => by rw [h45, mset_o (by decide)]) (by rw [h45, mset_p (by decide)])
    · rw [h45, hq]
      exact Dr_R (Dr_f r D3) h1
theorem tst_r {s : Int} (hd : DOK H w) (hK : iK M) (hT : rK b n p e M) (hD : Dr H w M) (h2 : M 66 2 = p) (h40 : M 66 40 = s) (hs : 1 ≤ s ∧ s ≤ 70)
    (hU : s = 70 → ∀ M' : Mem, tS M M' → rX 5 p M' → Q 0 M')
    (hF : s ≠ 70 → ∀ f pl, pA b n p e H w = Sum.inl (f, pl) → ∀ M' : Mem, tS M M' → rX f pl M' → Q 0 M')
    (hO : s ≠ 70 → ∀ x, pA b n p e H w = Sum.inr x → ∀ M' : Mem, tS M M' → M' 66 40 = s + 1 → rK b n x.2.1 x.2.2 M' → Dr x.1.1 x.1.2 M' → Q 0 M') : PX12_statementTold M Q := by
  refine ⟨fun z M74 h74 => ?_, fun z => ?_⟩
  · have fx := fail_X (pl := p) hT (show (5 : Int) ≠ 0 by decide)
    rw [h2] at h74
    rw [h74]
    exact hU (h40.symm.trans z) _ (tS_r (tR_f fx.1)) fx.2
  rw [h40] at z
  have hF := hF z
  have hO := hO z
  have J : ∀ M6, jS b n p e H w M M6 → PX12_asksSign 59 M6 (fun _ M9 => (∀ M12 : Mem, M12 = (mset M9 66 40 (wr32 ((M9 66 40) + 1))) → Q 0 M12)) := by
    intro M6 j
    obtain ⟨t6, j⟩ := j
    have cnt : ∀ M9 M12 : Mem, tR M M9 → M12 = (mset M9 66 40 (wr32 ((M9 66 40) + 1))) → tS M M12 ∧ M12 66 40 = s + 1 := by
      intro M9 M12 t h
      rw [tR_4 t, h40, wad (by omega) (by omega)] at h
      rw [h]
      exact ⟨tS_t (tS_r t) tS_1, mset_e⟩
    rcases j with ⟨f, pl, hp, x⟩ | ⟨x, hp, k6, D6⟩
    · refine nb_sign (rX_b x) (fun M12 h12 => ?_)
      have c := cnt M6 M12 t6 h12
      refine hF f pl hp M12 c.1 ?_
      unfold rX at x ⊢
      rw [h12, mset_k (by decide), mset_k (by decide)]; exact x
    · refine S_r k6 (fun f pl h M9 r y M12 h12 => ?_) (fun t h M9 r k9 M12 h12 => ?_)
      · have c := cnt M9 M12 (tR_t t6 (tR_f r)) h12
        refine hF f pl (hp.trans (bnd_l h)) M12 c.1 ?_
        unfold rX at y ⊢
        rw [h12, mset_k (by decide), mset_k (by decide)]; exact y
      · have c := cnt M9 M12 (tR_t t6 (tR_f r)) h12
        refine hO (x.1, t.1, t.2) (hp.trans (bnd_r h)) M12 c.1 c.2 (rK_e k9 (fun j _ _ => by rw [h12, mset_k (by omega)]) (by rw [h12, mset_p (by decide)])) ?_
        exact Dr_e (Dr_f r D6) (fun q x => by rw [h12, mset_p x]) (fun j x => by rw [h12, mset_k x])
  have t0 : tR M M := tR_f ⟨fun _ _ => rfl, fun _ _ _ _ _ _ _ => rfl⟩
  clear hF hO hU
  rw [h2]
  have fe : fl 0 = [68, 69, 70, 71, 78, 81, 82, 83, 84, 72, 73, 74, 75, 76, 77, 79, 80] := rfl
  refine T_r2 (i := 69) hT (rows hK 69 (by decide)) (by decide) (fun w1 M3 r3 k3 => ?_) (fun w1 M3 r3 k3 => ?_)
  rotate_left
  · have hk : fdx b n p e (fl 0) 0 = 0 + 1 := by rw [fe, fdx_c0 (n68 w1 (by decide)), fdx_c1 w1]
    refine ⟨_, J, fun z => absurd z (by decide), fun _ => ?_⟩
    have t3 := tR_f r3
    exact wal_r hd k3 (Dr_f r3 hD) (fun u M' t x => ⟨tR_t t3 t, Or.inl ⟨_, _, jU hk rfl (by decide) u, x⟩⟩) (fun u f pl h M' t x => ⟨tR_t t3 t, Or.inl ⟨_, _, jF hk rfl (by decide) u h, x⟩⟩) (fun u x h M' t kk dd => ⟨tR_t t3 t, Or.inr ⟨x, jO hk rfl (by decide) u h, kk, dd⟩⟩)
  refine ⟨_, J, fun _ => ?_, fun z => absurd rfl z⟩
  have t3 := tR_f r3
  refine T_r2 (i := 70) k3 (rows (iK_t hK t3) 70 (by decide)) (by decide) (fun w2 M4 r4 k4 => ?_) (fun w2 M4 r4 k4 => ?_)
  rotate_left
  · have hk : fdx b n p e (fl 0) 0 = 0 + 1 + 1 := by rw [fe, fdx_c0 (n68 w2 (by decide)), fdx_c0 w1, fdx_c1 w2]
    refine ⟨fun z => absurd z (by decide), fun _ => ?_⟩
    have t4 := tR_t t3 (tR_f r4)
    exact dor_r hd k4 (Dr_f r4 (Dr_f r3 hD)) (fun u M' t x => ⟨tR_t t4 t, Or.inl ⟨_, _, jU hk rfl (by decide) u, x⟩⟩) (fun u f pl h M' t x => ⟨tR_t t4 t, Or.inl ⟨_, _, jF hk rfl (by decide) u h, x⟩⟩) (fun u x h M' t kk dd => ⟨tR_t t4 t, Or.inr ⟨x, jO hk rfl (by decide) u h, kk, dd⟩⟩)
  refine ⟨fun _ => ?_, fun z => absurd rfl z⟩
  have t4 := tR_t t3 (tR_f r4)
  have D4 := Dr_f r4 (Dr_f r3 hD)
  refine T_r2 (i := 71) k4 (rows (iK_t hK t4) 71 (by decide)) (by decide) (fun w3 M5 r5 k5 => ?_) (fun w3 M5 r5 k5 => ?_)
  rotate_left
  · have hk : fdx b n p e (fl 0) 0 = 0 + 1 + 1 + 1 := by rw [fe, fdx_c0 (n68 w3 (by decide)), fdx_c0 w1, fdx_c0 w2, fdx_c1 w3]
    refine ⟨fun z => absurd z (by decide), fun _ => ?_⟩
    have t5 := tR_t t4 (tR_f r5)
    exact prs_r hd (iK_t hK t5) k5 (Dr_f r5 D4) (fun u M' t x => ⟨tR_t t5 t, Or.inl ⟨_, _, jU hk rfl (by decide) u, x⟩⟩) (fun u f pl h M' t x => ⟨tR_t t5 t, Or.inl ⟨_, _, jF hk rfl (by decide) u h, x⟩⟩) (fun u x h M' t kk dd => ⟨tR_t t5 t, Or.inr ⟨x, jO hk rfl (by decide) u h, kk, dd⟩⟩)
  refine ⟨fun _ => ?_, fun z => absurd rfl z⟩
  have t5 := tR_t t4 (tR_f r5)
  have D5 := Dr_f r5 D4
  refine T_r2 (i := 78) k5 (rows (iK_t hK t5) 78 (by decide)) (by decide) (fun w4 M6 r6 k6 => ?_) (fun w4 M6 r6 k6 => ?_)
  rotate_left
  · have hk : fdx b n p e (fl 0) 0 = 0 + 1 + 1 + 1 + 1 := by rw [fe, fdx_c0 (n68 w4 (by decide)), fdx_c0 w1, fdx_c0 w2, fdx_c0 w3, fdx_c1 w4]
    refine ⟨fun z => absurd z (by decide), fun _ => ?_⟩
    have t6 := tR_t t5 (tR_f r6)
    exact grd_r hd (iK_t hK t6) k6 (Dr_f r6 D5) (fun u M' t x => ⟨tR_t t6 t, Or.inl ⟨_, _, jU hk rfl (by decide) u, x⟩⟩) (fun u f pl h M' t x => ⟨tR_t t6 t, Or.inl ⟨_, _, jF hk rfl (by decide) u h, x⟩⟩) (fun u x h M' t kk dd => ⟨tR_t t6 t, Or.inr ⟨x, jO hk rfl (by decide) u h, kk, dd⟩⟩)
  refine ⟨fun _ => ?_, fun z => absurd rfl z⟩
  have t6 := tR_t t5 (tR_f r6)
  have D6 := Dr_f r6 D5
  refine T_r2 (i := 81) k6 (rows (iK_t hK t6) 81 (by decide)) (by decide) (fun w5 M7 r7 k7 => ?_) (fun w5 M7 r7 k7 => ?_)
  rotate_left
  · have hk : fdx b n p e (fl 0) 0 = 0 + 1 + 1 + 1 + 1 + 1 := by rw [fe, fdx_c0 (n68 w5 (by decide)), fdx_c0 w1, fdx_c0 w2, fdx_c0 w3, fdx_c0 w4, fdx_c1 w5]
    exact ⟨fun z => absurd z (by decide), fun _ => nst_r (k := 5) hd hk rfl (by decide) (by decide) (by decide) (tR_t t6 (tR_f r7)) k7 (Dr_f r7 D6)⟩
  refine ⟨fun _ => ?_, fun z => absurd rfl z⟩
  have t7 := tR_t t6 (tR_f r7)
  have D7 := Dr_f r7 D6
  refine T_r2 (i := 82) k7 (rows (iK_t hK t7) 82 (by decide)) (by decide) (fun w6 M8 r8 k8 => ?_) (fun w6 M8 r8 k8 => ?_)
  rotate_left
  · have hk : fdx b n p e (fl 0) 0 = 0 + 1 + 1 + 1 + 1 + 1 + 1 := by rw [fe, fdx_c0 (n68 w6 (by decide)), fdx_c0 w1, fdx_c0 w2, fdx_c0 w3, fdx_c0 w4, fdx_c0 w5, fdx_c1 w6]
    exact ⟨fun z => absurd z (by decide), fun _ => nst_r (k := 6) hd hk rfl (by decide) (by decide) (by decide) (tR_t t7 (tR_f r8)) k8 (Dr_f r8 D7)⟩
  refine ⟨fun _ => ?_, fun z => absurd rfl z⟩
  have t8 := tR_t t7 (tR_f r8)
  have D8 := Dr_f r8 D7
  refine T_r2 (i := 83) k8 (rows (iK_t hK t8) 83 (by decide)) (by decide) (fun w7 M9 r9 k9 => ?_) (fun w7 M9 r9 k9 => ?_)
  rotate_left
  · have hk : fdx b n p e (fl 0) 0 = 0 + 1 + 1 + 1 + 1 + 1 + 1 + 1 := by rw [fe, fdx_c0 (n68 w7 (by decide)), fdx_c0 w1, fdx_c0 w2, fdx_c0 w3, fdx_c0 w4, fdx_c0 w5, fdx_c0 w6, fdx_c1 w7]
    exact ⟨fun z => absurd z (by decide), fun _ => nst_r (k := 7) hd hk rfl (by decide) (by decide) (by decide) (tR_t t8 (tR_f r9)) k9 (Dr_f r9 D8)⟩
  refine ⟨fun _ => ?_, fun z => absurd rfl z⟩
  have t9 := tR_t t8 (tR_f r9)
  have D9 := Dr_f r9 D8
  refine W_r (i := 84) k9 (rows (iK_t hK t9) 84 (by decide)) (by decide) (fun f pl h M10 r x => ?_) (fun y h M10 r k10 => ?_)
  · refine nb_num (rX_b x) (fun M45 h45 => ⟨?_, Or.inl ⟨f, pl, ?_, ?_⟩⟩)
    · rw [h45]; exact tR_t t9 (tR_t (tR_f r) (tR_1 (by omega)))
    · unfold pW at h
      by_cases w8 : iswd b n p e (wd 84) = true
      · rw [if_pos w8] at h; exact absurd h (by intro z; cases z)
      · rw [if_neg w8] at h
        cases h
        unfold pA
        refine if_pos ?_
        by_cases w0 : iswd b n p e (wd 68) = true
        · left; rw [fe, fdx_c1 w0]; decide
        · rw [fe, fdx_c0 (Bool.eq_false_iff.mpr w0), fdx_c0 w1, fdx_c0 w2, fdx_c0 w3, fdx_c0 w4, fdx_c0 w5, fdx_c0 w6, fdx_c0 w7, fdx_c0 (Bool.eq_false_iff.mpr w8)]
          rcases fdx_ge (b := b) (n := n) (p := p) (e := e) [72, 73, 74, 75, 76, 77, 79, 80] (0 + 1 + 1 + 1 + 1 + 1 + 1 + 1 + 1 + 1) with u | u
          · left; rw [u]; decide
          · right; exact Int.lt_of_lt_of_le (by decide) u.1
    · unfold rX at x ⊢
      rw [h45, mset_o (by decide), mset_o (by decide)]; exact x
  · unfold pW at h
    by_cases w8 : iswd b n p e (wd 84) = true
    · rw [if_pos w8] at h
      cases h
      have hk : fdx b n p e (fl 0) 0 = 0 + 1 + 1 + 1 + 1 + 1 + 1 + 1 + 1 := by rw [fe, fdx_c0 (n68 w8 (by decide)), fdx_c0 w1, fdx_c0 w2, fdx_c0 w3, fdx_c0 w4, fdx_c0 w5, fdx_c0 w6, fdx_c0 w7, fdx_c1 w8]
      exact nst_r (k := 8) hd hk rfl (by decide) (by decide) (by decide) (tR_t t9 (tR_f r)) k10 (Dr_f r D9)
    · rw [if_neg w8] at h; exact absurd h (by intro z; cases z)
end
