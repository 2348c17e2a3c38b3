/-! the calls of a morning: what stays, and what is read -/
theorem inv_fm {h : Int} {H : Hal} {M M' : Mem} (hg : isG h) (hI : InvH h H M) (f1 : ∀ q, q ≠ 0 → (q < 9 ∨ 26 < q) → M' q = M q) (f2 : ∀ j, j ≠ 16 → j ≠ 17 → M' 0 j = M 0 j) (iw : iW h H M') : InvH h H M' := by
  obtain ⟨hok, hc, hr, hT, hF, hK, hC, hS, hO, hA, hW⟩ := hI
  have hh : 26 < h := by rcases hg with rfl | rfl <;> decide
  have e66 : M' 66 = M 66 := f1 66 (by decide) (by decide)
  have eH : eqH h M M' := ⟨fun q a b => f1 q (by omega) (by omega), by rw [e66], by rw [e66], fun q a b => f1 q (by omega) (by omega)⟩
  exact ⟨hok, Ch_fr eH hc, Rh_fr eH hr, iT_fr ⟨by rw [f1 1 (by decide) (by decide)], f1 2 (by decide) (by decide), by rw [e66], f1 67 (by decide) (by decide)⟩ hT, iF_fr ⟨by rw [e66], by rw [e66], f2 14 (by decide) (by decide), f2 15 (by decide) (by decide)⟩ hF, iK_fr (fun q a => f1 q (by omega) (by omega)) hK, iC_fr ⟨by rw [e66], f2 12 (by decide) (by decide)⟩ hC, iS_fr ⟨by rw [e66], f2 13 (by decide) (by decide)⟩ hS, iO_fr ⟨by rw [e66], f2 9 (by decide) (by decide), f1 31 (by decide) (by decide), f1 125 (by decide) (by decide)⟩ hO, iA_fr ⟨by rw [f1 27 (by decide) (by decide)], f1 28 (by decide) (by decide), f1 29 (by decide) (by decide), f1 30 (by decide) (by decide), by rw [e66], by rw [e66], f1 100 (by decide) (by decide)⟩ hA, iw⟩
/-- what plays() and its kin may touch in the reference -/
theorem inv_rd {h : Int} {H : Hal} {M M' : Mem} (hg : isG h) (hI : InvH h H M) (a1 : ∀ q, q ≠ 101 → (q < 66 ∨ (66 < q ∧ q < 93) ∨ 99 < q) → M' q = M q) (a2 : ∀ j, j ≠ 50 → j ≠ 51 → j ≠ 52 → M' 66 j = M 66 j) : InvH h H M' := by
  obtain ⟨hok, hc, hr, hT, hF, hK, hC, hS, hO, hA, hW⟩ := hI
  have hh : 24 < h ∧ h + 16 < 66 := by rcases hg with rfl | rfl <;> decide
  have j : ∀ k : Int, k < 50 ∨ 52 < k → M' 66 k = M 66 k := fun k x => a2 k (by omega) (by omega) (by omega)
  have eH : eqH h M M' := ⟨fun q a b => a1 q (by omega) (by omega), j 38 (by omega), j 39 (by omega), fun q a b => a1 q (by omega) (by omega)⟩
  have e0 : M' 0 = M 0 := a1 0 (by decide) (by decide)
  have eC : eqC M M' := ⟨j 42 (by omega), by rw [e0]⟩
  exact ⟨hok, Ch_fr eH hc, Rh_fr eH hr, iT_fr ⟨by rw [a1 1 (by decide) (by decide)], a1 2 (by decide) (by decide), j 1 (by omega), a1 67 (by decide) (by decide)⟩ hT, iF_fr ⟨j 7 (by omega), j 8 (by omega), by rw [e0], by rw [e0]⟩ hF, iK_fr (fun q a => a1 q (by omega) (by omega)) hK, iC_fr eC hC, iS_fr ⟨j 56 (by omega), by rw [e0]⟩ hS, iO_fr ⟨j 89 (by omega), by rw [e0], a1 31 (by decide) (by decide), a1 125 (by decide) (by decide)⟩ hO, iA_fr ⟨by rw [a1 27 (by decide) (by decide)], a1 28 (by decide) (by decide), a1 29 (by decide) (by decide), a1 30 (by decide) (by decide), j 54 (by omega), j 55 (by omega), a1 100 (by decide) (by decide)⟩ hA, iW_fr eH eC ⟨by rw [e0], by rw [e0], a1 10 (by decide) (by decide), a1 11 (by decide) (by decide), fun q a b => a1 q (by omega) (by omega)⟩ hW⟩
theorem inv_rf {h : Int} {H : Hal} {M M' : Mem} (hg : isG h) (hI : InvH h H M) (a1 : ∀ q, (q < 66 ∨ (66 < q ∧ q < 93) ∨ 99 < q) → M' q = M q) (a2 : ∀ j, j ≠ 50 → j ≠ 51 → j ≠ 52 → M' 66 j = M 66 j) : InvH h H M' := inv_rd hg hI (fun q _ x => a1 q x) a2
theorem C_b {H : Hal} {M : Mem} (ho : Hok H) (hC : iC H M) : 0 ≤ M 0 12 ∧ M 0 12 < 512 := by
  have hb := ho.2.1
  refine ⟨hC.2.1, ?_⟩
  have : (2 : Int) ^ (H 0 4).toNat ≤ 2 ^ 9 := by
    rw [two_pow_int, two_pow_int]
    have := Nat.pow_le_pow_right (show 0 < 2 by decide) (show (H 0 4).toNat ≤ 9 by omega)
    omega
  have := hC.2.2
  omega
theorem fresh_q {h : Int} {H : Hal} {M : Mem} {Q : Int → Mem → Prop} (hg : isG h) (hI : InvH h H M) (hQ : ∀ M' : Mem, InvH h H M' → M' 0 12 = M 0 12 → mOK H (M 0 12) M' → Q 0 M') : PX11_freshMorning h M Q := by
  obtain ⟨hok, hc, hr, hT, hF, hK, hC, hS, hO, hA, hW⟩ := id hI
  exact fresh_m hg hok hc hC hW (fun M' f1 f2 _ _ iw mo => hQ M' (inv_fm hg hI (fun q a b => f1 q a (by omega)) f2 iw) (f2 12 (by decide) (by decide)) mo)
theorem plays_q {h : Int} {H : Hal} {M : Mem} {Q : Int → Mem → Prop} {C : Int} (hg : isG h) (hI : InvH h H M) (e : M 0 12 = C) (hQ : ∀ M' : Mem, InvH h H M' → rPl H C M M' → Q 0 M') : PX12_plays M Q := by
  obtain ⟨hok, hc, hr, hT, hF, hK, hC, hS, hO, hA, hW⟩ := id hI
  have b := C_b hok hC
  subst e
  exact pl_s hok hr b.1 b.2 hC.1 (fun M' r => hQ M' (inv_rf hg hI r.1 r.2.1) r)
theorem comer_c {h : Int} {H : Hal} {M : Mem} (ho : Hok H) (hc : Ch h H M) (hC : iC H M) (p : Int) : fX11_isComer M h p = if 0 ≤ p ∧ p < H 0 4 ∧ bt (M 0 12) p = true then 1 else 0 := by
  have hb := ho.2.1
  have b := C_b ho hC
  unfold fX11_isComer
  rw [has_eq hc]
  by_cases a : 0 ≤ p ∧ p < H 0 4
  · rw [if_pos a, if_neg (show ¬ (1 : Int) = 0 by decide), hasBit_eq b.1 (by omega) a.1 (by omega)]
    by_cases d : bt (M 0 12) p = true
    · rw [if_pos d, if_neg (show ¬ (1 : Int) = 0 by decide), if_pos ⟨a.1, a.2, d⟩]
    · rw [if_neg d, if_pos rfl, if_neg (fun z => d z.2.2)]
  · rw [if_neg a, if_pos rfl, if_neg (fun z => a ⟨z.1, z.2.1⟩)]
theorem coming_r {H : Hal} {M : Mem} (ho : Hok H) (hr : Rh H M) (hC : iC H M) (p : Int) : fX12_isComing M p = if 0 ≤ p ∧ p < H 0 4 ∧ bt (M 0 12) p = true then 1 else 0 := by
  have b := C_b ho hC
  by_cases a : 0 ≤ p ∧ p < H 0 4
  · rw [isComing_r ho hr hC.1 b.1 b.2 a.1 a.2]
    by_cases d : bt (M 0 12) p = true
    · rw [if_pos d, if_pos ⟨a.1, a.2, d⟩]
    · rw [if_neg d, if_neg (fun z => d z.2.2)]
  · rw [isComing_o ho hr a, if_neg (fun z => a ⟨z.1, z.2.1⟩)]
theorem sec_c (s : Int) : fX11_isSecond s = if 0 ≤ s ∧ s ≤ 200 then 1 else 0 := by
  unfold fX11_isSecond
  by_cases a : s < 0
  · rw [if_pos a, if_neg (by omega)]
  · by_cases b : 201 ≤ s
    · rw [if_neg a, if_pos b, if_neg (by omega)]
    · rw [if_neg a, if_neg b, if_pos (by omega)]
theorem sec_rr (s : Int) : fX12_isSecond s = if 0 ≤ s ∧ s ≤ 200 then 1 else 0 := isIn_eq s 0 200
section
variable {H : Hal} {C : Int} {B M : Mem}
theorem go_ge (ho : Hok H) {p : Int} (z : gout H C p ≠ -1) : oo H C p ≠ -1 ∧ oo H C p + H 0 6 ≤ gout H C p ∧ gout H C p ≤ 200 := by
  have ne : oo H C p ≠ -1 := by
    intro y
    apply z
    unfold gout
    rw [if_pos y]
  rcases gout_s ho ne with u | u
  · exact absurd u.1 z
  · exact ⟨ne, u.1, u.2.1⟩
theorem isOut_r (r : rPl H C B M) {p : Int} (p0 : 0 ≤ p) (p1 : p < 9) (t : Int) : fX12_isOut M p t = (if gout H C p ≠ -1 ∧ gout H C p ≤ t then 1 else 0) ∧ nX12_isOut M p := by
  refine ⟨?_, ⟨p0, p1⟩, fun _ => ⟨p0, p1⟩⟩
  unfold fX12_isOut
  rw [(r.2.2.1 p p0 p1).2.2]
  by_cases a : gout H C p = -1
  · rw [if_pos a, if_neg (fun z => z.1 a)]
  · rw [if_neg a]
    by_cases b : t < gout H C p
    · rw [if_pos b, if_neg (by omega)]
    · rw [if_neg b, if_pos (by omega)]
theorem isWait_r (r : rPl H C B M) {p : Int} (p0 : 0 ≤ p) (p1 : p < 9) (t : Int) : fX12_isWaiting M p t = (if oo H C p = -1 ∨ t < oo H C p then 1 else 0) ∧ nX12_isWaiting M p := by
  refine ⟨?_, ⟨p0, p1⟩, fun _ => ⟨p0, p1⟩⟩
  unfold fX12_isWaiting
  rw [(r.2.2.1 p p0 p1).1]
  by_cases a : oo H C p = -1
  · rw [if_pos a, if_pos (Or.inl a)]
  · rw [if_neg a]
    by_cases b : oo H C p ≤ t
    · rw [if_pos b, if_neg (by omega)]
    · rw [if_neg b, if_pos (by omega)]
theorem isOpn_r (ho : Hok H) (hr : Rh H M) (r : rPl H C B M) {p : Int} (p0 : 0 ≤ p) (p1 : p < 9) (t : Int) : fX12_isOpen M p t = (if oo H C p ≠ -1 ∧ oo H C p ≤ t ∧ t < oo H C p + H 0 6 then 1 else 0) ∧ nX12_isOpen M p t := by
  have ob := oo_b (H := H) (C := C) (p := p)
  have o := isOpen_r (u := t) (O := oo H C) ho hr p0 p1 (r.2.2.1 p p0 p1).1 (by omega) (by omega)
  refine ⟨?_, o.2⟩
  rw [o.1]
  unfold isop
  by_cases a : oo H C p ≠ -1 ∧ oo H C p ≤ t ∧ t < oo H C p + H 0 6
  · rw [if_pos a, if_pos (decide_eq_true a)]
  · rw [if_neg a, if_neg (fun z => a (of_decide_eq_true z))]
theorem doing_w {p t : Int} (hb : bt C p = true) : (doing H C p t = 1 ↔ (oo H C p = -1 ∨ t < oo H C p)) := by
  unfold doing
  rw [if_neg (by rw [hb]; decide)]
  by_cases a : oo H C p = -1 ∨ t < oo H C p
  · rw [if_pos a]; exact ⟨fun _ => a, fun _ => rfl⟩
  · rw [if_neg a]
    refine ⟨fun z => ?_, fun z => absurd z a⟩
    by_cases b : t < oo H C p + H 0 6
    · rw [if_pos b] at z; exact absurd z (by decide)
    · rw [if_neg b] at z
      by_cases c : gout H C p = -1 ∨ t < gout H C p
      · rw [if_pos c] at z; exact absurd z (by decide)
      · rw [if_neg c] at z; exact absurd z (by decide)
theorem doing_o {p t : Int} (hb : bt C p = true) : (doing H C p t = 2 ↔ (oo H C p ≠ -1 ∧ oo H C p ≤ t ∧ t < oo H C p + H 0 6)) := by
  unfold doing
  rw [if_neg (by rw [hb]; decide)]
  by_cases a : oo H C p = -1 ∨ t < oo H C p
  · rw [if_pos a]; exact ⟨fun z => absurd z (by decide), fun z => by omega⟩
  · rw [if_neg a]
    by_cases b : t < oo H C p + H 0 6
    · rw [if_pos b]; exact ⟨fun _ => by omega, fun _ => rfl⟩
    · rw [if_neg b]
      refine ⟨fun z => ?_, fun z => by omega⟩
      by_cases c : gout H C p = -1 ∨ t < gout H C p
      · rw [if_pos c] at z; exact absurd z (by decide)
      · rw [if_neg c] at z; exact absurd z (by decide)
theorem doing_g (ho : Hok H) {p t : Int} (hb : bt C p = true) : (doing H C p t = 4 ↔ (gout H C p ≠ -1 ∧ gout H C p ≤ t)) := by
  have hbd := ho.2.1
  unfold doing
  rw [if_neg (by rw [hb]; decide)]
  by_cases a : oo H C p = -1 ∨ t < oo H C p
  · rw [if_pos a]
    refine ⟨fun z => absurd z (by decide), fun z => ?_⟩
    have g := go_ge ho z.1
    omega
  · rw [if_neg a]
    by_cases b : t < oo H C p + H 0 6
    · rw [if_pos b]
      refine ⟨fun z => absurd z (by decide), fun z => ?_⟩
      have g := go_ge ho z.1
      omega
    · rw [if_neg b]
      by_cases c : gout H C p = -1 ∨ t < gout H C p
      · rw [if_pos c]
        exact ⟨fun z => absurd z (by decide), fun z => by omega⟩
      · rw [if_neg c]
        exact ⟨fun _ => by omega, fun _ => rfl⟩
theorem rps_pos {p : Int} {t : Nat} (hn : ¬ (gout H C p ≠ -1 ∧ gout H C p ≤ (t : Int))) : rps H C p t = posn H C p t := by
  unfold rps posn
  rw [Int.toNat_natCast]
  by_cases a : oo H C p = -1 ∨ (t : Int) < oo H C p
  · rw [if_pos a, if_pos a]
  · rw [if_neg a, if_neg a]
    by_cases b : (t : Int) < oo H C p + H 0 6
    · rw [if_pos b, if_pos b]; rfl
    · rw [if_neg b, if_neg b, if_pos (by omega)]
theorem rps_out (ho : Hok H) {p : Int} (z : gout H C p ≠ -1) : rps H C p (gout H C p).toNat = gng H C p (gout H C p - (oo H C p + H 0 6)).toNat ∧ 0 ≤ gout H C p := by
  have hbd := ho.2.1
  have g := go_ge ho z
  have ob := oo_b (H := H) (C := C) (p := p)
  have e : (((gout H C p).toNat : Nat) : Int) = gout H C p := by omega
  refine ⟨?_, by omega⟩
  unfold rps
  rw [e, if_neg (by omega), if_neg (by omega), if_neg (by omega)]
theorem cel_o (r : rPl H C B M) (ho : Hok H) {p : Int} (p0 : 0 ≤ p) (p1 : p < H 0 4) (hb : bt C p = true) (z : gout H C p ≠ -1) : fX12_whereIn M p (gout H C p) = gng H C p (gout H C p - (oo H C p + H 0 6)).toNat ∧ nX12_whereIn p (gout H C p) := by
  have hbd := ho.2.1
  have g := go_ge ho z
  have u := rps_out ho z
  have e : (((gout H C p).toNat : Nat) : Int) = gout H C p := by omega
  have w := where_r (M := M) p0 (show p < 9 by omega) u.2 (show gout H C p < 201 by omega)
  have r6 := r.2.2.2.2.2 (gout H C p).toNat (by omega) p p0 p1 hb
  rw [e] at r6
  rw [w.1, r6, u.1]
  exact ⟨rfl, w.2⟩
/-- how many are open -/
theorem om_lp (ho : Hok H) (hr : Rh H M) (C0 : 0 ≤ C) (C1 : C < 512) (hC : M 66 42 = C) (r : rPl H C B M) (t : Int) : ∀ (k n : Nat), (n : Int) + k = H 0 4 → lX12_openMany_4 k t (cnt (fun p => decide (doing H C p t = 2)) n) n M = many H C 2 t ∧ nlX12_openMany_4 k t (cnt (fun p => decide (doing H C p t = 2)) n) n M := by
  have hbd := ho.2.1
  intro k
  induction k with
  | zero =>
    intro n hn
    have en : n = (H 0 4).toNat := by omega
    refine ⟨?_, trivial⟩
    show cnt _ n = _
    rw [en]
    rfl
  | succ k ih =>
    intro n hn
    have ic := isComing_r ho hr hC C0 C1 (p := (n : Int)) (by omega) (by omega)
    have io := isOpn_r ho hr r (p := (n : Int)) (by omega) (by omega) t
    have cb := cnt_b (fun p => decide (doing H C p t = 2)) n
    have e3 : ((n : Int) + 1) = ((n + 1 : Nat) : Int) := by omega
    have key : (if (fX12_isComing M n) = 0 then cnt (fun p => decide (doing H C p t = 2)) n else (if (fX12_isOpen M n t) = 0 then cnt (fun p => decide (doing H C p t = 2)) n else (wr32 (cnt (fun p => decide (doing H C p t = 2)) n + 1)))) = cnt (fun p => decide (doing H C p t = 2)) (n + 1) := by
      rw [ic, io.1]
      show _ = cnt (fun p => decide (doing H C p t = 2)) n + (if decide (doing H C n t = 2) = true then 1 else 0)
      obtain ⟨xx, hxx⟩ : ∃ z : Int, z = cnt (fun p => decide (doing H C p t = 2)) n := ⟨_, rfl⟩
      rw [← hxx] at cb ⊢
      cases hx : bt C n with
      | false =>
        rw [if_neg (show ¬ false = true by decide), if_pos (rfl : (0 : Int) = 0), if_neg]
        · omega
        · intro z
          have := of_decide_eq_true z
          unfold doing at this
          rw [if_pos hx] at this
          exact absurd this (by decide)
      | true =>
        rw [if_pos rfl, if_neg (show ¬ (1 : Int) = 0 by decide)]
        have d := doing_o (H := H) (t := t) hx
        by_cases a : oo H C n ≠ -1 ∧ oo H C n ≤ t ∧ t < oo H C n + H 0 6
        · rw [if_pos a, if_neg (show ¬ (1 : Int) = 0 by decide), if_pos (decide_eq_true (d.mpr a))]
          exact wad (by omega) (by omega)
        · rw [if_neg a, if_pos rfl, if_neg (fun z => a (d.mp (of_decide_eq_true z)))]
          omega
    have e : lX12_openMany_4 (k + 1) t (cnt (fun p => decide (doing H C p t = 2)) n) n M = lX12_openMany_4 k t (if (fX12_isComing M n) = 0 then cnt (fun p => decide (doing H C p t = 2)) n else (if (fX12_isOpen M n t) = 0 then cnt (fun p => decide (doing H C p t = 2)) n else (wr32 (cnt (fun p => decide (doing H C p t = 2)) n + 1)))) ((n : Int) + 1) M := rfl
    have en : nlX12_openMany_4 (k + 1) t (cnt (fun p => decide (doing H C p t = 2)) n) n M = ((¬ ((fX12_isComing M n) = 0) → (nX12_isOpen M n t)) ∧ nlX12_openMany_4 k t (if (fX12_isComing M n) = 0 then cnt (fun p => decide (doing H C p t = 2)) n else (if (fX12_isOpen M n t) = 0 then cnt (fun p => decide (doing H C p t = 2)) n else (wr32 (cnt (fun p => decide (doing H C p t = 2)) n + 1)))) ((n : Int) + 1) M) := rfl
    rw [e, en, key, e3]
    have i1 := ih (n + 1) (by omega)
    exact ⟨i1.1, fun _ => io.2, i1.2⟩
theorem om_r (ho : Hok H) (hr : Rh H M) (C0 : 0 ≤ C) (C1 : C < 512) (hC : M 66 42 = C) (r : rPl H C B M) (t : Int) : fX12_openMany M t = many H C 2 t ∧ nX12_openMany M t := by
  have hbd := ho.2.1
  have l := om_lp ho hr C0 C1 hC r t (H 0 4).toNat 0 (by omega)
  unfold fX12_openMany nX12_openMany
  rw [pMany hr, Int.sub_zero]
  exact l
end
section
variable {H : Hal} {C : Int} {B M N : Mem}
theorem hm_c (m : mOK H C N) {v : Int} (v0 : 0 ≤ v) (v1 : v ≤ 200) : fX3_howMany N v 0 = many H C 2 v ∧ fX3_howMany N v 1 = many H C 1 v ∧ fX3_howMany N v 2 = many H C 3 v ∧ fX3_howMany N v 3 = many H C 4 v := by
  have m6 := m.2.2.2.2.2.2 v.toNat (by omega)
  rw [show ((v.toNat : Nat) : Int) = v by omega] at m6
  have one : ∀ w : Int, 0 ≤ w → w ≤ 3 → fX3_howMany N v w = N 18 (201 * w + v) := by
    intro w w0 w1
    unfold fX3_howMany
    rw [wmu (a := w) (by omega) (by omega), wad (by omega) (by omega), rd_get (by omega) (by omega), show w * 201 + v = 201 * w + v by omega]
  rw [one 0 (by decide) (by decide), one 1 (by decide) (by decide), one 2 (by decide) (by decide), one 3 (by decide) (by decide)]
  exact m6
def pkp (f : Int → Int) : Nat → Int → Int → Int
  | 0, v1, _ => v1
  | k + 1, v1, v2 => pkp f k (if f v2 ≤ f v1 then v1 else v2) (v2 + 1)
def ofp (f : Int → Int) (e : Int) : Nat → Int → Int
  | 0, _ => -1
  | k + 1, v => if f v < e then ofp f e k (v + 1) else v
theorem pkp_b (f : Int → Int) : ∀ (k : Nat) (v1 v2 : Int), 0 ≤ v1 → v1 ≤ 200 → 0 ≤ v2 → v2 + k = 201 → 0 ≤ pkp f k v1 v2 ∧ pkp f k v1 v2 ≤ 200
  | 0, v1, v2, a, b, _, _ => ⟨a, b⟩
  | k + 1, v1, v2, a, b, c, d => by
    have e : pkp f (k + 1) v1 v2 = pkp f k (if f v2 ≤ f v1 then v1 else v2) (v2 + 1) := rfl
    rw [e]
    by_cases z : f v2 ≤ f v1
    · rw [if_pos z]
      exact pkp_b f k v1 (v2 + 1) a b (by omega) (by omega)
    · rw [if_neg z]
      exact pkp_b f k v2 (v2 + 1) c (by omega) (by omega) (by omega)
theorem pk_c (m : mOK H C N) : ∀ (k : Nat) (v1 v2 : Int), 0 ≤ v1 → v1 ≤ 200 → 0 ≤ v2 → v2 + k = 201 → lX3_peak_4 k v1 v2 N = pkp (many H C 2) k v1 v2 := by
  intro k
  induction k with
  | zero => intro v1 v2 a b _ _; rfl
  | succ k ih =>
    intro v1 v2 a b c d
    have h1 := (hm_c m a b).1
    have h2 := (hm_c m c (show v2 ≤ 200 by omega)).1
    have e2 : lX3_peak_4 (k + 1) v1 v2 N = lX3_peak_4 k (if (fX3_howMany N v2 0) ≤ (fX3_howMany N v1 0) then v1 else v2) (v2 + 1) N := rfl
    have e : pkp (many H C 2) (k + 1) v1 v2 = pkp (many H C 2) k (if many H C 2 v2 ≤ many H C 2 v1 then v1 else v2) (v2 + 1) := rfl
    rw [e, e2, h1, h2]
    by_cases z : many H C 2 v2 ≤ many H C 2 v1
    · rw [if_pos z]; exact ih _ _ a b (by omega) (by omega)
    · rw [if_neg z]; exact ih _ _ c (by omega) (by omega) (by omega)
theorem pk_r (ho : Hok H) (hr : Rh H M) (C0 : 0 ≤ C) (C1 : C < 512) (hC : M 66 42 = C) (r : rPl H C B M) : ∀ (k : Nat) (v1 v2 : Int), lX12_peak_4 k v1 v2 M = pkp (many H C 2) k v1 v2 ∧ nlX12_peak_4 k v1 v2 M := by
  intro k
  induction k with
  | zero => intro v1 v2; exact ⟨rfl, trivial⟩
  | succ k ih =>
    intro v1 v2
    have o1 := om_r ho hr C0 C1 hC r v1
    have o2 := om_r ho hr C0 C1 hC r v2
    have e : lX12_peak_4 (k + 1) v1 v2 M = lX12_peak_4 k (if (fX12_openMany M v2) ≤ (fX12_openMany M v1) then v1 else v2) (v2 + 1) M := rfl
    have en : nlX12_peak_4 (k + 1) v1 v2 M = ((nX12_openMany M v2) ∧ (nX12_openMany M v1) ∧ nlX12_peak_4 k (if (fX12_openMany M v2) ≤ (fX12_openMany M v1) then v1 else v2) (v2 + 1) M) := rfl
    have e2 : pkp (many H C 2) (k + 1) v1 v2 = pkp (many H C 2) k (if many H C 2 v2 ≤ many H C 2 v1 then v1 else v2) (v2 + 1) := rfl
    rw [e, en, e2, o1.1, o2.1]
    have i := ih (if many H C 2 v2 ≤ many H C 2 v1 then v1 else v2) (v2 + 1)
    exact ⟨i.1, o2.2, o1.2, i.2⟩
theorem off_c (m : mOK H C N) (x : Int) : ∀ (k : Nat) (v : Int), 0 ≤ v → v + k = 201 → lX3_firstWith_2 k x v N = ofp (many H C 2) x k v := by
  intro k
  induction k with
  | zero => intro v a b; rfl
  | succ k ih =>
    intro v a b
    have h1 := (hm_c m a (by omega)).1
    have e2 : lX3_firstWith_2 (k + 1) x v N = (if (fX3_howMany N v 0) < x then (lX3_firstWith_2 k x (v + 1) N) else v) := rfl
    have e : ofp (many H C 2) x (k + 1) v = if many H C 2 v < x then ofp (many H C 2) x k (v + 1) else v := rfl
    rw [e, e2, h1, ih (v + 1) (by omega) (by omega)]
theorem off_r (ho : Hok H) (hr : Rh H M) (C0 : 0 ≤ C) (C1 : C < 512) (hC : M 66 42 = C) (r : rPl H C B M) : ∀ (k : Nat) (v : Int), lX12_offIn_2 k v M = ofp (many H C 2) (H 0 8) k v ∧ nlX12_offIn_2 k v M := by
  intro k
  induction k with
  | zero => intro v; exact ⟨rfl, trivial⟩
  | succ k ih =>
    intro v
    have o1 := om_r ho hr C0 C1 hC r v
    have e : lX12_offIn_2 (k + 1) v M = (if (fX12_openMany M v) < (M 91 7) then (lX12_offIn_2 k (v + 1) M) else v) := rfl
    have en : nlX12_offIn_2 (k + 1) v M = ((nX12_openMany M v) ∧ ((fX12_openMany M v) < (M 91 7) → (nlX12_offIn_2 k (v + 1) M))) := rfl
    have e2 : ofp (many H C 2) (H 0 8) (k + 1) v = if many H C 2 v < H 0 8 then ofp (many H C 2) (H 0 8) k (v + 1) else v := rfl
    have i := ih (v + 1)
    rw [e, en, e2, o1.1, hr.1.2.2.2.2.2.2.2.2, i.1]
    exact ⟨rfl, o1.2, fun _ => i.2⟩
/-- loops that count, from 0 to 9 -/
theorem cnt_9 {H : Hal} {f : Int → Bool} (ho : Hok H) (hf : ∀ i, H 0 4 ≤ i → i < 9 → f i = false) : cnt f 9 = cnt f (H 0 4).toNat := by
  have hb := ho.2.1
  have := cnt_ext (f := f) (n := (H 0 4).toNat) (9 - (H 0 4).toNat) (fun i a b => hf i (by omega) (by omega))
  rw [← this]
  congr 1
  omega
def mxo (f : Int → Int) : Nat → Int
  | 0 => -1
  | n + 1 => if mxo f n < f n then f n else mxo f n
theorem mxo_b (f : Int → Int) : ∀ n : Nat, -1 ≤ mxo f n
  | 0 => Int.le_refl _
  | n + 1 => by
    have ih := mxo_b f n
    show -1 ≤ if mxo f n < f n then f n else mxo f n
    by_cases a : mxo f n < f n
    · rw [if_pos a]; omega
    · rw [if_neg a]; exact ih
theorem mxo_ext {f : Int → Int} {n : Nat} : ∀ d : Nat, (∀ i : Int, n ≤ i → i < n + d → f i = -1) → mxo f (n + d) = mxo f n
  | 0, _ => rfl
  | d + 1, h => by
    have ih := mxo_ext (f := f) (n := n) d (fun i a b => h i a (by omega))
    have b := mxo_b f n
    show (if mxo f (n + d) < f ((n + d : Nat) : Int) then f ((n + d : Nat) : Int) else mxo f (n + d)) = _
    rw [ih, h ((n + d : Nat) : Int) (by omega) (by omega), if_neg (by omega)]
theorem mxo_9 {H : Hal} {f : Int → Int} (ho : Hok H) (hf : ∀ i, H 0 4 ≤ i → i < 9 → f i = -1) : mxo f 9 = mxo f (H 0 4).toNat := by
  have hb := ho.2.1
  have := mxo_ext (f := f) (n := (H 0 4).toNat) (9 - (H 0 4).toNat) (fun i a b => hf i (by omega) (by omega))
  rw [← this]
  congr 1
  omega
theorem ic_r (ho : Hok H) (hr : Rh H M) (C0 : 0 ≤ C) (C1 : C < 512) (hC : M 66 42 = C) {n : Nat} (h : (n : Int) < H 0 4) : fX12_isComing M n = if bt C n = true then 1 else 0 := isComing_r ho hr hC C0 C1 (by omega) h
end
