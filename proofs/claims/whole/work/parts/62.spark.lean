/-! what would be: frames, and the spark -/
theorem iW_cs {h : Int} {H : Hal} {M M' : Mem} (hg : isG h) (hW : iW h H M) (e : ∀ q, q ≠ 0 → (q < 9 ∨ (15 < q ∧ q ≠ 25 ∧ q ≠ 26)) → M' q = M q) (e17 : M' 0 17 = M 0 17) (e12 : M' 0 12 = M 0 12) (e16 : M' 0 16 = 0) (hw : wOK H M') : iW h H M' := by
  have hh : 26 < h := by rcases hg with rfl | rfl <;> decide
  obtain ⟨w1, w2, w3, w4, w5⟩ := hW
  refine ⟨Or.inl e16, by rw [e17]; exact w2, ?_, fun _ => hw, fun z => ?_⟩
  · unfold nOK fX1_isNear at w3 ⊢
    rw [e (h + 16) (by omega) (by omega)]
    exact w3
  · rw [e17] at z
    have m := w5 z
    unfold mOK at m ⊢
    rw [e12, e 16 (by decide) (by decide), e 17 (by decide) (by decide), e 18 (by decide) (by decide), e 19 (by decide) (by decide), e 20 (by decide) (by decide), e 21 (by decide) (by decide), e 22 (by decide) (by decide)]
    exact m
theorem fw_q {h : Int} {H : Hal} {M : Mem} {Q : Int → Mem → Prop} (hg : isG h) (hI : InvH h H M) (hQ : ∀ M' : Mem, InvH h H M' → wOK H M' → M' 0 12 = M 0 12 → M' 0 16 = 0 → Q 0 M') : PX11_freshWalks h M Q := by
  obtain ⟨hok, hc, hr, hT, hF, hK, hC, hS, hO, hA, hW⟩ := id hI
  refine fresh_w hg hok hc hW.2.2.2.1 (fun M' f1 f2 f3 f4 => ?_)
  have iw : iW h H M' := iW_cs hg hW (fun q a b => f1 q (by omega) (by omega) a) (f2 17 (by decide)) (f2 12 (by decide)) f3 f4
  exact hQ M' (inv_fm hg hI (fun q a b => f1 q (by omega) (by omega) a) (fun j a b => f2 j a) iw) f4 (f2 12 (by decide)) f3
/-- the class's rows of strokes may change -/
theorem inv_cs {h : Int} {H : Hal} {M M' : Mem} (hg : isG h) (hI : InvH h H M) (e16 : M 0 16 = 0) (e : ∀ q, (q < 9 ∨ (15 < q ∧ q ≠ 25 ∧ q ≠ 26)) → M' q = M q) (hw : wOK H M') : InvH h H M' := by
  have e0 : M' 0 = M 0 := e 0 (by decide)
  refine inv_fm hg hI (fun q a b => e q (by omega)) (fun j _ _ => by rw [e0]) ?_
  exact iW_cs hg hI.2.2.2.2.2.2.2.2.2.2 (fun q a b => e q b) (by rw [e0]) (by rw [e0]) (by rw [e0]; exact e16) hw
theorem wOK_fr {H : Hal} {M M' : Mem} (h : wOK H M) (e10 : M' 10 = M 10) (e11 : M' 11 = M 11) : wOK H M' := by
  unfold wOK at h ⊢
  rw [e10, e11]
  exact h
/-- the same hall, one watch otherwise -/
def hwt (H : Hal) (p n : Int) : Hal := hst H (H 7) (fset (H 8) p n) (H 9) (H 3)
section
variable {h : Int} {H : Hal} {M : Mem} {Q : Int → Mem → Prop}
theorem hwt_ok (ho : Hok H) {p n : Int} (n0 : 0 ≤ n) (n1 : n ≤ 120) : Hok (hwt H p n) := by
  refine Hok_hst ho (fun q a b => ?_) (fun k a b => (ho.2.2.2.1 k a b).2)
  have o := ho.2.2.2.2.2.2.1 q a b
  have e : fset (H 8) p n q = if q = p then n else H 8 q := rfl
  rw [e]
  by_cases z : q = p
  · rw [if_pos z]
    exact ⟨o.1, n0, n1, o.2.2.2.1, o.2.2.2.2.1⟩
  · rw [if_neg z]
    exact ⟨o.1, o.2.1, o.2.2.1, o.2.2.2.1, o.2.2.2.2.1⟩
theorem hwt_c {B M' : Mem} (hg : isG h) (hc : Ch h H B) {p n : Int} (e : ∀ q, h ≤ q → q ≤ h + 16 → q ≠ h + 4 → M' q = B q) (e4 : ∀ j, j ≠ p → M' (h + 4) j = B (h + 4) j) (e4p : M' (h + 4) p = n) : Ch h (hwt H p n) M' := by
  refine Ch_hst hc (fun q a b _ c _ _ => e q a b c) (fun q a b => ?_) (fun k a b => by rw [e (h + 11) (by omega) (by omega) (by omega)]; exact (hc.2.2.1 k a b).2)
  have c := hc.2.2.2.2.1 q a b
  rw [e (h + 3) (by omega) (by omega) (by omega), e (h + 5) (by omega) (by omega) (by omega)]
  refine ⟨c.1, ?_, c.2.2.1⟩
  show _ = if q = p then n else H 8 q
  by_cases z : q = p
  · rw [if_pos z, z]; exact e4p
  · rw [if_neg z, e4 q z]; exact c.2.1
theorem hwt_r {B M' : Mem} (ho : Hok H) (hr : Rh H B) {p n : Int} (p0 : 0 ≤ p) (e38 : M' 66 38 = B 66 38) (e39 : M' 66 39 = B 66 39) (e : ∀ q, 85 ≤ q → q ≤ 92 → q ≠ 88 → M' q = B q) (e88 : ∀ j, j ≠ 162 + 18 * p + 1 → M' 88 j = B 88 j) (e8p : M' 88 (162 + 18 * p + 1) = n - 60) : Rh (hwt H p n) M' := by
  refine Rh_hst ho hr e38 e39 (fun q a b c => e q a (by omega) c) (fun q k a b c d => e88 _ (by omega)) (fun q a b => ?_) (fun k a b => by rw [e 92 (by omega) (by omega) (by omega)]; exact (hr.2.2.1 k a b).2)
  have r := hr.2.2.2.2.1 q a b
  rw [e88 (162 + 18 * q) (by omega), e88 (162 + 18 * q + 2) (by omega)]
  refine ⟨r.1, ?_, r.2.2.1⟩
  show _ = (if q = p then n else H 8 q) - 60
  by_cases z : q = p
  · rw [if_pos z, z]; exact e8p
  · rw [if_neg z, e88 _ (by omega)]; exact r.2.1
theorem hwt_w {M' : Mem} {p n : Int} (hw : wOK H M) (e10 : M' 10 = M 10) (e11 : M' 11 = M 11) : wOK (hwt H p n) M' := wOK_hst hw e10 e11 (fun _ _ _ => rfl)
theorem hwt_n {M' : Mem} {p n : Int} (hn : nOK h H M) (e : M' (h + 16) = M (h + 16)) : nOK h (hwt H p n) M' := nOK_fr hn e
theorem hasWatch_c (ho : Hok H) (hc : Ch h H M) (hC : iC H M) (p : Int) : fX11_hasWatch M h p = if (0 ≤ p ∧ p < H 0 4 ∧ bt (M 0 12) p = true) ∧ H 11 p ≠ 1 then 1 else 0 := by
  have hb := ho.2.1
  unfold fX11_hasWatch
  rw [comer_c ho hc hC]
  by_cases a : 0 ≤ p ∧ p < H 0 4 ∧ bt (M 0 12) p = true
  · have c := (hc.2.2.2.2.1 p a.1 a.2.1).2.2.2.2.2.2
    have w := hc.2.2.2.2.2.2
    rw [if_pos a, if_neg (show ¬ (1 : Int) = 0 by decide), hasBit_eq w.1 (by omega) a.1 (by omega)]
    by_cases d : bt (M (h + 1) 7) p = true
    · rw [if_pos d] at c
      rw [if_pos d, if_neg (show ¬ (1 : Int) = 0 by decide), if_neg (fun z => z.2 c)]
    · rw [if_neg d] at c
      rw [if_neg d, if_pos rfl, if_pos ⟨a, by omega⟩]
  · rw [if_neg a, if_pos rfl, if_neg (fun z => a z.1)]
def asp (H : Hal) (C p : Int) : Int := if (0 ≤ p ∧ p < H 0 4 ∧ bt C p = true) ∧ H 11 p ≠ 1 then cnt (fah (hwt H p 0) C (H 0 5)) (H 0 4).toNat else -1
theorem sp54 {H' : Hal} {C s : Int} {K : Int → Mem → Prop} {N : Mem} (ho : Hok H') (h13 : ∀ p, 0 ≤ p → p < 9 → N 13 p = oo H' C p) (h8 : N (h + 1) 8 = H' 0 4) (h14 : N h 14 = s) (hK : K (cnt (fah H' C s) (H' 0 4).toNat) N) : ∀ (k n : Nat), (n : Int) ≤ H' 0 4 → H' 0 4 < (n : Int) + k → PX10_sparked_54 h K Q k (cnt (fah H' C s) n) n N := by
  have hbd := ho.2.1
  intro k
  induction k with
  | zero => intro n a b; omega
  | succ k ih =>
    intro n a b
    refine ⟨fun z => ?_, fun z => ?_⟩
    · rw [h8] at z
      have en : n = (H' 0 4).toNat := by omega
      rw [en]
      exact hK
    · rw [h8] at z
      have e3 : Hid (wr32 ((n : Int) + 1) = ((n + 1 : Nat) : Int)) := hid (by rw [wad (by omega) (by omega)]; omega)
      have cb := cnt_b (fah H' C s) n
      have key : (if (fX11_get N 13 9 n) = (-1) then cnt (fah H' C s) n else (if (N h 14) ≤ (fX11_get N 13 9 n) then cnt (fah H' C s) n else (wr32 (cnt (fah H' C s) n + 1)))) = cnt (fah H' C s) (n + 1) := by
        show _ = cnt (fah H' C s) n + if fah H' C s n = true then 1 else 0
        rw [rd_get (by omega) (by omega), h13 n (by omega) (by omega), h14]
        obtain ⟨x, hx⟩ : ∃ x, x = cnt (fah H' C s) n := ⟨_, rfl⟩
        rw [← hx] at cb ⊢
        unfold fah
        by_cases c : oo H' C n = -1
        · rw [if_pos c, decide_eq_false (fun z => z.1 c)]; simp
        · rw [if_neg c]
          by_cases d : s ≤ oo H' C n
          · rw [if_pos d, decide_eq_false (fun z => by have := z.2; omega)]; simp
          · rw [if_neg d, decide_eq_true ⟨c, by omega⟩, if_pos rfl]
            exact wad (by omega) (by omega)
      rw [key, e3.out]
      exact ih (n + 1) (by omega) (by omega)
theorem back_row {M A : Mem} {q p x : Int} (hA : ∀ j, j ≠ p → A q j = M q j) (hx : x = M q p) : mset A q p x q = M q := by
  funext j
  by_cases e : j = p
  · rw [e, mset_e, hx]
  · rw [mset_k e, hA j e]
theorem spk_c (hg : isG h) (hI : InvH h H M) (v1 : Int) (hQ : ∀ M' : Mem, InvH h H M' → M' 0 12 = M 0 12 → Q (asp H (M 0 12) v1) M') : PX11_spark h v1 M Q := by
  obtain ⟨hok, hc, hr, hT, hF, hK, hC, hS, hO, hA, hW⟩ := id hI
  have hbd := hok.2.1
  have hh : 26 < h := by rcases hg with rfl | rfl <;> decide
  refine ⟨fun z => ?_, fun z => ?_⟩
  · rw [hasWatch_c hok hc hC] at z
    have e : asp H (M 0 12) v1 = -1 := by
      unfold asp
      rw [if_neg]
      intro w
      rw [if_pos w] at z
      exact absurd z (by decide)
    rw [← e]
    exact hQ M hI rfl
  · rw [hasWatch_c hok hc hC] at z
    have z1 : (0 ≤ v1 ∧ v1 < H 0 4 ∧ bt (M 0 12) v1 = true) ∧ H 11 v1 ≠ 1 := Classical.byContradiction (fun w => z (by rw [if_neg w]))
    refine fw_q hg hI (fun M4 i4 w4 e4 o4 => ?_)
    rw [e4]
    obtain ⟨_, hc4, hr4, _, _, _, hC4, _, _, _, hW4⟩ := id i4
    intro M3 h3
    rw [rd_put z1.1.1 (by omega)] at h3
    have c3 : Ch h (hwt H v1 0) M3 := hwt_c hg hc4 (fun q a b c => by rw [h3, mset_p c]) (fun j a => by rw [h3, mset_k a]) (by rw [h3, mset_e])
    have w3 : wOK (hwt H v1 0) M3 := hwt_w w4 (by rw [h3, mset_p (by omega)]) (by rw [h3, mset_p (by omega)])
    have n3 : nOK h (hwt H v1 0) M3 := hwt_n hW4.2.2.1 (by rw [h3, mset_p (by omega)])
    have ok3 := hwt_ok (p := v1) hok (show (0 : Int) ≤ 0 by decide) (by decide)
    refine run_s hg ok3 hC.2.1 hC.2.2 c3 n3 w3 (fun M5 f1 f2 f3 => ?_)
    intro M8 h8
    rw [rd_put z1.1.1 (by omega), rd_get z1.1.1 (by omega)] at h8
    have g8 : ∀ q, (q < 9 ∨ (15 < q ∧ q ≠ 25 ∧ q ≠ 26)) → M8 q = M4 q := by
      intro q x
      rw [h8]
      by_cases e : q = h + 4
      · rw [e]
        exact back_row (fun j a => by rw [f1 _ (by omega) (by omega) (by omega) (by omega) (by omega), h3, mset_k a]) rfl
      · rw [mset_p e, f1 q (by omega) (by omega) (by omega) (by omega) (by omega), h3, mset_p e]
    have m8 : ∀ q, q ≠ h + 4 → q ≠ 9 → q ≠ 12 → q ≠ 13 → q ≠ 14 → q ≠ 15 → M8 q = M4 q := fun q a b c d e f => by rw [h8, mset_p a, f1 q b c d e f, h3, mset_p a]
    have i8 : InvH h H M8 := inv_cs hg i4 o4 g8 (wOK_fr w4 (m8 10 (by omega) (by decide) (by decide) (by decide) (by decide) (by decide)) (m8 11 (by omega) (by decide) (by decide) (by decide) (by decide) (by decide)))
    have hq := hQ M8 i8 (by rw [g8 0 (by decide)]; exact e4)
    unfold asp at hq
    rw [if_pos z1] at hq
    refine ⟨10, sp54 (H' := hwt H v1 0) (C := M 0 12) (s := H 0 5) (K := fun u10 M11 => Q u10 M11) ok3 (fun p a b => ?_) ?_ ?_ hq 10 0 (by show (0 : Int) ≤ H 0 4; omega) (by show H 0 4 < (0 : Int) + 10; omega)⟩
    · rw [h8, mset_o (by omega)]
      exact ((f3.2.2.2 rfl).1 p a b).1
    · rw [m8 (h + 1) (by omega) (by omega) (by omega) (by omega) (by omega) (by omega)]
      exact hc4.1.2.2.2.2.1
    · rw [m8 h (by omega) (by omega) (by omega) (by omega) (by omega) (by omega)]
      exact hc4.1.2.2.2.2.2.1
theorem spk_r (hg : isG h) (hI : InvH h H M) (v1 : Int) (hQ : ∀ M' : Mem, InvH h H M' → Q (asp H (M 0 12) v1) M') : PX12_spark v1 M Q := by
  obtain ⟨hok, hc, hr, hT, hF, hK, hC, hS, hO, hA, hW⟩ := id hI
  have hbd := hok.2.1
  have cb := C_b hok hC
  refine ⟨fun y => ?_, fun y => ?_⟩
  · rw [coming_r hok hr hC] at y
    have e : asp H (M 0 12) v1 = -1 := by
      unfold asp
      rw [if_neg]
      intro w
      rw [if_pos w.1] at y
      exact absurd y (by decide)
    rw [← e]
    exact hQ M hI
  · rw [coming_r hok hr hC] at y
    have y1 : 0 ≤ v1 ∧ v1 < H 0 4 ∧ bt (M 0 12) v1 = true := Classical.byContradiction (fun w => y (by rw [if_neg w]))
    have v9 : v1 < 9 := by omega
    have p4 := pOf (M := M) (k := 4) y1.1 v9 (by omega) (by omega)
    have e4 : M 88 (162 + 18 * v1 + 4) = H 11 v1 := (hr.2.2.2.2.1 v1 y1.1 y1.2.1).2.2.2.2.1
    refine ⟨p4.2, fun z => ?_, fun z => ⟨nPOf y1.1 v9 (by omega) (by omega), nmk y1.1 v9 (by omega) (by omega), ?_⟩⟩
    · rw [p4.1, e4] at z
      have e : asp H (M 0 12) v1 = -1 := by
        unfold asp
        rw [if_neg (fun w => w.2 z)]
      rw [← e]
      exact hQ M hI
    · rw [p4.1, e4] at z
      intro M10 h10
      rw [(mk_eq y1.1 v9 (by omega) (by omega)).1] at h10
      have r10 : Rh (hwt H v1 0) M10 := hwt_r hok hr y1.1 (by rw [h10, mset_o (by decide)]) (by rw [h10, mset_o (by decide)]) (fun q a b c => by rw [h10, mset_p c]) (fun j a => by rw [h10, mset_k a]) (by rw [h10, mset_e]; rfl)
      have ok3 := hwt_ok (p := v1) hok (show (0 : Int) ≤ 0 by decide) (by decide)
      refine pl_s ok3 r10 cb.1 cb.2 (by rw [h10, mset_o (by decide)]; exact hC.1) (fun M12 r => ?_)
      have r12 : Rh (hwt H v1 0) M12 := Rh_93 (fun q x => r.1 q (by omega)) (r.2.1 38 (by decide) (by decide) (by decide)) (r.2.1 39 (by decide) (by decide) (by decide)) r10
      have oa := ahd_r ok3 r12 cb.1 cb.2 (by rw [r.2.1 42 (by decide) (by decide) (by decide), h10, mset_o (by decide)]; exact hC.1) r
      refine ⟨oa.2, fun a16 h16 => ⟨nmk y1.1 v9 (by omega) (by omega), ?_⟩⟩
      intro M19 h19
      rw [(mk_eq y1.1 v9 (by omega) (by omega)).1, (pOf y1.1 v9 (by omega) (by omega)).1] at h19
      have i19 : InvH h H M19 := by
        refine inv_rf hg hI (fun q x => ?_) (fun j a b c => by rw [h19, mset_o (by decide), r.2.1 j a b c, h10, mset_o (by decide)])
        rw [h19]
        by_cases e : q = 88
        · rw [e]
          exact back_row (fun j a => by rw [r.1 88 (by decide), h10, mset_k a]) rfl
        · rw [mset_p e, r.1 q x, h10, mset_p e]
      have hq := hQ M19 i19
      unfold asp at hq
      rw [if_pos ⟨y1, z⟩] at hq
      rw [h16, oa.1]
      exact hq
theorem inv_spark : ∀ E, Two_spark E Inv := by
  intro E
  refine two_spark (fun v1 M hI _ _ => ?_)
  obtain ⟨h, H, hG, hI⟩ := hI
  have hh := hG.2.2.2
  refine ⟨h, hG, spk_c hh hI v1 (fun M1 i1 e hG1 => spk_r hh i1 v1 (fun M2 i2 hG2 => ⟨by rw [e], h, H, hG2, i2⟩))⟩
end
