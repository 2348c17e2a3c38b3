/-! the calls of a morning -/
section
variable {h : Int} {H : Hal} {M : Mem} {Q : Int → Mem → Prop}
theorem cellOf_c {C : Int} {N : Mem} (ho : Hok H) (m : mOK H C N) (C0 : 0 ≤ C) (C1 : C < 512) {p t : Int} (p0 : 0 ≤ p) (p1 : p < H 0 4) (hb : bt C p = true) (t0 : 0 ≤ t) (t1 : t ≤ 200) : fX3_cellOf N p t = if doing H C p t = 4 then -1 else posn H C p t := by
  have hbd := ho.2.1
  have m6 := m.2.2.2.2.2.1 p p0 p1 hb t.toNat (by omega)
  rw [show ((t.toNat : Nat) : Int) = t by omega] at m6
  unfold fX3_cellOf
  rw [m.1, hasBit_eq C0 (by omega) p0 (by omega), if_pos hb, if_neg (show ¬ (1 : Int) = 0 by decide), wmu (a := p) (by omega) (by omega), wad (by omega) (by omega), rd_get (by omega) (by omega), show p * 201 + t = 201 * p + t by omega]
  exact m6
def awh (H : Hal) (C p t : Int) : Int := if (0 ≤ p ∧ p < H 0 4 ∧ bt C p = true) ∧ (0 ≤ t ∧ t ≤ 200) then (if doing H C p t = 4 then -1 else posn H C p t) else -1
theorem wh_c (hg : isG h) (hI : InvH h H M) (v1 v2 : Int) (hQ : ∀ M' : Mem, InvH h H M' → M' 0 12 = M 0 12 → Q (awh H (M 0 12) v1 v2) M') : PX11_where h v1 v2 M Q := by
  obtain ⟨hok, hc, hr, hT, hF, hK, hC, hS, hO, hA, hW⟩ := id hI
  have cb := C_b hok hC
  refine ⟨fun z => ?_, fun z => ⟨fun y => ?_, fun y => ?_⟩⟩
  · rw [sec_c] at z
    have e : awh H (M 0 12) v1 v2 = -1 := by
      unfold awh
      rw [if_neg]
      intro w
      rw [if_pos w.2] at z
      exact absurd z (by decide)
    rw [← e]
    exact hQ M hI rfl
  · rw [comer_c hok hc hC] at y
    have e : awh H (M 0 12) v1 v2 = -1 := by
      unfold awh
      rw [if_neg]
      intro w
      rw [if_pos w.1] at y
      exact absurd y (by decide)
    rw [← e]
    exact hQ M hI rfl
  · rw [sec_c] at z
    rw [comer_c hok hc hC] at y
    have z1 : 0 ≤ v2 ∧ v2 ≤ 200 := Classical.byContradiction (fun w => z (by rw [if_neg w]))
    have y1 : 0 ≤ v1 ∧ v1 < H 0 4 ∧ bt (M 0 12) v1 = true := Classical.byContradiction (fun w => y (by rw [if_neg w]))
    refine fresh_q hg hI (fun M' i e m => ?_)
    rw [cellOf_c hok m cb.1 cb.2 y1.1 y1.2.1 y1.2.2 z1.1 z1.2]
    have e2 : awh H (M 0 12) v1 v2 = if doing H (M 0 12) v1 v2 = 4 then -1 else posn H (M 0 12) v1 v2 := by
      unfold awh
      rw [if_pos ⟨y1, z1⟩]
    rw [← e2]
    exact hQ M' i e
theorem wh_r (hg : isG h) (hI : InvH h H M) (v1 v2 : Int) (hQ : ∀ M' : Mem, InvH h H M' → Q (awh H (M 0 12) v1 v2) M') : PX12_where v1 v2 M Q := by
  obtain ⟨hok, hc, hr, hT, hF, hK, hC, hS, hO, hA, hW⟩ := id hI
  have cb := C_b hok hC
  have hbd := hok.2.1
  refine ⟨fun y => ?_, fun y => ⟨fun z => ?_, fun z => ?_⟩⟩
  · rw [coming_r hok hr hC] at y
    have e : awh H (M 0 12) v1 v2 = -1 := by
      unfold awh
      rw [if_neg]
      intro w
      rw [if_pos w.1] at y
      exact absurd y (by decide)
    rw [← e]
    exact hQ M hI
  · rw [sec_rr] at z
    have e : awh H (M 0 12) v1 v2 = -1 := by
      unfold awh
      rw [if_neg]
      intro w
      rw [if_pos w.2] at z
      exact absurd z (by decide)
    rw [← e]
    exact hQ M hI
  · rw [sec_rr] at z
    rw [coming_r hok hr hC] at y
    have z1 : 0 ≤ v2 ∧ v2 ≤ 200 := Classical.byContradiction (fun w => z (by rw [if_neg w]))
    have y1 : 0 ≤ v1 ∧ v1 < H 0 4 ∧ bt (M 0 12) v1 = true := Classical.byContradiction (fun w => y (by rw [if_neg w]))
    refine plays_q hg hI rfl (fun M' i r => ?_)
    have io := isOut_r r y1.1 (show v1 < 9 by omega) v2
    have d4 := doing_g hok (t := v2) y1.2.2
    have e2 : awh H (M 0 12) v1 v2 = if doing H (M 0 12) v1 v2 = 4 then -1 else posn H (M 0 12) v1 v2 := by
      unfold awh
      rw [if_pos ⟨y1, z1⟩]
    have w := where_r (M := M') y1.1 (show v1 < 9 by omega) z1.1 (show v2 < 201 by omega)
    refine ⟨io.2, fun q => ⟨w.2, ?_⟩, fun q => ?_⟩
    · rw [io.1] at q
      have n4 : ¬ (gout H (M 0 12) v1 ≠ -1 ∧ gout H (M 0 12) v1 ≤ v2) := fun j => by rw [if_pos j] at q; exact absurd q (by decide)
      have r6 := r.2.2.2.2.2 v2.toNat (by omega) v1 y1.1 y1.2.1 y1.2.2
      have ev : ((v2.toNat : Nat) : Int) = v2 := by omega
      have rp := rps_pos (H := H) (C := M 0 12) (p := v1) (t := v2.toNat) (by rw [ev]; exact n4)
      rw [ev] at r6 rp
      rw [w.1, r6, rp]
      rw [if_neg (fun j => n4 (d4.mp j))] at e2
      rw [← e2]
      exact hQ M' i
    · have j : doing H (M 0 12) v1 v2 = 4 := d4.mpr (Classical.byContradiction (fun j => q (by rw [io.1, if_neg j])))
      rw [if_pos j] at e2
      rw [← e2]
      exact hQ M' i
theorem inv_where : ∀ E, Two_where E Inv := by
  intro E
  refine two_where (fun v1 v2 M hI _ _ _ => ?_)
  obtain ⟨h, H, hG, hI⟩ := hI
  have hh := hG.2.2.2
  refine ⟨h, hG, wh_c hh hI v1 v2 (fun M1 i1 e hG1 => wh_r hh i1 v1 v2 (fun M2 i2 hG2 => ⟨by rw [e], h, H, hG2, i2⟩))⟩
def ado (H : Hal) (C p w : Int) : Int := if 0 ≤ p ∧ p < H 0 4 ∧ bt C p = true then (if w = 0 then oo H C p else if w = 1 then gout H C p else if w = 2 then hw H C p else if w = 3 then godr H C p else -1) else -1
theorem do_c (hg : isG h) (hI : InvH h H M) (v1 v2 : Int) (hQ : ∀ M' : Mem, InvH h H M' → M' 0 12 = M 0 12 → Q (ado H (M 0 12) v1 v2) M') : PX11_does h v1 v2 M Q := by
  obtain ⟨hok, hc, hr, hT, hF, hK, hC, hS, hO, hA, hW⟩ := id hI
  have hbd := hok.2.1
  refine ⟨fun y => ?_, fun y => ?_⟩
  · rw [comer_c hok hc hC] at y
    have e : ado H (M 0 12) v1 v2 = -1 := by
      unfold ado
      rw [if_neg]
      intro w
      rw [if_pos w] at y
      exact absurd y (by decide)
    rw [← e]
    exact hQ M hI rfl
  · rw [comer_c hok hc hC] at y
    have y1 : 0 ≤ v1 ∧ v1 < H 0 4 ∧ bt (M 0 12) v1 = true := Classical.byContradiction (fun w => y (by rw [if_neg w]))
    refine fresh_q hg hI (fun M' i e m => ?_)
    have m5 := m.2.2.2.2.1 v1 y1.1 (by omega)
    rw [if_pos y1.2.2, if_pos y1.2.2] at m5
    have hq := hQ M' i e
    unfold ado at hq
    rw [if_pos y1] at hq
    rw [rd_get (p := 19) y1.1 (by omega), rd_get (p := 20) y1.1 (by omega), rd_get (p := 21) y1.1 (by omega), rd_get (p := 22) y1.1 (by omega), m5.1, m5.2.1, m5.2.2.1, m5.2.2.2]
    refine ⟨fun a => ?_, fun a => ⟨fun b => ?_, fun b => ⟨fun c => ?_, fun c => ⟨fun d => ?_, fun d => ?_⟩⟩⟩⟩
    · rw [if_pos a] at hq; exact hq
    · rw [if_neg a, if_pos b] at hq; exact hq
    · rw [if_neg a, if_neg b, if_pos c] at hq; exact hq
    · rw [if_neg a, if_neg b, if_neg c, if_pos d] at hq; exact hq
    · rw [if_neg a, if_neg b, if_neg c, if_neg d] at hq; exact hq
theorem do_r (hg : isG h) (hI : InvH h H M) (v1 v2 : Int) (hQ : ∀ M' : Mem, InvH h H M' → Q (ado H (M 0 12) v1 v2) M') : PX12_does v1 v2 M Q := by
  obtain ⟨hok, hc, hr, hT, hF, hK, hC, hS, hO, hA, hW⟩ := id hI
  have hbd := hok.2.1
  have cb := C_b hok hC
  refine ⟨fun y => ?_, fun y => ⟨fun z => ?_, fun z => ?_⟩⟩
  · rw [coming_r hok hr hC] at y
    have e : ado H (M 0 12) v1 v2 = -1 := by
      unfold ado
      rw [if_neg]
      intro w
      rw [if_pos w] at y
      exact absurd y (by decide)
    rw [← e]
    exact hQ M hI
  · rw [isIn_eq] at z
    have z1 : ¬ (0 ≤ v2 ∧ v2 ≤ 3) := fun w => by rw [if_pos w] at z; exact absurd z (by decide)
    have e : ado H (M 0 12) v1 v2 = -1 := by
      unfold ado
      by_cases a : 0 ≤ v1 ∧ v1 < H 0 4 ∧ bt (M 0 12) v1 = true
      · rw [if_pos a, if_neg (by omega), if_neg (by omega), if_neg (by omega), if_neg (by omega)]
      · rw [if_neg a]
    rw [← e]
    exact hQ M hI
  · rw [isIn_eq] at z
    rw [coming_r hok hr hC] at y
    have z1 : 0 ≤ v2 ∧ v2 ≤ 3 := Classical.byContradiction (fun w => z (by rw [if_neg w]))
    have y1 : 0 ≤ v1 ∧ v1 < H 0 4 ∧ bt (M 0 12) v1 = true := Classical.byContradiction (fun w => y (by rw [if_neg w]))
    refine plays_q hg hI rfl (fun M' i r => ?_)
    have o := r.2.2.1 v1 y1.1 (by omega)
    have hq := hQ M' i
    have hrM := i.2.2.1
    unfold ado at hq
    rw [if_pos y1] at hq
    rw [o.1, o.2.1, o.2.2]
    have v9 : v1 < 9 := by omega
    refine ⟨fun a => ⟨y1.1, v9, ?_⟩, fun a => ⟨fun b => ⟨y1.1, v9, ?_⟩, fun b => ⟨fun c => ⟨y1.1, v9, ?_⟩, fun c => ⟨y1.1, v9, fun d => ?_, fun d => ?_⟩⟩⟩⟩
    · rw [if_pos a] at hq; exact hq
    · rw [if_neg a, if_pos b] at hq; exact hq
    · rw [if_neg a, if_neg b, if_pos c] at hq; exact hq
    · rw [if_neg a, if_neg b, if_neg c, if_pos (by omega)] at hq
      unfold godr at hq
      rw [if_pos d] at hq
      exact hq
    · rw [if_neg a, if_neg b, if_neg c, if_pos (by omega)] at hq
      unfold godr at hq
      rw [if_neg d] at hq
      have w := cel_o r hok y1.1 y1.2.1 y1.2.2 d
      have dr := odr_r hok hrM (gng H (M 0 12) v1 (gout H (M 0 12) v1 - (oo H (M 0 12) v1 + H 0 6)).toNat)
      rw [w.1]
      refine ⟨y1.1, v9, w.2, dr.2, fun a16 h16 => ?_⟩
      rw [h16, dr.1]
      exact hq
theorem inv_does : ∀ E, Two_does E Inv := by
  intro E
  refine two_does (fun v1 v2 M hI _ _ _ => ?_)
  obtain ⟨h, H, hG, hI⟩ := hI
  have hh := hG.2.2.2
  refine ⟨h, hG, do_c hh hI v1 v2 (fun M1 i1 e hG1 => do_r hh i1 v1 v2 (fun M2 i2 hG2 => ⟨by rw [e], h, H, hG2, i2⟩))⟩
def aco (H : Hal) (C t w : Int) : Int := if (0 ≤ t ∧ t ≤ 200) ∧ (0 ≤ w ∧ w ≤ 3) then many H C (onw w) t else -1
theorem co_c (hg : isG h) (hI : InvH h H M) (v1 v2 : Int) (hQ : ∀ M' : Mem, InvH h H M' → M' 0 12 = M 0 12 → Q (aco H (M 0 12) v1 v2) M') : PX11_count h v1 v2 M Q := by
  obtain ⟨hok, hc, hr, hT, hF, hK, hC, hS, hO, hA, hW⟩ := id hI
  have no : ¬ ((0 ≤ v1 ∧ v1 ≤ 200) ∧ (0 ≤ v2 ∧ v2 ≤ 3)) → Q (-1) M := by
    intro z
    have e : aco H (M 0 12) v1 v2 = -1 := by unfold aco; rw [if_neg z]
    rw [← e]
    exact hQ M hI rfl
  refine ⟨fun z => ?_, fun z => ⟨fun y => no (by omega), fun y => ⟨fun x => ?_, fun x => no (by omega)⟩⟩⟩
  · rw [sec_c] at z
    exact no (fun w => by rw [if_pos w.1] at z; exact absurd z (by decide))
  · rw [sec_c] at z
    have z1 : 0 ≤ v1 ∧ v1 ≤ 200 := Classical.byContradiction (fun w => z (by rw [if_neg w]))
    refine fresh_q hg hI (fun M' i e m => ?_)
    have hq := hQ M' i e
    unfold aco at hq
    rw [if_pos ⟨z1, by omega⟩] at hq
    have hm := hm_c m z1.1 z1.2
    rw [wad (by omega) (by omega), Int.zero_add]
    have v : v2 = 0 ∨ v2 = 1 ∨ v2 = 2 ∨ v2 = 3 := by omega
    rcases v with rfl | rfl | rfl | rfl
    · rw [hm.1]; exact hq
    · rw [hm.2.1]; exact hq
    · rw [hm.2.2.1]; exact hq
    · rw [hm.2.2.2]; exact hq
theorem co_r (hg : isG h) (hI : InvH h H M) (v1 v2 : Int) (hQ : ∀ M' : Mem, InvH h H M' → Q (aco H (M 0 12) v1 v2) M') : PX12_count v1 v2 M Q := by
  obtain ⟨hok, hc, hr, hT, hF, hK, hC, hS, hO, hA, hW⟩ := id hI
  have hbd := hok.2.1
  have cb := C_b hok hC
  have no : ¬ ((0 ≤ v1 ∧ v1 ≤ 200) ∧ (0 ≤ v2 ∧ v2 ≤ 3)) → Q (-1) M := by
    intro z
    have e : aco H (M 0 12) v1 v2 = -1 := by unfold aco; rw [if_neg z]
    rw [← e]
    exact hQ M hI
  refine ⟨fun z => ?_, fun z => ⟨fun y => ?_, fun y => ?_⟩⟩
  · rw [sec_rr] at z
    exact no (fun w => by rw [if_pos w.1] at z; exact absurd z (by decide))
  · rw [isIn_eq] at y
    exact no (fun w => by rw [if_pos w.2] at y; exact absurd y (by decide))
  · rw [sec_rr] at z
    rw [isIn_eq] at y
    have z1 : 0 ≤ v1 ∧ v1 ≤ 200 := Classical.byContradiction (fun w => z (by rw [if_neg w]))
    have y1 : 0 ≤ v2 ∧ v2 ≤ 3 := Classical.byContradiction (fun w => y (by rw [if_neg w]))
    refine plays_q hg hI rfl (fun M' i r => ⟨10, ?_⟩)
    have hq := hQ M' i
    unfold aco at hq
    rw [if_pos ⟨z1, y1⟩] at hq
    have c42 : M' 66 42 = M 0 12 := by rw [r.2.1 42 (by decide) (by decide) (by decide)]; exact hC.1
    exact cnt30 (K := fun u9 M10 => Q u9 M10) hok i.2.2.1 cb.1 cb.2 c42 r y1.1 y1.2 hq 10 0 (by omega) (by omega)
theorem inv_count : ∀ E, Two_count E Inv := by
  intro E
  refine two_count (fun v1 v2 M hI _ _ _ => ?_)
  obtain ⟨h, H, hG, hI⟩ := hI
  have hh := hG.2.2.2
  refine ⟨h, hG, co_c hh hI v1 v2 (fun M1 i1 e hG1 => co_r hh i1 v1 v2 (fun M2 i2 hG2 => ⟨by rw [e], h, H, hG2, i2⟩))⟩
def adr (H : Hal) (C d w : Int) : Int := if 0 ≤ d ∧ d < H 0 2 then (if w = 0 then H 2 d else if w = 1 then H 3 d else if w = 2 then cnt (fun p => decide (od H C p = d)) (H 0 4).toNat else if w = 3 then mxo (gby H C d) (H 0 4).toNat else -1) else -1
theorem dr_c (hg : isG h) (hI : InvH h H M) (v1 v2 : Int) (hQ : ∀ M' : Mem, InvH h H M' → M' 0 12 = M 0 12 → Q (adr H (M 0 12) v1 v2) M') : PX11_door h v1 v2 M Q := by
  obtain ⟨hok, hc, hr, hT, hF, hK, hC, hS, hO, hA, hW⟩ := id hI
  have hbd := hok.2.1
  have ty : ∀ M' : Mem, InvH h H M' → M' 0 12 = M 0 12 → (0 ≤ v1 ∧ v1 < H 0 2) → Q (if v2 = 0 then H 2 v1 else if v2 = 1 then H 3 v1 else if v2 = 2 then cnt (fun p => decide (od H (M 0 12) p = v1)) (H 0 4).toNat else if v2 = 3 then mxo (gby H (M 0 12) v1) (H 0 4).toNat else -1) M' := by
    intro M' i e z
    have hq := hQ M' i e
    unfold adr at hq
    rw [if_pos z] at hq
    exact hq
  refine ⟨fun z => ?_, fun z => ?_⟩
  · rw [hasDoor_eq hc] at z
    have e : adr H (M 0 12) v1 v2 = -1 := by
      unfold adr
      rw [if_neg]
      intro w
      rw [if_pos w] at z
      exact absurd z (by decide)
    rw [← e]
    exact hQ M hI rfl
  · rw [hasDoor_eq hc] at z
    have z1 : 0 ≤ v1 ∧ v1 < H 0 2 := Classical.byContradiction (fun w => z (by rw [if_neg w]))
    have c3 := hc.2.2.1 v1 z1.1 z1.2
    have q0 := ty M hI rfl z1
    refine ⟨fun a => ?_, fun a => ⟨fun b => ?_, fun b => ⟨fun c => ?_, fun c => ⟨fun d => ?_, fun d => ?_⟩⟩⟩⟩
    · rw [if_pos a] at q0
      rw [rd_get z1.1 (by omega), c3.1]
      exact q0
    · rw [if_neg a, if_pos b] at q0
      rw [rd_get z1.1 (by omega), c3.2]
      exact q0
    · refine fresh_q hg hI (fun M' i e m a12 h12 => ?_)
      have q1 := ty M' i e z1
      rw [if_neg a, if_neg b, if_pos c] at q1
      rw [h12, oby_c hok m z1.1]
      exact q1
    · refine fresh_q hg hI (fun M' i e m a12 h12 => ?_)
      have q1 := ty M' i e z1
      rw [if_neg a, if_neg b, if_neg c, if_pos d] at q1
      rw [h12, lby_c hok m z1.1]
      exact q1
    · rw [if_neg a, if_neg b, if_neg c, if_neg d] at q0
      exact q0
theorem dr_r (hg : isG h) (hI : InvH h H M) (v1 v2 : Int) (hQ : ∀ M' : Mem, InvH h H M' → Q (adr H (M 0 12) v1 v2) M') : PX12_door v1 v2 M Q := by
  obtain ⟨hok, hc, hr, hT, hF, hK, hC, hS, hO, hA, hW⟩ := id hI
  have hbd := hok.2.1
  have cb := C_b hok hC
  have e1 : wr32 (fX12_doorMany M - 1) = H 0 2 - 1 := by rw [dMany hr, wsu (by omega) (by omega)]
  have ii := isIn_eq v1 0 (wr32 (fX12_doorMany M - 1))
  rw [e1] at ii
  refine ⟨fun z => ?_, fun z => ⟨fun y => ?_, fun y => ?_⟩⟩
  · rw [e1, ii] at z
    have e : adr H (M 0 12) v1 v2 = -1 := by
      unfold adr
      rw [if_neg]
      intro w
      rw [if_pos (by omega)] at z
      exact absurd z (by decide)
    rw [← e]
    exact hQ M hI
  · rw [isIn_eq] at y
    have y1 : ¬ (0 ≤ v2 ∧ v2 ≤ 3) := fun w => by rw [if_pos w] at y; exact absurd y (by decide)
    have e : adr H (M 0 12) v1 v2 = -1 := by
      unfold adr
      by_cases a : 0 ≤ v1 ∧ v1 < H 0 2
      · rw [if_pos a, if_neg (by omega), if_neg (by omega), if_neg (by omega), if_neg (by omega)]
      · rw [if_neg a]
    rw [← e]
    exact hQ M hI
  · rw [e1, ii] at z
    rw [isIn_eq] at y
    have z0 : 0 ≤ v1 ∧ v1 ≤ H 0 2 - 1 := Classical.byContradiction (fun w => z (by rw [if_neg w]))
    have z1 : 0 ≤ v1 ∧ v1 < H 0 2 := by omega
    have y1 : 0 ≤ v2 ∧ v2 ≤ 3 := Classical.byContradiction (fun w => y (by rw [if_neg w]))
    refine plays_q hg hI rfl (fun M' i r => ?_)
    have hq := hQ M' i
    unfold adr at hq
    rw [if_pos z1] at hq
    have hrM := i.2.2.1
    have r3 := hrM.2.2.1 v1 z1.1 z1.2
    have c42 : M' 66 42 = M 0 12 := by rw [r.2.1 42 (by decide) (by decide) (by decide)]; exact hC.1
    have i6 : Hid (wr32 (6 + v1) = 6 + v1) := hid (wad (by omega) (by omega))
    rw [i6.out]
    refine ⟨fun a => ⟨by omega, by omega, ?_⟩, fun a => ⟨fun b => ⟨by omega, by omega, ?_⟩, fun b => ?_⟩⟩
    · rw [if_pos a] at hq
      rw [r3.1]
      exact hq
    · rw [if_neg a, if_pos b] at hq
      rw [r3.2]
      exact hq
    · have o := oby_r hok hrM cb.1 cb.2 c42 r z1.1 z1.2 (if v2 = 3 then (1 : Int) else 0)
      refine ⟨o.2, fun a14 h14 => ?_⟩
      rw [h14, o.1]
      rw [if_neg a, if_neg b] at hq
      by_cases c : v2 = 2
      · rw [if_pos c] at hq
        rw [if_neg (show ¬ v2 = 3 by omega), if_pos (rfl : (0 : Int) = 0)]
        exact hq
      · have d : v2 = 3 := by omega
        rw [if_neg c, if_pos d] at hq
        rw [if_pos d, if_neg (show ¬ (1 : Int) = 0 by decide)]
        exact hq
theorem inv_door : ∀ E, Two_door E Inv := by
  intro E
  refine two_door (fun v1 v2 M hI _ _ _ => ?_)
  obtain ⟨h, H, hG, hI⟩ := hI
  have hh := hG.2.2.2
  refine ⟨h, hG, dr_c hh hI v1 v2 (fun M1 i1 e hG1 => dr_r hh i1 v1 v2 (fun M2 i2 hG2 => ⟨by rw [e], h, H, hG2, i2⟩))⟩
def pkv (H : Hal) (C : Int) : Int := pkp (many H C 2) 200 0 1
def ofv (H : Hal) (C : Int) : Int := ofp (many H C 2) (H 0 8) 201 0
def awo (H : Hal) (C w : Int) : Int := if H 0 0 = 0 then -1 else if w = 0 then alrm H C else if w = 1 then algd H C else if w = 2 then pkv H C else if w = 3 then many H C 2 (pkv H C) else if w = 4 then (if ofv H C = -1 then 0 else 1) else if w = 5 then ofv H C else if w = 6 then cnt (fpa H C) (H 0 4).toNat else if w = 7 then mxo (gout H C) (H 0 4).toNat else if w = 8 then cnt (fah H C (H 0 5)) (H 0 4).toNat else -1
theorem H00 (ho : Hok H) : H 0 0 = 0 ∨ 2 ≤ H 0 0 := by
  rcases ho.1 with z | z
  · exact Or.inl z.1
  · exact Or.inr z.1
theorem wo_c (hg : isG h) (hI : InvH h H M) (v1 : Int) (hQ : ∀ M' : Mem, InvH h H M' → M' 0 12 = M 0 12 → Q (awo H (M 0 12) v1) M') : PX11_whole h v1 M Q := by
  obtain ⟨hok, hc, hr, hT, hF, hK, hC, hS, hO, hA, hW⟩ := id hI
  have hbd := hok.2.1
  have h0 := H00 hok
  have ti : fX1_isTold M h = if H 0 0 ≤ 0 then 0 else 1 := by unfold fX1_isTold; rw [hc.1.1]
  refine ⟨fun z => ?_, fun z => ?_⟩
  · rw [ti] at z
    have e : awo H (M 0 12) v1 = -1 := by
      unfold awo
      rw [if_pos]
      refine Classical.byContradiction (fun w => ?_)
      rw [if_neg (by omega)] at z
      exact absurd z (by decide)
    rw [← e]
    exact hQ M hI rfl
  · have z1 : ¬ H 0 0 = 0 := fun w => z (by rw [ti, if_pos (by omega)])
    refine fresh_q hg hI (fun M' i e m => ?_)
    have hq := hQ M' i e
    unfold awo at hq
    rw [if_neg z1] at hq
    have hcM := i.2.1
    have pk : fX3_peak M' = pkv H (M 0 12) := pk_c m 200 0 1 (by decide) (by decide) (by decide) (by decide)
    have of1 : fX3_firstWith M' (M' h 17) = ofv H (M 0 12) := by
      rw [hcM.1.2.2.2.2.2.2.2.2]
      exact off_c m (H 0 8) 201 0 (by decide) (by decide)
    have pb := pkp_b (many H (M 0 12) 2) 200 0 1 (by decide) (by decide) (by decide) (by decide)
    rw [m.2.2.1, m.2.2.2.1]
    refine ⟨fun a0 => ?_, fun a0 => ⟨fun a1 => ?_, fun a1 => ⟨fun a2 x hx => ?_, fun a2 => ⟨fun a3 x hx => ?_, fun a3 => ⟨fun a4 x hx => ?_, fun a4 => ⟨fun a5 x hx => ?_, fun a5 => ⟨fun a6 x hx => ?_, fun a6 => ⟨fun a7 x hx => ?_, fun a7 => ⟨fun a8 x hx => ?_, fun a8 => ?_⟩⟩⟩⟩⟩⟩⟩⟩⟩
    · rw [if_pos a0] at hq; exact hq
    · rw [if_neg a0, if_pos a1] at hq; exact hq
    · rw [if_neg a0, if_neg a1, if_pos a2] at hq; rw [hx, pk]; exact hq
    · rw [if_neg a0, if_neg a1, if_neg a2, if_pos a3] at hq
      rw [hx, pk, (hm_c m (v := pkv H (M 0 12)) pb.1 pb.2).1]; exact hq
    · rw [if_neg a0, if_neg a1, if_neg a2, if_neg a3, if_pos a4] at hq; rw [hx, of1]; exact hq
    · rw [if_neg a0, if_neg a1, if_neg a2, if_neg a3, if_neg a4, if_pos a5] at hq; rw [hx, of1]; exact hq
    · rw [if_neg a0, if_neg a1, if_neg a2, if_neg a3, if_neg a4, if_neg a5, if_pos a6] at hq; rw [hx, pas_c hok hcM m]; exact hq
    · rw [if_neg a0, if_neg a1, if_neg a2, if_neg a3, if_neg a4, if_neg a5, if_neg a6, if_pos a7] at hq; rw [hx, lst_c hok m]; exact hq
    · rw [if_neg a0, if_neg a1, if_neg a2, if_neg a3, if_neg a4, if_neg a5, if_neg a6, if_neg a7, if_pos a8] at hq
      rw [hx, ahd_c hok m, hcM.1.2.2.2.2.2.1]; exact hq
    · rw [if_neg a0, if_neg a1, if_neg a2, if_neg a3, if_neg a4, if_neg a5, if_neg a6, if_neg a7, if_neg a8] at hq; exact hq
theorem wo_r (hg : isG h) (hI : InvH h H M) (v1 : Int) (hQ : ∀ M' : Mem, InvH h H M' → Q (awo H (M 0 12) v1) M') : PX12_whole v1 M Q := by
  obtain ⟨hok, hc, hr, hT, hF, hK, hC, hS, hO, hA, hW⟩ := id hI
  have hbd := hok.2.1
  have cb := C_b hok hC
  refine ⟨fun z => ?_, fun z => ⟨fun y => ?_, fun y => ?_⟩⟩
  · rw [hr.1.1] at z
    have e : awo H (M 0 12) v1 = -1 := by unfold awo; rw [if_pos z]
    rw [← e]
    exact hQ M hI
  · rw [isIn_eq] at y
    have y1 : ¬ (0 ≤ v1 ∧ v1 ≤ 8) := fun w => by rw [if_pos w] at y; exact absurd y (by decide)
    have e : awo H (M 0 12) v1 = -1 := by
      unfold awo
      by_cases a : H 0 0 = 0
      · rw [if_pos a]
      · rw [if_neg a, if_neg (by omega), if_neg (by omega), if_neg (by omega), if_neg (by omega), if_neg (by omega), if_neg (by omega), if_neg (by omega), if_neg (by omega), if_neg (by omega)]
    rw [← e]
    exact hQ M hI
  · rw [hr.1.1] at z
    rw [isIn_eq] at y
    have y1 : 0 ≤ v1 ∧ v1 ≤ 8 := Classical.byContradiction (fun w => y (by rw [if_neg w]))
    refine plays_q hg hI rfl (fun M' i r => ?_)
    have hq := hQ M' i
    unfold awo at hq
    rw [if_neg z] at hq
    have hrM := i.2.2.1
    have c42 : M' 66 42 = M 0 12 := by rw [r.2.1 42 (by decide) (by decide) (by decide)]; exact hC.1
    have pk := pk_r hok hrM cb.1 cb.2 c42 r 200 0 1
    have pk1 : fX12_peak M' = pkv H (M 0 12) := pk.1
    have pk2 : nX12_peak M' := pk.2
    have of := off_r hok hrM cb.1 cb.2 c42 r 201 0
    have of1 : fX12_offIn M' = ofv H (M 0 12) := of.1
    have of2 : nX12_offIn M' := of.2
    have ps := pas_r hok hrM cb.1 cb.2 c42 r
    have la := lst_r hok hrM cb.1 cb.2 c42 r
    have oa := ahd_r hok hrM cb.1 cb.2 c42 r
    rw [r.2.2.2.1, r.2.2.2.2.1]
    refine ⟨fun a0 => ?_, fun a0 => ⟨fun a1 => ?_, fun a1 => ⟨fun a2 => ⟨pk2, fun x hx => ?_⟩, fun a2 => ⟨fun a3 => ⟨pk2, fun x hx => ?_⟩, fun a3 => ⟨fun a4 => ⟨of2, fun x hx => ?_⟩, fun a4 => ⟨fun a5 => ⟨of2, fun x hx => ?_⟩, fun a5 => ⟨fun a6 => ⟨ps.2, fun x hx => ?_⟩, fun a6 => ⟨fun a7 => ⟨la.2, fun x hx => ?_⟩, fun a7 => ⟨oa.2, fun x hx => ?_⟩⟩⟩⟩⟩⟩⟩⟩⟩
    · rw [if_pos a0] at hq; exact hq
    · rw [if_neg a0, if_pos a1] at hq; exact hq
    · rw [if_neg a0, if_neg a1, if_pos a2] at hq; rw [hx, pk1]; exact hq
    · rw [if_neg a0, if_neg a1, if_neg a2, if_pos a3] at hq
      have o := om_r hok hrM cb.1 cb.2 c42 r x
      refine ⟨o.2, fun x2 hx2 => ?_⟩
      rw [hx2, o.1, hx, pk1]; exact hq
    · rw [if_neg a0, if_neg a1, if_neg a2, if_neg a3, if_pos a4] at hq; rw [hx, of1]; exact hq
    · rw [if_neg a0, if_neg a1, if_neg a2, if_neg a3, if_neg a4, if_pos a5] at hq; rw [hx, of1]; exact hq
    · rw [if_neg a0, if_neg a1, if_neg a2, if_neg a3, if_neg a4, if_neg a5, if_pos a6] at hq; rw [hx, ps.1]; exact hq
    · rw [if_neg a0, if_neg a1, if_neg a2, if_neg a3, if_neg a4, if_neg a5, if_neg a6, if_pos a7] at hq; rw [hx, la.1]; exact hq
    · rw [if_neg a0, if_neg a1, if_neg a2, if_neg a3, if_neg a4, if_neg a5, if_neg a6, if_neg a7, if_pos (by omega)] at hq; rw [hx, oa.1]; exact hq
theorem inv_whole : ∀ E, Two_whole E Inv := by
  intro E
  refine two_whole (fun v1 M hI _ _ => ?_)
  obtain ⟨h, H, hG, hI⟩ := hI
  have hh := hG.2.2.2
  refine ⟨h, hG, wo_c hh hI v1 (fun M1 i1 e hG1 => wo_r hh i1 v1 (fun M2 i2 hG2 => ⟨by rw [e], h, H, hG2, i2⟩))⟩
end
