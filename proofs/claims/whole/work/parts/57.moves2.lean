/-- a fact that arithmetic shall not look at -/
def Hid (P : Prop) : Prop := P
theorem Hid.out {P : Prop} (h : Hid P) : P := h
theorem hid {P : Prop} (h : P) : Hid P := h
theorem mv_fin {M A : Mem} {H : Hal} {C p V : Int} {s : Nat} (p0 : 0 ≤ p) (a99 : A 99 p = nwv H C s p ∧ ∀ j, j ≠ p → A 99 j = M 99 j) (a98 : A 98 p = gts H C p (s + 1) ∧ ∀ j, j ≠ p → A 98 j = M 98 j) (aq : ∀ q, q ≠ 98 → q ≠ 99 → A q = M q) (hV : V = rps H C p (s + 1)) :
    (∀ q, q ≠ 95 → q ≠ 98 → q ≠ 99 → mset A 95 (9 * ((s + 1 : Nat) : Int) + p) V q = M q) ∧ (mset A 95 (9 * ((s + 1 : Nat) : Int) + p) V 99 p = nwv H C s p ∧ ∀ j, j ≠ p → mset A 95 (9 * ((s + 1 : Nat) : Int) + p) V 99 j = M 99 j) ∧ (mset A 95 (9 * ((s + 1 : Nat) : Int) + p) V 98 p = gts H C p (s + 1) ∧ ∀ j, j ≠ p → mset A 95 (9 * ((s + 1 : Nat) : Int) + p) V 98 j = M 98 j) ∧ mset A 95 (9 * ((s + 1 : Nat) : Int) + p) V 95 (9 * ((s + 1 : Nat) : Int) + p) = rps H C p (s + 1) ∧ (∀ i, i ≠ 9 * ((s + 1 : Nat) : Int) + p → mset A 95 (9 * ((s + 1 : Nat) : Int) + p) V 95 i = M 95 i) := by
  refine ⟨fun q a b c => by rw [mset_p a, aq q b c], ⟨by rw [mset_o (by decide)]; exact a99.1, fun j hj => by rw [mset_o (by decide)]; exact a99.2 j hj⟩, ⟨by rw [mset_o (by decide)]; exact a98.1, fun j hj => by rw [mset_o (by decide)]; exact a98.2 j hj⟩, by rw [mset_e, hV], fun i hi => by rw [mset_k hi, aq 95 (by decide) (by decide)]⟩
theorem rp_out {H : Hal} {C p : Int} {s : Nat} (b0 : 0 < H 0 6) (o : oo H C p ≠ -1) (os : oo H C p ≤ (s : Int)) (ge : oo H C p + H 0 6 ≤ gout H C p) (go : gout H C p ≤ (s : Int)) : rps H C p s = rps H C p (s + 1) := by
  have ob := oo_b (H := H) (C := C) (p := p)
  unfold rps
  rw [if_neg (show ¬ (oo H C p = -1 ∨ (s : Int) < oo H C p) by omega), if_neg (show ¬ ((s : Int) < oo H C p + H 0 6) by omega), if_neg (show ¬ (gout H C p = -1 ∨ (s : Int) < gout H C p) by omega), if_neg (show ¬ (oo H C p = -1 ∨ ((s + 1 : Nat) : Int) < oo H C p) by omega), if_neg (show ¬ (((s + 1 : Nat) : Int) < oo H C p + H 0 6) by omega), if_neg (show ¬ (gout H C p = -1 ∨ ((s + 1 : Nat) : Int) < gout H C p) by omega)]
theorem rp_opn {H : Hal} {C p : Int} {s : Nat} (o : oo H C p ≠ -1) (os : oo H C p ≤ (s : Int)) (lt : ((s + 1 : Nat) : Int) < oo H C p + H 0 6) : rps H C p s = rps H C p (s + 1) := by
  unfold rps
  rw [if_neg (show ¬ (oo H C p = -1 ∨ (s : Int) < oo H C p) by omega), if_pos (show ((s : Int) < oo H C p + H 0 6) by omega), if_neg (show ¬ (oo H C p = -1 ∨ ((s + 1 : Nat) : Int) < oo H C p) by omega), if_pos lt]
theorem rp_eR {H : Hal} {C p : Int} {s : Nat} (o : oo H C p ≠ -1) (os : oo H C p ≤ (s : Int)) (cu : ¬ (gout H C p ≠ -1 ∧ gout H C p ≤ (s : Int))) (nl : ¬ (((s + 1 : Nat) : Int) < oo H C p + H 0 6)) : rps H C p s = gng H C p (((s + 1 : Nat) : Int) - (oo H C p + H 0 6)).toNat := by
  unfold rps
  rw [if_neg (show ¬ (oo H C p = -1 ∨ (s : Int) < oo H C p) by omega)]
  by_cases z : (s : Int) < oo H C p + H 0 6
  · rw [if_pos z, show (((s + 1 : Nat) : Int) - (oo H C p + H 0 6)).toNat = 0 by omega]
  · rw [if_neg z, if_pos (show (gout H C p = -1 ∨ (s : Int) < gout H C p) by omega), show ((s : Int) - (oo H C p + H 0 6) + 1) = (((s + 1 : Nat) : Int) - (oo H C p + H 0 6)) by omega]
theorem lt_of3 {a b : Int} (h : ¬ (a ≠ -1 ∧ a ≤ b)) (k : a ≠ b + 1) : a = -1 ∨ b + 1 < a := by omega
theorem rp_in {H : Hal} (ho : Hok H) {C p : Int} {s : Nat} (o : oo H C p ≠ -1) (os : oo H C p ≤ (s : Int)) (cu : ¬ (gout H C p ≠ -1 ∧ gout H C p ≤ (s : Int))) (nl : ¬ (((s + 1 : Nat) : Int) < oo H C p + H 0 6)) (cd : Hid (odr H (rps H C p s) = -1)) : gout H C p = -1 ∨ ((s + 1 : Nat) : Int) < gout H C p := by
  rcases gout_s ho o with u | u
  · exact Or.inl u.1
  · refine lt_of3 cu (fun y => u.2.2.1 ?_)
    have cd := cd.out
    rw [rp_eR o os cu nl] at cd
    rw [y]
    exact cd
theorem rp_go {H : Hal} (ho : Hok H) {C p : Int} {s : Nat} (hs : s < 200) (o : oo H C p ≠ -1) (os : oo H C p ≤ (s : Int)) (cu : ¬ (gout H C p ≠ -1 ∧ gout H C p ≤ (s : Int))) (nl : ¬ (((s + 1 : Nat) : Int) < oo H C p + H 0 6)) (cd : ¬ Hid (odr H (rps H C p s) = -1)) : gout H C p = ((s + 1 : Nat) : Int) := by
  have u1 : ((s + 1 : Nat) : Int) ≤ 200 := by omega
  have u2 : oo H C p + H 0 6 ≤ ((s + 1 : Nat) : Int) := by omega
  refine Classical.byContradiction (fun ne => ?_)
  have hc := lt_of3 cu ne
  apply cd
  show odr H (rps H C p s) = -1
  rw [rp_eR o os cu nl]
  rcases gout_s ho o with u | u
  · exact u.2 _ u2 u1
  · refine u.2.2.2 _ u2 ?_
    rcases hc with v | v
    · have := u.1
      have := ho.2.1
      exfalso
      clear u cd
      have ob := oo_b (H := H) (C := C) (p := p)
      omega
    · exact v
theorem rp_n1 {H : Hal} {C p : Int} {s : Nat} (o : oo H C p ≠ -1) (os : oo H C p ≤ (s : Int)) (cu : ¬ (gout H C p ≠ -1 ∧ gout H C p ≤ (s : Int))) (nl : ¬ (((s + 1 : Nat) : Int) < oo H C p + H 0 6)) (g : gout H C p = -1 ∨ ((s + 1 : Nat) : Int) < gout H C p) : nrr H (rps H C p s) = rps H C p (s + 1) := by
  rw [rp_eR o os cu nl]
  unfold rps
  rw [if_neg (show ¬ (oo H C p = -1 ∨ ((s + 1 : Nat) : Int) < oo H C p) by omega), if_neg nl, if_pos g, show (((s + 1 : Nat) : Int) - (oo H C p + H 0 6) + 1).toNat = (((s + 1 : Nat) : Int) - (oo H C p + H 0 6)).toNat + 1 by omega]
  rfl
theorem rp_n2 {H : Hal} {C p : Int} {s : Nat} (o : oo H C p ≠ -1) (os : oo H C p ≤ (s : Int)) (cu : ¬ (gout H C p ≠ -1 ∧ gout H C p ≤ (s : Int))) (nl : ¬ (((s + 1 : Nat) : Int) < oo H C p + H 0 6)) (g : gout H C p = ((s + 1 : Nat) : Int)) : rps H C p s = rps H C p (s + 1) := by
  rw [rp_eR o os cu nl]
  unfold rps
  rw [if_neg (show ¬ (oo H C p = -1 ∨ ((s + 1 : Nat) : Int) < oo H C p) by omega), if_neg nl, if_neg (show ¬ (gout H C p = -1 ∨ ((s + 1 : Nat) : Int) < gout H C p) by omega), g]
theorem gt_k {H : Hal} {C p : Int} {s : Nat} (g : gout H C p = -1 ∨ ((s + 1 : Nat) : Int) < gout H C p) : gts H C p s = gts H C p (s + 1) := by
  unfold gts
  rw [if_neg (show ¬ (gout H C p ≠ -1 ∧ gout H C p ≤ (s : Int)) by omega), if_neg (show ¬ (gout H C p ≠ -1 ∧ gout H C p ≤ ((s + 1 : Nat) : Int)) by omega)]
theorem gt_o {H : Hal} {C p : Int} {s : Nat} (cu : gout H C p ≠ -1 ∧ gout H C p ≤ (s : Int)) : gts H C p s = gts H C p (s + 1) := by
  unfold gts
  rw [if_pos cu, if_pos (show (gout H C p ≠ -1 ∧ gout H C p ≤ ((s + 1 : Nat) : Int)) by omega)]
theorem gt_n {H : Hal} {C p : Int} {s : Nat} (g : gout H C p = ((s + 1 : Nat) : Int)) : ((s + 1 : Nat) : Int) = gts H C p (s + 1) := by
  unfold gts
  rw [g, if_pos (by omega)]
theorem wt_no {H : Hal} {C p : Int} {s : Nat} (ho : Hok H) (b0 : 0 < H 0 6) (w : oo H C p = -1 ∨ (s : Int) < oo H C p) : ∀ t : Int, t ≤ (s : Int) + 1 → ¬ (gout H C p ≠ -1 ∧ gout H C p ≤ t) := by
  intro t ht z
  by_cases y : oo H C p = -1
  · exact z.1 (by unfold gout; rw [if_pos y])
  · rcases gout_s ho y with u | u
    · exact z.1 u.1
    · have := u.1
      clear u
      omega
theorem wt_g {H : Hal} {C p : Int} {s : Nat} (g : ∀ t : Int, t ≤ (s : Int) + 1 → ¬ (gout H C p ≠ -1 ∧ gout H C p ≤ t)) : gts H C p s = gts H C p (s + 1) := by
  unfold gts
  rw [if_neg (g _ (by omega)), if_neg (g _ (by omega))]
theorem wt_O {H : Hal} {C p : Int} {s : Nat} (p0 : 0 ≤ p) (p1 : p < H 0 4) (hb : bt C p = true) (cw : Os H C s p = -1) : Os H C (s + 1) p = if nwv H C s p = 0 then -1 else (s : Int) + 1 := by
  have ne : nwv H C s p = if alrm H C = -1 then bys H C (opn H C s) p s else 0 := by unfold nwv; rw [if_pos cw]
  rw [ne]
  unfold Os
  by_cases a : alrm H C = -1
  · rw [if_pos a, if_pos a, opn_e]
    have cw2 : opn H C s p = -1 := by
      unfold Os at cw
      rw [if_pos a] at cw
      exact cw
    by_cases d : bys H C (opn H C s) p s = 0
    · rw [if_neg (fun z => z.2.2.2.2 d), if_pos d]
      exact cw2
    · rw [if_pos ⟨p0, p1, hb, cw2, d⟩, if_neg d]
  · rw [if_neg a, if_neg a, if_pos rfl]
theorem wt_r {H : Hal} {C p : Int} {s : Nat} (b0 : 0 < H 0 6) (hs : s < 200) (p0 : 0 ≤ p) (p1 : p < H 0 4) (hb : bt C p = true) (cw : Os H C s p = -1) : (if nwv H C s p = 0 then stp H (rps H C p s) (H 13 (12 * p + (s : Int) % H 12 p)) else rps H C p s) = rps H C p (s + 1) := by
  have O1 := wt_O p0 p1 hb cw
  by_cases d : nwv H C s p = 0
  · rw [if_pos d] at O1 ⊢
    rw [rps_w (by omega) O1, rps_w (by omega) cw]
    rfl
  · rw [if_neg d] at O1 ⊢
    have eo1 := os_oo (H := H) (C := C) (p := p) (s := s + 1) (by omega)
    rw [rps_w (by omega) cw]
    have oe : oo H C p = (s : Int) + 1 := by
      rw [O1] at eo1
      by_cases z : oo H C p ≠ -1 ∧ oo H C p ≤ ((s + 1 : Nat) : Int)
      · rw [if_pos z] at eo1
        exact eo1.symm
      · rw [if_neg z] at eo1
        clear O1 cw d
        omega
    unfold rps
    rw [if_neg (show ¬ (oo H C p = -1 ∨ ((s + 1 : Nat) : Int) < oo H C p) by clear O1 cw d eo1; omega), if_pos (show ((s + 1 : Nat) : Int) < oo H C p + H 0 6 by clear O1 cw d eo1; omega)]
    show wlk H p s = wlk H p (oo H C p - 1).toNat
    rw [oe]
    congr 1
    clear O1 cw d eo1
    omega
theorem wt_w {H : Hal} {C p : Int} {s : Nat} (hs : s ≤ 200) (cw : Os H C s p = -1) : oo H C p = -1 ∨ (s : Int) < oo H C p := by
  have eo := os_oo (H := H) (C := C) (p := p) hs
  rw [cw] at eo
  clear cw
  by_cases z : oo H C p ≠ -1 ∧ oo H C p ≤ (s : Int)
  · rw [if_pos z] at eo
    exact absurd eo.symm z.1
  · clear eo
    omega
theorem op_w {H : Hal} {C p : Int} {s : Nat} (hs : s ≤ 200) (cw : ¬ Os H C s p = -1) : Os H C s p = oo H C p ∧ oo H C p ≠ -1 ∧ oo H C p ≤ (s : Int) := by
  have eo := os_oo (H := H) (C := C) (p := p) hs
  by_cases z : oo H C p ≠ -1 ∧ oo H C p ≤ (s : Int)
  · rw [if_pos z] at eo
    exact ⟨eo, z.1, z.2⟩
  · rw [if_neg z] at eo
    exact absurd eo cw
theorem wt_st {H : Hal} {A : Mem} {p : Int} {s : Nat} (ho : Hok H) (hrA : Rh H A) (p0 : 0 ≤ p) (p1 : p < H 0 4) (hs : s < 200) : Hid (fX12_personOf A p 5 = H 12 p) ∧ Hid (wr32 (6 + Int.tmod (s : Int) (fX12_personOf A p 5)) = 6 + (s : Int) % H 12 p) ∧ Hid (fX12_personOf A p (6 + (s : Int) % H 12 p) = H 13 (12 * p + (s : Int) % H 12 p)) ∧ Hid (nX12_personOf p 5 ∧ fX12_personOf A p 5 ≠ 0 ∧ nX12_personOf p (6 + (s : Int) % H 12 p)) := by
  have hbd := ho.2.1
  have h12 := (ho.2.2.2.2.2.2.1 p p0 p1).2.2.2.2.2.2.2.2
  have em := ediv_b (a := (s : Int)) (b := H 12 p) (by omega) (by omega)
  have p5 : Hid (fX12_personOf A p 5 = H 12 p) := hid (by rw [(pOf p0 (by omega) (by omega) (by omega)).1]; exact (hrA.2.2.2.2.1 p p0 p1).2.2.2.2.2.1)
  refine ⟨p5, ?_, ?_, hid ⟨nPOf p0 (by omega) (by omega) (by omega), by rw [p5.out]; omega, nPOf p0 (by omega) (by omega) (by omega)⟩⟩
  · apply hid
    rw [p5.out, Int.tmod_eq_emod_of_nonneg (by omega), wad (by omega) (by omega)]
  · apply hid
    rw [(pOf p0 (by omega) (by omega) (by omega)).1]
    exact hrA.2.2.2.2.2 p _ p0 p1 em.2.2.1 em.2.2.2.1
theorem q18_ {s : Nat} {p : Int} (hs : s < 200) (p0 : 0 ≤ p) (p1 : p < 9) : 0 ≤ 9 * ((s + 1 : Nat) : Int) + p ∧ 9 * ((s + 1 : Nat) : Int) + p < 1809 := ⟨by omega, by omega⟩
theorem le_s1 {a : Int} {s : Nat} (h : a ≤ (s : Int)) : a ≤ ((s + 1 : Nat) : Int) := by omega
theorem gl_open {H : Hal} (ho : Hok H) {C p : Int} {s : Nat} (o : oo H C p ≠ -1) (lt : ((s + 1 : Nat) : Int) < oo H C p + H 0 6) : gout H C p = -1 ∨ ((s + 1 : Nat) : Int) < gout H C p := by
  rcases gout_s ho o with u | u
  · exact Or.inl u.1
  · exact Or.inr (Int.lt_of_lt_of_le lt u.1)
theorem mv_r {H : Hal} {M : Mem} {C : Int} {s : Nat} {p : Int} (ho : Hok H) (hr : Rh H M) (C0 : 0 ≤ C) (C1 : C < 512) (hC : M 66 42 = C) (hs : s < 200) (p0 : 0 ≤ p) (p1 : p < H 0 4) (hb : bt C p = true) (h96 : ∀ q, 0 ≤ q → q < 9 → M 96 q = Os H C s q) (h95 : ∀ q, 0 ≤ q → q < H 0 4 → bt C q = true → M 95 (9 * (s : Int) + q) = rps H C q s) (h51 : M 66 51 = als H C s) (h98 : M 98 p = gts H C p s) (h93 : ∀ c, 0 ≤ c → c < 54 → M 93 c = dst H c) :
    nX12_moves M p ((s + 1 : Nat) : Int) ∧ (∀ q, q ≠ 95 → q ≠ 98 → q ≠ 99 → fmX12_moves M p ((s + 1 : Nat) : Int) q = M q) ∧ (fmX12_moves M p ((s + 1 : Nat) : Int) 99 p = nwv H C s p ∧ ∀ j, j ≠ p → fmX12_moves M p ((s + 1 : Nat) : Int) 99 j = M 99 j) ∧ (fmX12_moves M p ((s + 1 : Nat) : Int) 98 p = gts H C p (s + 1) ∧ ∀ j, j ≠ p → fmX12_moves M p ((s + 1 : Nat) : Int) 98 j = M 98 j) ∧ fmX12_moves M p ((s + 1 : Nat) : Int) 95 (9 * ((s + 1 : Nat) : Int) + p) = rps H C p (s + 1) ∧ (∀ i, i ≠ 9 * ((s + 1 : Nat) : Int) + p → fmX12_moves M p ((s + 1 : Nat) : Int) 95 i = M 95 i) := by
  have h98h := hid h98
  have h51h := hid h51
  clear h98 h51
  have hbd := ho.2.1
  have o7 := ho.2.2.2.2.2.2.1 p p0 p1
  have us : Hid (wr32 (((s + 1 : Nat) : Int) - 1) = (s : Int)) := hid <| by rw [wsu (by omega) (by omega)]; omega
  obtain ⟨N, hN⟩ : ∃ m : Mem, m = mset M 99 p 0 := ⟨_, rfl⟩
  have Nq : ∀ q, q ≠ 99 → N q = M q := fun q a => by rw [hN, mset_p a]
  have hrN : Rh H N := Rh_93 (fun q x => Nq q (by omega)) (by rw [Nq 66 (by decide)]) (by rw [Nq 66 (by decide)]) hr
  have wp := hid (where_r (M := M) p0 (show p < 9 by omega) (show (0 : Int) ≤ (s : Int) by omega) (by omega))
  have eW : Hid (fX12_whereIn M p (wr32 (((s + 1 : Nat) : Int) - 1)) = rps H C p s) := hid (by rw [us.out, wp.out.1]; exact h95 p p0 p1 hb)
  have fW := rps_fre (C := C) ho p0 p1 s
  have n96 : Hid (N 96 p = Os H C s p) := hid <| by rw [Nq 96 (by decide)]; exact h96 p p0 (by omega)
  have n98 : Hid (N 98 p = gts H C p s) := hid <| by rw [Nq 98 (by decide)]; exact h98h.out
  have n51 : Hid (N 66 51 = als H C s) := hid <| by rw [Nq 66 (by decide)]; exact h51h.out
  have b := hid (Os_b (H := H) (C := C) (s := s) (p := p))
  have io := hid (isOpen_r (u := ((s + 1 : Nat) : Int)) (O := Os H C s) ho hrN p0 (by omega) n96.out (by have := b.out; omega) b.out.1)
  have iw : Hid (fX12_isWaiting N p (s : Int) = if Os H C s p = -1 then 1 else 0) := by
    apply hid
    unfold fX12_isWaiting
    rw [n96.out]
    by_cases z : Os H C s p = -1
    · rw [if_pos z, if_pos z]
    · rw [if_neg z, if_neg z, if_pos b.out.2]
  have nw : nX12_isWaiting N p := ⟨⟨p0, by omega⟩, fun _ => ⟨p0, by omega⟩⟩
  have nou : nX12_isOut N p := ⟨⟨p0, by omega⟩, fun _ => ⟨p0, by omega⟩⟩
  have iu : Hid (fX12_isOut N p (s : Int) = if gout H C p ≠ -1 ∧ gout H C p ≤ (s : Int) then 1 else 0) := by
    apply hid
    unfold fX12_isOut
    rw [n98.out]
    unfold gts
    by_cases z : gout H C p ≠ -1 ∧ gout H C p ≤ (s : Int)
    · rw [if_pos z, if_neg z.1, if_neg (by omega), if_pos z]
    · rw [if_neg z, if_pos rfl, if_neg z]
  have ix := hid (ix95 p0 (show p < 9 by omega) (show (0 : Int) ≤ ((s + 1 : Nat) : Int) by omega) (by omega))
  -- the needs that stand in each case
  have N99 : N 99 p = 0 := by rw [hN, mset_e]
  have N99j : ∀ j, j ≠ p → N 99 j = M 99 j := fun j hj => by rw [hN, mset_k hj]
  unfold fmX12_moves nX12_moves
  rw [eW.out, us.out, ← hN, iw.out, iu.out, io.out.1, n51.out, ix.out]
  by_cases cw : Hid (Os H C s p = -1)
  · -- waits
    have gno := wt_no ho (by omega) (wt_w (by omega) cw.out)
    have obr1 := hid (obr ho hrN C0 C1 (by rw [Nq 66 (by decide)]; exact hC) hs p0 p1 hb cw.out (fun q x y => by rw [Nq 96 (by decide)]; exact h96 q x y) (fun q x y z => by rw [Nq 95 (by decide)]; exact h95 q x y z) n51.out)
    rw [obr1.out.1, if_pos cw.out, if_neg (show ¬ (1 : Int) = 0 by decide), if_neg (show ¬ (1 : Int) = 0 by decide), mset_e]
    obtain ⟨A, hA⟩ : ∃ m : Mem, m = mset N 99 p (nwv H C s p) := ⟨_, rfl⟩
    rw [← hA]
    have Aq : ∀ q, q ≠ 99 → A q = M q := fun q a => by rw [hA, mset_p a, Nq q a]
    have hrA : Rh H A := Rh_93 (fun q x => Aq q (by omega)) (by rw [Aq 66 (by decide)]) (by rw [Aq 66 (by decide)]) hr
    obtain ⟨p5, ew6, pst, nn⟩ := wt_st (s := s) ho hrA p0 p1 hs
    have sr := hid (stp_r ho hrA fW (H 13 (12 * p + (s : Int) % H 12 p)))
    rw [ew6.out, pst.out, sr.out.1]
    have q9 : 0 ≤ p ∧ p < 9 := ⟨p0, by omega⟩
    have q18 := q18_ hs p0 q9.2
    have n10 : ¬ (1 : Int) = 0 := by decide
    have k1 := wp.out.2
    have k2 := obr1.out.2
    have k3 := nn.out.1
    have k4 := nn.out.2.1
    have k5 := nn.out.2.2
    have k6 := sr.out.2
    refine ⟨⟨k1, q9, nw, q18, fun z => absurd z n10, fun z => absurd z n10, fun z => absurd z n10, fun z => absurd z n10, fun z => absurd z n10, fun z => absurd z n10, fun _ => k2, fun _ => q9, fun _ => q9, fun _ _ => k3, fun _ _ => k4, fun _ _ => k5, fun _ _ => k6⟩, ?_⟩
    exact mv_fin p0 ⟨by rw [hA, mset_e], fun j hj => by rw [hA, mset_k hj, N99j j hj]⟩ ⟨by rw [Aq 98 (by decide), h98h.out]; exact wt_g gno, fun j hj => by rw [Aq 98 (by decide)]⟩ (fun q x y => Aq q y) (wt_r (by omega) hs p0 p1 hb cw.out)
  · -- he has opened
    have oe := hid (op_w (by omega) (show ¬ Os H C s p = -1 from cw))
    have al : Hid (alrm H C = -1) := by
      refine Classical.byContradiction (fun z => ?_)
      apply cw
      show Os H C s p = -1
      unfold Os
      rw [if_neg (show ¬ alrm H C = -1 from z)]
    have ea : Hid (als H C s = -1) := by
      apply hid
      unfold als
      rw [if_neg (fun z => z.1 al.out)]
    have nv : Hid (nwv H C s p = 0) := by
      apply hid
      unfold nwv
      rw [if_neg (show ¬ Os H C s p = -1 from cw)]
    have dr := hid (odr_r ho hrN (rps H C p s))
    have nr := hid (nrr_r ho hrN (fun c x y => by rw [Nq 93 (by decide)]; exact h93 c x y) fW)
    have q9 : 0 ≤ p ∧ p < 9 := ⟨p0, by omega⟩
    have q18 := q18_ hs p0 q9.2
    have b06 : 0 < H 0 6 := by omega
    have n10 : ¬ (1 : Int) = 0 := by decide
    have k1 := wp.out.2
    have k2 := io.out.2
    have k3 := dr.out.2
    have k4 := nr.out.2
    rw [dr.out.1, nr.out.1, if_neg (show ¬ Os H C s p = -1 from cw), if_pos (rfl : (0 : Int) = 0), if_pos (rfl : (0 : Int) = 0), ea.out, if_pos (rfl : (-1 : Int) = -1), if_pos (rfl : (0 : Int) = 0), if_pos (rfl : (0 : Int) = 0)]
    refine ⟨⟨k1, q9, nw, q18, fun _ => nou, fun _ _ => k2, fun _ _ _ => k3, fun _ _ _ _ => k4, fun _ _ _ _ z => absurd rfl z, fun _ _ _ _ _ => q9, fun z => absurd rfl z, fun z => absurd rfl z, fun z => absurd rfl z, fun z => absurd rfl z, fun z => absurd rfl z, fun z => absurd rfl z, fun z => absurd rfl z⟩, ?_⟩
    by_cases cu : Hid (gout H C p ≠ -1 ∧ gout H C p ≤ (s : Int))
    · rw [if_pos cu.out, if_neg n10, if_neg n10]
      refine mv_fin p0 ⟨by rw [N99, nv.out], N99j⟩ ⟨by rw [n98.out]; exact gt_o cu.out, fun j hj => by rw [Nq 98 (by decide)]⟩ (fun q x y => Nq q y) (rp_out b06 oe.out.2.1 oe.out.2.2 ?_ cu.out.2)
      rcases gout_s ho oe.out.2.1 with u | u
      · exact absurd u.1 cu.out.1
      · exact u.1
    · rw [if_neg (show ¬ (gout H C p ≠ -1 ∧ gout H C p ≤ (s : Int)) from cu), if_pos (rfl : (0 : Int) = 0), if_pos (rfl : (0 : Int) = 0)]
      by_cases cop : isop H (Os H C s) p ((s + 1 : Nat) : Int) = true
      · have c2 := of_decide_eq_true cop
        rw [oe.out.1] at c2
        rw [if_pos cop, if_neg n10, if_neg n10]
        exact mv_fin p0 ⟨by rw [N99, nv.out], N99j⟩ ⟨by rw [n98.out]; exact gt_k (gl_open ho oe.out.2.1 c2.2.2), fun j hj => by rw [Nq 98 (by decide)]⟩ (fun q x y => Nq q y) (rp_opn oe.out.2.1 oe.out.2.2 c2.2.2)
      · have c2 : Hid (¬ (((s + 1 : Nat) : Int) < oo H C p + H 0 6)) := by
          apply hid
          intro z
          apply cop
          unfold isop
          rw [decide_eq_true_iff, oe.out.1]
          exact ⟨oe.out.2.1, le_s1 oe.out.2.2, z⟩
        rw [if_neg cop, if_pos (rfl : (0 : Int) = 0), if_pos (rfl : (0 : Int) = 0)]
        by_cases cd : Hid (odr H (rps H C p s) = -1)
        · have g := rp_in ho oe.out.2.1 oe.out.2.2 cu c2.out cd
          rw [if_pos cd.out, if_pos cd.out]
          exact mv_fin p0 ⟨by rw [N99, nv.out], N99j⟩ ⟨by rw [n98.out]; exact gt_k g, fun j hj => by rw [Nq 98 (by decide)]⟩ (fun q x y => Nq q y) (rp_n1 oe.out.2.1 oe.out.2.2 cu c2.out g)
        · have g := rp_go ho hs oe.out.2.1 oe.out.2.2 cu c2.out cd
          rw [if_neg (show ¬ (odr H (rps H C p s) = -1) from cd), if_neg (show ¬ (odr H (rps H C p s) = -1) from cd)]
          exact mv_fin p0 ⟨by rw [mset_o (by decide), N99, nv.out], fun j hj => by rw [mset_o (by decide), N99j j hj]⟩ ⟨by rw [mset_e]; exact gt_n g, fun j hj => by rw [mset_k hj, Nq 98 (by decide)]⟩ (fun q x y => by rw [mset_p x, Nq q y]) (rp_n2 oe.out.2.1 oe.out.2.2 cu c2.out g)
