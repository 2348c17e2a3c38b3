/-! what the reference reads -/
section
variable {H : Hal} {M : Mem}
theorem isComing_r (ho : Hok H) (hr : Rh H M) {C : Int} (hC : M 66 42 = C) (C0 : 0 ≤ C) (C1 : C < 512) {p : Int} (p0 : 0 ≤ p) (p1 : p < H 0 4) : fX12_isComing M p = if bt C p then 1 else 0 := by
  have hb := ho.2.1
  obtain ⟨c, rfl⟩ := Int.eq_ofNat_of_zero_le C0
  unfold fX12_isComing
  rw [isPerson_eq ho hr, if_pos (show 0 ≤ p ∧ p < H 0 4 from ⟨p0, p1⟩), if_neg (show ¬ (1 : Int) = 0 by decide), hC]
  obtain ⟨k, rfl⟩ := Int.eq_ofNat_of_zero_le p0
  have := bit_at (a := c) (p := k) (by omega) (by omega)
  by_cases h : c.testBit k = true
  · rw [if_pos (this.mpr h), if_pos (by rw [bt_n, Int.toNat_natCast]; exact h)]
  · rw [if_neg (fun z => h (this.mp z)), if_neg (by rw [bt_n, Int.toNat_natCast]; exact h)]
theorem isComing_o (ho : Hok H) (hr : Rh H M) {p : Int} (h : ¬ (0 ≤ p ∧ p < H 0 4)) : fX12_isComing M p = 0 := by
  unfold fX12_isComing
  rw [isPerson_eq ho hr, if_neg h, if_pos rfl]
theorem ix95 {p t : Int} (p0 : 0 ≤ p) (p1 : p < 9) (t0 : 0 ≤ t) (t1 : t < 201) : wr32 (wr32 (9 * t) + p) = 9 * t + p := by
  rw [wmu (a := 9) (by omega) (by omega), wad (by omega) (by omega)]
theorem where_r {p t : Int} (p0 : 0 ≤ p) (p1 : p < 9) (t0 : 0 ≤ t) (t1 : t < 201) : fX12_whereIn M p t = M 95 (9 * t + p) ∧ nX12_whereIn p t := by
  unfold fX12_whereIn nX12_whereIn
  rw [ix95 p0 p1 t0 t1]
  exact ⟨rfl, by omega, by omega⟩
theorem nwhere {p t : Int} (p0 : 0 ≤ p) (p1 : p < 9) (t0 : 0 ≤ t) (t1 : t < 201) : nX12_whereIn p t := (where_r (M := fun _ _ => 0) p0 p1 t0 t1).2
theorem stp_r (ho : Hok H) (hr : Rh H M) {c : Int} (hf : fre H c) (s : Int) : fX12_stepped M c s = stp H c s ∧ nX12_stepped M c s := by
  have fb := fre_b ho hf
  have e := ediv_b fb.1 (show 0 < H 0 0 by omega)
  have hcl := hcells ho
  have hdx : -1 ≤ dx s ∧ dx s ≤ 1 := by
    unfold dx
    by_cases a : s = 1
    · rw [if_pos a]; omega
    · rw [if_neg a]
      by_cases b : s = 3
      · rw [if_pos b]; omega
      · rw [if_neg b]; omega
  have hdy : -1 ≤ dy s ∧ dy s ≤ 1 := by
    unfold dy
    by_cases a : s = 2
    · rw [if_pos a]; omega
    · rw [if_neg a]
      by_cases b : s = 0
      · rw [if_pos b]; omega
      · rw [if_neg b]; omega
  have ex : (if s = 1 then (1 : Int) else (if s = 3 then ((-1) : Int) else 0)) = dx s := rfl
  have ey : (if s = 2 then (1 : Int) else (if s = 0 then ((-1) : Int) else 0)) = dy s := rfl
  obtain ⟨x, hx⟩ : ∃ x, x = c % H 0 0 + dx s := ⟨_, rfl⟩
  obtain ⟨y, hy⟩ : ∃ y, y = c / H 0 0 + dy s := ⟨_, rfl⟩
  unfold fX12_stepped nX12_stepped stp
  rw [hr.1.1, hr.1.2.1, Int.tmod_eq_emod_of_nonneg fb.1, Int.tdiv_eq_ediv_of_nonneg fb.1, wr32_id (x := c / H 0 0) (by unfold r32; omega), ex, ey, ← hx, ← hy, wr32_id (x := x) (by unfold r32; omega), wr32_id (x := y) (by unfold r32; omega), wsu (a := H 0 0) (by omega) (by omega), wsu (a := H 0 1) (by omega) (by omega), isIn_eq, isIn_eq]
  by_cases ax : 0 ≤ x ∧ x ≤ H 0 0 - 1
  · rw [if_pos ax, if_neg (show ¬ (1 : Int) = 0 by decide)]
    by_cases ay : 0 ≤ y ∧ y ≤ H 0 1 - 1
    · rw [if_pos ay, if_neg (show ¬ (1 : Int) = 0 by decide)]
      have ci := cell_in (w := H 0 0) (t := H 0 1) (x := x) (y := y) (by omega) (by omega) (by omega) (by omega)
      have hm : 0 ≤ H 0 0 * y := Int.mul_nonneg (by omega) (by omega)
      have wn := wallNow hr (c := H 0 0 * y + x) ci.1 (by omega)
      rw [wr32_id (x := H 0 0 * y) (by unfold r32; omega), wr32_id (x := H 0 0 * y + x) (by unfold r32; omega), wn.1]
      refine ⟨?_, ⟨by omega, by omega, fun _ _ => wn.2⟩⟩
      by_cases w : H 1 (H 0 0 * y + x) = 0
      · rw [if_pos w, if_pos ⟨by omega, by omega, by omega, by omega, w⟩]
      · rw [if_neg w, if_neg (fun z => w z.2.2.2.2)]
    · rw [if_neg ay, if_pos rfl]
      exact ⟨by rw [if_neg (fun z => ay ⟨z.2.2.1, by have := z.2.2.2.1; omega⟩)], ⟨by omega, by omega, fun _ z => absurd rfl z⟩⟩
  · rw [if_neg ax, if_pos rfl]
    exact ⟨by rw [if_neg (fun z => ax ⟨z.1, by have := z.2.1; omega⟩)], ⟨by omega, by omega, fun z => absurd rfl z⟩⟩
theorem far_r (ho : Hok H) (hr : Rh H M) {a b : Int} (ha : fre H a) (hb : fre H b) : fX12_apart M a b = far H a b ∧ nX12_apart M := by
  have fa := fre_b ho ha
  have fb := fre_b ho hb
  have ea := ediv_b fa.1 (show 0 < H 0 0 by omega)
  have eb := ediv_b fb.1 (show 0 < H 0 0 by omega)
  unfold fX12_apart nX12_apart far
  rw [hr.1.1, Int.tmod_eq_emod_of_nonneg fa.1, Int.tmod_eq_emod_of_nonneg fb.1, Int.tdiv_eq_ediv_of_nonneg fa.1, Int.tdiv_eq_ediv_of_nonneg fb.1, wr32_id (x := a / H 0 0) (by unfold r32; omega), wr32_id (x := b / H 0 0) (by unfold r32; omega)]
  obtain ⟨x, hx⟩ : ∃ x, x = a % H 0 0 - b % H 0 0 := ⟨_, rfl⟩
  obtain ⟨y, hy⟩ : ∃ y, y = a / H 0 0 - b / H 0 0 := ⟨_, rfl⟩
  have sz : ∀ v : Int, -100 ≤ v → v ≤ 100 → fX12_size v = iabs v ∧ 0 ≤ iabs v ∧ iabs v ≤ 100 := by
    intro v v0 v1
    unfold fX12_size iabs
    by_cases z : 0 ≤ v
    · rw [if_pos z, if_pos z]; omega
    · rw [if_neg z, if_neg z, wr32_id (by unfold r32; omega)]; omega
  have sx := sz x (by omega) (by omega)
  have sy := sz y (by omega) (by omega)
  rw [← hx, ← hy, wr32_id (x := x) (by unfold r32; omega), wr32_id (x := y) (by unfold r32; omega), sx.1, sy.1, wad (by omega) (by omega)]
  exact ⟨rfl, by omega, by omega, by omega, by omega⟩
theorem odr_lp (ho : Hok H) (hr : Rh H M) (c : Int) : ∀ (k n : Nat), (n : Int) + k = H 0 2 → lX12_doorIn_2 k c n M = fst1 (fun k => decide (H 2 k = c ∧ H 3 k = 0)) n k ∧ nlX12_doorIn_2 k c n M
  | 0, n, _ => ⟨rfl, trivial⟩
  | k + 1, n, h => by
    have hb := ho.2.1
    have r3 := hr.2.2.1 n (by omega) (by omega)
    have ih := odr_lp ho hr c k (n + 1) (by omega)
    have e3 : ((n : Int) + 1) = ((n + 1 : Nat) : Int) := by omega
    have e : lX12_doorIn_2 (k + 1) c n M = (if (M 90 (wr32 (6 + (n : Int)))) = c then (if (M 92 n) = 0 then (n : Int) else (lX12_doorIn_2 k c ((n : Int) + 1) M)) else (lX12_doorIn_2 k c ((n : Int) + 1) M)) := rfl
    have en : nlX12_doorIn_2 (k + 1) c n M = ((0 ≤ (wr32 (6 + (n : Int))) ∧ (wr32 (6 + (n : Int))) < 12) ∧ ((M 90 (wr32 (6 + (n : Int)))) = c → 0 ≤ (n : Int) ∧ (n : Int) < 6) ∧ (¬ ((M 90 (wr32 (6 + (n : Int)))) = c) → (nlX12_doorIn_2 k c ((n : Int) + 1) M)) ∧ ((M 90 (wr32 (6 + (n : Int)))) = c → ¬ ((M 92 n) = 0) → (nlX12_doorIn_2 k c ((n : Int) + 1) M))) := rfl
    have ef : fst1 (fun k => decide (H 2 k = c ∧ H 3 k = 0)) n (k + 1) = if decide (H 2 n = c ∧ H 3 n = 0) = true then (n : Int) else fst1 (fun k => decide (H 2 k = c ∧ H 3 k = 0)) ((n : Int) + 1) k := rfl
    rw [e, en, ef, wad (a := 6) (b := (n : Int)) (by omega) (by omega), r3.1, r3.2, e3, ih.1]
    refine ⟨?_, ⟨by omega, by omega⟩, fun _ => ⟨by omega, by omega⟩, fun _ => ih.2, fun _ _ => ih.2⟩
    by_cases a : H 2 n = c
    · rw [if_pos a]
      by_cases b : H 3 n = 0
      · rw [if_pos b, if_pos (decide_eq_true ⟨a, b⟩)]
      · rw [if_neg b, if_neg (fun z => b (of_decide_eq_true z).2)]
    · rw [if_neg a, if_neg (fun z => a (of_decide_eq_true z).1)]
theorem odr_r (ho : Hok H) (hr : Rh H M) (c : Int) : fX12_doorIn M c = odr H c ∧ nX12_doorIn M c := by
  have hb := ho.2.1
  have := odr_lp ho hr c (H 0 2).toNat 0 (by omega)
  unfold fX12_doorIn nX12_doorIn odr
  rw [dMany hr, Int.sub_zero]
  exact this
theorem nrr_r (ho : Hok H) (hr : Rh H M) (h93 : ∀ c, 0 ≤ c → c < 54 → M 93 c = dst H c) {c : Int} (hf : fre H c) : fX12_nearer M c = nrr H c ∧ nX12_nearer M c := by
  have fb := fre_b ho hf
  have one : ∀ w : Int, (∀ X : Int, (if M 93 c ≤ M 93 (fX12_stepped M c w) then X else fX12_stepped M c w) = if dst H (stp H c w) < dst H c then stp H c w else X) ∧ nX12_stepped M c w ∧ 0 ≤ fX12_stepped M c w ∧ fX12_stepped M c w < 54 := by
    intro w
    have s := stp_r ho hr hf w
    have sb := fre_b ho (stp_fre hf w)
    rw [s.1]
    refine ⟨fun X => ?_, s.2, by omega, by omega⟩
    rw [h93 c (by omega) (by omega), h93 _ (by omega) (by omega)]
    by_cases a : dst H (stp H c w) < dst H c
    · rw [if_neg (by omega), if_pos a]
    · rw [if_pos (by omega), if_neg a]
  have l3 : lX12_nearer_2 1 c 3 M = if dst H (stp H c 3) < dst H c then stp H c 3 else c := (one 3).1 c
  have l2 : lX12_nearer_2 2 c 2 M = if dst H (stp H c 2) < dst H c then stp H c 2 else lX12_nearer_2 1 c 3 M := (one 2).1 _
  have l1 : lX12_nearer_2 3 c 1 M = if dst H (stp H c 1) < dst H c then stp H c 1 else lX12_nearer_2 2 c 2 M := (one 1).1 _
  have l0 : lX12_nearer_2 4 c 0 M = if dst H (stp H c 0) < dst H c then stp H c 0 else lX12_nearer_2 3 c 1 M := (one 0).1 _
  refine ⟨?_, ?_⟩
  · unfold fX12_nearer nrr
    rw [l0, l1, l2, l3]
  · have b : 0 ≤ c ∧ c < 54 := ⟨by omega, by omega⟩
    exact ⟨(one 0).2.1, (one 0).2.2, b, fun _ => ⟨(one 1).2.1, (one 1).2.2, b, fun _ => ⟨(one 2).2.1, (one 2).2.2, b, fun _ => ⟨(one 3).2.1, (one 3).2.2, b, fun _ => trivial⟩⟩⟩⟩
end
/-- the reference's search -/
def rwR (s : Bq) (M : Mem) : Prop := (∀ c, 0 ≤ c → c < 54 → M 93 c = s.1 c) ∧ (∀ i, 0 ≤ i → i < s.2.2 → M 94 i = s.2.1 i)
theorem rwR_push {s : Bq} {M : Mem} {c x : Int} (h : rwR s M) : rwR (fset s.1 c x, fset s.2.1 s.2.2 c, s.2.2 + 1) (mset (mset M 93 c x) 94 s.2.2 c) := by
  refine ⟨fun d d0 d1 => ?_, fun i i0 i1 => ?_⟩
  · show _ = (if d = c then x else s.1 d)
    rw [mset_o (by decide)]
    by_cases e : d = c
    · rw [if_pos e, e, mset_e]
    · rw [if_neg e, mset_k e]
      exact h.1 d d0 d1
  · have i1' : i < s.2.2 + 1 := i1
    show _ = if i = s.2.2 then c else s.2.1 i
    by_cases e : i = s.2.2
    · rw [if_pos e, e, mset_e]
    · rw [if_neg e, mset_k e, mset_o (by decide)]
      exact h.2 i i0 (by omega)
theorem Rh_93 {H : Hal} {M M' : Mem} (e : ∀ q, (q ≤ 65 ∨ (84 < q ∧ q < 93)) → M' q = M q) (e1 : M' 66 38 = M 66 38) (e2 : M' 66 39 = M 66 39) (h : Rh H M) : Rh H M' :=
  Rh_fr (g := 32) ⟨fun q a b => e q (by omega), e1, e2, fun q a b => e q (by omega)⟩ h
theorem sp4 {K : Mem → Prop} {Q : Int → Mem → Prop} : ∀ (k n : Nat) (M : Mem), n ≤ 54 → 54 < n + k → (∀ M' : Mem, (∀ q, q ≠ 93 → M' q = M q) → (∀ c : Int, n ≤ c → c < 54 → M' 93 c = 1000) → (∀ c : Int, c < n → M' 93 c = M 93 c) → K M') → PX12_spreads_4 K Q k n M := by
  intro k
  induction k with
  | zero => intro n M a b; omega
  | succ k ih =>
    intro n M a b hK
    refine ⟨fun z => hK M (fun _ _ => rfl) (fun c x y => by omega) (fun _ _ => rfl), fun z => ⟨by omega, by omega, ?_⟩⟩
    intro M3 h3
    rw [wad (a := (n : Int)) (by omega) (by omega)]
    have e3 : ((n : Int) + 1) = ((n + 1 : Nat) : Int) := by omega
    rw [e3]
    refine ih (n + 1) M3 (by omega) (by omega) (fun M' f1 f2 f3 => hK M' (fun q x => by rw [f1 q x, h3, mset_p x]) (fun c x y => ?_) (fun c x => by rw [f3 c (by omega), h3, mset_k (by omega)]))
    by_cases e : c = n
    · rw [e, f3 _ (by omega), h3, mset_e]
    · exact f2 c (by omega) y
theorem sp27 {H : Hal} {K : Int → Mem → Prop} {Q : Int → Mem → Prop} (ho : Hok H) : ∀ (k n : Nat) (M : Mem), Rh H M → (n : Int) ≤ H 0 2 → H 0 2 < (n : Int) + k → rwR (bini H n) M → (∀ M' : Mem, (∀ q, q ≠ 93 → q ≠ 94 → M' q = M q) → rwR (bini H (H 0 2).toNat) M' → K (bini H (H 0 2).toNat).2.2 M') → PX12_spreads_27 K Q k (bini H n).2.2 n M := by
  have hb := ho.2.1
  intro k
  induction k with
  | zero => intro n M _ a b; omega
  | succ k ih =>
    intro n M hr a b hw hK
    refine ⟨fun z => ?_, fun z => ?_⟩
    · rw [dMany hr] at z
      have e : n = (H 0 2).toNat := by omega
      rw [e]
      exact hK M (fun _ _ _ => rfl) (by rw [← e]; exact hw)
    · rw [dMany hr] at z
      have r3 := hr.2.2.1 n (by omega) (by omega)
      have o4 := ho.2.2.2.1 n (by omega) (by omega)
      have fb := fre_b ho o4.1
      have bi := bI_ini ho n a
      have b54 := bI_54 bi.1
      have b0 := bi.1.1
      rw [wad (a := 6) (b := (n : Int)) (by omega) (by omega), r3.1, r3.2, wad (a := (n : Int)) (by omega) (by omega)]
      have e3 : ((n : Int) + 1) = ((n + 1 : Nat) : Int) := by omega
      have e : bini H (n + 1) = if H 3 n = 0 then (fset (bini H n).1 (H 2 n) 0, fset (bini H n).2.1 (bini H n).2.2 (H 2 n), (bini H n).2.2 + 1) else bini H n := rfl
      rw [e3]
      refine ⟨by omega, by omega, fun y => ⟨by omega, by omega, by omega, by omega, ?_⟩, fun y => ?_⟩
      · intro M5 h5
        refine ⟨by omega, by omega, by omega, by omega, ?_⟩
        intro M7 h7
        rw [if_pos y] at e
        have e90 : M5 90 (6 + (n : Int)) = H 2 n := by
          rw [h5, mset_o (by decide)]
          exact r3.1
        rw [e90, h5] at h7
        have e2 : wr32 ((bini H n).2.2 + 1) = (bini H (n + 1)).2.2 := by
          rw [wad (by omega) (by omega), e]
        rw [e2]
        refine ih (n + 1) M7 ?_ (by omega) (by omega) ?_ (fun M' f1 f2 => hK M' (fun q x y => by rw [f1 q x y, h7, mset_p y, mset_p x]) f2)
        · rw [h7]
          exact Rh_93 (fun q x => by rw [mset_p (by omega), mset_p (by omega)]) (by rw [mset_o (by decide), mset_o (by decide)]) (by rw [mset_o (by decide), mset_o (by decide)]) hr
        · rw [h7, e]
          exact rwR_push hw
      · rw [if_neg y] at e
        have := ih (n + 1) M hr (by omega) (by omega) (by rw [e]; exact hw) hK
        rw [e] at this
        exact this
theorem sp92 {H : Hal} {K : Int → Mem → Prop} {Q : Int → Mem → Prop} (ho : Hok H) {kk : Int} (k0 : 0 ≤ kk) : ∀ (k w : Nat) (s : Bq) (M : Mem), Rh H M → bI H s → kk < s.2.2 → rwR s M → w ≤ 4 → 4 < w + k →
    (∀ (s' : Bq) (M' : Mem), ((w = 0 → s' = b4s H kk s) ∧ (w = 1 → s' = bst H kk (bst H kk (bst H kk s 1) 2) 3) ∧ (w = 2 → s' = bst H kk (bst H kk s 2) 3) ∧ (w = 3 → s' = bst H kk s 3) ∧ (w = 4 → s' = s)) → (∀ q, q ≠ 93 → q ≠ 94 → M' q = M q) → rwR s' M' → K s'.2.2 M') → PX12_spreads_92 kk K Q k s.2.2 w M := by
  have hb := ho.2.1
  intro k
  induction k with
  | zero => intro w s M _ _ _ _ a b; omega
  | succ k ih =>
    intro w s M hr hI hk hw a b hK
    refine ⟨fun z => hK s M ⟨fun y => by omega, fun y => by omega, fun y => by omega, fun y => by omega, fun _ => rfl⟩ (fun _ _ _ => rfl) hw, fun z => ?_⟩
    have o := hI.2.2.1 kk k0 hk
    have fb := fre_b ho o.1
    have b54 := bI_54 hI
    have b0 := hI.1
    have sr := stp_r ho hr o.1 (w : Int)
    have sfb := fre_b ho (stp_fre o.1 (w : Int))
    have bs := bI_st ho (w := (w : Int)) hI k0 hk
    have e3 : ((w : Int) + 1) = ((w + 1 : Nat) : Int) := by omega
    have m94 : M 94 kk = s.2.1 kk := hw.2 kk k0 hk
    have nx : ∀ (N : Mem), Rh H N → (∀ q, q ≠ 93 → q ≠ 94 → N q = M q) → rwR (bst H kk s w) N → PX12_spreads_92 kk K Q k (bst H kk s w).2.2 ((w + 1 : Nat) : Int) N := by
      intro N c1 f1 r1
      refine ih (w + 1) (bst H kk s w) N c1 bs.1 (by have := bs.2.1; omega) r1 (by omega) (by omega) (fun s' M' h1 h2 h3 => hK s' M' ?_ (fun q x y => by rw [h2 q x y, f1 q x y]) h3)
      refine ⟨fun y => ?_, fun y => ?_, fun y => ?_, fun y => ?_, fun y => by omega⟩
      · subst y; exact h1.2.1 rfl
      · subst y; exact h1.2.2.1 rfl
      · subst y; exact h1.2.2.2.1 rfl
      · subst y; exact h1.2.2.2.2 rfl
    rw [m94]
    refine ⟨k0, by omega, sr.2, ?_⟩
    intro a4 ha4
    rw [sr.1] at ha4
    rw [wad (a := (w : Int)) (by omega) (by omega), e3, ha4, hw.1 _ (by omega) (by omega)]
    refine ⟨by omega, by omega, fun y => ⟨by omega, by omega, by omega, by omega, by omega, by omega, ?_⟩, fun y => ?_⟩
    · intro M7 h7
      have lt := bI_lt hI sfb.1 sfb.2.1 y
      have eb : bst H kk s w = (fset s.1 (stp H (s.2.1 kk) w) (s.1 (s.2.1 kk) + 1), fset s.2.1 s.2.2 (stp H (s.2.1 kk) w), s.2.2 + 1) := by
        unfold bst
        rw [if_pos y]
      refine ⟨by omega, by omega, ?_⟩
      intro M9 h9
      rw [hw.1 _ (by omega) (by omega), wad (a := s.1 (s.2.1 kk)) (by omega) (by omega)] at h7
      rw [h7] at h9
      have e2 : wr32 (s.2.2 + 1) = (bst H kk s w).2.2 := by
        rw [wad (by omega) (by omega), eb]
      rw [e2]
      refine nx M9 ?_ (fun q x y => by rw [h9, mset_p y, mset_p x]) ?_
      · rw [h9]
        exact Rh_93 (fun q x => by rw [mset_p (by omega), mset_p (by omega)]) (by rw [mset_o (by decide), mset_o (by decide)]) (by rw [mset_o (by decide), mset_o (by decide)]) hr
      · rw [h9, eb]
        exact rwR_push hw
    · have eb : bst H kk s w = s := by
        unfold bst
        rw [if_neg y]
      have := nx M hr (fun _ _ _ => rfl) (by rw [eb]; exact hw)
      rw [eb] at this
      exact this
theorem sp85 {H : Hal} {Q : Int → Mem → Prop} {K : Mem → Prop} (ho : Hok H) : ∀ (k f : Nat) (i : Int) (s : Bq) (M : Mem), Rh H M → bI H s → 0 ≤ i → i ≤ s.2.2 → bcl H i s → rwR s M → 54 < i + k → 54 < i + f →
    (∀ M' : Mem, (∀ q, q ≠ 93 → q ≠ 94 → M' q = M q) → rwR (bfs H f i s) M' → K M') → PX12_spreads_85 K Q k s.2.2 i M := by
  have hb := ho.2.1
  intro k
  induction k with
  | zero => intro f i s M _ hI a b _ _ d; have := bI_54 hI; omega
  | succ k ih =>
    intro f i s M hr hI i0 i1 hcl hw hk hf hK
    have b54 := bI_54 hI
    obtain ⟨f, rfl⟩ : ∃ f', f = f' + 1 := ⟨f - 1, by omega⟩
    refine ⟨fun z => ?_, fun y => ?_⟩
    · refine hK M (fun _ _ _ => rfl) ?_
      rw [bfs_e, if_neg (by omega)]
      exact hw
    · refine ⟨6, sp92 (kk := i) ho i0 6 0 s M hr hI (by omega) hw (by omega) (by omega) (fun s' M' h1 h2 h3 => ?_)⟩
      have e := h1.1 rfl
      have b4 := b4_ok ho hI i0 (by omega) hcl
      rw [← e] at b4
      rw [wad (a := i) (by omega) (by omega)]
      refine ih f (i + 1) s' M' (Rh_93 (fun q x => h2 q (by omega) (by omega)) (by rw [h2 66 (by decide) (by decide)]) (by rw [h2 66 (by decide) (by decide)]) hr) b4.1 (by omega) (by have := b4.2.1; omega) b4.2.2.1 h3 (by omega) (by omega) (fun M'' g1 g2 => hK M'' (fun q x w => by rw [g1 q x w, h2 q x w]) ?_)
      rw [bfs_e, if_pos (by omega), ← e]
      exact g2
theorem spr {H : Hal} {M : Mem} {Q : Int → Mem → Prop} (ho : Hok H) (hr : Rh H M) (hQ : ∀ M' : Mem, (∀ q, q ≠ 93 → q ≠ 94 → M' q = M q) → (∀ c, 0 ≤ c → c < 54 → M' 93 c = dst H c) → Q 0 M') : PX12_spreads M Q := by
  have hb := ho.2.1
  refine ⟨55, sp4 55 0 M (by omega) (by omega) (fun M2 e1 e2 _ => ?_)⟩
  have r2 : Rh H M2 := Rh_93 (fun q x => e1 q (by omega)) (by rw [e1 66 (by decide)]) (by rw [e1 66 (by decide)]) hr
  have r0 : rwR (bini H 0) M2 := ⟨fun c a b => e2 c (by omega) b, fun i a b => by have : i < 0 := b; omega⟩
  refine ⟨8, ?_⟩
  have l := sp27 (K := fun u5 M6 => (∃ k8 : Nat, PX12_spreads_85 (fun M9 => Q 0 M9) Q k8 u5 0 M6)) (Q := Q) ho 8 0 M2 r2 (by omega) (by omega) r0 (fun M6 f1 f2 => ?_)
  · exact l
  · have bi := bI_ini ho (H 0 2).toNat (by omega)
    have r6 : Rh H M6 := Rh_93 (fun q x => f1 q (by omega) (by omega)) (by rw [f1 66 (by decide) (by decide)]) (by rw [f1 66 (by decide) (by decide)]) r2
    refine ⟨60, sp85 ho 60 60 0 _ M6 r6 bi.1 (by omega) bi.1.1 (fun i a b => by omega) f2 (by omega) (by omega) (fun M9 g1 g2 => ?_)⟩
    exact hQ M9 (fun q a b => by rw [g1 q a b, f1 q a b, e1 q a]) g2.1
