def bcl (H : Hal) (k : Int) (s : Bq) : Prop := ∀ i, 0 ≤ i → i < k → ∀ w, 0 ≤ w → w ≤ 3 → s.1 (stp H (s.2.1 i) w) ≠ 1000
def b4s (H : Hal) (k : Int) (s : Bq) : Bq := bst H k (bst H k (bst H k (bst H k s 0) 1) 2) 3
theorem b4_ok {H : Hal} (ho : Hok H) {s : Bq} {k : Int} (h : bI H s) (k0 : 0 ≤ k) (k1 : k < s.2.2) (hc : bcl H k s) : bI H (b4s H k s) ∧ s.2.2 ≤ (b4s H k s).2.2 ∧ bcl H (k + 1) (b4s H k s) ∧ (b4s H k s).2.1 k = s.2.1 k ∧ (∀ c, s.1 c ≠ 1000 → (b4s H k s).1 c = s.1 c) := by
  have a0 := bI_st ho (w := 0) h k0 k1
  have a1 := bI_st ho (w := 1) a0.1 k0 (by omega)
  have a2 := bI_st ho (w := 2) a1.1 k0 (by omega)
  have a3 := bI_st ho (w := 3) a2.1 k0 (by omega)
  have q0 := a0.2.2.1 k k0 k1
  have q1 := (a1.2.2.1 k k0 (by omega)).trans q0
  have q2 := (a2.2.2.1 k k0 (by omega)).trans q1
  have q3 := (a3.2.2.1 k k0 (by omega)).trans q2
  have qi : ∀ i, 0 ≤ i → i < s.2.2 → (b4s H k s).2.1 i = s.2.1 i := fun i i0 i1 => (a3.2.2.1 i i0 (by omega)).trans ((a2.2.2.1 i i0 (by omega)).trans ((a1.2.2.1 i i0 (by omega)).trans (a0.2.2.1 i i0 i1)))
  have m1 : ∀ c, s.1 c ≠ 1000 → (bst H k s 0).1 c ≠ 1000 := fun c z => by rw [a0.2.2.2.1 c z]; exact z
  have m2 : ∀ c, (bst H k s 0).1 c ≠ 1000 → (bst H k (bst H k s 0) 1).1 c ≠ 1000 := fun c z => by rw [a1.2.2.2.1 c z]; exact z
  have m3 : ∀ c, (bst H k (bst H k s 0) 1).1 c ≠ 1000 → (bst H k (bst H k (bst H k s 0) 1) 2).1 c ≠ 1000 := fun c z => by rw [a2.2.2.2.1 c z]; exact z
  have m4 : ∀ c, (bst H k (bst H k (bst H k s 0) 1) 2).1 c ≠ 1000 → (b4s H k s).1 c ≠ 1000 := fun c z => by
    show (bst H k (bst H k (bst H k (bst H k s 0) 1) 2) 3).1 c ≠ 1000
    rw [a3.2.2.2.1 c z]; exact z
  refine ⟨a3.1, Int.le_trans a0.2.1 (Int.le_trans a1.2.1 (Int.le_trans a2.2.1 a3.2.1)), fun i i0 i1 w w0 w1 => ?_, q3, fun c z => ?_⟩
  · by_cases e : i = k
    · have q3' : (b4s H k s).2.1 k = s.2.1 k := q3
      rw [e, q3']
      have : w = 0 ∨ w = 1 ∨ w = 2 ∨ w = 3 := by omega
      rcases this with rfl | rfl | rfl | rfl
      · exact m4 _ (m3 _ (m2 _ a0.2.2.2.2))
      · have := a1.2.2.2.2
        rw [q0] at this
        exact m4 _ (m3 _ this)
      · have := a2.2.2.2.2
        rw [q1] at this
        exact m4 _ this
      · have := a3.2.2.2.2
        rw [q2] at this
        exact this
    · rw [qi i i0 (by omega)]
      exact m4 _ (m3 _ (m2 _ (m1 _ (hc i i0 (by omega) w w0 w1))))
  · have c0 := a0.2.2.2.1 c z
    have c1 := a1.2.2.2.1 c (by rw [c0]; exact z)
    have c2 := a2.2.2.2.1 c (by rw [c1, c0]; exact z)
    have c3 := a3.2.2.2.1 c (by rw [c2, c1, c0]; exact z)
    show (bst H k (bst H k (bst H k (bst H k s 0) 1) 2) 3).1 c = s.1 c
    rw [c3, c2, c1, c0]
theorem bfs_e (H : Hal) (f : Nat) (k : Int) (s : Bq) : bfs H (f + 1) k s = if k < s.2.2 then bfs H f (k + 1) (b4s H k s) else s := rfl
theorem bI_54 {H : Hal} {s : Bq} (h : bI H s) : s.2.2 ≤ 54 := by
  have b := cnt_b (fun c => decide (s.1 c ≠ 1000)) 54
  have e := h.2.1
  omega
theorem bfs_ok {H : Hal} (ho : Hok H) : ∀ (f : Nat) (k : Int) (s : Bq), bI H s → 0 ≤ k → k ≤ s.2.2 → bcl H k s → 54 < k + f → bI H (bfs H f k s) ∧ bcl H (bfs H f k s).2.2 (bfs H f k s) ∧ (∀ c, s.1 c ≠ 1000 → (bfs H f k s).1 c = s.1 c)
  | 0, k, s, h, k0, k1, _, hf => by
    have := bI_54 h
    omega
  | f + 1, k, s, h, k0, k1, hc, hf => by
    rw [bfs_e]
    by_cases a : k < s.2.2
    · rw [if_pos a]
      have b := b4_ok ho h k0 a hc
      have r := bfs_ok ho f (k + 1) (b4s H k s) b.1 (by omega) (by omega) b.2.2.1 (by omega)
      exact ⟨r.1, r.2.1, fun c z => by rw [r.2.2 c (by rw [b.2.2.2.2 c z]; exact z), b.2.2.2.2 c z]⟩
    · rw [if_neg a]
      have : k = s.2.2 := by omega
      rw [this] at hc
      exact ⟨h, hc, fun _ _ => rfl⟩
theorem dst_ok {H : Hal} (ho : Hok H) : bI H (bfs H 60 0 (bini H (H 0 2).toNat)) ∧ bcl H (bfs H 60 0 (bini H (H 0 2).toNat)).2.2 (bfs H 60 0 (bini H (H 0 2).toNat)) := by
  have hb := ho.2.1
  have i := bI_ini ho (H 0 2).toNat (by omega)
  have r := bfs_ok ho 60 0 _ i.1 (by omega) i.1.1 (fun i a b => by omega) (by omega)
  exact ⟨r.1, r.2.1⟩
/-- from a cell that reaches a door all cells beside it reach one -/
theorem dst_cl {H : Hal} (ho : Hok H) {c w : Int} (hc : dst H c ≠ 1000) (w0 : 0 ≤ w) (w1 : w ≤ 3) : dst H (stp H c w) ≠ 1000 := by
  have d := dst_ok ho
  obtain ⟨i, i0, i1, i2⟩ := d.1.2.2.2 c hc
  have := d.2 i i0 i1 w w0 w1
  rw [i2] at this
  exact this
theorem dst_b {H : Hal} (ho : Hok H) {c : Int} (hc : dst H c ≠ 1000) : 0 ≤ dst H c ∧ dst H c < 54 ∧ fre H c := by
  have d := dst_ok ho
  obtain ⟨i, i0, i1, i2⟩ := d.1.2.2.2 c hc
  have o := d.1.2.2.1 i i0 i1
  have b := bI_54 d.1
  rw [i2] at o
  have o' : 0 ≤ dst H c ∧ dst H c ≤ i := o.2.2
  exact ⟨o'.1, by omega, o.1⟩
/-- from a cell that reaches none, none beside it does -/
theorem dst_un {H : Hal} (ho : Hok H) {c w : Int} (hf : fre H c) (hc : dst H c = 1000) (w0 : 0 ≤ w) (w1 : w ≤ 3) : dst H (stp H c w) = 1000 := by
  by_cases e : stp H c w = c
  · rw [e]; exact hc
  · refine Classical.byContradiction (fun z => ?_)
    obtain ⟨s', a, b, h⟩ := stp_back ho hf ⟨w0, w1⟩ e
    have := dst_cl ho z a b
    rw [h] at this
    exact this hc
/-- the class's rows of the search -/
def fwR (s : Bq) (M : Mem) : Prop := (∀ c, 0 ≤ c → c < 54 → M 23 c = if s.1 c = 1000 then -1 else s.1 c) ∧ (∀ i, 0 ≤ i → i < s.2.2 → M 24 i = s.2.1 i)
theorem fwR_push {s : Bq} {M : Mem} {c x : Int} (h : fwR s M) (x0 : x ≠ 1000) : fwR (fset s.1 c x, fset s.2.1 s.2.2 c, s.2.2 + 1) (mset (mset M 23 c x) 24 s.2.2 c) := by
  refine ⟨fun d d0 d1 => ?_, fun i i0 i1 => ?_⟩
  · show _ = if (if d = c then x else s.1 d) = 1000 then -1 else (if d = c then x else s.1 d)
    rw [mset_o (by decide)]
    by_cases e : d = c
    · rw [if_pos e, if_neg x0, e, mset_e]
    · rw [if_neg e, mset_k e]
      exact h.1 d d0 d1
  · have i1' : i < s.2.2 + 1 := i1
    show _ = if i = s.2.2 then c else s.2.1 i
    by_cases e : i = s.2.2
    · rw [if_pos e, e, mset_e]
    · rw [if_neg e, mset_k e, mset_o (by decide)]
      exact h.2 i i0 (by omega)
theorem fwl4 {K : Mem → Prop} {Q : Int → Mem → Prop} : ∀ (k n : Nat) (M : Mem), n ≤ 54 → 54 < n + k → (∀ M' : Mem, (∀ q, q ≠ 23 → M' q = M q) → (∀ c : Int, n ≤ c → c < 54 → M' 23 c = -1) → (∀ c : Int, c < n → M' 23 c = M 23 c) → K M') → PX3_findWays_4 K Q k n M := by
  intro k
  induction k with
  | zero => intro n M a b; omega
  | succ k ih =>
    intro n M a b hK
    refine ⟨fun z => hK M (fun _ _ => rfl) (fun c x y => by omega) (fun _ _ => rfl), fun z => ?_⟩
    intro M3 h3
    rw [rd_put (by omega) (by omega)] at h3
    rw [wad (a := (n : Int)) (by omega) (by omega)]
    have e3 : ((n : Int) + 1) = ((n + 1 : Nat) : Int) := by omega
    rw [e3]
    refine ih (n + 1) M3 (by omega) (by omega) (fun M' f1 f2 f3 => hK M' (fun q x => by rw [f1 q x, h3, mset_p x]) (fun c x y => ?_) (fun c x => by rw [f3 c (by omega), h3, mset_k (by omega)]))
    by_cases e : c = n
    · rw [e, f3 _ (by omega), h3, mset_e]
    · exact f2 c (by omega) y
theorem fwl27 {g : Int} {H : Hal} {K : Int → Mem → Prop} {Q : Int → Mem → Prop} (hg : isG g) (ho : Hok H) : ∀ (k n : Nat) (M : Mem), Ch g H M → (n : Int) ≤ H 0 2 → H 0 2 < (n : Int) + k → fwR (bini H n) M → (∀ M' : Mem, (∀ q, q ≠ 23 → q ≠ 24 → M' q = M q) → fwR (bini H (H 0 2).toNat) M' → K (bini H (H 0 2).toNat).2.2 M') → PX3_findWays_27 g K Q k (bini H n).2.2 n M := by
  have hb := ho.2.1
  intro k
  induction k with
  | zero => intro n M _ a b; omega
  | succ k ih =>
    intro n M hc a b hr hK
    refine ⟨fun z => ?_, fun z => ?_⟩
    · rw [hc.1.2.2.1] at z
      have e : n = (H 0 2).toNat := by omega
      rw [e]
      exact hK M (fun _ _ _ => rfl) (by rw [← e]; exact hr)
    · rw [hc.1.2.2.1] at z
      have c3 := hc.2.2.1 n (by omega) (by omega)
      have o4 := ho.2.2.2.1 n (by omega) (by omega)
      have fb := fre_b ho o4.1
      have bi := bI_ini ho n a
      have b54 := bI_54 bi.1
      rw [rd_get (M := M) (p := g + 11) (by omega) (by omega), c3.2, wad (a := (n : Int)) (by omega) (by omega)]
      have e3 : ((n : Int) + 1) = ((n + 1 : Nat) : Int) := by omega
      have e : bini H (n + 1) = if H 3 n = 0 then (fset (bini H n).1 (H 2 n) 0, fset (bini H n).2.1 (bini H n).2.2 (H 2 n), (bini H n).2.2 + 1) else bini H n := rfl
      rw [e3]
      refine ⟨fun y => ?_, fun y => ?_⟩
      · intro M6 h6 M9 h9
        rw [if_pos y] at e
        rw [rd_get (M := M) (p := g + 10) (by omega) (by omega), c3.1, rd_put (by omega) (by omega)] at h6
        have hh2 : 32 ≤ g ∧ g ≤ 49 := by rcases hg with z | z <;> rw [z] <;> decide
        have e10 : fX11_get M6 (g + 10) 6 (n : Int) = H 2 n := by
          rw [rd_get (by omega) (by omega), h6, mset_o (by omega)]
          exact c3.1
        have lt : (bini H n).2.2 < 54 := by omega
        rw [e10, rd_put bi.1.1 (by omega), h6] at h9
        have e2 : wr32 ((bini H n).2.2 + 1) = (bini H (n + 1)).2.2 := by
          rw [wad (by have := bi.1.1; omega) (by have := bi.1.1; omega), e]
        rw [e2]
        refine ih (n + 1) M9 ?_ (by omega) (by omega) ?_ (fun M' f1 f2 => hK M' (fun q x y => by rw [f1 q x y, h9, mset_p y, mset_p x]) f2)
        · rw [h9]
          exact Ch_put hg (Ch_put hg hc _ _ (by omega)) _ _ (by omega)
        · rw [h9, e]
          exact fwR_push hr (by decide)
      · rw [if_neg y] at e
        have := ih (n + 1) M hc (by omega) (by omega) (by rw [e]; exact hr) hK
        rw [e] at this
        exact this
theorem fwl113 {g : Int} {H : Hal} {K : Int → Mem → Prop} {Q : Int → Mem → Prop} (hg : isG g) (ho : Hok H) {kk : Int} (k0 : 0 ≤ kk) {cell : Int} : ∀ (k w : Nat) (s : Bq) (M : Mem), Ch g H M → bI H s → kk < s.2.2 → s.2.1 kk = cell → fwR s M → w ≤ 4 → 4 < w + k →
    (∀ (s' : Bq) (M' : Mem), ((w = 0 → s' = b4s H kk s) ∧ (w = 1 → s' = bst H kk (bst H kk (bst H kk s 1) 2) 3) ∧ (w = 2 → s' = bst H kk (bst H kk s 2) 3) ∧ (w = 3 → s' = bst H kk s 3) ∧ (w = 4 → s' = s)) → (∀ q, q ≠ 23 → q ≠ 24 → M' q = M q) → fwR s' M' → K s'.2.2 M') → PX3_findWays_113 g cell K Q k s.2.2 w M := by
  have hb := ho.2.1
  intro k
  induction k with
  | zero => intro w s M _ _ _ _ _ a b; omega
  | succ k ih =>
    intro w s M hc hI hk hq hr a b hK
    refine ⟨fun z => hK s M ⟨fun y => by omega, fun y => by omega, fun y => by omega, fun y => by omega, fun _ => rfl⟩ (fun _ _ _ => rfl) hr, fun z => ?_⟩
    have o := hI.2.2.1 kk k0 hk
    rw [hq] at o
    have fb := fre_b ho o.1
    have b54 := bI_54 hI
    have sc := stp_c ho hc o.1 (w : Int)
    have sf := stp_fre o.1 (w : Int)
    have sfb := fre_b ho sf
    have bs := bI_st ho (w := (w : Int)) hI k0 hk
    have e3 : ((w : Int) + 1) = ((w + 1 : Nat) : Int) := by omega
    -- what comes next
    have nx : ∀ (N : Mem), Ch g H N → (∀ q, q ≠ 23 → q ≠ 24 → N q = M q) → fwR (bst H kk s w) N → PX3_findWays_113 g cell K Q k (bst H kk s w).2.2 ((w + 1 : Nat) : Int) N := by
      intro N c1 f1 r1
      refine ih (w + 1) (bst H kk s w) N c1 bs.1 (by have := bs.2.1; omega) (by rw [bs.2.2.1 kk k0 hk, hq]) r1 (by omega) (by omega) (fun s' M' h1 h2 h3 => hK s' M' ?_ (fun q x y => by rw [h2 q x y, f1 q x y]) h3)
      refine ⟨fun y => ?_, fun y => ?_, fun y => ?_, fun y => ?_, fun y => by omega⟩
      · subst y; exact h1.2.1 rfl
      · subst y; exact h1.2.2.1 rfl
      · subst y; exact h1.2.2.2.1 rfl
      · subst y; exact h1.2.2.2.2 rfl
    intro a3 ha3
    rw [sc] at ha3
    have est : stp H cell w = if okc H (cell % H 0 0 + dx w) (cell / H 0 0 + dy w) then H 0 0 * (cell / H 0 0 + dy w) + (cell % H 0 0 + dx w) else cell := rfl
    rw [wad (a := (w : Int)) (by omega) (by omega), e3]
    by_cases ok : okc H (cell % H 0 0 + dx w) (cell / H 0 0 + dy w)
    · rw [if_pos ok] at ha3 est
      have ea : a3 = stp H cell w := ha3.trans est.symm
      refine ⟨fun y => by omega, fun _ => ?_⟩
      rw [rd_get (M := M) (p := 23) (i := a3) (by omega) (by omega), hr.1 a3 (by omega) (by omega), ea]
      by_cases rc : s.1 (stp H cell w) = 1000
      · rw [if_pos rc]
        have lt := bI_lt hI sfb.1 sfb.2.1 rc
        have eb : bst H kk s w = (fset s.1 (stp H cell w) (s.1 cell + 1), fset s.2.1 s.2.2 (stp H cell w), s.2.2 + 1) := by
          unfold bst
          rw [hq, if_pos rc]
        refine ⟨fun _ => ?_, fun y => absurd rfl y⟩
        intro M9 h9 M11 h11
        rw [rd_get (M := M) (p := 23) (i := cell) (by omega) (by omega), hr.1 cell (by omega) (by omega), if_neg o.2.1, wad (a := s.1 cell) (by omega) (by omega), rd_put (by omega) (by omega)] at h9
        rw [rd_put hI.1 (by omega), h9] at h11
        have e2 : wr32 (s.2.2 + 1) = (bst H kk s w).2.2 := by
          rw [wad (by have := hI.1; omega) (by omega), eb]
        rw [e2]
        refine nx M11 ?_ (fun q x y => by rw [h11, mset_p y, mset_p x]) ?_
        · rw [h11]
          exact Ch_put hg (Ch_put hg hc _ _ (by omega)) _ _ (by omega)
        · rw [h11, eb]
          exact fwR_push hr (by omega)
      · rw [if_neg rc]
        have eb : bst H kk s w = s := by
          unfold bst
          rw [hq, if_neg rc]
        have sr := hI.2.2.2 _ rc
        obtain ⟨i, i0, i1, i2⟩ := sr
        have oi := hI.2.2.1 i i0 i1
        rw [i2] at oi
        refine ⟨fun y => by omega, fun _ => ?_⟩
        have := nx M hc (fun _ _ _ => rfl) (by rw [eb]; exact hr)
        rw [eb] at this
        exact this
    · rw [if_neg ok] at ha3 est
      have eb : bst H kk s w = s := by
        unfold bst
        rw [hq, est, if_neg o.2.1]
      refine ⟨fun _ => ?_, fun y => absurd ha3 y⟩
      have := nx M hc (fun _ _ _ => rfl) (by rw [eb]; exact hr)
      rw [eb] at this
      exact this
theorem fwl89 {g : Int} {H : Hal} {Q : Int → Mem → Prop} {K : Mem → Prop} (hg : isG g) (ho : Hok H) : ∀ (k f : Nat) (i : Int) (s : Bq) (M : Mem), Ch g H M → bI H s → 0 ≤ i → i ≤ s.2.2 → bcl H i s → fwR s M → 54 < i + k → 54 < i + f →
    (∀ M' : Mem, (∀ q, q ≠ 23 → q ≠ 24 → M' q = M q) → fwR (bfs H f i s) M' → K M') → PX3_findWays_89 g K Q k s.2.2 i M := by
  have hb := ho.2.1
  intro k
  induction k with
  | zero => intro f i s M _ hI a b _ _ d; have := bI_54 hI; omega
  | succ k ih =>
    intro f i s M hc hI i0 i1 hcl hr hk hf hK
    have b54 := bI_54 hI
    obtain ⟨f, rfl⟩ : ∃ f', f = f' + 1 := ⟨f - 1, by omega⟩
    refine ⟨fun z => ?_, fun z => ⟨fun y => by omega, fun y => ?_⟩⟩
    · refine hK M (fun _ _ _ => rfl) ?_
      rw [bfs_e, if_neg (by omega)]
      exact hr
    · have o := hI.2.2.1 i i0 (by omega)
      have eq24 : fX11_get M 24 54 i = s.2.1 i := by rw [rd_get i0 (by omega)]; exact hr.2 i i0 (by omega)
      rw [eq24]
      refine ⟨6, fwl113 (kk := i) hg ho i0 6 0 s M hc hI (by omega) rfl hr (by omega) (by omega) (fun s' M' h1 h2 h3 => ?_)⟩
      have e := h1.1 rfl
      have b4 := b4_ok ho hI i0 (by omega) hcl
      rw [← e] at b4
      rw [wad (a := i) (by omega) (by omega)]
      refine ih f (i + 1) s' M' (Ch_fr2 hg (fun q x w => h2 q (by omega) (by omega)) hc) b4.1 (by omega) (by have := b4.2.1; omega) b4.2.2.1 h3 (by omega) (by omega) (fun M'' g1 g2 => hK M'' (fun q x w => by rw [g1 q x w, h2 q x w]) ?_)
      rw [bfs_e, if_pos (by omega), ← e]
      exact g2
theorem fways {g : Int} {H : Hal} {M : Mem} {Q : Int → Mem → Prop} (hg : isG g) (ho : Hok H) (hc : Ch g H M) (hQ : ∀ M' : Mem, (∀ q, q ≠ 23 → q ≠ 24 → M' q = M q) → (∀ c, 0 ≤ c → c < 54 → M' 23 c = if dst H c = 1000 then -1 else dst H c) → Q 0 M') : PX3_findWays g M Q := by
  have hb := ho.2.1
  refine ⟨55, fwl4 55 0 M (by omega) (by omega) (fun M2 e1 e2 _ => ?_)⟩
  have c2 : Ch g H M2 := Ch_fr2 hg (fun q a b => e1 q (by omega)) hc
  have r0 : fwR (bini H 0) M2 := ⟨fun c a b => by
    show _ = if (1000 : Int) = 1000 then -1 else _
    rw [if_pos rfl]
    exact e2 c (by omega) b, fun i a b => by have : i < 0 := b; omega⟩
  refine ⟨8, ?_⟩
  have l := fwl27 (K := fun u5 M6 => (∃ k8 : Nat, PX3_findWays_89 g (fun M9 => Q 0 M9) Q k8 u5 0 M6)) (Q := Q) hg ho 8 0 M2 c2 (by omega) (by omega) r0 (fun M6 f1 f2 => ?_)
  · exact l
  · have bi := bI_ini ho (H 0 2).toNat (by omega)
    have c6 : Ch g H M6 := Ch_fr2 hg (fun q a b => f1 q (by omega) (by omega)) c2
    refine ⟨60, fwl89 hg ho 60 60 0 _ M6 c6 bi.1 (by omega) bi.1.1 (fun i a b => by omega) f2 (by omega) (by omega) (fun M9 g1 g2 => ?_)⟩
    exact hQ M9 (fun q a b => by rw [g1 q a b, f1 q a b, e1 q a]) g2.1
