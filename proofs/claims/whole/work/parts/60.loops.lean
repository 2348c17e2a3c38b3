/-! the loops of a morning's calls -/
theorem cl_2 {f : Int → Bool} {F : Nat → Int → Int → Int} {P : Nat → Int → Int → Prop} {m : Nat} (hm : m ≤ 9) (h0 : ∀ v n, F 0 v n = v) (p0 : ∀ v n, P 0 v n) (hs : ∀ (k n : Nat) (v : Int), (n : Int) < m → 0 ≤ v → v ≤ 9 → F (k + 1) v n = F k (v + if f n = true then 1 else 0) ((n : Int) + 1) ∧ (P k (v + if f n = true then 1 else 0) ((n : Int) + 1) → P (k + 1) v n)) : ∀ k n : Nat, n + k = m → F k (cnt f n) n = cnt f m ∧ P k (cnt f n) n := by
  intro k
  induction k with
  | zero =>
    intro n h
    have e : n = m := by omega
    subst e
    exact ⟨h0 _ _, p0 _ _⟩
  | succ k ih =>
    intro n h
    have b := cnt_b f n
    have s := hs k n (cnt f n) (by omega) b.1 (by omega)
    have i := ih (n + 1) (by omega)
    have e : cnt f (n + 1) = cnt f n + if f n = true then 1 else 0 := rfl
    rw [e, show (((n + 1 : Nat)) : Int) = (n : Int) + 1 by omega] at i
    exact ⟨s.1.trans i.1, s.2 i.2⟩
theorem mx2 {g : Int → Int} {F : Nat → Int → Int → Int} {P : Nat → Int → Int → Prop} {m : Nat} (h0 : ∀ v n, F 0 v n = v) (p0 : ∀ v n, P 0 v n) (hs : ∀ (k n : Nat) (v : Int), (n : Int) < m → -1 ≤ v → F (k + 1) v n = F k (if v < g n then g n else v) ((n : Int) + 1) ∧ (P k (if v < g n then g n else v) ((n : Int) + 1) → P (k + 1) v n)) : ∀ k n : Nat, n + k = m → F k (mxo g n) n = mxo g m ∧ P k (mxo g n) n := by
  intro k
  induction k with
  | zero =>
    intro n h
    have e : n = m := by omega
    subst e
    exact ⟨h0 _ _, p0 _ _⟩
  | succ k ih =>
    intro n h
    have b := mxo_b g n
    have s := hs k n (mxo g n) (by omega) b
    have i := ih (n + 1) (by omega)
    have e : mxo g (n + 1) = if mxo g n < g n then g n else mxo g n := rfl
    rw [e, show (((n + 1 : Nat)) : Int) = (n : Int) + 1 by omega] at i
    exact ⟨s.1.trans i.1, s.2 i.2⟩
section
variable {H : Hal} {C h : Int} {B M N : Mem}
def fpa (H : Hal) (C : Int) (p : Int) : Bool := decide (H 11 p = 1 ∧ oo H C p ≠ -1)
def fah (H : Hal) (C s : Int) (p : Int) : Bool := decide (oo H C p ≠ -1 ∧ oo H C p < s)
theorem oo_hi {p : Int} (h : H 0 4 ≤ p) : oo H C p = -1 := oo_out (fun z => by omega)
theorem oo_nb {p : Int} (h : ¬ bt C p = true) : oo H C p = -1 := oo_out (fun z => h z.2.2)
theorem pas_c (ho : Hok H) (hc : Ch h H N) (m : mOK H C N) : fX3_openersOf N (N (h + 1) 7) = cnt (fpa H C) (H 0 4).toNat := by
  have hbd := ho.2.1
  have hb := hc.2.2.2.2.2.2
  rw [← cnt_9 (f := fpa H C) ho (fun i a b => decide_eq_false (fun z => z.2 (oo_hi a)))]
  have l := cl_2 (f := fpa H C) (F := fun k v n => lX3_openersOf_4 k (N (h + 1) 7) v n N) (P := fun _ _ _ => True) (m := 9) (by omega) (fun _ _ => rfl) (fun _ _ => trivial) (fun k n v hn v0 v1 => ⟨?_, fun _ => trivial⟩) 9 0 (by omega)
  · exact l.1
  · have key : (if (fX11_hasBit (N (h + 1) 7) n) = 0 then v else (if (fX11_get N 19 9 n) = (-1) then v else (wr32 (v + 1)))) = v + if fpa H C n = true then 1 else 0 := by
      rw [hasBit_eq hb.1 (by omega) (by omega) (by omega), rd_get (by omega) (by omega), (m.2.2.2.2.1 n (by omega) (by omega)).1]
      unfold fpa
      by_cases a : (n : Int) < H 0 4
      · have e := (hc.2.2.2.2.1 n (by omega) a).2.2.2.2.2.2
        by_cases c : oo H C n = -1
        · rw [if_pos c, decide_eq_false (fun z => z.2 c)]
          simp
        · rw [if_neg c]
          by_cases d : bt (N (h + 1) 7) n = true
          · rw [if_pos d] at e
            rw [if_pos d, if_neg (show ¬ (1 : Int) = 0 by decide), decide_eq_true ⟨e, c⟩, if_pos rfl]
            exact wad (by omega) (by omega)
          · rw [if_neg d] at e
            rw [if_neg d, if_pos rfl, decide_eq_false (fun z => by have := z.1; omega)]
            simp
      · have c : oo H C n = -1 := oo_hi (by omega)
        rw [if_pos c, decide_eq_false (fun z => z.2 c)]
        simp
    show lX3_openersOf_4 k (N (h + 1) 7) _ _ N = lX3_openersOf_4 k (N (h + 1) 7) _ _ N
    rw [key]
theorem ahd_c (ho : Hok H) (m : mOK H C N) (s : Int) : fX3_openersAhead N s = cnt (fah H C s) (H 0 4).toNat := by
  have hbd := ho.2.1
  rw [← cnt_9 (f := fah H C s) ho (fun i a b => decide_eq_false (fun z => z.1 (oo_hi a)))]
  have l := cl_2 (f := fah H C s) (F := fun k v n => lX3_openersAhead_4 k s v n N) (P := fun _ _ _ => True) (m := 9) (by omega) (fun _ _ => rfl) (fun _ _ => trivial) (fun k n v hn v0 v1 => ⟨?_, fun _ => trivial⟩) 9 0 (by omega)
  · exact l.1
  · have key : (if (fX11_get N 19 9 n) = (-1) then v else (if s ≤ (fX11_get N 19 9 n) then v else (wr32 (v + 1)))) = v + if fah H C s n = true then 1 else 0 := by
      rw [rd_get (by omega) (by omega), (m.2.2.2.2.1 n (by omega) (by omega)).1]
      unfold fah
      by_cases c : oo H C n = -1
      · rw [if_pos c, decide_eq_false (fun z => z.1 c)]
        simp
      · rw [if_neg c]
        by_cases d : s ≤ oo H C n
        · rw [if_pos d, decide_eq_false (fun z => by have := z.2; omega)]
          simp
        · rw [if_neg d, decide_eq_true ⟨c, by omega⟩, if_pos rfl]
          exact wad (by omega) (by omega)
    show lX3_openersAhead_4 k s _ _ N = lX3_openersAhead_4 k s _ _ N
    rw [key]
theorem lst_c (ho : Hok H) (m : mOK H C N) : fX3_lastOut N = mxo (gout H C) (H 0 4).toNat := by
  have hbd := ho.2.1
  rw [← mxo_9 ho (fun i a b => gout_out (C := C) (fun z => by omega))]
  have l := mx2 (g := gout H C) (F := fun k v n => lX3_lastOut_4 k v n N) (P := fun _ _ _ => True) (m := 9) (fun _ _ => rfl) (fun _ _ => trivial) (fun k n v hn v0 => ⟨?_, fun _ => trivial⟩) 9 0 (by omega)
  · exact l.1
  · have e : N 21 n = gout H C n := by
      rw [(m.2.2.2.2.1 n (by omega) (by omega)).2.2.1]
      by_cases b : bt C n = true
      · rw [if_pos b]
      · rw [if_neg b, gout_out (fun z => b z.2.2)]
    show lX3_lastOut_4 k (if v < (fX11_get N 21 9 n) then (fX11_get N 21 9 n) else v) _ N = _
    rw [rd_get (by omega) (by omega), e]
def od (H : Hal) (C p : Int) : Int := if bt C p = true then godr H C p else -1
theorem od_out {p : Int} (h : ¬ (0 ≤ p ∧ p < H 0 4 ∧ bt C p = true)) : od H C p = -1 := by
  unfold od godr
  rw [if_pos (gout_out h)]
  by_cases b : bt C p = true
  · rw [if_pos b]
  · rw [if_neg b]
theorem odr_x (ho : Hok H) {c : Int} (h : odr H c ≠ -1) : 0 ≤ odr H c ∧ odr H c < H 0 2 ∧ H 2 (odr H c) = c := by
  have hbd := ho.2.1
  have f := fst1_s (f := fun k => decide (H 2 k = c ∧ H 3 k = 0)) (H 0 2).toNat 0 (by omega)
  have e : odr H c = fst1 (fun k => decide (H 2 k = c ∧ H 3 k = 0)) 0 (H 0 2).toNat := rfl
  rw [← e] at f
  rcases f with u | u
  · exact absurd u.1 h
  · exact ⟨u.1, by omega, (of_decide_eq_true u.2.2.1).1⟩
theorem gd_eq (ho : Hok H) {p d : Int} (d0 : 0 ≤ d) (d1 : d < H 0 2) (z : gout H C p ≠ -1) : (gng H C p (gout H C p - (oo H C p + H 0 6)).toNat = H 2 d) ↔ godr H C p = d := by
  have g := go_ge ho z
  have s : odr H (gng H C p (gout H C p - (oo H C p + H 0 6)).toNat) ≠ -1 := by
    rcases gout_s ho g.1 with u | u
    · exact absurd u.1 z
    · exact u.2.2.1
  have x := odr_x ho s
  have e : godr H C p = odr H (gng H C p (gout H C p - (oo H C p + H 0 6)).toNat) := by
    unfold godr
    rw [if_neg z]
  rw [e]
  refine ⟨fun y => ?_, fun y => ?_⟩
  · exact ho.2.2.2.2.1 _ _ x.1 x.2.1 d0 d1 (x.2.2.trans y)
  · rw [← x.2.2, y]
theorem oby_c (ho : Hok H) (m : mOK H C N) {d : Int} (d0 : 0 ≤ d) : fX3_outBy N d = cnt (fun p => decide (od H C p = d)) (H 0 4).toNat := by
  have hbd := ho.2.1
  rw [← cnt_9 ho (fun i a b => decide_eq_false (fun z => by rw [od_out (fun y => by omega)] at z; omega))]
  have l := cl_2 (f := fun p => decide (od H C p = d)) (F := fun k v n => lX3_outBy_4 k d v n N) (P := fun _ _ _ => True) (m := 9) (by omega) (fun _ _ => rfl) (fun _ _ => trivial) (fun k n v hn v0 v1 => ⟨?_, fun _ => trivial⟩) 9 0 (by omega)
  · exact l.1
  · have key : (if (fX11_get N 22 9 n) = d then (wr32 (v + 1)) else v) = v + if decide (od H C n = d) = true then 1 else 0 := by
      rw [rd_get (by omega) (by omega), (m.2.2.2.2.1 n (by omega) (by omega)).2.2.2]
      show (if od H C n = d then _ else _) = _
      by_cases c : od H C n = d
      · rw [if_pos c, decide_eq_true c, if_pos rfl]
        exact wad (by omega) (by omega)
      · rw [if_neg c, decide_eq_false c]
        simp
    show lX3_outBy_4 k d _ _ N = lX3_outBy_4 k d _ _ N
    rw [key]
def gby (H : Hal) (C d p : Int) : Int := if od H C p = d then gout H C p else -1
theorem lby_c (ho : Hok H) (m : mOK H C N) {d : Int} (d0 : 0 ≤ d) : fX3_lastOutBy N d = mxo (gby H C d) (H 0 4).toNat := by
  have hbd := ho.2.1
  rw [← mxo_9 ho (fun i a b => by unfold gby; rw [od_out (fun y => by omega), if_neg (by omega)])]
  have l := mx2 (g := gby H C d) (F := fun k v n => lX3_lastOutBy_4 k d v n N) (P := fun _ _ _ => True) (m := 9) (fun _ _ => rfl) (fun _ _ => trivial) (fun k n v hn v0 => ⟨?_, fun _ => trivial⟩) 9 0 (by omega)
  · exact l.1
  · have o := m.2.2.2.2.1 n (by omega) (by omega)
    have key : (if (fX11_get N 22 9 n) = d then (if v < (fX11_get N 21 9 n) then (fX11_get N 21 9 n) else v) else v) = if v < gby H C d n then gby H C d n else v := by
      rw [rd_get (by omega) (by omega), rd_get (by omega) (by omega), o.2.2.1, o.2.2.2]
      unfold gby
      show (if od H C n = d then _ else _) = _
      by_cases c : od H C n = d
      · rw [if_pos c, if_pos c]
        by_cases b : bt C n = true
        · rw [if_pos b]
        · exfalso
          unfold od at c
          rw [if_neg b] at c
          omega
      · rw [if_neg c, if_neg c, if_neg (by omega)]
    show lX3_lastOutBy_4 k d _ _ N = lX3_lastOutBy_4 k d _ _ N
    rw [key]
/-- the same of the reference -/
theorem pas_r (ho : Hok H) (hr : Rh H M) (C0 : 0 ≤ C) (C1 : C < 512) (hC : M 66 42 = C) (r : rPl H C B M) : fX12_passersOpen M = cnt (fpa H C) (H 0 4).toNat ∧ nX12_passersOpen M := by
  have hbd := ho.2.1
  have l := cl_2 (f := fpa H C) (F := fun k v n => lX12_passersOpen_4 k v n M) (P := fun k v n => nlX12_passersOpen_4 k v n M) (m := (H 0 4).toNat) (by omega) (fun _ _ => rfl) (fun _ _ => trivial) (fun k n v hn v0 v1 => ?_) (H 0 4).toNat 0 (by omega)
  · unfold fX12_passersOpen nX12_passersOpen
    rw [pMany hr, Int.sub_zero]
    exact l
  · have n4 : (n : Int) < H 0 4 := by omega
    have ic := ic_r ho hr C0 C1 hC n4
    have po := pOf (M := M) (p := (n : Int)) (k := 4) (by omega) (by omega) (by omega) (by omega)
    have e : M 88 (162 + 18 * (n : Int) + 4) = H 11 n := (hr.2.2.2.2.1 n (by omega) n4).2.2.2.2.1
    have key : (if (fX12_isComing M n) = 0 then v else (if (fX12_personOf M n 4) = 1 then (if (M 96 n) = (-1) then v else (wr32 (v + 1))) else v)) = v + if fpa H C n = true then 1 else 0 := by
      rw [ic, po.1, e, (r.2.2.1 n (by omega) (by omega)).1]
      unfold fpa
      by_cases b : bt C n = true
      · rw [if_pos b, if_neg (show ¬ (1 : Int) = 0 by decide)]
        by_cases c : H 11 n = 1
        · rw [if_pos c]
          by_cases d : oo H C n = -1
          · rw [if_pos d, decide_eq_false (fun z => z.2 d)]; simp
          · rw [if_neg d, decide_eq_true ⟨c, d⟩, if_pos rfl]
            exact wad (by omega) (by omega)
        · rw [if_neg c, decide_eq_false (fun z => c z.1)]; simp
      · rw [if_neg b, if_pos rfl, decide_eq_false (fun z => z.2 (oo_nb b))]; simp
    refine ⟨?_, fun z => ?_⟩
    · show lX12_passersOpen_4 k _ _ M = lX12_passersOpen_4 k _ _ M
      rw [key]
    · refine ⟨fun _ => po.2, fun _ _ => ⟨by omega, by omega⟩, ?_⟩
      rw [key]
      exact z
theorem ahd_r (ho : Hok H) (hr : Rh H M) (C0 : 0 ≤ C) (C1 : C < 512) (hC : M 66 42 = C) (r : rPl H C B M) : fX12_openAhead M = cnt (fah H C (H 0 5)) (H 0 4).toNat ∧ nX12_openAhead M := by
  have hbd := ho.2.1
  have l := cl_2 (f := fah H C (H 0 5)) (F := fun k v n => lX12_openAhead_4 k v n M) (P := fun k v n => nlX12_openAhead_4 k v n M) (m := (H 0 4).toNat) (by omega) (fun _ _ => rfl) (fun _ _ => trivial) (fun k n v hn v0 v1 => ?_) (H 0 4).toNat 0 (by omega)
  · unfold fX12_openAhead nX12_openAhead
    rw [pMany hr, Int.sub_zero]
    exact l
  · have n4 : (n : Int) < H 0 4 := by omega
    have ic := ic_r ho hr C0 C1 hC n4
    have e : M 91 4 = H 0 5 := hr.1.2.2.2.2.2.1
    have key : (if (fX12_isComing M n) = 0 then v else (if (M 96 n) = (-1) then v else (if (M 91 4) ≤ (M 96 n) then v else (wr32 (v + 1))))) = v + if fah H C (H 0 5) n = true then 1 else 0 := by
      rw [ic, e, (r.2.2.1 n (by omega) (by omega)).1]
      unfold fah
      by_cases b : bt C n = true
      · rw [if_pos b, if_neg (show ¬ (1 : Int) = 0 by decide)]
        by_cases d : oo H C n = -1
        · rw [if_pos d, decide_eq_false (fun z => z.1 d)]; simp
        · rw [if_neg d]
          by_cases c : H 0 5 ≤ oo H C n
          · rw [if_pos c, decide_eq_false (fun z => by have := z.2; omega)]; simp
          · rw [if_neg c, decide_eq_true ⟨d, by omega⟩, if_pos rfl]
            exact wad (by omega) (by omega)
      · rw [if_neg b, if_pos rfl, decide_eq_false (fun z => z.1 (oo_nb b))]; simp
    refine ⟨?_, fun z => ?_⟩
    · show lX12_openAhead_4 k _ _ M = lX12_openAhead_4 k _ _ M
      rw [key]
    · refine ⟨fun _ => ⟨by omega, by omega⟩, fun _ _ => ⟨by omega, by omega⟩, ?_⟩
      rw [key]
      exact z
theorem lst_r (ho : Hok H) (hr : Rh H M) (C0 : 0 ≤ C) (C1 : C < 512) (hC : M 66 42 = C) (r : rPl H C B M) : fX12_lastOut M = mxo (gout H C) (H 0 4).toNat ∧ nX12_lastOut M := by
  have hbd := ho.2.1
  have l := mx2 (g := gout H C) (F := fun k v n => lX12_lastOut_4 k v n M) (P := fun k v n => nlX12_lastOut_4 k v n M) (m := (H 0 4).toNat) (fun _ _ => rfl) (fun _ _ => trivial) (fun k n v hn v0 => ?_) (H 0 4).toNat 0 (by omega)
  · unfold fX12_lastOut nX12_lastOut
    rw [pMany hr, Int.sub_zero]
    exact l
  · have n4 : (n : Int) < H 0 4 := by omega
    have ic := ic_r ho hr C0 C1 hC n4
    have key : (if (fX12_isComing M n) = 0 then v else (if (M 98 n) ≤ v then v else (M 98 n))) = if v < gout H C n then gout H C n else v := by
      rw [ic, (r.2.2.1 n (by omega) (by omega)).2.2]
      by_cases b : bt C n = true
      · rw [if_pos b, if_neg (show ¬ (1 : Int) = 0 by decide)]
        by_cases d : gout H C n ≤ v
        · rw [if_pos d, if_neg (by omega)]
        · rw [if_neg d, if_pos (by omega)]
      · rw [if_neg b, if_pos rfl, gout_out (fun z => b z.2.2), if_neg (by omega)]
    refine ⟨?_, fun z => ?_⟩
    · show lX12_lastOut_4 k _ _ M = lX12_lastOut_4 k _ _ M
      rw [key]
    · refine ⟨fun _ => ⟨by omega, by omega⟩, fun _ _ => ⟨by omega, by omega⟩, ?_⟩
      rw [key]
      exact z
theorem oby_lp (ho : Hok H) (hr : Rh H M) (C0 : 0 ≤ C) (C1 : C < 512) (hC : M 66 42 = C) (r : rPl H C B M) {d : Int} (d0 : 0 ≤ d) (d1 : d < H 0 2) (fl : Int) : ∀ (k n : Nat), (n : Int) + k = H 0 4 →
    lX12_outBy_8 k d fl (cnt (fun p => decide (od H C p = d)) n) (mxo (gby H C d) n) n M = (if fl = 0 then cnt (fun p => decide (od H C p = d)) (H 0 4).toNat else mxo (gby H C d) (H 0 4).toNat) ∧ nlX12_outBy_8 k d fl (cnt (fun p => decide (od H C p = d)) n) (mxo (gby H C d) n) n M := by
  have hbd := ho.2.1
  intro k
  induction k with
  | zero =>
    intro n hn
    have en : n = (H 0 4).toNat := by omega
    refine ⟨?_, trivial⟩
    rw [← en]
    rfl
  | succ k ih =>
    intro n hn
    have n4 : (n : Int) < H 0 4 := by omega
    have ic := ic_r ho hr C0 C1 hC n4
    have r98 : M 98 n = gout H C n := (r.2.2.1 n (by omega) (by omega)).2.2
    have i6 : Hid (wr32 (6 + d) = 6 + d) := hid (wad (by omega) (by omega))
    have r90 : M 90 (6 + d) = H 2 d := (hr.2.2.1 d d0 d1).1
    have cb := cnt_b (fun p => decide (od H C p = d)) n
    have mb := mxo_b (gby H C d) n
    have e3 : ((n : Int) + 1) = ((n + 1 : Nat) : Int) := by omega
    obtain ⟨x, hx⟩ : ∃ x, x = cnt (fun p => decide (od H C p = d)) n := ⟨_, rfl⟩
    obtain ⟨y, hy⟩ : ∃ y, y = mxo (gby H C d) n := ⟨_, rfl⟩
    have ex : cnt (fun p => decide (od H C p = d)) (n + 1) = x + if decide (od H C n = d) = true then 1 else 0 := by rw [hx]; rfl
    have ey : mxo (gby H C d) (n + 1) = if y < gby H C d n then gby H C d n else y := by rw [hy]; rfl
    have i := ih (n + 1) (by omega)
    rw [← hx] at cb
    rw [← hy] at mb
    rw [← hx, ← hy]
    have wc : ∀ z : gout H C n ≠ -1, bt C n = true → fX12_whereIn M n (gout H C n) = gng H C n (gout H C n - (oo H C n + H 0 6)).toNat ∧ nX12_whereIn n (gout H C n) := fun z b => cel_o r ho (by omega) n4 b z
    have k1 : (if (fX12_isComing M n) = 0 then x else (if (M 98 n) = (-1) then x else (if (fX12_whereIn M n (M 98 n)) = (M 90 (wr32 (6 + d))) then (wr32 (x + 1)) else x))) = cnt (fun p => decide (od H C p = d)) (n + 1) := by
      rw [ic, r98, i6.out, r90, ex]
      by_cases b : bt C n = true
      · rw [if_pos b, if_neg (show ¬ (1 : Int) = 0 by decide)]
        have eo : od H C n = godr H C n := by unfold od; rw [if_pos b]
        by_cases z : gout H C n = -1
        · have : godr H C n = -1 := by unfold godr; rw [if_pos z]
          rw [if_pos z, decide_eq_false (fun w => by rw [eo, this] at w; omega)]; simp
        · have g := gd_eq ho d0 d1 z
          rw [if_neg z, (wc z b).1, eo]
          by_cases w : godr H C n = d
          · rw [if_pos (g.mpr w), decide_eq_true w, if_pos rfl]
            exact wad (by omega) (by omega)
          · rw [if_neg (fun u => w (g.mp u)), decide_eq_false w]; simp
      · have eo : od H C n = -1 := by unfold od; rw [if_neg b]
        rw [if_neg b, if_pos rfl, decide_eq_false (fun w => by rw [eo] at w; omega)]; simp
    have k2 : (if (fX12_isComing M n) = 0 then y else (if (M 98 n) = (-1) then y else (if (fX12_whereIn M n (M 98 n)) = (M 90 (wr32 (6 + d))) then (if (M 98 n) ≤ y then y else (M 98 n)) else y))) = mxo (gby H C d) (n + 1) := by
      rw [ic, r98, i6.out, r90, ey]
      unfold gby
      by_cases b : bt C n = true
      · rw [if_pos b, if_neg (show ¬ (1 : Int) = 0 by decide)]
        have eo : od H C n = godr H C n := by unfold od; rw [if_pos b]
        by_cases z : gout H C n = -1
        · have : godr H C n = -1 := by unfold godr; rw [if_pos z]
          rw [if_pos z, if_neg (show ¬ od H C n = d from fun w => by rw [eo, this] at w; omega), if_neg (show ¬ y < -1 by omega)]
        · have g := gd_eq ho d0 d1 z
          rw [if_neg z, (wc z b).1, eo]
          by_cases w : godr H C n = d
          · rw [if_pos (g.mpr w), if_pos w]
            by_cases q : gout H C n ≤ y
            · rw [if_pos q, if_neg (by omega)]
            · rw [if_neg q, if_pos (by omega)]
          · rw [if_neg (fun u => w (g.mp u)), if_neg w, if_neg (show ¬ y < -1 by omega)]
      · have eo : od H C n = -1 := by unfold od; rw [if_neg b]
        rw [if_neg b, if_pos (rfl : (0 : Int) = 0), if_neg (show ¬ od H C n = d from fun w => by rw [eo] at w; omega), if_neg (show ¬ y < -1 by omega)]
    refine ⟨?_, ?_⟩
    · show lX12_outBy_8 k d fl _ _ _ M = _
      rw [k1, k2, e3]
      exact i.1
    · have bq : ¬ (fX12_isComing M n) = 0 → bt C n = true := fun w => Classical.byContradiction (fun u => w (by rw [ic, if_neg u]))
      refine ⟨fun _ => ⟨by omega, by omega⟩, fun _ _ => ⟨by omega, by omega⟩, fun u w => ?_, fun _ _ => by rw [i6.out]; omega, fun _ _ _ => ⟨by omega, by omega⟩, fun _ _ _ _ => ⟨by omega, by omega⟩, ?_⟩
      · rw [r98] at w ⊢
        exact (wc w (bq u)).2
      · rw [k1, k2, e3]
        exact i.2
theorem oby_r (ho : Hok H) (hr : Rh H M) (C0 : 0 ≤ C) (C1 : C < 512) (hC : M 66 42 = C) (r : rPl H C B M) {d : Int} (d0 : 0 ≤ d) (d1 : d < H 0 2) (fl : Int) : fX12_outBy M d fl = (if fl = 0 then cnt (fun p => decide (od H C p = d)) (H 0 4).toNat else mxo (gby H C d) (H 0 4).toNat) ∧ nX12_outBy M d fl := by
  have hbd := ho.2.1
  have l := oby_lp ho hr C0 C1 hC r d0 d1 fl (H 0 4).toNat 0 (by omega)
  unfold fX12_outBy nX12_outBy
  rw [pMany hr, Int.sub_zero]
  exact l
theorem cnt30 {K : Int → Mem → Prop} {Q : Int → Mem → Prop} (ho : Hok H) (hr : Rh H M) (C0 : 0 ≤ C) (C1 : C < 512) (hC : M 66 42 = C) (r : rPl H C B M) {t w : Int} (w0 : 0 ≤ w) (w1 : w ≤ 3) (hK : K (many H C (onw w) t) M) : ∀ (k n : Nat), (n : Int) ≤ H 0 4 → H 0 4 < (n : Int) + k → PX12_count_30 t w K Q k (cnt (fun p => decide (doing H C p t = onw w)) n) n M := by
  have hbd := ho.2.1
  intro k
  induction k with
  | zero => intro n a b; omega
  | succ k ih =>
    intro n a b
    refine ⟨fun z => ?_, fun z => ?_⟩
    · rw [pMany hr] at z
      have en : n = (H 0 4).toNat := by omega
      rw [en]
      exact hK
    · rw [pMany hr] at z
      have n4 : (n : Int) < H 0 4 := by omega
      have ic := ic_r ho hr C0 C1 hC n4
      have e3 : Hid (wr32 ((n : Int) + 1) = ((n + 1 : Nat) : Int)) := hid (by rw [wad (by omega) (by omega)]; omega)
      have i := ih (n + 1) (by omega) (by omega)
      have u := isOut_r r (p := (n : Int)) (by omega) (by omega) t
      have v := isWait_r r (p := (n : Int)) (by omega) (by omega) t
      have o := isOpn_r ho hr r (p := (n : Int)) (by omega) (by omega) t
      have cb := cnt_b (fun p => decide (doing H C p t = onw w)) n
      obtain ⟨x, hx⟩ : ∃ x, x = cnt (fun p => decide (doing H C p t = onw w)) n := ⟨_, rfl⟩
      have ex : cnt (fun p => decide (doing H C p t = onw w)) (n + 1) = x + if decide (doing H C n t = onw w) = true then 1 else 0 := by rw [hx]; rfl
      rw [← hx] at cb ⊢
      rw [ex] at i
      rw [e3.out]
      have st : ∀ s : Int, (s = w ↔ doing H C n t = onw w) → (if s = w then (wr32 (x + 1)) else x) = x + if decide (doing H C n t = onw w) = true then 1 else 0 := by
        intro s hs
        by_cases q : s = w
        · rw [if_pos q, decide_eq_true (hs.mp q), if_pos rfl]
          exact wad (by omega) (by omega)
        · rw [if_neg q, decide_eq_false (fun y => q (hs.mpr y))]; simp
      have ow : onw 0 = 2 ∧ onw 1 = 1 ∧ onw 2 = 3 ∧ onw 3 = 4 := by decide
      have wv : w = 0 ∨ w = 1 ∨ w = 2 ∨ w = 3 := by omega
      have oi : ∀ s : Int, (s = 0 ∨ s = 1 ∨ s = 2 ∨ s = 3) → doing H C n t = onw s → (s = w ↔ doing H C n t = onw w) := by
        intro s hs hd
        rw [hd]
        refine ⟨fun y => by rw [y], fun y => ?_⟩
        rcases hs with rfl | rfl | rfl | rfl <;> rcases wv with rfl | rfl | rfl | rfl <;> first | rfl | (exfalso; revert y; decide)
      refine ⟨fun y => ?_, fun y => ?_⟩
      · have hb : bt C n = false := by
          cases hx : bt C n with
          | false => rfl
          | true => rw [ic, if_pos hx] at y; exact absurd y (by decide)
        have hd : doing H C n t = 0 := by unfold doing; rw [if_pos hb]
        rw [hd, decide_eq_false (fun q => by rcases wv with rfl | rfl | rfl | rfl <;> revert q <;> decide)] at i
        simp only [Bool.false_eq_true, if_false, Int.add_zero] at i
        exact i
      · have hb : bt C n = true := Classical.byContradiction (fun u => y (by rw [ic, if_neg u]))
        have d4 := doing_g ho (t := t) hb
        have d1 := doing_w (H := H) (t := t) hb
        have d2 := doing_o (H := H) (t := t) hb
        have db := doing_b (H := H) (C := C) (p := (n : Int)) (t := t)
        refine ⟨u.2, fun q => ⟨v.2, fun q2 => ⟨o.2, ?_⟩, fun q2 => ?_⟩, fun q => ?_⟩
        · have n4 : ¬ doing H C n t = 4 := fun j => by
            rw [u.1, if_pos (d4.mp j)] at q
            exact absurd q (by decide)
          have n1 : ¬ doing H C n t = 1 := fun j => by
            rw [v.1, if_pos (d1.mp j)] at q2
            exact absurd q2 (by decide)
          rw [o.1]
          by_cases j : doing H C n t = 2
          · rw [if_pos (d2.mp j), if_neg (show ¬ (1 : Int) = 0 by decide), st 0 (oi 0 (Or.inl rfl) (by rw [ow.1]; exact j))]
            exact i
          · rw [if_neg (fun q => j (d2.mpr q)), if_pos rfl, st 2 (oi 2 (Or.inr (Or.inr (Or.inl rfl))) (by
              rw [ow.2.2.1]
              rcases db with db | db
              · rw [db.1] at hb; exact absurd hb (by decide)
              · rcases db.2 with j1 | j1 | j1 | j1
                · exact absurd j1 n1
                · exact absurd j1 j
                · exact j1
                · exact absurd j1 n4))]
            exact i
        · have j : doing H C n t = 1 := d1.mpr (Classical.byContradiction (fun j => q2 (by rw [v.1, if_neg j])))
          rw [st 1 (oi 1 (Or.inr (Or.inl rfl)) (by rw [ow.2.1]; exact j))]
          exact i
        · have j : doing H C n t = 4 := d4.mpr (Classical.byContradiction (fun j => q (by rw [u.1, if_neg j])))
          rw [st 3 (oi 3 (Or.inr (Or.inr (Or.inr rfl))) (by rw [ow.2.2.2]; exact j))]
          exact i
end
