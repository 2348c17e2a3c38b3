/-! a morning of the reference, second by second -/
theorem gout_out {H : Hal} {C p : Int} (h : ¬ (0 ≤ p ∧ p < H 0 4 ∧ bt C p = true)) : gout H C p = -1 := by
  unfold gout
  rw [if_pos (oo_out h)]
theorem gts_out {H : Hal} {C p : Int} {s : Nat} (h : ¬ (0 ≤ p ∧ p < H 0 4 ∧ bt C p = true)) : gts H C p s = -1 := by
  unfold gts
  rw [gout_out h, if_neg (fun z => z.1 rfl)]
theorem Os_out {H : Hal} {C p : Int} {s : Nat} (h : ¬ (0 ≤ p ∧ p < H 0 4 ∧ bt C p = true)) : Os H C s p = -1 := by
  unfold Os
  rw [opn_out h s]
  by_cases a : alrm H C = -1
  · rw [if_pos a]
  · rw [if_neg a]
theorem Hs_out {H : Hal} {C p : Int} {s : Nat} (h : ¬ (0 ≤ p ∧ p < H 0 4 ∧ bt C p = true)) : Hs H C s p = 0 := by
  unfold Hs
  by_cases a : alrm H C = -1
  · rw [if_pos a]; exact hws_0 _ (opn_out h s)
  · rw [if_neg a]
theorem Os_s {H : Hal} {C p : Int} {s : Nat} (p0 : 0 ≤ p) (p1 : p < H 0 4) (hb : bt C p = true) : Os H C (s + 1) p = if nwv H C s p = 0 then Os H C s p else (s : Int) + 1 := by
  by_cases cw : Os H C s p = -1
  · rw [wt_O p0 p1 hb cw, cw]
  · have nv : nwv H C s p = 0 := by unfold nwv; rw [if_neg cw]
    rw [if_pos nv]
    unfold Os at cw ⊢
    by_cases a : alrm H C = -1
    · rw [if_pos a] at cw
      rw [if_pos a, if_pos a]
      have := opn_k cw 1
      exact this
    · rw [if_neg a, if_neg a]
theorem Hs_s {H : Hal} {C p : Int} {s : Nat} (p0 : 0 ≤ p) (p1 : p < H 0 4) (hb : bt C p = true) : Hs H C (s + 1) p = if nwv H C s p = 0 then Hs H C s p else nwv H C s p := by
  unfold Hs nwv Os
  by_cases a : alrm H C = -1
  · rw [if_pos a, if_pos a, if_pos a, if_pos a]
    have e2 : hws H C (s + 1) p = if 0 ≤ p ∧ p < H 0 4 ∧ bt C p = true ∧ opn H C s p = -1 then bys H C (opn H C s) p s else hws H C s p := rfl
    rw [e2]
    by_cases b : opn H C s p = -1
    · rw [if_pos b, if_pos ⟨p0, p1, hb, b⟩, hws_0 _ b]
      by_cases c : bys H C (opn H C s) p s = 0
      · rw [if_pos c, c]
      · rw [if_neg c]
    · rw [if_neg b, if_pos rfl, if_neg (fun z => b z.2.2.2)]
  · rw [if_neg a, if_neg a, if_neg a, if_neg a, if_pos (rfl : (-1 : Int) = -1), if_pos rfl]
def flg (H : Hal) (C : Int) (s : Nat) : Int := if alrm H C = -1 ∧ ff H C ≤ (s : Int) then 1 else 0
def rST (H : Hal) (C : Int) (B : Mem) (s : Nat) (M : Mem) : Prop :=
  (∀ q, (q < 66 ∨ (66 < q ∧ q < 93) ∨ 99 < q) → M q = B q) ∧ (∀ j, j ≠ 50 → j ≠ 51 → j ≠ 52 → M 66 j = B 66 j) ∧ (∀ c, 0 ≤ c → c < 54 → M 93 c = dst H c) ∧
  (∀ q, 0 ≤ q → q < 9 → M 96 q = Os H C s q ∧ M 97 q = Hs H C s q ∧ M 98 q = gts H C q s) ∧ M 66 50 = flg H C s ∧ M 66 51 = als H C s ∧ M 66 52 = ags H C s ∧
  (∀ t : Nat, t ≤ s → ∀ q, 0 ≤ q → q < H 0 4 → bt C q = true → M 95 (9 * (t : Int) + q) = rps H C q t)
section
variable {H : Hal} {C : Int}
def gsf (H : Hal) (C g : Int) (t : Nat) (p : Int) : Bool := bt C p && decide (far H (H 4 g) (wlk H p t) ≤ H 5 g)
theorem wn_lp {N : Mem} {t : Nat} {g : Int} (ho : Hok H) (hr : Rh H N) (C0 : 0 ≤ C) (C1 : C < 512) (hC : N 66 42 = C) (ht : t < 201) (g0 : 0 ≤ g) (g1 : g < H 0 3) (h96 : ∀ q, 0 ≤ q → q < H 0 4 → N 96 q = -1) (h95 : ∀ q, 0 ≤ q → q < H 0 4 → bt C q = true → N 95 (9 * (t : Int) + q) = wlk H q t) : ∀ (k n : Nat), (n : Int) + k = H 0 4 →
    lX12_waitingNear_5 k g (t : Int) (cnt (gsf H C g t) n) n N = cnt (gsf H C g t) (H 0 4).toNat ∧ nlX12_waitingNear_5 k g (t : Int) (cnt (gsf H C g t) n) n N := by
  have hbd := ho.2.1
  intro k
  induction k with
  | zero =>
    intro n hn
    have en : n = (H 0 4).toNat := by omega
    refine ⟨?_, trivial⟩
    show cnt (gsf H C g t) n = _
    rw [en]
  | succ k ih =>
    intro n hn
    have ic := isComing_r ho hr hC C0 C1 (p := (n : Int)) (by omega) (by omega)
    have r89 := hr.2.2.2.1 g g0 g1
    have o4 := ho.2.2.2.2.2.1 g g0 g1
    have i0 : wr32 (12 + wr32 (3 * g)) = 12 + 3 * g := by rw [wmu (a := 3) (by omega) (by omega), wad (by omega) (by omega)]
    have i1 : wr32 (12 + 3 * g + 1) = 12 + 3 * g + 1 := wad (by omega) (by omega)
    have iw : fX12_isWaiting N (n : Int) (t : Int) = 1 := by
      unfold fX12_isWaiting
      rw [h96 n (by omega) (by omega), if_pos rfl]
    have wq := where_r (M := N) (p := (n : Int)) (by omega) (by omega) (show (0 : Int) ≤ (t : Int) by omega) (by omega)
    have fw := wlk_fre ho (p := (n : Int)) (by omega) (by omega) t
    have fa := far_r ho hr o4.1 fw
    have cb := cnt_b (gsf H C g t) n
    have e3 : ((n : Int) + 1) = ((n + 1 : Nat) : Int) := by omega
    have key : (if (fX12_isComing N n) = 0 then cnt (gsf H C g t) n else (if (fX12_isWaiting N n (t : Int)) = 0 then cnt (gsf H C g t) n else (if (N 89 (wr32 ((wr32 (12 + (wr32 (3 * g)))) + 1))) < (fX12_apart N (N 89 (wr32 (12 + (wr32 (3 * g))))) (fX12_whereIn N n (t : Int))) then cnt (gsf H C g t) n else (wr32 (cnt (gsf H C g t) n + 1))))) = cnt (gsf H C g t) (n + 1) := by
      rw [ic, iw, i0, i1, r89.1, r89.2.1, wq.1]
      show _ = cnt (gsf H C g t) n + (if gsf H C g t n = true then 1 else 0)
      obtain ⟨xx, hxx⟩ : ∃ z : Int, z = cnt (gsf H C g t) n := ⟨_, rfl⟩
      rw [← hxx] at cb ⊢
      unfold gsf
      cases hx : bt C n with
      | false => simp
      | true =>
        rw [h95 n (by omega) (by omega) hx, fa.1, if_pos (rfl : true = true), if_neg (show ¬ (1 : Int) = 0 by decide), if_neg (show ¬ (1 : Int) = 0 by decide), Bool.true_and]
        obtain ⟨fr, hfr⟩ : ∃ z : Int, z = far H (H 4 g) (wlk H n t) := ⟨_, rfl⟩
        rw [← hfr]
        by_cases y : fr ≤ H 5 g
        · rw [if_neg (by omega), decide_eq_true y, if_pos (rfl : true = true)]
          exact wad (by omega) (by omega)
        · rw [if_pos (by omega), decide_eq_false y]
          simp
    have e : lX12_waitingNear_5 (k + 1) g (t : Int) (cnt (gsf H C g t) n) n N = lX12_waitingNear_5 k g (t : Int) (if (fX12_isComing N n) = 0 then cnt (gsf H C g t) n else (if (fX12_isWaiting N n (t : Int)) = 0 then cnt (gsf H C g t) n else (if (N 89 (wr32 ((wr32 (12 + (wr32 (3 * g)))) + 1))) < (fX12_apart N (N 89 (wr32 (12 + (wr32 (3 * g))))) (fX12_whereIn N n (t : Int))) then cnt (gsf H C g t) n else (wr32 (cnt (gsf H C g t) n + 1))))) ((n : Int) + 1) N := rfl
    have en : nlX12_waitingNear_5 (k + 1) g (t : Int) (cnt (gsf H C g t) n) n N = ((¬ ((fX12_isComing N n) = 0) → (nX12_isWaiting N n)) ∧ (¬ ((fX12_isComing N n) = 0) → ¬ ((fX12_isWaiting N n (t : Int)) = 0) → 0 ≤ (wr32 (12 + (wr32 (3 * g)))) ∧ (wr32 (12 + (wr32 (3 * g)))) < 24) ∧ (¬ ((fX12_isComing N n) = 0) → ¬ ((fX12_isWaiting N n (t : Int)) = 0) → (nX12_whereIn n (t : Int))) ∧ (¬ ((fX12_isComing N n) = 0) → ¬ ((fX12_isWaiting N n (t : Int)) = 0) → (nX12_apart N)) ∧ (¬ ((fX12_isComing N n) = 0) → ¬ ((fX12_isWaiting N n (t : Int)) = 0) → 0 ≤ (wr32 ((wr32 (12 + (wr32 (3 * g)))) + 1)) ∧ (wr32 ((wr32 (12 + (wr32 (3 * g)))) + 1)) < 24) ∧ nlX12_waitingNear_5 k g (t : Int) (if (fX12_isComing N n) = 0 then cnt (gsf H C g t) n else (if (fX12_isWaiting N n (t : Int)) = 0 then cnt (gsf H C g t) n else (if (N 89 (wr32 ((wr32 (12 + (wr32 (3 * g)))) + 1))) < (fX12_apart N (N 89 (wr32 (12 + (wr32 (3 * g))))) (fX12_whereIn N n (t : Int))) then cnt (gsf H C g t) n else (wr32 (cnt (gsf H C g t) n + 1))))) ((n : Int) + 1) N) := rfl
    rw [e, en, key, e3]
    have i3 := ih (n + 1) (by omega)
    rw [i0, i1]
    exact ⟨i3.1, fun _ => ⟨⟨by omega, by omega⟩, fun _ => ⟨by omega, by omega⟩⟩, fun _ _ => ⟨by omega, by omega⟩, fun _ _ => wq.2, fun _ _ => fa.2, fun _ _ => ⟨by omega, by omega⟩, i3.2⟩
theorem wn_r {N : Mem} {t : Nat} {g : Int} (ho : Hok H) (hr : Rh H N) (C0 : 0 ≤ C) (C1 : C < 512) (hC : N 66 42 = C) (ht : t < 201) (g0 : 0 ≤ g) (g1 : g < H 0 3) (h96 : ∀ q, 0 ≤ q → q < H 0 4 → N 96 q = -1) (h95 : ∀ q, 0 ≤ q → q < H 0 4 → bt C q = true → N 95 (9 * (t : Int) + q) = wlk H q t) :
    fX12_waitingNear N g (t : Int) = gseen H C g t ∧ nX12_waitingNear N g (t : Int) := by
  have hbd := ho.2.1
  have l := wn_lp ho hr C0 C1 hC ht g0 g1 h96 h95 (H 0 4).toNat 0 (by omega)
  unfold fX12_waitingNear nX12_waitingNear
  rw [pMany hr, Int.sub_zero]
  exact ⟨l.1, l.2⟩
theorem lu_lp {N : Mem} {t : Nat} (ho : Hok H) (hr : Rh H N) (C0 : 0 ≤ C) (C1 : C < 512) (hC : N 66 42 = C) (ht : t < 201) (h96 : ∀ q, 0 ≤ q → q < H 0 4 → N 96 q = -1) (h95 : ∀ q, 0 ≤ q → q < H 0 4 → bt C q = true → N 95 (9 * (t : Int) + q) = wlk H q t) (h51 : N 66 51 = -1) (h50 : N 66 50 = 0) : ∀ (k n : Nat), (n : Int) + k = H 0 3 →
    lmX12_looksUp_2 k (t : Int) n N = (if fst1 (fun g => decide (H 6 g ≤ gseen H C g t)) n k = -1 then N else mset (mset N 66 51 t) 66 52 (fst1 (fun g => decide (H 6 g ≤ gseen H C g t)) n k)) ∧ nlX12_looksUp_2 k (t : Int) n N := by
  have hbd := ho.2.1
  intro k
  induction k with
  | zero =>
    intro n hn
    exact ⟨by show N = _; rw [if_pos rfl], trivial⟩
  | succ k ih =>
    intro n hn
    have w := wn_r ho hr C0 C1 hC ht (g := (n : Int)) (by omega) (by omega) h96 h95
    have r89 := hr.2.2.2.1 n (by omega) (by omega)
    have i0 : wr32 (12 + wr32 (3 * (n : Int))) = 12 + 3 * (n : Int) := by rw [wmu (a := 3) (by omega) (by omega), wad (by omega) (by omega)]
    have i1 : wr32 (12 + 3 * (n : Int) + 2) = 12 + 3 * (n : Int) + 2 := wad (by omega) (by omega)
    have e3 : ((n : Int) + 1) = ((n + 1 : Nat) : Int) := by omega
    have e : lmX12_looksUp_2 (k + 1) (t : Int) n N = (if (N 66 51) = (-1) then (if (N 66 50) = 0 then (lmX12_looksUp_2 k (t : Int) ((n : Int) + 1) (if (N 89 (wr32 ((wr32 (12 + (wr32 (3 * (n : Int))))) + 2))) ≤ (fX12_waitingNear N n (t : Int)) then (mset (mset N 66 51 (t : Int)) 66 52 (n : Int)) else N)) else N) else N) := rfl
    have en : nlX12_looksUp_2 (k + 1) (t : Int) n N = (((N 66 51) = (-1) → (N 66 50) = 0 → (nX12_waitingNear N n (t : Int))) ∧ ((N 66 51) = (-1) → (N 66 50) = 0 → 0 ≤ (wr32 ((wr32 (12 + (wr32 (3 * (n : Int))))) + 2)) ∧ (wr32 ((wr32 (12 + (wr32 (3 * (n : Int))))) + 2)) < 24) ∧ ((N 66 51) = (-1) → (N 66 50) = 0 → (nlX12_looksUp_2 k (t : Int) ((n : Int) + 1) (if (N 89 (wr32 ((wr32 (12 + (wr32 (3 * (n : Int))))) + 2))) ≤ (fX12_waitingNear N n (t : Int)) then (mset (mset N 66 51 (t : Int)) 66 52 (n : Int)) else N)))) := rfl
    have ef : fst1 (fun g => decide (H 6 g ≤ gseen H C g t)) n (k + 1) = if decide (H 6 n ≤ gseen H C n t) = true then (n : Int) else fst1 (fun g => decide (H 6 g ≤ gseen H C g t)) ((n : Int) + 1) k := rfl
    rw [e, en, ef, h51, h50, if_pos (rfl : (-1 : Int) = -1), if_pos (rfl : (0 : Int) = 0), i0, i1, r89.2.2.1, w.1]
    by_cases a : H 6 n ≤ gseen H C n t
    · rw [if_pos a, decide_eq_true a, if_pos (rfl : true = true), if_neg (show ¬ (n : Int) = -1 by omega)]
      obtain ⟨N', hN'⟩ : ∃ z : Mem, z = mset (mset N 66 51 (t : Int)) 66 52 (n : Int) := ⟨_, rfl⟩
      have f51 : ¬ N' 66 51 = -1 := by
        rw [hN', mset_k (by decide), mset_e]
        omega
      rw [← hN']
      have st : lmX12_looksUp_2 k (t : Int) ((n : Int) + 1) N' = N' ∧ nlX12_looksUp_2 k (t : Int) ((n : Int) + 1) N' := by
        cases k with
        | zero => exact ⟨rfl, trivial⟩
        | succ k =>
          refine ⟨?_, fun z => absurd z f51, fun z => absurd z f51, fun z => absurd z f51⟩
          show (if (N' 66 51) = (-1) then _ else N') = N'
          rw [if_neg f51]
      exact ⟨st.1, fun _ _ => w.2, fun _ _ => ⟨by omega, by omega⟩, fun _ _ => st.2⟩
    · rw [if_neg a, decide_eq_false a, if_neg (show ¬ false = true by decide), e3]
      have i3 := ih (n + 1) (by omega)
      exact ⟨i3.1, fun _ _ => w.2, fun _ _ => ⟨by omega, by omega⟩, fun _ _ => i3.2⟩
theorem lu_skip {N : Mem} {t : Int} {k : Nat} {v : Int} (h : ¬ (N 66 51 = -1 ∧ N 66 50 = 0)) : lmX12_looksUp_2 k t v N = N ∧ nlX12_looksUp_2 k t v N := by
  cases k with
  | zero => exact ⟨rfl, trivial⟩
  | succ k =>
    refine ⟨?_, fun y z => absurd ⟨y, z⟩ h, fun y z => absurd ⟨y, z⟩ h, fun y z => absurd ⟨y, z⟩ h⟩
    show (if (N 66 51) = (-1) then (if (N 66 50) = 0 then _ else N) else N) = N
    by_cases a : N 66 51 = -1
    · rw [if_pos a, if_neg (fun z => h ⟨a, z⟩)]
    · rw [if_neg a]
theorem al_s (ho : Hok H) : (alrm H C = -1 ∧ ∀ t : Nat, (t : Int) < ff H C → glook H C t = -1) ∨ (0 ≤ alrm H C ∧ alrm H C < ff H C ∧ alrm H C ≤ 200 ∧ glook H C (alrm H C).toNat ≠ -1 ∧ ∀ t : Nat, (t : Int) < alrm H C → glook H C t = -1) := by
  have f := ff_s ho C
  have al := fst1_s (f := fun t => decide (glook H C t.toNat ≠ -1)) (ff H C).toNat 0 (by omega)
  have e : alrm H C = fst1 (fun t => decide (glook H C t.toNat ≠ -1)) 0 (ff H C).toNat := rfl
  rw [← e] at al
  rcases al with ⟨y, z⟩ | ⟨y1, y2, y3, y4⟩
  · refine Or.inl ⟨y, fun t ht => ?_⟩
    have := z (t : Int) (by omega) (by omega)
    have := of_decide_eq_false this
    rw [Int.toNat_natCast] at this
    exact Classical.byContradiction this
  · refine Or.inr ⟨y1, by omega, by omega, of_decide_eq_true y3, fun t ht => ?_⟩
    have := y4 (t : Int) (by omega) ht
    have := of_decide_eq_false this
    rw [Int.toNat_natCast] at this
    exact Classical.byContradiction this
theorem Os_pre (ho : Hok H) {s : Nat} (hs : (s : Int) < ff H C) (q : Int) : Os H C s q = -1 := by
  unfold Os
  rw [(opn_pre ho C hs).1]
  by_cases a : alrm H C = -1
  · rw [if_pos a]
  · rw [if_neg a]
theorem lu_r {N : Mem} {t : Nat} (ho : Hok H) (hr : Rh H N) (C0 : 0 ≤ C) (C1 : C < 512) (hC : N 66 42 = C) (ht : t < 201) (h96 : ∀ q, 0 ≤ q → q < 9 → N 96 q = Os H C t q) (h95 : ∀ q, 0 ≤ q → q < H 0 4 → bt C q = true → N 95 (9 * (t : Int) + q) = rps H C q t) (h50 : N 66 50 = flg H C t) (h51 : N 66 51 = if alrm H C ≠ -1 ∧ alrm H C < (t : Int) then alrm H C else -1) (h52 : N 66 52 = if alrm H C ≠ -1 ∧ alrm H C < (t : Int) then algd H C else -1) :
    nX12_looksUp N (t : Int) ∧ (∀ q, q ≠ 66 → fmX12_looksUp N (t : Int) q = N q) ∧ (∀ j, j ≠ 51 → j ≠ 52 → fmX12_looksUp N (t : Int) 66 j = N 66 j) ∧ fmX12_looksUp N (t : Int) 66 51 = als H C t ∧ fmX12_looksUp N (t : Int) 66 52 = ags H C t := by
  have hbd := ho.2.1
  have al := al_s (C := C) ho
  unfold fmX12_looksUp nX12_looksUp
  rw [gMany hr, Int.sub_zero]
  by_cases hx : N 66 51 = -1 ∧ N 66 50 = 0
  · have tf : (t : Int) < ff H C ∧ ¬ (alrm H C ≠ -1 ∧ alrm H C < (t : Int)) := by
      have z : ¬ (alrm H C ≠ -1 ∧ alrm H C < (t : Int)) := by
        intro z
        rw [if_pos z] at h51
        exact z.1 (h51.symm.trans hx.1)
      refine ⟨?_, z⟩
      have y : ¬ (alrm H C = -1 ∧ ff H C ≤ (t : Int)) := by
        intro y
        have h := hx.2
        rw [h50] at h
        unfold flg at h
        rw [if_pos y] at h
        exact absurd h (by decide)
      clear h50 h51 h52
      rcases al with u | u <;> omega
    have ops : ∀ q, 0 ≤ q → q < H 0 4 → N 96 q = -1 := fun q a b => by rw [h96 q a (by clear h50 h51 h52; omega)]; exact Os_pre ho tf.1 q
    have wps : ∀ q, 0 ≤ q → q < H 0 4 → bt C q = true → N 95 (9 * (t : Int) + q) = wlk H q t := fun q a b c => by
      rw [h95 q a b c]
      exact rps_w (by omega) (Os_pre ho tf.1 q)
    have l := lu_lp ho hr C0 C1 hC ht ops wps hx.1 hx.2 (H 0 3).toNat 0 (by clear h50 h51 h52; omega)
    have eg : fst1 (fun g => decide (H 6 g ≤ gseen H C g t)) ((0 : Nat) : Int) (H 0 3).toNat = glook H C t := rfl
    rw [eg] at l
    refine ⟨l.2, ?_⟩
    rw [if_neg tf.2] at h51 h52
    show (∀ q, q ≠ 66 → lmX12_looksUp_2 (H 0 3).toNat (t : Int) ((0 : Nat) : Int) N q = N q) ∧ (∀ j, j ≠ 51 → j ≠ 52 → lmX12_looksUp_2 (H 0 3).toNat (t : Int) ((0 : Nat) : Int) N 66 j = N 66 j) ∧ lmX12_looksUp_2 (H 0 3).toNat (t : Int) ((0 : Nat) : Int) N 66 51 = als H C t ∧ lmX12_looksUp_2 (H 0 3).toNat (t : Int) ((0 : Nat) : Int) N 66 52 = ags H C t
    rw [l.1]
    by_cases e : alrm H C = (t : Int)
    · have gl : glook H C t ≠ -1 := by
        rcases al with u | u
        · have := u.1
          clear h50 h51 h52 u
          omega
        · have := u.2.2.2.1
          rw [e, Int.toNat_natCast] at this
          exact this
      have c1 : alrm H C ≠ -1 ∧ alrm H C ≤ (t : Int) := by clear h50 h51 h52; omega
      rw [if_neg gl]
      refine ⟨fun q a => by rw [mset_p a, mset_p a], fun j a b => by rw [mset_k b, mset_k a], ?_, ?_⟩
      · rw [mset_k (by decide), mset_e]
        unfold als
        rw [if_pos c1, e]
      · rw [mset_e]
        unfold ags algd
        rw [if_pos c1, if_neg c1.1, e, Int.toNat_natCast]
    · have gl : glook H C t = -1 := by
        rcases al with u | u
        · exact u.2 t tf.1
        · refine u.2.2.2.2 t ?_
          have := u.1
          clear h50 h51 h52 u
          omega
      have c1 : ¬ (alrm H C ≠ -1 ∧ alrm H C ≤ (t : Int)) := by clear h50 h51 h52; omega
      rw [if_pos gl]
      refine ⟨fun _ _ => rfl, fun _ _ _ => rfl, ?_, ?_⟩
      · rw [h51]; unfold als; rw [if_neg c1]
      · rw [h52]; unfold ags; rw [if_neg c1]
  · have l := lu_skip (t := (t : Int)) (k := (H 0 3).toNat) (v := 0) hx
    rw [l.1]
    refine ⟨l.2, fun _ _ => rfl, fun _ _ _ => rfl, ?_, ?_⟩
    · rw [h51]
      unfold als
      by_cases z : alrm H C ≠ -1 ∧ alrm H C < (t : Int)
      · rw [if_pos z, if_pos ⟨z.1, by clear h50 h51 h52; omega⟩]
      · rw [if_neg z] at h51
        have f1 : flg H C t ≠ 0 := fun y => hx ⟨h51, by rw [h50]; exact y⟩
        have a1 : alrm H C = -1 := by
          refine Classical.byContradiction (fun y => f1 ?_)
          unfold flg
          rw [if_neg (fun w => y w.1)]
        rw [if_neg z, if_neg (fun w => w.1 a1)]
    · rw [h52]
      unfold ags
      by_cases z : alrm H C ≠ -1 ∧ alrm H C < (t : Int)
      · rw [if_pos z, if_pos ⟨z.1, by clear h50 h51 h52; omega⟩]
      · rw [if_neg z] at h51
        have f1 : flg H C t ≠ 0 := fun y => hx ⟨h51, by rw [h50]; exact y⟩
        have a1 : alrm H C = -1 := by
          refine Classical.byContradiction (fun y => f1 ?_)
          unfold flg
          rw [if_neg (fun w => y w.1)]
        rw [if_neg z, if_neg (fun w => w.1 a1)]
/-- n of the people have moved -/
def mvI (H : Hal) (C : Int) (s : Nat) (M : Mem) (n : Nat) (N : Mem) : Prop :=
  (∀ q, q ≠ 95 → q ≠ 98 → q ≠ 99 → N q = M q) ∧ (∀ q, 0 ≤ q → q < n → bt C q = true → N 99 q = nwv H C s q ∧ N 98 q = gts H C q (s + 1) ∧ N 95 (9 * ((s + 1 : Nat) : Int) + q) = rps H C q (s + 1)) ∧ (∀ q, ¬ (0 ≤ q ∧ q < n ∧ bt C q = true) → N 98 q = M 98 q) ∧ (∀ i, i < 9 * ((s + 1 : Nat) : Int) → N 95 i = M 95 i)
theorem mv_lp {B M : Mem} {K : Mem → Prop} {Q : Int → Mem → Prop} {s : Nat} (ho : Hok H) (hr : Rh H M) (C0 : 0 ≤ C) (C1 : C < 512) (hC : M 66 42 = C) (hs : s < 200) (h : rST H C B s M) : ∀ (k n : Nat) (N : Mem), (n : Int) ≤ H 0 4 → H 0 4 < (n : Int) + k → mvI H C s M n N → (∀ N' : Mem, mvI H C s M (H 0 4).toNat N' → K N') → PX12_plays_101 ((s + 1 : Nat) : Int) K Q k n N := by
  have hbd := ho.2.1
  intro k
  induction k with
  | zero => intro n N a b; omega
  | succ k ih =>
    intro n N a b hI hK
    have hrN : Rh H N := Rh_93 (fun q x => hI.1 q (by omega) (by omega) (by omega)) (by rw [hI.1 66 (by decide) (by decide) (by decide)]) (by rw [hI.1 66 (by decide) (by decide) (by decide)]) hr
    have e3 : wr32 ((n : Int) + 1) = ((n + 1 : Nat) : Int) := by rw [wad (by omega) (by omega)]; omega
    refine ⟨fun z => ?_, fun z => ?_⟩
    · rw [pMany hrN] at z
      have e : n = (H 0 4).toNat := by omega
      rw [e] at hI
      exact hK N hI
    · rw [pMany hrN] at z
      have hCN : N 66 42 = C := by rw [hI.1 66 (by decide) (by decide) (by decide)]; exact hC
      have ic := isComing_r ho hrN hCN C0 C1 (p := (n : Int)) (by omega) (by omega)
      refine ⟨fun y => ?_, fun y => ?_⟩
      · rw [e3]
        have hb : ¬ bt C n = true := by
          intro w
          rw [ic, if_pos w] at y
          exact absurd y (by decide)
        refine ih (n + 1) N (by omega) (by omega) ⟨hI.1, fun q q0 q1 q2 => hI.2.1 q q0 ?_ q2, fun q q0 => hI.2.2.1 q (fun w => q0 ⟨w.1, by have := w.2.1; omega, w.2.2⟩), hI.2.2.2⟩ hK
        by_cases e : q = (n : Int)
        · rw [e] at q2; exact absurd q2 hb
        · omega
      · have hb : bt C n = true := by
          refine Classical.byContradiction (fun w => y ?_)
          rw [ic, if_neg w]
        have g96 : ∀ q, 0 ≤ q → q < 9 → N 96 q = Os H C s q := fun q x y => by rw [hI.1 96 (by decide) (by decide) (by decide)]; exact (h.2.2.2.1 q x y).1
        have g95 : ∀ q, 0 ≤ q → q < H 0 4 → bt C q = true → N 95 (9 * (s : Int) + q) = rps H C q s := fun q x y z => by rw [hI.2.2.2 _ (by omega)]; exact h.2.2.2.2.2.2.2 s (by omega) q x y z
        have g51 : N 66 51 = als H C s := by rw [hI.1 66 (by decide) (by decide) (by decide)]; exact h.2.2.2.2.2.1
        have g98 : N 98 (n : Int) = gts H C n s := by rw [hI.2.2.1 n (fun w => by have := w.2.1; omega)]; exact (h.2.2.2.1 n (by omega) (by omega)).2.2
        have g93 : ∀ c, 0 ≤ c → c < 54 → N 93 c = dst H c := fun c x y => by rw [hI.1 93 (by decide) (by decide) (by decide)]; exact h.2.2.1 c x y
        have mv := mv_r ho hrN C0 C1 hCN hs (p := (n : Int)) (by omega) (by omega) hb g96 g95 g51 g98 g93
        refine ⟨mv.1, ?_⟩
        intro M7 h7
        rw [e3]
        rw [← h7] at mv
        obtain ⟨_, f1, f2, f3, f4, f5⟩ := mv
        refine ih (n + 1) M7 (by omega) (by omega) ⟨fun q x y z => by rw [f1 q x y z]; exact hI.1 q x y z, fun q q0 q1 q2 => ?_, fun q q0 => ?_, fun i hi => ?_⟩ hK
        · by_cases e : q = (n : Int)
          · rw [e]
            exact ⟨f2.1, f3.1, f4⟩
          · rw [f2.2 q e, f3.2 q e, f5 _ (by omega)]
            exact hI.2.1 q q0 (by omega) q2
        · have e : q ≠ (n : Int) := by
            intro e
            apply q0
            rw [e]
            exact ⟨by omega, by omega, hb⟩
          rw [f3.2 q e]
          exact hI.2.2.1 q (fun w => q0 ⟨w.1, by have := w.2.1; omega, w.2.2⟩)
        · rw [f5 i (by omega)]
          exact hI.2.2.2 i hi
/-- n of the people have opened -/
def opI (H : Hal) (C : Int) (s : Nat) (N : Mem) (n : Nat) (N' : Mem) : Prop :=
  (∀ q, q ≠ 66 → q ≠ 96 → q ≠ 97 → N' q = N q) ∧ (∀ j, j ≠ 50 → N' 66 j = N 66 j) ∧ ((N' 66 50 = N 66 50 ∧ ∀ q, 0 ≤ q → q < n → bt C q = true → nwv H C s q = 0) ∨ (N' 66 50 = 1 ∧ ∃ q, 0 ≤ q ∧ q < n ∧ bt C q = true ∧ nwv H C s q ≠ 0)) ∧
  (∀ q, 0 ≤ q → q < n → bt C q = true → nwv H C s q ≠ 0 → N' 96 q = (s : Int) + 1 ∧ N' 97 q = nwv H C s q) ∧ (∀ q, ¬ (0 ≤ q ∧ q < n ∧ bt C q = true ∧ nwv H C s q ≠ 0) → N' 96 q = N 96 q ∧ N' 97 q = N 97 q)
theorem op_lp {N : Mem} {K : Mem → Prop} {Q : Int → Mem → Prop} {s : Nat} (ho : Hok H) (hr : Rh H N) (C0 : 0 ≤ C) (C1 : C < 512) (hC : N 66 42 = C) (h99 : ∀ q, 0 ≤ q → q < H 0 4 → bt C q = true → N 99 q = nwv H C s q) : ∀ (k n : Nat) (N' : Mem), (n : Int) ≤ H 0 4 → H 0 4 < (n : Int) + k → opI H C s N n N' → (∀ N2 : Mem, opI H C s N (H 0 4).toNat N2 → K N2) → PX12_plays_131 ((s + 1 : Nat) : Int) K Q k n N' := by
  have hbd := ho.2.1
  intro k
  induction k with
  | zero => intro n N' a b; omega
  | succ k ih =>
    intro n N' a b hI hK
    have hrN : Rh H N' := Rh_93 (fun q x => hI.1 q (by omega) (by omega) (by omega)) (hI.2.1 38 (by decide)) (hI.2.1 39 (by decide)) hr
    have e3 : wr32 ((n : Int) + 1) = ((n + 1 : Nat) : Int) := by rw [wad (by omega) (by omega)]; omega
    refine ⟨fun z => ?_, fun z => ?_⟩
    · rw [pMany hrN] at z
      have e : n = (H 0 4).toNat := by omega
      rw [e] at hI
      exact hK N' hI
    · rw [pMany hrN] at z
      have hCN : N' 66 42 = C := by rw [hI.2.1 42 (by decide)]; exact hC
      have ic := isComing_r ho hrN hCN C0 C1 (p := (n : Int)) (by omega) (by omega)
      rw [e3]
      have skip : ¬ (bt C n = true ∧ nwv H C s n ≠ 0) → PX12_plays_131 ((s + 1 : Nat) : Int) K Q k ((n + 1 : Nat) : Int) N' := by
        intro hx
        refine ih (n + 1) N' (by omega) (by omega) ⟨hI.1, hI.2.1, ?_, fun q q0 q1 q2 q3 => hI.2.2.2.1 q q0 ?_ q2 q3, fun q q0 => hI.2.2.2.2 q (fun w => q0 ⟨w.1, by have := w.2.1; omega, w.2.2⟩)⟩ hK
        · rcases hI.2.2.1 with u | u
          · refine Or.inl ⟨u.1, fun q q0 q1 q2 => ?_⟩
            by_cases e : q = (n : Int)
            · rw [e] at q2 ⊢
              exact Classical.byContradiction (fun w => hx ⟨q2, w⟩)
            · exact u.2 q q0 (by omega) q2
          · obtain ⟨u1, q, q0, q1, q2⟩ := u
            exact Or.inr ⟨u1, q, q0, by omega, q2⟩
        · by_cases e : q = (n : Int)
          · rw [e] at q2 q3; exact absurd ⟨q2, q3⟩ hx
          · omega
      refine ⟨fun y => ?_, fun y => ⟨by omega, by omega, fun w => ?_, fun w => ⟨by omega, by omega, ?_⟩⟩⟩
      · refine skip (fun w => ?_)
        rw [ic, if_pos w.1] at y
        exact absurd y (by decide)
      · have hb : bt C n = true := by
          refine Classical.byContradiction (fun w => y ?_)
          rw [ic, if_neg w]
        rw [hI.1 99 (by decide) (by decide) (by decide), h99 n (by omega) (by omega) hb] at w
        exact skip (fun u => u.2 w)
      · have hb : bt C n = true := by
          refine Classical.byContradiction (fun w => y ?_)
          rw [ic, if_neg w]
        have n99 : N' 99 (n : Int) = nwv H C s n := by rw [hI.1 99 (by decide) (by decide) (by decide)]; exact h99 n (by omega) (by omega) hb
        rw [n99] at w
        intro M7 h7
        refine ⟨by omega, by omega, by omega, by omega, ?_⟩
        intro M9 h9
        intro M11 h11
        have m99 : M7 99 (n : Int) = nwv H C s n := by rw [h7, mset_o (by decide)]; exact n99
        rw [m99, h7] at h9
        rw [h9] at h11
        have s1 : (((s + 1 : Nat) : Int)) = (s : Int) + 1 := by omega
        rw [s1] at h11
        refine ih (n + 1) M11 (by omega) (by omega) ⟨fun q x y z => by rw [h11, mset_p x, mset_p z, mset_p y]; exact hI.1 q x y z, fun j hj => by rw [h11, mset_k hj, mset_o (by decide), mset_o (by decide)]; exact hI.2.1 j hj, Or.inr ⟨by rw [h11, mset_e], n, by omega, by omega, hb, w⟩, fun q q0 q1 q2 q3 => ?_, fun q q0 => ?_⟩ hK
        · by_cases e : q = (n : Int)
          · rw [e, h11, mset_o (by decide), mset_o (by decide), mset_e, mset_o (by decide), mset_e]
            exact ⟨rfl, rfl⟩
          · rw [h11, mset_o (by decide), mset_o (by decide), mset_k e, mset_o (by decide), mset_k e, mset_o (by decide)]
            exact hI.2.2.2.1 q q0 (by omega) q2 q3
        · have e : q ≠ (n : Int) := by
            intro e
            apply q0
            rw [e]
            exact ⟨by omega, by omega, hb, w⟩
          rw [h11, mset_o (by decide), mset_o (by decide), mset_k e, mset_o (by decide), mset_k e, mset_o (by decide)]
          exact hI.2.2.2.2 q (fun u => q0 ⟨u.1, by have := u.2.1; omega, u.2.2⟩)
/-- a second is over -/
theorem sec_r {B M N N' : Mem} {s : Nat} (ho : Hok H) (hs : s < 200) (h : rST H C B s M) (hI : mvI H C s M (H 0 4).toNat N) (hJ : opI H C s N (H 0 4).toNat N') :
    (∀ q, (q < 66 ∨ (66 < q ∧ q < 93) ∨ 99 < q) → N' q = B q) ∧ (∀ j, j ≠ 50 → j ≠ 51 → j ≠ 52 → N' 66 j = B 66 j) ∧ (∀ c, 0 ≤ c → c < 54 → N' 93 c = dst H c) ∧
    (∀ q, 0 ≤ q → q < 9 → N' 96 q = Os H C (s + 1) q ∧ N' 97 q = Hs H C (s + 1) q ∧ N' 98 q = gts H C q (s + 1)) ∧ N' 66 50 = flg H C (s + 1) ∧ N' 66 51 = als H C s ∧ N' 66 52 = ags H C s ∧
    (∀ t : Nat, t ≤ s + 1 → ∀ q, 0 ≤ q → q < H 0 4 → bt C q = true → N' 95 (9 * (t : Int) + q) = rps H C q t) := by
  have hbd := ho.2.1
  have hn : (((H 0 4).toNat : Nat) : Int) = H 0 4 := by omega
  have n66 : N 66 = M 66 := hI.1 66 (by decide) (by decide) (by decide)
  unfold mvI at hI
  unfold opI at hJ
  rw [hn] at hI hJ
  refine ⟨fun q x => by rw [hJ.1 q (by omega) (by omega) (by omega), hI.1 q (by omega) (by omega) (by omega)]; exact h.1 q x, fun j a b c => by rw [hJ.2.1 j a, n66]; exact h.2.1 j a b c, fun c x y => by rw [hJ.1 93 (by decide) (by decide) (by decide), hI.1 93 (by decide) (by decide) (by decide)]; exact h.2.2.1 c x y, fun q q0 q1 => ?_, ?_, by rw [hJ.2.1 51 (by decide), n66]; exact h.2.2.2.2.2.1, by rw [hJ.2.1 52 (by decide), n66]; exact h.2.2.2.2.2.2.1, fun t ht q q0 q1 q2 => ?_⟩
  · have o := h.2.2.2.1 q q0 q1
    have e98 : N' 98 q = N 98 q := by rw [hJ.1 98 (by decide) (by decide) (by decide)]
    have n96 : N 96 q = M 96 q := by rw [hI.1 96 (by decide) (by decide) (by decide)]
    have n97 : N 97 q = M 97 q := by rw [hI.1 97 (by decide) (by decide) (by decide)]
    by_cases c : 0 ≤ q ∧ q < H 0 4 ∧ bt C q = true
    · refine ⟨?_, ?_, by rw [e98]; exact (hI.2.1 q c.1 c.2.1 c.2.2).2.1⟩
      · rw [Os_s c.1 c.2.1 c.2.2]
        by_cases d : nwv H C s q = 0
        · rw [if_pos d, (hJ.2.2.2.2 q (fun w => w.2.2.2 d)).1, n96]
          exact o.1
        · rw [if_neg d]
          exact (hJ.2.2.2.1 q c.1 c.2.1 c.2.2 d).1
      · rw [Hs_s c.1 c.2.1 c.2.2]
        by_cases d : nwv H C s q = 0
        · rw [if_pos d, (hJ.2.2.2.2 q (fun w => w.2.2.2 d)).2, n97]
          exact o.2.1
        · rw [if_neg d]
          exact (hJ.2.2.2.1 q c.1 c.2.1 c.2.2 d).2
    · have j5 := hJ.2.2.2.2 q (fun w => c ⟨w.1, w.2.1, w.2.2.1⟩)
      have i3 := hI.2.2.1 q c
      rw [e98, j5.1, j5.2, i3, n96, n97, o.1, o.2.1, o.2.2, Os_out c, Os_out c, Hs_out c, Hs_out c, gts_out c, gts_out c]
      exact ⟨rfl, rfl, rfl⟩
  · have f := ff_s ho C
    have e50 : N 66 50 = flg H C s := by rw [n66]; exact h.2.2.2.2.1
    have s1 : (((s + 1 : Nat) : Int)) = (s : Int) + 1 := by omega
    rcases hJ.2.2.1 with u | u
    · rw [u.1, e50]
      unfold flg
      by_cases a : alrm H C = -1
      · by_cases b : ff H C ≤ (s : Int)
        · rw [if_pos ⟨a, b⟩, if_pos ⟨a, by omega⟩]
        · rw [if_neg (fun w => b w.2)]
          by_cases d : ff H C ≤ ((s + 1 : Nat) : Int)
          · exfalso
            obtain ⟨p, p0, p1, p2, p3⟩ := opn_post ho C (s := s + 1) (by omega) d
            have z := u.2 p p0 p1 p2
            have o1 := Os_s (C := C) (s := s) p0 p1 p2
            rw [if_pos z, Os_pre ho (by omega)] at o1
            unfold Os at o1
            rw [if_pos a, p3] at o1
            clear h hI hJ u e50 z p3
            omega
          · rw [if_neg (fun w => d w.2)]
      · rw [if_neg (fun w => a w.1), if_neg (fun w => a w.1)]
    · obtain ⟨u1, q, q0, q1, q2, q3⟩ := u
      have a : alrm H C = -1 := by
        refine Classical.byContradiction (fun a => q3 ?_)
        unfold nwv
        rw [if_neg a]
        by_cases b : Os H C s q = -1
        · rw [if_pos b]
        · rw [if_neg b]
      have b : ff H C ≤ ((s + 1 : Nat) : Int) := by
        refine Classical.byContradiction (fun b => ?_)
        have o1 := Os_s (C := C) (s := s) q0 q1 q2
        rw [if_neg q3, Os_pre ho (by omega)] at o1
        clear h hI hJ e50 u1 q3
        omega
      rw [u1]
      unfold flg
      rw [if_pos ⟨a, b⟩]
  · rw [hJ.1 95 (by decide) (by decide) (by decide)]
    by_cases e : t = s + 1
    · rw [e]
      exact (hI.2.1 q q0 q1 q2).2.2
    · rw [hI.2.2.2 _ (by omega)]
      exact h.2.2.2.2.2.2.2 t (by omega) q q0 q1 q2
theorem als_s {s : Nat} : als H C s = (if alrm H C ≠ -1 ∧ alrm H C < ((s + 1 : Nat) : Int) then alrm H C else -1) ∧ ags H C s = (if alrm H C ≠ -1 ∧ alrm H C < ((s + 1 : Nat) : Int) then algd H C else -1) := by
  unfold als ags
  by_cases a : alrm H C ≠ -1 ∧ alrm H C ≤ (s : Int)
  · rw [if_pos a, if_pos a, if_pos (show alrm H C ≠ -1 ∧ alrm H C < ((s + 1 : Nat) : Int) by omega), if_pos (show alrm H C ≠ -1 ∧ alrm H C < ((s + 1 : Nat) : Int) by omega)]
    exact ⟨rfl, rfl⟩
  · rw [if_neg a, if_neg a, if_neg (show ¬ (alrm H C ≠ -1 ∧ alrm H C < ((s + 1 : Nat) : Int)) by omega), if_neg (show ¬ (alrm H C ≠ -1 ∧ alrm H C < ((s + 1 : Nat) : Int)) by omega)]
    exact ⟨rfl, rfl⟩
theorem rST_lu {B N : Mem} {t : Nat} (ho : Hok H) (hrB : Rh H B) (C0 : 0 ≤ C) (C1 : C < 512) (hC : B 66 42 = C) (ht : t < 201)
    (a1 : ∀ q, (q < 66 ∨ (66 < q ∧ q < 93) ∨ 99 < q) → N q = B q) (a2 : ∀ j, j ≠ 50 → j ≠ 51 → j ≠ 52 → N 66 j = B 66 j) (a3 : ∀ c, 0 ≤ c → c < 54 → N 93 c = dst H c)
    (a4 : ∀ q, 0 ≤ q → q < 9 → N 96 q = Os H C t q ∧ N 97 q = Hs H C t q ∧ N 98 q = gts H C q t) (a5 : N 66 50 = flg H C t) (h51 : N 66 51 = if alrm H C ≠ -1 ∧ alrm H C < (t : Int) then alrm H C else -1) (h52 : N 66 52 = if alrm H C ≠ -1 ∧ alrm H C < (t : Int) then algd H C else -1)
    (a8 : ∀ u : Nat, u ≤ t → ∀ q, 0 ≤ q → q < H 0 4 → bt C q = true → N 95 (9 * (u : Int) + q) = rps H C q u) :
    nX12_looksUp N (t : Int) ∧ rST H C B t (fmX12_looksUp N (t : Int)) := by
  have hrN : Rh H N := Rh_93 (fun q x => a1 q (by omega)) (a2 38 (by decide) (by decide) (by decide)) (a2 39 (by decide) (by decide) (by decide)) hrB
  have l := lu_r ho hrN C0 C1 (by rw [a2 42 (by decide) (by decide) (by decide)]; exact hC) ht (fun q x y => (a4 q x y).1) (a8 t (by omega)) a5 h51 h52
  obtain ⟨l1, l2, l3, l4, l5⟩ := l
  refine ⟨l1, fun q x => by rw [l2 q (by omega)]; exact a1 q x, fun j x y z => by rw [l3 j y z]; exact a2 j x y z, fun c x y => by rw [l2 93 (by decide)]; exact a3 c x y, fun q x y => by rw [l2 96 (by decide), l2 97 (by decide), l2 98 (by decide)]; exact a4 q x y, by rw [l3 50 (by decide) (by decide)]; exact a5, l4, l5, fun u x q y z w => by rw [l2 95 (by decide)]; exact a8 u x q y z w⟩
theorem se_lp {B : Mem} {K : Mem → Prop} {Q : Int → Mem → Prop} (ho : Hok H) (hrB : Rh H B) (C0 : 0 ≤ C) (C1 : C < 512) (hC : B 66 42 = C) (hK : ∀ M' : Mem, rST H C B 200 M' → K M') : ∀ (k s : Nat) (M : Mem), s ≤ 200 → 200 < s + k → rST H C B s M → PX12_plays_92 K Q k ((s + 1 : Nat) : Int) M := by
  have hbd := ho.2.1
  intro k
  induction k with
  | zero => intro s M a b; omega
  | succ k ih =>
    intro s M a b h
    have hrM : Rh H M := Rh_93 (fun q x => h.1 q (by omega)) (h.2.1 38 (by decide) (by decide) (by decide)) (h.2.1 39 (by decide) (by decide) (by decide)) hrB
    have hCM : M 66 42 = C := by rw [h.2.1 42 (by decide) (by decide) (by decide)]; exact hC
    refine ⟨fun z => ?_, fun z => ?_⟩
    · have e : s = 200 := by omega
      rw [e] at h
      exact hK M h
    · have hs : s < 200 := by omega
      have e3 : wr32 (((s + 1 : Nat) : Int) + 1) = ((s + 1 + 1 : Nat) : Int) := by rw [wad (by omega) (by omega)]; omega
      refine ⟨10, mv_lp ho hrM C0 C1 hCM hs h 10 0 M (by omega) (by omega) ⟨fun _ _ _ _ => rfl, fun q q0 q1 => by omega, fun _ _ => rfl, fun _ _ => rfl⟩ (fun N hI => ?_)⟩
      have n66 : N 66 = M 66 := hI.1 66 (by decide) (by decide) (by decide)
      have hrN : Rh H N := Rh_93 (fun q x => hI.1 q (by omega) (by omega) (by omega)) (by rw [n66]) (by rw [n66]) hrM
      refine ⟨10, op_lp ho hrN C0 C1 (by rw [n66]; exact hCM) (fun q q0 q1 q2 => (hI.2.1 q q0 (by omega) q2).1) 10 0 N (by omega) (by omega) ⟨fun _ _ _ _ => rfl, fun _ _ => rfl, Or.inl ⟨rfl, fun q q0 q1 => by omega⟩, fun q q0 q1 => by omega, fun _ _ => ⟨rfl, rfl⟩⟩ (fun N' hJ => ?_)⟩
      obtain ⟨b1, b2, b3, b4, b5, b6, b7, b8⟩ := sec_r ho hs h hI hJ
      rw [als_s.1] at b6
      rw [als_s.2] at b7
      have r := rST_lu ho hrB C0 C1 hC (t := s + 1) (by omega) b1 b2 b3 b4 b5 b6 b7 b8
      refine ⟨r.1, ?_⟩
      intro M10 h10
      rw [e3]
      refine ih (s + 1) M10 (by omega) (by omega) ?_
      rw [h10]
      exact r.2
/-- the first cells -/
theorem in_lp {B : Mem} {K : Mem → Prop} {Q : Int → Mem → Prop} (ho : Hok H) (hr : Rh H B) (hK : ∀ M' : Mem, (∀ q, (q < 95 ∨ 99 < q) → M' q = B q) → (∀ q, 0 ≤ q → q < 9 → M' 96 q = -1 ∧ M' 97 q = 0 ∧ M' 98 q = -1 ∧ M' 99 q = 0) → (∀ q, 0 ≤ q → q < H 0 4 → M' 95 q = H 7 q) → K M') : ∀ (k n : Nat) (M : Mem), n ≤ 9 → 9 < n + k → (∀ q, (q < 95 ∨ 99 < q) → M q = B q) → (∀ q, 0 ≤ q → q < n → M 96 q = -1 ∧ M 97 q = 0 ∧ M 98 q = -1 ∧ M 99 q = 0) → (∀ q, 0 ≤ q → q < n → q < H 0 4 → M 95 q = H 7 q) → PX12_plays_21 K Q k n M := by
  have hbd := ho.2.1
  intro k
  induction k with
  | zero => intro n M a b; omega
  | succ k ih =>
    intro n M a b c1 c2 c3
    have e3 : wr32 ((n : Int) + 1) = ((n + 1 : Nat) : Int) := by rw [wad (by omega) (by omega)]; omega
    refine ⟨fun z => hK M c1 (fun q x y => c2 q x (by omega)) (fun q x y => c3 q x (by omega) y), fun z => ⟨by omega, by omega, ?_⟩⟩
    intro M3 h3
    refine ⟨by omega, by omega, ?_⟩
    intro M5 h5
    refine ⟨by omega, by omega, ?_⟩
    intro M7 h7
    refine ⟨by omega, by omega, ?_⟩
    intro M9 h9
    rw [h7, h5, h3] at h9
    have e9 : ∀ q, (q < 95 ∨ 99 < q) → M9 q = B q := fun q x => by rw [h9, mset_p (by omega), mset_p (by omega), mset_p (by omega), mset_p (by omega)]; exact c1 q x
    have hr9 : Rh H M9 := Rh_93 (fun q x => e9 q (by omega)) (by rw [e9 66 (by omega)]) (by rw [e9 66 (by omega)]) hr
    have d9 : ∀ q, 0 ≤ q → q < ((n + 1 : Nat) : Int) → M9 96 q = -1 ∧ M9 97 q = 0 ∧ M9 98 q = -1 ∧ M9 99 q = 0 := by
      intro q x y
      rw [h9]
      by_cases e : q = (n : Int)
      · rw [e, mset_o (by decide), mset_o (by decide), mset_o (by decide), mset_e, mset_o (by decide), mset_o (by decide), mset_e, mset_o (by decide), mset_e, mset_e]
        exact ⟨rfl, rfl, rfl, rfl⟩
      · rw [mset_o (by decide), mset_o (by decide), mset_o (by decide), mset_k e, mset_o (by decide), mset_o (by decide), mset_k e, mset_o (by decide), mset_o (by decide), mset_k e, mset_o (by decide), mset_o (by decide), mset_k e, mset_o (by decide), mset_o (by decide), mset_o (by decide)]
        exact c2 q x (by omega)
    have f9 : ∀ q, M9 95 q = M 95 q := fun q => by rw [h9, mset_o (by decide), mset_o (by decide), mset_o (by decide), mset_o (by decide)]
    have fin : ∀ v : Int, ((n : Int) < H 0 4 → v = H 7 n) → ∀ M' : Mem, M' = mset M9 95 n v → PX12_plays_21 K Q k (wr32 ((n : Int) + 1)) M' := by
      intro v hv M' h'
      rw [e3]
      refine ih (n + 1) M' (by omega) (by omega) (fun q x => by rw [h', mset_p (by omega)]; exact e9 q x) (fun q x y => by rw [h', mset_o (by decide), mset_o (by decide), mset_o (by decide), mset_o (by decide)]; exact d9 q x y) (fun q x y w => ?_)
      by_cases e : q = (n : Int)
      · rw [e] at w ⊢
        rw [h', mset_e]
        exact hv w
      · rw [h', mset_k e, f9]
        exact c3 q x (by omega) w
    refine ⟨fun y => ⟨by omega, by omega, fin 0 (fun w => ?_)⟩, fun y => ⟨nPOf (by omega) (by omega) (by omega) (by omega), by omega, by omega, fin _ (fun w => ?_)⟩⟩
    · rw [pMany hr9] at y
      omega
    · rw [(pOf (p := (n : Int)) (by omega) (by omega) (by omega) (by omega)).1]
      have := (hr9.2.2.2.2.1 n (by omega) w).1
      rw [Int.add_zero]
      exact this
/-- what stands behind plays() -/
def rPl (H : Hal) (C : Int) (B M : Mem) : Prop :=
  (∀ q, (q < 66 ∨ (66 < q ∧ q < 93) ∨ 99 < q) → M q = B q) ∧ (∀ j, j ≠ 50 → j ≠ 51 → j ≠ 52 → M 66 j = B 66 j) ∧
  (∀ q, 0 ≤ q → q < 9 → M 96 q = oo H C q ∧ M 97 q = hw H C q ∧ M 98 q = gout H C q) ∧ M 66 51 = alrm H C ∧ M 66 52 = algd H C ∧
  (∀ t : Nat, t < 201 → ∀ q, 0 ≤ q → q < H 0 4 → bt C q = true → M 95 (9 * (t : Int) + q) = rps H C q t)
theorem rST_ok {B M : Mem} (ho : Hok H) (h : rST H C B 200 M) : rPl H C B M := by
  have al := al_s (C := C) ho
  obtain ⟨a1, a2, a3, a4, a5, a6, a7, a8⟩ := h
  refine ⟨a1, a2, fun q q0 q1 => ?_, ?_, ?_, fun t ht => a8 t (by omega)⟩
  · have o := a4 q q0 q1
    refine ⟨o.1, o.2.1, ?_⟩
    rw [o.2.2]
    unfold gts
    by_cases z : gout H C q = -1
    · rw [if_neg (fun w => w.1 z), z]
    · have ne : oo H C q ≠ -1 := by
        intro y
        apply z
        unfold gout
        rw [if_pos y]
      have g := gout_s ho ne
      rcases g with u | u
      · exact absurd u.1 z
      · rw [if_pos ⟨z, u.2.1⟩]
  · rw [a6]
    unfold als
    by_cases z : alrm H C = -1
    · rw [if_neg (fun w => w.1 z), z]
    · rcases al with u | u
      · exact absurd u.1 z
      · rw [if_pos ⟨z, u.2.2.1⟩]
  · rw [a7]
    unfold ags
    by_cases z : alrm H C = -1
    · rw [if_neg (fun w => w.1 z)]
      unfold algd
      rw [if_pos z]
    · rcases al with u | u
      · exact absurd u.1 z
      · rw [if_pos ⟨z, u.2.2.1⟩]
theorem pl_s {M : Mem} {Q : Int → Mem → Prop} (ho : Hok H) (hr : Rh H M) (C0 : 0 ≤ C) (C1 : C < 512) (hC : M 66 42 = C) (hQ : ∀ M' : Mem, rPl H C M M' → Q 0 M') : PX12_plays M Q := by
  have hbd := ho.2.1
  have al := al_s (C := C) ho
  refine spr ho hr (fun M2 e1 e2 => ?_)
  intro M5 h5 M7 h7 M9 h9
  rw [h7, h5] at h9
  have q9 : ∀ q, q ≠ 66 → q ≠ 93 → q ≠ 94 → M9 q = M q := fun q a b c => by rw [h9, mset_p a, mset_p a, mset_p a]; exact e1 q b c
  have j9 : ∀ j, j ≠ 50 → j ≠ 51 → j ≠ 52 → M9 66 j = M 66 j := fun j a b c => by rw [h9, mset_k a, mset_k c, mset_k b, e1 66 (by decide) (by decide)]
  have r9 : Rh H M9 := Rh_93 (fun q x => q9 q (by omega) (by omega) (by omega)) (j9 38 (by decide) (by decide) (by decide)) (j9 39 (by decide) (by decide) (by decide)) hr
  refine ⟨10, in_lp ho r9 (fun M11 c1 c2 c3 => ?_) 10 0 M9 (by omega) (by omega) (fun _ _ => rfl) (fun q x y => by omega) (fun q x y => by omega)⟩
  have z51 : ¬ (alrm H C ≠ -1 ∧ alrm H C < ((0 : Nat) : Int)) := by
    rcases al with u | u
    · exact fun w => w.1 u.1
    · have := u.1
      clear u
      omega
  have t0 : ((0 : Nat) : Int) < ff H C := by have := (ff_s ho C).1; omega
  have ga : ∀ q, gts H C q 0 = -1 := by
    intro q
    unfold gts
    rw [if_neg]
    intro w
    by_cases y : oo H C q = -1
    · exact w.1 (by unfold gout; rw [if_pos y])
    · have ob := oo_b (H := H) (C := C) (p := q)
      rcases gout_s ho y with u | u
      · exact w.1 u.1
      · have w1 := w.2
        have := u.1
        clear u w al
        omega
  have r := rST_lu (B := M) (N := M11) (t := 0) (C := C) ho hr C0 C1 hC (by omega)
    (fun q x => by rw [c1 q (by omega)]; exact q9 q (by omega) (by omega) (by omega))
    (fun j x y z => by rw [c1 66 (by omega)]; exact j9 j x y z)
    (fun c x y => by rw [c1 93 (by omega), h9, mset_o (by decide), mset_o (by decide), mset_o (by decide)]; exact e2 c x y)
    (fun q x y => by
      have c := c2 q x y
      rw [c.1, c.2.1, c.2.2.1, Os_pre ho t0, ga]
      refine ⟨rfl, ?_, rfl⟩
      unfold Hs
      by_cases a : alrm H C = -1
      · rw [if_pos a]; rfl
      · rw [if_neg a])
    (by
      rw [c1 66 (by omega), h9, mset_e]
      unfold flg
      rw [if_neg (fun w => by have := w.2; omega)])
    (by rw [c1 66 (by omega), h9, mset_k (by decide), mset_k (by decide), mset_e, if_neg z51])
    (by rw [c1 66 (by omega), h9, mset_k (by decide), mset_e, if_neg z51])
    (fun u x q y z w => by
      have : u = 0 := by omega
      subst this
      rw [rps_w (by omega) (Os_pre ho t0 q), show (9 * ((0 : Nat) : Int) + q) = q by omega]
      exact c3 q y z)
  refine ⟨r.1, ?_⟩
  intro M15 h15
  refine ⟨201, ?_⟩
  rw [← h15] at r
  have := se_lp (K := fun M17 => Q 0 M17) (Q := Q) ho hr C0 C1 hC (fun M' h' => hQ M' (rST_ok ho h')) 201 0 M15 (by omega) (by omega) r.2
  exact this
end
