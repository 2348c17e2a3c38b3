/-! a morning of the reference, second by second -/
theorem gout_out {H : Hal} {C p : Int} (h : ¬ (0 ≤ p ∧ p < H 0 4 ∧ bt C p = true)) : gout H C p = -1 := by
  unfold gout
  rw [if_pos (oo_out h)]
theorem gts_out {H : Hal} {C p : Int} {s : Nat} (h : ¬ (0 ≤ p ∧ p < H 0 4 ∧ bt C p = true)) : gts H C p s = -1 := by
  unfold gts
  rw [gout_out h, if_neg (fun z => z.1 rfl)]
theorem Os_out {H : Hal} {C p : Int} {s : Nat} (h : ¬ (0 ≤ p ∧ p < H 0 4 ∧ bt C p = true)) : Os H C s p = -1 := by
  unfold Os
  rw [opn_out h s]
  by_cases a : alrm H C = -1
  · rw [if_pos a]
  · rw [if_neg a]
theorem Hs_out {H : Hal} {C p : Int} {s : Nat} (h : ¬ (0 ≤ p ∧ p < H 0 4 ∧ bt C p = true)) : Hs H C s p = 0 := by
  unfold Hs
  by_cases a : alrm H C = -1
  · rw [if_pos a]; exact hws_0 _ (opn_out h s)
  · rw [if_neg a]
theorem Os_s {H : Hal} {C p : Int} {s : Nat} (p0 : 0 ≤ p) (p1 : p < H 0 4) (hb : bt C p = true) : Os H C (s + 1) p = if nwv H C s p = 0 then Os H C s p else (s : Int) + 1 := by
  by_cases cw : Os H C s p = -1
  · rw [wt_O p0 p1 hb cw, cw]
  · have nv : nwv H C s p = 0 := by unfold nwv; rw [if_neg cw]
    rw [if_pos nv]
    unfold Os at cw ⊢
    by_cases a : alrm H C = -1
    · rw [if_pos a] at cw
      rw [if_pos a, if_pos a]
      have := opn_k cw 1
      exact this
    · rw [if_neg a, if_neg a]
theorem Hs_s {H : Hal} {C p : Int} {s : Nat} (p0 : 0 ≤ p) (p1 : p < H 0 4) (hb : bt C p = true) : Hs H C (s + 1) p = if nwv H C s p = 0 then Hs H C s p else nwv H C s p := by
  unfold Hs nwv Os
  by_cases a : alrm H C = -1
  · rw [if_pos a, if_pos a, if_pos a, if_pos a]
    have e2 : hws H C (s + 1) p = if 0 ≤ p ∧ p < H 0 4 ∧ bt C p = true ∧ opn H C s p = -1 then bys H C (opn H C s) p s else hws H C s p := rfl
    rw [e2]
    by_cases b : opn H C s p = -1
    · rw [if_pos b, if_pos ⟨p0, p1, hb, b⟩, hws_0 _ b]
      by_cases c : bys H C (opn H C s) p s = 0
      · rw [if_pos c, c]
      · rw [if_neg c]
    · rw [if_neg b, if_pos rfl, if_neg (fun z => b z.2.2.2)]
  · rw [if_neg a, if_neg a, if_neg a, if_neg a, if_pos (rfl : (-1 : Int) = -1), if_pos rfl]
def flg (H : Hal) (C : Int) (s : Nat) : Int := if alrm H C = -1 ∧ ff H C ≤ (s : Int) then 1 else 0
def rST (H : Hal) (C : Int) (B : Mem) (s : Nat) (M : Mem) : Prop :=
  (∀ q, (q < 66 ∨ (66 < q ∧ q < 93) ∨ 99 < q) → M q = B q) ∧ (∀ j, j ≠ 50 → j ≠ 51 → j ≠ 52 → M 66 j = B 66 j) ∧ (∀ c, 0 ≤ c → c < 54 → M 93 c = dst H c) ∧
  (∀ q, 0 ≤ q → q < 9 → M 96 q = Os H C s q ∧ M 97 q = Hs H C s q ∧ M 98 q = gts H C q s) ∧ M 66 50 = flg H C s ∧ M 66 51 = als H C s ∧ M 66 52 = ags H C s ∧
  (∀ t : Nat, t ≤ s → ∀ q, 0 ≤ q → q < H 0 4 → bt C q = true → M 95 (9 * (t : Int) + q) = rps H C q t)
section
variable {H : Hal} {C : Int}
def gsf (H : Hal) (C g : Int) (t : Nat) (p : Int) : Bool := bt C p && decide (far H (H 4 g) (wlk H p t) ≤ H 5 g)
theorem wn_lp {N : Mem} {t : Nat} {g : Int} (ho : Hok H) (hr : Rh H N) (C0 : 0 ≤ C) (C1 : C < 512) (hC : N 66 42 = C) (ht : t < 201) (g0 : 0 ≤ g) (g1 : g < H 0 3) (h96 : ∀ q, 0 ≤ q → q < H 0 4 → N 96 q = -1) (h95 : ∀ q, 0 ≤ q → q < H 0 4 → bt C q = true → N 95 (9 * (t : Int) + q) = wlk H q t) : ∀ (k n : Nat), (n : Int) + k = H 0 4 →
    lX12_waitingNear_5 k g (t : Int) (cnt (gsf H C g t) n) n N = cnt (gsf H C g t) (H 0 4).toNat ∧ nlX12_waitingNear_5 k g (t : Int) (cnt (gsf H C g t) n) n N := by
  have hbd := ho.2.1
  intro k
  induction k with
  | zero =>
    intro n hn
    have en : n = (H 0 4).toNat := by omega
    refine ⟨?_, trivial⟩
    show cnt (gsf H C g t) n = _
    rw [en]
  | succ k ih =>
    intro n hn
    have ic := isComing_r ho hr hC C0 C1 (p := (n : Int)) (by omega) (by omega)
    have r89 := hr.2.2.2.1 g g0 g1
    have o4 := ho.2.2.2.2.2.1 g g0 g1
    have i0 : wr32 (12 + wr32 (3 * g)) = 12 + 3 * g := by rw [wmu (a := 3) (by omega) (by omega), wad (by omega) (by omega)]
    have i1 : wr32 (12 + 3 * g + 1) = 12 + 3 * g + 1 := wad (by omega) (by omega)
    have iw : fX12_isWaiting N (n : Int) (t : Int) = 1 := by
      unfold fX12_isWaiting
      rw [h96 n (by omega) (by omega), if_pos rfl]
    have wq := where_r (M := N) (p := (n : Int)) (by omega) (by omega) (show (0 : Int) ≤ (t : Int) by omega) (by omega)
    have fw := wlk_fre ho (p := (n : Int)) (by omega) (by omega) t
    have fa := far_r ho hr o4.1 fw
    have cb := cnt_b (gsf H C g t) n
    have e3 : ((n : Int) + 1) = ((n + 1 : Nat) : Int) := by omega
    have key : (if (fX12_isComing N n) = 0 then cnt (gsf H C g t) n else (if (fX12_isWaiting N n (t : Int)) = 0 then cnt (gsf H C g t) n else (if (N 89 (wr32 ((wr32 (12 + (wr32 (3 * g)))) + 1))) < (fX12_apart N (N 89 (wr32 (12 + (wr32 (3 * g))))) (fX12_whereIn N n (t : Int))) then cnt (gsf H C g t) n else (wr32 (cnt (gsf H C g t) n + 1))))) = cnt (gsf H C g t) (n + 1) := by
      rw [ic, iw, i0, i1, r89.1, r89.2.1, wq.1]
      show _ = cnt (gsf H C g t) n + (if gsf H C g t n = true then 1 else 0)
      obtain ⟨xx, hxx⟩ : ∃ z : Int, z = cnt (gsf H C g t) n := ⟨_, rfl⟩
      rw [← hxx] at cb ⊢
      unfold gsf
      cases hx : bt C n with
      | false => simp
      | true =>
        rw [h95 n (by omega) (by omega) hx, fa.1, if_pos (rfl : true = true), if_neg (show ¬ (1 : Int) = 0 by decide), if_neg (show ¬ (1 : Int) = 0 by decide), Bool.true_and]
        obtain ⟨fr, hfr⟩ : ∃ z : Int, z = far H (H 4 g) (wlk H n t) := ⟨_, rfl⟩
        rw [← hfr]
        by_cases y : fr ≤ H 5 g
        · rw [if_neg (by omega), decide_eq_true y, if_pos (rfl : true = true)]
          exact wad (by omega) (by omega)
        · rw [if_pos (by omega), decide_eq_false y]
          simp
    have e : lX12_waitingNear_5 (k + 1) g (t : Int) (cnt (gsf H C g t) n) n N = lX12_waitingNear_5 k g (t : Int) (if (fX12_isComing N n) = 0 then cnt (gsf H C g t) n else (if (fX12_isWaiting N n (t : Int)) = 0 then cnt (gsf H C g t) n else (if (N 89 (wr32 ((wr32 (12 + (wr32 (3 * g)))) + 1))) < (fX12_apart N (N 89 (wr32 (12 + (wr32 (3 * g))))) (fX12_whereIn N n (t : Int))) then cnt (gsf H C g t) n else (wr32 (cnt (gsf H C g t) n + 1))))) ((n : Int) + 1) N := rfl
    have en : nlX12_waitingNear_5 (k + 1) g (t : Int) (cnt (gsf H C g t) n) n N = ((¬ ((fX12_isComing N n) = 0) → (nX12_isWaiting N n)) ∧ (¬ ((fX12_isComing N n) = 0) → ¬ ((fX12_isWaiting N n (t : Int)) = 0) → 0 ≤ (wr32 (12 + (wr32 (3 * g)))) ∧ (wr32 (12 + (wr32 (3 * g)))) < 24) ∧ (¬ ((fX12_isComing N n) = 0) → ¬ ((fX12_isWaiting N n (t : Int)) = 0) → (nX12_whereIn n (t : Int))) ∧ (¬ ((fX12_isComing N n) = 0) → ¬ ((fX12_isWaiting N n (t : Int)) = 0) → (nX12_apart N)) ∧ (¬ ((fX12_isComing N n) = 0) → ¬ ((fX12_isWaiting N n (t : Int)) = 0) → 0 ≤ (wr32 ((wr32 (12 + (wr32 (3 * g)))) + 1)) ∧ (wr32 ((wr32 (12 + (wr32 (3 * g)))) + 1)) < 24) ∧ nlX12_waitingNear_5 k g (t : Int) (if (fX12_isComing N n) = 0 then cnt (gsf H C g t) n else (if (fX12_isWaiting N n (t : Int)) = 0 then cnt (gsf H C g t) n else (if (N 89 (wr32 ((wr32 (12 + (wr32 (3 * g)))) + 1))) < (fX12_apart N (N 89 (wr32 (12 + (wr32 (3 * g))))) (fX12_whereIn N n (t : Int))) then cnt (gsf H C g t) n else (wr32 (cnt (gsf H C g t) n + 1))))) ((n : Int) + 1) N) := rfl
    rw [e, en, key, e3]
    have i3 := ih (n + 1) (by omega)
    rw [i0, i1]
    exact ⟨i3.1, fun _ => ⟨⟨by omega, by omega⟩, fun _ => ⟨by omega, by omega⟩⟩, fun _ _ => ⟨by omega, by omega⟩, fun _ _ => wq.2, fun _ _ => fa.2, fun _ _ => ⟨by omega, by omega⟩, i3.2⟩
theorem wn_r {N : Mem} {t : Nat} {g : Int} (ho : Hok H) (hr : Rh H N) (C0 : 0 ≤ C) (C1 : C < 512) (hC : N 66 42 = C) (ht : t < 201) (g0 : 0 ≤ g) (g1 : g < H 0 3) (h96 : ∀ q, 0 ≤ q → q < H 0 4 → N 96 q = -1) (h95 : ∀ q, 0 ≤ q → q < H 0 4 → bt C q = true → N 95 (9 * (t : Int) + q) = wlk H q t) :
    fX12_waitingNear N g (t : Int) = gseen H C g t ∧ nX12_waitingNear N g (t : Int) := by
  have hbd := ho.2.1
  have l := wn_lp ho hr C0 C1 hC ht g0 g1 h96 h95 (H 0 4).toNat 0 (by omega)
  unfold fX12_waitingNear nX12_waitingNear
  rw [pMany hr, Int.sub_zero]
  exact ⟨l.1, l.2⟩
theorem lu_lp {N : Mem} {t : Nat} (ho : Hok H) (hr : Rh H N) (C0 : 0 ≤ C) (C1 : C < 512) (hC : N 66 42 = C) (ht : t < 201) (h96 : ∀ q, 0 ≤ q → q < H 0 4 → N 96 q = -1) (h95 : ∀ q, 0 ≤ q → q < H 0 4 → bt C q = true → N 95 (9 * (t : Int) + q) = wlk H q t) (h51 : N 66 51 = -1) (h50 : N 66 50 = 0) : ∀ (k n : Nat), (n : Int) + k = H 0 3 →
    lmX12_looksUp_2 k (t : Int) n N = (if fst1 (fun g => decide (H 6 g ≤ gseen H C g t)) n k = -1 then N else mset (mset N 66 51 t) 66 52 (fst1 (fun g => decide (H 6 g ≤ gseen H C g t)) n k)) ∧ nlX12_looksUp_2 k (t : Int) n N := by
  have hbd := ho.2.1
  intro k
  induction k with
  | zero =>
    intro n hn
    exact ⟨by show N = if (-1 : Int) = -1 then N else _; rw [if_pos rfl], trivial⟩
  | succ k ih =>
    intro n hn
    have w := wn_r ho hr C0 C1 hC ht (g := (n : Int)) (by omega) (by omega) h96 h95
    have r89 := hr.2.2.2.1 n (by omega) (by omega)
    have i0 : wr32 (12 + wr32 (3 * (n : Int))) = 12 + 3 * (n : Int) := by rw [wmu (a := 3) (by omega) (by omega), wad (by omega) (by omega)]
    have i1 : wr32 (12 + 3 * (n : Int) + 2) = 12 + 3 * (n : Int) + 2 := wad (by omega) (by omega)
    have e3 : ((n : Int) + 1) = ((n + 1 : Nat) : Int) := by omega
    have e : lmX12_looksUp_2 (k + 1) (t : Int) n N = (if (N 66 51) = (-1) then (if (N 66 50) = 0 then (lmX12_looksUp_2 k (t : Int) ((n : Int) + 1) (if (N 89 (wr32 ((wr32 (12 + (wr32 (3 * (n : Int))))) + 2))) ≤ (fX12_waitingNear N n (t : Int)) then (mset (mset N 66 51 (t : Int)) 66 52 (n : Int)) else N)) else N) else N) := rfl
    have en : nlX12_looksUp_2 (k + 1) (t : Int) n N = (((N 66 51) = (-1) → (N 66 50) = 0 → (nX12_waitingNear N n (t : Int))) ∧ ((N 66 51) = (-1) → (N 66 50) = 0 → 0 ≤ (wr32 ((wr32 (12 + (wr32 (3 * (n : Int))))) + 2)) ∧ (wr32 ((wr32 (12 + (wr32 (3 * (n : Int))))) + 2)) < 24) ∧ ((N 66 51) = (-1) → (N 66 50) = 0 → (nlX12_looksUp_2 k (t : Int) ((n : Int) + 1) (if (N 89 (wr32 ((wr32 (12 + (wr32 (3 * (n : Int))))) + 2))) ≤ (fX12_waitingNear N n (t : Int)) then (mset (mset N 66 51 (t : Int)) 66 52 (n : Int)) else N)))) := rfl
    have ef : fst1 (fun g => decide (H 6 g ≤ gseen H C g t)) n (k + 1) = if decide (H 6 n ≤ gseen H C n t) = true then (n : Int) else fst1 (fun g => decide (H 6 g ≤ gseen H C g t)) ((n : Int) + 1) k := rfl
    rw [e, en, ef, h51, h50, if_pos (rfl : (-1 : Int) = -1), if_pos (rfl : (0 : Int) = 0), i0, i1, r89.2.2.1, w.1]
    by_cases a : H 6 n ≤ gseen H C n t
    · rw [if_pos a, decide_eq_true a, if_pos (rfl : true = true), if_neg (show ¬ (n : Int) = -1 by omega)]
      obtain ⟨N', hN'⟩ : ∃ z : Mem, z = mset (mset N 66 51 (t : Int)) 66 52 (n : Int) := ⟨_, rfl⟩
      have f51 : ¬ N' 66 51 = -1 := by
        rw [hN', mset_k (by decide), mset_e]
        omega
      rw [← hN']
      have st : lmX12_looksUp_2 k (t : Int) ((n : Int) + 1) N' = N' ∧ nlX12_looksUp_2 k (t : Int) ((n : Int) + 1) N' := by
        cases k with
        | zero => exact ⟨rfl, trivial⟩
        | succ k =>
          refine ⟨?_, fun z => absurd z f51, fun z => absurd z f51, fun z => absurd z f51⟩
          show (if (N' 66 51) = (-1) then _ else N') = N'
          rw [if_neg f51]
      exact ⟨st.1, fun _ _ => w.2, fun _ _ => ⟨by omega, by omega⟩, fun _ _ => st.2⟩
    · rw [if_neg a, decide_eq_false a, if_neg (show ¬ false = true by decide), e3]
      have i3 := ih (n + 1) (by omega)
      exact ⟨i3.1, fun _ _ => w.2, fun _ _ => ⟨by omega, by omega⟩, fun _ _ => i3.2⟩
theorem lu_skip {N : Mem} {t : Int} {k : Nat} {v : Int} (h : ¬ (N 66 51 = -1 ∧ N 66 50 = 0)) : lmX12_looksUp_2 k t v N = N ∧ nlX12_looksUp_2 k t v N := by
  cases k with
  | zero => exact ⟨rfl, trivial⟩
  | succ k =>
    refine ⟨?_, fun y z => absurd ⟨y, z⟩ h, fun y z => absurd ⟨y, z⟩ h, fun y z => absurd ⟨y, z⟩ h⟩
    show (if (N 66 51) = (-1) then (if (N 66 50) = 0 then _ else N) else N) = N
    by_cases a : N 66 51 = -1
    · rw [if_pos a, if_neg (fun z => h ⟨a, z⟩)]
    · rw [if_neg a]
theorem al_s (ho : Hok H) : (alrm H C = -1 ∧ ∀ t : Nat, (t : Int) < ff H C → glook H C t = -1) ∨ (0 ≤ alrm H C ∧ alrm H C < ff H C ∧ alrm H C ≤ 200 ∧ glook H C (alrm H C).toNat ≠ -1 ∧ ∀ t : Nat, (t : Int) < alrm H C → glook H C t = -1) := by
  have f := ff_s ho C
  have al := fst1_s (f := fun t => decide (glook H C t.toNat ≠ -1)) (ff H C).toNat 0 (by omega)
  have e : alrm H C = fst1 (fun t => decide (glook H C t.toNat ≠ -1)) 0 (ff H C).toNat := rfl
  rw [← e] at al
  rcases al with ⟨y, z⟩ | ⟨y1, y2, y3, y4⟩
  · refine Or.inl ⟨y, fun t ht => ?_⟩
    have := z (t : Int) (by omega) (by omega)
    have := of_decide_eq_false this
    rw [Int.toNat_natCast] at this
    exact Classical.byContradiction this
  · refine Or.inr ⟨y1, by omega, by omega, of_decide_eq_true y3, fun t ht => ?_⟩
    have := y4 (t : Int) (by omega) ht
    have := of_decide_eq_false this
    rw [Int.toNat_natCast] at this
    exact Classical.byContradiction this
theorem Os_pre (ho : Hok H) {s : Nat} (hs : (s : Int) < ff H C) (q : Int) : Os H C s q = -1 := by
  unfold Os
  rw [(opn_pre ho C hs).1]
  by_cases a : alrm H C = -1
  · rw [if_pos a]
  · rw [if_neg a]
theorem lu_r {N : Mem} {t : Nat} (ho : Hok H) (hr : Rh H N) (C0 : 0 ≤ C) (C1 : C < 512) (hC : N 66 42 = C) (ht : t < 201) (h96 : ∀ q, 0 ≤ q → q < 9 → N 96 q = Os H C t q) (h95 : ∀ q, 0 ≤ q → q < H 0 4 → bt C q = true → N 95 (9 * (t : Int) + q) = rps H C q t) (h50 : N 66 50 = flg H C t) (h51 : N 66 51 = if alrm H C ≠ -1 ∧ alrm H C < (t : Int) then alrm H C else -1) (h52 : N 66 52 = if alrm H C ≠ -1 ∧ alrm H C < (t : Int) then algd H C else -1) :
    nX12_looksUp N (t : Int) ∧ (∀ q, q ≠ 66 → fmX12_looksUp N (t : Int) q = N q) ∧ (∀ j, j ≠ 51 → j ≠ 52 → fmX12_looksUp N (t : Int) 66 j = N 66 j) ∧ fmX12_looksUp N (t : Int) 66 51 = als H C t ∧ fmX12_looksUp N (t : Int) 66 52 = ags H C t := by
  have hbd := ho.2.1
  have al := al_s (C := C) ho
  unfold fmX12_looksUp nX12_looksUp
  rw [gMany hr, Int.sub_zero]
  by_cases hx : N 66 51 = -1 ∧ N 66 50 = 0
  · have tf : (t : Int) < ff H C ∧ ¬ (alrm H C ≠ -1 ∧ alrm H C < (t : Int)) := by
      have z : ¬ (alrm H C ≠ -1 ∧ alrm H C < (t : Int)) := by
        intro z
        rw [if_pos z] at h51
        exact z.1 (h51.symm.trans hx.1)
      refine ⟨?_, z⟩
      have y : ¬ (alrm H C = -1 ∧ ff H C ≤ (t : Int)) := by
        intro y
        have h := hx.2
        rw [h50] at h
        unfold flg at h
        rw [if_pos y] at h
        exact absurd h (by decide)
      clear h50 h51 h52
      rcases al with u | u <;> omega
    have ops : ∀ q, 0 ≤ q → q < H 0 4 → N 96 q = -1 := fun q a b => by rw [h96 q a (by clear h50 h51 h52; omega)]; exact Os_pre ho tf.1 q
    have wps : ∀ q, 0 ≤ q → q < H 0 4 → bt C q = true → N 95 (9 * (t : Int) + q) = wlk H q t := fun q a b c => by
      rw [h95 q a b c]
      exact rps_w (by omega) (Os_pre ho tf.1 q)
    have l := lu_lp ho hr C0 C1 hC ht ops wps hx.1 hx.2 (H 0 3).toNat 0 (by clear h50 h51 h52; omega)
    have eg : fst1 (fun g => decide (H 6 g ≤ gseen H C g t)) ((0 : Nat) : Int) (H 0 3).toNat = glook H C t := rfl
    rw [eg] at l
    refine ⟨l.2, ?_⟩
    rw [if_neg tf.2] at h51 h52
    show (∀ q, q ≠ 66 → lmX12_looksUp_2 (H 0 3).toNat (t : Int) ((0 : Nat) : Int) N q = N q) ∧ (∀ j, j ≠ 51 → j ≠ 52 → lmX12_looksUp_2 (H 0 3).toNat (t : Int) ((0 : Nat) : Int) N 66 j = N 66 j) ∧ lmX12_looksUp_2 (H 0 3).toNat (t : Int) ((0 : Nat) : Int) N 66 51 = als H C t ∧ lmX12_looksUp_2 (H 0 3).toNat (t : Int) ((0 : Nat) : Int) N 66 52 = ags H C t
    rw [l.1]
    by_cases e : alrm H C = (t : Int)
    · have gl : glook H C t ≠ -1 := by
        rcases al with u | u
        · have := u.1
          clear h50 h51 h52 u
          omega
        · have := u.2.2.2.1
          rw [e, Int.toNat_natCast] at this
          exact this
      have c1 : alrm H C ≠ -1 ∧ alrm H C ≤ (t : Int) := by clear h50 h51 h52; omega
      rw [if_neg gl]
      refine ⟨fun q a => by rw [mset_p a, mset_p a], fun j a b => by rw [mset_k b, mset_k a], ?_, ?_⟩
      · rw [mset_k (by decide), mset_e]
        unfold als
        rw [if_pos c1, e]
      · rw [mset_e]
        unfold ags algd
        rw [if_pos c1, if_neg c1.1, e, Int.toNat_natCast]
    · have gl : glook H C t = -1 := by
        rcases al with u | u
        · exact u.2 t tf.1
        · refine u.2.2.2.2 t ?_
          have := u.1
          clear h50 h51 h52 u
          omega
      have c1 : ¬ (alrm H C ≠ -1 ∧ alrm H C ≤ (t : Int)) := by clear h50 h51 h52; omega
      rw [if_pos gl]
      refine ⟨fun _ _ => rfl, fun _ _ _ => rfl, ?_, ?_⟩
      · rw [h51]; unfold als; rw [if_neg c1]
      · rw [h52]; unfold ags; rw [if_neg c1]
  · have l := lu_skip (t := (t : Int)) (k := (H 0 3).toNat) (v := 0) hx
    rw [l.1]
    refine ⟨l.2, fun _ _ => rfl, fun _ _ _ => rfl, ?_, ?_⟩
    · rw [h51]
      unfold als
      by_cases z : alrm H C ≠ -1 ∧ alrm H C < (t : Int)
      · rw [if_pos z, if_pos ⟨z.1, by clear h50 h51 h52; omega⟩]
      · rw [if_neg z] at h51
        have f1 : flg H C t ≠ 0 := fun y => hx ⟨h51, by rw [h50]; exact y⟩
        have a1 : alrm H C = -1 := by
          refine Classical.byContradiction (fun y => f1 ?_)
          unfold flg
          rw [if_neg (fun w => y w.1)]
        rw [if_neg z, if_neg (fun w => w.1 a1)]
    · rw [h52]
      unfold ags
      by_cases z : alrm H C ≠ -1 ∧ alrm H C < (t : Int)
      · rw [if_pos z, if_pos ⟨z.1, by clear h50 h51 h52; omega⟩]
      · rw [if_neg z] at h51
        have f1 : flg H C t ≠ 0 := fun y => hx ⟨h51, by rw [h50]; exact y⟩
        have a1 : alrm H C = -1 := by
          refine Classical.byContradiction (fun y => f1 ?_)
          unfold flg
          rw [if_neg (fun w => y w.1)]
        rw [if_neg z, if_neg (fun w => w.1 a1)]
end
