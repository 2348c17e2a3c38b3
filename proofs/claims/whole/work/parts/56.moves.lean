/-! one of the people in a second of the reference -/
def Os (H : Hal) (C : Int) (s : Nat) (p : Int) : Int := if alrm H C = -1 then opn H C s p else -1
def Hs (H : Hal) (C : Int) (s : Nat) (p : Int) : Int := if alrm H C = -1 then hws H C s p else 0
def als (H : Hal) (C : Int) (s : Nat) : Int := if alrm H C ≠ -1 ∧ alrm H C ≤ s then alrm H C else -1
def ags (H : Hal) (C : Int) (s : Nat) : Int := if alrm H C ≠ -1 ∧ alrm H C ≤ s then algd H C else -1
def gts (H : Hal) (C p : Int) (s : Nat) : Int := if gout H C p ≠ -1 ∧ gout H C p ≤ s then gout H C p else -1
def rps (H : Hal) (C p : Int) (t : Nat) : Int := if oo H C p = -1 ∨ (t : Int) < oo H C p then wlk H p t else if (t : Int) < oo H C p + H 0 6 then gng H C p 0 else if gout H C p = -1 ∨ (t : Int) < gout H C p then gng H C p ((t : Int) - (oo H C p + H 0 6) + 1).toNat else gng H C p (gout H C p - (oo H C p + H 0 6)).toNat
def nwv (H : Hal) (C : Int) (s : Nat) (p : Int) : Int := if Os H C s p = -1 then (if alrm H C = -1 then bys H C (opn H C s) p s else 0) else 0
theorem os_oo {H : Hal} {C p : Int} {s : Nat} (hs : s ≤ 200) : Os H C s p = if oo H C p ≠ -1 ∧ oo H C p ≤ s then oo H C p else -1 := by
  unfold Os oo
  by_cases a : alrm H C = -1
  · rw [if_pos a, if_pos a]
    exact opn_n hs
  · rw [if_neg a, if_neg a, if_neg (fun z => z.1 rfl)]
theorem rps_fre {H : Hal} (ho : Hok H) {C p : Int} (p0 : 0 ≤ p) (p1 : p < H 0 4) (t : Nat) : fre H (rps H C p t) := by
  unfold rps
  by_cases a : oo H C p = -1 ∨ (t : Int) < oo H C p
  · rw [if_pos a]; exact wlk_fre ho p0 p1 t
  rw [if_neg a]
  by_cases b : (t : Int) < oo H C p + H 0 6
  · rw [if_pos b]; exact gng_fre ho p0 p1 0
  rw [if_neg b]
  by_cases c : gout H C p = -1 ∨ (t : Int) < gout H C p
  · rw [if_pos c]; exact gng_fre ho p0 p1 _
  · rw [if_neg c]; exact gng_fre ho p0 p1 _
theorem rps_w {H : Hal} {C p : Int} {s : Nat} (hs : s ≤ 200) (h : Os H C s p = -1) : rps H C p s = wlk H p s := by
  rw [os_oo hs] at h
  unfold rps
  have ob := oo_b (H := H) (C := C) (p := p)
  by_cases a : oo H C p ≠ -1 ∧ oo H C p ≤ (s : Int)
  · rw [if_pos a] at h
    exact absurd h a.1
  · rw [if_pos (by omega)]
theorem rps_o {H : Hal} {C p : Int} {s : Nat} (hs : s ≤ 200) (h : isop H (Os H C s) p s = true) : rps H C p s = wlk H p (Os H C s p - 1).toNat ∧ Os H C s p = oo H C p := by
  have h2 := of_decide_eq_true h
  have e := os_oo (H := H) (C := C) (p := p) hs
  by_cases a : oo H C p ≠ -1 ∧ oo H C p ≤ (s : Int)
  · rw [if_pos a] at e
    rw [e] at h2 ⊢
    unfold rps
    rw [if_neg (by omega), if_pos (by omega)]
    exact ⟨rfl, rfl⟩
  · rw [if_neg a] at e
    exact absurd e h2.1
section
variable {H : Hal} {N : Mem} {C : Int} {s : Nat} {p : Int}
def osf (H : Hal) (C : Int) (p : Int) (s : Nat) (q : Int) : Bool := bt C q && isop H (Os H C s) q s && decide (far H (wlk H p s) (wlk H q (Os H C s q - 1).toNat) ≤ H 0 7)
theorem isOpen_r (ho : Hok H) (hr : Rh H N) (p0 : 0 ≤ p) (p1 : p < 9) {O : Int → Int} (h96 : N 96 p = O p) (hO : O p ≤ 1000) (hO1 : -1 ≤ O p) {u : Int} : fX12_isOpen N p u = (if isop H O p u = true then 1 else 0) ∧ nX12_isOpen N p u := by
  have hb := ho.2.1
  have e5 : fX12_openTime N = H 0 6 := hr.1.2.2.2.2.2.2.1
  unfold fX12_isOpen nX12_isOpen isop
  rw [h96, e5, wad (a := O p) (by omega) (by omega)]
  refine ⟨?_, ⟨p0, p1⟩, fun _ => ⟨p0, p1⟩, fun _ _ => ⟨p0, p1⟩⟩
  by_cases a : O p = -1
  · rw [if_pos a, if_neg (by rw [decide_eq_true_iff]; exact fun z => z.1 a)]
  rw [if_neg a]
  by_cases b : u < O p
  · rw [if_pos b, if_neg (by rw [decide_eq_true_iff]; omega)]
  rw [if_neg b]
  by_cases c : O p + H 0 6 ≤ u
  · rw [if_pos c, if_neg (by rw [decide_eq_true_iff]; omega)]
  · rw [if_neg c, if_pos (by rw [decide_eq_true_iff]; exact ⟨a, by omega, by omega⟩)]
theorem Os_b : -1 ≤ Os H C s p ∧ Os H C s p ≤ s := by
  unfold Os
  have := opn_b H C p s
  by_cases a : alrm H C = -1
  · rw [if_pos a]; omega
  · rw [if_neg a]; omega
theorem ob_lp (ho : Hok H) (hr : Rh H N) (C0 : 0 ≤ C) (C1 : C < 512) (hC : N 66 42 = C) (hs : s < 200) (p0 : 0 ≤ p) (p1 : p < H 0 4) (hb : bt C p = true) (hw : Os H C s p = -1) (h96 : ∀ q, 0 ≤ q → q < 9 → N 96 q = Os H C s q) (h95 : ∀ q, 0 ≤ q → q < H 0 4 → bt C q = true → N 95 (9 * (s : Int) + q) = rps H C q s) : ∀ (k n : Nat), (n : Int) + k = H 0 4 →
    lX12_opensBy_71 k p ((s + 1 : Nat) : Int) (cnt (osf H C p s) n) n N = (if cnt (osf H C p s) (H 0 4).toNat < H 9 p then 0 else 2) ∧ nlX12_opensBy_71 k p ((s + 1 : Nat) : Int) (cnt (osf H C p s) n) n N := by
  have hbd := ho.2.1
  have us : wr32 (((s + 1 : Nat) : Int) - 1) = (s : Int) := by rw [wsu (by omega) (by omega)]; omega
  intro k
  induction k with
  | zero =>
    intro n hn
    have e2 : fX12_personOf N p 2 = H 9 p := by
      rw [(pOf p0 (by omega) (by omega) (by omega)).1]
      exact (hr.2.2.2.2.1 p p0 p1).2.2.1
    have en : n = (H 0 4).toNat := by omega
    refine ⟨?_, nPOf p0 (by omega) (by omega) (by omega)⟩
    show (if cnt (osf H C p s) n < fX12_personOf N p 2 then (0 : Int) else 2) = _
    rw [e2, en]
  | succ k ih =>
    intro n hn
    have ic := isComing_r ho hr hC C0 C1 (p := (n : Int)) (by omega) (by omega)
    have b := Os_b (H := H) (C := C) (s := s) (p := (n : Int))
    have io := isOpen_r (u := (s : Int)) (O := Os H C s) ho hr (p := (n : Int)) (by omega) (by omega) (h96 n (by omega) (by omega)) (by omega) b.1
    have wp := where_r (M := N) p0 (show p < 9 by omega) (show (0 : Int) ≤ (s : Int) by omega) (by omega)
    have wq := where_r (M := N) (p := (n : Int)) (by omega) (by omega) (show (0 : Int) ≤ (s : Int) by omega) (by omega)
    have fp := rps_fre (C := C) ho p0 p1 s
    have fq := rps_fre (C := C) ho (p := (n : Int)) (by omega) (by omega) s
    have r91 : N 91 6 = H 0 7 := hr.1.2.2.2.2.2.2.2.1
    have cb := cnt_b (osf H C p s) n
    have e3 : ((n : Int) + 1) = ((n + 1 : Nat) : Int) := by omega
    have hp95 := h95 p p0 p1 hb
    have key : (if (fX12_isComing N n) = 0 then cnt (osf H C p s) n else (if (fX12_isOpen N n (wr32 (((s + 1 : Nat) : Int) - 1))) = 0 then cnt (osf H C p s) n else (if (N 91 6) < (fX12_apart N (fX12_whereIn N p (wr32 (((s + 1 : Nat) : Int) - 1))) (fX12_whereIn N n (wr32 (((s + 1 : Nat) : Int) - 1)))) then cnt (osf H C p s) n else (wr32 (cnt (osf H C p s) n + 1))))) = cnt (osf H C p s) (n + 1) := by
      rw [us, ic, io.1]
      show _ = cnt (osf H C p s) n + (if osf H C p s n = true then 1 else 0)
      obtain ⟨xx, hxx⟩ : ∃ z : Int, z = cnt (osf H C p s) n := ⟨_, rfl⟩
      rw [← hxx] at cb ⊢
      unfold osf
      cases hx : bt C n with
      | false =>
        simp
      | true =>
        rw [if_pos (rfl : true = true), if_neg (show ¬ (1 : Int) = 0 by decide), Bool.true_and]
        cases hy : isop H (Os H C s) n s with
        | false => simp
        | true =>
          have ro := rps_o (by omega) hy
          have fa := far_r ho hr fp fq
          rw [if_pos (rfl : true = true), if_neg (show ¬ (1 : Int) = 0 by decide), Bool.true_and, r91, wp.1, wq.1, hp95, h95 n (by omega) (by omega) hx, fa.1, rps_w (by omega) hw, ro.1]
          obtain ⟨fr, hfr⟩ : ∃ z : Int, z = far H (wlk H p s) (wlk H n (Os H C s n - 1).toNat) := ⟨_, rfl⟩
          rw [← hfr]
          by_cases y : fr ≤ H 0 7
          · rw [if_neg (by omega), decide_eq_true y, if_pos (rfl : true = true)]
            exact wad (by omega) (by omega)
          · rw [if_pos (by omega), decide_eq_false y]
            simp
    have e : lX12_opensBy_71 (k + 1) p ((s + 1 : Nat) : Int) (cnt (osf H C p s) n) n N = lX12_opensBy_71 k p ((s + 1 : Nat) : Int) (if (fX12_isComing N n) = 0 then cnt (osf H C p s) n else (if (fX12_isOpen N n (wr32 (((s + 1 : Nat) : Int) - 1))) = 0 then cnt (osf H C p s) n else (if (N 91 6) < (fX12_apart N (fX12_whereIn N p (wr32 (((s + 1 : Nat) : Int) - 1))) (fX12_whereIn N n (wr32 (((s + 1 : Nat) : Int) - 1)))) then cnt (osf H C p s) n else (wr32 (cnt (osf H C p s) n + 1))))) ((n : Int) + 1) N := rfl
    have en : nlX12_opensBy_71 (k + 1) p ((s + 1 : Nat) : Int) (cnt (osf H C p s) n) n N = ((¬ ((fX12_isComing N n) = 0) → (nX12_isOpen N n (wr32 (((s + 1 : Nat) : Int) - 1)))) ∧ (¬ ((fX12_isComing N n) = 0) → ¬ ((fX12_isOpen N n (wr32 (((s + 1 : Nat) : Int) - 1))) = 0) → (nX12_whereIn p (wr32 (((s + 1 : Nat) : Int) - 1)))) ∧ (¬ ((fX12_isComing N n) = 0) → ¬ ((fX12_isOpen N n (wr32 (((s + 1 : Nat) : Int) - 1))) = 0) → (nX12_whereIn n (wr32 (((s + 1 : Nat) : Int) - 1)))) ∧ (¬ ((fX12_isComing N n) = 0) → ¬ ((fX12_isOpen N n (wr32 (((s + 1 : Nat) : Int) - 1))) = 0) → (nX12_apart N)) ∧ nlX12_opensBy_71 k p ((s + 1 : Nat) : Int) (if (fX12_isComing N n) = 0 then cnt (osf H C p s) n else (if (fX12_isOpen N n (wr32 (((s + 1 : Nat) : Int) - 1))) = 0 then cnt (osf H C p s) n else (if (N 91 6) < (fX12_apart N (fX12_whereIn N p (wr32 (((s + 1 : Nat) : Int) - 1))) (fX12_whereIn N n (wr32 (((s + 1 : Nat) : Int) - 1)))) then cnt (osf H C p s) n else (wr32 (cnt (osf H C p s) n + 1))))) ((n : Int) + 1) N) := rfl
    rw [e, en, key, us, e3]
    have i1 := ih (n + 1) (by omega)
    exact ⟨i1.1, fun _ => io.2, fun _ _ => wp.2, fun _ _ => wq.2, fun _ _ => (far_r ho hr fp fq).2, i1.2⟩
theorem obr (ho : Hok H) (hr : Rh H N) (C0 : 0 ≤ C) (C1 : C < 512) (hC : N 66 42 = C) (hs : s < 200) (p0 : 0 ≤ p) (p1 : p < H 0 4) (hb : bt C p = true) (hw : Os H C s p = -1) (h96 : ∀ q, 0 ≤ q → q < 9 → N 96 q = Os H C s q) (h95 : ∀ q, 0 ≤ q → q < H 0 4 → bt C q = true → N 95 (9 * (s : Int) + q) = rps H C q s) (h51 : N 66 51 = als H C s) :
    fX12_opensBy N p ((s + 1 : Nat) : Int) = nwv H C s p ∧ nX12_opensBy N p ((s + 1 : Nat) : Int) := by
  have hbd := ho.2.1
  have f := ff_s ho C
  have r5 := hr.2.2.2.2.1 p p0 p1
  have o7 := ho.2.2.2.2.2.2.1 p p0 p1
  have e1 : fX12_personOf N p 1 = H 8 p - 60 := by rw [(pOf p0 (by omega) (by omega) (by omega)).1]; exact r5.2.1
  have e2 : fX12_personOf N p 2 = H 9 p := by rw [(pOf p0 (by omega) (by omega) (by omega)).1]; exact r5.2.2.1
  have e4 : fX12_personOf N p 4 = H 11 p := by rw [(pOf p0 (by omega) (by omega) (by omega)).1]; exact r5.2.2.2.2.1
  have r91 : N 91 4 = H 0 5 := hr.1.2.2.2.2.2.1
  have l := ob_lp ho hr C0 C1 hC hs p0 p1 hb hw h96 h95 (H 0 4).toNat 0 (by omega)
  have n2 : nX12_personOf p 2 := nPOf p0 (by omega) (by omega) (by omega)
  have n1 : nX12_personOf p 1 := nPOf p0 (by omega) (by omega) (by omega)
  have n4 : nX12_personOf p 4 := nPOf p0 (by omega) (by omega) (by omega)
  obtain ⟨L, hL⟩ : ∃ L : Int, L = lX12_opensBy_71 (fX12_peopleMany N - 0).toNat p ((s + 1 : Nat) : Int) 0 0 N := ⟨_, rfl⟩
  have hL2 : L = if cnt (osf H C p s) (H 0 4).toNat < H 9 p then 0 else 2 := by
    rw [hL, pMany hr, Int.sub_zero]
    exact l.1
  have nL : nlX12_opensBy_71 (fX12_peopleMany N - 0).toNat p ((s + 1 : Nat) : Int) 0 0 N := by
    rw [pMany hr, Int.sub_zero]
    exact l.2
  have ew : wr32 (N 91 4 + fX12_personOf N p 1) = H 0 5 + H 8 p - 60 := by
    rw [r91, e1, wad (by omega) (by omega)]
    omega
  refine ⟨?_, ?_⟩
  · unfold fX12_opensBy
    rw [← hL, e2, e4, ew, h51]
    -- the count where nobody may open
    unfold nwv
    rw [if_pos hw]
    by_cases a : alrm H C = -1
    · have ea : als H C s = -1 := by unfold als; rw [if_neg (fun z => z.1 a)]
      have eO : Os H C s = opn H C s := by funext q; unfold Os; rw [if_pos a]
      have es : cnt (osf H C p s) (H 0 4).toNat = sees H C (opn H C s) p s := by
        unfold sees
        refine cnt_c _ (fun i _ _ => ?_)
        unfold osf
        rw [eO]
      rw [ea, if_pos (rfl : (-1 : Int) = -1), if_pos (rfl : (0 : Int) = 0), if_pos a, hL2, es]
      unfold bys strk
      rcases o7.2.2.2.2.2.2.2.1 with z | z
      · rw [if_pos z, if_neg (show ¬ H 11 p = 1 by omega)]
        by_cases b : ((s + 1 : Nat) : Int) < H 0 5 + H 8 p - 60
        · rw [if_pos b]
          have : ¬ ((if 1 < H 0 5 + H 8 p - 60 then H 0 5 + H 8 p - 60 else 1) ≤ (s : Int) + 1) := by
            rw [if_pos (by omega)]
            omega
          rw [if_neg this]
          by_cases c : H 9 p = 0
          · rw [if_pos c, if_neg (by omega)]
          · rw [if_neg c]
            by_cases d : sees H C (opn H C s) p s < H 9 p
            · rw [if_pos d, if_neg (by omega)]
            · rw [if_neg d, if_pos (by omega)]
        · rw [if_neg b]
          have : (if 1 < H 0 5 + H 8 p - 60 then H 0 5 + H 8 p - 60 else 1) ≤ (s : Int) + 1 := by
            by_cases y : 1 < H 0 5 + H 8 p - 60
            · rw [if_pos y]; omega
            · rw [if_neg y]; omega
          rw [if_pos this]
      · rw [if_neg (show ¬ H 11 p = 0 by omega), if_pos z, if_neg (show ¬ (201 : Int) ≤ (s : Int) + 1 by omega)]
        by_cases c : H 9 p = 0
        · rw [if_pos c, if_neg (by omega)]
        · rw [if_neg c]
          by_cases d : sees H C (opn H C s) p s < H 9 p
          · rw [if_pos d, if_neg (by omega)]
          · rw [if_neg d, if_pos (by omega)]
    · have es : cnt (osf H C p s) (H 0 4).toNat = 0 := by
        refine cnt_0 (fun i _ _ => ?_)
        unfold osf isop Os
        simp [a]
      rw [if_neg a, hL2, es]
      have c9 : (if H 9 p = 0 then (0 : Int) else (if (0 : Int) < H 9 p then 0 else 2)) = 0 := by
        by_cases c : H 9 p = 0
        · rw [if_pos c]
        · rw [if_neg c, if_pos (by omega)]
      rw [c9]
      unfold als
      by_cases b : alrm H C ≠ -1 ∧ alrm H C ≤ (s : Int)
      · rw [if_pos b, if_neg b.1, if_neg (show ¬ ((s + 1 : Nat) : Int) ≤ alrm H C by omega), if_neg (by decide)]
      · rw [if_neg b, if_pos (rfl : (-1 : Int) = -1), if_pos (rfl : (0 : Int) = 0)]
        -- ahead of the alarm no watch strikes
        have al := fst1_s (f := fun t => decide (glook H C t.toNat ≠ -1)) (ff H C).toNat 0 (by omega)
        have e : alrm H C = fst1 (fun t => decide (glook H C t.toNat ≠ -1)) 0 (ff H C).toNat := rfl
        rw [← e] at al
        have st := f.2.2.1 p p0 p1 hb
        have : (s : Int) + 1 < strk H p := by
          rcases al with ⟨y, _⟩ | ⟨y1, y2, _⟩
          · exact absurd y a
          · omega
        unfold strk at this
        rcases o7.2.2.2.2.2.2.2.1 with z | z
        · rw [if_neg (show ¬ H 11 p = 1 by omega)] at this
          rw [if_pos z]
          by_cases y : 1 < H 0 5 + H 8 p - 60
          · rw [if_pos y] at this
            rw [if_pos (by omega)]
          · rw [if_neg y] at this
            omega
        · rw [if_neg (show ¬ H 11 p = 0 by omega)]
  · unfold nX12_opensBy
    exact ⟨fun _ => n2, fun _ => n4, fun _ _ => n2, fun _ _ => n1, fun _ _ _ => n2, fun _ _ => nL, fun _ _ _ => nL, fun _ _ _ _ => nL⟩
end
