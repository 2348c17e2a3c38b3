/-! what would be: where a guard had better stand -/
def hgd (H : Hal) (g c : Int) : Hal := fun f i => if f = 4 then (if i = g then c else H 4 i) else H f i
section
variable {H : Hal} {C : Int}
theorem hgd_ok (ho : Hok H) {g c : Int} (hf : fre H c) : Hok (hgd H g c) := by
  obtain ⟨o1, o2, o3, o4, o5, o6, o7, o8⟩ := ho
  refine ⟨o1, o2, o3, o4, o5, fun k a b => ?_, o7, o8⟩
  have o := o6 k a b
  refine ⟨?_, o.2⟩
  show fre H (if k = g then c else H 4 k)
  by_cases z : k = g
  · rw [if_pos z]; exact hf
  · rw [if_neg z]; exact o.1
theorem hgd_w (g c p : Int) : ∀ t : Nat, wlk (hgd H g c) p t = wlk H p t
  | 0 => rfl
  | t + 1 => by
    have ih := hgd_w g c p t
    show stp H (wlk (hgd H g c) p t) (H 13 (12 * p + (t : Int) % H 12 p)) = stp H (wlk H p t) (H 13 (12 * p + (t : Int) % H 12 p))
    rw [ih]
theorem hgd_frst (g c : Int) : ∀ n : Nat, frst (hgd H g c) C n = frst H C n
  | 0 => rfl
  | n + 1 => by
    have e : frst (hgd H g c) C (n + 1) = if bt C n then (if strk H n < frst (hgd H g c) C n then strk H n else frst (hgd H g c) C n) else frst (hgd H g c) C n := rfl
    have e2 : frst H C (n + 1) = if bt C n then (if strk H n < frst H C n then strk H n else frst H C n) else frst H C n := rfl
    rw [e, e2, hgd_frst g c n]
theorem hgd_ff (g c : Int) : ff (hgd H g c) C = ff H C := hgd_frst g c _
theorem alrU_le (ho : Hok H) {u : Nat} (hu : (u : Int) ≤ ff H C) : alrU H C u = if alrm H C ≠ -1 ∧ alrm H C < (u : Int) then alrm H C else -1 := by
  have f := ff_s ho C
  have al := al_s (C := C) ho
  have s := fst1_s (f := fun t => decide (glook H C t.toNat ≠ -1)) u 0 (by omega)
  have e : alrU H C u = fst1 (fun t => decide (glook H C t.toNat ≠ -1)) 0 u := by
    unfold alrU
    rw [Int.toNat_natCast]
  rw [← e] at s
  rcases s with ⟨a, b⟩ | ⟨a, b, c, d⟩
  · rw [a]
    by_cases z : alrm H C ≠ -1 ∧ alrm H C < (u : Int)
    · exfalso
      rcases al with v | v
      · exact z.1 v.1
      · have := of_decide_eq_false (b (alrm H C) v.1 (by omega))
        exact this v.2.2.2.1
    · rw [if_neg z]
  · have c2 := of_decide_eq_true c
    rcases al with v | v
    · exfalso
      have := v.2 (alrU H C u).toNat (by omega)
      exact c2 this
    · have h1 : ¬ alrU H C u < alrm H C := by
        intro z
        have := v.2.2.2.2 (alrU H C u).toNat (by omega)
        exact c2 this
      have h2 : ¬ alrm H C < alrU H C u := by
        intro z
        have := of_decide_eq_false (d (alrm H C) v.1 z)
        exact this v.2.2.2.1
      have h3 : alrm H C = alrU H C u := by
        clear c c2 d e
        omega
      have h4 : alrm H C ≠ -1 ∧ alrm H C < (u : Int) := by
        clear c c2 d e
        omega
      rw [if_pos h4, h3]
def pbs (H : Hal) (C g : Int) : Nat → Int × Int
  | 0 => (-1, -1)
  | n + 1 => if H 1 n = 0 then (if (pbs H C g n).1 = -1 then ((n : Int), alrm (hgd H g n) C) else if fX12_isSooner (alrm (hgd H g n) C) (pbs H C g n).2 = 0 then pbs H C g n else ((n : Int), alrm (hgd H g n) C)) else pbs H C g n
theorem soo_eq (a b : Int) : fX12_isSooner a b = if a ≠ -1 ∧ (b = -1 ∨ a < b) then 1 else 0 := by
  unfold fX12_isSooner
  by_cases x : a = -1
  · rw [if_pos x, if_neg (fun z => z.1 x)]
  · rw [if_neg x]
    by_cases y : b = -1
    · rw [if_pos y, if_pos ⟨x, Or.inl y⟩]
    · rw [if_neg y]
      by_cases z : b ≤ a
      · rw [if_pos z, if_neg (by omega)]
      · rw [if_neg z, if_pos (by omega)]
/-- what the best is, and the soonest -/
theorem pbs_b (ho : Hok H) {g : Int} : ∀ n : Nat, (n : Int) ≤ H 0 0 * H 0 1 → ((pbs H C g n).1 = -1 → (pbs H C g n).2 = -1) ∧ -1 ≤ (pbs H C g n).1 ∧ -1 ≤ (pbs H C g n).2 ∧ (pbs H C g n).2 < ff H C := by
  intro n
  induction n with
  | zero =>
    intro _
    have f := ff_s ho C
    refine ⟨fun _ => rfl, by show (-1 : Int) ≤ -1; decide, by show (-1 : Int) ≤ -1; decide, ?_⟩
    show (-1 : Int) < ff H C
    omega
  | succ n ih =>
    intro hn
    have ih := ih (by omega)
    have e : pbs H C g (n + 1) = if H 1 n = 0 then (if (pbs H C g n).1 = -1 then ((n : Int), alrm (hgd H g n) C) else if fX12_isSooner (alrm (hgd H g n) C) (pbs H C g n).2 = 0 then pbs H C g n else ((n : Int), alrm (hgd H g n) C)) else pbs H C g n := rfl
    rw [e]
    by_cases w : H 1 n = 0
    · rw [if_pos w]
      have hok := hgd_ok (g := g) ho (c := (n : Int)) ⟨by omega, by omega, w⟩
      have al := al_s (C := C) hok
      rw [hgd_ff] at al
      have f := ff_s ho C
      have ab : -1 ≤ alrm (hgd H g n) C ∧ alrm (hgd H g n) C < ff H C := by
        rcases al with v | v
        · rw [v.1]; omega
        · exact ⟨by have := v.1; omega, v.2.1⟩
      have new : (((n : Int), alrm (hgd H g n) C) : Int × Int).1 = -1 → (((n : Int), alrm (hgd H g n) C) : Int × Int).2 = -1 := by
        intro z
        have z2 : (n : Int) = -1 := z
        omega
      by_cases y : (pbs H C g n).1 = -1
      · rw [if_pos y]
        exact ⟨new, by show -1 ≤ (n : Int); omega, ab.1, ab.2⟩
      · rw [if_neg y]
        by_cases x : fX12_isSooner (alrm (hgd H g n) C) (pbs H C g n).2 = 0
        · rw [if_pos x]; exact ih
        · rw [if_neg x]
          exact ⟨new, by show -1 ≤ (n : Int); omega, ab.1, ab.2⟩
    · rw [if_neg w]; exact ih
end
section
variable {h : Int} {H : Hal} {M B : Mem} {Q : Int → Mem → Prop} {C : Int}
theorem hgd_c {g c : Int} (hc : Ch h H B) {M' : Mem} (e : ∀ q, h ≤ q → q ≤ h + 16 → q ≠ h + 13 → M' q = B q) (e13 : ∀ j, j ≠ g → M' (h + 13) j = B (h + 13) j) (e13g : M' (h + 13) g = c) : Ch h (hgd H g c) M' := by
  have e0 := e h (by omega) (by omega) (by omega)
  have e1 := e (h + 1) (by omega) (by omega) (by omega)
  have e2 := e (h + 2) (by omega) (by omega) (by omega)
  have e3 := e (h + 3) (by omega) (by omega) (by omega)
  have e4 := e (h + 4) (by omega) (by omega) (by omega)
  have e5 := e (h + 5) (by omega) (by omega) (by omega)
  have e6 := e (h + 6) (by omega) (by omega) (by omega)
  have e7 := e (h + 7) (by omega) (by omega) (by omega)
  have e8 := e (h + 8) (by omega) (by omega) (by omega)
  have e9 := e (h + 9) (by omega) (by omega) (by omega)
  have e10 := e (h + 10) (by omega) (by omega) (by omega)
  have e11 := e (h + 11) (by omega) (by omega) (by omega)
  have e12 := e (h + 12) (by omega) (by omega) (by omega)
  have e14 := e (h + 14) (by omega) (by omega) (by omega)
  have e15 := e (h + 15) (by omega) (by omega) (by omega)
  obtain ⟨c1, c2, c3, c4, c5, c6, c7⟩ := hc
  unfold Ch
  rw [e0, e1, e2, e3, e4, e5, e6, e7, e8, e9, e10, e11, e12, e14, e15]
  refine ⟨c1, c2, c3, fun k a b => ?_, c5, c6, c7⟩
  have x := c4 k a b
  refine ⟨?_, x.2⟩
  show _ = if k = g then c else H 4 k
  by_cases z : k = g
  · rw [if_pos z, z]; exact e13g
  · rw [if_neg z, e13 k z]; exact x.1
theorem hgd_r {g c : Int} (hr : Rh H B) {M' : Mem} (e38 : M' 66 38 = B 66 38) (e39 : M' 66 39 = B 66 39) (e : ∀ q, 85 ≤ q → q ≤ 92 → q ≠ 89 → M' q = B q) (e89 : ∀ j, j ≠ 12 + 3 * g → M' 89 j = B 89 j) (e8g : M' 89 (12 + 3 * g) = c) : Rh (hgd H g c) M' := by
  have e5 := e 85 (by omega) (by omega) (by omega)
  have e6 := e 86 (by omega) (by omega) (by omega)
  have e7 := e 87 (by omega) (by omega) (by omega)
  have e8 := e 88 (by omega) (by omega) (by omega)
  have e10 := e 90 (by omega) (by omega) (by omega)
  have e11 := e 91 (by omega) (by omega) (by omega)
  have e12 := e 92 (by omega) (by omega) (by omega)
  obtain ⟨c1, c2, c3, c4, c5, c6⟩ := hr
  unfold Rh
  rw [e38, e39, e5, e6, e7, e8, e10, e11, e12]
  refine ⟨c1, c2, c3, fun k a b => ?_, c5, c6⟩
  have x := c4 k a b
  rw [e89 (12 + 3 * k + 1) (by omega), e89 (12 + 3 * k + 2) (by omega)]
  refine ⟨?_, x.2⟩
  show _ = if k = g then c else H 4 k
  by_cases z : k = g
  · rw [if_pos z, z]; exact e8g
  · rw [if_neg z, e89 _ (by omega)]; exact x.1
def unt (H : Hal) (C s : Int) : Int := if s = -1 then ff H C else s
/-- what may change in the class while posts are looked for -/
def pfr (h g : Int) (B M : Mem) : Prop := (∀ q, q ≠ 9 → q ≠ 11 → q ≠ 25 → q ≠ h + 13 → M q = B q) ∧ (∀ j, j ≠ g → M (h + 13) j = B (h + 13) j) ∧ (∀ i, (i < 201 * g ∨ 201 * g + 201 ≤ i) → M 11 i = B 11 i)
theorem po34 {K : Mem → Prop} {g : Int} (hg : isG h) (ho : Hok H) (hc : Ch h H B) (hw : wOK H B) (C0 : 0 ≤ C) (C1 : C < 2 ^ (H 0 4).toNat) (g0 : 0 ≤ g) (g1 : g < H 0 3) (hK : ∀ M' : Mem, pfr h g B M' → M' 25 2 = (pbs H C g (H 0 0 * H 0 1).toNat).1 → M' 25 3 = (pbs H C g (H 0 0 * H 0 1).toNat).2 → K M') : ∀ (k n : Nat) (M : Mem), (n : Int) ≤ H 0 0 * H 0 1 → H 0 0 * H 0 1 < (n : Int) + k → pfr h g B M → M 25 2 = (pbs H C g n).1 → M 25 3 = (pbs H C g n).2 → PX10_findPost_34 h C g K Q k (unt H C (pbs H C g n).2) n M := by
  have hbd := ho.2.1
  have hcl := hcells ho
  have hh : 31 < h := by rcases hg with rfl | rfl <;> decide
  have f := ff_s ho C
  intro k
  induction k with
  | zero => intro n M a b; omega
  | succ k ih =>
    intro n M a b p e2 e3
    obtain ⟨p1, p2, p3⟩ := p
    have hcM : M h = B h ∧ M (h + 1) = B (h + 1) ∧ M (h + 9) = B (h + 9) := ⟨p1 _ (by omega) (by omega) (by omega) (by omega), p1 _ (by omega) (by omega) (by omega) (by omega), p1 _ (by omega) (by omega) (by omega) (by omega)⟩
    have cl : fX1_cells M h = H 0 0 * H 0 1 := by
      have := ccells ho hc
      unfold fX1_cells at this ⊢
      rw [hcM.1]
      exact this
    have fe : fX1_isFree M h n = fX1_isFree B h n := by
      unfold fX1_isFree fX1_cells fX11_get
      rw [hcM.1, hcM.2.2]
    have w3 : Hid (wr32 ((n : Int) + 1) = ((n + 1 : Nat) : Int)) := hid (by rw [wad (by omega) (by omega)]; omega)
    have pb := pbs_b (C := C) (g := g) ho n a
    have e : pbs H C g (n + 1) = if H 1 n = 0 then (if (pbs H C g n).1 = -1 then ((n : Int), alrm (hgd H g n) C) else if fX12_isSooner (alrm (hgd H g n) C) (pbs H C g n).2 = 0 then pbs H C g n else ((n : Int), alrm (hgd H g n) C)) else pbs H C g n := rfl
    refine ⟨fun z => ?_, fun z => ?_⟩
    · rw [cl] at z
      have en : n = (H 0 0 * H 0 1).toNat := by omega
      rw [en] at e2 e3
      exact hK M ⟨p1, p2, p3⟩ e2 e3
    · rw [cl] at z
      rw [fe, w3.out]
      have fr := isFree_eq ho hc (n : Int)
      refine ⟨fun y => ?_, fun y => ?_⟩
      · have nf : ¬ fre H n := by
          rcases fr with u | u
          · rw [u.1] at y; exact absurd y (by decide)
          · exact u.2
        have w : ¬ H 1 n = 0 := fun w => nf ⟨by omega, by omega, w⟩
        rw [if_neg w] at e
        have i := ih (n + 1) M (by omega) (by omega) ⟨p1, p2, p3⟩ (by rw [e]; exact e2) (by rw [e]; exact e3)
        rw [e] at i
        exact i
      · have hf : fre H n := by
          rcases fr with u | u
          · exact u.2
          · exact absurd u.1 y
        rw [if_pos hf.2.2] at e
        have ok := hgd_ok (g := g) ho hf
        intro M6 h6
        rw [rd_put g0 (by omega)] at h6
        have c6 : Ch h (hgd H g n) M6 := hgd_c hc (fun q x y z => by rw [h6, mset_p z]; exact p1 q (by omega) (by omega) (by omega) z) (fun j x => by rw [h6, mset_k x]; exact p2 j x) (by rw [h6, mset_e])
        obtain ⟨u, hu⟩ : ∃ u : Nat, (u : Int) = unt H C (pbs H C g n).2 := by
          refine ⟨(unt H C (pbs H C g n).2).toNat, ?_⟩
          unfold unt
          by_cases w : (pbs H C g n).2 = -1
          · rw [if_pos w]; omega
          · rw [if_neg w]; omega
        have uf : (u : Int) ≤ ff H C := by
          rw [hu]
          unfold unt
          by_cases w : (pbs H C g n).2 = -1
          · rw [if_pos w]; omega
          · rw [if_neg w]; omega
        rw [← hu]
        refine fsight (H := hgd H g n) hg ok c6 g0 g1 (by omega) (fun p a b s hs => ?_) (fun M8 f1 f2 f3 => ?_)
        · rw [hgd_w, h6, mset_p (by omega), p1 10 (by decide) (by decide) (by decide) (by omega)]
          exact hw.1 p a b s (by omega)
        · have c8 : Ch h (hgd H g n) M8 := Ch_fr2 hg (fun q a b => f1 q (by omega)) c6
          have so : sOK (hgd H g n) u M8 := by
            intro gd a b t ht
            by_cases w : gd = g
            · rw [w, f3 t ht]
              exact smk_ok ok _ _ t
            · rw [f2 (201 * gd + t) (by omega), h6, mset_o (by omega), p3 _ (by omega)]
              have o := hw.2 gd a b t (by omega)
              refine ⟨o.1, o.2.1, fun p x y => ?_⟩
              rw [o.2.2 p x y]
              show _ = decide (far H (if gd = g then (n : Int) else H 4 gd) (wlk (hgd H g n) p t) ≤ H 5 gd)
              rw [hgd_w, if_neg w]
          refine fal (H := hgd H g n) hg ok c8 C0 C1 (by omega) so (fun M11 q1 q2 q3 q4 => ?_)
          rw [alrU_le ok (by rw [hgd_ff]; exact uf)] at q3
          have l25 : M11 25 = M 25 := by rw [q1 25 (by decide), f1 25 (by decide), h6, mset_p (by omega)]
          have pfM : pfr h g B M11 := by
            refine ⟨fun q a b c d => ?_, fun j x => ?_, fun i hi => ?_⟩
            · rw [q1 q a, f1 q b, h6, mset_p d]; exact p1 q a b c d
            · rw [q1 (h + 13) (by omega), f1 (h + 13) (by omega), h6, mset_k x]; exact p2 j x
            · rw [q1 11 (by decide), f2 i (by omega), h6, mset_o (by omega)]; exact p3 i hi
          have pf25 : ∀ N : Mem, (∀ q, q ≠ 25 → N q = M11 q) → pfr h g B N := by
            intro N hN
            refine ⟨fun q a b c d => ?_, fun j x => ?_, fun i hi => ?_⟩
            · rw [hN q c]; exact pfM.1 q a b c d
            · rw [hN (h + 13) (by omega)]; exact pfM.2.1 j x
            · rw [hN 11 (by decide)]; exact pfM.2.2 i hi
          obtain ⟨A, hA⟩ : ∃ A, A = alrm (hgd H g n) C := ⟨_, rfl⟩
          rw [← hA] at q3 e
          have al := al_s (H := hgd H g n) (C := C) ok
          rw [hgd_ff, ← hA] at al
          have Ab : A = -1 ∨ (0 ≤ A ∧ A < ff H C) := by
            rcases al with v | v
            · exact Or.inl v.1
            · exact Or.inr ⟨v.1, v.2.1⟩
          rw [soo_eq] at e
          refine ⟨fun x => ⟨fun y2 => ?_, fun y2 => ?_⟩, fun x => ?_⟩
          · -- none, the first cell
            intro M16 h16
            rw [l25, e2] at y2
            have s1 := pb.1 y2
            have A1 : A = -1 := by
              rw [q3] at x
              rcases Ab with w | w
              · exact w
              · exfalso
                have : (u : Int) = ff H C := by rw [hu]; unfold unt; rw [if_pos s1]
                rw [if_pos (by omega)] at x
                omega
            rw [if_pos y2] at e
            have i := ih (n + 1) M16 (by omega) (by omega) (pf25 M16 (fun q z => by rw [h16, mset_p z])) (by rw [e, h16, mset_e]) (by rw [e, h16, mset_k (by decide), l25, e3, s1, A1])
            rw [e] at i
            have eu : unt H C ((n : Int), A).2 = (u : Int) := by
              show unt H C A = _
              rw [hu, A1, s1]
            rw [eu] at i
            exact i
          · rw [l25, e2] at y2
            rw [if_neg y2] at e
            have ns : ¬ (A ≠ -1 ∧ ((pbs H C g n).2 = -1 ∨ A < (pbs H C g n).2)) := by
              intro w
              rw [q3] at x
              have uu : (u : Int) = if (pbs H C g n).2 = -1 then ff H C else (pbs H C g n).2 := hu
              rw [if_pos ⟨w.1, by
                rw [uu]
                by_cases v : (pbs H C g n).2 = -1
                · rw [if_pos v]; omega
                · rw [if_neg v]; omega⟩] at x
              exact w.1 x
            rw [if_neg ns, if_pos rfl] at e
            have i := ih (n + 1) M11 (by omega) (by omega) pfM (by rw [e, l25]; exact e2) (by rw [e, l25]; exact e3)
            rw [e, ← hu] at i
            exact i
          · intro M18 h18 M20 h20
            have c3 : A ≠ -1 ∧ A < (u : Int) := Classical.byContradiction (fun w => x (by rw [q3, if_neg w]))
            rw [if_pos c3] at q3
            have m18 : M18 9 9 = A := by rw [h18, mset_o (by decide)]; exact q3
            rw [m18, h18] at h20
            have e' : pbs H C g (n + 1) = ((n : Int), A) := by
              rw [e]
              by_cases y2 : (pbs H C g n).1 = -1
              · rw [if_pos y2]
              · rw [if_neg y2]
                have uu : (u : Int) = if (pbs H C g n).2 = -1 then ff H C else (pbs H C g n).2 := hu
                have cnd : A ≠ -1 ∧ ((pbs H C g n).2 = -1 ∨ A < (pbs H C g n).2) := by
                  refine ⟨c3.1, ?_⟩
                  by_cases v : (pbs H C g n).2 = -1
                  · exact Or.inl v
                  · rw [if_neg v] at uu
                    exact Or.inr (by omega)
                rw [if_pos cnd, if_neg (show ¬ (1 : Int) = 0 by decide)]
            have i := ih (n + 1) M20 (by omega) (by omega) (pf25 M20 (fun q z => by rw [h20, mset_p z, mset_p z])) (by rw [e', h20, mset_k (by decide), mset_e]) (by rw [e', h20, mset_e])
            rw [e'] at i
            have eu : unt H C ((n : Int), A).2 = M20 25 3 := by
              show unt H C A = _
              unfold unt
              rw [if_neg c3.1, h20, mset_e]
            rw [eu] at i
            exact i
def apo (H : Hal) (C g w : Int) : Int := if (0 ≤ g ∧ g < H 0 3) ∧ (0 ≤ w ∧ w ≤ 1) then (if w = 0 then (pbs H C g (H 0 0 * H 0 1).toNat).1 else (pbs H C g (H 0 0 * H 0 1).toNat).2) else -1
theorem pos_c (hg : isG h) (hI : InvH h H M) (v1 v2 : Int) (hQ : ∀ M' : Mem, InvH h H M' → M' 0 12 = M 0 12 → Q (apo H (M 0 12) v1 v2) M') : PX11_post h v1 v2 M Q := by
  obtain ⟨hok, hc, hr, hT, hF, hK, hC, hS, hO, hA, hW⟩ := id hI
  have hbd := hok.2.1
  have hcl := hcells hok
  have hh : 31 < h := by rcases hg with rfl | rfl <;> decide
  have no : ¬ ((0 ≤ v1 ∧ v1 < H 0 3) ∧ (0 ≤ v2 ∧ v2 ≤ 1)) → Q (-1) M := by
    intro z
    have e : apo H (M 0 12) v1 v2 = -1 := by unfold apo; rw [if_neg z]
    rw [← e]
    exact hQ M hI rfl
  refine ⟨fun z => ?_, fun z => ⟨fun y => no (by omega), fun y => ⟨fun x => ?_, fun x => no (by omega)⟩⟩⟩
  · rw [hasGuard_eq hc] at z
    exact no (fun w => by rw [if_pos w.1] at z; exact absurd z (by decide))
  · rw [hasGuard_eq hc] at z
    have z1 : 0 ≤ v1 ∧ v1 < H 0 3 := Classical.byContradiction (fun w => z (by rw [if_neg w]))
    refine fw_q hg hI (fun M6 i6 w6 e6 o6 => ?_)
    rw [e6]
    obtain ⟨_, hc6, hr6, _, _, _, hC6, _, _, _, hW6⟩ := id i6
    have cb := C_b hok hC
    obtain ⟨C, hCe⟩ : ∃ C, C = M 0 12 := ⟨_, rfl⟩
    have hC1 := hC.2.1
    have hC2 := hC.2.2
    rw [← hCe] at hQ hC1 hC2 cb e6 ⊢
    intro M3 h3 a4 h4
    have fs := ffst hg hok hc6 cb.1 cb.2
    rw [← h3, ← h4] at fs
    obtain ⟨e1, e2, e3⟩ := fs
    intro M7 h7 M8 h8
    rw [h7] at h8
    have c3 : Ch h H M3 := Ch_fr2 hg (fun q a b => e2 q (by omega)) hc6
    have w3 : wOK H M3 := wOK_fr w6 (e2 10 (by decide)) (e2 11 (by decide))
    refine ⟨55, ?_⟩
    have l := po34 (h := h) (H := H) (B := M3) (C := C) (g := v1) (Q := fun _ M9 => Q (if v2 = 0 then (M9 25 2) else (M9 25 3)) M9) (K := fun M10 => (∀ M13 : Mem, M13 = (fmX11_put M10 (h + 13) 4 v1 (fX11_get M6 (h + 13) 4 v1)) → PX7_fillSight h v1 201 M13 (fun _ M15 => (fun _ M9 => Q (if v2 = 0 then (M9 25 2) else (M9 25 3)) M9) 0 M15))) hg hok c3 w3 hC1 hC2 z1.1 z1.2 (fun N p b1 b2 => ?_) 55 0 M8 (by show (0 : Int) ≤ _; omega) (by show _ < (0 : Int) + 55; omega) ⟨fun q a b c d => by rw [h8, mset_p c, mset_p c], fun j a => by rw [h8, mset_p (by omega), mset_p (by omega)], fun i a => by rw [h8, mset_p (by decide), mset_p (by decide)]⟩ (by rw [h8, mset_k (by decide), mset_e]; rfl) (by rw [h8, mset_e]; rfl)
    · rw [e1]
      exact l
    · intro M13 h13
      rw [rd_put z1.1 (by omega), rd_get z1.1 (by omega)] at h13
      have r13 : M13 (h + 13) = M6 (h + 13) := by
        rw [h13]
        exact back_row (fun j a => by rw [p.2.1 j a, e2 (h + 13) (by omega)]) rfl
      have q13 : ∀ q, q ≠ 9 → q ≠ 11 → q ≠ 12 → q ≠ 25 → M13 q = M6 q := by
        intro q a b c d
        by_cases w : q = h + 13
        · rw [w]; exact r13
        · rw [h13, mset_p w, p.1 q a b d w, e2 q c]
      have c13 : Ch h H M13 := Ch_fr2 hg (fun q a b => q13 q (by omega) (by omega) (by omega) (by omega)) hc6
      refine fsight hg hok c13 z1.1 z1.2 (by decide) (fun pp a b s hs => ?_) (fun M15 f1 f2 f3 => ?_)
      · rw [q13 10 (by decide) (by decide) (by decide) (by decide)]
        exact w6.1 pp a b s hs
      · have g8 : ∀ q, (q < 9 ∨ (15 < q ∧ q ≠ 25 ∧ q ≠ 26)) → M15 q = M6 q := fun q w => by rw [f1 q (by omega)]; exact q13 q (by omega) (by omega) (by omega) (by omega)
        have w15 : wOK H M15 := by
          refine ⟨fun pp a b t ht => ?_, fun gd a b t ht => ?_⟩
          · rw [f1 10 (by decide), q13 10 (by decide) (by decide) (by decide) (by decide)]
            exact w6.1 pp a b t ht
          · by_cases w : gd = v1
            · rw [w, f3 t ht]
              exact smk_ok hok _ _ t
            · have hx : 201 * gd + (t : Int) < 201 * v1 ∨ 201 * v1 + 201 ≤ 201 * gd + (t : Int) := by omega
              rw [f2 (201 * gd + t) hx, h13, mset_o (by omega), p.2.2 _ (by omega), e2 11 (by decide)]
              exact w6.2 gd a b t ht
        have i15 : InvH h H M15 := inv_cs hg i6 o6 g8 w15
        have hq := hQ M15 i15 (by rw [g8 0 (by decide)]; exact e6)
        unfold apo at hq
        rw [if_pos ⟨z1, by omega⟩] at hq
        have e25 : M15 25 = N 25 := by rw [f1 25 (by decide), h13, mset_p (by omega)]
        show Q (if v2 = 0 then (M15 25 2) else (M15 25 3)) M15
        rw [e25, b1, b2]
        exact hq
/-- the same of the reference -/
theorem po49 {K : Int → Int → Mem → Prop} {g : Int} (ho : Hok H) (hr : Rh H B) (C0 : 0 ≤ C) (C1 : C < 512) (hC : B 66 42 = C) (g0 : 0 ≤ g) (g1 : g < H 0 3) (hK : ∀ M' : Mem, (∀ q, q ≠ 89 → (q < 66 ∨ (66 < q ∧ q < 93) ∨ 99 < q) → M' q = B q) → (∀ j, j ≠ 50 → j ≠ 51 → j ≠ 52 → M' 66 j = B 66 j) → (∀ j, j ≠ 12 + 3 * g → M' 89 j = B 89 j) → K (pbs H C g (H 0 0 * H 0 1).toNat).1 (pbs H C g (H 0 0 * H 0 1).toNat).2 M') : ∀ (k n : Nat) (M : Mem), (n : Int) ≤ H 0 0 * H 0 1 → H 0 0 * H 0 1 < (n : Int) + k → (∀ q, q ≠ 89 → (q < 66 ∨ (66 < q ∧ q < 93) ∨ 99 < q) → M q = B q) → (∀ j, j ≠ 50 → j ≠ 51 → j ≠ 52 → M 66 j = B 66 j) → (∀ j, j ≠ 12 + 3 * g → M 89 j = B 89 j) → PX12_post_49 g K Q k (pbs H C g n).1 (pbs H C g n).2 n M := by
  have hbd := ho.2.1
  have hcl := hcells ho
  intro k
  induction k with
  | zero => intro n M a b; omega
  | succ k ih =>
    intro n M a b e1 e2 e3
    have cl : fX12_cells M = H 0 0 * H 0 1 := by
      have := rcells ho hr
      unfold fX12_cells at this ⊢
      rw [e2 38 (by decide) (by decide) (by decide), e2 39 (by decide) (by decide) (by decide)]
      exact this
    have w3 : Hid (wr32 ((n : Int) + 1) = ((n + 1 : Nat) : Int)) := hid (by rw [wad (by omega) (by omega)]; omega)
    have i0 : Hid (wr32 (12 + wr32 (3 * g)) = 12 + 3 * g) := hid (by rw [wmu (a := 3) (by omega) (by omega), wad (by omega) (by omega)])
    have e : pbs H C g (n + 1) = if H 1 n = 0 then (if (pbs H C g n).1 = -1 then ((n : Int), alrm (hgd H g n) C) else if fX12_isSooner (alrm (hgd H g n) C) (pbs H C g n).2 = 0 then pbs H C g n else ((n : Int), alrm (hgd H g n) C)) else pbs H C g n := rfl
    refine ⟨fun z => ?_, fun z => ?_⟩
    · rw [cl] at z
      have en : n = (H 0 0 * H 0 1).toNat := by omega
      rw [en]
      exact hK M e1 e2 e3
    · rw [cl] at z
      have wn : fX12_isWallNow M n = H 1 n ∧ nX12_isWallNow n := by
        have := wallNow hr (c := (n : Int)) (by omega) (by omega)
        refine ⟨?_, this.2⟩
        rw [← this.1]
        unfold fX12_isWallNow
        rw [e1 87 (by decide) (by decide)]
      rw [wn.1, w3.out, i0.out]
      refine ⟨wn.2, fun y => ⟨by omega, by omega, ?_⟩, fun y => ?_⟩
      · rw [if_pos y] at e
        have hf : fre H n := ⟨by omega, by omega, y⟩
        have ok := hgd_ok (g := g) ho hf
        intro M7 h7
        have r7 : Rh (hgd H g n) M7 := hgd_r hr (by rw [h7, mset_o (by decide)]; exact e2 38 (by decide) (by decide) (by decide)) (by rw [h7, mset_o (by decide)]; exact e2 39 (by decide) (by decide) (by decide)) (fun q x y z => by rw [h7, mset_p z]; exact e1 q z (by omega)) (fun j x => by rw [h7, mset_k x]; exact e3 j x) (by rw [h7, mset_e])
        refine pl_s ok r7 C0 C1 (by rw [h7, mset_o (by decide), e2 42 (by decide) (by decide) (by decide)]; exact hC) (fun M9 r => ?_)
        have i := ih (n + 1) M9 (by omega) (by omega) (fun q x y => by rw [r.1 q y, h7, mset_p x]; exact e1 q x y) (fun j x y z => by rw [r.2.1 j x y z, h7, mset_o (by decide)]; exact e2 j x y z) (fun j x => by rw [r.1 89 (by decide), h7, mset_k x]; exact e3 j x)
        rw [e] at i
        rw [r.2.2.2.1]
        by_cases y1 : (pbs H C g n).1 = -1
        · rw [if_pos y1] at i
          rw [if_pos y1, if_pos y1]
          exact i
        · rw [if_neg y1] at i
          rw [if_neg y1, if_neg y1]
          by_cases y2 : fX12_isSooner (alrm (hgd H g n) C) (pbs H C g n).2 = 0
          · rw [if_pos y2] at i
            rw [if_pos y2, if_pos y2]
            exact i
          · rw [if_neg y2] at i
            rw [if_neg y2, if_neg y2]
            exact i
      · rw [if_neg y] at e
        have i := ih (n + 1) M (by omega) (by omega) e1 e2 e3
        rw [e] at i
        exact i
theorem pos_r (hg : isG h) (hI : InvH h H M) (v1 v2 : Int) (hQ : ∀ M' : Mem, InvH h H M' → Q (apo H (M 0 12) v1 v2) M') : PX12_post v1 v2 M Q := by
  obtain ⟨hok, hc, hr, hT, hF, hK, hC, hS, hO, hA, hW⟩ := id hI
  have hbd := hok.2.1
  have hcl := hcells hok
  have cb := C_b hok hC
  have no : ¬ ((0 ≤ v1 ∧ v1 < H 0 3) ∧ (0 ≤ v2 ∧ v2 ≤ 1)) → Q (-1) M := by
    intro z
    have e : apo H (M 0 12) v1 v2 = -1 := by unfold apo; rw [if_neg z]
    rw [← e]
    exact hQ M hI
  have e1 : wr32 (fX12_guardMany M - 1) = H 0 3 - 1 := by rw [gMany hr, wsu (by omega) (by omega)]
  have ii := isIn_eq v1 0 (wr32 (fX12_guardMany M - 1))
  rw [e1] at ii
  refine ⟨fun z => ?_, fun z => ⟨fun y => ?_, fun y => ?_⟩⟩
  · rw [e1, ii] at z
    exact no (fun w => by rw [if_pos (by omega)] at z; exact absurd z (by decide))
  · rw [isIn_eq] at y
    exact no (fun w => by rw [if_pos w.2] at y; exact absurd y (by decide))
  · rw [e1, ii] at z
    rw [isIn_eq] at y
    have z0 : 0 ≤ v1 ∧ v1 ≤ H 0 3 - 1 := Classical.byContradiction (fun w => z (by rw [if_neg w]))
    have z1 : 0 ≤ v1 ∧ v1 < H 0 3 := by omega
    have y1 : 0 ≤ v2 ∧ v2 ≤ 1 := Classical.byContradiction (fun w => y (by rw [if_neg w]))
    have i0 : Hid (wr32 (12 + wr32 (3 * v1)) = 12 + 3 * v1) := hid (by rw [wmu (a := 3) (by omega) (by omega), wad (by omega) (by omega)])
    rw [i0.out]
    refine ⟨by omega, by omega, 55, ?_⟩
    have l := po49 (H := H) (B := M) (C := M 0 12) (g := v1) (Q := Q) (K := fun u7 u8 M9 => 0 ≤ 12 + 3 * v1 ∧ 12 + 3 * v1 < 24 ∧ (∀ M12 : Mem, M12 = (mset M9 89 (12 + 3 * v1) (M 89 (12 + 3 * v1))) → Q (if v2 = 0 then u7 else u8) M12)) hok hr cb.1 cb.2 hC.1 z1.1 z1.2 (fun N f1 f2 f3 => ⟨by omega, by omega, ?_⟩) 55 0 M (by show (0 : Int) ≤ _; omega) (by show _ < (0 : Int) + 55; omega) (fun _ _ _ => rfl) (fun _ _ _ _ => rfl) (fun _ _ => rfl)
    · exact l
    · intro M12 h12
      have i12 : InvH h H M12 := by
        refine inv_rf hg hI (fun q x => ?_) (fun j a b c => by rw [h12, mset_o (by decide)]; exact f2 j a b c)
        rw [h12]
        by_cases e : q = 89
        · rw [e]
          exact back_row f3 rfl
        · rw [mset_p e]; exact f1 q e x
      have hq := hQ M12 i12
      unfold apo at hq
      rw [if_pos ⟨z1, y1⟩] at hq
      exact hq
theorem inv_post : ∀ E, Two_post E Inv := by
  intro E
  refine two_post (fun v1 v2 M hI _ _ _ => ?_)
  obtain ⟨h, H, hG, hI⟩ := hI
  have hh := hG.2.2.2
  refine ⟨h, hG, pos_c hh hI v1 v2 (fun M1 i1 e hG1 => pos_r hh i1 v1 v2 (fun M2 i2 hG2 => ⟨by rw [e], h, H, hG2, i2⟩))⟩
end
