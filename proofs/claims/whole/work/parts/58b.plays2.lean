section
variable {H : Hal} {C : Int}
/-- n of the people have moved -/
def mvI (H : Hal) (C : Int) (s : Nat) (M : Mem) (n : Nat) (N : Mem) : Prop :=
  (∀ q, q ≠ 95 → q ≠ 98 → q ≠ 99 → N q = M q) ∧ (∀ q : Int, 0 ≤ q → q < n → bt C q = true → N 99 q = nwv H C s q ∧ N 98 q = gts H C q (s + 1) ∧ N 95 (9 * ((s + 1 : Nat) : Int) + q) = rps H C q (s + 1)) ∧ (∀ q : Int, ¬ (0 ≤ q ∧ q < n ∧ bt C q = true) → N 98 q = M 98 q) ∧ (∀ i, i < 9 * ((s + 1 : Nat) : Int) → N 95 i = M 95 i)
theorem mv_lp {B M : Mem} {K : Mem → Prop} {Q : Int → Mem → Prop} {s : Nat} (ho : Hok H) (hr : Rh H M) (C0 : 0 ≤ C) (C1 : C < 512) (hC : M 66 42 = C) (hs : s < 200) (h : rST H C B s M) : ∀ (k n : Nat) (N : Mem), (n : Int) ≤ H 0 4 → H 0 4 < (n : Int) + k → mvI H C s M n N → (∀ N' : Mem, mvI H C s M (H 0 4).toNat N' → K N') → PX12_plays_101 ((s + 1 : Nat) : Int) K Q k n N := by
  have hbd := ho.2.1
  intro k
  induction k with
  | zero => intro n N a b; omega
  | succ k ih =>
    intro n N a b hI hK
    have hrN : Rh H N := Rh_93 (fun q x => hI.1 q (by omega) (by omega) (by omega)) (by rw [hI.1 66 (by decide) (by decide) (by decide)]) (by rw [hI.1 66 (by decide) (by decide) (by decide)]) hr
    have e3 : Hid (wr32 ((n : Int) + 1) = ((n + 1 : Nat) : Int)) := hid (by rw [wad (by omega) (by omega)]; omega)
    refine ⟨fun z => ?_, fun z => ?_⟩
    · rw [pMany hrN] at z
      have e : n = (H 0 4).toNat := by omega
      rw [e] at hI
      exact hK N hI
    · rw [pMany hrN] at z
      have hCN : N 66 42 = C := by rw [hI.1 66 (by decide) (by decide) (by decide)]; exact hC
      have ic := isComing_r ho hrN hCN C0 C1 (p := (n : Int)) (by omega) (by omega)
      refine ⟨fun y => ?_, fun y => ?_⟩
      · rw [e3.out]
        have hb : ¬ bt C n = true := by
          intro w
          rw [ic, if_pos w] at y
          exact absurd y (by decide)
        refine ih (n + 1) N (by omega) (by omega) ⟨hI.1, fun q q0 q1 q2 => hI.2.1 q q0 ?_ q2, fun q q0 => hI.2.2.1 q (fun w => q0 ⟨w.1, by have := w.2.1; omega, w.2.2⟩), hI.2.2.2⟩ hK
        by_cases e : q = (n : Int)
        · rw [e] at q2; exact absurd q2 hb
        · omega
      · have hb : bt C n = true := by
          refine Classical.byContradiction (fun w => y ?_)
          rw [ic, if_neg w]
        have g96 : ∀ q, 0 ≤ q → q < 9 → N 96 q = Os H C s q := fun q x y => by rw [hI.1 96 (by decide) (by decide) (by decide)]; exact (h.2.2.2.1 q x y).1
        have g95 : ∀ q, 0 ≤ q → q < H 0 4 → bt C q = true → N 95 (9 * (s : Int) + q) = rps H C q s := fun q x y z => by rw [hI.2.2.2 _ (by omega)]; exact h.2.2.2.2.2.2.2 s (by omega) q x y z
        have n9 : (n : Int) < 9 := by omega
        have n0 : (0 : Int) ≤ (n : Int) := by omega
        have ns : ¬ (0 ≤ (n : Int) ∧ (n : Int) < (n : Int) ∧ bt C n = true) := fun w => by have := w.2.1; omega
        have g51 : Hid (N 66 51 = als H C s) := hid (by rw [hI.1 66 (by decide) (by decide) (by decide)]; exact h.2.2.2.2.2.1)
        have g98 : Hid (N 98 (n : Int) = gts H C n s) := hid (by rw [hI.2.2.1 n ns]; exact (h.2.2.2.1 n n0 n9).2.2)
        have g93 : ∀ c, 0 ≤ c → c < 54 → N 93 c = dst H c := fun c x y => by rw [hI.1 93 (by decide) (by decide) (by decide)]; exact h.2.2.1 c x y
        have mv := hid (mv_r ho hrN C0 C1 hCN hs (p := (n : Int)) n0 (by omega) hb g96 g95 g51.out g98.out g93)
        refine ⟨mv.out.1, ?_⟩
        intro M7 h7
        rw [e3.out]
        have f1 := mv.out.2.1
        have f2 := hid mv.out.2.2.1
        have f3 := hid mv.out.2.2.2.1
        have f4 := hid mv.out.2.2.2.2.1
        have f5 := mv.out.2.2.2.2.2
        rw [← h7] at f1 f2 f3 f4 f5
        refine ih (n + 1) M7 (by omega) (by omega) ⟨fun q x y z => by rw [f1 q x y z]; exact hI.1 q x y z, fun q q0 q1 q2 => ?_, fun q q0 => ?_, fun i hi => ?_⟩ hK
        · by_cases e : q = (n : Int)
          · rw [e]
            exact ⟨f2.out.1, f3.out.1, f4.out⟩
          · rw [f2.out.2 q e, f3.out.2 q e, f5 _ (by omega)]
            exact hI.2.1 q q0 (by omega) q2
        · have e : q ≠ (n : Int) := by
            intro e
            apply q0
            rw [e]
            exact ⟨by omega, by omega, hb⟩
          rw [f3.out.2 q e]
          exact hI.2.2.1 q (fun w => q0 ⟨w.1, by have := w.2.1; omega, w.2.2⟩)
        · rw [f5 i (by omega)]
          exact hI.2.2.2 i hi
/-- n of the people have opened -/
def opI (H : Hal) (C : Int) (s : Nat) (N : Mem) (n : Nat) (N' : Mem) : Prop :=
  (∀ q, q ≠ 66 → q ≠ 96 → q ≠ 97 → N' q = N q) ∧ (∀ j, j ≠ 50 → N' 66 j = N 66 j) ∧ ((N' 66 50 = N 66 50 ∧ ∀ q : Int, 0 ≤ q → q < n → bt C q = true → nwv H C s q = 0) ∨ (N' 66 50 = 1 ∧ ∃ q : Int, 0 ≤ q ∧ q < n ∧ bt C q = true ∧ nwv H C s q ≠ 0)) ∧
  (∀ q : Int, 0 ≤ q → q < n → bt C q = true → nwv H C s q ≠ 0 → N' 96 q = (s : Int) + 1 ∧ N' 97 q = nwv H C s q) ∧ (∀ q : Int, ¬ (0 ≤ q ∧ q < n ∧ bt C q = true ∧ nwv H C s q ≠ 0) → N' 96 q = N 96 q ∧ N' 97 q = N 97 q)
theorem op_lp {N : Mem} {K : Mem → Prop} {Q : Int → Mem → Prop} {s : Nat} (ho : Hok H) (hr : Rh H N) (C0 : 0 ≤ C) (C1 : C < 512) (hC : N 66 42 = C) (h99 : ∀ q, 0 ≤ q → q < H 0 4 → bt C q = true → N 99 q = nwv H C s q) : ∀ (k n : Nat) (N' : Mem), (n : Int) ≤ H 0 4 → H 0 4 < (n : Int) + k → opI H C s N n N' → (∀ N2 : Mem, opI H C s N (H 0 4).toNat N2 → K N2) → PX12_plays_131 ((s + 1 : Nat) : Int) K Q k n N' := by
  have hbd := ho.2.1
  intro k
  induction k with
  | zero => intro n N' a b; omega
  | succ k ih =>
    intro n N' a b hI hK
    have hrN : Rh H N' := Rh_93 (fun q x => hI.1 q (by omega) (by omega) (by omega)) (hI.2.1 38 (by decide)) (hI.2.1 39 (by decide)) hr
    have e3 : Hid (wr32 ((n : Int) + 1) = ((n + 1 : Nat) : Int)) := hid (by rw [wad (by omega) (by omega)]; omega)
    refine ⟨fun z => ?_, fun z => ?_⟩
    · rw [pMany hrN] at z
      have e : n = (H 0 4).toNat := by omega
      rw [e] at hI
      exact hK N' hI
    · rw [pMany hrN] at z
      have hCN : N' 66 42 = C := by rw [hI.2.1 42 (by decide)]; exact hC
      have ic := isComing_r ho hrN hCN C0 C1 (p := (n : Int)) (by omega) (by omega)
      rw [e3.out]
      have skip : ¬ (bt C n = true ∧ nwv H C s n ≠ 0) → PX12_plays_131 ((s + 1 : Nat) : Int) K Q k ((n + 1 : Nat) : Int) N' := by
        intro hx
        refine ih (n + 1) N' (by omega) (by omega) ⟨hI.1, hI.2.1, ?_, fun q q0 q1 q2 q3 => hI.2.2.2.1 q q0 ?_ q2 q3, fun q q0 => hI.2.2.2.2 q (fun w => q0 ⟨w.1, by have := w.2.1; omega, w.2.2⟩)⟩ hK
        · rcases hI.2.2.1 with u | u
          · refine Or.inl ⟨u.1, fun q q0 q1 q2 => ?_⟩
            by_cases e : q = (n : Int)
            · rw [e] at q2 ⊢
              exact Classical.byContradiction (fun w => hx ⟨q2, w⟩)
            · exact u.2 q q0 (by omega) q2
          · obtain ⟨u1, q, q0, q1, q2⟩ := u
            exact Or.inr ⟨u1, q, q0, by omega, q2⟩
        · by_cases e : q = (n : Int)
          · rw [e] at q2 q3; exact absurd ⟨q2, q3⟩ hx
          · omega
      refine ⟨fun y => ?_, fun y => ⟨by omega, by omega, fun w => ?_, fun w => ⟨by omega, by omega, ?_⟩⟩⟩
      · refine skip (fun w => ?_)
        rw [ic, if_pos w.1] at y
        exact absurd y (by decide)
      · have hb : bt C n = true := by
          refine Classical.byContradiction (fun w => y ?_)
          rw [ic, if_neg w]
        exact skip (fun u => u.2 (by rw [hI.1 99 (by decide) (by decide) (by decide), h99 n (by omega) (by omega) hb] at w; exact w))
      · have hb : bt C n = true := by
          refine Classical.byContradiction (fun w => y ?_)
          rw [ic, if_neg w]
        have n99 : Hid (N' 99 (n : Int) = nwv H C s n) := hid (by rw [hI.1 99 (by decide) (by decide) (by decide)]; exact h99 n (by omega) (by omega) hb)
        have w : Hid (nwv H C s n ≠ 0) := hid (by rw [n99.out] at w; exact w)
        intro M7 h7
        refine ⟨by omega, by omega, by omega, by omega, ?_⟩
        intro M9 h9
        intro M11 h11
        have m99 : Hid (M7 99 (n : Int) = nwv H C s n) := hid (by rw [h7, mset_o (by decide)]; exact n99.out)
        rw [m99.out, h7] at h9
        rw [h9] at h11
        have s1 : (((s + 1 : Nat) : Int)) = (s : Int) + 1 := by omega
        rw [s1] at h11
        refine ih (n + 1) M11 (by omega) (by omega) ⟨fun q x y z => by rw [h11, mset_p x, mset_p z, mset_p y]; exact hI.1 q x y z, fun j hj => by rw [h11, mset_k hj, mset_o (by decide), mset_o (by decide)]; exact hI.2.1 j hj, Or.inr ⟨by rw [h11, mset_e], n, by omega, by omega, hb, w.out⟩, fun q q0 q1 q2 q3 => ?_, fun q q0 => ?_⟩ hK
        · by_cases e : q = (n : Int)
          · rw [e, h11, mset_o (by decide), mset_o (by decide), mset_e, mset_o (by decide), mset_e]
            exact ⟨rfl, rfl⟩
          · rw [h11, mset_o (by decide), mset_o (by decide), mset_k e, mset_o (by decide), mset_k e, mset_o (by decide)]
            exact hI.2.2.2.1 q q0 (by omega) q2 q3
        · have e : q ≠ (n : Int) := by
            intro e
            apply q0
            rw [e]
            exact ⟨by omega, by omega, hb, w.out⟩
          rw [h11, mset_o (by decide), mset_o (by decide), mset_k e, mset_o (by decide), mset_k e, mset_o (by decide)]
          exact hI.2.2.2.2 q (fun u => q0 ⟨u.1, by have := u.2.1; omega, u.2.2⟩)
end
