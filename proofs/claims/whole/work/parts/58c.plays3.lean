section
variable {H : Hal} {C : Int}
/-- a second is over -/
theorem sec_r {B M N N' : Mem} {s : Nat} (ho : Hok H) (hs : s < 200) (h : rST H C B s M) (hI : mvI H C s M (H 0 4).toNat N) (hJ : opI H C s N (H 0 4).toNat N') :
    (∀ q, (q < 66 ∨ (66 < q ∧ q < 93) ∨ 99 < q) → N' q = B q) ∧ (∀ j, j ≠ 50 → j ≠ 51 → j ≠ 52 → N' 66 j = B 66 j) ∧ (∀ c, 0 ≤ c → c < 54 → N' 93 c = dst H c) ∧
    (∀ q, 0 ≤ q → q < 9 → N' 96 q = Os H C (s + 1) q ∧ N' 97 q = Hs H C (s + 1) q ∧ N' 98 q = gts H C q (s + 1)) ∧ N' 66 50 = flg H C (s + 1) ∧ N' 66 51 = als H C s ∧ N' 66 52 = ags H C s ∧
    (∀ t : Nat, t ≤ s + 1 → ∀ q, 0 ≤ q → q < H 0 4 → bt C q = true → N' 95 (9 * (t : Int) + q) = rps H C q t) := by
  have hbd := ho.2.1
  have hn : (((H 0 4).toNat : Nat) : Int) = H 0 4 := by omega
  have n66 : N 66 = M 66 := hI.1 66 (by decide) (by decide) (by decide)
  unfold mvI at hI
  unfold opI at hJ
  rw [hn] at hI hJ
  refine ⟨fun q x => by rw [hJ.1 q (by omega) (by omega) (by omega), hI.1 q (by omega) (by omega) (by omega)]; exact h.1 q x, fun j a b c => by rw [hJ.2.1 j a, n66]; exact h.2.1 j a b c, fun c x y => by rw [hJ.1 93 (by decide) (by decide) (by decide), hI.1 93 (by decide) (by decide) (by decide)]; exact h.2.2.1 c x y, fun q q0 q1 => ?_, ?_, by rw [hJ.2.1 51 (by decide), n66]; exact h.2.2.2.2.2.1, by rw [hJ.2.1 52 (by decide), n66]; exact h.2.2.2.2.2.2.1, fun t ht q q0 q1 q2 => ?_⟩
  · have o := h.2.2.2.1 q q0 q1
    have e98 : N' 98 q = N 98 q := by rw [hJ.1 98 (by decide) (by decide) (by decide)]
    have n96 : N 96 q = M 96 q := by rw [hI.1 96 (by decide) (by decide) (by decide)]
    have n97 : N 97 q = M 97 q := by rw [hI.1 97 (by decide) (by decide) (by decide)]
    by_cases c : 0 ≤ q ∧ q < H 0 4 ∧ bt C q = true
    · refine ⟨?_, ?_, by rw [e98]; exact (hI.2.1 q c.1 c.2.1 c.2.2).2.1⟩
      · rw [Os_s c.1 c.2.1 c.2.2]
        by_cases d : nwv H C s q = 0
        · rw [if_pos d, (hJ.2.2.2.2 q (fun w => w.2.2.2 d)).1, n96]
          exact o.1
        · rw [if_neg d]
          exact (hJ.2.2.2.1 q c.1 c.2.1 c.2.2 d).1
      · rw [Hs_s c.1 c.2.1 c.2.2]
        by_cases d : nwv H C s q = 0
        · rw [if_pos d, (hJ.2.2.2.2 q (fun w => w.2.2.2 d)).2, n97]
          exact o.2.1
        · rw [if_neg d]
          exact (hJ.2.2.2.1 q c.1 c.2.1 c.2.2 d).2
    · have j5 := hJ.2.2.2.2 q (fun w => c ⟨w.1, w.2.1, w.2.2.1⟩)
      have i3 := hI.2.2.1 q c
      rw [e98, j5.1, j5.2, i3, n96, n97, o.1, o.2.1, o.2.2, Os_out c, Os_out c, Hs_out c, Hs_out c, gts_out c, gts_out c]
      exact ⟨rfl, rfl, rfl⟩
  · have f := ff_s ho C
    have e50 : N 66 50 = flg H C s := by rw [n66]; exact h.2.2.2.2.1
    have s1 : (((s + 1 : Nat) : Int)) = (s : Int) + 1 := by omega
    rcases hJ.2.2.1 with u | u
    · rw [u.1, e50]
      unfold flg
      by_cases a : alrm H C = -1
      · by_cases b : ff H C ≤ (s : Int)
        · rw [if_pos ⟨a, b⟩, if_pos ⟨a, by omega⟩]
        · rw [if_neg (fun w => b w.2)]
          by_cases d : ff H C ≤ ((s + 1 : Nat) : Int)
          · exfalso
            obtain ⟨p, p0, p1, p2, p3⟩ := opn_post ho C (s := s + 1) (by omega) d
            have z := u.2 p p0 p1 p2
            have o1 := Os_s (C := C) (s := s) p0 p1 p2
            rw [if_pos z, Os_pre (s := s) ho (by omega)] at o1
            unfold Os at o1
            rw [if_pos a, p3] at o1
            clear h hI hJ u e50 z p3
            omega
          · rw [if_neg (fun w => d w.2)]
      · rw [if_neg (fun w => a w.1), if_neg (fun w => a w.1)]
    · obtain ⟨u1, q, q0, q1, q2, q3⟩ := u
      have a : alrm H C = -1 := by
        refine Classical.byContradiction (fun a => q3 ?_)
        unfold nwv
        rw [if_neg a]
        by_cases b : Os H C s q = -1
        · rw [if_pos b]
        · rw [if_neg b]
      have b : ff H C ≤ ((s + 1 : Nat) : Int) := by
        refine Classical.byContradiction (fun b => ?_)
        have o1 := Os_s (C := C) (s := s) q0 q1 q2
        rw [if_neg q3, Os_pre ho (by omega)] at o1
        clear h hI hJ e50 u1 q3
        omega
      rw [u1]
      unfold flg
      rw [if_pos ⟨a, b⟩]
  · rw [hJ.1 95 (by decide) (by decide) (by decide)]
    by_cases e : t = s + 1
    · rw [e]
      exact (hI.2.1 q q0 q1 q2).2.2
    · rw [hI.2.2.2 _ (by omega)]
      exact h.2.2.2.2.2.2.2 t (by omega) q q0 q1 q2
theorem als_s {s : Nat} : als H C s = (if alrm H C ≠ -1 ∧ alrm H C < ((s + 1 : Nat) : Int) then alrm H C else -1) ∧ ags H C s = (if alrm H C ≠ -1 ∧ alrm H C < ((s + 1 : Nat) : Int) then algd H C else -1) := by
  unfold als ags
  by_cases a : alrm H C ≠ -1 ∧ alrm H C ≤ (s : Int)
  · rw [if_pos a, if_pos a, if_pos (show alrm H C ≠ -1 ∧ alrm H C < ((s + 1 : Nat) : Int) by omega), if_pos (show alrm H C ≠ -1 ∧ alrm H C < ((s + 1 : Nat) : Int) by omega)]
    exact ⟨rfl, rfl⟩
  · rw [if_neg a, if_neg a, if_neg (show ¬ (alrm H C ≠ -1 ∧ alrm H C < ((s + 1 : Nat) : Int)) by omega), if_neg (show ¬ (alrm H C ≠ -1 ∧ alrm H C < ((s + 1 : Nat) : Int)) by omega)]
    exact ⟨rfl, rfl⟩
theorem rST_lu {B N : Mem} {t : Nat} (ho : Hok H) (hrB : Rh H B) (C0 : 0 ≤ C) (C1 : C < 512) (hC : B 66 42 = C) (ht : t < 201)
    (a1 : ∀ q, (q < 66 ∨ (66 < q ∧ q < 93) ∨ 99 < q) → N q = B q) (a2 : ∀ j, j ≠ 50 → j ≠ 51 → j ≠ 52 → N 66 j = B 66 j) (a3 : ∀ c, 0 ≤ c → c < 54 → N 93 c = dst H c)
    (a4 : ∀ q, 0 ≤ q → q < 9 → N 96 q = Os H C t q ∧ N 97 q = Hs H C t q ∧ N 98 q = gts H C q t) (a5 : N 66 50 = flg H C t) (h51 : N 66 51 = if alrm H C ≠ -1 ∧ alrm H C < (t : Int) then alrm H C else -1) (h52 : N 66 52 = if alrm H C ≠ -1 ∧ alrm H C < (t : Int) then algd H C else -1)
    (a8 : ∀ u : Nat, u ≤ t → ∀ q, 0 ≤ q → q < H 0 4 → bt C q = true → N 95 (9 * (u : Int) + q) = rps H C q u) :
    nX12_looksUp N (t : Int) ∧ rST H C B t (fmX12_looksUp N (t : Int)) := by
  have hrN : Rh H N := Rh_93 (fun q x => a1 q (by omega)) (a2 38 (by decide) (by decide) (by decide)) (a2 39 (by decide) (by decide) (by decide)) hrB
  have l := lu_r ho hrN C0 C1 (by rw [a2 42 (by decide) (by decide) (by decide)]; exact hC) ht (fun q x y => (a4 q x y).1) (a8 t (by omega)) a5 h51 h52
  obtain ⟨l1, l2, l3, l4, l5⟩ := l
  refine ⟨l1, fun q x => by rw [l2 q (by omega)]; exact a1 q x, fun j x y z => by rw [l3 j y z]; exact a2 j x y z, fun c x y => by rw [l2 93 (by decide)]; exact a3 c x y, fun q x y => by rw [l2 96 (by decide), l2 97 (by decide), l2 98 (by decide)]; exact a4 q x y, by rw [l3 50 (by decide) (by decide)]; exact a5, l4, l5, fun u x q y z w => by rw [l2 95 (by decide)]; exact a8 u x q y z w⟩
theorem se_lp {B : Mem} {K : Mem → Prop} {Q : Int → Mem → Prop} (ho : Hok H) (hrB : Rh H B) (C0 : 0 ≤ C) (C1 : C < 512) (hC : B 66 42 = C) (hK : ∀ M' : Mem, rST H C B 200 M' → K M') : ∀ (k s : Nat) (M : Mem), s ≤ 200 → 200 < s + k → rST H C B s M → PX12_plays_92 K Q k ((s + 1 : Nat) : Int) M := by
  have hbd := ho.2.1
  intro k
  induction k with
  | zero => intro s M a b; omega
  | succ k ih =>
    intro s M a b h
    have hrM : Rh H M := Rh_93 (fun q x => h.1 q (by omega)) (h.2.1 38 (by decide) (by decide) (by decide)) (h.2.1 39 (by decide) (by decide) (by decide)) hrB
    have hCM : M 66 42 = C := by rw [h.2.1 42 (by decide) (by decide) (by decide)]; exact hC
    refine ⟨fun z => ?_, fun z => ?_⟩
    · have e : s = 200 := by omega
      rw [e] at h
      exact hK M h
    · have hs : s < 200 := by omega
      have e3 : Hid (wr32 (((s + 1 : Nat) : Int) + 1) = ((s + 1 + 1 : Nat) : Int)) := hid (by rw [wad (by omega) (by omega)]; omega)
      refine ⟨10, mv_lp ho hrM C0 C1 hCM hs h 10 0 M (by omega) (by omega) ⟨fun _ _ _ _ => rfl, fun q q0 q1 => by omega, fun _ _ => rfl, fun _ _ => rfl⟩ (fun N hI => ?_)⟩
      have n66 : N 66 = M 66 := hI.1 66 (by decide) (by decide) (by decide)
      have hrN : Rh H N := Rh_93 (fun q x => hI.1 q (by omega) (by omega) (by omega)) (by rw [n66]) (by rw [n66]) hrM
      refine ⟨10, op_lp ho hrN C0 C1 (by rw [n66]; exact hCM) (fun q q0 q1 q2 => (hI.2.1 q q0 (by omega) q2).1) 10 0 N (by omega) (by omega) ⟨fun _ _ _ _ => rfl, fun _ _ => rfl, Or.inl ⟨rfl, fun q q0 q1 => by omega⟩, fun q q0 q1 => by omega, fun _ _ => ⟨rfl, rfl⟩⟩ (fun N' hJ => ?_)⟩
      obtain ⟨b1, b2, b3, b4, b5, b6, b7, b8⟩ := sec_r ho hs h hI hJ
      rw [als_s.1] at b6
      rw [als_s.2] at b7
      have r := rST_lu ho hrB C0 C1 hC (t := s + 1) (by omega) b1 b2 b3 b4 b5 b6 b7 b8
      refine ⟨r.1, ?_⟩
      intro M10 h10
      rw [e3.out]
      refine ih (s + 1) M10 (by omega) (by omega) ?_
      rw [h10]
      exact r.2
/-- the first cells -/
theorem in_lp {B : Mem} {K : Mem → Prop} {Q : Int → Mem → Prop} (ho : Hok H) (hr : Rh H B) (hK : ∀ M' : Mem, (∀ q, (q < 95 ∨ 99 < q) → M' q = B q) → (∀ q, 0 ≤ q → q < 9 → M' 96 q = -1 ∧ M' 97 q = 0 ∧ M' 98 q = -1 ∧ M' 99 q = 0) → (∀ q, 0 ≤ q → q < H 0 4 → M' 95 q = H 7 q) → K M') : ∀ (k n : Nat) (M : Mem), n ≤ 9 → 9 < n + k → (∀ q, (q < 95 ∨ 99 < q) → M q = B q) → (∀ q : Int, 0 ≤ q → q < n → M 96 q = -1 ∧ M 97 q = 0 ∧ M 98 q = -1 ∧ M 99 q = 0) → (∀ q : Int, 0 ≤ q → q < n → q < H 0 4 → M 95 q = H 7 q) → PX12_plays_21 K Q k n M := by
  have hbd := ho.2.1
  intro k
  induction k with
  | zero => intro n M a b; omega
  | succ k ih =>
    intro n M a b c1 c2 c3
    have e3 : Hid (wr32 ((n : Int) + 1) = ((n + 1 : Nat) : Int)) := hid (by rw [wad (by omega) (by omega)]; omega)
    refine ⟨fun z => hK M c1 (fun q x y => c2 q x (by omega)) (fun q x y => c3 q x (by omega) y), fun z => ⟨by omega, by omega, ?_⟩⟩
    intro M3 h3
    refine ⟨by omega, by omega, ?_⟩
    intro M5 h5
    refine ⟨by omega, by omega, ?_⟩
    intro M7 h7
    refine ⟨by omega, by omega, ?_⟩
    intro M9 h9
    rw [h7, h5, h3] at h9
    have e9 : ∀ q, (q < 95 ∨ 99 < q) → M9 q = B q := fun q x => by rw [h9, mset_p (by omega), mset_p (by omega), mset_p (by omega), mset_p (by omega)]; exact c1 q x
    have hr9 : Rh H M9 := Rh_93 (fun q x => e9 q (by omega)) (by rw [e9 66 (by omega)]) (by rw [e9 66 (by omega)]) hr
    have d9 : ∀ q, 0 ≤ q → q < ((n + 1 : Nat) : Int) → M9 96 q = -1 ∧ M9 97 q = 0 ∧ M9 98 q = -1 ∧ M9 99 q = 0 := by
      intro q x y
      rw [h9]
      by_cases e : q = (n : Int)
      · rw [e, mset_o (by decide), mset_o (by decide), mset_o (by decide), mset_e, mset_o (by decide), mset_o (by decide), mset_e, mset_o (by decide), mset_e, mset_e]
        exact ⟨rfl, rfl, rfl, rfl⟩
      · rw [mset_o (by decide), mset_o (by decide), mset_o (by decide), mset_k e, mset_o (by decide), mset_o (by decide), mset_k e, mset_o (by decide), mset_o (by decide), mset_k e, mset_o (by decide), mset_o (by decide), mset_k e, mset_o (by decide), mset_o (by decide), mset_o (by decide)]
        exact c2 q x (by omega)
    have f9 : ∀ q, M9 95 q = M 95 q := fun q => by rw [h9, mset_o (by decide), mset_o (by decide), mset_o (by decide), mset_o (by decide)]
    have fin : ∀ v : Int, ((n : Int) < H 0 4 → v = H 7 n) → ∀ M' : Mem, M' = mset M9 95 n v → PX12_plays_21 K Q k (wr32 ((n : Int) + 1)) M' := by
      intro v hv M' h'
      rw [e3.out]
      refine ih (n + 1) M' (by omega) (by omega) (fun q x => by rw [h', mset_p (by omega)]; exact e9 q x) (fun q x y => by rw [h', mset_o (by decide), mset_o (by decide), mset_o (by decide), mset_o (by decide)]; exact d9 q x y) (fun q x y w => ?_)
      by_cases e : q = (n : Int)
      · rw [e] at w ⊢
        rw [h', mset_e]
        exact hv w
      · rw [h', mset_k e, f9]
        exact c3 q x (by omega) w
    refine ⟨fun y => ⟨by omega, by omega, fin 0 (fun w => ?_)⟩, fun y => ⟨nPOf (by omega) (by omega) (by omega) (by omega), by omega, by omega, fin _ (fun w => ?_)⟩⟩
    · rw [pMany hr9] at y
      omega
    · rw [(pOf (p := (n : Int)) (by omega) (by omega) (by omega) (by omega)).1]
      have := (hr9.2.2.2.2.1 n (by omega) w).1
      rw [Int.add_zero]
      exact this
/-- what stands behind plays() -/
def rPl (H : Hal) (C : Int) (B M : Mem) : Prop :=
  (∀ q, (q < 66 ∨ (66 < q ∧ q < 93) ∨ 99 < q) → M q = B q) ∧ (∀ j, j ≠ 50 → j ≠ 51 → j ≠ 52 → M 66 j = B 66 j) ∧
  (∀ q, 0 ≤ q → q < 9 → M 96 q = oo H C q ∧ M 97 q = hw H C q ∧ M 98 q = gout H C q) ∧ M 66 51 = alrm H C ∧ M 66 52 = algd H C ∧
  (∀ t : Nat, t < 201 → ∀ q, 0 ≤ q → q < H 0 4 → bt C q = true → M 95 (9 * (t : Int) + q) = rps H C q t)
theorem rST_ok {B M : Mem} (ho : Hok H) (h : rST H C B 200 M) : rPl H C B M := by
  have al := al_s (C := C) ho
  obtain ⟨a1, a2, a3, a4, a5, a6, a7, a8⟩ := h
  refine ⟨a1, a2, fun q q0 q1 => ?_, ?_, ?_, fun t ht => a8 t (by omega)⟩
  · have o := a4 q q0 q1
    refine ⟨o.1, o.2.1, ?_⟩
    rw [o.2.2]
    unfold gts
    by_cases z : gout H C q = -1
    · rw [if_neg (fun w => w.1 z), z]
    · have ne : oo H C q ≠ -1 := by
        intro y
        apply z
        unfold gout
        rw [if_pos y]
      have g := gout_s ho ne
      rcases g with u | u
      · exact absurd u.1 z
      · rw [if_pos ⟨z, u.2.1⟩]
  · rw [a6]
    unfold als
    by_cases z : alrm H C = -1
    · rw [if_neg (fun w => w.1 z), z]
    · rcases al with u | u
      · exact absurd u.1 z
      · rw [if_pos ⟨z, u.2.2.1⟩]
  · rw [a7]
    unfold ags
    by_cases z : alrm H C = -1
    · rw [if_neg (fun w => w.1 z)]
      unfold algd
      rw [if_pos z]
    · rcases al with u | u
      · exact absurd u.1 z
      · rw [if_pos ⟨z, u.2.2.1⟩]
theorem pl_s {M : Mem} {Q : Int → Mem → Prop} (ho : Hok H) (hr : Rh H M) (C0 : 0 ≤ C) (C1 : C < 512) (hC : M 66 42 = C) (hQ : ∀ M' : Mem, rPl H C M M' → Q 0 M') : PX12_plays M Q := by
  have hbd := ho.2.1
  have al := al_s (C := C) ho
  refine spr ho hr (fun M2 e1 e2 => ?_)
  intro M5 h5 M7 h7 M9 h9
  rw [h7, h5] at h9
  have q9 : ∀ q, q ≠ 66 → q ≠ 93 → q ≠ 94 → M9 q = M q := fun q a b c => by rw [h9, mset_p a, mset_p a, mset_p a]; exact e1 q b c
  have j9 : ∀ j, j ≠ 50 → j ≠ 51 → j ≠ 52 → M9 66 j = M 66 j := fun j a b c => by rw [h9, mset_k a, mset_k c, mset_k b, e1 66 (by decide) (by decide)]
  have r9 : Rh H M9 := Rh_93 (fun q x => q9 q (by omega) (by omega) (by omega)) (j9 38 (by decide) (by decide) (by decide)) (j9 39 (by decide) (by decide) (by decide)) hr
  refine ⟨10, in_lp ho r9 (fun M11 c1 c2 c3 => ?_) 10 0 M9 (by omega) (by omega) (fun _ _ => rfl) (fun q x y => by omega) (fun q x y => by omega)⟩
  have z51 : ¬ (alrm H C ≠ -1 ∧ alrm H C < ((0 : Nat) : Int)) := by
    rcases al with u | u
    · exact fun w => w.1 u.1
    · have := u.1
      clear u
      omega
  have t0 : ((0 : Nat) : Int) < ff H C := by have := (ff_s ho C).1; omega
  have ga : ∀ q, gts H C q 0 = -1 := by
    intro q
    unfold gts
    rw [if_neg]
    intro w
    by_cases y : oo H C q = -1
    · exact w.1 (by unfold gout; rw [if_pos y])
    · have ob := oo_b (H := H) (C := C) (p := q)
      rcases gout_s ho y with u | u
      · exact w.1 u.1
      · have w1 := w.2
        have := u.1
        clear u w al
        omega
  have r := rST_lu (B := M) (N := M11) (t := 0) (C := C) ho hr C0 C1 hC (by omega)
    (fun q x => by rw [c1 q (by omega)]; exact q9 q (by omega) (by omega) (by omega))
    (fun j x y z => by rw [c1 66 (by omega)]; exact j9 j x y z)
    (fun c x y => by rw [c1 93 (by omega), h9, mset_o (by decide), mset_o (by decide), mset_o (by decide)]; exact e2 c x y)
    (fun q x y => by
      have c := c2 q x y
      rw [c.1, c.2.1, c.2.2.1, Os_pre ho t0, ga]
      refine ⟨rfl, ?_, rfl⟩
      unfold Hs
      by_cases a : alrm H C = -1
      · rw [if_pos a]; rfl
      · rw [if_neg a])
    (by
      rw [c1 66 (by omega), h9, mset_e]
      unfold flg
      rw [if_neg (fun w => by have := w.2; omega)])
    (by rw [c1 66 (by omega), h9, mset_k (by decide), mset_k (by decide), mset_e, if_neg z51])
    (by rw [c1 66 (by omega), h9, mset_k (by decide), mset_e, if_neg z51])
    (fun u x q y z w => by
      have : u = 0 := by omega
      subst this
      rw [rps_w (by omega) (Os_pre ho t0 q), show (9 * ((0 : Nat) : Int) + q) = q by omega]
      exact c3 q y z)
  refine ⟨r.1, ?_⟩
  intro M15 h15
  refine ⟨201, ?_⟩
  have h15' : M15 = fmX12_looksUp M11 ((0 : Nat) : Int) := h15
  rw [← h15'] at r
  have := se_lp (K := fun M17 => Q 0 M17) (Q := Q) ho hr C0 C1 hC (fun M' h' => hQ M' (rST_ok ho h')) 201 0 M15 (by omega) (by omega) r.2
  exact this
end
