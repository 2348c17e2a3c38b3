/-! the calls that need no morning -/
theorem eqK_of {M M' : Mem} (S : List Int) (hS : ∀ q, q ∉ S → M' q = M q) (hd : ∀ q ∈ S, ¬ ((68 ≤ q ∧ q ≤ 84) ∨ (102 ≤ q ∧ q ≤ 121))) : eqK M M' := fun q h => hS q (fun z => hd q z h)
theorem inv_seed : ∀ E, Two_seed E Inv := by
  intro E
  refine two_seed (fun v1 M hI _ hr => ?_)
  obtain ⟨h, H, hG, hok, hc, hr', hT, hF, hK, hC, hS, hO, hA, hW⟩ := hI
  have hh := hG.2.2.2
  refine ⟨h, hG, ?_⟩
  unfold PX11_seed PX12_seed fX11_seed fmX11_seed fX12_seed fmX12_seed
  intro _ hG2
  refine ⟨rfl, h, H, hG2, ?_⟩
  by_cases c : 0 ≤ v1
  · simp only [if_pos c]
    have hE : ∀ q, q ∉ ([0, 66] : List Int) → mset (mset M 0 13 v1) 66 56 v1 q = M q := by
      intro q hq
      simp only [List.mem_cons, List.mem_nil_iff, or_false, not_or] at hq
      simp [mset_p, hq.1, hq.2]
    have eH := hEq h M _ hh _ hE (by simp) (by simp [ms]) (by simp [ms])
    have eC : eqC M (mset (mset M 0 13 v1) 66 56 v1) := by unfold eqC; simp [ms]
    refine ⟨hok, Ch_fr eH hc, Rh_fr eH hr', iT_fr ⟨by simp [ms], hE 2 (by simp), by simp [ms], hE 67 (by simp)⟩ hT, iF_fr ⟨by simp [ms], by simp [ms], by simp [ms], by simp [ms]⟩ hF, iK_fr (eqK_of _ hE (by simp)) hK, iC_fr eC hC, ?_, iO_fr ⟨by simp [ms], by simp [ms], hE 31 (by simp), hE 125 (by simp)⟩ hO, iA_fr ⟨by simp [ms], hE 28 (by simp), hE 29 (by simp), hE 30 (by simp), by simp [ms], by simp [ms], hE 100 (by simp)⟩ hA, iW_fr eH eC ⟨by simp [ms], by simp [ms], hE 10 (by simp), hE 11 (by simp), fun q a b => hE q (by simp; omega)⟩ hW⟩
    unfold r32 at hr
    refine ⟨by simp [ms], ?_, ?_⟩ <;> simp [ms] <;> omega
  · simp only [if_neg c]
    exact ⟨hok, hc, hr', hT, hF, hK, hC, hS, hO, hA, hW⟩
theorem inv_end : ∀ E, Two_end E Inv := by
  intro E
  refine two_end (fun v1 M hI _ hr => ?_)
  obtain ⟨h, H, hG, hok, hc, hr', hT, hF, hK, hC, hS, hO, hA, hW⟩ := hI
  have hh := hG.2.2.2
  refine ⟨h, hG, ?_⟩
  unfold PX11_end PX12_end fX11_end fmX11_end fX12_end fmX12_end fX8_cutTo fmX8_cutTo
  intro _ hG2
  by_cases c : v1 < 0
  · simp only [if_pos c] at hG2 ⊢
    exact ⟨trivial, h, H, hG2, hok, hc, hr', hT, hF, hK, hC, hS, hO, hA, hW⟩
  · simp only [if_neg c] at hG2 ⊢
    have e0 := hT.2.2.1
    by_cases c2 : v1 ≤ M 1 1
    · simp only [if_pos c2] at hG2 ⊢
      have e1 : mset M 1 1 v1 66 1 = M 66 1 := by simp [ms]
      rw [e1, e0] at hG2 ⊢
      simp only [if_pos c2] at hG2 ⊢
      refine ⟨trivial, h, H, hG2, ?_⟩
      have hE : ∀ q, q ∉ ([1, 66] : List Int) → mset (mset M 1 1 v1) 66 1 v1 q = M q := by
        intro q hq
        simp only [List.mem_cons, List.mem_nil_iff, or_false, not_or] at hq
        simp [mset_p, hq.1, hq.2]
      have eH := hEq h M _ hh _ hE (by simp) (by simp [ms]) (by simp [ms])
      have eC : eqC M (mset (mset M 1 1 v1) 66 1 v1) := by unfold eqC; simp [ms]
      refine ⟨hok, Ch_fr eH hc, Rh_fr eH hr', ?_, iF_fr ⟨by simp [ms], by simp [ms], by simp [ms], by simp [ms]⟩ hF, iK_fr (eqK_of _ hE (by simp)) hK, iC_fr eC hC, iS_fr ⟨by simp [ms], by simp [ms]⟩ hS, iO_fr ⟨by simp [ms], by simp [ms], hE 31 (by simp), hE 125 (by simp)⟩ hO, iA_fr ⟨by simp [ms], hE 28 (by simp), hE 29 (by simp), hE 30 (by simp), by simp [ms], by simp [ms], hE 100 (by simp)⟩ hA, iW_fr eH eC ⟨by simp [ms], by simp [ms], hE 10 (by simp), hE 11 (by simp), fun q a b => hE q (by simp; omega)⟩ hW⟩
      obtain ⟨t1, t2, t3, t4⟩ := hT
      refine ⟨?_, ?_, ?_, ?_⟩
      · simp [ms]; omega
      · simp [ms]; omega
      · simp [ms]
      · rw [hE 2 (by simp), hE 67 (by simp)]
        simp [ms]
        intro k k0 k1
        exact t4 k k0 (by omega)
    · simp only [if_neg c2] at hG2 ⊢
      rw [e0] at hG2 ⊢
      simp only [if_neg c2] at hG2 ⊢
      exact ⟨trivial, h, H, hG2, hok, hc, hr', hT, hF, hK, hC, hS, hO, hA, hW⟩
theorem inv_fault : ∀ E, Two_fault E Inv := by
  intro E
  refine two_fault (fun v1 M hI _ hr => ?_)
  obtain ⟨h, H, hG, hok, hc, hr', hT, hF, hK, hC, hS, hO, hA, hW⟩ := hI
  refine ⟨h, hG, ?_⟩
  unfold PX11_fault PX12_fault fX11_fault fX12_fault
  intro _ hG2
  refine ⟨?_, h, H, hG2, hok, hc, hr', hT, hF, hK, hC, hS, hO, hA, hW⟩
  rw [hF.1, hF.2]
theorem inv_octet : ∀ E, Two_octet E Inv := by
  intro E
  refine two_octet (fun v1 M hI _ hr => ?_)
  obtain ⟨h, H, hG, hok, hc, hr', hT, hF, hK, hC, hS, hO, hA, hW⟩ := hI
  refine ⟨h, hG, ?_⟩
  obtain ⟨o1, o2, o3, o4⟩ := hO
  unfold PX11_octet PX12_octet fX11_octet fX12_octet
  intro _
  refine ⟨?_, ?_⟩
  · unfold nX12_octet
    intro a b
    rw [o1] at b
    omega
  intro hG2
  refine ⟨?_, h, H, hG2, hok, hc, hr', hT, hF, hK, hC, hS, ⟨o1, o2, o3, o4⟩, hA, hW⟩
  rw [o1]
  by_cases a : v1 < 0
  · simp [a]
  · by_cases b : M 0 9 ≤ v1
    · simp [b]
    · simp only [if_neg a, if_neg b]
      unfold fX11_get
      rw [if_neg a, if_neg (by omega)]
      exact (o4 v1 (by omega) (by omega)).symm
theorem walls_lp {g : Int} {H : Hal} {M N : Mem} (ho : Hok H) (hc : Ch g H M) (hr : Rh H N) : ∀ (k : Nat) (a v : Int), 0 ≤ v → v + k ≤ 54 → 0 ≤ a → a ≤ v → lX1_wallCells_4 g k a v M = lX12_wallMany_4 k a v N ∧ nlX12_wallMany_4 k a v N := by
  intro k
  induction k with
  | zero => exact fun a v _ _ _ _ => ⟨rfl, trivial⟩
  | succ k ih =>
    intro a v h0 h1 a0 a1
    have hw := wallNow hr (c := v) h0 (by omega)
    have e1 : fX11_get M (g + 9) 54 v = H 1 v := (rd_get h0 (by omega)).trans (hc.2.1 v h0 (by omega))
    show lX1_wallCells_4 g k (wr32 (a + fX11_get M (g + 9) 54 v)) (v + 1) M = lX12_wallMany_4 k (if fX12_isWallNow N v = 0 then a else wr32 (a + 1)) (v + 1) N ∧ (nX12_isWallNow v ∧ nlX12_wallMany_4 k (if fX12_isWallNow N v = 0 then a else wr32 (a + 1)) (v + 1) N)
    rw [e1, hw.1]
    have e2 : wr32 (a + H 1 v) = a + H 1 v ∧ (if H 1 v = 0 then a else wr32 (a + 1)) = a + H 1 v ∧ a + H 1 v ≤ v + 1 ∧ 0 ≤ a + H 1 v := by
      have := wr32_id (x := a + 1) (by unfold r32; omega)
      rcases ho.2.2.1 v h0 (by omega) with z | z
      · rw [z]
        refine ⟨wr32_id (by unfold r32; omega), by simp, by omega, by omega⟩
      · rw [z]
        refine ⟨this, by simp [this], by omega, by omega⟩
    rw [e2.1, e2.2.1]
    have := ih (a + H 1 v) (v + 1) (by omega) (by omega) (by omega) (by omega)
    exact ⟨this.1, hw.2, this.2⟩
theorem closed_lp {g : Int} {H : Hal} {M N : Mem} (ho : Hok H) (hc : Ch g H M) (hr : Rh H N) : ∀ (k : Nat) (a v : Int), 0 ≤ v → v + k ≤ H 0 2 → 0 ≤ a → a ≤ v → lX1_closedDoors_4 g k a v M = lX12_closedMany_4 k a v N ∧ nlX12_closedMany_4 k a v N := by
  intro k
  induction k with
  | zero => exact fun a v _ _ _ _ => ⟨rfl, trivial⟩
  | succ k ih =>
    intro a v h0 h1 a0 a1
    have hb := ho.2.1
    have hd := hr.2.2.1 v h0 (by omega)
    have e1 : fX11_get M (g + 11) 6 v = H 3 v := (rd_get h0 (by omega)).trans (hc.2.2.1 v h0 (by omega)).2
    show lX1_closedDoors_4 g k (wr32 (a + fX11_get M (g + 11) 6 v)) (v + 1) M = lX12_closedMany_4 k (wr32 (a + N 92 v)) (v + 1) N ∧ ((0 ≤ v ∧ v < 6) ∧ nlX12_closedMany_4 k (wr32 (a + N 92 v)) (v + 1) N)
    rw [e1, hd.2]
    have e2 : wr32 (a + H 3 v) = a + H 3 v ∧ a + H 3 v ≤ v + 1 ∧ 0 ≤ a + H 3 v := by
      rcases (ho.2.2.2.1 v h0 (by omega)).2 with z | z
      · rw [z]
        exact ⟨wr32_id (by unfold r32; omega), by omega, by omega⟩
      · rw [z]
        exact ⟨wr32_id (by unfold r32; omega), by omega, by omega⟩
    rw [e2.1]
    have := ih (a + H 3 v) (v + 1) (by omega) (by omega) (by omega) (by omega)
    exact ⟨this.1, ⟨h0, by omega⟩, this.2⟩
theorem inv_hall : ∀ E, Two_hall E Inv := by
  intro E
  refine two_hall (fun v1 M hI _ hr0 => ?_)
  obtain ⟨h, H, hG, hok, hc, hr, hT, hF, hK, hC, hS, hO, hA, hW⟩ := hI
  have hb := hcells hok
  have hb2 := hok.2.1
  have w1 := walls_lp hok hc hr (H 0 0 * H 0 1).toNat 0 0 (by omega) (by omega) (by omega) (by omega)
  have w2 := closed_lp hok hc hr (H 0 2).toNat 0 0 (by omega) (by omega) (by omega) (by omega)
  refine ⟨h, hG, ?_⟩
  intro _
  unfold PX12_hall nX12_hall nX12_wallMany nX12_closedMany
  rw [rcells hok hr, dMany hr]
  refine ⟨⟨fun _ _ _ => by simpa using w1.2, fun _ _ _ _ _ => by simpa using w2.2, ?_, ?_, ?_, ?_⟩, ?_⟩
  · intro _ _ _ _ _ _ _ z; subst z; decide
  · intro _ _ _ _ _ _ _ _ z; subst z; decide
  · intro _ _ _ _ _ _ _ _ _ z; subst z; decide
  · intro _ _ _ _ _ _ _ _ _ _ z; subst z; decide
  intro hG2
  refine ⟨?_, h, H, hG2, hok, hc, hr, hT, hF, hK, hC, hS, hO, hA, hW⟩
  unfold fX12_hall fX11_hall fX12_wallMany fX12_closedMany fX1_wallCells fX1_closedDoors
  rw [rcells hok hr, dMany hr, ccells hok hc, pMany hr, gMany hr, hr.1.1, hr.1.2.1, hc.1.1, hc.1.2.1, hc.1.2.2.1, hc.1.2.2.2.1, hc.1.2.2.2.2.1, hc.1.2.2.2.2.2.1, hc.1.2.2.2.2.2.2.1, hc.1.2.2.2.2.2.2.2.1, hc.1.2.2.2.2.2.2.2.2, hC.1, hA.1]
  simp only [Int.sub_zero]
  rw [w1.1, w2.1]
  by_cases c7 : v1 = 7
  · subst c7
    exact hr.1.2.2.2.2.2.1
  by_cases c8 : v1 = 8
  · subst c8
    exact hr.1.2.2.2.2.2.2.1
  by_cases c9 : v1 = 9
  · subst c9
    exact hr.1.2.2.2.2.2.2.2.1
  by_cases c10 : v1 = 10
  · subst c10
    exact hr.1.2.2.2.2.2.2.2.2
  simp only [if_neg c7, if_neg c8, if_neg c9, if_neg c10]
