/-! guard, person, come, lot, letter -/
theorem inv_guard : ∀ E, Two_guard E Inv := by
  intro E
  refine two_guard (fun v1 v2 M hI _ hr1 hr2 => ?_)
  obtain ⟨h, H, hG, hok, hc, hr, hT, hF, hK, hC, hS, hO, hA, hW⟩ := hI
  have hb := hok.2.1
  refine ⟨h, hG, ?_⟩
  intro _
  unfold PX12_guard nX12_guard
  have e0 : fX12_isIn v1 0 (wr32 (fX12_guardMany M - 1)) = if 0 ≤ v1 ∧ v1 < H 0 3 then 1 else 0 := by
    rw [gMany hr, isIn_eq, wr32_id (by unfold r32; omega)]
    by_cases z : 0 ≤ v1 ∧ v1 < H 0 3
    · rw [if_pos z, if_pos (by omega)]
    · rw [if_neg z, if_neg (by omega)]
  have e1 : 0 ≤ v1 ∧ v1 < H 0 3 → 0 ≤ v2 ∧ v2 ≤ 2 → wr32 (wr32 (12 + wr32 (3 * v1)) + v2) = 12 + 3 * v1 + v2 := by
    intro a b
    rw [wr32_id (x := 3 * v1) (by unfold r32; omega), wr32_id (x := 12 + 3 * v1) (by unfold r32; omega), wr32_id (by unfold r32; omega)]
  rw [e0, isIn_eq, ite01, ite01]
  refine ⟨fun a b => ?_, ?_⟩
  · rw [e1 (by omega) (by omega)]
    omega
  intro hG2
  refine ⟨?_, h, H, hG2, hok, hc, hr, hT, hF, hK, hC, hS, hO, hA, hW⟩
  unfold fX12_guard fX11_guard
  rw [e0, isIn_eq, hasGuard_eq hc]
  by_cases a : 0 ≤ v1 ∧ v1 < H 0 3
  · have c4 := hc.2.2.2.1 v1 a.1 a.2
    have r4 := hr.2.2.2.1 v1 a.1 a.2
    simp only [if_pos a]
    rw [rd_get a.1 (by omega), rd_get a.1 (by omega), rd_get a.1 (by omega), c4.1, c4.2.1, c4.2.2.1]
    by_cases b : 0 ≤ v2 ∧ v2 ≤ 2
    · simp only [if_pos b]
      rw [e1 a b]
      have : v2 = 0 ∨ v2 = 1 ∨ v2 = 2 := by omega
      rcases this with z | z | z
      · subst z
        simpa using r4.1
      · subst z
        simpa using r4.2.1
      · subst z
        simpa using r4.2.2.1
    · rw [if_neg b]
      simp [show ¬ v2 = 0 by omega, show ¬ v2 = 1 by omega, show ¬ v2 = 2 by omega]
  · simp [if_neg a]
theorem inv_person : ∀ E, Two_person E Inv := by
  intro E
  refine two_person (fun v1 v2 M hI _ hr1 hr2 => ?_)
  obtain ⟨h, H, hG, hok, hc, hr, hT, hF, hK, hC, hS, hO, hA, hW⟩ := hI
  have hb := hok.2.1
  refine ⟨h, hG, ?_⟩
  intro _
  unfold PX12_person nX12_person
  rw [isPerson_eq hok hr, isIn_eq, ite01, ite01]
  refine ⟨⟨fun a b _ => nPOf (by omega) (by omega) (by omega) (by omega), fun a b _ => nPOf (by omega) (by omega) (by omega) (by omega)⟩, ?_⟩
  intro hG2
  refine ⟨?_, h, H, hG2, hok, hc, hr, hT, hF, hK, hC, hS, hO, hA, hW⟩
  unfold fX12_person fX11_person
  rw [isPerson_eq hok hr, isIn_eq, has_eq hc]
  by_cases a : 0 ≤ v1 ∧ v1 < H 0 4
  · have c5 := hc.2.2.2.2.1 v1 a.1 a.2
    have r5 := hr.2.2.2.2.1 v1 a.1 a.2
    have o5 := hok.2.2.2.2.2.2.1 v1 a.1 a.2
    simp only [if_pos a]
    rw [rd_get a.1 (by omega), rd_get a.1 (by omega), rd_get a.1 (by omega), rd_get a.1 (by omega), rd_get a.1 (by omega), c5.1, c5.2.1, c5.2.2.1, c5.2.2.2.1, c5.2.2.2.2.1, hasBit_eq hc.2.2.2.2.2.2.1 (by have := hc.2.2.2.2.2.2.2; omega) a.1 (by omega), (pOf a.1 (by omega) (by omega) (by omega : (1 : Int) < 18)).1, r5.2.1, ← c5.2.2.2.2.2.2]
    by_cases b : 0 ≤ v2 ∧ v2 ≤ 5
    · simp only [if_pos b]
      rw [(pOf a.1 (by omega) b.1 (by omega)).1]
      have : v2 = 0 ∨ v2 = 1 ∨ v2 = 2 ∨ v2 = 3 ∨ v2 = 4 ∨ v2 = 5 := by omega
      rcases this with z | z | z | z | z | z
      · subst z
        simpa using r5.1
      · subst z
        simp only [if_true, (by decide : ¬ (1 : Int) = 0), if_false]
        have : wr32 (60 + (H 8 v1 - 60)) = 60 + (H 8 v1 - 60) := wr32_id (by unfold r32; omega)
        rw [this]
        omega
      · subst z
        simpa using r5.2.2.1
      · subst z
        simpa using r5.2.2.2.1
      · subst z
        simp
        rw [r5.2.2.2.2.1]
        rcases o5.2.2.2.2.2.2.2.1 with z | z <;> simp [z]
      · subst z
        simpa using r5.2.2.2.2.2.1
    · rw [if_neg b]
      simp [show ¬ v2 = 0 by omega, show ¬ v2 = 1 by omega, show ¬ v2 = 2 by omega, show ¬ v2 = 3 by omega, show ¬ v2 = 4 by omega, show ¬ v2 = 5 by omega]
  · simp [if_neg a]
theorem all_eq {g : Int} {H : Hal} {M : Mem} (ho : Hok H) (hc : Ch g H M) : fX4_all M g = ((2 ^ (H 0 4).toNat - 1 : Nat) : Int) := by
  have hb := ho.2.1
  unfold fX4_all
  rw [hc.1.2.2.2.2.1, shl_one (by omega) (by omega)]
  have h1 : 2 ^ (H 0 4).toNat ≤ 2 ^ 9 := Nat.pow_le_pow_right (by omega) (by omega)
  have h2 : 0 < 2 ^ (H 0 4).toNat := Nat.pos_of_ne_zero (by simp)
  rw [wr32_id (by unfold r32; omega)]
  omega
theorem inv_come : ∀ E, Two_come E Inv := by
  intro E
  refine two_come (fun v1 M hI _ hr0 => ?_)
  obtain ⟨h, H, hG, hok, hc, hr, hT, hF, hK, hC, hS, hO, hA, hW⟩ := hI
  have hh := hG.2.2.2
  have hb := hok.2.1
  have h1 : 2 ^ (H 0 4).toNat ≤ 2 ^ 9 := Nat.pow_le_pow_right (by omega) (by omega)
  have h2 : 0 < 2 ^ (H 0 4).toNat := Nat.pos_of_ne_zero (by simp)
  have hal := andn_all v1 hr0 (H 0 4).toNat (by omega)
  rw [← all_eq hok hc] at hal
  refine ⟨h, hG, ?_⟩
  unfold PX11_come fX11_come fmX11_come
  intro _
  unfold PX12_come fX12_come fmX12_come
  have e0 : ∀ N : Mem, Rh H N → fX12_isIn v1 0 (wr32 (m_shl 1 (fX12_peopleMany N) - 1)) = if 0 ≤ v1 ∧ v1 < (2 ^ (H 0 4).toNat : Nat) then 1 else 0 := by
    intro N hN
    rw [pMany hN, shl_one (by omega) (by omega), wr32_id (by unfold r32; omega), isIn_eq]
    by_cases z : 0 ≤ v1 ∧ v1 < (2 ^ (H 0 4).toNat : Nat)
    · rw [if_pos z, if_pos (by omega)]
    · rw [if_neg z, if_neg (by omega)]
  by_cases c : 0 ≤ v1 ∧ v1 < (2 ^ (H 0 4).toNat : Nat)
  · have c2 := hal.mpr c
    simp only [if_pos c2]
    unfold fmX11_changed
    obtain ⟨M1, eM1⟩ : ∃ m : Mem, m = (mset (mset (mset M 0 12 v1) 0 16 (if (mset M 0 12 v1) 0 16 = 0 then if (0 : Int) = 0 then 0 else 1 else 1)) 0 17 1) := ⟨_, rfl⟩
    rw [← eM1]
    have hE1 : ∀ q, q ∉ ([0] : List Int) → M1 q = M q := by
      intro q hq
      simp only [List.mem_cons, List.mem_nil_iff, or_false] at hq
      rw [eM1]
      simp [mset_p, hq]
    have hr1 : Rh H M1 := Rh_fr (hEq h M M1 hh _ hE1 (by simp) (by rw [hE1 66 (by simp)]) (by rw [hE1 66 (by simp)])) hr
    rw [e0 M1 hr1, if_pos c]
    simp only [(by decide : ¬ (1 : Int) = 0), if_false]
    intro hG2
    refine ⟨trivial, h, H, hG2, ?_⟩
    obtain ⟨M2, eM2⟩ : ∃ m : Mem, m = mset M1 66 42 v1 := ⟨_, rfl⟩
    rw [← eM2]
    have hE : ∀ q, q ∉ ([0, 66] : List Int) → M2 q = M q := by
      intro q hq
      simp only [List.mem_cons, List.mem_nil_iff, or_false, not_or] at hq
      rw [eM2, eM1]
      simp [mset_p, hq.1, hq.2]
    have eH := hEq h M M2 hh _ hE (by simp) (by simp [eM2, eM1, ms]) (by simp [eM2, eM1, ms])
    refine ⟨hok, Ch_fr eH hc, Rh_fr eH hr, iT_fr ⟨by simp [eM2, eM1, ms], hE 2 (by simp), by simp [eM2, eM1, ms], hE 67 (by simp)⟩ hT, iF_fr ⟨by simp [eM2, eM1, ms], by simp [eM2, eM1, ms], by simp [eM2, eM1, ms], by simp [eM2, eM1, ms]⟩ hF, iK_fr (eqK_of _ hE (by simp)) hK, ?_, iS_fr ⟨by simp [eM2, eM1, ms], by simp [eM2, eM1, ms]⟩ hS, iO_fr ⟨by simp [eM2, eM1, ms], by simp [eM2, eM1, ms], hE 31 (by simp), hE 125 (by simp)⟩ hO, iA_fr ⟨by simp [eM2, eM1, ms], hE 28 (by simp), hE 29 (by simp), hE 30 (by simp), by simp [eM2, eM1, ms], by simp [eM2, eM1, ms], hE 100 (by simp)⟩ hA, ?_⟩
    · refine ⟨by simp [eM2, eM1, ms], by simp [eM2, eM1, ms]; omega, ?_⟩
      have : (2 : Int) ^ (H 0 4).toNat = ((2 ^ (H 0 4).toNat : Nat) : Int) := by norm_cast
      rw [this]
      simp [eM2, eM1, ms]
      simpa using c.2
    · obtain ⟨w1, w2, w3, w4, w5⟩ := hW
      have x16 : M2 0 16 = M 0 16 := by
        simp [eM2, eM1, ms]
        rcases w1 with z | z <;> simp [z]
      refine ⟨by rw [x16]; exact w1, Or.inr (by simp [eM2, eM1, ms]), ?_, ?_, fun z => ?_⟩
      · unfold nOK fX1_isNear at w3 ⊢
        rw [eH.1 (h + 16) (by omega) (by omega)]
        exact w3
      · rw [x16]
        intro z
        have := w4 z
        unfold wOK at this ⊢
        rw [hE 10 (by simp), hE 11 (by simp)]
        exact this
      · have : M2 0 17 = 1 := by simp [eM2, eM1, ms]
        rw [this] at z
        cases z
  · have c2 : ¬ (m_and v1 (m_xor (fX4_all M h) (-1)) = 0) := fun z => c (hal.mp z)
    simp only [if_neg c2]
    rw [e0 M hr, if_neg c]
    simp only [if_true]
    intro hG2
    exact ⟨trivial, h, H, hG2, hok, hc, hr, hT, hF, hK, hC, hS, hO, hA, hW⟩
