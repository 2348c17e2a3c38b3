/-! what stays -/
def eqH (h : Int) (M M' : Mem) : Prop := (∀ q, h ≤ q → q ≤ h + 16 → M' q = M q) ∧ M' 66 38 = M 66 38 ∧ M' 66 39 = M 66 39 ∧ (∀ q, 85 ≤ q → q ≤ 92 → M' q = M q)
def eqK (M M' : Mem) : Prop := ∀ q, (68 ≤ q ∧ q ≤ 84) ∨ (102 ≤ q ∧ q ≤ 121) → M' q = M q
def eqT (M M' : Mem) : Prop := M' 1 1 = M 1 1 ∧ M' 2 = M 2 ∧ M' 66 1 = M 66 1 ∧ M' 67 = M 67
def eqF (M M' : Mem) : Prop := M' 66 7 = M 66 7 ∧ M' 66 8 = M 66 8 ∧ M' 0 14 = M 0 14 ∧ M' 0 15 = M 0 15
def eqC (M M' : Mem) : Prop := M' 66 42 = M 66 42 ∧ M' 0 12 = M 0 12
def eqS (M M' : Mem) : Prop := M' 66 56 = M 66 56 ∧ M' 0 13 = M 0 13
def eqO (M M' : Mem) : Prop := M' 66 89 = M 66 89 ∧ M' 0 9 = M 0 9 ∧ M' 31 = M 31 ∧ M' 125 = M 125
def eqA (M M' : Mem) : Prop := M' 27 3 = M 27 3 ∧ M' 28 = M 28 ∧ M' 29 = M 29 ∧ M' 30 = M 30 ∧ M' 66 54 = M 66 54 ∧ M' 66 55 = M 66 55 ∧ M' 100 = M 100
def eqW (M M' : Mem) : Prop := M' 0 16 = M 0 16 ∧ M' 0 17 = M 0 17 ∧ M' 10 = M 10 ∧ M' 11 = M 11 ∧ (∀ q, 16 ≤ q → q ≤ 22 → M' q = M q)
theorem Ch_fr {g : Int} {H : Hal} {M M' : Mem} (e : eqH g M M') (h : Ch g H M) : Ch g H M' := by
  have e0 := e.1 g (by omega) (by omega)
  have e1 := e.1 (g + 1) (by omega) (by omega)
  have e2 := e.1 (g + 2) (by omega) (by omega)
  have e3 := e.1 (g + 3) (by omega) (by omega)
  have e4 := e.1 (g + 4) (by omega) (by omega)
  have e5 := e.1 (g + 5) (by omega) (by omega)
  have e6 := e.1 (g + 6) (by omega) (by omega)
  have e7 := e.1 (g + 7) (by omega) (by omega)
  have e8 := e.1 (g + 8) (by omega) (by omega)
  have e9 := e.1 (g + 9) (by omega) (by omega)
  have e10 := e.1 (g + 10) (by omega) (by omega)
  have e11 := e.1 (g + 11) (by omega) (by omega)
  have e12 := e.1 (g + 12) (by omega) (by omega)
  have e13 := e.1 (g + 13) (by omega) (by omega)
  have e14 := e.1 (g + 14) (by omega) (by omega)
  have e15 := e.1 (g + 15) (by omega) (by omega)
  unfold Ch at h ⊢
  rw [e0, e1, e2, e3, e4, e5, e6, e7, e8, e9, e10, e11, e12, e13, e14, e15]
  exact h
theorem Rh_fr {g : Int} {H : Hal} {M M' : Mem} (e : eqH g M M') (h : Rh H M) : Rh H M' := by
  have e5 := e.2.2.2 85 (by omega) (by omega)
  have e6 := e.2.2.2 86 (by omega) (by omega)
  have e7 := e.2.2.2 87 (by omega) (by omega)
  have e8 := e.2.2.2 88 (by omega) (by omega)
  have e9 := e.2.2.2 89 (by omega) (by omega)
  have e10 := e.2.2.2 90 (by omega) (by omega)
  have e11 := e.2.2.2 91 (by omega) (by omega)
  have e12 := e.2.2.2 92 (by omega) (by omega)
  unfold Rh at h ⊢
  rw [e.2.1, e.2.2.1, e5, e6, e7, e8, e9, e10, e11, e12]
  exact h
theorem iT_fr {M M' : Mem} (e : eqT M M') (h : iT M) : iT M' := by
  unfold iT at h ⊢
  rw [e.1, e.2.1, e.2.2.1, e.2.2.2]
  exact h
theorem iF_fr {M M' : Mem} (e : eqF M M') (h : iF M) : iF M' := by
  unfold iF at h ⊢
  rw [e.1, e.2.1, e.2.2.1, e.2.2.2]
  exact h
theorem wrds_at : ∀ e ∈ wrds, (68 ≤ e.1 ∧ e.1 ≤ 84) ∨ (102 ≤ e.1 ∧ e.1 ≤ 121) := by
  have key : wrds.all (fun e => decide ((68 ≤ e.1 ∧ e.1 ≤ 84) ∨ (102 ≤ e.1 ∧ e.1 ≤ 121))) = true := by decide +kernel
  exact fun e he => of_decide_eq_true (List.all_eq_true.mp key e he)
theorem iK_fr {M M' : Mem} (e : eqK M M') (h : iK M) : iK M' := by
  intro z hz j hj
  have := wrds_at z hz
  rw [e _ (by omega)]
  exact h z hz j hj
theorem iC_fr {H : Hal} {M M' : Mem} (e : eqC M M') (h : iC H M) : iC H M' := by
  unfold iC at h ⊢
  rw [e.1, e.2]
  exact h
theorem iS_fr {M M' : Mem} (e : eqS M M') (h : iS M) : iS M' := by
  unfold iS at h ⊢
  rw [e.1, e.2]
  exact h
theorem iO_fr {M M' : Mem} (e : eqO M M') (h : iO M) : iO M' := by
  unfold iO at h ⊢
  rw [e.1, e.2.1, e.2.2.1, e.2.2.2]
  exact h
theorem iA_fr {H : Hal} {M M' : Mem} (e : eqA M M') (h : iA H M) : iA H M' := by
  obtain ⟨e1, e2, e3, e4, e5, e6, e7⟩ := e
  unfold iA snp snd1 at h ⊢
  rw [e1, e2, e3, e4, e5, e6, e7]
  exact h
theorem iW_fr {g : Int} {H : Hal} {M M' : Mem} (eH : eqH g M M') (eC : eqC M M') (e : eqW M M') (h : iW g H M) : iW g H M' := by
  obtain ⟨e1, e2, e3, e4, e5⟩ := e
  have e16 := eH.1 (g + 16) (by omega) (by omega)
  have f16 := e5 16 (by omega) (by omega)
  have f17 := e5 17 (by omega) (by omega)
  have f18 := e5 18 (by omega) (by omega)
  have f19 := e5 19 (by omega) (by omega)
  have f20 := e5 20 (by omega) (by omega)
  have f21 := e5 21 (by omega) (by omega)
  have f22 := e5 22 (by omega) (by omega)
  unfold iW nOK wOK mOK fX1_isNear at h ⊢
  rw [e1, e2, e3, e4, e16, f16, f17, f18, f19, f20, f21, f22, eC.2]
  exact h
theorem hEq (h : Int) (M M' : Mem) (hg : isG h) (S : List Int) (hS : ∀ q, q ∉ S → M' q = M q) (hd : ∀ q ∈ S, q < 32 ∨ (65 < q ∧ q < 85) ∨ 92 < q) (e1 : M' 66 38 = M 66 38) (e2 : M' 66 39 = M 66 39) : eqH h M M' := by
  refine ⟨fun q h1 h2 => hS q (fun z => ?_), e1, e2, fun q h1 h2 => hS q (fun z => ?_)⟩
  · have := hd q z
    rcases hg with rfl | rfl <;> omega
  · have := hd q z
    omega
