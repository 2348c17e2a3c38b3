/-! the text of a hall: the reference's names, steps, watches -/
section
variable {b : Int → Int} {n p e w : Int} {H : Hal} {M M' : Mem} {Q : Int → Mem → Prop}
theorem fdx_none : ∀ (is : List Nat) (k : Int), 0 ≤ k → (fdx b n p e is k = -1 ↔ ∀ i ∈ is, iswd b n p e (wd i) = false)
  | [], _, _ => ⟨fun _ i hi => absurd hi (List.not_mem_nil), fun _ => rfl⟩
  | i :: is, k, hk => by
    have e2 : fdx b n p e (i :: is) k = if iswd b n p e (wd i) = true then k else fdx b n p e is (k + 1) := rfl
    have ih := fdx_none is (k + 1) (by omega)
    rw [e2]
    by_cases z : iswd b n p e (wd i) = true
    · rw [if_pos z]
      refine ⟨fun y => by omega, fun y => ?_⟩
      have := y i List.mem_cons_self
      rw [z] at this
      exact absurd this (by decide)
    · rw [if_neg z, ih]
      constructor
      · intro y j hj
        rcases List.mem_cons.mp hj with u | u
        · rw [u]; exact Bool.eq_false_iff.mpr z
        · exact y j u
      · intro y j hj
        exact y j (List.mem_cons_of_mem _ hj)
def rH (b : Int → Int) (n p e : Int) (M N : Mem) : Prop := rfr M N ∧ rK b n p e N ∧ N 66 2 = p
theorem hr2 {N : Mem} {X Y : Mem → Prop} (hK : iK M) (i : Nat) (hi : (68 ≤ i ∧ i ≤ 84) ∨ (102 ≤ i ∧ i ≤ 121)) (hN : rH b n p e M N ∨ (N = M ∧ rK b n p e M)) (h0 : iswd b n p e (wd i) = false → ∀ N' : Mem, rH b n p e M N' → X N') (h1 : iswd b n p e (wd i) = true → ∀ N' : Mem, rH b n p e M N' → Y N') : PX12_isHere (i : Nat) (wd i).length N (fun a N' => (a = 0 → X N') ∧ (¬ (a = 0) → Y N')) := by
  have hr : rfr M N ∧ rK b n p e N := by
    rcases hN with u | u
    · exact ⟨u.1, u.2.1⟩
    · rw [u.1]; exact ⟨rfr_r M, u.2⟩
  refine here_r hr.2 (fun j hj => by rw [hr.1.1 _ (by omega)]; exact rows hK i hi j hj) (by omega) (fun N' r k a => ⟨fun z => ?_, fun z => ?_⟩)
  · refine h0 (Bool.eq_false_iff.mpr (fun y => ?_)) N' ⟨rfr_t hr.1 r, k, a⟩
    rw [if_pos y] at z
    exact absurd z (by decide)
  · refine h1 (Classical.byContradiction (fun y => z ?_)) N' ⟨rfr_t hr.1 r, k, a⟩
    rw [if_neg y]
theorem own_r (hK : iK M) (hT : rK b n p e M) (hQ : ∀ M' : Mem, rfr M M' → rK b n p e M' → M' 66 2 = p → Q (if fdx b n p e (fl 0) 0 = -1 then 0 else 1) M') : PX12_isOwnHere M Q := by
  have fn := fdx_none (b := b) (n := n) (p := p) (e := e) (fl 0) 0 (by decide)
  have got : ∀ i ∈ fl 0, iswd b n p e (wd i) = true → fdx b n p e (fl 0) 0 ≠ -1 := fun i hi z y => by rw [fn.mp y i hi] at z; exact absurd z (by decide)
  have yes2 : fdx b n p e (fl 0) 0 ≠ -1 → ∀ N : Mem, rH b n p e M N → Q 1 N := by
    intro z N hN
    have hq := hQ N hN.1 hN.2.1 hN.2.2
    rw [if_neg z] at hq
    exact hq
  have h68 := rows hK 68 (by decide)
  refine here_r hT h68 (by decide) (fun M2 r k a => ⟨fun u N => rH b n p e M N ∧ ((u = 0 ∧ iswd b n p e (wd 68) = false ∧ iswd b n p e (wd 69) = false ∧ iswd b n p e (wd 70) = false ∧ iswd b n p e (wd 71) = false ∧ iswd b n p e (wd 72) = false ∧ iswd b n p e (wd 73) = false) ∨ (u = 1 ∧ fdx b n p e (fl 0) 0 ≠ -1)), fun u5 M6 j5 => ⟨fun u N => rH b n p e M N ∧ ((u = 0 ∧ (iswd b n p e (wd 68) = false ∧ iswd b n p e (wd 69) = false ∧ iswd b n p e (wd 70) = false ∧ iswd b n p e (wd 71) = false ∧ iswd b n p e (wd 72) = false ∧ iswd b n p e (wd 73) = false) ∧ iswd b n p e (wd 74) = false ∧ iswd b n p e (wd 75) = false ∧ iswd b n p e (wd 76) = false ∧ iswd b n p e (wd 77) = false ∧ iswd b n p e (wd 78) = false ∧ iswd b n p e (wd 79) = false) ∨ (u = 1 ∧ fdx b n p e (fl 0) 0 ≠ -1)), fun u9 M10 j9 => ⟨fun z9 => ?_, fun z9 => ?_⟩, fun z5 => ?_, fun z5 => ?_⟩, fun z => ?_, fun z => ?_⟩)
  · rcases j9.2 with u | u
    · refine hr2 hK 80 (by decide) (Or.inl j9.1) (fun s80 N80 R80 => ?_) (fun s80 N80 R80 => yes2 (got 80 (by decide) s80) N80 R80)
      refine hr2 hK 81 (by decide) (Or.inl R80) (fun s81 N81 R81 => ?_) (fun s81 N81 R81 => yes2 (got 81 (by decide) s81) N81 R81)
      refine hr2 hK 82 (by decide) (Or.inl R81) (fun s82 N82 R82 => ?_) (fun s82 N82 R82 => yes2 (got 82 (by decide) s82) N82 R82)
      refine hr2 hK 83 (by decide) (Or.inl R82) (fun s83 N83 R83 => ?_) (fun s83 N83 R83 => yes2 (got 83 (by decide) s83) N83 R83)
      refine here_r R83.2.1 (w := wd 84) (i := ((84 : Nat) : Int)) (fun j hj => by rw [R83.1.1 ((84 : Nat) : Int) (by decide)]; exact rows hK 84 (by decide) j hj) (by decide) (fun N84 r84 k84 a84 => ?_)
      have R84 : rH b n p e M N84 := ⟨rfr_t R83.1 r84, k84, a84⟩
      by_cases s84 : iswd b n p e (wd 84) = true
      · rw [if_pos s84]
        exact ⟨Or.inr rfl, yes2 (got 84 (by decide) s84) N84 R84⟩
      · rw [if_neg s84]
        have hq := hQ N84 R84.1 R84.2.1 R84.2.2
        rw [if_pos (fn.mpr (fun i hi => ?_))] at hq
        · exact ⟨Or.inl rfl, hq⟩
        · have hl : fl 0 = [68, 69, 70, 71, 78, 81, 82, 83, 84, 72, 73, 74, 75, 76, 77, 79, 80] := rfl
          rw [hl] at hi
          simp only [List.mem_cons, List.mem_nil_iff, or_false] at hi
          obtain ⟨q68, q69, q70, q71, q72, q73⟩ := u.2.1
          obtain ⟨q74, q75, q76, q77, q78, q79⟩ := u.2.2
          rcases hi with rfl | rfl | rfl | rfl | rfl | rfl | rfl | rfl | rfl | rfl | rfl | rfl | rfl | rfl | rfl | rfl | rfl
          · exact q68
          · exact q69
          · exact q70
          · exact q71
          · exact q78
          · exact s81
          · exact s82
          · exact s83
          · exact Bool.eq_false_iff.mpr s84
          · exact q72
          · exact q73
          · exact q74
          · exact q75
          · exact q76
          · exact q77
          · exact q79
          · exact s80
    · exact absurd (u.1.symm.trans z9) (by decide)
  · rcases j9.2 with u | u
    · exact absurd u.1 z9
    · exact yes2 u.2 M10 j9.1
  · rcases j5.2 with u | u
    · refine hr2 hK 74 (by decide) (Or.inl j5.1) (fun s74 N74 R74 => ?_) (fun s74 N74 R74 => ⟨R74, Or.inr ⟨rfl, got 74 (by decide) s74⟩⟩)
      refine hr2 hK 75 (by decide) (Or.inl R74) (fun s75 N75 R75 => ?_) (fun s75 N75 R75 => ⟨R75, Or.inr ⟨rfl, got 75 (by decide) s75⟩⟩)
      refine hr2 hK 76 (by decide) (Or.inl R75) (fun s76 N76 R76 => ?_) (fun s76 N76 R76 => ⟨R76, Or.inr ⟨rfl, got 76 (by decide) s76⟩⟩)
      refine hr2 hK 77 (by decide) (Or.inl R76) (fun s77 N77 R77 => ?_) (fun s77 N77 R77 => ⟨R77, Or.inr ⟨rfl, got 77 (by decide) s77⟩⟩)
      refine hr2 hK 78 (by decide) (Or.inl R77) (fun s78 N78 R78 => ?_) (fun s78 N78 R78 => ⟨R78, Or.inr ⟨rfl, got 78 (by decide) s78⟩⟩)
      exact hr2 hK 79 (by decide) (Or.inl R78) (fun s79 N79 R79 => ⟨R79, Or.inl ⟨rfl, u.2, s74, s75, s76, s77, s78, s79⟩⟩) (fun s79 N79 R79 => ⟨R79, Or.inr ⟨rfl, got 79 (by decide) s79⟩⟩)
    · exact absurd (u.1.symm.trans z5) (by decide)
  · rcases j5.2 with u | u
    · exact absurd u.1 z5
    · exact ⟨j5.1, Or.inr ⟨rfl, u.2⟩⟩
  · have s68 : iswd b n p e (wd 68) = false := Bool.eq_false_iff.mpr (fun y => by rw [if_pos y] at z; exact absurd z (by decide))
    have R68 : rH b n p e M M2 := ⟨r, k, a⟩
    refine hr2 hK 69 (by decide) (Or.inl R68) (fun s69 N69 R69 => ?_) (fun s69 N69 R69 => ⟨R69, Or.inr ⟨rfl, got 69 (by decide) s69⟩⟩)
    refine hr2 hK 70 (by decide) (Or.inl R69) (fun s70 N70 R70 => ?_) (fun s70 N70 R70 => ⟨R70, Or.inr ⟨rfl, got 70 (by decide) s70⟩⟩)
    refine hr2 hK 71 (by decide) (Or.inl R70) (fun s71 N71 R71 => ?_) (fun s71 N71 R71 => ⟨R71, Or.inr ⟨rfl, got 71 (by decide) s71⟩⟩)
    refine hr2 hK 72 (by decide) (Or.inl R71) (fun s72 N72 R72 => ?_) (fun s72 N72 R72 => ⟨R72, Or.inr ⟨rfl, got 72 (by decide) s72⟩⟩)
    exact hr2 hK 73 (by decide) (Or.inl R72) (fun s73 N73 R73 => ⟨R73, Or.inl ⟨rfl, s68, s69, s70, s71, s72, s73⟩⟩) (fun s73 N73 R73 => ⟨R73, Or.inr ⟨rfl, got 73 (by decide) s73⟩⟩)
  · have s68 : iswd b n p e (wd 68) = true := Classical.byContradiction (fun y => z (by rw [if_neg y]))
    exact ⟨⟨r, k, a⟩, Or.inr ⟨rfl, got 68 (by decide) s68⟩⟩
end
