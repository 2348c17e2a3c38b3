theorem inv_set : ∀ E, Two_set E Inv := by
  intro E
  refine two_set (fun v1 v2 v3 M hI hkk _ _ hr3 => ?_)
  obtain ⟨h, H, hG, hI⟩ := hI
  have hI' := hI
  obtain ⟨hok, hc, hr, hT, hF, hK, hC, hS, hO, hA, hW⟩ := hI
  have hh := hG.2.2.2
  have hb := hok.2.1
  have hcl := hcells hok
  refine ⟨h, hG, ?_⟩
  unfold PX11_set fX11_set fmX11_set
  rw [has_eq hc]
  by_cases a : 0 ≤ v1 ∧ v1 < H 0 4
  · have o7 := hok.2.2.2.2.2.2.1 v1 a.1 a.2
    simp only [if_pos a, (by decide : ¬ (1 : Int) = 0), if_false]
    have PS : ∀ N : Mem, Rh H N → fX12_isPerson N v1 = 1 := fun N hN => by rw [isPerson_eq hok hN, if_pos a]
    rcases mayBe_eq hok hc v2 v3 with ⟨mb, cs⟩ | ⟨mb, cs⟩
    · simp only [mb, (by decide : ¬ (1 : Int) = 0), if_false]
      have hv2 : 0 ≤ v2 ∧ v2 ≤ 2 := by omega
      obtain ⟨n1, n2, n3, n4, n5, _, _⟩ := hA
      obtain ⟨s, n', hs, x27, x28, x28n⟩ := add_ev (M := M) v2 v1 (fX4_valueOf M h v1 v2) (by omega) (by omega)
      rw [valueOf_eq hok hc a.1 a.2] at x27 x28 x28n ⊢
      obtain ⟨fo, hfo⟩ : ∃ x : Int, x = if v2 = 0 then H 8 v1 else if v2 = 1 then H 9 v1 else H 7 v1 := ⟨_, rfl⟩
      rw [← hfo] at x27 x28 x28n ⊢
      have fA : ∀ q, q ≠ 27 → q ≠ 28 → q ≠ 29 → q ≠ 30 → fmX0_add M v2 v1 fo q = M q := fun q a b c d => frX0_add (by first | exact a | exact b | exact c | exact d) (by first | exact a | exact b | exact c | exact d) (by first | exact a | exact b | exact c | exact d) (by first | exact a | exact b | exact c | exact d)
      obtain ⟨A, hA0⟩ : ∃ m : Mem, m = fmX0_add M v2 v1 fo := ⟨_, rfl⟩
      rw [← hA0] at x27 x28 x28n fA ⊢
      obtain ⟨R, hR⟩ : ∃ x : Int, x = fX4_rowOf h v2 := ⟨_, rfl⟩
      have hRc : (v2 = 0 ∧ R = h + 4) ∨ (v2 = 1 ∧ R = h + 5) ∨ (v2 = 2 ∧ R = h + 3) := by
        have : v2 = 0 ∨ v2 = 1 ∨ v2 = 2 := by omega
        rcases this with z | z | z
        · exact Or.inl ⟨z, by rw [hR, z, rowOf0]⟩
        · exact Or.inr (Or.inl ⟨z, by rw [hR, z, rowOf1]⟩)
        · exact Or.inr (Or.inr ⟨z, by rw [hR, z, rowOf2]⟩)
      have hh2 : 32 ≤ h ∧ h ≤ 49 := by rcases hh with z | z <;> rw [z] <;> decide
      have eC : fmX4_change A h v1 v2 v3 = mset A R v1 v3 := by
        unfold fmX4_change
        rw [← hR, rd_put a.1 (by omega)]
      rw [eC, chd]
      obtain ⟨vv, hvv⟩ : ∃ x : Int, x = if v2 = 2 then (1 : Int) else 0 := ⟨_, rfl⟩
      rw [← hvv]
      have y16 : mset A R v1 v3 0 16 = M 0 16 := by rw [mset_o (by omega), fA 0 (by decide) (by decide) (by decide) (by decide)]
      rw [y16]
      obtain ⟨M1, hM1⟩ : ∃ m : Mem, m = mset (mset (mset A R v1 v3) 0 16 (if M 0 16 = 0 then (if vv = 0 then (0 : Int) else 1) else 1)) 0 17 1 := ⟨_, rfl⟩
      rw [← hM1]
      have q1 : ∀ q, q ≠ 0 → q ≠ 27 → q ≠ 28 → q ≠ 29 → q ≠ 30 → q ≠ R → M1 q = M q := fun q a b c d e f => by rw [hM1, mset_p a, mset_p a, mset_p f, fA q b c d e]
      have hr1 : Rh H M1 := Rh_fr (g := 66) ⟨fun q a b => q1 q (by omega) (by omega) (by omega) (by omega) (by omega) (by omega), by rw [q1 66 (by decide) (by decide) (by decide) (by decide) (by decide) (by omega)], by rw [q1 66 (by decide) (by decide) (by decide) (by decide) (by decide) (by omega)], fun q a b => q1 q (by omega) (by omega) (by omega) (by omega) (by omega) (by omega)⟩ hr
      have z66 : M1 66 = M 66 := q1 66 (by decide) (by decide) (by decide) (by decide) (by decide) (by omega)
      intro hG1
      obtain ⟨M7, ev, k1, k2, k3, k4, k5, k6, k7⟩ := keeps_ev hok hr1 (by rw [z66]; omega) (by rw [z66]; omega) (by rw [z66]; omega) (by rw [z66]; omega)
      have hr7 : Rh H M7 := Rh_fr (g := 32) ⟨fun q a b => k1 q (by omega) (by omega), k2 _ (by decide) (by decide), k2 _ (by decide) (by decide), fun q a b => k1 q (by omega) (by omega)⟩ hr1
      obtain ⟨at0, hat⟩ : ∃ x : Int, x = if v2 = 0 then (1 : Int) else (if v2 = 1 then (2 : Int) else 0) := ⟨_, rfl⟩
      have hatc : (v2 = 0 ∧ at0 = 1) ∨ (v2 = 1 ∧ at0 = 2) ∨ (v2 = 2 ∧ at0 = 0) := by
        have : v2 = 0 ∨ v2 = 1 ∨ v2 = 2 := by omega
        rcases this with z | z | z
        · exact Or.inl ⟨z, by rw [hat, z]; rfl⟩
        · exact Or.inr (Or.inl ⟨z, by rw [hat, z]; rfl⟩)
        · exact Or.inr (Or.inr ⟨z, by rw [hat, z]; rfl⟩)
      unfold PX12_set
      rw [PS M1 hr1, isIn_eq, if_pos hv2, ← hat]
      refine ⟨fun z => absurd z (by decide), fun _ => ⟨fun z => absurd z (by decide), fun _ => ⟨_, fun _ z => z, ?_⟩⟩⟩
      have rest : (fun u6 : Int => ((u6 = 0 → (fun b M2 => G h M2 → b = fo ∧ Inv M2) (-1) M1) ∧ (¬ (u6 = 0) → PX12_keeps M1 (fun _ M10 => (nX12_personOf v1 at0) ∧ (nX12_makes v1 at0) ∧ (∀ M18 : Mem, M18 = (fmX12_makes M10 v1 at0 (if v2 = 0 then (wr32 (v3 - 60)) else v3)) → (fun b M2 => G h M2 → b = fo ∧ Inv M2) (if v2 = 0 then (wr32 ((fX12_personOf M10 v1 at0) + 60)) else (fX12_personOf M10 v1 at0)) M18))))) 1 := by
        refine ⟨fun z => absurd z (by decide), fun _ => ev _ ⟨nPOf a.1 (by omega) (by omega) (by omega), nmk a.1 (by omega) (by omega) (by omega), ?_⟩⟩
        intro M11 hM11 hG2
        obtain ⟨nv, hnv⟩ : ∃ x : Int, x = if v2 = 0 then v3 - 60 else v3 := ⟨_, rfl⟩
        have env : (if v2 = 0 then wr32 (v3 - 60) else v3) = nv := by
          rw [hnv]
          rcases hatc with z | z | z
          · rw [if_pos z.1, if_pos z.1, wsu (by omega) (by omega)]
          · rw [if_neg (by omega), if_neg (by omega)]
          · rw [if_neg (by omega), if_neg (by omega)]
        rw [env, (mk_eq a.1 (by omega) (by omega) (by omega)).1] at hM11
        have r57 := hr7.2.2.2.2.1 v1 a.1 a.2
        refine ⟨?_, ?_⟩
        · rw [(pOf a.1 (by omega) (by omega) (by omega)).1, hfo]
          rcases hatc with ⟨z1, z2⟩ | ⟨z1, z2⟩ | ⟨z1, z2⟩
          · rw [if_pos z1, if_pos z1, z2, r57.2.1, wad (by omega) (by omega)]
            omega
          · rw [if_neg (by omega), if_neg (by omega), if_pos z1, z2]
            exact r57.2.2.1
          · rw [if_neg (by omega), if_neg (by omega), if_neg (by omega), z2, Int.add_zero]
            exact r57.1
        obtain ⟨cc, hcc⟩ : ∃ f : Int → Int, f = fun p => if v2 = 2 ∧ p = v1 then v3 else H 7 p := ⟨_, rfl⟩
        obtain ⟨cw, hcw⟩ : ∃ f : Int → Int, f = fun p => if v2 = 0 ∧ p = v1 then v3 else H 8 p := ⟨_, rfl⟩
        obtain ⟨cd, hcd⟩ : ∃ f : Int → Int, f = fun p => if v2 = 1 ∧ p = v1 then v3 else H 9 p := ⟨_, rfl⟩
        have p1 : ∀ q, q ≠ 0 → q ≠ 27 → q ≠ 28 → q ≠ 29 → q ≠ 30 → q ≠ R → q ≠ 66 → q ≠ 88 → q ≠ 100 → M11 q = M q := fun q a1 a2 a3 a4 a5 a6 a7 a8 a9 => by rw [hM11, mset_p a8, k1 q a7 a9, q1 q a1 a2 a3 a4 a5 a6]
        have p66 : ∀ j, j ≠ 54 → j ≠ 55 → M11 66 j = M 66 j := fun j a b => by rw [hM11, mset_o (by decide), k2 j a b, z66]
        have p0 : ∀ j, M11 0 j = M1 0 j := fun j => by rw [hM11, mset_o (by decide), k1 0 (by decide) (by decide)]
        have p0' : ∀ j, j ≠ 16 → j ≠ 17 → M11 0 j = M 0 j := fun j a b => by rw [p0, hM1, mset_k b, mset_k a, mset_o (by omega), fA 0 (by decide) (by decide) (by decide) (by decide)]
        have gR : ∀ q, h + 3 ≤ q → q ≤ h + 5 → ∀ k, M11 q k = if q = R ∧ k = v1 then v3 else M q k := fun q qa qb k => by
          rw [hM11, mset_o (by omega), k1 _ (by omega) (by omega), hM1, mset_o (by omega), mset_o (by omega), ms, fA _ (by omega) (by omega) (by omega) (by omega)]
        have pA : ∀ q, q = 27 ∨ q = 28 ∨ q = 29 ∨ q = 30 → M11 q = A q := fun q z => by rw [hM11, mset_p (by omega), k1 q (by omega) (by omega), hM1, mset_p (by omega), mset_p (by omega), mset_p (by omega)]
        have hnn : n' = if M 66 54 < 20 then M 66 54 + 1 else 20 := by
          rw [n1] at hs
          rcases hs with ⟨u, _, u3⟩ | ⟨u, _, u3⟩
          · rw [if_pos u, u3]
          · rw [if_neg (by omega), u3]
        have m88 : ∀ p k, 0 ≤ p → p < H 0 4 → 0 ≤ k → k < 18 → M11 88 (162 + 18 * p + k) = if p = v1 ∧ k = at0 then nv else M 88 (162 + 18 * p + k) := fun p k pa pb ka kb => by
          rw [hM11]
          by_cases y : p = v1 ∧ k = at0
          · rw [if_pos y, y.1, y.2, mset_e]
          · rw [if_neg y, mset_k (by omega), k1 88 (by decide) (by decide), q1 88 (by decide) (by decide) (by decide) (by decide) (by decide) (by omega)]
        refine Inv_acts (H' := hst H cc cw cd (H 3)) hh hG2 hI' ?_ ?_ ?_ rfl ?_ ?_ ?_ p0' p66
        · refine Hok_hst hok (fun p pa pb => ?_) (fun k ka kb => (hok.2.2.2.1 k ka kb).2)
          have o := hok.2.2.2.2.2.2.1 p pa pb
          rw [hcc, hcw, hcd]
          refine ⟨?_, ?_⟩
          · by_cases y : v2 = 2 ∧ p = v1
            · simp only [if_pos y]
              rcases cs with z | z | z
              · omega
              · omega
              · exact z.2
            · simp only [if_neg y]
              exact o.1
          · by_cases y0 : v2 = 0 ∧ p = v1
            · simp only [if_pos y0]
              rw [if_neg (by omega)]
              omega
            · simp only [if_neg y0]
              by_cases y1 : v2 = 1 ∧ p = v1
              · simp only [if_pos y1]
                omega
              · simp only [if_neg y1]
                omega
        · refine Ch_hst hc (fun q a1 a2 a3 a4 a5 a6 => p1 q (by omega) (by omega) (by omega) (by omega) (by omega) (by omega) (by omega) (by omega) (by omega)) (fun p pa pb => ?_) (fun k ka kb => ?_)
          · have c5 := hc.2.2.2.2.1 p pa pb
            rw [gR _ (by omega) (by omega), gR _ (by omega) (by omega), gR _ (by omega) (by omega), hcc, hcw, hcd, c5.1, c5.2.1, c5.2.2.1]
            refine ⟨?_, ?_, ?_⟩
            · by_cases y : v2 = 2 ∧ p = v1
              · rw [if_pos (by omega)]
                simp only [if_pos y]
              · rw [if_neg (by omega)]
                simp only [if_neg y]
            · by_cases y : v2 = 0 ∧ p = v1
              · rw [if_pos (by omega)]
                simp only [if_pos y]
              · rw [if_neg (by omega)]
                simp only [if_neg y]
            · by_cases y : v2 = 1 ∧ p = v1
              · rw [if_pos (by omega)]
                simp only [if_pos y]
              · rw [if_neg (by omega)]
                simp only [if_neg y]
          · rw [p1 _ (by omega) (by omega) (by omega) (by omega) (by omega) (by omega) (by omega) (by omega) (by omega)]
            exact (hc.2.2.1 k ka kb).2
        · refine Rh_hst hok hr (p66 _ (by decide) (by decide)) (p66 _ (by decide) (by decide)) (fun q a b c => p1 q (by omega) (by omega) (by omega) (by omega) (by omega) (by omega) (by omega) (by omega) (by omega)) (fun p k pa pb ka kb => ?_) (fun p pa pb => ?_) (fun k k0 k9 => ?_)
          · rw [m88 p k pa pb (by omega) kb, if_neg (by omega)]
          · have r5 := hr.2.2.2.2.1 p pa pb
            have m0 := m88 p 0 pa pb (by omega) (by omega)
            rw [Int.add_zero] at m0
            rw [m0, m88 p 1 pa pb (by omega) (by omega), m88 p 2 pa pb (by omega) (by omega), hcc, hcw, hcd, r5.1, r5.2.1, r5.2.2.1]
            refine ⟨?_, ?_, ?_⟩
            · by_cases y : v2 = 2 ∧ p = v1
              · rw [if_pos (by omega), hnv, if_neg (by omega)]
                simp only [if_pos y]
              · rw [if_neg (by omega)]
                simp only [if_neg y]
            · by_cases y : v2 = 0 ∧ p = v1
              · rw [if_pos (by omega), hnv, if_pos y.1]
                simp only [if_pos y]
              · rw [if_neg (by omega)]
                simp only [if_neg y]
            · by_cases y : v2 = 1 ∧ p = v1
              · rw [if_pos (by omega), hnv, if_neg (by omega)]
                simp only [if_pos y]
              · rw [if_neg (by omega)]
                simp only [if_neg y]
          · rw [p1 92 (by decide) (by decide) (by decide) (by decide) (by decide) (by omega) (by decide) (by decide) (by decide)]
            exact (hr.2.2.1 k k0 k9).2
        · have e54 : M11 66 54 = n' := by rw [hM11, mset_o (by decide), k4, z66, hnn]
          have e55 : M11 66 55 = (M 66 55 + 1) % 20 := by rw [hM11, mset_o (by decide), k3, z66]
          have e100 : M11 100 = M7 100 := by rw [hM11, mset_p (by decide)]
          rw [z66] at k5 k6 k7
          have eM1 : M1 100 = M 100 := q1 100 (by decide) (by decide) (by decide) (by decide) (by decide) (by omega)
          refine iA_push hok ⟨n1, n2, n3, n4, n5, by assumption, by assumption⟩ v2 v1 fo s n' (by rw [n1] at hs; exact hs) (by rw [pA 27 (by omega), x27]) e54 e55 (fun j a b => by rw [pA 28 (by omega), pA 29 (by omega), pA 30 (by omega)]; exact x28 j a b) (by rw [pA 28 (by omega), pA 29 (by omega), pA 30 (by omega)]; exact x28n) (fun x i a b c d e => by rw [e100, k5 x i a b c d e, eM1]) ⟨fun p a b => by rw [e100]; exact k6 p a b, fun k a b => by rw [e100]; exact k7 k a b⟩ ⟨by omega, by omega, fun z => by omega, fun _ => a⟩ (fun p pa pb => ?_) (fun k _ _ => by rw [if_neg (by omega)])
          rw [hcc, hcw, hcd, hfo]
          refine ⟨?_, ?_, ?_⟩
          · by_cases y : v2 = 2 ∧ v1 = p
            · rw [if_pos y, if_neg (by omega), if_neg (by omega), y.2]
            · rw [if_neg y]
              simp only [if_neg (show ¬ (v2 = 2 ∧ p = v1) by omega)]
          · by_cases y : v2 = 0 ∧ v1 = p
            · rw [if_pos y, if_pos y.1, y.2]
            · rw [if_neg y]
              simp only [if_neg (show ¬ (v2 = 0 ∧ p = v1) by omega)]
          · by_cases y : v2 = 1 ∧ v1 = p
            · rw [if_pos y, if_neg (by omega), if_pos y.1, y.2]
            · rw [if_neg y]
              simp only [if_neg (show ¬ (v2 = 1 ∧ p = v1) by omega)]
        · refine chd_w (v := vv) hW ?_ ?_ (p1 _ (by omega) (by omega) (by omega) (by omega) (by omega) (by omega) (by omega) (by omega) (by omega)) (p1 _ (by omega) (by omega) (by omega) (by omega) (by omega) (by omega) (by omega) (by omega) (by omega)) (p1 _ (by omega) (by omega) (by omega) (by omega) (by omega) (by omega) (by omega) (by omega) (by omega)) (fun z p _ _ => ?_)
          · rw [p0, hM1, mset_k (by decide), mset_e]
          · rw [p0, hM1, mset_e]
          · rw [hcc]
            have : ¬ v2 = 2 := by
              intro y
              rw [hvv, if_pos y] at z
              cases z
            simp only [if_neg (show ¬ (v2 = 2 ∧ p = v1) from fun y => this y.1)]
        · intro q b1 b2 b3 b4 b5 b6 b7 b8 b9 b10
          exact p1 q b2 b3 b4 b5 b6 (by omega) b7 b8 b10
      rw [isIn_eq, isIn_eq, Rh_isCell hok hr1]
      rcases cs with z | z | z
      · refine ⟨fun _ => ?_, fun y => absurd z.1 y⟩
        rw [if_pos (by omega)]
        exact rest
      · refine ⟨fun y => by omega, fun _ => ⟨fun _ => ?_, fun y => absurd z.1 y⟩⟩
        rw [if_pos (by omega)]
        exact rest
      · obtain ⟨z1, z2, z3, z4⟩ := z
        have wn := wallNow hr1 (c := v3) z2 (by omega)
        refine ⟨fun y => by omega, fun _ => ⟨fun y => by omega, fun _ => ⟨fun y => absurd y (by rw [if_pos ⟨z2, z3⟩]; decide), fun _ => ⟨wn.2, fun _ => rest, fun y => absurd (wn.1.trans z4) y⟩⟩⟩⟩
    · simp only [mb, if_true]
      intro _
      unfold PX12_set
      rw [PS M hr, isIn_eq]
      refine ⟨fun z => absurd z (by decide), fun _ => ⟨fun _ hG2 => ⟨rfl, h, H, hG2, hI'⟩, fun z => ?_⟩⟩
      rw [ite01] at z
      refine ⟨fun u => u = 0, ?_, ?_⟩
      · intro u hu
        exact ⟨fun _ hG2 => ⟨rfl, h, H, hG2, hI'⟩, fun y => absurd hu y⟩
      · rw [isIn_eq, isIn_eq, Rh_isCell hok hr]
        refine ⟨fun y => ?_, fun y0 => ⟨fun y => ?_, fun y1 => ⟨fun _ => rfl, fun y => ?_⟩⟩⟩
        · rw [if_neg (fun x => cs (Or.inl ⟨y, x⟩))]
        · rw [if_neg (fun x => cs (Or.inr (Or.inl ⟨y, x⟩)))]
        · rw [ite01] at y
          have y' : 0 ≤ v3 ∧ v3 < H 0 0 * H 0 1 := by omega
          have wn := wallNow hr (c := v3) y'.1 (by omega)
          refine ⟨wn.2, fun x => ?_, fun _ => rfl⟩
          exact absurd (Or.inr (Or.inr ⟨by omega, y'.1, y'.2, wn.1.symm.trans x⟩)) cs
  · simp only [if_neg a, if_true]
    intro _
    unfold PX12_set
    rw [isPerson_eq hok hr, if_neg a]
    exact ⟨fun _ hG2 => ⟨rfl, h, H, hG2, hI'⟩, fun z => absurd rfl z⟩
