/-! put and clear over any shape of the world -/
theorem put_S {E : EV} {S : List Sh} {M : Mem} {p0 v1 v2 : Int} {n : Nat} (h0 : 0 ≤ p0) (hS : S[p0.toNat]? = some (0, 0, n)) (hn : n < 2147483648) (hv0 : 0 ≤ v1) (hv1 : v1 < (n : Nat)) : Ct E miX11_put 1 0 0 [(2, p0), (0, v1), (0, v2)] S M (fun r S' M' => S' = S ∧ r = none ∧ M' = mset M p0 v1 v2) := by
  refine Ct_of (L := [(2, p0), (0, v1), (0, v2)]) (by decide +kernel) (Nat.le_of_ble_eq_true rfl) rfl ?_
  refine T_iload_n (i := 1) (pc' := 1) dX11_put_0 rfl rfl rfl ?_
  refine T_if_lt (pc' := 14) dX11_put_1 (by decide) (pf := 4) rfl (fun c => absurd c (by omega)) (fun _ => ?_)
  refine T_iload_n (i := 1) (pc' := 5) dX11_put_4 rfl rfl rfl ?_
  refine T_aload_n (i := 0) (pc' := 6) dX11_put_5 rfl rfl rfl ?_
  refine T_alen (pc' := 7) dX11_put_6 (by decide) hn hS rfl ?_
  refine T_icmp_ge (pc' := 14) dX11_put_7 (by decide) (pf := 10) rfl (fun c => absurd c (by omega)) (fun _ => ?_)
  refine T_aload_n (i := 0) (pc' := 11) dX11_put_10 rfl rfl rfl ?_
  refine T_iload_n (i := 1) (pc' := 12) dX11_put_11 rfl rfl rfl ?_
  refine T_iload_n (i := 2) (pc' := 13) dX11_put_12 rfl rfl rfl ?_
  refine T_iast (pc' := 14) dX11_put_13 h0 hS hv0 hv1 rfl ?_
  exact T_vret dX11_put_14 rfl ⟨rfl, rfl, rfl⟩
def zfill (M : Mem) (w n : Int) : Mem := fun q => if q = w then (fun j => if 0 ≤ j ∧ j < n then 0 else M w j) else M q
theorem zfill_0 (M : Mem) (w : Int) : zfill M w 0 = M := by
  funext q j
  unfold zfill
  by_cases h : q = w
  · subst h
    rw [if_pos rfl, if_neg (by omega)]
  · rw [if_neg h]
theorem zfill_s (M : Mem) (w n : Int) (hn : 0 ≤ n) : mset (zfill M w n) w n 0 = zfill M w (n + 1) := by
  funext q j
  unfold zfill mset
  by_cases h : q = w
  · subst h
    simp only [if_true]
    by_cases h2 : j = n
    · subst h2
      rw [if_pos rfl, if_pos (by omega)]
    · rw [if_neg h2]
      by_cases h3 : 0 ≤ j ∧ j < n
      · rw [if_pos h3, if_pos (by omega)]
      · rw [if_neg h3, if_neg (by omega)]
  · simp only [if_neg h]
theorem sh_app {S T : List Sh} {i : Nat} {a : Sh} (h : S[i]? = some a) : (S ++ T)[i]? = some a := by
  rw [List.getElem?_append_left (List.getElem?_eq_some_iff.mp h).1]; exact h
/-- what clear leaves: hall g, people p, wall w -/
def clr (M : Mem) (g p w : Int) : Mem := mset (mset (mset (mset (mset (mset (mset (mset (mset (zfill (mset (mset M p 8 0) p 7 0) w 54) g 9 0) g 10 0) g 11 0) g 12 0) g 13 0) g 14 60) g 15 20) g 16 1) g 17 3
theorem mset_o {M : Mem} {p k x q j : Int} (h : q ≠ p) : mset M p k x q j = M q j := by unfold mset; rw [if_neg h]
theorem mset_k {M : Mem} {p k x q j : Int} (h : j ≠ k) : mset M p k x q j = M q j := by
  unfold mset
  by_cases hq : q = p
  · subst hq; rw [if_pos rfl]; simp [h]
  · rw [if_neg hq]
theorem mset_e {M : Mem} {p k x : Int} : mset M p k x p k = x := by unfold mset; simp
theorem zfill_o {M : Mem} {w n q j : Int} (h : q ≠ w) : zfill M w n q j = M q j := by unfold zfill; rw [if_neg h]
set_option maxHeartbeats 1000000 in
theorem clear_S {E : EV} {S : List Sh} {M : Mem} {g p w : Int} (hg : 0 ≤ g) (hp : 0 ≤ p) (hw : 0 ≤ w) (hSg : S[g.toNat]? = some (1, 1, 18)) (hSp : S[p.toNat]? = some (1, 4, 9)) (hSw : S[w.toNat]? = some (0, 0, 54)) (hMp : M g 0 = p) (hMw : M g 1 = w) : Ct E miX1_clear 2 0 0 [(2, g)] S M (fun r S' M' => S' = S ∧ r = none ∧ M' = clr M g p w) := by
  have hgp : g ≠ p := by
    rintro rfl
    rw [hSg] at hSp
    cases hSp
  have hgw : g ≠ w := by
    rintro rfl
    rw [hSg] at hSw
    cases hSw
  refine Ct_of (L := [(2, g), (3, 0)]) (by decide +kernel) (Nat.le_of_ble_eq_true rfl) rfl ?_
  refine T_aload_n (i := 0) (pc' := 1) dX1_clear_0 rfl rfl rfl ?_
  refine U_gr (q := p) (k := 0) (kI := 0) (pc' := 4) dX1_clear_1 rfl cl1 hg hSg (by decide) flX1_12 rfl rfl rfl hMp hp rfl ?_
  refine T_iconst (pc' := 5) dX1_clear_4 (by decide) rfl ?_
  refine U_pfN (y := 0) (k := 8) (kI := 8) (pc' := 8) dX1_clear_5 rfl cl4 hp hSp (by decide) flX1_47 rfl rfl rfl rfl rfl (by decide) (fun z => z) rfl ?_
  refine T_aload_n (i := 0) (pc' := 9) dX1_clear_8 rfl rfl rfl ?_
  refine U_gr (q := p) (k := 0) (kI := 0) (pc' := 12) dX1_clear_9 rfl cl1 hg hSg (by decide) flX1_12 rfl rfl rfl (by rw [mset_o hgp]; exact hMp) hp rfl ?_
  refine T_iconst (pc' := 13) dX1_clear_12 (by decide) rfl ?_
  refine U_pfN (y := 0) (k := 7) (kI := 7) (pc' := 16) dX1_clear_13 rfl cl4 hp hSp (by decide) flX1_51 rfl rfl rfl rfl rfl (by decide) (fun z => z) rfl ?_
  refine T_iconst (pc' := 17) dX1_clear_16 (by decide) rfl ?_
  refine T_istore_n (i := 1) (L' := [(2, g), (0, 0)]) (pc' := 18) dX1_clear_17 rfl (by decide) rfl rfl ?_
  have main : ∀ (k : Nat) (i : Int), 0 ≤ i → i + k = 54 → T E miX1_clear 2 S.length 0 0 (fun r S' M' => S' = S ∧ r = none ∧ M' = clr M g p w) 18 [(2, g), (0, i)] [] S (zfill (mset (mset M p 8 0) p 7 0) w i) 0 0 := by
    intro k
    induction k with
    | zero =>
      intro i h0 h1
      have : i = 54 := by omega
      subst this
      refine T_iload_n (i := 1) (pc' := 19) dX1_clear_18 rfl rfl rfl ?_
      refine T_bipush (pc' := 21) dX1_clear_19 rfl (by decide) rfl ?_
      refine T_icmp_ge (pc' := 39) dX1_clear_21 (by decide) (pf := 24) rfl (fun _ => ?_) (fun c => absurd c (by omega))
      refine T_aload_n (i := 0) (pc' := 40) dX1_clear_39 rfl rfl rfl ?_
      refine T_iconst (pc' := 41) dX1_clear_40 (by decide) rfl ?_
      refine U_pf (y := 0) (k := 9) (kI := 9) (pc' := 44) dX1_clear_41 rfl cl1 hg hSg (by decide) flX1_58 rfl rfl rfl rfl rfl (by decide) (fun z => z) rfl ?_
      refine T_aload_n (i := 0) (pc' := 45) dX1_clear_44 rfl rfl rfl ?_
      refine T_iconst (pc' := 46) dX1_clear_45 (by decide) rfl ?_
      refine U_pf (y := 0) (k := 10) (kI := 10) (pc' := 49) dX1_clear_46 rfl cl1 hg hSg (by decide) flX1_61 rfl rfl rfl rfl rfl (by decide) (fun z => z) rfl ?_
      refine T_aload_n (i := 0) (pc' := 50) dX1_clear_49 rfl rfl rfl ?_
      refine T_iconst (pc' := 51) dX1_clear_50 (by decide) rfl ?_
      refine U_pf (y := 0) (k := 11) (kI := 11) (pc' := 54) dX1_clear_51 rfl cl1 hg hSg (by decide) flX1_64 rfl rfl rfl rfl rfl (by decide) (fun z => z) rfl ?_
      refine T_aload_n (i := 0) (pc' := 55) dX1_clear_54 rfl rfl rfl ?_
      refine T_iconst (pc' := 56) dX1_clear_55 (by decide) rfl ?_
      refine U_pf (y := 0) (k := 12) (kI := 12) (pc' := 59) dX1_clear_56 rfl cl1 hg hSg (by decide) flX1_67 rfl rfl rfl rfl rfl (by decide) (fun z => z) rfl ?_
      refine T_aload_n (i := 0) (pc' := 60) dX1_clear_59 rfl rfl rfl ?_
      refine T_iconst (pc' := 61) dX1_clear_60 (by decide) rfl ?_
      refine U_pf (y := 0) (k := 13) (kI := 13) (pc' := 64) dX1_clear_61 rfl cl1 hg hSg (by decide) flX1_70 rfl rfl rfl rfl rfl (by decide) (fun z => z) rfl ?_
      refine T_aload_n (i := 0) (pc' := 65) dX1_clear_64 rfl rfl rfl ?_
      refine T_bipush (pc' := 67) dX1_clear_65 rfl (by decide) rfl ?_
      refine U_pf (y := 60) (k := 14) (kI := 14) (pc' := 70) dX1_clear_67 rfl cl1 hg hSg (by decide) flX1_73 rfl rfl rfl rfl rfl (by decide) (fun z => z) rfl ?_
      refine T_aload_n (i := 0) (pc' := 71) dX1_clear_70 rfl rfl rfl ?_
      refine T_bipush (pc' := 73) dX1_clear_71 rfl (by decide) rfl ?_
      refine U_pf (y := 20) (k := 15) (kI := 15) (pc' := 76) dX1_clear_73 rfl cl1 hg hSg (by decide) flX1_76 rfl rfl rfl rfl rfl (by decide) (fun z => z) rfl ?_
      refine T_aload_n (i := 0) (pc' := 77) dX1_clear_76 rfl rfl rfl ?_
      refine T_iconst (pc' := 78) dX1_clear_77 (by decide) rfl ?_
      refine U_pf (y := 1) (k := 16) (kI := 16) (pc' := 81) dX1_clear_78 rfl cl1 hg hSg (by decide) flX1_79 rfl rfl rfl rfl rfl (by decide) (fun z => z) rfl ?_
      refine T_aload_n (i := 0) (pc' := 82) dX1_clear_81 rfl rfl rfl ?_
      refine T_iconst (pc' := 83) dX1_clear_82 (by decide) rfl ?_
      refine U_pf (y := 3) (k := 17) (kI := 17) (pc' := 86) dX1_clear_83 rfl cl1 hg hSg (by decide) flX1_82 rfl rfl rfl rfl rfl (by decide) (fun z => z) rfl ?_
      exact T_vret dX1_clear_86 rfl ⟨rfl, rfl, rfl⟩
    | succ k ih =>
      intro i h0 h1
      refine T_iload_n (i := 1) (pc' := 19) dX1_clear_18 rfl rfl rfl ?_
      refine T_bipush (pc' := 21) dX1_clear_19 rfl (by decide) rfl ?_
      refine T_icmp_ge (pc' := 39) dX1_clear_21 (by decide) (pf := 24) rfl (fun c => absurd c (by omega)) (fun _ => ?_)
      refine T_aload_n (i := 0) (pc' := 25) dX1_clear_24 rfl rfl rfl ?_
      refine U_gr (q := w) (k := 1) (kI := 1) (pc' := 28) dX1_clear_25 rfl cl1 hg hSg (by decide) flX1_18 rfl rfl rfl (by rw [zfill_o hgw, mset_o hgp, mset_o hgp]; exact hMw) hw rfl ?_
      refine T_iload_n (i := 1) (pc' := 29) dX1_clear_28 rfl rfl rfl ?_
      refine T_iconst (pc' := 30) dX1_clear_29 (by decide) rfl ?_
      refine T_callSN (av := [(2, w), (0, i), (0, 0)]) (st := []) (d2 := 1) (nc2 := 0) (ns2 := 0) (pc' := 33) dX1_clear_30 rfl mtX11_put mvX11_put mlX1_54 rfl rfl (Nat.le_of_ble_eq_true rfl) (by decide) ⟨by decide, by decide⟩ rfl (put_S hw hSw (by decide) h0 (by omega)) ?_
      rintro _ _ _ ⟨rfl, rfl, rfl⟩ _
      refine T_iinc (L' := [(2, g), (0, i + 1)]) dX1_clear_33 rfl (by decide) (by rw [wr32_id (by unfold r32; omega)]; rfl) (pc' := 36) rfl ?_
      refine T_goto (pc' := 18) dX1_clear_36 (by decide) ?_
      rw [zfill_s _ _ _ h0]
      exact ih (i + 1) (by omega) (by omega)
  have := main 54 0 (by omega) (by omega)
  rw [zfill_0] at this
  exact this
